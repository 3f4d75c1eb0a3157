theorem dX7_redo_0 : decode cX7_redo 0 = .ok (.aload_n 0, 1) := by decide +kernel
theorem dX7_redo_1 : decode cX7_redo 1 = .ok (.getfield 25, 3) := by decide +kernel
theorem dX7_redo_4 : decode cX7_redo 4 = .ok (.invokevirtual 241, 3) := by decide +kernel
theorem dX7_redo_7 : decode cX7_redo 7 = .ok (.ifCond .eq 14, 3) := by decide +kernel
theorem dX7_redo_10 : decode cX7_redo 10 = .ok (.aload_n 0, 1) := by decide +kernel
theorem dX7_redo_11 : decode cX7_redo 11 = .ok (.getfield 25, 3) := by decide +kernel
theorem dX7_redo_14 : decode cX7_redo 14 = .ok (.invokevirtual 244, 3) := by decide +kernel
theorem dX7_redo_17 : decode cX7_redo 17 = .ok (.i2l, 1) := by decide +kernel
theorem dX7_redo_18 : decode cX7_redo 18 = .ok (.goto 6, 3) := by decide +kernel
theorem dX7_redo_21 : decode cX7_redo 21 = .ok (.ldc2_w 118, 3) := by decide +kernel
theorem dX7_redo_24 : decode cX7_redo 24 = .ok (.lreturn, 1) := by decide +kernel
set_option maxHeartbeats 4000000 in
set_option maxRecDepth 100000 in
theorem tX7_redo (l : Launch) (G : Gg) (b0 : Nat) {K : Kk} {R : Rr} {M : Mm} {r : Nat} {res : Int64} {M' : Mm} (hm : mX7_redo K R M r = some (res, M')) : CT l G b0 yX7_redo cX7_redo 1 (some .long) (rmz 2 20) [.ref r] K R M (some (.long res)) K R M' := by
  refine ct_of (by decide +kernel) (Nat.le_of_ble_eq_true rfl) (fun w hq => ?_)
  have hw := hq.b
  change w 0 0 0 [(0, .ref r)] [] K R M
  replace hm := h_start hm
  unfold mX7_redo at hm
  obtain ⟨h1, m8⟩ := h_ck hm
  clear hm
  refine r_aload_n hw dX7_redo_0 0 rfl ?_
  obtain ⟨q2, bq2, m9⟩ := h_bd m8
  clear m8
  refine r_getR hw fO_X7_25 h1 bq2 dX7_redo_1 ?_
  obtain ⟨h5, m10⟩ := h_ck m9
  clear m9
  obtain ⟨i3, M4, g4, m11⟩ := h_bd2 m10
  clear m10
  refine r_callV1 hw (tX1_stepOn l G b0 g4) lB_X1_stepOn lI_X1_stepOn mL_X7_241 (c := 1) rfl h5 rfl (Nat.le_of_ble_eq_true rfl) (Nat.le_of_ble_eq_true rfl) rfl (Nat.le_of_ble_eq_true rfl) dX7_redo_4 ?_
  refine r_if_eq (tgt := 21) hw dX7_redo_7 (by decide) (fun c6 => ?_) (fun c6 => ?_)
  · have m12 := h_if_t c6 m11
    clear m11
    refine r_ldc2 (v := (-9000000000000000002)) hw dX7_redo_21 kW_X7_118 ?_
    cases h_ret m12
    exact r_lreturn hq rfl rfl dX7_redo_24
  · have m13 := h_if_f c6 m11
    clear m11
    refine r_aload_n hw dX7_redo_10 0 rfl ?_
    refine r_getR hw fO_X7_25 h1 bq2 dX7_redo_11 ?_
    obtain ⟨i7, g7, m14⟩ := h_bd m13
    clear m13
    refine r_callV1 hw (tX1_undone l G b0 g7) lB_X1_undone lI_X1_undone mL_X7_244 (c := 1) rfl h5 rfl (Nat.le_of_ble_eq_true rfl) (Nat.le_of_ble_eq_true rfl) rfl (Nat.le_of_ble_eq_true rfl) dX7_redo_14 ?_
    refine r_i2l hw dX7_redo_17 ?_
    refine r_goto (tgt := 24) hw dX7_redo_18 (by decide) ?_
    cases h_ret m14
    exact r_lreturn hq rfl rfl dX7_redo_24
theorem dX7_isOf_0 : decode cX7_isOf 0 = .ok (.aload_n 0, 1) := by decide +kernel
theorem dX7_isOf_1 : decode cX7_isOf 1 = .ok (.iload_n 1, 1) := by decide +kernel
theorem dX7_isOf_2 : decode cX7_isOf 2 = .ok (.invokevirtual 186, 3) := by decide +kernel
theorem dX7_isOf_5 : decode cX7_isOf 5 = .ok (.ifCond .eq 12, 3) := by decide +kernel
theorem dX7_isOf_8 : decode cX7_isOf 8 = .ok (.iload_n 2, 1) := by decide +kernel
theorem dX7_isOf_9 : decode cX7_isOf 9 = .ok (.ifCond .lt 8, 3) := by decide +kernel
theorem dX7_isOf_12 : decode cX7_isOf 12 = .ok (.iload_n 2, 1) := by decide +kernel
theorem dX7_isOf_13 : decode cX7_isOf 13 = .ok (.iconst 5, 1) := by decide +kernel
theorem dX7_isOf_14 : decode cX7_isOf 14 = .ok (.if_icmp .lt 7, 3) := by decide +kernel
theorem dX7_isOf_17 : decode cX7_isOf 17 = .ok (.ldc2_w 87, 3) := by decide +kernel
theorem dX7_isOf_20 : decode cX7_isOf 20 = .ok (.lreturn, 1) := by decide +kernel
theorem dX7_isOf_21 : decode cX7_isOf 21 = .ok (.aload_n 0, 1) := by decide +kernel
theorem dX7_isOf_22 : decode cX7_isOf 22 = .ok (.getfield 25, 3) := by decide +kernel
theorem dX7_isOf_25 : decode cX7_isOf 25 = .ok (.invokevirtual 145, 3) := by decide +kernel
theorem dX7_isOf_28 : decode cX7_isOf 28 = .ok (.getfield 149, 3) := by decide +kernel
theorem dX7_isOf_31 : decode cX7_isOf 31 = .ok (.iload_n 1, 1) := by decide +kernel
theorem dX7_isOf_32 : decode cX7_isOf 32 = .ok (.aaload, 1) := by decide +kernel
theorem dX7_isOf_33 : decode cX7_isOf 33 = .ok (.iload_n 2, 1) := by decide +kernel
theorem dX7_isOf_34 : decode cX7_isOf 34 = .ok (.invokevirtual 247, 3) := by decide +kernel
theorem dX7_isOf_37 : decode cX7_isOf 37 = .ok (.ifCond .eq 7, 3) := by decide +kernel
theorem dX7_isOf_40 : decode cX7_isOf 40 = .ok (.lconst 1, 1) := by decide +kernel
theorem dX7_isOf_41 : decode cX7_isOf 41 = .ok (.goto 4, 3) := by decide +kernel
theorem dX7_isOf_44 : decode cX7_isOf 44 = .ok (.lconst 0, 1) := by decide +kernel
theorem dX7_isOf_45 : decode cX7_isOf 45 = .ok (.lreturn, 1) := by decide +kernel
set_option maxHeartbeats 4000000 in
set_option maxRecDepth 100000 in
theorem tX7_isOf (l : Launch) (G : Gg) (b0 : Nat) {K : Kk} {R : Rr} {M : Mm} {r : Nat} {a0 : Int32} {a1 : Int32} {res : Int64} (hm : mX7_isOf K R M r a0 a1 = some (res)) : CT l G b0 yX7_isOf cX7_isOf 3 (some .long) (rmz 4 64) [.ref r, .int a0, .int a1] K R M (some (.long res)) K R M := by
  refine ct_of (by decide +kernel) (Nat.le_of_ble_eq_true rfl) (fun w hq => ?_)
  have hw := hq.b
  change w 0 0 0 [(0, .ref r), (1, .int a0), (2, .int a1)] [] K R M
  replace hm := h_start hm
  unfold mX7_isOf at hm
  obtain ⟨h1, m16⟩ := h_ck hm
  clear hm
  refine r_aload_n hw dX7_isOf_0 0 rfl ?_
  refine r_iload_n hw dX7_isOf_1 1 rfl ?_
  obtain ⟨i2, g2, m17⟩ := h_bd m16
  clear m16
  refine r_callV1 hw (tX7_isPiece l G b0 g2) lB_X7_isPiece lI_X7_isPiece mL_X7_186 (c := 7) rfl h1 rfl (Nat.le_of_ble_eq_true rfl) (Nat.le_of_ble_eq_true rfl) rfl (Nat.le_of_ble_eq_true rfl) dX7_isOf_2 ?_
  refine r_if_eq (tgt := 17) hw dX7_isOf_5 (by decide) (fun c3 => ?_) (fun c3 => ?_)
  · have m18 := h_if_t c3 m17
    clear m17
    refine r_ldc2 (v := (-9000000000000000001)) hw dX7_isOf_17 kW_X7_87 ?_
    cases h_ret m18
    exact r_lreturn hq rfl rfl dX7_isOf_20
  · have m19 := h_if_f c3 m17
    clear m17
    refine r_iload_n hw dX7_isOf_8 2 rfl ?_
    refine r_if_lt (tgt := 17) hw dX7_isOf_9 (by decide) (fun c4 => ?_) (fun c4 => ?_)
    · have m20 := h_if_t c4 m19
      clear m19
      refine r_ldc2 (v := (-9000000000000000001)) hw dX7_isOf_17 kW_X7_87 ?_
      cases h_ret m20
      exact r_lreturn hq rfl rfl dX7_isOf_20
    · have m21 := h_if_f c4 m19
      clear m19
      refine r_iload_n hw dX7_isOf_12 2 rfl ?_
      refine r_iconst (v := 5) hw dX7_isOf_13 rfl ?_
      refine r_icmp_lt (tgt := 21) hw dX7_isOf_14 (by decide) (fun c5 => ?_) (fun c5 => ?_)
      · have m22 := h_if_t c5 m21
        clear m21
        refine r_aload_n hw dX7_isOf_21 0 rfl ?_
        obtain ⟨q6, bq6, m23⟩ := h_bd m22
        clear m22
        refine r_getR hw fO_X7_25 h1 bq6 dX7_isOf_22 ?_
        obtain ⟨h8, m24⟩ := h_ck m23
        clear m23
        obtain ⟨q7, g7, m25⟩ := h_bd m24
        clear m24
        refine r_callV1 hw (tX1_now l G b0 g7) lB_X1_now lI_X1_now mL_X7_145 (c := 1) rfl h8 rfl (Nat.le_of_ble_eq_true rfl) (Nat.le_of_ble_eq_true rfl) rfl (Nat.le_of_ble_eq_true rfl) dX7_isOf_25 ?_
        obtain ⟨h9, m26⟩ := h_ck m25
        clear m25
        obtain ⟨q10, bq10, m27⟩ := h_bd m26
        clear m26
        refine r_getR hw fO_X7_149 h9 bq10 dX7_isOf_28 ?_
        refine r_iload_n hw dX7_isOf_31 1 rfl ?_
        obtain ⟨h11, m28⟩ := h_ck m27
        clear m27
        obtain ⟨q12, bq12, m29⟩ := h_bd m28
        clear m28
        refine r_aaload hw 2 (by decide) h11 bq12 dX7_isOf_32 ?_
        refine r_iload_n hw dX7_isOf_33 2 rfl ?_
        obtain ⟨h14, m30⟩ := h_ck m29
        clear m29
        obtain ⟨i13, g13, m31⟩ := h_bd m30
        clear m30
        refine r_callV1 hw (tX3_isOfKind l G b0 g13) lB_X3_isOfKind lI_X3_isOfKind mL_X7_247 (c := 3) rfl h14 rfl (Nat.le_of_ble_eq_true rfl) (Nat.le_of_ble_eq_true rfl) rfl (Nat.le_of_ble_eq_true rfl) dX7_isOf_34 ?_
        refine r_if_eq (tgt := 44) hw dX7_isOf_37 (by decide) (fun c15 => ?_) (fun c15 => ?_)
        · have m32 := h_if_t c15 m31
          clear m31
          refine r_lconst (v := 0) hw dX7_isOf_44 rfl ?_
          cases h_ret m32
          exact r_lreturn hq rfl rfl dX7_isOf_45
        · have m33 := h_if_f c15 m31
          clear m31
          refine r_lconst (v := 1) hw dX7_isOf_40 rfl ?_
          refine r_goto (tgt := 45) hw dX7_isOf_41 (by decide) ?_
          cases h_ret m33
          exact r_lreturn hq rfl rfl dX7_isOf_45
      · have m34 := h_if_f c5 m21
        clear m21
        refine r_ldc2 (v := (-9000000000000000001)) hw dX7_isOf_17 kW_X7_87 ?_
        cases h_ret m34
        exact r_lreturn hq rfl rfl dX7_isOf_20
theorem dX7_about_0 : decode cX7_about 0 = .ok (.aload_n 0, 1) := by decide +kernel
theorem dX7_about_1 : decode cX7_about 1 = .ok (.iload_n 1, 1) := by decide +kernel
theorem dX7_about_2 : decode cX7_about 2 = .ok (.invokevirtual 186, 3) := by decide +kernel
theorem dX7_about_5 : decode cX7_about 5 = .ok (.ifCond .ne 7, 3) := by decide +kernel
theorem dX7_about_8 : decode cX7_about 8 = .ok (.ldc2_w 87, 3) := by decide +kernel
theorem dX7_about_11 : decode cX7_about 11 = .ok (.lreturn, 1) := by decide +kernel
theorem dX7_about_12 : decode cX7_about 12 = .ok (.aload_n 0, 1) := by decide +kernel
theorem dX7_about_13 : decode cX7_about 13 = .ok (.getfield 25, 3) := by decide +kernel
theorem dX7_about_16 : decode cX7_about 16 = .ok (.invokevirtual 145, 3) := by decide +kernel
theorem dX7_about_19 : decode cX7_about 19 = .ok (.getfield 149, 3) := by decide +kernel
theorem dX7_about_22 : decode cX7_about 22 = .ok (.iload_n 1, 1) := by decide +kernel
theorem dX7_about_23 : decode cX7_about 23 = .ok (.aaload, 1) := by decide +kernel
theorem dX7_about_24 : decode cX7_about 24 = .ok (.astore_n 3, 1) := by decide +kernel
theorem dX7_about_25 : decode cX7_about 25 = .ok (.iload_n 2, 1) := by decide +kernel
theorem dX7_about_26 : decode cX7_about 26 = .ok (.tableswitch 86 0 5 #[38, 47, 55, 61, 67, 73], 38) := by decide +kernel
theorem dX7_about_64 : decode cX7_about 64 = .ok (.aload_n 3, 1) := by decide +kernel
theorem dX7_about_65 : decode cX7_about 65 = .ok (.getfield 206, 3) := by decide +kernel
theorem dX7_about_68 : decode cX7_about 68 = .ok (.getfield 89, 3) := by decide +kernel
theorem dX7_about_71 : decode cX7_about 71 = .ok (.i2l, 1) := by decide +kernel
theorem dX7_about_72 : decode cX7_about 72 = .ok (.lreturn, 1) := by decide +kernel
theorem dX7_about_73 : decode cX7_about 73 = .ok (.aload_n 3, 1) := by decide +kernel
theorem dX7_about_74 : decode cX7_about 74 = .ok (.getfield 206, 3) := by decide +kernel
theorem dX7_about_77 : decode cX7_about 77 = .ok (.invokevirtual 103, 3) := by decide +kernel
theorem dX7_about_80 : decode cX7_about 80 = .ok (.lreturn, 1) := by decide +kernel
theorem dX7_about_81 : decode cX7_about 81 = .ok (.aload_n 3, 1) := by decide +kernel
theorem dX7_about_82 : decode cX7_about 82 = .ok (.getfield 193, 3) := by decide +kernel
theorem dX7_about_85 : decode cX7_about 85 = .ok (.i2l, 1) := by decide +kernel
theorem dX7_about_86 : decode cX7_about 86 = .ok (.lreturn, 1) := by decide +kernel
theorem dX7_about_87 : decode cX7_about 87 = .ok (.aload_n 3, 1) := by decide +kernel
theorem dX7_about_88 : decode cX7_about 88 = .ok (.getfield 196, 3) := by decide +kernel
theorem dX7_about_91 : decode cX7_about 91 = .ok (.i2l, 1) := by decide +kernel
theorem dX7_about_92 : decode cX7_about 92 = .ok (.lreturn, 1) := by decide +kernel
theorem dX7_about_93 : decode cX7_about 93 = .ok (.aload_n 3, 1) := by decide +kernel
theorem dX7_about_94 : decode cX7_about 94 = .ok (.getfield 199, 3) := by decide +kernel
theorem dX7_about_97 : decode cX7_about 97 = .ok (.i2l, 1) := by decide +kernel
theorem dX7_about_98 : decode cX7_about 98 = .ok (.lreturn, 1) := by decide +kernel
theorem dX7_about_99 : decode cX7_about 99 = .ok (.aload_n 3, 1) := by decide +kernel
theorem dX7_about_100 : decode cX7_about 100 = .ok (.getfield 230, 3) := by decide +kernel
theorem dX7_about_103 : decode cX7_about 103 = .ok (.ifCond .eq 7, 3) := by decide +kernel
theorem dX7_about_106 : decode cX7_about 106 = .ok (.lconst 1, 1) := by decide +kernel
theorem dX7_about_107 : decode cX7_about 107 = .ok (.goto 4, 3) := by decide +kernel
theorem dX7_about_110 : decode cX7_about 110 = .ok (.lconst 0, 1) := by decide +kernel
theorem dX7_about_111 : decode cX7_about 111 = .ok (.lreturn, 1) := by decide +kernel
theorem dX7_about_112 : decode cX7_about 112 = .ok (.ldc2_w 87, 3) := by decide +kernel
theorem dX7_about_115 : decode cX7_about 115 = .ok (.lreturn, 1) := by decide +kernel
set_option maxHeartbeats 4000000 in
set_option maxRecDepth 100000 in
theorem tX7_about (l : Launch) (G : Gg) (b0 : Nat) {K : Kk} {R : Rr} {M : Mm} {r : Nat} {a0 : Int32} {a1 : Int32} {res : Int64} (hm : mX7_about K R M r a0 a1 = some (res)) : CT l G b0 yX7_about cX7_about 4 (some .long) (rmz 3 45) [.ref r, .int a0, .int a1] K R M (some (.long res)) K R M := by
  refine ct_of (by decide +kernel) (Nat.le_of_ble_eq_true rfl) (fun w hq => ?_)
  have hw := hq.b
  change w 0 0 0 [(0, .ref r), (1, .int a0), (2, .int a1)] [] K R M
  replace hm := h_start hm
  unfold mX7_about at hm
  obtain ⟨h1, m29⟩ := h_ck hm
  clear hm
  refine r_aload_n hw dX7_about_0 0 rfl ?_
  refine r_iload_n hw dX7_about_1 1 rfl ?_
  obtain ⟨i2, g2, m30⟩ := h_bd m29
  clear m29
  refine r_callV1 hw (tX7_isPiece l G b0 g2) lB_X7_isPiece lI_X7_isPiece mL_X7_186 (c := 7) rfl h1 rfl (Nat.le_of_ble_eq_true rfl) (Nat.le_of_ble_eq_true rfl) rfl (Nat.le_of_ble_eq_true rfl) dX7_about_2 ?_
  refine r_if_ne (tgt := 12) hw dX7_about_5 (by decide) (fun c3 => ?_) (fun c3 => ?_)
  · have m31 := h_if_f c3 m30
    clear m30
    refine r_aload_n hw dX7_about_12 0 rfl ?_
    obtain ⟨q4, bq4, m32⟩ := h_bd m31
    clear m31
    refine r_getR hw fO_X7_25 h1 bq4 dX7_about_13 ?_
    obtain ⟨h6, m33⟩ := h_ck m32
    clear m32
    obtain ⟨q5, g5, m34⟩ := h_bd m33
    clear m33
    refine r_callV1 hw (tX1_now l G b0 g5) lB_X1_now lI_X1_now mL_X7_145 (c := 1) rfl h6 rfl (Nat.le_of_ble_eq_true rfl) (Nat.le_of_ble_eq_true rfl) rfl (Nat.le_of_ble_eq_true rfl) dX7_about_16 ?_
    obtain ⟨h7, m35⟩ := h_ck m34
    clear m34
    obtain ⟨q8, bq8, m36⟩ := h_bd m35
    clear m35
    refine r_getR hw fO_X7_149 h7 bq8 dX7_about_19 ?_
    refine r_iload_n hw dX7_about_22 1 rfl ?_
    obtain ⟨h9, m37⟩ := h_ck m36
    clear m36
    obtain ⟨q10, bq10, m38⟩ := h_bd m37
    clear m37
    refine r_aaload hw 2 (by decide) h9 bq10 dX7_about_23 ?_
    refine r_astore_n hw dX7_about_24 rfl (by decide) rfl ?_
    refine r_iload_n hw dX7_about_25 3 rfl ?_
    by_cases c11 : a1 = 0
    · have m39 := h_if_t c11 m38
      clear m38
      rw [c11]
      refine r_tabIn (tgt := 64) hw dX7_about_26 (by decide) (by decide) rfl (by decide) ?_
      refine r_aload_n hw dX7_about_64 0 rfl ?_
      obtain ⟨h12, m40⟩ := h_ck m39
      clear m39
      obtain ⟨q13, bq13, m41⟩ := h_bd m40
      clear m40
      refine r_getR hw fO_X7_206 h12 bq13 dX7_about_65 ?_
      obtain ⟨h14, m42⟩ := h_ck m41
      clear m41
      refine r_getI hw fO_X7_89 h14 dX7_about_68 ?_
      refine r_i2l hw dX7_about_71 ?_
      cases h_ret m42
      exact r_lreturn hq rfl rfl dX7_about_72
    have m43 := h_if_f c11 m38
    clear m38
    by_cases c15 : a1 = 1
    · have m44 := h_if_t c15 m43
      clear m43
      rw [c15]
      refine r_tabIn (tgt := 73) hw dX7_about_26 (by decide) (by decide) rfl (by decide) ?_
      refine r_aload_n hw dX7_about_73 0 rfl ?_
      obtain ⟨h16, m45⟩ := h_ck m44
      clear m44
      obtain ⟨q17, bq17, m46⟩ := h_bd m45
      clear m45
      refine r_getR hw fO_X7_206 h16 bq17 dX7_about_74 ?_
      obtain ⟨h19, m47⟩ := h_ck m46
      clear m46
      obtain ⟨l18, g18, m48⟩ := h_bd m47
      clear m47
      refine r_callV1 hw (tX5_twiceArea l G b0 g18) lB_X5_twiceArea lI_X5_twiceArea mL_X7_103 (c := 5) rfl h19 rfl (Nat.le_of_ble_eq_true rfl) (Nat.le_of_ble_eq_true rfl) rfl (Nat.le_of_ble_eq_true rfl) dX7_about_77 ?_
      cases h_ret m48
      exact r_lreturn hq rfl rfl dX7_about_80
    have m49 := h_if_f c15 m43
    clear m43
    by_cases c20 : a1 = 2
    · have m50 := h_if_t c20 m49
      clear m49
      rw [c20]
      refine r_tabIn (tgt := 81) hw dX7_about_26 (by decide) (by decide) rfl (by decide) ?_
      refine r_aload_n hw dX7_about_81 0 rfl ?_
      obtain ⟨h21, m51⟩ := h_ck m50
      clear m50
      refine r_getI hw fO_X7_193 h21 dX7_about_82 ?_
      refine r_i2l hw dX7_about_85 ?_
      cases h_ret m51
      exact r_lreturn hq rfl rfl dX7_about_86
    have m52 := h_if_f c20 m49
    clear m49
    by_cases c22 : a1 = 3
    · have m53 := h_if_t c22 m52
      clear m52
      rw [c22]
      refine r_tabIn (tgt := 87) hw dX7_about_26 (by decide) (by decide) rfl (by decide) ?_
      refine r_aload_n hw dX7_about_87 0 rfl ?_
      obtain ⟨h23, m54⟩ := h_ck m53
      clear m53
      refine r_getI hw fO_X7_196 h23 dX7_about_88 ?_
      refine r_i2l hw dX7_about_91 ?_
      cases h_ret m54
      exact r_lreturn hq rfl rfl dX7_about_92
    have m55 := h_if_f c22 m52
    clear m52
    by_cases c24 : a1 = 4
    · have m56 := h_if_t c24 m55
      clear m55
      rw [c24]
      refine r_tabIn (tgt := 93) hw dX7_about_26 (by decide) (by decide) rfl (by decide) ?_
      refine r_aload_n hw dX7_about_93 0 rfl ?_
      obtain ⟨h25, m57⟩ := h_ck m56
      clear m56
      refine r_getI hw fO_X7_199 h25 dX7_about_94 ?_
      refine r_i2l hw dX7_about_97 ?_
      cases h_ret m57
      exact r_lreturn hq rfl rfl dX7_about_98
    have m58 := h_if_f c24 m55
    clear m55
    by_cases c26 : a1 = 5
    · have m59 := h_if_t c26 m58
      clear m58
      rw [c26]
      refine r_tabIn (tgt := 99) hw dX7_about_26 (by decide) (by decide) rfl (by decide) ?_
      refine r_aload_n hw dX7_about_99 0 rfl ?_
      obtain ⟨h27, m60⟩ := h_ck m59
      clear m59
      refine r_getI hw fO_X7_230 h27 dX7_about_100 ?_
      refine r_if_eq (tgt := 110) hw dX7_about_103 (by decide) (fun c28 => ?_) (fun c28 => ?_)
      · have m61 := h_if_t c28 m60
        clear m60
        refine r_lconst (v := 0) hw dX7_about_110 rfl ?_
        cases h_ret m61
        exact r_lreturn hq rfl rfl dX7_about_111
      · have m62 := h_if_f c28 m60
        clear m60
        refine r_lconst (v := 1) hw dX7_about_106 rfl ?_
        refine r_goto (tgt := 111) hw dX7_about_107 (by decide) ?_
        cases h_ret m62
        exact r_lreturn hq rfl rfl dX7_about_111
    have m63 := h_if_f c26 m58
    clear m58
    refine r_tabOut (tgt := 112) hw dX7_about_26 (sw_out 6 (by decide) (fun j hj => by match j, hj with | 0, _ => exact c11 | 1, _ => exact c15 | 2, _ => exact c20 | 3, _ => exact c22 | 4, _ => exact c24 | 5, _ => exact c26)) (by decide) ?_
    refine r_ldc2 (v := (-9000000000000000001)) hw dX7_about_112 kW_X7_87 ?_
    cases h_ret m63
    exact r_lreturn hq rfl rfl dX7_about_115
  · have m64 := h_if_t c3 m30
    clear m30
    refine r_ldc2 (v := (-9000000000000000001)) hw dX7_about_8 kW_X7_87 ?_
    cases h_ret m64
    exact r_lreturn hq rfl rfl dX7_about_11
theorem dX7_at_0 : decode cX7_at 0 = .ok (.aload_n 0, 1) := by decide +kernel
theorem dX7_at_1 : decode cX7_at 1 = .ok (.iload_n 1, 1) := by decide +kernel
theorem dX7_at_2 : decode cX7_at 2 = .ok (.invokevirtual 186, 3) := by decide +kernel
theorem dX7_at_5 : decode cX7_at 5 = .ok (.ifCond .eq 16, 3) := by decide +kernel
theorem dX7_at_8 : decode cX7_at 8 = .ok (.iload_n 2, 1) := by decide +kernel
theorem dX7_at_9 : decode cX7_at 9 = .ok (.ifCond .lt 12, 3) := by decide +kernel
theorem dX7_at_12 : decode cX7_at 12 = .ok (.iload_n 3, 1) := by decide +kernel
theorem dX7_at_13 : decode cX7_at 13 = .ok (.ifCond .lt 8, 3) := by decide +kernel
theorem dX7_at_16 : decode cX7_at 16 = .ok (.iload_n 3, 1) := by decide +kernel
theorem dX7_at_17 : decode cX7_at 17 = .ok (.iconst 3, 1) := by decide +kernel
theorem dX7_at_18 : decode cX7_at 18 = .ok (.if_icmp .le 7, 3) := by decide +kernel
theorem dX7_at_21 : decode cX7_at 21 = .ok (.ldc2_w 87, 3) := by decide +kernel
theorem dX7_at_24 : decode cX7_at 24 = .ok (.lreturn, 1) := by decide +kernel
theorem dX7_at_25 : decode cX7_at 25 = .ok (.aload_n 0, 1) := by decide +kernel
theorem dX7_at_26 : decode cX7_at 26 = .ok (.getfield 25, 3) := by decide +kernel
theorem dX7_at_29 : decode cX7_at 29 = .ok (.invokevirtual 145, 3) := by decide +kernel
theorem dX7_at_32 : decode cX7_at 32 = .ok (.getfield 149, 3) := by decide +kernel
theorem dX7_at_35 : decode cX7_at 35 = .ok (.iload_n 1, 1) := by decide +kernel
theorem dX7_at_36 : decode cX7_at 36 = .ok (.aaload, 1) := by decide +kernel
theorem dX7_at_37 : decode cX7_at 37 = .ok (.astore 4, 2) := by decide +kernel
theorem dX7_at_39 : decode cX7_at 39 = .ok (.iload_n 2, 1) := by decide +kernel
theorem dX7_at_40 : decode cX7_at 40 = .ok (.aload 4, 2) := by decide +kernel
theorem dX7_at_42 : decode cX7_at 42 = .ok (.getfield 206, 3) := by decide +kernel
theorem dX7_at_45 : decode cX7_at 45 = .ok (.getfield 89, 3) := by decide +kernel
theorem dX7_at_48 : decode cX7_at 48 = .ok (.if_icmp .lt 7, 3) := by decide +kernel
theorem dX7_at_51 : decode cX7_at 51 = .ok (.ldc2_w 250, 3) := by decide +kernel
theorem dX7_at_54 : decode cX7_at 54 = .ok (.lreturn, 1) := by decide +kernel
theorem dX7_at_55 : decode cX7_at 55 = .ok (.iload_n 3, 1) := by decide +kernel
theorem dX7_at_56 : decode cX7_at 56 = .ok (.iconst 2, 1) := by decide +kernel
theorem dX7_at_57 : decode cX7_at 57 = .ok (.if_icmp .ge 15, 3) := by decide +kernel
theorem dX7_at_60 : decode cX7_at 60 = .ok (.aload 4, 2) := by decide +kernel
theorem dX7_at_62 : decode cX7_at 62 = .ok (.aload_n 0, 1) := by decide +kernel
theorem dX7_at_63 : decode cX7_at 63 = .ok (.getfield 68, 3) := by decide +kernel
theorem dX7_at_66 : decode cX7_at 66 = .ok (.invokevirtual 153, 3) := by decide +kernel
theorem dX7_at_69 : decode cX7_at 69 = .ok (.goto 15, 3) := by decide +kernel
theorem dX7_at_72 : decode cX7_at 72 = .ok (.aload_n 0, 1) := by decide +kernel
theorem dX7_at_73 : decode cX7_at 73 = .ok (.getfield 68, 3) := by decide +kernel
theorem dX7_at_76 : decode cX7_at 76 = .ok (.aload 4, 2) := by decide +kernel
theorem dX7_at_78 : decode cX7_at 78 = .ok (.getfield 206, 3) := by decide +kernel
theorem dX7_at_81 : decode cX7_at 81 = .ok (.invokevirtual 111, 3) := by decide +kernel
theorem dX7_at_84 : decode cX7_at 84 = .ok (.iload_n 3, 1) := by decide +kernel
theorem dX7_at_85 : decode cX7_at 85 = .ok (.iconst 2, 1) := by decide +kernel
theorem dX7_at_86 : decode cX7_at 86 = .ok (.irem, 1) := by decide +kernel
theorem dX7_at_87 : decode cX7_at 87 = .ok (.ifCond .ne 16, 3) := by decide +kernel
theorem dX7_at_90 : decode cX7_at 90 = .ok (.aload_n 0, 1) := by decide +kernel
theorem dX7_at_91 : decode cX7_at 91 = .ok (.getfield 68, 3) := by decide +kernel
theorem dX7_at_94 : decode cX7_at 94 = .ok (.getfield 252, 3) := by decide +kernel
theorem dX7_at_97 : decode cX7_at 97 = .ok (.iload_n 2, 1) := by decide +kernel
theorem dX7_at_98 : decode cX7_at 98 = .ok (.iaload, 1) := by decide +kernel
theorem dX7_at_99 : decode cX7_at 99 = .ok (.i2l, 1) := by decide +kernel
theorem dX7_at_100 : decode cX7_at 100 = .ok (.goto 13, 3) := by decide +kernel
theorem dX7_at_103 : decode cX7_at 103 = .ok (.aload_n 0, 1) := by decide +kernel
theorem dX7_at_104 : decode cX7_at 104 = .ok (.getfield 68, 3) := by decide +kernel
theorem dX7_at_107 : decode cX7_at 107 = .ok (.getfield 256, 3) := by decide +kernel
theorem dX7_at_110 : decode cX7_at 110 = .ok (.iload_n 2, 1) := by decide +kernel
theorem dX7_at_111 : decode cX7_at 111 = .ok (.iaload, 1) := by decide +kernel
theorem dX7_at_112 : decode cX7_at 112 = .ok (.i2l, 1) := by decide +kernel
theorem dX7_at_113 : decode cX7_at 113 = .ok (.lreturn, 1) := by decide +kernel
set_option maxHeartbeats 4000000 in
set_option maxRecDepth 100000 in
theorem tX7_at (l : Launch) (G : Gg) (b0 : Nat) {K : Kk} {R : Rr} {M : Mm} {r : Nat} {a0 : Int32} {a1 : Int32} {a2 : Int32} {res : Int64} {M' : Mm} (hm : mX7_at K R M r a0 a1 a2 = some (res, M')) : CT l G b0 yX7_at cX7_at 5 (some .long) (rmz 4 73) [.ref r, .int a0, .int a1, .int a2] K R M (some (.long res)) K R M' := by
  refine ct_of (by decide +kernel) (Nat.le_of_ble_eq_true rfl) (fun w hq => ?_)
  have hw := hq.b
  change w 0 0 0 [(0, .ref r), (1, .int a0), (2, .int a1), (3, .int a2)] [] K R M
  replace hm := h_start hm
  unfold mX7_at at hm
  obtain ⟨h1, m34⟩ := h_ck hm
  clear hm
  have J84 : ∀ (M2 : Mm), (mX7_at_J84 K R M2 r a1 a2).bind some = some (res, M') → w 0 0 84 [(0, .ref r), (2, .int a1), (3, .int a2)] [] K R M2 := by
    intro M2  m35
    unfold mX7_at_J84 at m35
    refine r_iload_n hw dX7_at_84 2 rfl ?_
    refine r_iconst (v := 2) hw dX7_at_85 rfl ?_
    refine r_irem hw dX7_at_86 (by decide) ?_
    refine r_if_ne (tgt := 103) hw dX7_at_87 (by decide) (fun c3 => ?_) (fun c3 => ?_)
    · have m36 := h_if_f c3 m35
      clear m35
      refine r_aload_n hw dX7_at_103 0 rfl ?_
      obtain ⟨q4, bq4, m37⟩ := h_bd m36
      clear m36
      refine r_getR hw fO_X7_68 h1 bq4 dX7_at_104 ?_
      obtain ⟨h5, m38⟩ := h_ck m37
      clear m37
      obtain ⟨q6, bq6, m39⟩ := h_bd m38
      clear m38
      refine r_getR hw fO_X7_256 h5 bq6 dX7_at_107 ?_
      refine r_iload_n hw dX7_at_110 1 rfl ?_
      obtain ⟨h7, m40⟩ := h_ck m39
      clear m39
      refine r_iaload hw h7 dX7_at_111 ?_
      refine r_i2l hw dX7_at_112 ?_
      cases h_ret m40
      exact r_lreturn hq rfl rfl dX7_at_113
    · have m41 := h_if_t c3 m35
      clear m35
      refine r_aload_n hw dX7_at_90 0 rfl ?_
      obtain ⟨q8, bq8, m42⟩ := h_bd m41
      clear m41
      refine r_getR hw fO_X7_68 h1 bq8 dX7_at_91 ?_
      obtain ⟨h9, m43⟩ := h_ck m42
      clear m42
      obtain ⟨q10, bq10, m44⟩ := h_bd m43
      clear m43
      refine r_getR hw fO_X7_252 h9 bq10 dX7_at_94 ?_
      refine r_iload_n hw dX7_at_97 1 rfl ?_
      obtain ⟨h11, m45⟩ := h_ck m44
      clear m44
      refine r_iaload hw h11 dX7_at_98 ?_
      refine r_i2l hw dX7_at_99 ?_
      refine r_goto (tgt := 113) hw dX7_at_100 (by decide) ?_
      cases h_ret m45
      exact r_lreturn hq rfl rfl dX7_at_113
  refine r_aload_n hw dX7_at_0 0 rfl ?_
  refine r_iload_n hw dX7_at_1 1 rfl ?_
  obtain ⟨i12, g12, m46⟩ := h_bd m34
  clear m34
  refine r_callV1 hw (tX7_isPiece l G b0 g12) lB_X7_isPiece lI_X7_isPiece mL_X7_186 (c := 7) rfl h1 rfl (Nat.le_of_ble_eq_true rfl) (Nat.le_of_ble_eq_true rfl) rfl (Nat.le_of_ble_eq_true rfl) dX7_at_2 ?_
  refine r_if_eq (tgt := 21) hw dX7_at_5 (by decide) (fun c13 => ?_) (fun c13 => ?_)
  · have m47 := h_if_t c13 m46
    clear m46
    refine r_ldc2 (v := (-9000000000000000001)) hw dX7_at_21 kW_X7_87 ?_
    cases h_ret m47
    exact r_lreturn hq rfl rfl dX7_at_24
  · have m48 := h_if_f c13 m46
    clear m46
    refine r_iload_n hw dX7_at_8 2 rfl ?_
    refine r_if_lt (tgt := 21) hw dX7_at_9 (by decide) (fun c14 => ?_) (fun c14 => ?_)
    · have m49 := h_if_t c14 m48
      clear m48
      refine r_ldc2 (v := (-9000000000000000001)) hw dX7_at_21 kW_X7_87 ?_
      cases h_ret m49
      exact r_lreturn hq rfl rfl dX7_at_24
    · have m50 := h_if_f c14 m48
      clear m48
      refine r_iload_n hw dX7_at_12 3 rfl ?_
      refine r_if_lt (tgt := 21) hw dX7_at_13 (by decide) (fun c15 => ?_) (fun c15 => ?_)
      · have m51 := h_if_t c15 m50
        clear m50
        refine r_ldc2 (v := (-9000000000000000001)) hw dX7_at_21 kW_X7_87 ?_
        cases h_ret m51
        exact r_lreturn hq rfl rfl dX7_at_24
      · have m52 := h_if_f c15 m50
        clear m50
        refine r_iload_n hw dX7_at_16 3 rfl ?_
        refine r_iconst (v := 3) hw dX7_at_17 rfl ?_
        refine r_icmp_le (tgt := 25) hw dX7_at_18 (by decide) (fun c16 => ?_) (fun c16 => ?_)
        · have m53 := h_if_t c16 m52
          clear m52
          refine r_aload_n hw dX7_at_25 0 rfl ?_
          obtain ⟨q17, bq17, m54⟩ := h_bd m53
          clear m53
          refine r_getR hw fO_X7_25 h1 bq17 dX7_at_26 ?_
          obtain ⟨h19, m55⟩ := h_ck m54
          clear m54
          obtain ⟨q18, g18, m56⟩ := h_bd m55
          clear m55
          refine r_callV1 hw (tX1_now l G b0 g18) lB_X1_now lI_X1_now mL_X7_145 (c := 1) rfl h19 rfl (Nat.le_of_ble_eq_true rfl) (Nat.le_of_ble_eq_true rfl) rfl (Nat.le_of_ble_eq_true rfl) dX7_at_29 ?_
          obtain ⟨h20, m57⟩ := h_ck m56
          clear m56
          obtain ⟨q21, bq21, m58⟩ := h_bd m57
          clear m57
          refine r_getR hw fO_X7_149 h20 bq21 dX7_at_32 ?_
          refine r_iload_n hw dX7_at_35 1 rfl ?_
          obtain ⟨h22, m59⟩ := h_ck m58
          clear m58
          obtain ⟨q23, bq23, m60⟩ := h_bd m59
          clear m59
          refine r_aaload hw 2 (by decide) h22 bq23 dX7_at_36 ?_
          refine r_astore hw dX7_at_37 (by decide) rfl ?_
          refine r_iload_n hw dX7_at_39 3 rfl ?_
          refine r_aload hw dX7_at_40 0 rfl ?_
          obtain ⟨h24, m61⟩ := h_ck m60
          clear m60
          obtain ⟨q25, bq25, m62⟩ := h_bd m61
          clear m61
          refine r_getR hw fO_X7_206 h24 bq25 dX7_at_42 ?_
          obtain ⟨h26, m63⟩ := h_ck m62
          clear m62
          refine r_getI hw fO_X7_89 h26 dX7_at_45 ?_
          refine r_icmp_lt (tgt := 55) hw dX7_at_48 (by decide) (fun c27 => ?_) (fun c27 => ?_)
          · have m64 := h_if_t c27 m63
            clear m63
            refine r_iload_n hw dX7_at_55 4 rfl ?_
            refine r_iconst (v := 2) hw dX7_at_56 rfl ?_
            refine r_icmp_ge (tgt := 72) hw dX7_at_57 (by decide) (fun c28 => ?_) (fun c28 => ?_)
            · have m65 := h_if_f c28 m64
              clear m64
              refine r_aload_n hw dX7_at_72 1 rfl ?_
              obtain ⟨q29, bq29, m66⟩ := h_bd m65
              clear m65
              refine r_getR hw fO_X7_68 h1 bq29 dX7_at_73 ?_
              refine r_aload hw dX7_at_76 0 rfl ?_
              refine r_getR hw fO_X7_206 h24 bq25 dX7_at_78 ?_
              obtain ⟨h31, m67⟩ := h_ck m66
              clear m66
              obtain ⟨M30, g30, m68⟩ := h_bd m67
              clear m67
              refine r_callV0 hw (tX5_take l G b0 g30) lB_X5_take lI_X5_take mL_X7_111 (c := 5) rfl h31 rfl (Nat.le_of_ble_eq_true rfl) (Nat.le_of_ble_eq_true rfl) rfl (Nat.le_of_ble_eq_true rfl) dX7_at_81 ?_
              refine r_sub hw [1, 3, 4] rfl ?_
              exact J84 _ m68
            · have m69 := h_if_t c28 m64
              clear m64
              refine r_aload hw dX7_at_60 0 rfl ?_
              refine r_aload_n hw dX7_at_62 1 rfl ?_
              obtain ⟨q32, bq32, m70⟩ := h_bd m69
              clear m69
              refine r_getR hw fO_X7_68 h1 bq32 dX7_at_63 ?_
              obtain ⟨M33, g33, m71⟩ := h_bd m70
              clear m70
              refine r_callV0 hw (tX3_placeInto l G b0 g33) lB_X3_placeInto lI_X3_placeInto mL_X7_153 (c := 3) rfl h24 rfl (Nat.le_of_ble_eq_true rfl) (Nat.le_of_ble_eq_true rfl) rfl (Nat.le_of_ble_eq_true rfl) dX7_at_66 ?_
              refine r_goto (tgt := 84) hw dX7_at_69 (by decide) ?_
              refine r_sub hw [1, 3, 4] rfl ?_
              exact J84 _ m71
          · have m72 := h_if_f c27 m63
            clear m63
            refine r_ldc2 (v := (-9000000000000000005)) hw dX7_at_51 kW_X7_250 ?_
            cases h_ret m72
            exact r_lreturn hq rfl rfl dX7_at_54
        · have m73 := h_if_f c16 m52
          clear m52
          refine r_ldc2 (v := (-9000000000000000001)) hw dX7_at_21 kW_X7_87 ?_
          cases h_ret m73
          exact r_lreturn hq rfl rfl dX7_at_24
theorem dX7_over_0 : decode cX7_over 0 = .ok (.aload_n 0, 1) := by decide +kernel
theorem dX7_over_1 : decode cX7_over 1 = .ok (.iload_n 1, 1) := by decide +kernel
theorem dX7_over_2 : decode cX7_over 2 = .ok (.invokevirtual 186, 3) := by decide +kernel
theorem dX7_over_5 : decode cX7_over 5 = .ok (.ifCond .eq 16, 3) := by decide +kernel
theorem dX7_over_8 : decode cX7_over 8 = .ok (.aload_n 0, 1) := by decide +kernel
theorem dX7_over_9 : decode cX7_over 9 = .ok (.iload_n 2, 1) := by decide +kernel
theorem dX7_over_10 : decode cX7_over 10 = .ok (.invokevirtual 186, 3) := by decide +kernel
theorem dX7_over_13 : decode cX7_over 13 = .ok (.ifCond .eq 8, 3) := by decide +kernel
theorem dX7_over_16 : decode cX7_over 16 = .ok (.iload_n 1, 1) := by decide +kernel
theorem dX7_over_17 : decode cX7_over 17 = .ok (.iload_n 2, 1) := by decide +kernel
theorem dX7_over_18 : decode cX7_over 18 = .ok (.if_icmp .ne 7, 3) := by decide +kernel
theorem dX7_over_21 : decode cX7_over 21 = .ok (.ldc2_w 87, 3) := by decide +kernel
theorem dX7_over_24 : decode cX7_over 24 = .ok (.lreturn, 1) := by decide +kernel
theorem dX7_over_25 : decode cX7_over 25 = .ok (.aload_n 0, 1) := by decide +kernel
theorem dX7_over_26 : decode cX7_over 26 = .ok (.getfield 25, 3) := by decide +kernel
theorem dX7_over_29 : decode cX7_over 29 = .ok (.invokevirtual 145, 3) := by decide +kernel
theorem dX7_over_32 : decode cX7_over 32 = .ok (.getfield 149, 3) := by decide +kernel
theorem dX7_over_35 : decode cX7_over 35 = .ok (.iload_n 1, 1) := by decide +kernel
theorem dX7_over_36 : decode cX7_over 36 = .ok (.aaload, 1) := by decide +kernel
theorem dX7_over_37 : decode cX7_over 37 = .ok (.aload_n 0, 1) := by decide +kernel
theorem dX7_over_38 : decode cX7_over 38 = .ok (.getfield 68, 3) := by decide +kernel
theorem dX7_over_41 : decode cX7_over 41 = .ok (.invokevirtual 153, 3) := by decide +kernel
theorem dX7_over_44 : decode cX7_over 44 = .ok (.aload_n 0, 1) := by decide +kernel
theorem dX7_over_45 : decode cX7_over 45 = .ok (.getfield 25, 3) := by decide +kernel
theorem dX7_over_48 : decode cX7_over 48 = .ok (.invokevirtual 145, 3) := by decide +kernel
theorem dX7_over_51 : decode cX7_over 51 = .ok (.getfield 149, 3) := by decide +kernel
theorem dX7_over_54 : decode cX7_over 54 = .ok (.iload_n 2, 1) := by decide +kernel
theorem dX7_over_55 : decode cX7_over 55 = .ok (.aaload, 1) := by decide +kernel
theorem dX7_over_56 : decode cX7_over 56 = .ok (.aload_n 0, 1) := by decide +kernel
theorem dX7_over_57 : decode cX7_over 57 = .ok (.getfield 71, 3) := by decide +kernel
theorem dX7_over_60 : decode cX7_over 60 = .ok (.invokevirtual 153, 3) := by decide +kernel
theorem dX7_over_63 : decode cX7_over 63 = .ok (.aload_n 0, 1) := by decide +kernel
theorem dX7_over_64 : decode cX7_over 64 = .ok (.getfield 68, 3) := by decide +kernel
theorem dX7_over_67 : decode cX7_over 67 = .ok (.aload_n 0, 1) := by decide +kernel
theorem dX7_over_68 : decode cX7_over 68 = .ok (.getfield 71, 3) := by decide +kernel
theorem dX7_over_71 : decode cX7_over 71 = .ok (.invokevirtual 259, 3) := by decide +kernel
theorem dX7_over_74 : decode cX7_over 74 = .ok (.ifCond .eq 7, 3) := by decide +kernel
theorem dX7_over_77 : decode cX7_over 77 = .ok (.lconst 1, 1) := by decide +kernel
theorem dX7_over_78 : decode cX7_over 78 = .ok (.goto 4, 3) := by decide +kernel
theorem dX7_over_81 : decode cX7_over 81 = .ok (.lconst 0, 1) := by decide +kernel
theorem dX7_over_82 : decode cX7_over 82 = .ok (.lreturn, 1) := by decide +kernel
set_option maxHeartbeats 4000000 in
set_option maxRecDepth 100000 in
theorem tX7_over (l : Launch) (G : Gg) (b0 : Nat) {K : Kk} {R : Rr} {M : Mm} {r : Nat} {a0 : Int32} {a1 : Int32} {res : Int64} {M' : Mm} (hm : mX7_over K R M r a0 a1 = some (res, M')) : CT l G b0 yX7_over cX7_over 3 (some .long) (rmz 6 116) [.ref r, .int a0, .int a1] K R M (some (.long res)) K R M' := by
  refine ct_of (by decide +kernel) (Nat.le_of_ble_eq_true rfl) (fun w hq => ?_)
  have hw := hq.b
  change w 0 0 0 [(0, .ref r), (1, .int a0), (2, .int a1)] [] K R M
  replace hm := h_start hm
  unfold mX7_over at hm
  obtain ⟨h1, m28⟩ := h_ck hm
  clear hm
  refine r_aload_n hw dX7_over_0 0 rfl ?_
  refine r_iload_n hw dX7_over_1 1 rfl ?_
  obtain ⟨i2, g2, m29⟩ := h_bd m28
  clear m28
  refine r_callV1 hw (tX7_isPiece l G b0 g2) lB_X7_isPiece lI_X7_isPiece mL_X7_186 (c := 7) rfl h1 rfl (Nat.le_of_ble_eq_true rfl) (Nat.le_of_ble_eq_true rfl) rfl (Nat.le_of_ble_eq_true rfl) dX7_over_2 ?_
  refine r_if_eq (tgt := 21) hw dX7_over_5 (by decide) (fun c3 => ?_) (fun c3 => ?_)
  · have m30 := h_if_t c3 m29
    clear m29
    refine r_ldc2 (v := (-9000000000000000001)) hw dX7_over_21 kW_X7_87 ?_
    cases h_ret m30
    exact r_lreturn hq rfl rfl dX7_over_24
  · have m31 := h_if_f c3 m29
    clear m29
    refine r_aload_n hw dX7_over_8 0 rfl ?_
    refine r_iload_n hw dX7_over_9 2 rfl ?_
    obtain ⟨i4, g4, m32⟩ := h_bd m31
    clear m31
    refine r_callV1 hw (tX7_isPiece l G b0 g4) lB_X7_isPiece lI_X7_isPiece mL_X7_186 (c := 7) rfl h1 rfl (Nat.le_of_ble_eq_true rfl) (Nat.le_of_ble_eq_true rfl) rfl (Nat.le_of_ble_eq_true rfl) dX7_over_10 ?_
    refine r_if_eq (tgt := 21) hw dX7_over_13 (by decide) (fun c5 => ?_) (fun c5 => ?_)
    · have m33 := h_if_t c5 m32
      clear m32
      refine r_ldc2 (v := (-9000000000000000001)) hw dX7_over_21 kW_X7_87 ?_
      cases h_ret m33
      exact r_lreturn hq rfl rfl dX7_over_24
    · have m34 := h_if_f c5 m32
      clear m32
      refine r_iload_n hw dX7_over_16 1 rfl ?_
      refine r_iload_n hw dX7_over_17 2 rfl ?_
      refine r_icmp_ne (tgt := 25) hw dX7_over_18 (by decide) (fun c6 => ?_) (fun c6 => ?_)
      · have m35 := h_if_f c6 m34
        clear m34
        refine r_aload_n hw dX7_over_25 0 rfl ?_
        obtain ⟨q7, bq7, m36⟩ := h_bd m35
        clear m35
        refine r_getR hw fO_X7_25 h1 bq7 dX7_over_26 ?_
        obtain ⟨h9, m37⟩ := h_ck m36
        clear m36
        obtain ⟨q8, g8, m38⟩ := h_bd m37
        clear m37
        refine r_callV1 hw (tX1_now l G b0 g8) lB_X1_now lI_X1_now mL_X7_145 (c := 1) rfl h9 rfl (Nat.le_of_ble_eq_true rfl) (Nat.le_of_ble_eq_true rfl) rfl (Nat.le_of_ble_eq_true rfl) dX7_over_29 ?_
        obtain ⟨h10, m39⟩ := h_ck m38
        clear m38
        obtain ⟨q11, bq11, m40⟩ := h_bd m39
        clear m39
        refine r_getR hw fO_X7_149 h10 bq11 dX7_over_32 ?_
        refine r_iload_n hw dX7_over_35 1 rfl ?_
        obtain ⟨h12, m41⟩ := h_ck m40
        clear m40
        obtain ⟨q13, bq13, m42⟩ := h_bd m41
        clear m41
        refine r_aaload hw 2 (by decide) h12 bq13 dX7_over_36 ?_
        refine r_aload_n hw dX7_over_37 0 rfl ?_
        obtain ⟨q14, bq14, m43⟩ := h_bd m42
        clear m42
        refine r_getR hw fO_X7_68 h1 bq14 dX7_over_38 ?_
        obtain ⟨h16, m44⟩ := h_ck m43
        clear m43
        obtain ⟨M15, g15, m45⟩ := h_bd m44
        clear m44
        refine r_callV0 hw (tX3_placeInto l G b0 g15) lB_X3_placeInto lI_X3_placeInto mL_X7_153 (c := 3) rfl h16 rfl (Nat.le_of_ble_eq_true rfl) (Nat.le_of_ble_eq_true rfl) rfl (Nat.le_of_ble_eq_true rfl) dX7_over_41 ?_
        refine r_aload_n hw dX7_over_44 0 rfl ?_
        refine r_getR hw fO_X7_25 h1 bq7 dX7_over_45 ?_
        obtain ⟨q17, g17, m46⟩ := h_bd m45
        clear m45
        refine r_callV1 hw (tX1_now l G b0 g17) lB_X1_now lI_X1_now mL_X7_145 (c := 1) rfl h9 rfl (Nat.le_of_ble_eq_true rfl) (Nat.le_of_ble_eq_true rfl) rfl (Nat.le_of_ble_eq_true rfl) dX7_over_48 ?_
        obtain ⟨h18, m47⟩ := h_ck m46
        clear m46
        obtain ⟨q19, bq19, m48⟩ := h_bd m47
        clear m47
        refine r_getR hw fO_X7_149 h18 bq19 dX7_over_51 ?_
        refine r_iload_n hw dX7_over_54 2 rfl ?_
        obtain ⟨h20, m49⟩ := h_ck m48
        clear m48
        obtain ⟨q21, bq21, m50⟩ := h_bd m49
        clear m49
        refine r_aaload hw 2 (by decide) h20 bq21 dX7_over_55 ?_
        refine r_aload_n hw dX7_over_56 0 rfl ?_
        obtain ⟨q22, bq22, m51⟩ := h_bd m50
        clear m50
        refine r_getR hw fO_X7_71 h1 bq22 dX7_over_57 ?_
        obtain ⟨h24, m52⟩ := h_ck m51
        clear m51
        obtain ⟨M23, g23, m53⟩ := h_bd m52
        clear m52
        refine r_callV0 hw (tX3_placeInto l G b0 g23) lB_X3_placeInto lI_X3_placeInto mL_X7_153 (c := 3) rfl h24 rfl (Nat.le_of_ble_eq_true rfl) (Nat.le_of_ble_eq_true rfl) rfl (Nat.le_of_ble_eq_true rfl) dX7_over_60 ?_
        refine r_aload_n hw dX7_over_63 0 rfl ?_
        refine r_getR hw fO_X7_68 h1 bq14 dX7_over_64 ?_
        refine r_aload_n hw dX7_over_67 0 rfl ?_
        refine r_getR hw fO_X7_71 h1 bq22 dX7_over_68 ?_
        obtain ⟨h26, m54⟩ := h_ck m53
        clear m53
        obtain ⟨i25, g25, m55⟩ := h_bd m54
        clear m54
        refine r_callV1 hw (tX5_liesOver l G b0 g25) lB_X5_liesOver lI_X5_liesOver mL_X7_259 (c := 5) rfl h26 rfl (Nat.le_of_ble_eq_true rfl) (Nat.le_of_ble_eq_true rfl) rfl (Nat.le_of_ble_eq_true rfl) dX7_over_71 ?_
        refine r_if_eq (tgt := 81) hw dX7_over_74 (by decide) (fun c27 => ?_) (fun c27 => ?_)
        · have m56 := h_if_t c27 m55
          clear m55
          refine r_lconst (v := 0) hw dX7_over_81 rfl ?_
          cases h_ret m56
          exact r_lreturn hq rfl rfl dX7_over_82
        · have m57 := h_if_f c27 m55
          clear m55
          refine r_lconst (v := 1) hw dX7_over_77 rfl ?_
          refine r_goto (tgt := 82) hw dX7_over_78 (by decide) ?_
          cases h_ret m57
          exact r_lreturn hq rfl rfl dX7_over_82
      · have m58 := h_if_t c6 m34
        clear m34
        refine r_ldc2 (v := (-9000000000000000001)) hw dX7_over_21 kW_X7_87 ?_
        cases h_ret m58
        exact r_lreturn hq rfl rfl dX7_over_24
theorem dX7_find_0 : decode cX7_find 0 = .ok (.iload_n 1, 1) := by decide +kernel
theorem dX7_find_1 : decode cX7_find 1 = .ok (.iload_n 2, 1) := by decide +kernel
theorem dX7_find_2 : decode cX7_find 2 = .ok (.invokestatic 83, 3) := by decide +kernel
theorem dX7_find_5 : decode cX7_find 5 = .ok (.ifCond .ne 7, 3) := by decide +kernel
theorem dX7_find_8 : decode cX7_find 8 = .ok (.ldc2_w 87, 3) := by decide +kernel
theorem dX7_find_11 : decode cX7_find 11 = .ok (.lreturn, 1) := by decide +kernel
theorem dX7_find_12 : decode cX7_find 12 = .ok (.aload_n 0, 1) := by decide +kernel
theorem dX7_find_13 : decode cX7_find 13 = .ok (.getfield 25, 3) := by decide +kernel
theorem dX7_find_16 : decode cX7_find 16 = .ok (.invokevirtual 145, 3) := by decide +kernel
theorem dX7_find_19 : decode cX7_find 19 = .ok (.astore_n 3, 1) := by decide +kernel
theorem dX7_find_20 : decode cX7_find 20 = .ok (.iconst 0, 1) := by decide +kernel
theorem dX7_find_21 : decode cX7_find 21 = .ok (.istore 4, 2) := by decide +kernel
theorem dX7_find_23 : decode cX7_find 23 = .ok (.iload 4, 2) := by decide +kernel
theorem dX7_find_25 : decode cX7_find 25 = .ok (.aload_n 3, 1) := by decide +kernel
theorem dX7_find_26 : decode cX7_find 26 = .ok (.getfield 148, 3) := by decide +kernel
theorem dX7_find_29 : decode cX7_find 29 = .ok (.if_icmp .ge 39, 3) := by decide +kernel
theorem dX7_find_32 : decode cX7_find 32 = .ok (.aload_n 3, 1) := by decide +kernel
theorem dX7_find_33 : decode cX7_find 33 = .ok (.getfield 149, 3) := by decide +kernel
theorem dX7_find_36 : decode cX7_find 36 = .ok (.iload 4, 2) := by decide +kernel
theorem dX7_find_38 : decode cX7_find 38 = .ok (.aaload, 1) := by decide +kernel
theorem dX7_find_39 : decode cX7_find 39 = .ok (.aload_n 0, 1) := by decide +kernel
theorem dX7_find_40 : decode cX7_find 40 = .ok (.getfield 68, 3) := by decide +kernel
theorem dX7_find_43 : decode cX7_find 43 = .ok (.invokevirtual 153, 3) := by decide +kernel
theorem dX7_find_46 : decode cX7_find 46 = .ok (.aload_n 0, 1) := by decide +kernel
theorem dX7_find_47 : decode cX7_find 47 = .ok (.getfield 68, 3) := by decide +kernel
theorem dX7_find_50 : decode cX7_find 50 = .ok (.iload_n 1, 1) := by decide +kernel
theorem dX7_find_51 : decode cX7_find 51 = .ok (.iload_n 2, 1) := by decide +kernel
theorem dX7_find_52 : decode cX7_find 52 = .ok (.invokevirtual 262, 3) := by decide +kernel
theorem dX7_find_55 : decode cX7_find 55 = .ok (.ifCond .eq 7, 3) := by decide +kernel
theorem dX7_find_58 : decode cX7_find 58 = .ok (.iload 4, 2) := by decide +kernel
theorem dX7_find_60 : decode cX7_find 60 = .ok (.i2l, 1) := by decide +kernel
theorem dX7_find_61 : decode cX7_find 61 = .ok (.lreturn, 1) := by decide +kernel
theorem dX7_find_62 : decode cX7_find 62 = .ok (.iinc 4 1, 3) := by decide +kernel
theorem dX7_find_65 : decode cX7_find 65 = .ok (.goto (-42), 3) := by decide +kernel
theorem dX7_find_68 : decode cX7_find 68 = .ok (.ldc2_w 250, 3) := by decide +kernel
theorem dX7_find_71 : decode cX7_find 71 = .ok (.lreturn, 1) := by decide +kernel
set_option maxHeartbeats 4000000 in
set_option maxRecDepth 100000 in
theorem tX7_find (l : Launch) (G : Gg) (b0 : Nat) {K : Kk} {R : Rr} {M : Mm} {r : Nat} {a0 : Int32} {a1 : Int32} {res : Int64} {M' : Mm} (hm : mX7_find K R M r a0 a1 = some (res, M')) : CT l G b0 yX7_find cX7_find 5 (some .long) (rmz 4 73) [.ref r, .int a0, .int a1] K R M (some (.long res)) K R M' := by
  refine ct_of (by decide +kernel) (Nat.le_of_ble_eq_true rfl) (fun w hq => ?_)
  have hw := hq.b
  change w 0 0 0 [(0, .ref r), (1, .int a0), (2, .int a1)] [] K R M
  replace hm := h_start hm
  unfold mX7_find at hm
  obtain ⟨h1, m22⟩ := h_ck hm
  clear hm
  refine r_iload_n hw dX7_find_0 1 rfl ?_
  refine r_iload_n hw dX7_find_1 2 rfl ?_
  obtain ⟨i2, g2, m23⟩ := h_bd m22
  clear m22
  refine r_callS1 hw (tX7_isPlace l G b0 g2) lB_X7_isPlace sT_X7_isPlace mL_X7_83 rfl rfl (Nat.le_of_ble_eq_true rfl) (Nat.le_of_ble_eq_true rfl) rfl (Nat.le_of_ble_eq_true rfl) dX7_find_2 ?_
  refine r_if_ne (tgt := 12) hw dX7_find_5 (by decide) (fun c3 => ?_) (fun c3 => ?_)
  · have m24 := h_if_f c3 m23
    clear m23
    refine r_aload_n hw dX7_find_12 0 rfl ?_
    obtain ⟨q4, bq4, m25⟩ := h_bd m24
    clear m24
    refine r_getR hw fO_X7_25 h1 bq4 dX7_find_13 ?_
    obtain ⟨h6, m26⟩ := h_ck m25
    clear m25
    obtain ⟨q5, g5, m27⟩ := h_bd m26
    clear m26
    refine r_callV1 hw (tX1_now l G b0 g5) lB_X1_now lI_X1_now mL_X7_145 (c := 1) rfl h6 rfl (Nat.le_of_ble_eq_true rfl) (Nat.le_of_ble_eq_true rfl) rfl (Nat.le_of_ble_eq_true rfl) dX7_find_16 ?_
    refine r_astore_n hw dX7_find_19 rfl (by decide) rfl ?_
    refine r_iconst (v := 0) hw dX7_find_20 rfl ?_
    obtain ⟨i7, ei7, m28⟩ := h_nm m27
    clear m27
    refine r_topI (w := w) ei7 ?_
    refine r_istore hw dX7_find_21 (by decide) rfl ?_
    refine r_sub hw [2, 3, 4, 1, 0] rfl ?_
    obtain ⟨v23, n023, hn23, hv23⟩ := h_lp m28
    clear m28
    have L23 : ∀ n : Nat, ∀ (i8 : Int32) (M9 : Mm), it (mX7_find_L23 K R r a0 a1 q5) n (i8, M9) = some v23 → w 0 0 23 [(0, .ref r), (1, .int a0), (2, .int a1), (3, .ref q5), (4, .int i8)] [] K R M9 := by
      intro n23
      induction n23 with
      | zero => intro i8 M9 hz; exact absurd hz h_it0
      | succ n23 ih23 =>
        intro i8 M9 m29
        replace m29 : (mX7_find_B23 K R r a0 a1 q5 i8 M9).bind (Sum.elim (it (mX7_find_L23 K R r a0 a1 q5) n23) some) = some v23 := m29
        unfold mX7_find_B23 at m29
        refine r_iload hw dX7_find_23 4 rfl ?_
        refine r_aload_n hw dX7_find_25 3 rfl ?_
        obtain ⟨h10, m30⟩ := h_ck m29
        clear m29
        refine r_getI hw fO_X7_148 h10 dX7_find_26 ?_
        refine r_icmp_ge (tgt := 68) hw dX7_find_29 (by decide) (fun c11 => ?_) (fun c11 => ?_)
        · have m31 := h_if_f c11 m30
          clear m30
          have m32 := h_ex m31 hv23
          clear m31
          refine r_ldc2 (v := (-9000000000000000005)) hw dX7_find_68 kW_X7_250 ?_
          cases h_ret m32
          exact r_lreturn hq rfl rfl dX7_find_71
        · have m33 := h_if_t c11 m30
          clear m30
          refine r_aload_n hw dX7_find_32 3 rfl ?_
          obtain ⟨q12, bq12, m34⟩ := h_bd m33
          clear m33
          refine r_getR hw fO_X7_149 h10 bq12 dX7_find_33 ?_
          refine r_iload hw dX7_find_36 4 rfl ?_
          obtain ⟨h13, m35⟩ := h_ck m34
          clear m34
          obtain ⟨q14, bq14, m36⟩ := h_bd m35
          clear m35
          refine r_aaload hw 2 (by decide) h13 bq14 dX7_find_38 ?_
          refine r_aload_n hw dX7_find_39 0 rfl ?_
          obtain ⟨q15, bq15, m37⟩ := h_bd m36
          clear m36
          refine r_getR hw fO_X7_68 h1 bq15 dX7_find_40 ?_
          obtain ⟨h17, m38⟩ := h_ck m37
          clear m37
          obtain ⟨M16, g16, m39⟩ := h_bd m38
          clear m38
          refine r_callV0 hw (tX3_placeInto l G b0 g16) lB_X3_placeInto lI_X3_placeInto mL_X7_153 (c := 3) rfl h17 rfl (Nat.le_of_ble_eq_true rfl) (Nat.le_of_ble_eq_true rfl) rfl (Nat.le_of_ble_eq_true rfl) dX7_find_43 ?_
          refine r_aload_n hw dX7_find_46 0 rfl ?_
          refine r_getR hw fO_X7_68 h1 bq15 dX7_find_47 ?_
          refine r_iload_n hw dX7_find_50 1 rfl ?_
          refine r_iload_n hw dX7_find_51 2 rfl ?_
          obtain ⟨h19, m40⟩ := h_ck m39
          clear m39
          obtain ⟨i18, g18, m41⟩ := h_bd m40
          clear m40
          refine r_callV1 hw (tX5_holds l G b0 g18) lB_X5_holds lI_X5_holds mL_X7_262 (c := 5) rfl h19 rfl (Nat.le_of_ble_eq_true rfl) (Nat.le_of_ble_eq_true rfl) rfl (Nat.le_of_ble_eq_true rfl) dX7_find_52 ?_
          refine r_if_eq (tgt := 62) hw dX7_find_55 (by decide) (fun c20 => ?_) (fun c20 => ?_)
          · have m42 := h_if_t c20 m41
            clear m41
            obtain ⟨i21, ei21, m43⟩ := h_nm m42
            clear m42
            refine r_iinc (j := 4) (v := i21) hw dX7_find_62 rfl (by rw [ei21]; rfl) (by decide) rfl ?_
            refine r_goto (tgt := 23) hw dX7_find_65 (by decide) ?_
            refine r_sub hw [1, 2, 3, 4, 0] rfl ?_
            exact ih23 _ _ m43
          · have m44 := h_if_f c20 m41
            clear m41
            have m45 := h_ex m44 hv23
            clear m44
            refine r_iload hw dX7_find_58 4 rfl ?_
            refine r_i2l hw dX7_find_60 ?_
            cases h_ret m45
            exact r_lreturn hq rfl rfl dX7_find_61
    exact L23 n023 _ _ hn23
  · have m46 := h_if_t c3 m23
    clear m23
    refine r_ldc2 (v := (-9000000000000000001)) hw dX7_find_8 kW_X7_87 ?_
    cases h_ret m46
    exact r_lreturn hq rfl rfl dX7_find_11
theorem dX7_firstPairOver_0 : decode cX7_firstPairOver 0 = .ok (.iconst 0, 1) := by decide +kernel
theorem dX7_firstPairOver_1 : decode cX7_firstPairOver 1 = .ok (.istore_n 2, 1) := by decide +kernel
theorem dX7_firstPairOver_2 : decode cX7_firstPairOver 2 = .ok (.iload_n 2, 1) := by decide +kernel
theorem dX7_firstPairOver_3 : decode cX7_firstPairOver 3 = .ok (.aload_n 1, 1) := by decide +kernel
theorem dX7_firstPairOver_4 : decode cX7_firstPairOver 4 = .ok (.getfield 148, 3) := by decide +kernel
theorem dX7_firstPairOver_7 : decode cX7_firstPairOver 7 = .ok (.if_icmp .ge 77, 3) := by decide +kernel
theorem dX7_firstPairOver_10 : decode cX7_firstPairOver 10 = .ok (.iload_n 2, 1) := by decide +kernel
theorem dX7_firstPairOver_11 : decode cX7_firstPairOver 11 = .ok (.iconst 1, 1) := by decide +kernel
theorem dX7_firstPairOver_12 : decode cX7_firstPairOver 12 = .ok (.iadd, 1) := by decide +kernel
theorem dX7_firstPairOver_13 : decode cX7_firstPairOver 13 = .ok (.istore_n 3, 1) := by decide +kernel
theorem dX7_firstPairOver_14 : decode cX7_firstPairOver 14 = .ok (.iload_n 3, 1) := by decide +kernel
theorem dX7_firstPairOver_15 : decode cX7_firstPairOver 15 = .ok (.aload_n 1, 1) := by decide +kernel
theorem dX7_firstPairOver_16 : decode cX7_firstPairOver 16 = .ok (.getfield 148, 3) := by decide +kernel
theorem dX7_firstPairOver_19 : decode cX7_firstPairOver 19 = .ok (.if_icmp .ge 59, 3) := by decide +kernel
theorem dX7_firstPairOver_22 : decode cX7_firstPairOver 22 = .ok (.aload_n 1, 1) := by decide +kernel
theorem dX7_firstPairOver_23 : decode cX7_firstPairOver 23 = .ok (.getfield 149, 3) := by decide +kernel
theorem dX7_firstPairOver_26 : decode cX7_firstPairOver 26 = .ok (.iload_n 2, 1) := by decide +kernel
theorem dX7_firstPairOver_27 : decode cX7_firstPairOver 27 = .ok (.aaload, 1) := by decide +kernel
theorem dX7_firstPairOver_28 : decode cX7_firstPairOver 28 = .ok (.getfield 230, 3) := by decide +kernel
theorem dX7_firstPairOver_31 : decode cX7_firstPairOver 31 = .ok (.ifCond .ne 41, 3) := by decide +kernel
theorem dX7_firstPairOver_34 : decode cX7_firstPairOver 34 = .ok (.aload_n 1, 1) := by decide +kernel
theorem dX7_firstPairOver_35 : decode cX7_firstPairOver 35 = .ok (.getfield 149, 3) := by decide +kernel
theorem dX7_firstPairOver_38 : decode cX7_firstPairOver 38 = .ok (.iload_n 3, 1) := by decide +kernel
theorem dX7_firstPairOver_39 : decode cX7_firstPairOver 39 = .ok (.aaload, 1) := by decide +kernel
theorem dX7_firstPairOver_40 : decode cX7_firstPairOver 40 = .ok (.getfield 230, 3) := by decide +kernel
theorem dX7_firstPairOver_43 : decode cX7_firstPairOver 43 = .ok (.ifCond .ne 29, 3) := by decide +kernel
theorem dX7_firstPairOver_46 : decode cX7_firstPairOver 46 = .ok (.aload_n 0, 1) := by decide +kernel
theorem dX7_firstPairOver_47 : decode cX7_firstPairOver 47 = .ok (.getfield 80, 3) := by decide +kernel
theorem dX7_firstPairOver_50 : decode cX7_firstPairOver 50 = .ok (.iload_n 2, 1) := by decide +kernel
theorem dX7_firstPairOver_51 : decode cX7_firstPairOver 51 = .ok (.aaload, 1) := by decide +kernel
theorem dX7_firstPairOver_52 : decode cX7_firstPairOver 52 = .ok (.aload_n 0, 1) := by decide +kernel
theorem dX7_firstPairOver_53 : decode cX7_firstPairOver 53 = .ok (.getfield 80, 3) := by decide +kernel
theorem dX7_firstPairOver_56 : decode cX7_firstPairOver 56 = .ok (.iload_n 3, 1) := by decide +kernel
theorem dX7_firstPairOver_57 : decode cX7_firstPairOver 57 = .ok (.aaload, 1) := by decide +kernel
theorem dX7_firstPairOver_58 : decode cX7_firstPairOver 58 = .ok (.invokevirtual 259, 3) := by decide +kernel
theorem dX7_firstPairOver_61 : decode cX7_firstPairOver 61 = .ok (.ifCond .eq 11, 3) := by decide +kernel
theorem dX7_firstPairOver_64 : decode cX7_firstPairOver 64 = .ok (.bipush 40, 2) := by decide +kernel
theorem dX7_firstPairOver_66 : decode cX7_firstPairOver 66 = .ok (.iload_n 2, 1) := by decide +kernel
theorem dX7_firstPairOver_67 : decode cX7_firstPairOver 67 = .ok (.imul, 1) := by decide +kernel
theorem dX7_firstPairOver_68 : decode cX7_firstPairOver 68 = .ok (.iload_n 3, 1) := by decide +kernel
theorem dX7_firstPairOver_69 : decode cX7_firstPairOver 69 = .ok (.iadd, 1) := by decide +kernel
theorem dX7_firstPairOver_70 : decode cX7_firstPairOver 70 = .ok (.i2l, 1) := by decide +kernel
theorem dX7_firstPairOver_71 : decode cX7_firstPairOver 71 = .ok (.lreturn, 1) := by decide +kernel
theorem dX7_firstPairOver_72 : decode cX7_firstPairOver 72 = .ok (.iinc 3 1, 3) := by decide +kernel
theorem dX7_firstPairOver_75 : decode cX7_firstPairOver 75 = .ok (.goto (-61), 3) := by decide +kernel
theorem dX7_firstPairOver_78 : decode cX7_firstPairOver 78 = .ok (.iinc 2 1, 3) := by decide +kernel
theorem dX7_firstPairOver_81 : decode cX7_firstPairOver 81 = .ok (.goto (-79), 3) := by decide +kernel
theorem dX7_firstPairOver_84 : decode cX7_firstPairOver 84 = .ok (.ldc2_w 250, 3) := by decide +kernel
theorem dX7_firstPairOver_87 : decode cX7_firstPairOver 87 = .ok (.lreturn, 1) := by decide +kernel
set_option maxHeartbeats 4000000 in
set_option maxRecDepth 100000 in
theorem tX7_firstPairOver (l : Launch) (G : Gg) (b0 : Nat) {K : Kk} {R : Rr} {M : Mm} {r : Nat} {a0 : Nat} {res : Int64} (hm : mX7_firstPairOver K R M r a0 = some (res)) : CT l G b0 yX7_firstPairOver cX7_firstPairOver 4 (some .long) (rmz 6 116) [.ref r, .ref a0] K R M (some (.long res)) K R M := by
  refine ct_of (by decide +kernel) (Nat.le_of_ble_eq_true rfl) (fun w hq => ?_)
  have hw := hq.b
  change w 0 0 0 [(0, .ref r), (1, .ref a0)] [] K R M
  replace hm := h_start hm
  unfold mX7_firstPairOver at hm
  obtain ⟨h1, m29⟩ := h_ck hm
  clear hm
  obtain ⟨h2, m30⟩ := h_ck m29
  clear m29
  refine r_iconst (v := 0) hw dX7_firstPairOver_0 rfl ?_
  obtain ⟨i3, ei3, m31⟩ := h_nm m30
  clear m30
  refine r_topI (w := w) ei3 ?_
  refine r_istore_n hw dX7_firstPairOver_1 rfl (by decide) rfl ?_
  refine r_sub hw [1, 2, 0] rfl ?_
  obtain ⟨v2, n02, hn2, hv2⟩ := h_lp m31
  clear m31
  have L2 : ∀ n : Nat, ∀ (i4 : Int32), it (mX7_firstPairOver_L2 K R M r a0) n (i4) = some v2 → w 0 0 2 [(0, .ref r), (1, .ref a0), (2, .int i4)] [] K R M := by
    intro n2
    induction n2 with
    | zero => intro i4 hz; exact absurd hz h_it0
    | succ n2 ih2 =>
      intro i4 m32
      replace m32 : (mX7_firstPairOver_B2 K R M r a0 i4).bind (Sum.elim (it (mX7_firstPairOver_L2 K R M r a0) n2) some) = some v2 := m32
      unfold mX7_firstPairOver_B2 at m32
      refine r_iload_n hw dX7_firstPairOver_2 2 rfl ?_
      refine r_aload_n hw dX7_firstPairOver_3 1 rfl ?_
      refine r_getI hw fO_X7_148 h2 dX7_firstPairOver_4 ?_
      refine r_icmp_ge (tgt := 84) hw dX7_firstPairOver_7 (by decide) (fun c5 => ?_) (fun c5 => ?_)
      · have m33 := h_if_f c5 m32
        clear m32
        have m34 := h_ex m33 hv2
        clear m33
        refine r_ldc2 (v := (-9000000000000000005)) hw dX7_firstPairOver_84 kW_X7_250 ?_
        cases h_ret m34
        exact r_lreturn hq rfl rfl dX7_firstPairOver_87
      · have m35 := h_if_t c5 m32
        clear m32
        refine r_iload_n hw dX7_firstPairOver_10 2 rfl ?_
        refine r_iconst (v := 1) hw dX7_firstPairOver_11 rfl ?_
        refine r_iadd hw dX7_firstPairOver_12 ?_
        obtain ⟨i6, ei6, m36⟩ := h_nm m35
        clear m35
        refine r_topI (w := w) ei6 ?_
        refine r_istore_n hw dX7_firstPairOver_13 rfl (by decide) rfl ?_
        refine r_sub hw [1, 2, 3, 0] rfl ?_
        obtain ⟨v14, n014, hn14, hv14⟩ := h_lp m36
        clear m36
        have L14 : ∀ n : Nat, ∀ (i7 : Int32), it (mX7_firstPairOver_L14 K R M r a0 i4) n (i7) = some v14 → w 0 0 14 [(0, .ref r), (1, .ref a0), (2, .int i4), (3, .int i7)] [] K R M := by
          intro n14
          induction n14 with
          | zero => intro i7 hz; exact absurd hz h_it0
          | succ n14 ih14 =>
            intro i7 m37
            replace m37 : (mX7_firstPairOver_B14 K R M r a0 i4 i7).bind (Sum.elim (it (mX7_firstPairOver_L14 K R M r a0 i4) n14) some) = some v14 := m37
            unfold mX7_firstPairOver_B14 at m37
            have J72 : ∀ (i8 : Int32), (mX7_firstPairOver_J72 K R M r a0 i4 i8).bind (Sum.elim (it (mX7_firstPairOver_L14 K R M r a0 i4) n14) some) = some v14 → w 0 0 72 [(0, .ref r), (1, .ref a0), (2, .int i4), (3, .int i8)] [] K R M := by
              intro i8 m38
              unfold mX7_firstPairOver_J72 at m38
              obtain ⟨i9, ei9, m39⟩ := h_nm m38
              clear m38
              refine r_iinc (j := 3) (v := i9) hw dX7_firstPairOver_72 rfl (by rw [ei9]; rfl) (by decide) rfl ?_
              refine r_goto (tgt := 14) hw dX7_firstPairOver_75 (by decide) ?_
              refine r_sub hw [1, 2, 3, 0] rfl ?_
              exact ih14 _ m39
            refine r_iload_n hw dX7_firstPairOver_14 3 rfl ?_
            refine r_aload_n hw dX7_firstPairOver_15 1 rfl ?_
            refine r_getI hw fO_X7_148 h2 dX7_firstPairOver_16 ?_
            refine r_icmp_ge (tgt := 78) hw dX7_firstPairOver_19 (by decide) (fun c10 => ?_) (fun c10 => ?_)
            · have m40 := h_if_f c10 m37
              clear m37
              have m41 := h_ex m40 hv14
              clear m40
              obtain ⟨i11, ei11, m42⟩ := h_nm m41
              clear m41
              refine r_iinc (j := 2) (v := i11) hw dX7_firstPairOver_78 rfl (by rw [ei11]; rfl) (by decide) rfl ?_
              refine r_goto (tgt := 2) hw dX7_firstPairOver_81 (by decide) ?_
              refine r_sub hw [1, 2, 0] rfl ?_
              exact ih2 _ m42
            · have m43 := h_if_t c10 m37
              clear m37
              refine r_aload_n hw dX7_firstPairOver_22 1 rfl ?_
              obtain ⟨q12, bq12, m44⟩ := h_bd m43
              clear m43
              refine r_getR hw fO_X7_149 h2 bq12 dX7_firstPairOver_23 ?_
              refine r_iload_n hw dX7_firstPairOver_26 2 rfl ?_
              obtain ⟨h13, m45⟩ := h_ck m44
              clear m44
              obtain ⟨q14, bq14, m46⟩ := h_bd m45
              clear m45
              refine r_aaload hw 2 (by decide) h13 bq14 dX7_firstPairOver_27 ?_
              obtain ⟨h15, m47⟩ := h_ck m46
              clear m46
              refine r_getI hw fO_X7_230 h15 dX7_firstPairOver_28 ?_
              refine r_if_ne (tgt := 72) hw dX7_firstPairOver_31 (by decide) (fun c16 => ?_) (fun c16 => ?_)
              · have m48 := h_if_f c16 m47
                clear m47
                exact J72 _ m48
              · have m49 := h_if_t c16 m47
                clear m47
                refine r_aload_n hw dX7_firstPairOver_34 1 rfl ?_
                refine r_getR hw fO_X7_149 h2 bq12 dX7_firstPairOver_35 ?_
                refine r_iload_n hw dX7_firstPairOver_38 3 rfl ?_
                obtain ⟨h17, m50⟩ := h_ck m49
                clear m49
                obtain ⟨q18, bq18, m51⟩ := h_bd m50
                clear m50
                refine r_aaload hw 2 (by decide) h17 bq18 dX7_firstPairOver_39 ?_
                obtain ⟨h19, m52⟩ := h_ck m51
                clear m51
                refine r_getI hw fO_X7_230 h19 dX7_firstPairOver_40 ?_
                refine r_if_ne (tgt := 72) hw dX7_firstPairOver_43 (by decide) (fun c20 => ?_) (fun c20 => ?_)
                · have m53 := h_if_f c20 m52
                  clear m52
                  exact J72 _ m53
                · have m54 := h_if_t c20 m52
                  clear m52
                  refine r_aload_n hw dX7_firstPairOver_46 0 rfl ?_
                  obtain ⟨q21, bq21, m55⟩ := h_bd m54
                  clear m54
                  refine r_getR hw fO_X7_80 h1 bq21 dX7_firstPairOver_47 ?_
                  refine r_iload_n hw dX7_firstPairOver_50 2 rfl ?_
                  obtain ⟨h22, m56⟩ := h_ck m55
                  clear m55
                  obtain ⟨q23, bq23, m57⟩ := h_bd m56
                  clear m56
                  refine r_aaload hw 0 (by decide) h22 bq23 dX7_firstPairOver_51 ?_
                  refine r_aload_n hw dX7_firstPairOver_52 0 rfl ?_
                  refine r_getR hw fO_X7_80 h1 bq21 dX7_firstPairOver_53 ?_
                  refine r_iload_n hw dX7_firstPairOver_56 3 rfl ?_
                  obtain ⟨h24, m58⟩ := h_ck m57
                  clear m57
                  obtain ⟨q25, bq25, m59⟩ := h_bd m58
                  clear m58
                  refine r_aaload hw 0 (by decide) h24 bq25 dX7_firstPairOver_57 ?_
                  obtain ⟨h27, m60⟩ := h_ck m59
                  clear m59
                  obtain ⟨i26, g26, m61⟩ := h_bd m60
                  clear m60
                  refine r_callV1 hw (tX5_liesOver l G b0 g26) lB_X5_liesOver lI_X5_liesOver mL_X7_259 (c := 5) rfl h27 rfl (Nat.le_of_ble_eq_true rfl) (Nat.le_of_ble_eq_true rfl) rfl (Nat.le_of_ble_eq_true rfl) dX7_firstPairOver_58 ?_
                  refine r_if_eq (tgt := 72) hw dX7_firstPairOver_61 (by decide) (fun c28 => ?_) (fun c28 => ?_)
                  · have m62 := h_if_t c28 m61
                    clear m61
                    exact J72 _ m62
                  · have m63 := h_if_f c28 m61
                    clear m61
                    have m64 := h_ex m63 hv14
                    clear m63
                    have m65 := h_ex m64 hv2
                    clear m64
                    refine r_bipush (v := 40) hw dX7_firstPairOver_64 rfl ?_
                    refine r_iload_n hw dX7_firstPairOver_66 2 rfl ?_
                    refine r_imul hw dX7_firstPairOver_67 ?_
                    refine r_iload_n hw dX7_firstPairOver_68 3 rfl ?_
                    refine r_iadd hw dX7_firstPairOver_69 ?_
                    refine r_i2l hw dX7_firstPairOver_70 ?_
                    cases h_ret m65
                    exact r_lreturn hq rfl rfl dX7_firstPairOver_71
        exact L14 n014 _ hn14
  exact L2 n02 _ hn2
theorem dX7_covers_0 : decode cX7_covers 0 = .ok (.iload_n 1, 1) := by decide +kernel
theorem dX7_covers_1 : decode cX7_covers 1 = .ok (.invokestatic 99, 3) := by decide +kernel
theorem dX7_covers_4 : decode cX7_covers 4 = .ok (.ifCond .ne 7, 3) := by decide +kernel
theorem dX7_covers_7 : decode cX7_covers 7 = .ok (.ldc2_w 87, 3) := by decide +kernel
theorem dX7_covers_10 : decode cX7_covers 10 = .ok (.lreturn, 1) := by decide +kernel
theorem dX7_covers_11 : decode cX7_covers 11 = .ok (.aload_n 0, 1) := by decide +kernel
theorem dX7_covers_12 : decode cX7_covers 12 = .ok (.getfield 18, 3) := by decide +kernel
theorem dX7_covers_15 : decode cX7_covers 15 = .ok (.iload_n 1, 1) := by decide +kernel
theorem dX7_covers_16 : decode cX7_covers 16 = .ok (.aaload, 1) := by decide +kernel
theorem dX7_covers_17 : decode cX7_covers 17 = .ok (.astore_n 2, 1) := by decide +kernel
theorem dX7_covers_18 : decode cX7_covers 18 = .ok (.aload_n 2, 1) := by decide +kernel
theorem dX7_covers_19 : decode cX7_covers 19 = .ok (.getfield 89, 3) := by decide +kernel
theorem dX7_covers_22 : decode cX7_covers 22 = .ok (.ifCond .ne 7, 3) := by decide +kernel
theorem dX7_covers_25 : decode cX7_covers 25 = .ok (.ldc2_w 118, 3) := by decide +kernel
theorem dX7_covers_28 : decode cX7_covers 28 = .ok (.lreturn, 1) := by decide +kernel
theorem dX7_covers_29 : decode cX7_covers 29 = .ok (.aload_n 0, 1) := by decide +kernel
theorem dX7_covers_30 : decode cX7_covers 30 = .ok (.getfield 25, 3) := by decide +kernel
theorem dX7_covers_33 : decode cX7_covers 33 = .ok (.invokevirtual 145, 3) := by decide +kernel
theorem dX7_covers_36 : decode cX7_covers 36 = .ok (.astore_n 3, 1) := by decide +kernel
theorem dX7_covers_37 : decode cX7_covers 37 = .ok (.iconst 0, 1) := by decide +kernel
theorem dX7_covers_38 : decode cX7_covers 38 = .ok (.istore 4, 2) := by decide +kernel
theorem dX7_covers_40 : decode cX7_covers 40 = .ok (.iload 4, 2) := by decide +kernel
theorem dX7_covers_42 : decode cX7_covers 42 = .ok (.aload_n 3, 1) := by decide +kernel
theorem dX7_covers_43 : decode cX7_covers 43 = .ok (.getfield 148, 3) := by decide +kernel
theorem dX7_covers_46 : decode cX7_covers 46 = .ok (.if_icmp .ge 59, 3) := by decide +kernel
theorem dX7_covers_49 : decode cX7_covers 49 = .ok (.aload_n 3, 1) := by decide +kernel
theorem dX7_covers_50 : decode cX7_covers 50 = .ok (.getfield 149, 3) := by decide +kernel
theorem dX7_covers_53 : decode cX7_covers 53 = .ok (.iload 4, 2) := by decide +kernel
theorem dX7_covers_55 : decode cX7_covers 55 = .ok (.aaload, 1) := by decide +kernel
theorem dX7_covers_56 : decode cX7_covers 56 = .ok (.aload_n 0, 1) := by decide +kernel
theorem dX7_covers_57 : decode cX7_covers 57 = .ok (.getfield 80, 3) := by decide +kernel
theorem dX7_covers_60 : decode cX7_covers 60 = .ok (.iload 4, 2) := by decide +kernel
theorem dX7_covers_62 : decode cX7_covers 62 = .ok (.aaload, 1) := by decide +kernel
theorem dX7_covers_63 : decode cX7_covers 63 = .ok (.invokevirtual 153, 3) := by decide +kernel
theorem dX7_covers_66 : decode cX7_covers 66 = .ok (.aload_n 3, 1) := by decide +kernel
theorem dX7_covers_67 : decode cX7_covers 67 = .ok (.getfield 149, 3) := by decide +kernel
theorem dX7_covers_70 : decode cX7_covers 70 = .ok (.iload 4, 2) := by decide +kernel
theorem dX7_covers_72 : decode cX7_covers 72 = .ok (.aaload, 1) := by decide +kernel
theorem dX7_covers_73 : decode cX7_covers 73 = .ok (.getfield 230, 3) := by decide +kernel
theorem dX7_covers_76 : decode cX7_covers 76 = .ok (.ifCond .ne 23, 3) := by decide +kernel
theorem dX7_covers_79 : decode cX7_covers 79 = .ok (.aload_n 2, 1) := by decide +kernel
theorem dX7_covers_80 : decode cX7_covers 80 = .ok (.aload_n 0, 1) := by decide +kernel
theorem dX7_covers_81 : decode cX7_covers 81 = .ok (.getfield 80, 3) := by decide +kernel
theorem dX7_covers_84 : decode cX7_covers 84 = .ok (.iload 4, 2) := by decide +kernel
theorem dX7_covers_86 : decode cX7_covers 86 = .ok (.aaload, 1) := by decide +kernel
theorem dX7_covers_87 : decode cX7_covers 87 = .ok (.invokevirtual 265, 3) := by decide +kernel
theorem dX7_covers_90 : decode cX7_covers 90 = .ok (.ifCond .ne 9, 3) := by decide +kernel
theorem dX7_covers_93 : decode cX7_covers 93 = .ok (.iconst 1, 1) := by decide +kernel
theorem dX7_covers_94 : decode cX7_covers 94 = .ok (.iload 4, 2) := by decide +kernel
theorem dX7_covers_96 : decode cX7_covers 96 = .ok (.iadd, 1) := by decide +kernel
theorem dX7_covers_97 : decode cX7_covers 97 = .ok (.i2l, 1) := by decide +kernel
theorem dX7_covers_98 : decode cX7_covers 98 = .ok (.lreturn, 1) := by decide +kernel
theorem dX7_covers_99 : decode cX7_covers 99 = .ok (.iinc 4 1, 3) := by decide +kernel
theorem dX7_covers_102 : decode cX7_covers 102 = .ok (.goto (-62), 3) := by decide +kernel
theorem dX7_covers_105 : decode cX7_covers 105 = .ok (.aload_n 0, 1) := by decide +kernel
theorem dX7_covers_106 : decode cX7_covers 106 = .ok (.aload_n 3, 1) := by decide +kernel
theorem dX7_covers_107 : decode cX7_covers 107 = .ok (.invokevirtual 268, 3) := by decide +kernel
theorem dX7_covers_110 : decode cX7_covers 110 = .ok (.lstore 4, 2) := by decide +kernel
theorem dX7_covers_112 : decode cX7_covers 112 = .ok (.lload 4, 2) := by decide +kernel
theorem dX7_covers_114 : decode cX7_covers 114 = .ok (.ldc2_w 250, 3) := by decide +kernel
theorem dX7_covers_117 : decode cX7_covers 117 = .ok (.lcmp, 1) := by decide +kernel
theorem dX7_covers_118 : decode cX7_covers 118 = .ok (.ifCond .eq 10, 3) := by decide +kernel
theorem dX7_covers_121 : decode cX7_covers 121 = .ok (.ldc2_w 272, 3) := by decide +kernel
theorem dX7_covers_124 : decode cX7_covers 124 = .ok (.lload 4, 2) := by decide +kernel
theorem dX7_covers_126 : decode cX7_covers 126 = .ok (.ladd, 1) := by decide +kernel
theorem dX7_covers_127 : decode cX7_covers 127 = .ok (.lreturn, 1) := by decide +kernel
theorem dX7_covers_128 : decode cX7_covers 128 = .ok (.aload_n 3, 1) := by decide +kernel
theorem dX7_covers_129 : decode cX7_covers 129 = .ok (.invokevirtual 274, 3) := by decide +kernel
theorem dX7_covers_132 : decode cX7_covers 132 = .ok (.aload_n 2, 1) := by decide +kernel
theorem dX7_covers_133 : decode cX7_covers 133 = .ok (.invokevirtual 103, 3) := by decide +kernel
theorem dX7_covers_136 : decode cX7_covers 136 = .ok (.lcmp, 1) := by decide +kernel
theorem dX7_covers_137 : decode cX7_covers 137 = .ok (.ifCond .ne 7, 3) := by decide +kernel
theorem dX7_covers_140 : decode cX7_covers 140 = .ok (.lconst 0, 1) := by decide +kernel
theorem dX7_covers_141 : decode cX7_covers 141 = .ok (.goto 6, 3) := by decide +kernel
theorem dX7_covers_144 : decode cX7_covers 144 = .ok (.ldc2_w 275, 3) := by decide +kernel
theorem dX7_covers_147 : decode cX7_covers 147 = .ok (.lreturn, 1) := by decide +kernel
set_option maxHeartbeats 4000000 in
set_option maxRecDepth 100000 in
theorem tX7_covers (l : Launch) (G : Gg) (b0 : Nat) {K : Kk} {R : Rr} {M : Mm} {r : Nat} {a0 : Int32} {res : Int64} {M' : Mm} (hm : mX7_covers K R M r a0 = some (res, M')) : CT l G b0 yX7_covers cX7_covers 6 (some .long) (rmz 7 139) [.ref r, .int a0] K R M (some (.long res)) K R M' := by
  refine ct_of (by decide +kernel) (Nat.le_of_ble_eq_true rfl) (fun w hq => ?_)
  have hw := hq.b
  change w 0 0 0 [(0, .ref r), (1, .int a0)] [] K R M
  replace hm := h_start hm
  unfold mX7_covers at hm
  obtain ⟨h1, m36⟩ := h_ck hm
  clear hm
  refine r_iload_n hw dX7_covers_0 1 rfl ?_
  obtain ⟨i2, g2, m37⟩ := h_bd m36
  clear m36
  refine r_callS1 hw (tX7_isFigure l G b0 g2) lB_X7_isFigure sT_X7_isFigure mL_X7_99 rfl rfl (Nat.le_of_ble_eq_true rfl) (Nat.le_of_ble_eq_true rfl) rfl (Nat.le_of_ble_eq_true rfl) dX7_covers_1 ?_
  refine r_if_ne (tgt := 11) hw dX7_covers_4 (by decide) (fun c3 => ?_) (fun c3 => ?_)
  · have m38 := h_if_f c3 m37
    clear m37
    refine r_aload_n hw dX7_covers_11 0 rfl ?_
    obtain ⟨q4, bq4, m39⟩ := h_bd m38
    clear m38
    refine r_getR hw fO_X7_18 h1 bq4 dX7_covers_12 ?_
    refine r_iload_n hw dX7_covers_15 1 rfl ?_
    obtain ⟨h5, m40⟩ := h_ck m39
    clear m39
    obtain ⟨q6, bq6, m41⟩ := h_bd m40
    clear m40
    refine r_aaload hw 0 (by decide) h5 bq6 dX7_covers_16 ?_
    refine r_astore_n hw dX7_covers_17 rfl (by decide) rfl ?_
    refine r_aload_n hw dX7_covers_18 0 rfl ?_
    obtain ⟨h7, m42⟩ := h_ck m41
    clear m41
    refine r_getI hw fO_X7_89 h7 dX7_covers_19 ?_
    refine r_if_ne (tgt := 29) hw dX7_covers_22 (by decide) (fun c8 => ?_) (fun c8 => ?_)
    · have m43 := h_if_f c8 m42
      clear m42
      refine r_aload_n hw dX7_covers_29 1 rfl ?_
      obtain ⟨q9, bq9, m44⟩ := h_bd m43
      clear m43
      refine r_getR hw fO_X7_25 h1 bq9 dX7_covers_30 ?_
      obtain ⟨h11, m45⟩ := h_ck m44
      clear m44
      obtain ⟨q10, g10, m46⟩ := h_bd m45
      clear m45
      refine r_callV1 hw (tX1_now l G b0 g10) lB_X1_now lI_X1_now mL_X7_145 (c := 1) rfl h11 rfl (Nat.le_of_ble_eq_true rfl) (Nat.le_of_ble_eq_true rfl) rfl (Nat.le_of_ble_eq_true rfl) dX7_covers_33 ?_
      refine r_astore_n hw dX7_covers_36 rfl (by decide) rfl ?_
      refine r_iconst (v := 0) hw dX7_covers_37 rfl ?_
      obtain ⟨i12, ei12, m47⟩ := h_nm m46
      clear m46
      refine r_topI (w := w) ei12 ?_
      refine r_istore hw dX7_covers_38 (by decide) rfl ?_
      refine r_sub hw [3, 2, 1, 0] rfl ?_
      obtain ⟨v40, n040, hn40, hv40⟩ := h_lp m47
      clear m47
      have L40 : ∀ n : Nat, ∀ (i13 : Int32) (M14 : Mm), it (mX7_covers_L40 K R r q6 q10) n (i13, M14) = some v40 → w 0 0 40 [(0, .ref r), (2, .ref q6), (3, .ref q10), (4, .int i13)] [] K R M14 := by
        intro n40
        induction n40 with
        | zero => intro i13 M14 hz; exact absurd hz h_it0
        | succ n40 ih40 =>
          intro i13 M14 m48
          replace m48 : (mX7_covers_B40 K R r q6 q10 i13 M14).bind (Sum.elim (it (mX7_covers_L40 K R r q6 q10) n40) some) = some v40 := m48
          unfold mX7_covers_B40 at m48
          have J99 : ∀ (M16 : Mm) (i15 : Int32), (mX7_covers_J99 K R M16 r q6 q10 i15).bind (Sum.elim (it (mX7_covers_L40 K R r q6 q10) n40) some) = some v40 → w 0 0 99 [(0, .ref r), (2, .ref q6), (3, .ref q10), (4, .int i15)] [] K R M16 := by
            intro M16 i15 m49
            unfold mX7_covers_J99 at m49
            obtain ⟨i17, ei17, m50⟩ := h_nm m49
            clear m49
            refine r_iinc (j := 3) (v := i17) hw dX7_covers_99 rfl (by rw [ei17]; rfl) (by decide) rfl ?_
            refine r_goto (tgt := 40) hw dX7_covers_102 (by decide) ?_
            refine r_sub hw [1, 2, 3, 0] rfl ?_
            exact ih40 _ _ m50
          refine r_iload hw dX7_covers_40 3 rfl ?_
          refine r_aload_n hw dX7_covers_42 2 rfl ?_
          obtain ⟨h18, m51⟩ := h_ck m48
          clear m48
          refine r_getI hw fO_X7_148 h18 dX7_covers_43 ?_
          refine r_icmp_ge (tgt := 105) hw dX7_covers_46 (by decide) (fun c19 => ?_) (fun c19 => ?_)
          · have m52 := h_if_f c19 m51
            clear m51
            have m53 := h_ex m52 hv40
            clear m52
            refine r_aload_n hw dX7_covers_105 0 rfl ?_
            refine r_aload_n hw dX7_covers_106 2 rfl ?_
            obtain ⟨l20, g20, m54⟩ := h_bd m53
            clear m53
            refine r_callV1 hw (tX7_firstPairOver l G b0 g20) lB_X7_firstPairOver lI_X7_firstPairOver mL_X7_268 (c := 7) rfl h1 rfl (Nat.le_of_ble_eq_true rfl) (Nat.le_of_ble_eq_true rfl) rfl (Nat.le_of_ble_eq_true rfl) dX7_covers_107 ?_
            refine r_lstore hw dX7_covers_110 (by decide) rfl ?_
            refine r_lload hw dX7_covers_112 0 rfl ?_
            refine r_ldc2 (v := (-9000000000000000005)) hw dX7_covers_114 kW_X7_250 ?_
            refine r_lcmp_eq (tgt := 128) hw dX7_covers_117 dX7_covers_118 (by decide) (fun c21 => ?_) (fun c21 => ?_)
            · have m55 := h_if_t c21 m54
              clear m54
              refine r_aload_n hw dX7_covers_128 3 rfl ?_
              obtain ⟨l22, g22, m56⟩ := h_bd m55
              clear m55
              refine r_callV1 hw (tX4_twiceArea l G b0 g22) lB_X4_twiceArea lI_X4_twiceArea mL_X7_274 (c := 4) rfl h18 rfl (Nat.le_of_ble_eq_true rfl) (Nat.le_of_ble_eq_true rfl) rfl (Nat.le_of_ble_eq_true rfl) dX7_covers_129 ?_
              refine r_aload_n hw dX7_covers_132 2 rfl ?_
              obtain ⟨l23, g23, m57⟩ := h_bd m56
              clear m56
              refine r_callV1 hw (tX5_twiceArea l G b0 g23) lB_X5_twiceArea lI_X5_twiceArea mL_X7_103 (c := 5) rfl h7 rfl (Nat.le_of_ble_eq_true rfl) (Nat.le_of_ble_eq_true rfl) rfl (Nat.le_of_ble_eq_true rfl) dX7_covers_133 ?_
              refine r_lcmp_ne (tgt := 144) hw dX7_covers_136 dX7_covers_137 (by decide) (fun c24 => ?_) (fun c24 => ?_)
              · have m58 := h_if_f c24 m57
                clear m57
                refine r_ldc2 (v := 2000) hw dX7_covers_144 kW_X7_275 ?_
                cases h_ret m58
                exact r_lreturn hq rfl rfl dX7_covers_147
              · have m59 := h_if_t c24 m57
                clear m57
                refine r_lconst (v := 0) hw dX7_covers_140 rfl ?_
                refine r_goto (tgt := 147) hw dX7_covers_141 (by decide) ?_
                cases h_ret m59
                exact r_lreturn hq rfl rfl dX7_covers_147
            · have m60 := h_if_f c21 m54
              clear m54
              refine r_ldc2 (v := 100) hw dX7_covers_121 kW_X7_272 ?_
              refine r_lload hw dX7_covers_124 0 rfl ?_
              refine r_ladd hw dX7_covers_126 ?_
              cases h_ret m60
              exact r_lreturn hq rfl rfl dX7_covers_127
          · have m61 := h_if_t c19 m51
            clear m51
            refine r_aload_n hw dX7_covers_49 2 rfl ?_
            obtain ⟨q25, bq25, m62⟩ := h_bd m61
            clear m61
            refine r_getR hw fO_X7_149 h18 bq25 dX7_covers_50 ?_
            refine r_iload hw dX7_covers_53 3 rfl ?_
            obtain ⟨h26, m63⟩ := h_ck m62
            clear m62
            obtain ⟨q27, bq27, m64⟩ := h_bd m63
            clear m63
            refine r_aaload hw 2 (by decide) h26 bq27 dX7_covers_55 ?_
            refine r_aload_n hw dX7_covers_56 0 rfl ?_
            obtain ⟨q28, bq28, m65⟩ := h_bd m64
            clear m64
            refine r_getR hw fO_X7_80 h1 bq28 dX7_covers_57 ?_
            refine r_iload hw dX7_covers_60 3 rfl ?_
            obtain ⟨h29, m66⟩ := h_ck m65
            clear m65
            obtain ⟨q30, bq30, m67⟩ := h_bd m66
            clear m66
            refine r_aaload hw 0 (by decide) h29 bq30 dX7_covers_62 ?_
            obtain ⟨h32, m68⟩ := h_ck m67
            clear m67
            obtain ⟨M31, g31, m69⟩ := h_bd m68
            clear m68
            refine r_callV0 hw (tX3_placeInto l G b0 g31) lB_X3_placeInto lI_X3_placeInto mL_X7_153 (c := 3) rfl h32 rfl (Nat.le_of_ble_eq_true rfl) (Nat.le_of_ble_eq_true rfl) rfl (Nat.le_of_ble_eq_true rfl) dX7_covers_63 ?_
            refine r_aload_n hw dX7_covers_66 2 rfl ?_
            refine r_getR hw fO_X7_149 h18 bq25 dX7_covers_67 ?_
            refine r_iload hw dX7_covers_70 3 rfl ?_
            refine r_aaload hw 2 (by decide) h26 bq27 dX7_covers_72 ?_
            refine r_getI hw fO_X7_230 h32 dX7_covers_73 ?_
            refine r_if_ne (tgt := 99) hw dX7_covers_76 (by decide) (fun c33 => ?_) (fun c33 => ?_)
            · have m70 := h_if_f c33 m69
              clear m69
              exact J99 _ _ m70
            · have m71 := h_if_t c33 m69
              clear m69
              refine r_aload_n hw dX7_covers_79 1 rfl ?_
              refine r_aload_n hw dX7_covers_80 0 rfl ?_
              refine r_getR hw fO_X7_80 h1 bq28 dX7_covers_81 ?_
              refine r_iload hw dX7_covers_84 3 rfl ?_
              refine r_aaload hw 0 (by decide) h29 bq30 dX7_covers_86 ?_
              obtain ⟨i34, g34, m72⟩ := h_bd m71
              clear m71
              refine r_callV1 hw (tX5_holdsAll l G b0 g34) lB_X5_holdsAll lI_X5_holdsAll mL_X7_265 (c := 5) rfl h7 rfl (Nat.le_of_ble_eq_true rfl) (Nat.le_of_ble_eq_true rfl) rfl (Nat.le_of_ble_eq_true rfl) dX7_covers_87 ?_
              refine r_if_ne (tgt := 99) hw dX7_covers_90 (by decide) (fun c35 => ?_) (fun c35 => ?_)
              · have m73 := h_if_f c35 m72
                clear m72
                exact J99 _ _ m73
              · have m74 := h_if_t c35 m72
                clear m72
                have m75 := h_ex m74 hv40
                clear m74
                refine r_iconst (v := 1) hw dX7_covers_93 rfl ?_
                refine r_iload hw dX7_covers_94 3 rfl ?_
                refine r_iadd hw dX7_covers_96 ?_
                refine r_i2l hw dX7_covers_97 ?_
                cases h_ret m75
                exact r_lreturn hq rfl rfl dX7_covers_98
      exact L40 n040 _ _ hn40
    · have m76 := h_if_t c8 m42
      clear m42
      refine r_ldc2 (v := (-9000000000000000002)) hw dX7_covers_25 kW_X7_118 ?_
      cases h_ret m76
      exact r_lreturn hq rfl rfl dX7_covers_28
  · have m77 := h_if_t c3 m37
    clear m37
    refine r_ldc2 (v := (-9000000000000000001)) hw dX7_covers_7 kW_X7_87 ?_
    cases h_ret m77
    exact r_lreturn hq rfl rfl dX7_covers_10
theorem dX7_sumSides_0 : decode cX7_sumSides 0 = .ok (.aload_n 0, 1) := by decide +kernel
theorem dX7_sumSides_1 : decode cX7_sumSides 1 = .ok (.getfield 25, 3) := by decide +kernel
theorem dX7_sumSides_4 : decode cX7_sumSides 4 = .ok (.invokevirtual 145, 3) := by decide +kernel
theorem dX7_sumSides_7 : decode cX7_sumSides 7 = .ok (.astore_n 1, 1) := by decide +kernel
theorem dX7_sumSides_8 : decode cX7_sumSides 8 = .ok (.aload_n 0, 1) := by decide +kernel
theorem dX7_sumSides_9 : decode cX7_sumSides 9 = .ok (.getfield 43, 3) := by decide +kernel
theorem dX7_sumSides_12 : decode cX7_sumSides 12 = .ok (.iconst 0, 1) := by decide +kernel
theorem dX7_sumSides_13 : decode cX7_sumSides 13 = .ok (.putfield 280, 3) := by decide +kernel
theorem dX7_sumSides_16 : decode cX7_sumSides 16 = .ok (.iconst 0, 1) := by decide +kernel
theorem dX7_sumSides_17 : decode cX7_sumSides 17 = .ok (.istore_n 2, 1) := by decide +kernel
theorem dX7_sumSides_18 : decode cX7_sumSides 18 = .ok (.iload_n 2, 1) := by decide +kernel
theorem dX7_sumSides_19 : decode cX7_sumSides 19 = .ok (.aload_n 1, 1) := by decide +kernel
theorem dX7_sumSides_20 : decode cX7_sumSides 20 = .ok (.getfield 148, 3) := by decide +kernel
theorem dX7_sumSides_23 : decode cX7_sumSides 23 = .ok (.if_icmp .ge 45, 3) := by decide +kernel
theorem dX7_sumSides_26 : decode cX7_sumSides 26 = .ok (.aload_n 1, 1) := by decide +kernel
theorem dX7_sumSides_27 : decode cX7_sumSides 27 = .ok (.getfield 149, 3) := by decide +kernel
theorem dX7_sumSides_30 : decode cX7_sumSides 30 = .ok (.iload_n 2, 1) := by decide +kernel
theorem dX7_sumSides_31 : decode cX7_sumSides 31 = .ok (.aaload, 1) := by decide +kernel
theorem dX7_sumSides_32 : decode cX7_sumSides 32 = .ok (.getfield 230, 3) := by decide +kernel
theorem dX7_sumSides_35 : decode cX7_sumSides 35 = .ok (.ifCond .ne 27, 3) := by decide +kernel
theorem dX7_sumSides_38 : decode cX7_sumSides 38 = .ok (.aload_n 1, 1) := by decide +kernel
theorem dX7_sumSides_39 : decode cX7_sumSides 39 = .ok (.getfield 149, 3) := by decide +kernel
theorem dX7_sumSides_42 : decode cX7_sumSides 42 = .ok (.iload_n 2, 1) := by decide +kernel
theorem dX7_sumSides_43 : decode cX7_sumSides 43 = .ok (.aaload, 1) := by decide +kernel
theorem dX7_sumSides_44 : decode cX7_sumSides 44 = .ok (.aload_n 0, 1) := by decide +kernel
theorem dX7_sumSides_45 : decode cX7_sumSides 45 = .ok (.getfield 68, 3) := by decide +kernel
theorem dX7_sumSides_48 : decode cX7_sumSides 48 = .ok (.invokevirtual 153, 3) := by decide +kernel
theorem dX7_sumSides_51 : decode cX7_sumSides 51 = .ok (.aload_n 0, 1) := by decide +kernel
theorem dX7_sumSides_52 : decode cX7_sumSides 52 = .ok (.getfield 43, 3) := by decide +kernel
theorem dX7_sumSides_55 : decode cX7_sumSides 55 = .ok (.aload_n 0, 1) := by decide +kernel
theorem dX7_sumSides_56 : decode cX7_sumSides 56 = .ok (.getfield 68, 3) := by decide +kernel
theorem dX7_sumSides_59 : decode cX7_sumSides 59 = .ok (.invokevirtual 291, 3) := by decide +kernel
theorem dX7_sumSides_62 : decode cX7_sumSides 62 = .ok (.iinc 2 1, 3) := by decide +kernel
theorem dX7_sumSides_65 : decode cX7_sumSides 65 = .ok (.goto (-47), 3) := by decide +kernel
theorem dX7_sumSides_68 : decode cX7_sumSides 68 = .ok (.aload_n 0, 1) := by decide +kernel
theorem dX7_sumSides_69 : decode cX7_sumSides 69 = .ok (.getfield 43, 3) := by decide +kernel
theorem dX7_sumSides_72 : decode cX7_sumSides 72 = .ok (.invokevirtual 294, 3) := by decide +kernel
theorem dX7_sumSides_75 : decode cX7_sumSides 75 = .ok (.return_, 1) := by decide +kernel
set_option maxHeartbeats 4000000 in
set_option maxRecDepth 100000 in
theorem tX7_sumSides (l : Launch) (G : Gg) (b0 : Nat) {K : Kk} {R : Rr} {M : Mm} {r : Nat} {M' : Mm} (hm : mX7_sumSides K R M r = some (M')) : CT l G b0 yX7_sumSides cX7_sumSides 3 none (rmz 5 118) [.ref r] K R M none K R M' := by
  refine ct_of (by decide +kernel) (Nat.le_of_ble_eq_true rfl) (fun w hq => ?_)
  have hw := hq.b
  change w 0 0 0 [(0, .ref r)] [] K R M
  replace hm := h_start hm
  unfold mX7_sumSides at hm
  obtain ⟨h1, m29⟩ := h_ck hm
  clear hm
  refine r_aload_n hw dX7_sumSides_0 0 rfl ?_
  obtain ⟨q2, bq2, m30⟩ := h_bd m29
  clear m29
  refine r_getR hw fO_X7_25 h1 bq2 dX7_sumSides_1 ?_
  obtain ⟨h4, m31⟩ := h_ck m30
  clear m30
  obtain ⟨q3, g3, m32⟩ := h_bd m31
  clear m31
  refine r_callV1 hw (tX1_now l G b0 g3) lB_X1_now lI_X1_now mL_X7_145 (c := 1) rfl h4 rfl (Nat.le_of_ble_eq_true rfl) (Nat.le_of_ble_eq_true rfl) rfl (Nat.le_of_ble_eq_true rfl) dX7_sumSides_4 ?_
  refine r_astore_n hw dX7_sumSides_7 rfl (by decide) rfl ?_
  refine r_aload_n hw dX7_sumSides_8 1 rfl ?_
  obtain ⟨q5, bq5, m33⟩ := h_bd m32
  clear m32
  refine r_getR hw fO_X7_43 h1 bq5 dX7_sumSides_9 ?_
  refine r_iconst (v := 0) hw dX7_sumSides_12 rfl ?_
  obtain ⟨h6, m34⟩ := h_ck m33
  clear m33
  obtain ⟨M7, eM7, m35⟩ := h_nm m34
  clear m34
  refine r_putI hw fP_X7_280 h6 dX7_sumSides_13 (r_mem ?_ rfl eM7)
  refine r_iconst (v := 0) hw dX7_sumSides_16 rfl ?_
  obtain ⟨i8, ei8, m36⟩ := h_nm m35
  clear m35
  refine r_topI (w := w) ei8 ?_
  refine r_istore_n hw dX7_sumSides_17 rfl (by decide) rfl ?_
  refine r_sub hw [2, 1, 0] rfl ?_
  obtain ⟨v18, n018, hn18, hv18⟩ := h_lp m36
  clear m36
  have L18 : ∀ n : Nat, ∀ (i9 : Int32) (M10 : Mm), it (mX7_sumSides_L18 K R r q3) n (i9, M10) = some v18 → w 0 0 18 [(0, .ref r), (1, .ref q3), (2, .int i9)] [] K R M10 := by
    intro n18
    induction n18 with
    | zero => intro i9 M10 hz; exact absurd hz h_it0
    | succ n18 ih18 =>
      intro i9 M10 m37
      replace m37 : (mX7_sumSides_B18 K R r q3 i9 M10).bind (Sum.elim (it (mX7_sumSides_L18 K R r q3) n18) some) = some v18 := m37
      unfold mX7_sumSides_B18 at m37
      have J62 : ∀ (M12 : Mm) (i11 : Int32), (mX7_sumSides_J62 K R M12 r q3 i11).bind (Sum.elim (it (mX7_sumSides_L18 K R r q3) n18) some) = some v18 → w 0 0 62 [(0, .ref r), (1, .ref q3), (2, .int i11)] [] K R M12 := by
        intro M12 i11 m38
        unfold mX7_sumSides_J62 at m38
        obtain ⟨i13, ei13, m39⟩ := h_nm m38
        clear m38
        refine r_iinc (j := 2) (v := i13) hw dX7_sumSides_62 rfl (by rw [ei13]; rfl) (by decide) rfl ?_
        refine r_goto (tgt := 18) hw dX7_sumSides_65 (by decide) ?_
        refine r_sub hw [1, 2, 0] rfl ?_
        exact ih18 _ _ m39
      refine r_iload_n hw dX7_sumSides_18 2 rfl ?_
      refine r_aload_n hw dX7_sumSides_19 1 rfl ?_
      obtain ⟨h14, m40⟩ := h_ck m37
      clear m37
      refine r_getI hw fO_X7_148 h14 dX7_sumSides_20 ?_
      refine r_icmp_ge (tgt := 68) hw dX7_sumSides_23 (by decide) (fun c15 => ?_) (fun c15 => ?_)
      · have m41 := h_if_f c15 m40
        clear m40
        have m42 := h_ex m41 hv18
        clear m41
        refine r_aload_n hw dX7_sumSides_68 0 rfl ?_
        obtain ⟨q16, bq16, m43⟩ := h_bd m42
        clear m42
        refine r_getR hw fO_X7_43 h1 bq16 dX7_sumSides_69 ?_
        obtain ⟨h18, m44⟩ := h_ck m43
        clear m43
        obtain ⟨M17, g17, m45⟩ := h_bd m44
        clear m44
        refine r_callV0 hw (tX6_leaveOutZeros l G b0 g17) lB_X6_leaveOutZeros lI_X6_leaveOutZeros mL_X7_294 (c := 6) rfl h18 rfl (Nat.le_of_ble_eq_true rfl) (Nat.le_of_ble_eq_true rfl) rfl (Nat.le_of_ble_eq_true rfl) dX7_sumSides_72 ?_
        cases h_ret m45
        exact r_return hq rfl rfl dX7_sumSides_75
      · have m46 := h_if_t c15 m40
        clear m40
        refine r_aload_n hw dX7_sumSides_26 1 rfl ?_
        obtain ⟨q19, bq19, m47⟩ := h_bd m46
        clear m46
        refine r_getR hw fO_X7_149 h14 bq19 dX7_sumSides_27 ?_
        refine r_iload_n hw dX7_sumSides_30 2 rfl ?_
        obtain ⟨h20, m48⟩ := h_ck m47
        clear m47
        obtain ⟨q21, bq21, m49⟩ := h_bd m48
        clear m48
        refine r_aaload hw 2 (by decide) h20 bq21 dX7_sumSides_31 ?_
        obtain ⟨h22, m50⟩ := h_ck m49
        clear m49
        refine r_getI hw fO_X7_230 h22 dX7_sumSides_32 ?_
        refine r_if_ne (tgt := 62) hw dX7_sumSides_35 (by decide) (fun c23 => ?_) (fun c23 => ?_)
        · have m51 := h_if_f c23 m50
          clear m50
          exact J62 _ _ m51
        · have m52 := h_if_t c23 m50
          clear m50
          refine r_aload_n hw dX7_sumSides_38 1 rfl ?_
          refine r_getR hw fO_X7_149 h14 bq19 dX7_sumSides_39 ?_
          refine r_iload_n hw dX7_sumSides_42 2 rfl ?_
          refine r_aaload hw 2 (by decide) h20 bq21 dX7_sumSides_43 ?_
          refine r_aload_n hw dX7_sumSides_44 0 rfl ?_
          obtain ⟨q24, bq24, m53⟩ := h_bd m52
          clear m52
          refine r_getR hw fO_X7_68 h1 bq24 dX7_sumSides_45 ?_
          obtain ⟨M25, g25, m54⟩ := h_bd m53
          clear m53
          refine r_callV0 hw (tX3_placeInto l G b0 g25) lB_X3_placeInto lI_X3_placeInto mL_X7_153 (c := 3) rfl h22 rfl (Nat.le_of_ble_eq_true rfl) (Nat.le_of_ble_eq_true rfl) rfl (Nat.le_of_ble_eq_true rfl) dX7_sumSides_48 ?_
          refine r_aload_n hw dX7_sumSides_51 0 rfl ?_
          obtain ⟨q26, bq26, m55⟩ := h_bd m54
          clear m54
          refine r_getR hw fO_X7_43 h1 bq26 dX7_sumSides_52 ?_
          refine r_aload_n hw dX7_sumSides_55 0 rfl ?_
          refine r_getR hw fO_X7_68 h1 bq24 dX7_sumSides_56 ?_
          obtain ⟨h28, m56⟩ := h_ck m55
          clear m55
          obtain ⟨M27, g27, m57⟩ := h_bd m56
          clear m56
          refine r_callV0 hw (tX6_addSides l G b0 g27) lB_X6_addSides lI_X6_addSides mL_X7_291 (c := 6) rfl h28 rfl (Nat.le_of_ble_eq_true rfl) (Nat.le_of_ble_eq_true rfl) rfl (Nat.le_of_ble_eq_true rfl) dX7_sumSides_59 ?_
          exact J62 _ _ m57
  exact L18 n018 _ _ hn18
theorem dX7_sums_0 : decode cX7_sums 0 = .ok (.aload_n 0, 1) := by decide +kernel
theorem dX7_sums_1 : decode cX7_sums 1 = .ok (.invokevirtual 277, 3) := by decide +kernel
theorem dX7_sums_4 : decode cX7_sums 4 = .ok (.aload_n 0, 1) := by decide +kernel
theorem dX7_sums_5 : decode cX7_sums 5 = .ok (.getfield 43, 3) := by decide +kernel
theorem dX7_sums_8 : decode cX7_sums 8 = .ok (.getfield 280, 3) := by decide +kernel
theorem dX7_sums_11 : decode cX7_sums 11 = .ok (.i2l, 1) := by decide +kernel
theorem dX7_sums_12 : decode cX7_sums 12 = .ok (.lreturn, 1) := by decide +kernel
set_option maxHeartbeats 4000000 in
set_option maxRecDepth 100000 in
theorem tX7_sums (l : Launch) (G : Gg) (b0 : Nat) {K : Kk} {R : Rr} {M : Mm} {r : Nat} {res : Int64} {M' : Mm} (hm : mX7_sums K R M r = some (res, M')) : CT l G b0 yX7_sums cX7_sums 1 (some .long) (rmz 6 140) [.ref r] K R M (some (.long res)) K R M' := by
  refine ct_of (by decide +kernel) (Nat.le_of_ble_eq_true rfl) (fun w hq => ?_)
  have hw := hq.b
  change w 0 0 0 [(0, .ref r)] [] K R M
  replace hm := h_start hm
  unfold mX7_sums at hm
  obtain ⟨h1, m5⟩ := h_ck hm
  clear hm
  refine r_aload_n hw dX7_sums_0 0 rfl ?_
  obtain ⟨M2, g2, m6⟩ := h_bd m5
  clear m5
  refine r_callV0 hw (tX7_sumSides l G b0 g2) lB_X7_sumSides lI_X7_sumSides mL_X7_277 (c := 7) rfl h1 rfl (Nat.le_of_ble_eq_true rfl) (Nat.le_of_ble_eq_true rfl) rfl (Nat.le_of_ble_eq_true rfl) dX7_sums_1 ?_
  refine r_aload_n hw dX7_sums_4 0 rfl ?_
  obtain ⟨q3, bq3, m7⟩ := h_bd m6
  clear m6
  refine r_getR hw fO_X7_43 h1 bq3 dX7_sums_5 ?_
  obtain ⟨h4, m8⟩ := h_ck m7
  clear m7
  refine r_getI hw fO_X7_280 h4 dX7_sums_8 ?_
  refine r_i2l hw dX7_sums_11 ?_
  cases h_ret m8
  exact r_lreturn hq rfl rfl dX7_sums_12
theorem dX7_sum_0 : decode cX7_sum 0 = .ok (.iload_n 1, 1) := by decide +kernel
theorem dX7_sum_1 : decode cX7_sum 1 = .ok (.ifCond .lt 12, 3) := by decide +kernel
theorem dX7_sum_4 : decode cX7_sum 4 = .ok (.iload_n 2, 1) := by decide +kernel
theorem dX7_sum_5 : decode cX7_sum 5 = .ok (.ifCond .lt 8, 3) := by decide +kernel
theorem dX7_sum_8 : decode cX7_sum 8 = .ok (.iload_n 2, 1) := by decide +kernel
theorem dX7_sum_9 : decode cX7_sum 9 = .ok (.iconst 2, 1) := by decide +kernel
theorem dX7_sum_10 : decode cX7_sum 10 = .ok (.if_icmp .le 7, 3) := by decide +kernel
theorem dX7_sum_13 : decode cX7_sum 13 = .ok (.ldc2_w 87, 3) := by decide +kernel
theorem dX7_sum_16 : decode cX7_sum 16 = .ok (.lreturn, 1) := by decide +kernel
theorem dX7_sum_17 : decode cX7_sum 17 = .ok (.aload_n 0, 1) := by decide +kernel
theorem dX7_sum_18 : decode cX7_sum 18 = .ok (.invokevirtual 277, 3) := by decide +kernel
theorem dX7_sum_21 : decode cX7_sum 21 = .ok (.iload_n 1, 1) := by decide +kernel
theorem dX7_sum_22 : decode cX7_sum 22 = .ok (.aload_n 0, 1) := by decide +kernel
theorem dX7_sum_23 : decode cX7_sum 23 = .ok (.getfield 43, 3) := by decide +kernel
theorem dX7_sum_26 : decode cX7_sum 26 = .ok (.getfield 280, 3) := by decide +kernel
theorem dX7_sum_29 : decode cX7_sum 29 = .ok (.if_icmp .lt 7, 3) := by decide +kernel
theorem dX7_sum_32 : decode cX7_sum 32 = .ok (.ldc2_w 250, 3) := by decide +kernel
theorem dX7_sum_35 : decode cX7_sum 35 = .ok (.lreturn, 1) := by decide +kernel
theorem dX7_sum_36 : decode cX7_sum 36 = .ok (.iload_n 2, 1) := by decide +kernel
theorem dX7_sum_37 : decode cX7_sum 37 = .ok (.iconst 2, 1) := by decide +kernel
theorem dX7_sum_38 : decode cX7_sum 38 = .ok (.if_icmp .ne 13, 3) := by decide +kernel
theorem dX7_sum_41 : decode cX7_sum 41 = .ok (.aload_n 0, 1) := by decide +kernel
theorem dX7_sum_42 : decode cX7_sum 42 = .ok (.getfield 43, 3) := by decide +kernel
theorem dX7_sum_45 : decode cX7_sum 45 = .ok (.getfield 281, 3) := by decide +kernel
theorem dX7_sum_48 : decode cX7_sum 48 = .ok (.iload_n 1, 1) := by decide +kernel
theorem dX7_sum_49 : decode cX7_sum 49 = .ok (.laload, 1) := by decide +kernel
theorem dX7_sum_50 : decode cX7_sum 50 = .ok (.lreturn, 1) := by decide +kernel
theorem dX7_sum_51 : decode cX7_sum 51 = .ok (.iload_n 2, 1) := by decide +kernel
theorem dX7_sum_52 : decode cX7_sum 52 = .ok (.ifCond .ne 16, 3) := by decide +kernel
theorem dX7_sum_55 : decode cX7_sum 55 = .ok (.aload_n 0, 1) := by decide +kernel
theorem dX7_sum_56 : decode cX7_sum 56 = .ok (.getfield 43, 3) := by decide +kernel
theorem dX7_sum_59 : decode cX7_sum 59 = .ok (.getfield 285, 3) := by decide +kernel
theorem dX7_sum_62 : decode cX7_sum 62 = .ok (.iload_n 1, 1) := by decide +kernel
theorem dX7_sum_63 : decode cX7_sum 63 = .ok (.iaload, 1) := by decide +kernel
theorem dX7_sum_64 : decode cX7_sum 64 = .ok (.i2l, 1) := by decide +kernel
theorem dX7_sum_65 : decode cX7_sum 65 = .ok (.goto 13, 3) := by decide +kernel
theorem dX7_sum_68 : decode cX7_sum 68 = .ok (.aload_n 0, 1) := by decide +kernel
theorem dX7_sum_69 : decode cX7_sum 69 = .ok (.getfield 43, 3) := by decide +kernel
theorem dX7_sum_72 : decode cX7_sum 72 = .ok (.getfield 288, 3) := by decide +kernel
theorem dX7_sum_75 : decode cX7_sum 75 = .ok (.iload_n 1, 1) := by decide +kernel
theorem dX7_sum_76 : decode cX7_sum 76 = .ok (.iaload, 1) := by decide +kernel
theorem dX7_sum_77 : decode cX7_sum 77 = .ok (.i2l, 1) := by decide +kernel
theorem dX7_sum_78 : decode cX7_sum 78 = .ok (.lreturn, 1) := by decide +kernel
set_option maxHeartbeats 4000000 in
set_option maxRecDepth 100000 in
theorem tX7_sum (l : Launch) (G : Gg) (b0 : Nat) {K : Kk} {R : Rr} {M : Mm} {r : Nat} {a0 : Int32} {a1 : Int32} {res : Int64} {M' : Mm} (hm : mX7_sum K R M r a0 a1 = some (res, M')) : CT l G b0 yX7_sum cX7_sum 3 (some .long) (rmz 6 140) [.ref r, .int a0, .int a1] K R M (some (.long res)) K R M' := by
  refine ct_of (by decide +kernel) (Nat.le_of_ble_eq_true rfl) (fun w hq => ?_)
  have hw := hq.b
  change w 0 0 0 [(0, .ref r), (1, .int a0), (2, .int a1)] [] K R M
  replace hm := h_start hm
  unfold mX7_sum at hm
  obtain ⟨h1, m17⟩ := h_ck hm
  clear hm
  refine r_iload_n hw dX7_sum_0 1 rfl ?_
  refine r_if_lt (tgt := 13) hw dX7_sum_1 (by decide) (fun c2 => ?_) (fun c2 => ?_)
  · have m18 := h_if_t c2 m17
    clear m17
    refine r_ldc2 (v := (-9000000000000000001)) hw dX7_sum_13 kW_X7_87 ?_
    cases h_ret m18
    exact r_lreturn hq rfl rfl dX7_sum_16
  · have m19 := h_if_f c2 m17
    clear m17
    refine r_iload_n hw dX7_sum_4 2 rfl ?_
    refine r_if_lt (tgt := 13) hw dX7_sum_5 (by decide) (fun c3 => ?_) (fun c3 => ?_)
    · have m20 := h_if_t c3 m19
      clear m19
      refine r_ldc2 (v := (-9000000000000000001)) hw dX7_sum_13 kW_X7_87 ?_
      cases h_ret m20
      exact r_lreturn hq rfl rfl dX7_sum_16
    · have m21 := h_if_f c3 m19
      clear m19
      refine r_iload_n hw dX7_sum_8 2 rfl ?_
      refine r_iconst (v := 2) hw dX7_sum_9 rfl ?_
      refine r_icmp_le (tgt := 17) hw dX7_sum_10 (by decide) (fun c4 => ?_) (fun c4 => ?_)
      · have m22 := h_if_t c4 m21
        clear m21
        refine r_aload_n hw dX7_sum_17 0 rfl ?_
        obtain ⟨M5, g5, m23⟩ := h_bd m22
        clear m22
        refine r_callV0 hw (tX7_sumSides l G b0 g5) lB_X7_sumSides lI_X7_sumSides mL_X7_277 (c := 7) rfl h1 rfl (Nat.le_of_ble_eq_true rfl) (Nat.le_of_ble_eq_true rfl) rfl (Nat.le_of_ble_eq_true rfl) dX7_sum_18 ?_
        refine r_iload_n hw dX7_sum_21 1 rfl ?_
        refine r_aload_n hw dX7_sum_22 0 rfl ?_
        obtain ⟨q6, bq6, m24⟩ := h_bd m23
        clear m23
        refine r_getR hw fO_X7_43 h1 bq6 dX7_sum_23 ?_
        obtain ⟨h7, m25⟩ := h_ck m24
        clear m24
        refine r_getI hw fO_X7_280 h7 dX7_sum_26 ?_
        refine r_icmp_lt (tgt := 36) hw dX7_sum_29 (by decide) (fun c8 => ?_) (fun c8 => ?_)
        · have m26 := h_if_t c8 m25
          clear m25
          refine r_iload_n hw dX7_sum_36 2 rfl ?_
          refine r_iconst (v := 2) hw dX7_sum_37 rfl ?_
          refine r_icmp_ne (tgt := 51) hw dX7_sum_38 (by decide) (fun c9 => ?_) (fun c9 => ?_)
          · have m27 := h_if_f c9 m26
            clear m26
            refine r_iload_n hw dX7_sum_51 2 rfl ?_
            refine r_if_ne (tgt := 68) hw dX7_sum_52 (by decide) (fun c10 => ?_) (fun c10 => ?_)
            · have m28 := h_if_f c10 m27
              clear m27
              refine r_aload_n hw dX7_sum_68 0 rfl ?_
              refine r_getR hw fO_X7_43 h1 bq6 dX7_sum_69 ?_
              obtain ⟨q11, bq11, m29⟩ := h_bd m28
              clear m28
              refine r_getR hw fO_X7_288 h7 bq11 dX7_sum_72 ?_
              refine r_iload_n hw dX7_sum_75 1 rfl ?_
              obtain ⟨h12, m30⟩ := h_ck m29
              clear m29
              refine r_iaload hw h12 dX7_sum_76 ?_
              refine r_i2l hw dX7_sum_77 ?_
              cases h_ret m30
              exact r_lreturn hq rfl rfl dX7_sum_78
            · have m31 := h_if_t c10 m27
              clear m27
              refine r_aload_n hw dX7_sum_55 0 rfl ?_
              refine r_getR hw fO_X7_43 h1 bq6 dX7_sum_56 ?_
              obtain ⟨q13, bq13, m32⟩ := h_bd m31
              clear m31
              refine r_getR hw fO_X7_285 h7 bq13 dX7_sum_59 ?_
              refine r_iload_n hw dX7_sum_62 1 rfl ?_
              obtain ⟨h14, m33⟩ := h_ck m32
              clear m32
              refine r_iaload hw h14 dX7_sum_63 ?_
              refine r_i2l hw dX7_sum_64 ?_
              refine r_goto (tgt := 78) hw dX7_sum_65 (by decide) ?_
              cases h_ret m33
              exact r_lreturn hq rfl rfl dX7_sum_78
          · have m34 := h_if_t c9 m26
            clear m26
            refine r_aload_n hw dX7_sum_41 0 rfl ?_
            refine r_getR hw fO_X7_43 h1 bq6 dX7_sum_42 ?_
            obtain ⟨q15, bq15, m35⟩ := h_bd m34
            clear m34
            refine r_getR hw fO_X7_281 h7 bq15 dX7_sum_45 ?_
            refine r_iload_n hw dX7_sum_48 1 rfl ?_
            obtain ⟨h16, m36⟩ := h_ck m35
            clear m35
            refine r_laload hw h16 dX7_sum_49 ?_
            cases h_ret m36
            exact r_lreturn hq rfl rfl dX7_sum_50
        · have m37 := h_if_f c8 m25
          clear m25
          refine r_ldc2 (v := (-9000000000000000005)) hw dX7_sum_32 kW_X7_250 ?_
          cases h_ret m37
          exact r_lreturn hq rfl rfl dX7_sum_35
      · have m38 := h_if_f c4 m21
        clear m21
        refine r_ldc2 (v := (-9000000000000000001)) hw dX7_sum_13 kW_X7_87 ?_
        cases h_ret m38
        exact r_lreturn hq rfl rfl dX7_sum_16
theorem dX7_isShelf_0 : decode cX7_isShelf 0 = .ok (.iload_n 0, 1) := by decide +kernel
theorem dX7_isShelf_1 : decode cX7_isShelf 1 = .ok (.ifCond .lt 12, 3) := by decide +kernel
theorem dX7_isShelf_4 : decode cX7_isShelf 4 = .ok (.iload_n 0, 1) := by decide +kernel
theorem dX7_isShelf_5 : decode cX7_isShelf 5 = .ok (.iconst 4, 1) := by decide +kernel
theorem dX7_isShelf_6 : decode cX7_isShelf 6 = .ok (.if_icmp .ge 7, 3) := by decide +kernel
theorem dX7_isShelf_9 : decode cX7_isShelf 9 = .ok (.iconst 1, 1) := by decide +kernel
theorem dX7_isShelf_10 : decode cX7_isShelf 10 = .ok (.goto 4, 3) := by decide +kernel
theorem dX7_isShelf_13 : decode cX7_isShelf 13 = .ok (.iconst 0, 1) := by decide +kernel
theorem dX7_isShelf_14 : decode cX7_isShelf 14 = .ok (.ireturn, 1) := by decide +kernel
set_option maxHeartbeats 4000000 in
set_option maxRecDepth 100000 in
theorem tX7_isShelf (l : Launch) (G : Gg) (b0 : Nat) {K : Kk} {R : Rr} {M : Mm} {a0 : Int32} {res : Int32} (hm : mX7_isShelf K R M a0 = some (res)) : CT l G b0 yX7_isShelf cX7_isShelf 1 (some .boolean) (rmz 1 0) [.int a0] K R M (some (.int res)) K R M := by
  refine ct_of (by decide +kernel) (Nat.le_of_ble_eq_true rfl) (fun w hq => ?_)
  have hw := hq.b
  change w 0 0 0 [(0, .int a0)] [] K R M
  replace hm := h_start hm
  unfold mX7_isShelf at hm
  refine r_iload_n hw dX7_isShelf_0 0 rfl ?_
  refine r_if_lt (tgt := 13) hw dX7_isShelf_1 (by decide) (fun c1 => ?_) (fun c1 => ?_)
  · have m3 := h_if_t c1 hm
    clear hm
    refine r_iconst (v := 0) hw dX7_isShelf_13 rfl ?_
    cases h_ret m3
    exact r_zreturn hq isB_0 rfl rfl dX7_isShelf_14
  · have m4 := h_if_f c1 hm
    clear hm
    refine r_iload_n hw dX7_isShelf_4 0 rfl ?_
    refine r_iconst (v := 4) hw dX7_isShelf_5 rfl ?_
    refine r_icmp_ge (tgt := 13) hw dX7_isShelf_6 (by decide) (fun c2 => ?_) (fun c2 => ?_)
    · have m5 := h_if_f c2 m4
      clear m4
      refine r_iconst (v := 0) hw dX7_isShelf_13 rfl ?_
      cases h_ret m5
      exact r_zreturn hq isB_0 rfl rfl dX7_isShelf_14
    · have m6 := h_if_t c2 m4
      clear m4
      refine r_iconst (v := 1) hw dX7_isShelf_9 rfl ?_
      refine r_goto (tgt := 14) hw dX7_isShelf_10 (by decide) ?_
      cases h_ret m6
      exact r_zreturn hq isB_1 rfl rfl dX7_isShelf_14
