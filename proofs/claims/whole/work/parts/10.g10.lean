theorem dX8_begin_0 : decode cX8_begin 0 = .ok (.iload_n 1, 1) := by decide +kernel
theorem dX8_begin_1 : decode cX8_begin 1 = .ok (.i2l, 1) := by decide +kernel
theorem dX8_begin_2 : decode cX8_begin 2 = .ok (.lconst 0, 1) := by decide +kernel
theorem dX8_begin_3 : decode cX8_begin 3 = .ok (.ldc2_w 164, 3) := by decide +kernel
theorem dX8_begin_6 : decode cX8_begin 6 = .ok (.invokestatic 95, 3) := by decide +kernel
theorem dX8_begin_9 : decode cX8_begin 9 = .ok (.ifCond .ne 7, 3) := by decide +kernel
theorem dX8_begin_12 : decode cX8_begin 12 = .ok (.ldc2_w 160, 3) := by decide +kernel
theorem dX8_begin_15 : decode cX8_begin 15 = .ok (.lreturn, 1) := by decide +kernel
theorem dX8_begin_16 : decode cX8_begin 16 = .ok (.aload_n 0, 1) := by decide +kernel
theorem dX8_begin_17 : decode cX8_begin 17 = .ok (.getfield 32, 3) := by decide +kernel
theorem dX8_begin_20 : decode cX8_begin 20 = .ok (.iload_n 1, 1) := by decide +kernel
theorem dX8_begin_21 : decode cX8_begin 21 = .ok (.iaload, 1) := by decide +kernel
theorem dX8_begin_22 : decode cX8_begin 22 = .ok (.ifCond .ne 7, 3) := by decide +kernel
theorem dX8_begin_25 : decode cX8_begin 25 = .ok (.ldc2_w 113, 3) := by decide +kernel
theorem dX8_begin_28 : decode cX8_begin 28 = .ok (.lreturn, 1) := by decide +kernel
theorem dX8_begin_29 : decode cX8_begin 29 = .ok (.aload_n 0, 1) := by decide +kernel
theorem dX8_begin_30 : decode cX8_begin 30 = .ok (.invokevirtual 174, 3) := by decide +kernel
theorem dX8_begin_33 : decode cX8_begin 33 = .ok (.aload_n 0, 1) := by decide +kernel
theorem dX8_begin_34 : decode cX8_begin 34 = .ok (.getfield 7, 3) := by decide +kernel
theorem dX8_begin_37 : decode cX8_begin 37 = .ok (.sipush 1480, 3) := by decide +kernel
theorem dX8_begin_40 : decode cX8_begin 40 = .ok (.lconst 1, 1) := by decide +kernel
theorem dX8_begin_41 : decode cX8_begin 41 = .ok (.lastore, 1) := by decide +kernel
theorem dX8_begin_42 : decode cX8_begin 42 = .ok (.aload_n 0, 1) := by decide +kernel
theorem dX8_begin_43 : decode cX8_begin 43 = .ok (.aload_n 0, 1) := by decide +kernel
theorem dX8_begin_44 : decode cX8_begin 44 = .ok (.getfield 32, 3) := by decide +kernel
theorem dX8_begin_47 : decode cX8_begin 47 = .ok (.iload_n 1, 1) := by decide +kernel
theorem dX8_begin_48 : decode cX8_begin 48 = .ok (.iaload, 1) := by decide +kernel
theorem dX8_begin_49 : decode cX8_begin 49 = .ok (.putfield 118, 3) := by decide +kernel
theorem dX8_begin_52 : decode cX8_begin 52 = .ok (.iconst 0, 1) := by decide +kernel
theorem dX8_begin_53 : decode cX8_begin 53 = .ok (.istore_n 2, 1) := by decide +kernel
theorem dX8_begin_54 : decode cX8_begin 54 = .ok (.iload_n 2, 1) := by decide +kernel
theorem dX8_begin_55 : decode cX8_begin 55 = .ok (.aload_n 0, 1) := by decide +kernel
theorem dX8_begin_56 : decode cX8_begin 56 = .ok (.getfield 118, 3) := by decide +kernel
theorem dX8_begin_59 : decode cX8_begin 59 = .ok (.if_icmp .ge 43, 3) := by decide +kernel
theorem dX8_begin_62 : decode cX8_begin 62 = .ok (.aload_n 0, 1) := by decide +kernel
theorem dX8_begin_63 : decode cX8_begin 63 = .ok (.getfield 60, 3) := by decide +kernel
theorem dX8_begin_66 : decode cX8_begin 66 = .ok (.iload_n 2, 1) := by decide +kernel
theorem dX8_begin_67 : decode cX8_begin 67 = .ok (.aload_n 0, 1) := by decide +kernel
theorem dX8_begin_68 : decode cX8_begin 68 = .ok (.getfield 26, 3) := by decide +kernel
theorem dX8_begin_71 : decode cX8_begin 71 = .ok (.bipush 16, 2) := by decide +kernel
theorem dX8_begin_73 : decode cX8_begin 73 = .ok (.iload_n 1, 1) := by decide +kernel
theorem dX8_begin_74 : decode cX8_begin 74 = .ok (.imul, 1) := by decide +kernel
theorem dX8_begin_75 : decode cX8_begin 75 = .ok (.iload_n 2, 1) := by decide +kernel
theorem dX8_begin_76 : decode cX8_begin 76 = .ok (.iadd, 1) := by decide +kernel
theorem dX8_begin_77 : decode cX8_begin 77 = .ok (.laload, 1) := by decide +kernel
theorem dX8_begin_78 : decode cX8_begin 78 = .ok (.lastore, 1) := by decide +kernel
theorem dX8_begin_79 : decode cX8_begin 79 = .ok (.aload_n 0, 1) := by decide +kernel
theorem dX8_begin_80 : decode cX8_begin 80 = .ok (.getfield 63, 3) := by decide +kernel
theorem dX8_begin_83 : decode cX8_begin 83 = .ok (.iload_n 2, 1) := by decide +kernel
theorem dX8_begin_84 : decode cX8_begin 84 = .ok (.aload_n 0, 1) := by decide +kernel
theorem dX8_begin_85 : decode cX8_begin 85 = .ok (.getfield 29, 3) := by decide +kernel
theorem dX8_begin_88 : decode cX8_begin 88 = .ok (.bipush 16, 2) := by decide +kernel
theorem dX8_begin_90 : decode cX8_begin 90 = .ok (.iload_n 1, 1) := by decide +kernel
theorem dX8_begin_91 : decode cX8_begin 91 = .ok (.imul, 1) := by decide +kernel
theorem dX8_begin_92 : decode cX8_begin 92 = .ok (.iload_n 2, 1) := by decide +kernel
theorem dX8_begin_93 : decode cX8_begin 93 = .ok (.iadd, 1) := by decide +kernel
theorem dX8_begin_94 : decode cX8_begin 94 = .ok (.laload, 1) := by decide +kernel
theorem dX8_begin_95 : decode cX8_begin 95 = .ok (.lastore, 1) := by decide +kernel
theorem dX8_begin_96 : decode cX8_begin 96 = .ok (.iinc 2 1, 3) := by decide +kernel
theorem dX8_begin_99 : decode cX8_begin 99 = .ok (.goto (-45), 3) := by decide +kernel
theorem dX8_begin_102 : decode cX8_begin 102 = .ok (.aload_n 0, 1) := by decide +kernel
theorem dX8_begin_103 : decode cX8_begin 103 = .ok (.iconst 0, 1) := by decide +kernel
theorem dX8_begin_104 : decode cX8_begin 104 = .ok (.lconst 1, 1) := by decide +kernel
theorem dX8_begin_105 : decode cX8_begin 105 = .ok (.lconst 0, 1) := by decide +kernel
theorem dX8_begin_106 : decode cX8_begin 106 = .ok (.lconst 0, 1) := by decide +kernel
theorem dX8_begin_107 : decode cX8_begin 107 = .ok (.invokevirtual 177, 3) := by decide +kernel
theorem dX8_begin_110 : decode cX8_begin 110 = .ok (.aload_n 0, 1) := by decide +kernel
theorem dX8_begin_111 : decode cX8_begin 111 = .ok (.iconst 0, 1) := by decide +kernel
theorem dX8_begin_112 : decode cX8_begin 112 = .ok (.lconst 1, 1) := by decide +kernel
theorem dX8_begin_113 : decode cX8_begin 113 = .ok (.lconst 0, 1) := by decide +kernel
theorem dX8_begin_114 : decode cX8_begin 114 = .ok (.lconst 0, 1) := by decide +kernel
theorem dX8_begin_115 : decode cX8_begin 115 = .ok (.invokevirtual 181, 3) := by decide +kernel
theorem dX8_begin_118 : decode cX8_begin 118 = .ok (.aload_n 0, 1) := by decide +kernel
theorem dX8_begin_119 : decode cX8_begin 119 = .ok (.getfield 7, 3) := by decide +kernel
theorem dX8_begin_122 : decode cX8_begin 122 = .ok (.bipush 36, 2) := by decide +kernel
theorem dX8_begin_124 : decode cX8_begin 124 = .ok (.lconst 0, 1) := by decide +kernel
theorem dX8_begin_125 : decode cX8_begin 125 = .ok (.lastore, 1) := by decide +kernel
theorem dX8_begin_126 : decode cX8_begin 126 = .ok (.lconst 0, 1) := by decide +kernel
theorem dX8_begin_127 : decode cX8_begin 127 = .ok (.lreturn, 1) := by decide +kernel
set_option maxHeartbeats 4000000 in
set_option maxRecDepth 100000 in
theorem tX8_begin (l : Launch) (G : Gg) (b0 : Nat) {K : Kk} {R : Rr} {M : Mm} {r : Nat} {a0 : Int32} {res : Int64} {M' : Mm} (hm : mX8_begin K R M r a0 = some (res, M')) : CT l G b0 yX8_begin cX8_begin 3 (some .long) (rmz 2 29) [.ref r, .int a0] K R M (some (.long res)) K R M' := by
  refine ct_of (by decide +kernel) (Nat.le_of_ble_eq_true rfl) (fun w hq => ?_)
  have hw := hq.b
  change w 0 0 0 [(0, .ref r), (1, .int a0)] [] K R M
  replace hm := h_start hm
  unfold mX8_begin at hm
  obtain ⟨h1, m32⟩ := h_ck hm
  clear hm
  refine r_iload_n hw dX8_begin_0 1 rfl ?_
  refine r_i2l hw dX8_begin_1 ?_
  refine r_lconst (v := 0) hw dX8_begin_2 rfl ?_
  refine r_ldc2 (v := 4) hw dX8_begin_3 kW_X8_164 ?_
  obtain ⟨i2, g2, m33⟩ := h_bd m32
  clear m32
  refine r_callS1 hw (tX8_isIn l G b0 g2) lB_X8_isIn sT_X8_isIn mL_X8_95 rfl rfl (Nat.le_of_ble_eq_true rfl) (Nat.le_of_ble_eq_true rfl) rfl (Nat.le_of_ble_eq_true rfl) dX8_begin_6 ?_
  refine r_if_ne (tgt := 16) hw dX8_begin_9 (by decide) (fun c3 => ?_) (fun c3 => ?_)
  · have m34 := h_if_f c3 m33
    clear m33
    refine r_aload_n hw dX8_begin_16 0 rfl ?_
    obtain ⟨q4, bq4, m35⟩ := h_bd m34
    clear m34
    refine r_getR hw fO_X8_32 h1 bq4 dX8_begin_17 ?_
    refine r_iload_n hw dX8_begin_20 1 rfl ?_
    obtain ⟨h5, m36⟩ := h_ck m35
    clear m35
    refine r_iaload hw h5 dX8_begin_21 ?_
    refine r_if_ne (tgt := 29) hw dX8_begin_22 (by decide) (fun c6 => ?_) (fun c6 => ?_)
    · have m37 := h_if_f c6 m36
      clear m36
      refine r_aload_n hw dX8_begin_29 0 rfl ?_
      obtain ⟨M7, g7, m38⟩ := h_bd m37
      clear m37
      refine r_callV0 hw (tX8_keep l G b0 g7) lB_X8_keep lI_X8_keep mL_X8_174 (c := 8) rfl h1 rfl (Nat.le_of_ble_eq_true rfl) (Nat.le_of_ble_eq_true rfl) rfl (Nat.le_of_ble_eq_true rfl) dX8_begin_30 ?_
      refine r_aload_n hw dX8_begin_33 0 rfl ?_
      obtain ⟨q8, bq8, m39⟩ := h_bd m38
      clear m38
      refine r_getR hw fO_X8_7 h1 bq8 dX8_begin_34 ?_
      refine r_sipush (v := 1480) hw dX8_begin_37 rfl ?_
      refine r_lconst (v := 1) hw dX8_begin_40 rfl ?_
      obtain ⟨h9, m40⟩ := h_ck m39
      clear m39
      obtain ⟨M10, eM10, m41⟩ := h_nm m40
      clear m40
      refine r_lastore hw h9 dX8_begin_41 (r_mem ?_ rfl eM10)
      refine r_aload_n hw dX8_begin_42 0 rfl ?_
      refine r_aload_n hw dX8_begin_43 0 rfl ?_
      refine r_getR hw fO_X8_32 h1 bq4 dX8_begin_44 ?_
      refine r_iload_n hw dX8_begin_47 1 rfl ?_
      refine r_iaload hw h5 dX8_begin_48 ?_
      obtain ⟨M11, eM11, m42⟩ := h_nm m41
      clear m41
      refine r_putI hw fP_X8_118 h1 dX8_begin_49 (r_mem ?_ rfl eM11)
      refine r_iconst (v := 0) hw dX8_begin_52 rfl ?_
      obtain ⟨i12, ei12, m43⟩ := h_nm m42
      clear m42
      refine r_topI (w := w) ei12 ?_
      refine r_istore_n hw dX8_begin_53 rfl (by decide) rfl ?_
      refine r_sub hw [1, 2, 0] rfl ?_
      obtain ⟨v54, n054, hn54, hv54⟩ := h_lp m43
      clear m43
      have L54 : ∀ n : Nat, ∀ (i13 : Int32) (M14 : Mm), it (mX8_begin_L54 K R r a0) n (i13, M14) = some v54 → w 0 0 54 [(0, .ref r), (1, .int a0), (2, .int i13)] [] K R M14 := by
        intro n54
        induction n54 with
        | zero => intro i13 M14 hz; exact absurd hz h_it0
        | succ n54 ih54 =>
          intro i13 M14 m44
          replace m44 : (mX8_begin_B54 K R r a0 i13 M14).bind (Sum.elim (it (mX8_begin_L54 K R r a0) n54) some) = some v54 := m44
          unfold mX8_begin_B54 at m44
          refine r_iload_n hw dX8_begin_54 2 rfl ?_
          refine r_aload_n hw dX8_begin_55 0 rfl ?_
          refine r_getI hw fO_X8_118 h1 dX8_begin_56 ?_
          refine r_icmp_ge (tgt := 102) hw dX8_begin_59 (by decide) (fun c15 => ?_) (fun c15 => ?_)
          · have m45 := h_if_f c15 m44
            clear m44
            have m46 := h_ex m45 hv54
            clear m45
            refine r_aload_n hw dX8_begin_102 0 rfl ?_
            refine r_iconst (v := 0) hw dX8_begin_103 rfl ?_
            refine r_lconst (v := 1) hw dX8_begin_104 rfl ?_
            refine r_lconst (v := 0) hw dX8_begin_105 rfl ?_
            refine r_lconst (v := 0) hw dX8_begin_106 rfl ?_
            obtain ⟨M16, g16, m47⟩ := h_bd m46
            clear m46
            refine r_callV0 hw (tX8_originOf l G b0 g16) lB_X8_originOf lI_X8_originOf mL_X8_177 (c := 8) rfl h1 rfl (Nat.le_of_ble_eq_true rfl) (Nat.le_of_ble_eq_true rfl) rfl (Nat.le_of_ble_eq_true rfl) dX8_begin_107 ?_
            refine r_aload_n hw dX8_begin_110 0 rfl ?_
            refine r_iconst (v := 0) hw dX8_begin_111 rfl ?_
            refine r_lconst (v := 1) hw dX8_begin_112 rfl ?_
            refine r_lconst (v := 0) hw dX8_begin_113 rfl ?_
            refine r_lconst (v := 0) hw dX8_begin_114 rfl ?_
            obtain ⟨M17, g17, m48⟩ := h_bd m47
            clear m47
            refine r_callV0 hw (tX8_move l G b0 g17) lB_X8_move lI_X8_move mL_X8_181 (c := 8) rfl h1 rfl (Nat.le_of_ble_eq_true rfl) (Nat.le_of_ble_eq_true rfl) rfl (Nat.le_of_ble_eq_true rfl) dX8_begin_115 ?_
            refine r_aload_n hw dX8_begin_118 0 rfl ?_
            obtain ⟨q18, bq18, m49⟩ := h_bd m48
            clear m48
            refine r_getR hw fO_X8_7 h1 bq18 dX8_begin_119 ?_
            refine r_bipush (v := 36) hw dX8_begin_122 rfl ?_
            refine r_lconst (v := 0) hw dX8_begin_124 rfl ?_
            obtain ⟨h19, m50⟩ := h_ck m49
            clear m49
            obtain ⟨M20, eM20, m51⟩ := h_nm m50
            clear m50
            refine r_lastore hw h19 dX8_begin_125 (r_mem ?_ rfl eM20)
            refine r_lconst (v := 0) hw dX8_begin_126 rfl ?_
            cases h_ret m51
            exact r_lreturn hq rfl rfl dX8_begin_127
          · have m52 := h_if_t c15 m44
            clear m44
            refine r_aload_n hw dX8_begin_62 0 rfl ?_
            obtain ⟨q21, bq21, m53⟩ := h_bd m52
            clear m52
            refine r_getR hw fO_X8_60 h1 bq21 dX8_begin_63 ?_
            refine r_iload_n hw dX8_begin_66 2 rfl ?_
            refine r_aload_n hw dX8_begin_67 0 rfl ?_
            obtain ⟨q22, bq22, m54⟩ := h_bd m53
            clear m53
            refine r_getR hw fO_X8_26 h1 bq22 dX8_begin_68 ?_
            refine r_bipush (v := 16) hw dX8_begin_71 rfl ?_
            refine r_iload_n hw dX8_begin_73 1 rfl ?_
            refine r_imul hw dX8_begin_74 ?_
            refine r_iload_n hw dX8_begin_75 2 rfl ?_
            refine r_iadd hw dX8_begin_76 ?_
            obtain ⟨h23, m55⟩ := h_ck m54
            clear m54
            refine r_laload hw h23 dX8_begin_77 ?_
            obtain ⟨h24, m56⟩ := h_ck m55
            clear m55
            obtain ⟨M25, eM25, m57⟩ := h_nm m56
            clear m56
            refine r_lastore hw h24 dX8_begin_78 (r_mem ?_ rfl eM25)
            refine r_aload_n hw dX8_begin_79 0 rfl ?_
            obtain ⟨q26, bq26, m58⟩ := h_bd m57
            clear m57
            refine r_getR hw fO_X8_63 h1 bq26 dX8_begin_80 ?_
            refine r_iload_n hw dX8_begin_83 2 rfl ?_
            refine r_aload_n hw dX8_begin_84 0 rfl ?_
            obtain ⟨q27, bq27, m59⟩ := h_bd m58
            clear m58
            refine r_getR hw fO_X8_29 h1 bq27 dX8_begin_85 ?_
            refine r_bipush (v := 16) hw dX8_begin_88 rfl ?_
            refine r_iload_n hw dX8_begin_90 1 rfl ?_
            refine r_imul hw dX8_begin_91 ?_
            refine r_iload_n hw dX8_begin_92 2 rfl ?_
            refine r_iadd hw dX8_begin_93 ?_
            obtain ⟨h28, m60⟩ := h_ck m59
            clear m59
            refine r_laload hw h28 dX8_begin_94 ?_
            obtain ⟨h29, m61⟩ := h_ck m60
            clear m60
            obtain ⟨M30, eM30, m62⟩ := h_nm m61
            clear m61
            refine r_lastore hw h29 dX8_begin_95 (r_mem ?_ rfl eM30)
            obtain ⟨i31, ei31, m63⟩ := h_nm m62
            clear m62
            refine r_iinc (j := 2) (v := i31) hw dX8_begin_96 rfl (by rw [ei31]; rfl) (by decide) rfl ?_
            refine r_goto (tgt := 54) hw dX8_begin_99 (by decide) ?_
            refine r_sub hw [1, 2, 0] rfl ?_
            exact ih54 _ _ m63
      exact L54 n054 _ _ hn54
    · have m64 := h_if_t c6 m36
      clear m36
      refine r_ldc2 (v := (-9000000000000000002)) hw dX8_begin_25 kW_X8_113 ?_
      cases h_ret m64
      exact r_lreturn hq rfl rfl dX8_begin_28
  · have m65 := h_if_t c3 m33
    clear m33
    refine r_ldc2 (v := (-9000000000000000001)) hw dX8_begin_12 kW_X8_160 ?_
    cases h_ret m65
    exact r_lreturn hq rfl rfl dX8_begin_15
theorem dX8_sideOf_0 : decode cX8_sideOf 0 = .ok (.aload_n 0, 1) := by decide +kernel
theorem dX8_sideOf_1 : decode cX8_sideOf 1 = .ok (.getfield 184, 3) := by decide +kernel
theorem dX8_sideOf_4 : decode cX8_sideOf 4 = .ok (.aload_n 0, 1) := by decide +kernel
theorem dX8_sideOf_5 : decode cX8_sideOf 5 = .ok (.getfield 188, 3) := by decide +kernel
theorem dX8_sideOf_8 : decode cX8_sideOf 8 = .ok (.aload_n 0, 1) := by decide +kernel
theorem dX8_sideOf_9 : decode cX8_sideOf 9 = .ok (.getfield 191, 3) := by decide +kernel
theorem dX8_sideOf_12 : decode cX8_sideOf 12 = .ok (.aload_n 0, 1) := by decide +kernel
theorem dX8_sideOf_13 : decode cX8_sideOf 13 = .ok (.getfield 194, 3) := by decide +kernel
theorem dX8_sideOf_16 : decode cX8_sideOf 16 = .ok (.lload_n 1, 1) := by decide +kernel
theorem dX8_sideOf_17 : decode cX8_sideOf 17 = .ok (.lload_n 3, 1) := by decide +kernel
theorem dX8_sideOf_18 : decode cX8_sideOf 18 = .ok (.invokestatic 128, 3) := by decide +kernel
theorem dX8_sideOf_21 : decode cX8_sideOf 21 = .ok (.lreturn, 1) := by decide +kernel
set_option maxHeartbeats 4000000 in
set_option maxRecDepth 100000 in
theorem tX8_sideOf (l : Launch) (G : Gg) (b0 : Nat) {K : Kk} {R : Rr} {M : Mm} {r : Nat} {a0 : Int64} {a1 : Int64} {res : Int64} (hm : mX8_sideOf K R M r a0 a1 = some (res)) : CT l G b0 yX8_sideOf cX8_sideOf 5 (some .long) (rmz 2 31) [.ref r, .long a0, .long a1] K R M (some (.long res)) K R M := by
  refine ct_of (by decide +kernel) (Nat.le_of_ble_eq_true rfl) (fun w hq => ?_)
  have hw := hq.b
  change w 0 0 0 [(0, .ref r), (1, .long a0), (3, .long a1)] [] K R M
  replace hm := h_start hm
  unfold mX8_sideOf at hm
  obtain ⟨h1, m3⟩ := h_ck hm
  clear hm
  refine r_aload_n hw dX8_sideOf_0 0 rfl ?_
  refine r_getL hw fO_X8_184 h1 dX8_sideOf_1 ?_
  refine r_aload_n hw dX8_sideOf_4 0 rfl ?_
  refine r_getL hw fO_X8_188 h1 dX8_sideOf_5 ?_
  refine r_aload_n hw dX8_sideOf_8 0 rfl ?_
  refine r_getL hw fO_X8_191 h1 dX8_sideOf_9 ?_
  refine r_aload_n hw dX8_sideOf_12 0 rfl ?_
  refine r_getL hw fO_X8_194 h1 dX8_sideOf_13 ?_
  refine r_lload_n hw dX8_sideOf_16 1 rfl ?_
  refine r_lload_n hw dX8_sideOf_17 2 rfl ?_
  obtain ⟨l2, g2, m4⟩ := h_bd m3
  clear m3
  refine r_callS1 hw (tX8_side l G b0 g2) lB_X8_side sT_X8_side mL_X8_128 rfl rfl (Nat.le_of_ble_eq_true rfl) (Nat.le_of_ble_eq_true rfl) rfl (Nat.le_of_ble_eq_true rfl) dX8_sideOf_18 ?_
  cases h_ret m4
  exact r_lreturn hq rfl rfl dX8_sideOf_21
theorem dX8_cornersOn_0 : decode cX8_cornersOn 0 = .ok (.iconst 0, 1) := by decide +kernel
theorem dX8_cornersOn_1 : decode cX8_cornersOn 1 = .ok (.istore_n 2, 1) := by decide +kernel
theorem dX8_cornersOn_2 : decode cX8_cornersOn 2 = .ok (.iconst 0, 1) := by decide +kernel
theorem dX8_cornersOn_3 : decode cX8_cornersOn 3 = .ok (.istore_n 3, 1) := by decide +kernel
theorem dX8_cornersOn_4 : decode cX8_cornersOn 4 = .ok (.iload_n 3, 1) := by decide +kernel
theorem dX8_cornersOn_5 : decode cX8_cornersOn 5 = .ok (.aload_n 0, 1) := by decide +kernel
theorem dX8_cornersOn_6 : decode cX8_cornersOn 6 = .ok (.getfield 146, 3) := by decide +kernel
theorem dX8_cornersOn_9 : decode cX8_cornersOn 9 = .ok (.if_icmp .ge 57, 3) := by decide +kernel
theorem dX8_cornersOn_12 : decode cX8_cornersOn 12 = .ok (.aload_n 0, 1) := by decide +kernel
theorem dX8_cornersOn_13 : decode cX8_cornersOn 13 = .ok (.aload_n 0, 1) := by decide +kernel
theorem dX8_cornersOn_14 : decode cX8_cornersOn 14 = .ok (.getfield 42, 3) := by decide +kernel
theorem dX8_cornersOn_17 : decode cX8_cornersOn 17 = .ok (.iload_n 3, 1) := by decide +kernel
theorem dX8_cornersOn_18 : decode cX8_cornersOn 18 = .ok (.laload, 1) := by decide +kernel
theorem dX8_cornersOn_19 : decode cX8_cornersOn 19 = .ok (.aload_n 0, 1) := by decide +kernel
theorem dX8_cornersOn_20 : decode cX8_cornersOn 20 = .ok (.getfield 45, 3) := by decide +kernel
theorem dX8_cornersOn_23 : decode cX8_cornersOn 23 = .ok (.iload_n 3, 1) := by decide +kernel
theorem dX8_cornersOn_24 : decode cX8_cornersOn 24 = .ok (.laload, 1) := by decide +kernel
theorem dX8_cornersOn_25 : decode cX8_cornersOn 25 = .ok (.invokevirtual 197, 3) := by decide +kernel
theorem dX8_cornersOn_28 : decode cX8_cornersOn 28 = .ok (.lstore 4, 2) := by decide +kernel
theorem dX8_cornersOn_30 : decode cX8_cornersOn 30 = .ok (.iload_n 2, 1) := by decide +kernel
theorem dX8_cornersOn_31 : decode cX8_cornersOn 31 = .ok (.iload_n 1, 1) := by decide +kernel
theorem dX8_cornersOn_32 : decode cX8_cornersOn 32 = .ok (.ifCond .le 10, 3) := by decide +kernel
theorem dX8_cornersOn_35 : decode cX8_cornersOn 35 = .ok (.lload 4, 2) := by decide +kernel
theorem dX8_cornersOn_37 : decode cX8_cornersOn 37 = .ok (.lconst 0, 1) := by decide +kernel
theorem dX8_cornersOn_38 : decode cX8_cornersOn 38 = .ok (.lcmp, 1) := by decide +kernel
theorem dX8_cornersOn_39 : decode cX8_cornersOn 39 = .ok (.ifCond .gt 14, 3) := by decide +kernel
theorem dX8_cornersOn_42 : decode cX8_cornersOn 42 = .ok (.iload_n 1, 1) := by decide +kernel
theorem dX8_cornersOn_43 : decode cX8_cornersOn 43 = .ok (.ifCond .ge 14, 3) := by decide +kernel
theorem dX8_cornersOn_46 : decode cX8_cornersOn 46 = .ok (.lload 4, 2) := by decide +kernel
theorem dX8_cornersOn_48 : decode cX8_cornersOn 48 = .ok (.lconst 0, 1) := by decide +kernel
theorem dX8_cornersOn_49 : decode cX8_cornersOn 49 = .ok (.lcmp, 1) := by decide +kernel
theorem dX8_cornersOn_50 : decode cX8_cornersOn 50 = .ok (.ifCond .ge 7, 3) := by decide +kernel
theorem dX8_cornersOn_53 : decode cX8_cornersOn 53 = .ok (.iconst 1, 1) := by decide +kernel
theorem dX8_cornersOn_54 : decode cX8_cornersOn 54 = .ok (.goto 4, 3) := by decide +kernel
theorem dX8_cornersOn_57 : decode cX8_cornersOn 57 = .ok (.iconst 0, 1) := by decide +kernel
theorem dX8_cornersOn_58 : decode cX8_cornersOn 58 = .ok (.iadd, 1) := by decide +kernel
theorem dX8_cornersOn_59 : decode cX8_cornersOn 59 = .ok (.istore_n 2, 1) := by decide +kernel
theorem dX8_cornersOn_60 : decode cX8_cornersOn 60 = .ok (.iinc 3 1, 3) := by decide +kernel
theorem dX8_cornersOn_63 : decode cX8_cornersOn 63 = .ok (.goto (-59), 3) := by decide +kernel
theorem dX8_cornersOn_66 : decode cX8_cornersOn 66 = .ok (.iload_n 2, 1) := by decide +kernel
theorem dX8_cornersOn_67 : decode cX8_cornersOn 67 = .ok (.ireturn, 1) := by decide +kernel
set_option maxHeartbeats 4000000 in
set_option maxRecDepth 100000 in
theorem tX8_cornersOn (l : Launch) (G : Gg) (b0 : Nat) {K : Kk} {R : Rr} {M : Mm} {r : Nat} {a0 : Int32} {res : Int32} (hm : mX8_cornersOn K R M r a0 = some (res)) : CT l G b0 yX8_cornersOn cX8_cornersOn 6 (some .int) (rmz 3 55) [.ref r, .int a0] K R M (some (.int res)) K R M := by
  refine ct_of (by decide +kernel) (Nat.le_of_ble_eq_true rfl) (fun w hq => ?_)
  have hw := hq.b
  change w 0 0 0 [(0, .ref r), (1, .int a0)] [] K R M
  replace hm := h_start hm
  unfold mX8_cornersOn at hm
  obtain ⟨h1, m28⟩ := h_ck hm
  clear hm
  refine r_iconst (v := 0) hw dX8_cornersOn_0 rfl ?_
  obtain ⟨i2, ei2, m29⟩ := h_nm m28
  clear m28
  refine r_topI (w := w) ei2 ?_
  refine r_istore_n hw dX8_cornersOn_1 rfl (by decide) rfl ?_
  refine r_iconst (v := 0) hw dX8_cornersOn_2 rfl ?_
  obtain ⟨i3, ei3, m30⟩ := h_nm m29
  clear m29
  refine r_topI (w := w) ei3 ?_
  refine r_istore_n hw dX8_cornersOn_3 rfl (by decide) rfl ?_
  refine r_sub hw [2, 3, 1, 0] rfl ?_
  obtain ⟨v4, n04, hn4, hv4⟩ := h_lp m30
  clear m30
  have L4 : ∀ n : Nat, ∀ (i4 : Int32) (i5 : Int32), it (mX8_cornersOn_L4 K R M r a0) n (i4, i5) = some v4 → w 0 0 4 [(0, .ref r), (1, .int a0), (2, .int i4), (3, .int i5)] [] K R M := by
    intro n4
    induction n4 with
    | zero => intro i4 i5 hz; exact absurd hz h_it0
    | succ n4 ih4 =>
      intro i4 i5 m31
      replace m31 : (mX8_cornersOn_B4 K R M r a0 i4 i5).bind (Sum.elim (it (mX8_cornersOn_L4 K R M r a0) n4) some) = some v4 := m31
      unfold mX8_cornersOn_B4 at m31
      have J58 : ∀ (i6 : Int32) (s7 : Int32) (s8 : Int32), (mX8_cornersOn_J58 K R M r a0 i6 s7 s8).bind (Sum.elim (it (mX8_cornersOn_L4 K R M r a0) n4) some) = some v4 → w 0 0 58 [(0, .ref r), (1, .int a0), (3, .int i6)] [.int s8, .int s7] K R M := by
        intro i6 s7 s8 m32
        unfold mX8_cornersOn_J58 at m32
        refine r_iadd hw dX8_cornersOn_58 ?_
        obtain ⟨i9, ei9, m33⟩ := h_nm m32
        clear m32
        refine r_topI (w := w) ei9 ?_
        refine r_istore_n hw dX8_cornersOn_59 rfl (by decide) rfl ?_
        obtain ⟨i10, ei10, m34⟩ := h_nm m33
        clear m33
        refine r_iinc (j := 3) (v := i10) hw dX8_cornersOn_60 rfl (by rw [ei10]; rfl) (by decide) rfl ?_
        refine r_goto (tgt := 4) hw dX8_cornersOn_63 (by decide) ?_
        refine r_sub hw [2, 3, 1, 0] rfl ?_
        exact ih4 _ _ m34
      have J57 : ∀ (i11 : Int32) (s12 : Int32), (mX8_cornersOn_J57 K R M r a0 i11 s12).bind (Sum.elim (it (mX8_cornersOn_L4 K R M r a0) n4) some) = some v4 → w 0 0 57 [(0, .ref r), (1, .int a0), (3, .int i11)] [.int s12] K R M := by
        intro i11 s12 m35
        unfold mX8_cornersOn_J57 at m35
        refine r_iconst (v := 0) hw dX8_cornersOn_57 rfl ?_
        exact J58 _ _ _ m35
      have J53 : ∀ (i13 : Int32) (s14 : Int32), (mX8_cornersOn_J53 K R M r a0 i13 s14).bind (Sum.elim (it (mX8_cornersOn_L4 K R M r a0) n4) some) = some v4 → w 0 0 53 [(0, .ref r), (1, .int a0), (3, .int i13)] [.int s14] K R M := by
        intro i13 s14 m36
        unfold mX8_cornersOn_J53 at m36
        refine r_iconst (v := 1) hw dX8_cornersOn_53 rfl ?_
        refine r_goto (tgt := 58) hw dX8_cornersOn_54 (by decide) ?_
        exact J58 _ _ _ m36
      have J42 : ∀ (i15 : Int32) (l16 : Int64) (s17 : Int32), (mX8_cornersOn_J42 K R M r a0 i15 l16 s17).bind (Sum.elim (it (mX8_cornersOn_L4 K R M r a0) n4) some) = some v4 → w 0 0 42 [(0, .ref r), (1, .int a0), (3, .int i15), (4, .long l16)] [.int s17] K R M := by
        intro i15 l16 s17 m37
        unfold mX8_cornersOn_J42 at m37
        refine r_iload_n hw dX8_cornersOn_42 1 rfl ?_
        refine r_if_ge (tgt := 57) hw dX8_cornersOn_43 (by decide) (fun c18 => ?_) (fun c18 => ?_)
        · have m38 := h_if_f c18 m37
          clear m37
          refine r_sub hw [0, 1, 2] rfl ?_
          exact J57 _ _ m38
        · have m39 := h_if_t c18 m37
          clear m37
          refine r_lload hw dX8_cornersOn_46 3 rfl ?_
          refine r_lconst (v := 0) hw dX8_cornersOn_48 rfl ?_
          refine r_lcmp_ge (tgt := 57) hw dX8_cornersOn_49 dX8_cornersOn_50 (by decide) (fun c19 => ?_) (fun c19 => ?_)
          · have m40 := h_if_f c19 m39
            clear m39
            refine r_sub hw [0, 1, 2] rfl ?_
            exact J57 _ _ m40
          · have m41 := h_if_t c19 m39
            clear m39
            refine r_sub hw [0, 1, 2] rfl ?_
            exact J53 _ _ m41
      refine r_iload_n hw dX8_cornersOn_4 3 rfl ?_
      refine r_aload_n hw dX8_cornersOn_5 0 rfl ?_
      refine r_getI hw fO_X8_146 h1 dX8_cornersOn_6 ?_
      refine r_icmp_ge (tgt := 66) hw dX8_cornersOn_9 (by decide) (fun c20 => ?_) (fun c20 => ?_)
      · have m42 := h_if_f c20 m31
        clear m31
        have m43 := h_ex m42 hv4
        clear m42
        refine r_iload_n hw dX8_cornersOn_66 2 rfl ?_
        cases h_ret m43
        exact r_ireturn hq rfl rfl dX8_cornersOn_67
      · have m44 := h_if_t c20 m31
        clear m31
        refine r_aload_n hw dX8_cornersOn_12 0 rfl ?_
        refine r_aload_n hw dX8_cornersOn_13 0 rfl ?_
        obtain ⟨q21, bq21, m45⟩ := h_bd m44
        clear m44
        refine r_getR hw fO_X8_42 h1 bq21 dX8_cornersOn_14 ?_
        refine r_iload_n hw dX8_cornersOn_17 3 rfl ?_
        obtain ⟨h22, m46⟩ := h_ck m45
        clear m45
        refine r_laload hw h22 dX8_cornersOn_18 ?_
        refine r_aload_n hw dX8_cornersOn_19 0 rfl ?_
        obtain ⟨q23, bq23, m47⟩ := h_bd m46
        clear m46
        refine r_getR hw fO_X8_45 h1 bq23 dX8_cornersOn_20 ?_
        refine r_iload_n hw dX8_cornersOn_23 3 rfl ?_
        obtain ⟨h24, m48⟩ := h_ck m47
        clear m47
        refine r_laload hw h24 dX8_cornersOn_24 ?_
        obtain ⟨l25, g25, m49⟩ := h_bd m48
        clear m48
        refine r_callV1 hw (tX8_sideOf l G b0 g25) lB_X8_sideOf lI_X8_sideOf mL_X8_197 (c := 8) rfl h1 rfl (Nat.le_of_ble_eq_true rfl) (Nat.le_of_ble_eq_true rfl) rfl (Nat.le_of_ble_eq_true rfl) dX8_cornersOn_25 ?_
        refine r_lstore hw dX8_cornersOn_28 (by decide) rfl ?_
        refine r_iload_n hw dX8_cornersOn_30 3 rfl ?_
        refine r_iload_n hw dX8_cornersOn_31 2 rfl ?_
        refine r_if_le (tgt := 42) hw dX8_cornersOn_32 (by decide) (fun c26 => ?_) (fun c26 => ?_)
        · have m50 := h_if_t c26 m49
          clear m49
          refine r_sub hw [1, 2, 4, 0] rfl ?_
          exact J42 _ _ _ m50
        · have m51 := h_if_f c26 m49
          clear m49
          refine r_lload hw dX8_cornersOn_35 0 rfl ?_
          refine r_lconst (v := 0) hw dX8_cornersOn_37 rfl ?_
          refine r_lcmp_gt (tgt := 53) hw dX8_cornersOn_38 dX8_cornersOn_39 (by decide) (fun c27 => ?_) (fun c27 => ?_)
          · have m52 := h_if_f c27 m51
            clear m51
            refine r_sub hw [1, 2, 4] rfl ?_
            exact J53 _ _ m52
          · have m53 := h_if_t c27 m51
            clear m51
            refine r_sub hw [1, 2, 4, 0] rfl ?_
            exact J42 _ _ _ m53
  exact L4 n04 _ _ hn4
theorem dX8_crosses_0 : decode cX8_crosses 0 = .ok (.aload_n 0, 1) := by decide +kernel
theorem dX8_crosses_1 : decode cX8_crosses 1 = .ok (.iload_n 1, 1) := by decide +kernel
theorem dX8_crosses_2 : decode cX8_crosses 2 = .ok (.invokevirtual 149, 3) := by decide +kernel
theorem dX8_crosses_5 : decode cX8_crosses 5 = .ok (.aload_n 0, 1) := by decide +kernel
theorem dX8_crosses_6 : decode cX8_crosses 6 = .ok (.iconst 1, 1) := by decide +kernel
theorem dX8_crosses_7 : decode cX8_crosses 7 = .ok (.invokevirtual 201, 3) := by decide +kernel
theorem dX8_crosses_10 : decode cX8_crosses 10 = .ok (.ifCond .le 15, 3) := by decide +kernel
theorem dX8_crosses_13 : decode cX8_crosses 13 = .ok (.aload_n 0, 1) := by decide +kernel
theorem dX8_crosses_14 : decode cX8_crosses 14 = .ok (.iconst (-1), 1) := by decide +kernel
theorem dX8_crosses_15 : decode cX8_crosses 15 = .ok (.invokevirtual 201, 3) := by decide +kernel
theorem dX8_crosses_18 : decode cX8_crosses 18 = .ok (.ifCond .le 7, 3) := by decide +kernel
theorem dX8_crosses_21 : decode cX8_crosses 21 = .ok (.iconst 1, 1) := by decide +kernel
theorem dX8_crosses_22 : decode cX8_crosses 22 = .ok (.goto 4, 3) := by decide +kernel
theorem dX8_crosses_25 : decode cX8_crosses 25 = .ok (.iconst 0, 1) := by decide +kernel
theorem dX8_crosses_26 : decode cX8_crosses 26 = .ok (.ireturn, 1) := by decide +kernel
set_option maxHeartbeats 4000000 in
set_option maxRecDepth 100000 in
theorem tX8_crosses (l : Launch) (G : Gg) (b0 : Nat) {K : Kk} {R : Rr} {M : Mm} {r : Nat} {a0 : Int32} {res : Int32} {M' : Mm} (hm : mX8_crosses K R M r a0 = some (res, M')) : CT l G b0 yX8_crosses cX8_crosses 2 (some .boolean) (rmz 5 109) [.ref r, .int a0] K R M (some (.int res)) K R M' := by
  refine ct_of (by decide +kernel) (Nat.le_of_ble_eq_true rfl) (fun w hq => ?_)
  have hw := hq.b
  change w 0 0 0 [(0, .ref r), (1, .int a0)] [] K R M
  replace hm := h_start hm
  unfold mX8_crosses at hm
  obtain ⟨h1, m7⟩ := h_ck hm
  clear hm
  refine r_aload_n hw dX8_crosses_0 0 rfl ?_
  refine r_iload_n hw dX8_crosses_1 1 rfl ?_
  obtain ⟨M2, g2, m8⟩ := h_bd m7
  clear m7
  refine r_callV0 hw (tX8_lookA l G b0 g2) lB_X8_lookA lI_X8_lookA mL_X8_149 (c := 8) rfl h1 rfl (Nat.le_of_ble_eq_true rfl) (Nat.le_of_ble_eq_true rfl) rfl (Nat.le_of_ble_eq_true rfl) dX8_crosses_2 ?_
  refine r_aload_n hw dX8_crosses_5 0 rfl ?_
  refine r_iconst (v := 1) hw dX8_crosses_6 rfl ?_
  obtain ⟨i3, g3, m9⟩ := h_bd m8
  clear m8
  refine r_callV1 hw (tX8_cornersOn l G b0 g3) lB_X8_cornersOn lI_X8_cornersOn mL_X8_201 (c := 8) rfl h1 rfl (Nat.le_of_ble_eq_true rfl) (Nat.le_of_ble_eq_true rfl) rfl (Nat.le_of_ble_eq_true rfl) dX8_crosses_7 ?_
  refine r_if_le (tgt := 25) hw dX8_crosses_10 (by decide) (fun c4 => ?_) (fun c4 => ?_)
  · have m10 := h_if_t c4 m9
    clear m9
    refine r_iconst (v := 0) hw dX8_crosses_25 rfl ?_
    cases h_ret m10
    exact r_zreturn hq isB_0 rfl rfl dX8_crosses_26
  · have m11 := h_if_f c4 m9
    clear m9
    refine r_aload_n hw dX8_crosses_13 0 rfl ?_
    refine r_iconst (v := (-1)) hw dX8_crosses_14 rfl ?_
    obtain ⟨i5, g5, m12⟩ := h_bd m11
    clear m11
    refine r_callV1 hw (tX8_cornersOn l G b0 g5) lB_X8_cornersOn lI_X8_cornersOn mL_X8_201 (c := 8) rfl h1 rfl (Nat.le_of_ble_eq_true rfl) (Nat.le_of_ble_eq_true rfl) rfl (Nat.le_of_ble_eq_true rfl) dX8_crosses_15 ?_
    refine r_if_le (tgt := 25) hw dX8_crosses_18 (by decide) (fun c6 => ?_) (fun c6 => ?_)
    · have m13 := h_if_t c6 m12
      clear m12
      refine r_iconst (v := 0) hw dX8_crosses_25 rfl ?_
      cases h_ret m13
      exact r_zreturn hq isB_0 rfl rfl dX8_crosses_26
    · have m14 := h_if_f c6 m12
      clear m12
      refine r_iconst (v := 1) hw dX8_crosses_21 rfl ?_
      refine r_goto (tgt := 26) hw dX8_crosses_22 (by decide) ?_
      cases h_ret m14
      exact r_zreturn hq isB_1 rfl rfl dX8_crosses_26
theorem dX8_isWhole_0 : decode cX8_isWhole 0 = .ok (.iconst 1, 1) := by decide +kernel
theorem dX8_isWhole_1 : decode cX8_isWhole 1 = .ok (.istore_n 1, 1) := by decide +kernel
theorem dX8_isWhole_2 : decode cX8_isWhole 2 = .ok (.iconst 0, 1) := by decide +kernel
theorem dX8_isWhole_3 : decode cX8_isWhole 3 = .ok (.istore_n 2, 1) := by decide +kernel
theorem dX8_isWhole_4 : decode cX8_isWhole 4 = .ok (.iload_n 2, 1) := by decide +kernel
theorem dX8_isWhole_5 : decode cX8_isWhole 5 = .ok (.aload_n 0, 1) := by decide +kernel
theorem dX8_isWhole_6 : decode cX8_isWhole 6 = .ok (.getfield 146, 3) := by decide +kernel
theorem dX8_isWhole_9 : decode cX8_isWhole 9 = .ok (.if_icmp .ge 146, 3) := by decide +kernel
theorem dX8_isWhole_12 : decode cX8_isWhole 12 = .ok (.iload_n 2, 1) := by decide +kernel
theorem dX8_isWhole_13 : decode cX8_isWhole 13 = .ok (.iconst 1, 1) := by decide +kernel
theorem dX8_isWhole_14 : decode cX8_isWhole 14 = .ok (.iadd, 1) := by decide +kernel
theorem dX8_isWhole_15 : decode cX8_isWhole 15 = .ok (.aload_n 0, 1) := by decide +kernel
theorem dX8_isWhole_16 : decode cX8_isWhole 16 = .ok (.getfield 146, 3) := by decide +kernel
theorem dX8_isWhole_19 : decode cX8_isWhole 19 = .ok (.irem, 1) := by decide +kernel
theorem dX8_isWhole_20 : decode cX8_isWhole 20 = .ok (.istore_n 3, 1) := by decide +kernel
theorem dX8_isWhole_21 : decode cX8_isWhole 21 = .ok (.aload_n 0, 1) := by decide +kernel
theorem dX8_isWhole_22 : decode cX8_isWhole 22 = .ok (.aload_n 0, 1) := by decide +kernel
theorem dX8_isWhole_23 : decode cX8_isWhole 23 = .ok (.getfield 42, 3) := by decide +kernel
theorem dX8_isWhole_26 : decode cX8_isWhole 26 = .ok (.iload_n 2, 1) := by decide +kernel
theorem dX8_isWhole_27 : decode cX8_isWhole 27 = .ok (.laload, 1) := by decide +kernel
theorem dX8_isWhole_28 : decode cX8_isWhole 28 = .ok (.aload_n 0, 1) := by decide +kernel
theorem dX8_isWhole_29 : decode cX8_isWhole 29 = .ok (.getfield 45, 3) := by decide +kernel
theorem dX8_isWhole_32 : decode cX8_isWhole 32 = .ok (.iload_n 2, 1) := by decide +kernel
theorem dX8_isWhole_33 : decode cX8_isWhole 33 = .ok (.laload, 1) := by decide +kernel
theorem dX8_isWhole_34 : decode cX8_isWhole 34 = .ok (.invokevirtual 197, 3) := by decide +kernel
theorem dX8_isWhole_37 : decode cX8_isWhole 37 = .ok (.lstore 4, 2) := by decide +kernel
theorem dX8_isWhole_39 : decode cX8_isWhole 39 = .ok (.aload_n 0, 1) := by decide +kernel
theorem dX8_isWhole_40 : decode cX8_isWhole 40 = .ok (.aload_n 0, 1) := by decide +kernel
theorem dX8_isWhole_41 : decode cX8_isWhole 41 = .ok (.getfield 42, 3) := by decide +kernel
theorem dX8_isWhole_44 : decode cX8_isWhole 44 = .ok (.iload_n 3, 1) := by decide +kernel
theorem dX8_isWhole_45 : decode cX8_isWhole 45 = .ok (.laload, 1) := by decide +kernel
theorem dX8_isWhole_46 : decode cX8_isWhole 46 = .ok (.aload_n 0, 1) := by decide +kernel
theorem dX8_isWhole_47 : decode cX8_isWhole 47 = .ok (.getfield 45, 3) := by decide +kernel
theorem dX8_isWhole_50 : decode cX8_isWhole 50 = .ok (.iload_n 3, 1) := by decide +kernel
theorem dX8_isWhole_51 : decode cX8_isWhole 51 = .ok (.laload, 1) := by decide +kernel
theorem dX8_isWhole_52 : decode cX8_isWhole 52 = .ok (.invokevirtual 197, 3) := by decide +kernel
theorem dX8_isWhole_55 : decode cX8_isWhole 55 = .ok (.lstore 6, 2) := by decide +kernel
theorem dX8_isWhole_57 : decode cX8_isWhole 57 = .ok (.lload 4, 2) := by decide +kernel
theorem dX8_isWhole_59 : decode cX8_isWhole 59 = .ok (.lconst 0, 1) := by decide +kernel
theorem dX8_isWhole_60 : decode cX8_isWhole 60 = .ok (.lcmp, 1) := by decide +kernel
theorem dX8_isWhole_61 : decode cX8_isWhole 61 = .ok (.ifCond .le 10, 3) := by decide +kernel
theorem dX8_isWhole_64 : decode cX8_isWhole 64 = .ok (.lload 6, 2) := by decide +kernel
theorem dX8_isWhole_66 : decode cX8_isWhole 66 = .ok (.lconst 0, 1) := by decide +kernel
theorem dX8_isWhole_67 : decode cX8_isWhole 67 = .ok (.lcmp, 1) := by decide +kernel
theorem dX8_isWhole_68 : decode cX8_isWhole 68 = .ok (.ifCond .lt 17, 3) := by decide +kernel
theorem dX8_isWhole_71 : decode cX8_isWhole 71 = .ok (.lload 4, 2) := by decide +kernel
theorem dX8_isWhole_73 : decode cX8_isWhole 73 = .ok (.lconst 0, 1) := by decide +kernel
theorem dX8_isWhole_74 : decode cX8_isWhole 74 = .ok (.lcmp, 1) := by decide +kernel
theorem dX8_isWhole_75 : decode cX8_isWhole 75 = .ok (.ifCond .ge 74, 3) := by decide +kernel
theorem dX8_isWhole_78 : decode cX8_isWhole 78 = .ok (.lload 6, 2) := by decide +kernel
theorem dX8_isWhole_80 : decode cX8_isWhole 80 = .ok (.lconst 0, 1) := by decide +kernel
theorem dX8_isWhole_81 : decode cX8_isWhole 81 = .ok (.lcmp, 1) := by decide +kernel
theorem dX8_isWhole_82 : decode cX8_isWhole 82 = .ok (.ifCond .le 67, 3) := by decide +kernel
theorem dX8_isWhole_85 : decode cX8_isWhole 85 = .ok (.iload_n 1, 1) := by decide +kernel
theorem dX8_isWhole_86 : decode cX8_isWhole 86 = .ok (.ifCond .eq 61, 3) := by decide +kernel
theorem dX8_isWhole_89 : decode cX8_isWhole 89 = .ok (.aload_n 0, 1) := by decide +kernel
theorem dX8_isWhole_90 : decode cX8_isWhole 90 = .ok (.getfield 42, 3) := by decide +kernel
theorem dX8_isWhole_93 : decode cX8_isWhole 93 = .ok (.iload_n 3, 1) := by decide +kernel
theorem dX8_isWhole_94 : decode cX8_isWhole 94 = .ok (.laload, 1) := by decide +kernel
theorem dX8_isWhole_95 : decode cX8_isWhole 95 = .ok (.aload_n 0, 1) := by decide +kernel
theorem dX8_isWhole_96 : decode cX8_isWhole 96 = .ok (.getfield 42, 3) := by decide +kernel
theorem dX8_isWhole_99 : decode cX8_isWhole 99 = .ok (.iload_n 2, 1) := by decide +kernel
theorem dX8_isWhole_100 : decode cX8_isWhole 100 = .ok (.laload, 1) := by decide +kernel
theorem dX8_isWhole_101 : decode cX8_isWhole 101 = .ok (.lsub, 1) := by decide +kernel
theorem dX8_isWhole_102 : decode cX8_isWhole 102 = .ok (.lload 4, 2) := by decide +kernel
theorem dX8_isWhole_104 : decode cX8_isWhole 104 = .ok (.lmul, 1) := by decide +kernel
theorem dX8_isWhole_105 : decode cX8_isWhole 105 = .ok (.lload 4, 2) := by decide +kernel
theorem dX8_isWhole_107 : decode cX8_isWhole 107 = .ok (.lload 6, 2) := by decide +kernel
theorem dX8_isWhole_109 : decode cX8_isWhole 109 = .ok (.lsub, 1) := by decide +kernel
theorem dX8_isWhole_110 : decode cX8_isWhole 110 = .ok (.lrem, 1) := by decide +kernel
theorem dX8_isWhole_111 : decode cX8_isWhole 111 = .ok (.lconst 0, 1) := by decide +kernel
theorem dX8_isWhole_112 : decode cX8_isWhole 112 = .ok (.lcmp, 1) := by decide +kernel
theorem dX8_isWhole_113 : decode cX8_isWhole 113 = .ok (.ifCond .ne 34, 3) := by decide +kernel
theorem dX8_isWhole_116 : decode cX8_isWhole 116 = .ok (.aload_n 0, 1) := by decide +kernel
theorem dX8_isWhole_117 : decode cX8_isWhole 117 = .ok (.getfield 45, 3) := by decide +kernel
theorem dX8_isWhole_120 : decode cX8_isWhole 120 = .ok (.iload_n 3, 1) := by decide +kernel
theorem dX8_isWhole_121 : decode cX8_isWhole 121 = .ok (.laload, 1) := by decide +kernel
theorem dX8_isWhole_122 : decode cX8_isWhole 122 = .ok (.aload_n 0, 1) := by decide +kernel
theorem dX8_isWhole_123 : decode cX8_isWhole 123 = .ok (.getfield 45, 3) := by decide +kernel
theorem dX8_isWhole_126 : decode cX8_isWhole 126 = .ok (.iload_n 2, 1) := by decide +kernel
theorem dX8_isWhole_127 : decode cX8_isWhole 127 = .ok (.laload, 1) := by decide +kernel
theorem dX8_isWhole_128 : decode cX8_isWhole 128 = .ok (.lsub, 1) := by decide +kernel
theorem dX8_isWhole_129 : decode cX8_isWhole 129 = .ok (.lload 4, 2) := by decide +kernel
theorem dX8_isWhole_131 : decode cX8_isWhole 131 = .ok (.lmul, 1) := by decide +kernel
theorem dX8_isWhole_132 : decode cX8_isWhole 132 = .ok (.lload 4, 2) := by decide +kernel
theorem dX8_isWhole_134 : decode cX8_isWhole 134 = .ok (.lload 6, 2) := by decide +kernel
theorem dX8_isWhole_136 : decode cX8_isWhole 136 = .ok (.lsub, 1) := by decide +kernel
theorem dX8_isWhole_137 : decode cX8_isWhole 137 = .ok (.lrem, 1) := by decide +kernel
theorem dX8_isWhole_138 : decode cX8_isWhole 138 = .ok (.lconst 0, 1) := by decide +kernel
theorem dX8_isWhole_139 : decode cX8_isWhole 139 = .ok (.lcmp, 1) := by decide +kernel
theorem dX8_isWhole_140 : decode cX8_isWhole 140 = .ok (.ifCond .ne 7, 3) := by decide +kernel
theorem dX8_isWhole_143 : decode cX8_isWhole 143 = .ok (.iconst 1, 1) := by decide +kernel
theorem dX8_isWhole_144 : decode cX8_isWhole 144 = .ok (.goto 4, 3) := by decide +kernel
theorem dX8_isWhole_147 : decode cX8_isWhole 147 = .ok (.iconst 0, 1) := by decide +kernel
theorem dX8_isWhole_148 : decode cX8_isWhole 148 = .ok (.istore_n 1, 1) := by decide +kernel
theorem dX8_isWhole_149 : decode cX8_isWhole 149 = .ok (.iinc 2 1, 3) := by decide +kernel
theorem dX8_isWhole_152 : decode cX8_isWhole 152 = .ok (.goto (-148), 3) := by decide +kernel
theorem dX8_isWhole_155 : decode cX8_isWhole 155 = .ok (.iload_n 1, 1) := by decide +kernel
theorem dX8_isWhole_156 : decode cX8_isWhole 156 = .ok (.ireturn, 1) := by decide +kernel
set_option maxHeartbeats 4000000 in
set_option maxRecDepth 100000 in
theorem tX8_isWhole (l : Launch) (G : Gg) (b0 : Nat) {K : Kk} {R : Rr} {M : Mm} {r : Nat} {res : Int32} (hm : mX8_isWhole K R M r = some (res)) : CT l G b0 yX8_isWhole cX8_isWhole 8 (some .boolean) (rmz 3 55) [.ref r] K R M (some (.int res)) K R M := by
  refine ct_of (by decide +kernel) (Nat.le_of_ble_eq_true rfl) (fun w hq => ?_)
  have hw := hq.b
  change w 0 0 0 [(0, .ref r)] [] K R M
  replace hm := h_start hm
  unfold mX8_isWhole at hm
  obtain ⟨h1, m48⟩ := h_ck hm
  clear hm
  refine r_iconst (v := 1) hw dX8_isWhole_0 rfl ?_
  obtain ⟨i2, ei2, m49⟩ := h_nm m48
  clear m48
  refine r_topI (w := w) ei2 ?_
  refine r_istore_n hw dX8_isWhole_1 rfl (by decide) rfl ?_
  refine r_iconst (v := 0) hw dX8_isWhole_2 rfl ?_
  obtain ⟨i3, ei3, m50⟩ := h_nm m49
  clear m49
  refine r_topI (w := w) ei3 ?_
  refine r_istore_n hw dX8_isWhole_3 rfl (by decide) rfl ?_
  refine r_sub hw [2, 1, 0] rfl ?_
  obtain ⟨v4, n04, hn4, hv4⟩ := h_lp m50
  clear m50
  have L4 : ∀ n : Nat, ∀ (i4 : Int32) (i5 : Int32), it (mX8_isWhole_L4 K R M r) n (i4, i5) = some v4 → w 0 0 4 [(0, .ref r), (1, .int i4), (2, .int i5)] [] K R M := by
    intro n4
    induction n4 with
    | zero => intro i4 i5 hz; exact absurd hz h_it0
    | succ n4 ih4 =>
      intro i4 i5 m51
      replace m51 : (mX8_isWhole_B4 K R M r i4 i5).bind (Sum.elim (it (mX8_isWhole_L4 K R M r) n4) some) = some v4 := m51
      unfold mX8_isWhole_B4 at m51
      have J149 : ∀ (i6 : Int32) (i7 : Int32), (mX8_isWhole_J149 K R M r i6 i7).bind (Sum.elim (it (mX8_isWhole_L4 K R M r) n4) some) = some v4 → w 0 0 149 [(0, .ref r), (1, .int i6), (2, .int i7)] [] K R M := by
        intro i6 i7 m52
        unfold mX8_isWhole_J149 at m52
        obtain ⟨i8, ei8, m53⟩ := h_nm m52
        clear m52
        refine r_iinc (j := 2) (v := i8) hw dX8_isWhole_149 rfl (by rw [ei8]; rfl) (by decide) rfl ?_
        refine r_goto (tgt := 4) hw dX8_isWhole_152 (by decide) ?_
        refine r_sub hw [1, 2, 0] rfl ?_
        exact ih4 _ _ m53
      have J148 : ∀ (i9 : Int32) (s10 : Int32), (mX8_isWhole_J148 K R M r i9 s10).bind (Sum.elim (it (mX8_isWhole_L4 K R M r) n4) some) = some v4 → w 0 0 148 [(0, .ref r), (2, .int i9)] [.int s10] K R M := by
        intro i9 s10 m54
        unfold mX8_isWhole_J148 at m54
        refine r_istore_n hw dX8_isWhole_148 rfl (by decide) rfl ?_
        refine r_sub hw [1, 0, 2] rfl ?_
        exact J149 _ _ m54
      have J147 : ∀ (i11 : Int32), (mX8_isWhole_J147 K R M r i11).bind (Sum.elim (it (mX8_isWhole_L4 K R M r) n4) some) = some v4 → w 0 0 147 [(0, .ref r), (2, .int i11)] [] K R M := by
        intro i11 m55
        unfold mX8_isWhole_J147 at m55
        refine r_iconst (v := 0) hw dX8_isWhole_147 rfl ?_
        exact J148 _ _ m55
      have J85 : ∀ (i12 : Int32) (i13 : Int32) (i14 : Int32) (l15 : Int64) (l16 : Int64), (mX8_isWhole_J85 K R M r i12 i13 i14 l15 l16).bind (Sum.elim (it (mX8_isWhole_L4 K R M r) n4) some) = some v4 → w 0 0 85 [(0, .ref r), (1, .int i12), (2, .int i13), (3, .int i14), (4, .long l15), (6, .long l16)] [] K R M := by
        intro i12 i13 i14 l15 l16 m56
        unfold mX8_isWhole_J85 at m56
        refine r_iload_n hw dX8_isWhole_85 1 rfl ?_
        refine r_if_eq (tgt := 147) hw dX8_isWhole_86 (by decide) (fun c17 => ?_) (fun c17 => ?_)
        · have m57 := h_if_t c17 m56
          clear m56
          refine r_sub hw [0, 2] rfl ?_
          exact J147 _ m57
        · have m58 := h_if_f c17 m56
          clear m56
          refine r_aload_n hw dX8_isWhole_89 0 rfl ?_
          obtain ⟨q18, bq18, m59⟩ := h_bd m58
          clear m58
          refine r_getR hw fO_X8_42 h1 bq18 dX8_isWhole_90 ?_
          refine r_iload_n hw dX8_isWhole_93 3 rfl ?_
          obtain ⟨h19, m60⟩ := h_ck m59
          clear m59
          refine r_laload hw h19 dX8_isWhole_94 ?_
          refine r_aload_n hw dX8_isWhole_95 0 rfl ?_
          refine r_getR hw fO_X8_42 h1 bq18 dX8_isWhole_96 ?_
          refine r_iload_n hw dX8_isWhole_99 2 rfl ?_
          obtain ⟨h20, m61⟩ := h_ck m60
          clear m60
          refine r_laload hw h20 dX8_isWhole_100 ?_
          refine r_lsub hw dX8_isWhole_101 ?_
          refine r_lload hw dX8_isWhole_102 4 rfl ?_
          refine r_lmul hw dX8_isWhole_104 ?_
          refine r_lload hw dX8_isWhole_105 4 rfl ?_
          refine r_lload hw dX8_isWhole_107 5 rfl ?_
          refine r_lsub hw dX8_isWhole_109 ?_
          obtain ⟨h21, m62⟩ := h_ck m61
          clear m61
          refine r_lrem hw dX8_isWhole_110 h21 ?_
          refine r_lconst (v := 0) hw dX8_isWhole_111 rfl ?_
          refine r_lcmp_ne (tgt := 147) hw dX8_isWhole_112 dX8_isWhole_113 (by decide) (fun c22 => ?_) (fun c22 => ?_)
          · have m63 := h_if_f c22 m62
            clear m62
            refine r_sub hw [0, 2] rfl ?_
            exact J147 _ m63
          · have m64 := h_if_t c22 m62
            clear m62
            refine r_aload_n hw dX8_isWhole_116 0 rfl ?_
            obtain ⟨q23, bq23, m65⟩ := h_bd m64
            clear m64
            refine r_getR hw fO_X8_45 h1 bq23 dX8_isWhole_117 ?_
            refine r_iload_n hw dX8_isWhole_120 3 rfl ?_
            obtain ⟨h24, m66⟩ := h_ck m65
            clear m65
            refine r_laload hw h24 dX8_isWhole_121 ?_
            refine r_aload_n hw dX8_isWhole_122 0 rfl ?_
            refine r_getR hw fO_X8_45 h1 bq23 dX8_isWhole_123 ?_
            refine r_iload_n hw dX8_isWhole_126 2 rfl ?_
            obtain ⟨h25, m67⟩ := h_ck m66
            clear m66
            refine r_laload hw h25 dX8_isWhole_127 ?_
            refine r_lsub hw dX8_isWhole_128 ?_
            refine r_lload hw dX8_isWhole_129 4 rfl ?_
            refine r_lmul hw dX8_isWhole_131 ?_
            refine r_lload hw dX8_isWhole_132 4 rfl ?_
            refine r_lload hw dX8_isWhole_134 5 rfl ?_
            refine r_lsub hw dX8_isWhole_136 ?_
            refine r_lrem hw dX8_isWhole_137 h21 ?_
            refine r_lconst (v := 0) hw dX8_isWhole_138 rfl ?_
            refine r_lcmp_ne (tgt := 147) hw dX8_isWhole_139 dX8_isWhole_140 (by decide) (fun c26 => ?_) (fun c26 => ?_)
            · have m68 := h_if_f c26 m67
              clear m67
              refine r_sub hw [0, 2] rfl ?_
              exact J147 _ m68
            · have m69 := h_if_t c26 m67
              clear m67
              refine r_iconst (v := 1) hw dX8_isWhole_143 rfl ?_
              refine r_goto (tgt := 148) hw dX8_isWhole_144 (by decide) ?_
              refine r_sub hw [0, 2] rfl ?_
              exact J148 _ _ m69
      have J71 : ∀ (i27 : Int32) (i28 : Int32) (i29 : Int32) (l30 : Int64) (l31 : Int64), (mX8_isWhole_J71 K R M r i27 i28 i29 l30 l31).bind (Sum.elim (it (mX8_isWhole_L4 K R M r) n4) some) = some v4 → w 0 0 71 [(0, .ref r), (1, .int i27), (2, .int i28), (3, .int i29), (4, .long l30), (6, .long l31)] [] K R M := by
        intro i27 i28 i29 l30 l31 m70
        unfold mX8_isWhole_J71 at m70
        refine r_lload hw dX8_isWhole_71 4 rfl ?_
        refine r_lconst (v := 0) hw dX8_isWhole_73 rfl ?_
        refine r_lcmp_ge (tgt := 149) hw dX8_isWhole_74 dX8_isWhole_75 (by decide) (fun c32 => ?_) (fun c32 => ?_)
        · have m71 := h_if_f c32 m70
          clear m70
          refine r_sub hw [0, 1, 2] rfl ?_
          exact J149 _ _ m71
        · have m72 := h_if_t c32 m70
          clear m70
          refine r_lload hw dX8_isWhole_78 5 rfl ?_
          refine r_lconst (v := 0) hw dX8_isWhole_80 rfl ?_
          refine r_lcmp_le (tgt := 149) hw dX8_isWhole_81 dX8_isWhole_82 (by decide) (fun c33 => ?_) (fun c33 => ?_)
          · have m73 := h_if_t c33 m72
            clear m72
            refine r_sub hw [0, 1, 2] rfl ?_
            exact J149 _ _ m73
          · have m74 := h_if_f c33 m72
            clear m72
            exact J85 _ _ _ _ _ m74
      refine r_iload_n hw dX8_isWhole_4 2 rfl ?_
      refine r_aload_n hw dX8_isWhole_5 0 rfl ?_
      refine r_getI hw fO_X8_146 h1 dX8_isWhole_6 ?_
      refine r_icmp_ge (tgt := 155) hw dX8_isWhole_9 (by decide) (fun c34 => ?_) (fun c34 => ?_)
      · have m75 := h_if_f c34 m51
        clear m51
        have m76 := h_ex m75 hv4
        clear m75
        refine r_iload_n hw dX8_isWhole_155 1 rfl ?_
        obtain ⟨h35, m77⟩ := h_ck m76
        clear m76
        cases h_ret m77
        exact r_zreturn hq h35 rfl rfl dX8_isWhole_156
      · have m78 := h_if_t c34 m51
        clear m51
        refine r_iload_n hw dX8_isWhole_12 2 rfl ?_
        refine r_iconst (v := 1) hw dX8_isWhole_13 rfl ?_
        refine r_iadd hw dX8_isWhole_14 ?_
        refine r_aload_n hw dX8_isWhole_15 0 rfl ?_
        refine r_getI hw fO_X8_146 h1 dX8_isWhole_16 ?_
        obtain ⟨h36, m79⟩ := h_ck m78
        clear m78
        refine r_irem hw dX8_isWhole_19 h36 ?_
        obtain ⟨i37, ei37, m80⟩ := h_nm m79
        clear m79
        refine r_topI (w := w) ei37 ?_
        refine r_istore_n hw dX8_isWhole_20 rfl (by decide) rfl ?_
        refine r_aload_n hw dX8_isWhole_21 1 rfl ?_
        refine r_aload_n hw dX8_isWhole_22 1 rfl ?_
        obtain ⟨q38, bq38, m81⟩ := h_bd m80
        clear m80
        refine r_getR hw fO_X8_42 h1 bq38 dX8_isWhole_23 ?_
        refine r_iload_n hw dX8_isWhole_26 3 rfl ?_
        obtain ⟨h39, m82⟩ := h_ck m81
        clear m81
        refine r_laload hw h39 dX8_isWhole_27 ?_
        refine r_aload_n hw dX8_isWhole_28 1 rfl ?_
        obtain ⟨q40, bq40, m83⟩ := h_bd m82
        clear m82
        refine r_getR hw fO_X8_45 h1 bq40 dX8_isWhole_29 ?_
        refine r_iload_n hw dX8_isWhole_32 3 rfl ?_
        obtain ⟨h41, m84⟩ := h_ck m83
        clear m83
        refine r_laload hw h41 dX8_isWhole_33 ?_
        obtain ⟨l42, g42, m85⟩ := h_bd m84
        clear m84
        refine r_callV1 hw (tX8_sideOf l G b0 g42) lB_X8_sideOf lI_X8_sideOf mL_X8_197 (c := 8) rfl h1 rfl (Nat.le_of_ble_eq_true rfl) (Nat.le_of_ble_eq_true rfl) rfl (Nat.le_of_ble_eq_true rfl) dX8_isWhole_34 ?_
        refine r_lstore hw dX8_isWhole_37 (by decide) rfl ?_
        refine r_aload_n hw dX8_isWhole_39 2 rfl ?_
        refine r_aload_n hw dX8_isWhole_40 2 rfl ?_
        refine r_getR hw fO_X8_42 h1 bq38 dX8_isWhole_41 ?_
        refine r_iload_n hw dX8_isWhole_44 1 rfl ?_
        obtain ⟨h43, m86⟩ := h_ck m85
        clear m85
        refine r_laload hw h43 dX8_isWhole_45 ?_
        refine r_aload_n hw dX8_isWhole_46 2 rfl ?_
        refine r_getR hw fO_X8_45 h1 bq40 dX8_isWhole_47 ?_
        refine r_iload_n hw dX8_isWhole_50 1 rfl ?_
        obtain ⟨h44, m87⟩ := h_ck m86
        clear m86
        refine r_laload hw h44 dX8_isWhole_51 ?_
        obtain ⟨l45, g45, m88⟩ := h_bd m87
        clear m87
        refine r_callV1 hw (tX8_sideOf l G b0 g45) lB_X8_sideOf lI_X8_sideOf mL_X8_197 (c := 8) rfl h1 rfl (Nat.le_of_ble_eq_true rfl) (Nat.le_of_ble_eq_true rfl) rfl (Nat.le_of_ble_eq_true rfl) dX8_isWhole_52 ?_
        refine r_lstore hw dX8_isWhole_55 (by decide) rfl ?_
        refine r_lload hw dX8_isWhole_57 1 rfl ?_
        refine r_lconst (v := 0) hw dX8_isWhole_59 rfl ?_
        refine r_lcmp_le (tgt := 71) hw dX8_isWhole_60 dX8_isWhole_61 (by decide) (fun c46 => ?_) (fun c46 => ?_)
        · have m89 := h_if_t c46 m88
          clear m88
          refine r_sub hw [3, 4, 5, 2, 1, 0] rfl ?_
          exact J71 _ _ _ _ _ m89
        · have m90 := h_if_f c46 m88
          clear m88
          refine r_lload hw dX8_isWhole_64 0 rfl ?_
          refine r_lconst (v := 0) hw dX8_isWhole_66 rfl ?_
          refine r_lcmp_lt (tgt := 85) hw dX8_isWhole_67 dX8_isWhole_68 (by decide) (fun c47 => ?_) (fun c47 => ?_)
          · have m91 := h_if_t c47 m90
            clear m90
            refine r_sub hw [3, 4, 5, 2, 1, 0] rfl ?_
            exact J85 _ _ _ _ _ m91
          · have m92 := h_if_f c47 m90
            clear m90
            refine r_sub hw [3, 4, 5, 2, 1, 0] rfl ?_
            exact J71 _ _ _ _ _ m92
  exact L4 n04 _ _ hn4
theorem dX8_partOn_0 : decode cX8_partOn 0 = .ok (.aload_n 0, 1) := by decide +kernel
theorem dX8_partOn_1 : decode cX8_partOn 1 = .ok (.invokevirtual 132, 3) := by decide +kernel
theorem dX8_partOn_4 : decode cX8_partOn 4 = .ok (.iconst 0, 1) := by decide +kernel
theorem dX8_partOn_5 : decode cX8_partOn 5 = .ok (.istore_n 2, 1) := by decide +kernel
theorem dX8_partOn_6 : decode cX8_partOn 6 = .ok (.iload_n 2, 1) := by decide +kernel
theorem dX8_partOn_7 : decode cX8_partOn 7 = .ok (.aload_n 0, 1) := by decide +kernel
theorem dX8_partOn_8 : decode cX8_partOn 8 = .ok (.getfield 146, 3) := by decide +kernel
theorem dX8_partOn_11 : decode cX8_partOn 11 = .ok (.if_icmp .ge 182, 3) := by decide +kernel
theorem dX8_partOn_14 : decode cX8_partOn 14 = .ok (.iload_n 2, 1) := by decide +kernel
theorem dX8_partOn_15 : decode cX8_partOn 15 = .ok (.iconst 1, 1) := by decide +kernel
theorem dX8_partOn_16 : decode cX8_partOn 16 = .ok (.iadd, 1) := by decide +kernel
theorem dX8_partOn_17 : decode cX8_partOn 17 = .ok (.aload_n 0, 1) := by decide +kernel
theorem dX8_partOn_18 : decode cX8_partOn 18 = .ok (.getfield 146, 3) := by decide +kernel
theorem dX8_partOn_21 : decode cX8_partOn 21 = .ok (.irem, 1) := by decide +kernel
theorem dX8_partOn_22 : decode cX8_partOn 22 = .ok (.istore_n 3, 1) := by decide +kernel
theorem dX8_partOn_23 : decode cX8_partOn 23 = .ok (.aload_n 0, 1) := by decide +kernel
theorem dX8_partOn_24 : decode cX8_partOn 24 = .ok (.aload_n 0, 1) := by decide +kernel
theorem dX8_partOn_25 : decode cX8_partOn 25 = .ok (.getfield 42, 3) := by decide +kernel
theorem dX8_partOn_28 : decode cX8_partOn 28 = .ok (.iload_n 2, 1) := by decide +kernel
theorem dX8_partOn_29 : decode cX8_partOn 29 = .ok (.laload, 1) := by decide +kernel
theorem dX8_partOn_30 : decode cX8_partOn 30 = .ok (.aload_n 0, 1) := by decide +kernel
theorem dX8_partOn_31 : decode cX8_partOn 31 = .ok (.getfield 45, 3) := by decide +kernel
theorem dX8_partOn_34 : decode cX8_partOn 34 = .ok (.iload_n 2, 1) := by decide +kernel
theorem dX8_partOn_35 : decode cX8_partOn 35 = .ok (.laload, 1) := by decide +kernel
theorem dX8_partOn_36 : decode cX8_partOn 36 = .ok (.invokevirtual 197, 3) := by decide +kernel
theorem dX8_partOn_39 : decode cX8_partOn 39 = .ok (.lstore 4, 2) := by decide +kernel
theorem dX8_partOn_41 : decode cX8_partOn 41 = .ok (.aload_n 0, 1) := by decide +kernel
theorem dX8_partOn_42 : decode cX8_partOn 42 = .ok (.aload_n 0, 1) := by decide +kernel
theorem dX8_partOn_43 : decode cX8_partOn 43 = .ok (.getfield 42, 3) := by decide +kernel
theorem dX8_partOn_46 : decode cX8_partOn 46 = .ok (.iload_n 3, 1) := by decide +kernel
theorem dX8_partOn_47 : decode cX8_partOn 47 = .ok (.laload, 1) := by decide +kernel
theorem dX8_partOn_48 : decode cX8_partOn 48 = .ok (.aload_n 0, 1) := by decide +kernel
theorem dX8_partOn_49 : decode cX8_partOn 49 = .ok (.getfield 45, 3) := by decide +kernel
theorem dX8_partOn_52 : decode cX8_partOn 52 = .ok (.iload_n 3, 1) := by decide +kernel
theorem dX8_partOn_53 : decode cX8_partOn 53 = .ok (.laload, 1) := by decide +kernel
theorem dX8_partOn_54 : decode cX8_partOn 54 = .ok (.invokevirtual 197, 3) := by decide +kernel
theorem dX8_partOn_57 : decode cX8_partOn 57 = .ok (.lstore 6, 2) := by decide +kernel
theorem dX8_partOn_59 : decode cX8_partOn 59 = .ok (.iload_n 1, 1) := by decide +kernel
theorem dX8_partOn_60 : decode cX8_partOn 60 = .ok (.ifCond .le 10, 3) := by decide +kernel
theorem dX8_partOn_63 : decode cX8_partOn 63 = .ok (.lload 4, 2) := by decide +kernel
theorem dX8_partOn_65 : decode cX8_partOn 65 = .ok (.lconst 0, 1) := by decide +kernel
theorem dX8_partOn_66 : decode cX8_partOn 66 = .ok (.lcmp, 1) := by decide +kernel
theorem dX8_partOn_67 : decode cX8_partOn 67 = .ok (.ifCond .ge 14, 3) := by decide +kernel
theorem dX8_partOn_70 : decode cX8_partOn 70 = .ok (.iload_n 1, 1) := by decide +kernel
theorem dX8_partOn_71 : decode cX8_partOn 71 = .ok (.ifCond .ge 26, 3) := by decide +kernel
theorem dX8_partOn_74 : decode cX8_partOn 74 = .ok (.lload 4, 2) := by decide +kernel
theorem dX8_partOn_76 : decode cX8_partOn 76 = .ok (.lconst 0, 1) := by decide +kernel
theorem dX8_partOn_77 : decode cX8_partOn 77 = .ok (.lcmp, 1) := by decide +kernel
theorem dX8_partOn_78 : decode cX8_partOn 78 = .ok (.ifCond .gt 19, 3) := by decide +kernel
theorem dX8_partOn_81 : decode cX8_partOn 81 = .ok (.aload_n 0, 1) := by decide +kernel
theorem dX8_partOn_82 : decode cX8_partOn 82 = .ok (.aload_n 0, 1) := by decide +kernel
theorem dX8_partOn_83 : decode cX8_partOn 83 = .ok (.getfield 42, 3) := by decide +kernel
theorem dX8_partOn_86 : decode cX8_partOn 86 = .ok (.iload_n 2, 1) := by decide +kernel
theorem dX8_partOn_87 : decode cX8_partOn 87 = .ok (.laload, 1) := by decide +kernel
theorem dX8_partOn_88 : decode cX8_partOn 88 = .ok (.aload_n 0, 1) := by decide +kernel
theorem dX8_partOn_89 : decode cX8_partOn 89 = .ok (.getfield 45, 3) := by decide +kernel
theorem dX8_partOn_92 : decode cX8_partOn 92 = .ok (.iload_n 2, 1) := by decide +kernel
theorem dX8_partOn_93 : decode cX8_partOn 93 = .ok (.laload, 1) := by decide +kernel
theorem dX8_partOn_94 : decode cX8_partOn 94 = .ok (.invokevirtual 139, 3) := by decide +kernel
theorem dX8_partOn_97 : decode cX8_partOn 97 = .ok (.lload 4, 2) := by decide +kernel
theorem dX8_partOn_99 : decode cX8_partOn 99 = .ok (.lconst 0, 1) := by decide +kernel
theorem dX8_partOn_100 : decode cX8_partOn 100 = .ok (.lcmp, 1) := by decide +kernel
theorem dX8_partOn_101 : decode cX8_partOn 101 = .ok (.ifCond .le 10, 3) := by decide +kernel
theorem dX8_partOn_104 : decode cX8_partOn 104 = .ok (.lload 6, 2) := by decide +kernel
theorem dX8_partOn_106 : decode cX8_partOn 106 = .ok (.lconst 0, 1) := by decide +kernel
theorem dX8_partOn_107 : decode cX8_partOn 107 = .ok (.lcmp, 1) := by decide +kernel
theorem dX8_partOn_108 : decode cX8_partOn 108 = .ok (.ifCond .lt 17, 3) := by decide +kernel
theorem dX8_partOn_111 : decode cX8_partOn 111 = .ok (.lload 4, 2) := by decide +kernel
theorem dX8_partOn_113 : decode cX8_partOn 113 = .ok (.lconst 0, 1) := by decide +kernel
theorem dX8_partOn_114 : decode cX8_partOn 114 = .ok (.lcmp, 1) := by decide +kernel
theorem dX8_partOn_115 : decode cX8_partOn 115 = .ok (.ifCond .ge 72, 3) := by decide +kernel
theorem dX8_partOn_118 : decode cX8_partOn 118 = .ok (.lload 6, 2) := by decide +kernel
theorem dX8_partOn_120 : decode cX8_partOn 120 = .ok (.lconst 0, 1) := by decide +kernel
theorem dX8_partOn_121 : decode cX8_partOn 121 = .ok (.lcmp, 1) := by decide +kernel
theorem dX8_partOn_122 : decode cX8_partOn 122 = .ok (.ifCond .le 65, 3) := by decide +kernel
theorem dX8_partOn_125 : decode cX8_partOn 125 = .ok (.aload_n 0, 1) := by decide +kernel
theorem dX8_partOn_126 : decode cX8_partOn 126 = .ok (.aload_n 0, 1) := by decide +kernel
theorem dX8_partOn_127 : decode cX8_partOn 127 = .ok (.getfield 42, 3) := by decide +kernel
theorem dX8_partOn_130 : decode cX8_partOn 130 = .ok (.iload_n 2, 1) := by decide +kernel
theorem dX8_partOn_131 : decode cX8_partOn 131 = .ok (.laload, 1) := by decide +kernel
theorem dX8_partOn_132 : decode cX8_partOn 132 = .ok (.aload_n 0, 1) := by decide +kernel
theorem dX8_partOn_133 : decode cX8_partOn 133 = .ok (.getfield 42, 3) := by decide +kernel
theorem dX8_partOn_136 : decode cX8_partOn 136 = .ok (.iload_n 3, 1) := by decide +kernel
theorem dX8_partOn_137 : decode cX8_partOn 137 = .ok (.laload, 1) := by decide +kernel
theorem dX8_partOn_138 : decode cX8_partOn 138 = .ok (.aload_n 0, 1) := by decide +kernel
theorem dX8_partOn_139 : decode cX8_partOn 139 = .ok (.getfield 42, 3) := by decide +kernel
theorem dX8_partOn_142 : decode cX8_partOn 142 = .ok (.iload_n 2, 1) := by decide +kernel
theorem dX8_partOn_143 : decode cX8_partOn 143 = .ok (.laload, 1) := by decide +kernel
theorem dX8_partOn_144 : decode cX8_partOn 144 = .ok (.lsub, 1) := by decide +kernel
theorem dX8_partOn_145 : decode cX8_partOn 145 = .ok (.lload 4, 2) := by decide +kernel
theorem dX8_partOn_147 : decode cX8_partOn 147 = .ok (.lmul, 1) := by decide +kernel
theorem dX8_partOn_148 : decode cX8_partOn 148 = .ok (.lload 4, 2) := by decide +kernel
theorem dX8_partOn_150 : decode cX8_partOn 150 = .ok (.lload 6, 2) := by decide +kernel
theorem dX8_partOn_152 : decode cX8_partOn 152 = .ok (.lsub, 1) := by decide +kernel
theorem dX8_partOn_153 : decode cX8_partOn 153 = .ok (.ldiv, 1) := by decide +kernel
theorem dX8_partOn_154 : decode cX8_partOn 154 = .ok (.ladd, 1) := by decide +kernel
theorem dX8_partOn_155 : decode cX8_partOn 155 = .ok (.aload_n 0, 1) := by decide +kernel
theorem dX8_partOn_156 : decode cX8_partOn 156 = .ok (.getfield 45, 3) := by decide +kernel
theorem dX8_partOn_159 : decode cX8_partOn 159 = .ok (.iload_n 2, 1) := by decide +kernel
theorem dX8_partOn_160 : decode cX8_partOn 160 = .ok (.laload, 1) := by decide +kernel
theorem dX8_partOn_161 : decode cX8_partOn 161 = .ok (.aload_n 0, 1) := by decide +kernel
theorem dX8_partOn_162 : decode cX8_partOn 162 = .ok (.getfield 45, 3) := by decide +kernel
theorem dX8_partOn_165 : decode cX8_partOn 165 = .ok (.iload_n 3, 1) := by decide +kernel
theorem dX8_partOn_166 : decode cX8_partOn 166 = .ok (.laload, 1) := by decide +kernel
theorem dX8_partOn_167 : decode cX8_partOn 167 = .ok (.aload_n 0, 1) := by decide +kernel
theorem dX8_partOn_168 : decode cX8_partOn 168 = .ok (.getfield 45, 3) := by decide +kernel
theorem dX8_partOn_171 : decode cX8_partOn 171 = .ok (.iload_n 2, 1) := by decide +kernel
theorem dX8_partOn_172 : decode cX8_partOn 172 = .ok (.laload, 1) := by decide +kernel
theorem dX8_partOn_173 : decode cX8_partOn 173 = .ok (.lsub, 1) := by decide +kernel
theorem dX8_partOn_174 : decode cX8_partOn 174 = .ok (.lload 4, 2) := by decide +kernel
theorem dX8_partOn_176 : decode cX8_partOn 176 = .ok (.lmul, 1) := by decide +kernel
theorem dX8_partOn_177 : decode cX8_partOn 177 = .ok (.lload 4, 2) := by decide +kernel
theorem dX8_partOn_179 : decode cX8_partOn 179 = .ok (.lload 6, 2) := by decide +kernel
theorem dX8_partOn_181 : decode cX8_partOn 181 = .ok (.lsub, 1) := by decide +kernel
theorem dX8_partOn_182 : decode cX8_partOn 182 = .ok (.ldiv, 1) := by decide +kernel
theorem dX8_partOn_183 : decode cX8_partOn 183 = .ok (.ladd, 1) := by decide +kernel
theorem dX8_partOn_184 : decode cX8_partOn 184 = .ok (.invokevirtual 139, 3) := by decide +kernel
theorem dX8_partOn_187 : decode cX8_partOn 187 = .ok (.iinc 2 1, 3) := by decide +kernel
theorem dX8_partOn_190 : decode cX8_partOn 190 = .ok (.goto (-184), 3) := by decide +kernel
theorem dX8_partOn_193 : decode cX8_partOn 193 = .ok (.aload_n 0, 1) := by decide +kernel
theorem dX8_partOn_194 : decode cX8_partOn 194 = .ok (.invokevirtual 143, 3) := by decide +kernel
theorem dX8_partOn_197 : decode cX8_partOn 197 = .ok (.return_, 1) := by decide +kernel
set_option maxHeartbeats 4000000 in
set_option maxRecDepth 100000 in
theorem tX8_partOn (l : Launch) (G : Gg) (b0 : Nat) {K : Kk} {R : Rr} {M : Mm} {r : Nat} {a0 : Int32} {M' : Mm} (hm : mX8_partOn K R M r a0 = some (M')) : CT l G b0 yX8_partOn cX8_partOn 8 none (rmz 4 87) [.ref r, .int a0] K R M none K R M' := by
  refine ct_of (by decide +kernel) (Nat.le_of_ble_eq_true rfl) (fun w hq => ?_)
  have hw := hq.b
  change w 0 0 0 [(0, .ref r), (1, .int a0)] [] K R M
  replace hm := h_start hm
  unfold mX8_partOn at hm
  obtain ⟨h1, m67⟩ := h_ck hm
  clear hm
  refine r_aload_n hw dX8_partOn_0 0 rfl ?_
  obtain ⟨M2, g2, m68⟩ := h_bd m67
  clear m67
  refine r_callV0 hw (tX8_beginPoints l G b0 g2) lB_X8_beginPoints lI_X8_beginPoints mL_X8_132 (c := 8) rfl h1 rfl (Nat.le_of_ble_eq_true rfl) (Nat.le_of_ble_eq_true rfl) rfl (Nat.le_of_ble_eq_true rfl) dX8_partOn_1 ?_
  refine r_iconst (v := 0) hw dX8_partOn_4 rfl ?_
  obtain ⟨i3, ei3, m69⟩ := h_nm m68
  clear m68
  refine r_topI (w := w) ei3 ?_
  refine r_istore_n hw dX8_partOn_5 rfl (by decide) rfl ?_
  refine r_sub hw [1, 2, 0] rfl ?_
  obtain ⟨v6, n06, hn6, hv6⟩ := h_lp m69
  clear m69
  have L6 : ∀ n : Nat, ∀ (i4 : Int32) (M5 : Mm), it (mX8_partOn_L6 K R r a0) n (i4, M5) = some v6 → w 0 0 6 [(0, .ref r), (1, .int a0), (2, .int i4)] [] K R M5 := by
    intro n6
    induction n6 with
    | zero => intro i4 M5 hz; exact absurd hz h_it0
    | succ n6 ih6 =>
      intro i4 M5 m70
      replace m70 : (mX8_partOn_B6 K R r a0 i4 M5).bind (Sum.elim (it (mX8_partOn_L6 K R r a0) n6) some) = some v6 := m70
      unfold mX8_partOn_B6 at m70
      have J187 : ∀ (M7 : Mm) (i6 : Int32), (mX8_partOn_J187 K R M7 r a0 i6).bind (Sum.elim (it (mX8_partOn_L6 K R r a0) n6) some) = some v6 → w 0 0 187 [(0, .ref r), (1, .int a0), (2, .int i6)] [] K R M7 := by
        intro M7 i6 m71
        unfold mX8_partOn_J187 at m71
        obtain ⟨i8, ei8, m72⟩ := h_nm m71
        clear m71
        refine r_iinc (j := 2) (v := i8) hw dX8_partOn_187 rfl (by rw [ei8]; rfl) (by decide) rfl ?_
        refine r_goto (tgt := 6) hw dX8_partOn_190 (by decide) ?_
        refine r_sub hw [1, 2, 0] rfl ?_
        exact ih6 _ _ m72
      have J125 : ∀ (M13 : Mm) (i9 : Int32) (i10 : Int32) (l11 : Int64) (l12 : Int64), (mX8_partOn_J125 K R M13 r a0 i9 i10 l11 l12).bind (Sum.elim (it (mX8_partOn_L6 K R r a0) n6) some) = some v6 → w 0 0 125 [(0, .ref r), (1, .int a0), (2, .int i9), (3, .int i10), (4, .long l11), (6, .long l12)] [] K R M13 := by
        intro M13 i9 i10 l11 l12 m73
        unfold mX8_partOn_J125 at m73
        refine r_aload_n hw dX8_partOn_125 0 rfl ?_
        refine r_aload_n hw dX8_partOn_126 0 rfl ?_
        obtain ⟨q14, bq14, m74⟩ := h_bd m73
        clear m73
        refine r_getR hw fO_X8_42 h1 bq14 dX8_partOn_127 ?_
        refine r_iload_n hw dX8_partOn_130 2 rfl ?_
        obtain ⟨h15, m75⟩ := h_ck m74
        clear m74
        refine r_laload hw h15 dX8_partOn_131 ?_
        refine r_aload_n hw dX8_partOn_132 0 rfl ?_
        refine r_getR hw fO_X8_42 h1 bq14 dX8_partOn_133 ?_
        refine r_iload_n hw dX8_partOn_136 3 rfl ?_
        obtain ⟨h16, m76⟩ := h_ck m75
        clear m75
        refine r_laload hw h16 dX8_partOn_137 ?_
        refine r_aload_n hw dX8_partOn_138 0 rfl ?_
        refine r_getR hw fO_X8_42 h1 bq14 dX8_partOn_139 ?_
        refine r_iload_n hw dX8_partOn_142 2 rfl ?_
        refine r_laload hw h15 dX8_partOn_143 ?_
        refine r_lsub hw dX8_partOn_144 ?_
        refine r_lload hw dX8_partOn_145 4 rfl ?_
        refine r_lmul hw dX8_partOn_147 ?_
        refine r_lload hw dX8_partOn_148 4 rfl ?_
        refine r_lload hw dX8_partOn_150 5 rfl ?_
        refine r_lsub hw dX8_partOn_152 ?_
        obtain ⟨h17, m77⟩ := h_ck m76
        clear m76
        refine r_ldiv hw dX8_partOn_153 h17 ?_
        refine r_ladd hw dX8_partOn_154 ?_
        refine r_aload_n hw dX8_partOn_155 0 rfl ?_
        obtain ⟨q18, bq18, m78⟩ := h_bd m77
        clear m77
        refine r_getR hw fO_X8_45 h1 bq18 dX8_partOn_156 ?_
        refine r_iload_n hw dX8_partOn_159 2 rfl ?_
        obtain ⟨h19, m79⟩ := h_ck m78
        clear m78
        refine r_laload hw h19 dX8_partOn_160 ?_
        refine r_aload_n hw dX8_partOn_161 0 rfl ?_
        refine r_getR hw fO_X8_45 h1 bq18 dX8_partOn_162 ?_
        refine r_iload_n hw dX8_partOn_165 3 rfl ?_
        obtain ⟨h20, m80⟩ := h_ck m79
        clear m79
        refine r_laload hw h20 dX8_partOn_166 ?_
        refine r_aload_n hw dX8_partOn_167 0 rfl ?_
        refine r_getR hw fO_X8_45 h1 bq18 dX8_partOn_168 ?_
        refine r_iload_n hw dX8_partOn_171 2 rfl ?_
        refine r_laload hw h19 dX8_partOn_172 ?_
        refine r_lsub hw dX8_partOn_173 ?_
        refine r_lload hw dX8_partOn_174 4 rfl ?_
        refine r_lmul hw dX8_partOn_176 ?_
        refine r_lload hw dX8_partOn_177 4 rfl ?_
        refine r_lload hw dX8_partOn_179 5 rfl ?_
        refine r_lsub hw dX8_partOn_181 ?_
        refine r_ldiv hw dX8_partOn_182 h17 ?_
        refine r_ladd hw dX8_partOn_183 ?_
        obtain ⟨M21, g21, m81⟩ := h_bd m80
        clear m80
        refine r_callV0 hw (tX8_point l G b0 g21) lB_X8_point lI_X8_point mL_X8_139 (c := 8) rfl h1 rfl (Nat.le_of_ble_eq_true rfl) (Nat.le_of_ble_eq_true rfl) rfl (Nat.le_of_ble_eq_true rfl) dX8_partOn_184 ?_
        refine r_sub hw [0, 1, 2] rfl ?_
        exact J187 _ _ m81
      have J111 : ∀ (M26 : Mm) (i22 : Int32) (i23 : Int32) (l24 : Int64) (l25 : Int64), (mX8_partOn_J111 K R M26 r a0 i22 i23 l24 l25).bind (Sum.elim (it (mX8_partOn_L6 K R r a0) n6) some) = some v6 → w 0 0 111 [(0, .ref r), (1, .int a0), (2, .int i22), (3, .int i23), (4, .long l24), (6, .long l25)] [] K R M26 := by
        intro M26 i22 i23 l24 l25 m82
        unfold mX8_partOn_J111 at m82
        refine r_lload hw dX8_partOn_111 4 rfl ?_
        refine r_lconst (v := 0) hw dX8_partOn_113 rfl ?_
        refine r_lcmp_ge (tgt := 187) hw dX8_partOn_114 dX8_partOn_115 (by decide) (fun c27 => ?_) (fun c27 => ?_)
        · have m83 := h_if_f c27 m82
          clear m82
          refine r_sub hw [0, 1, 2] rfl ?_
          exact J187 _ _ m83
        · have m84 := h_if_t c27 m82
          clear m82
          refine r_lload hw dX8_partOn_118 5 rfl ?_
          refine r_lconst (v := 0) hw dX8_partOn_120 rfl ?_
          refine r_lcmp_le (tgt := 187) hw dX8_partOn_121 dX8_partOn_122 (by decide) (fun c28 => ?_) (fun c28 => ?_)
          · have m85 := h_if_t c28 m84
            clear m84
            refine r_sub hw [0, 1, 2] rfl ?_
            exact J187 _ _ m85
          · have m86 := h_if_f c28 m84
            clear m84
            exact J125 _ _ _ _ _ m86
      have J97 : ∀ (M33 : Mm) (i29 : Int32) (i30 : Int32) (l31 : Int64) (l32 : Int64), (mX8_partOn_J97 K R M33 r a0 i29 i30 l31 l32).bind (Sum.elim (it (mX8_partOn_L6 K R r a0) n6) some) = some v6 → w 0 0 97 [(0, .ref r), (1, .int a0), (2, .int i29), (3, .int i30), (4, .long l31), (6, .long l32)] [] K R M33 := by
        intro M33 i29 i30 l31 l32 m87
        unfold mX8_partOn_J97 at m87
        refine r_lload hw dX8_partOn_97 4 rfl ?_
        refine r_lconst (v := 0) hw dX8_partOn_99 rfl ?_
        refine r_lcmp_le (tgt := 111) hw dX8_partOn_100 dX8_partOn_101 (by decide) (fun c34 => ?_) (fun c34 => ?_)
        · have m88 := h_if_t c34 m87
          clear m87
          exact J111 _ _ _ _ _ m88
        · have m89 := h_if_f c34 m87
          clear m87
          refine r_lload hw dX8_partOn_104 5 rfl ?_
          refine r_lconst (v := 0) hw dX8_partOn_106 rfl ?_
          refine r_lcmp_lt (tgt := 125) hw dX8_partOn_107 dX8_partOn_108 (by decide) (fun c35 => ?_) (fun c35 => ?_)
          · have m90 := h_if_t c35 m89
            clear m89
            exact J125 _ _ _ _ _ m90
          · have m91 := h_if_f c35 m89
            clear m89
            exact J111 _ _ _ _ _ m91
      have J81 : ∀ (M40 : Mm) (i36 : Int32) (i37 : Int32) (l38 : Int64) (l39 : Int64), (mX8_partOn_J81 K R M40 r a0 i36 i37 l38 l39).bind (Sum.elim (it (mX8_partOn_L6 K R r a0) n6) some) = some v6 → w 0 0 81 [(0, .ref r), (1, .int a0), (2, .int i36), (3, .int i37), (4, .long l38), (6, .long l39)] [] K R M40 := by
        intro M40 i36 i37 l38 l39 m92
        unfold mX8_partOn_J81 at m92
        refine r_aload_n hw dX8_partOn_81 0 rfl ?_
        refine r_aload_n hw dX8_partOn_82 0 rfl ?_
        obtain ⟨q41, bq41, m93⟩ := h_bd m92
        clear m92
        refine r_getR hw fO_X8_42 h1 bq41 dX8_partOn_83 ?_
        refine r_iload_n hw dX8_partOn_86 2 rfl ?_
        obtain ⟨h42, m94⟩ := h_ck m93
        clear m93
        refine r_laload hw h42 dX8_partOn_87 ?_
        refine r_aload_n hw dX8_partOn_88 0 rfl ?_
        obtain ⟨q43, bq43, m95⟩ := h_bd m94
        clear m94
        refine r_getR hw fO_X8_45 h1 bq43 dX8_partOn_89 ?_
        refine r_iload_n hw dX8_partOn_92 2 rfl ?_
        obtain ⟨h44, m96⟩ := h_ck m95
        clear m95
        refine r_laload hw h44 dX8_partOn_93 ?_
        obtain ⟨M45, g45, m97⟩ := h_bd m96
        clear m96
        refine r_callV0 hw (tX8_point l G b0 g45) lB_X8_point lI_X8_point mL_X8_139 (c := 8) rfl h1 rfl (Nat.le_of_ble_eq_true rfl) (Nat.le_of_ble_eq_true rfl) rfl (Nat.le_of_ble_eq_true rfl) dX8_partOn_94 ?_
        exact J97 _ _ _ _ _ m97
      have J70 : ∀ (M50 : Mm) (i46 : Int32) (i47 : Int32) (l48 : Int64) (l49 : Int64), (mX8_partOn_J70 K R M50 r a0 i46 i47 l48 l49).bind (Sum.elim (it (mX8_partOn_L6 K R r a0) n6) some) = some v6 → w 0 0 70 [(0, .ref r), (1, .int a0), (2, .int i46), (3, .int i47), (4, .long l48), (6, .long l49)] [] K R M50 := by
        intro M50 i46 i47 l48 l49 m98
        unfold mX8_partOn_J70 at m98
        refine r_iload_n hw dX8_partOn_70 1 rfl ?_
        refine r_if_ge (tgt := 97) hw dX8_partOn_71 (by decide) (fun c51 => ?_) (fun c51 => ?_)
        · have m99 := h_if_f c51 m98
          clear m98
          exact J97 _ _ _ _ _ m99
        · have m100 := h_if_t c51 m98
          clear m98
          refine r_lload hw dX8_partOn_74 4 rfl ?_
          refine r_lconst (v := 0) hw dX8_partOn_76 rfl ?_
          refine r_lcmp_gt (tgt := 97) hw dX8_partOn_77 dX8_partOn_78 (by decide) (fun c52 => ?_) (fun c52 => ?_)
          · have m101 := h_if_f c52 m100
            clear m100
            exact J97 _ _ _ _ _ m101
          · have m102 := h_if_t c52 m100
            clear m100
            exact J81 _ _ _ _ _ m102
      refine r_iload_n hw dX8_partOn_6 2 rfl ?_
      refine r_aload_n hw dX8_partOn_7 0 rfl ?_
      refine r_getI hw fO_X8_146 h1 dX8_partOn_8 ?_
      refine r_icmp_ge (tgt := 193) hw dX8_partOn_11 (by decide) (fun c53 => ?_) (fun c53 => ?_)
      · have m103 := h_if_f c53 m70
        clear m70
        have m104 := h_ex m103 hv6
        clear m103
        refine r_aload_n hw dX8_partOn_193 0 rfl ?_
        obtain ⟨M54, g54, m105⟩ := h_bd m104
        clear m104
        refine r_callV0 hw (tX8_outermost l G b0 g54) lB_X8_outermost lI_X8_outermost mL_X8_143 (c := 8) rfl h1 rfl (Nat.le_of_ble_eq_true rfl) (Nat.le_of_ble_eq_true rfl) rfl (Nat.le_of_ble_eq_true rfl) dX8_partOn_194 ?_
        cases h_ret m105
        exact r_return hq rfl rfl dX8_partOn_197
      · have m106 := h_if_t c53 m70
        clear m70
        refine r_iload_n hw dX8_partOn_14 2 rfl ?_
        refine r_iconst (v := 1) hw dX8_partOn_15 rfl ?_
        refine r_iadd hw dX8_partOn_16 ?_
        refine r_aload_n hw dX8_partOn_17 0 rfl ?_
        refine r_getI hw fO_X8_146 h1 dX8_partOn_18 ?_
        obtain ⟨h55, m107⟩ := h_ck m106
        clear m106
        refine r_irem hw dX8_partOn_21 h55 ?_
        obtain ⟨i56, ei56, m108⟩ := h_nm m107
        clear m107
        refine r_topI (w := w) ei56 ?_
        refine r_istore_n hw dX8_partOn_22 rfl (by decide) rfl ?_
        refine r_aload_n hw dX8_partOn_23 1 rfl ?_
        refine r_aload_n hw dX8_partOn_24 1 rfl ?_
        obtain ⟨q57, bq57, m109⟩ := h_bd m108
        clear m108
        refine r_getR hw fO_X8_42 h1 bq57 dX8_partOn_25 ?_
        refine r_iload_n hw dX8_partOn_28 3 rfl ?_
        obtain ⟨h58, m110⟩ := h_ck m109
        clear m109
        refine r_laload hw h58 dX8_partOn_29 ?_
        refine r_aload_n hw dX8_partOn_30 1 rfl ?_
        obtain ⟨q59, bq59, m111⟩ := h_bd m110
        clear m110
        refine r_getR hw fO_X8_45 h1 bq59 dX8_partOn_31 ?_
        refine r_iload_n hw dX8_partOn_34 3 rfl ?_
        obtain ⟨h60, m112⟩ := h_ck m111
        clear m111
        refine r_laload hw h60 dX8_partOn_35 ?_
        obtain ⟨l61, g61, m113⟩ := h_bd m112
        clear m112
        refine r_callV1 hw (tX8_sideOf l G b0 g61) lB_X8_sideOf lI_X8_sideOf mL_X8_197 (c := 8) rfl h1 rfl (Nat.le_of_ble_eq_true rfl) (Nat.le_of_ble_eq_true rfl) rfl (Nat.le_of_ble_eq_true rfl) dX8_partOn_36 ?_
        refine r_lstore hw dX8_partOn_39 (by decide) rfl ?_
        refine r_aload_n hw dX8_partOn_41 2 rfl ?_
        refine r_aload_n hw dX8_partOn_42 2 rfl ?_
        refine r_getR hw fO_X8_42 h1 bq57 dX8_partOn_43 ?_
        refine r_iload_n hw dX8_partOn_46 1 rfl ?_
        obtain ⟨h62, m114⟩ := h_ck m113
        clear m113
        refine r_laload hw h62 dX8_partOn_47 ?_
        refine r_aload_n hw dX8_partOn_48 2 rfl ?_
        refine r_getR hw fO_X8_45 h1 bq59 dX8_partOn_49 ?_
        refine r_iload_n hw dX8_partOn_52 1 rfl ?_
        obtain ⟨h63, m115⟩ := h_ck m114
        clear m114
        refine r_laload hw h63 dX8_partOn_53 ?_
        obtain ⟨l64, g64, m116⟩ := h_bd m115
        clear m115
        refine r_callV1 hw (tX8_sideOf l G b0 g64) lB_X8_sideOf lI_X8_sideOf mL_X8_197 (c := 8) rfl h1 rfl (Nat.le_of_ble_eq_true rfl) (Nat.le_of_ble_eq_true rfl) rfl (Nat.le_of_ble_eq_true rfl) dX8_partOn_54 ?_
        refine r_lstore hw dX8_partOn_57 (by decide) rfl ?_
        refine r_iload_n hw dX8_partOn_59 4 rfl ?_
        refine r_if_le (tgt := 70) hw dX8_partOn_60 (by decide) (fun c65 => ?_) (fun c65 => ?_)
        · have m117 := h_if_t c65 m116
          clear m116
          refine r_sub hw [3, 4, 5, 2, 1, 0] rfl ?_
          exact J70 _ _ _ _ _ m117
        · have m118 := h_if_f c65 m116
          clear m116
          refine r_lload hw dX8_partOn_63 1 rfl ?_
          refine r_lconst (v := 0) hw dX8_partOn_65 rfl ?_
          refine r_lcmp_ge (tgt := 81) hw dX8_partOn_66 dX8_partOn_67 (by decide) (fun c66 => ?_) (fun c66 => ?_)
          · have m119 := h_if_f c66 m118
            clear m118
            refine r_sub hw [3, 4, 5, 2, 1, 0] rfl ?_
            exact J81 _ _ _ _ _ m119
          · have m120 := h_if_t c66 m118
            clear m118
            refine r_sub hw [3, 4, 5, 2, 1, 0] rfl ?_
            exact J70 _ _ _ _ _ m120
  exact L6 n06 _ _ hn6
theorem dX8_cutOne_0 : decode cX8_cutOne 0 = .ok (.aload_n 0, 1) := by decide +kernel
theorem dX8_cutOne_1 : decode cX8_cutOne 1 = .ok (.invokevirtual 99, 3) := by decide +kernel
theorem dX8_cutOne_4 : decode cX8_cutOne 4 = .ok (.istore_n 2, 1) := by decide +kernel
theorem dX8_cutOne_5 : decode cX8_cutOne 5 = .ok (.aload_n 0, 1) := by decide +kernel
theorem dX8_cutOne_6 : decode cX8_cutOne 6 = .ok (.getfield 7, 3) := by decide +kernel
theorem dX8_cutOne_9 : decode cX8_cutOne 9 = .ok (.sipush 1480, 3) := by decide +kernel
theorem dX8_cutOne_12 : decode cX8_cutOne 12 = .ok (.dup2, 1) := by decide +kernel
theorem dX8_cutOne_13 : decode cX8_cutOne 13 = .ok (.laload, 1) := by decide +kernel
theorem dX8_cutOne_14 : decode cX8_cutOne 14 = .ok (.lconst 1, 1) := by decide +kernel
theorem dX8_cutOne_15 : decode cX8_cutOne 15 = .ok (.ladd, 1) := by decide +kernel
theorem dX8_cutOne_16 : decode cX8_cutOne 16 = .ok (.lastore, 1) := by decide +kernel
theorem dX8_cutOne_17 : decode cX8_cutOne 17 = .ok (.aload_n 0, 1) := by decide +kernel
theorem dX8_cutOne_18 : decode cX8_cutOne 18 = .ok (.iload_n 1, 1) := by decide +kernel
theorem dX8_cutOne_19 : decode cX8_cutOne 19 = .ok (.invokevirtual 149, 3) := by decide +kernel
theorem dX8_cutOne_22 : decode cX8_cutOne 22 = .ok (.aload_n 0, 1) := by decide +kernel
theorem dX8_cutOne_23 : decode cX8_cutOne 23 = .ok (.iconst (-1), 1) := by decide +kernel
theorem dX8_cutOne_24 : decode cX8_cutOne 24 = .ok (.invokevirtual 204, 3) := by decide +kernel
theorem dX8_cutOne_27 : decode cX8_cutOne 27 = .ok (.aload_n 0, 1) := by decide +kernel
theorem dX8_cutOne_28 : decode cX8_cutOne 28 = .ok (.iload_n 2, 1) := by decide +kernel
theorem dX8_cutOne_29 : decode cX8_cutOne 29 = .ok (.aload_n 0, 1) := by decide +kernel
theorem dX8_cutOne_30 : decode cX8_cutOne 30 = .ok (.iload_n 1, 1) := by decide +kernel
theorem dX8_cutOne_31 : decode cX8_cutOne 31 = .ok (.bipush 33, 2) := by decide +kernel
theorem dX8_cutOne_33 : decode cX8_cutOne 33 = .ok (.invokevirtual 103, 3) := by decide +kernel
theorem dX8_cutOne_36 : decode cX8_cutOne 36 = .ok (.aload_n 0, 1) := by decide +kernel
theorem dX8_cutOne_37 : decode cX8_cutOne 37 = .ok (.iload_n 1, 1) := by decide +kernel
theorem dX8_cutOne_38 : decode cX8_cutOne 38 = .ok (.bipush 34, 2) := by decide +kernel
theorem dX8_cutOne_40 : decode cX8_cutOne 40 = .ok (.invokevirtual 103, 3) := by decide +kernel
theorem dX8_cutOne_43 : decode cX8_cutOne 43 = .ok (.aload_n 0, 1) := by decide +kernel
theorem dX8_cutOne_44 : decode cX8_cutOne 44 = .ok (.iload_n 1, 1) := by decide +kernel
theorem dX8_cutOne_45 : decode cX8_cutOne 45 = .ok (.bipush 35, 2) := by decide +kernel
theorem dX8_cutOne_47 : decode cX8_cutOne 47 = .ok (.invokevirtual 103, 3) := by decide +kernel
theorem dX8_cutOne_50 : decode cX8_cutOne 50 = .ok (.invokevirtual 177, 3) := by decide +kernel
theorem dX8_cutOne_53 : decode cX8_cutOne 53 = .ok (.aload_n 0, 1) := by decide +kernel
theorem dX8_cutOne_54 : decode cX8_cutOne 54 = .ok (.iload_n 2, 1) := by decide +kernel
theorem dX8_cutOne_55 : decode cX8_cutOne 55 = .ok (.aload_n 0, 1) := by decide +kernel
theorem dX8_cutOne_56 : decode cX8_cutOne 56 = .ok (.iload_n 1, 1) := by decide +kernel
theorem dX8_cutOne_57 : decode cX8_cutOne 57 = .ok (.bipush 33, 2) := by decide +kernel
theorem dX8_cutOne_59 : decode cX8_cutOne 59 = .ok (.invokevirtual 103, 3) := by decide +kernel
theorem dX8_cutOne_62 : decode cX8_cutOne 62 = .ok (.aload_n 0, 1) := by decide +kernel
theorem dX8_cutOne_63 : decode cX8_cutOne 63 = .ok (.iload_n 1, 1) := by decide +kernel
theorem dX8_cutOne_64 : decode cX8_cutOne 64 = .ok (.bipush 34, 2) := by decide +kernel
theorem dX8_cutOne_66 : decode cX8_cutOne 66 = .ok (.invokevirtual 103, 3) := by decide +kernel
theorem dX8_cutOne_69 : decode cX8_cutOne 69 = .ok (.aload_n 0, 1) := by decide +kernel
theorem dX8_cutOne_70 : decode cX8_cutOne 70 = .ok (.iload_n 1, 1) := by decide +kernel
theorem dX8_cutOne_71 : decode cX8_cutOne 71 = .ok (.bipush 35, 2) := by decide +kernel
theorem dX8_cutOne_73 : decode cX8_cutOne 73 = .ok (.invokevirtual 103, 3) := by decide +kernel
theorem dX8_cutOne_76 : decode cX8_cutOne 76 = .ok (.invokevirtual 181, 3) := by decide +kernel
theorem dX8_cutOne_79 : decode cX8_cutOne 79 = .ok (.aload_n 0, 1) := by decide +kernel
theorem dX8_cutOne_80 : decode cX8_cutOne 80 = .ok (.getfield 7, 3) := by decide +kernel
theorem dX8_cutOne_83 : decode cX8_cutOne 83 = .ok (.bipush 37, 2) := by decide +kernel
theorem dX8_cutOne_85 : decode cX8_cutOne 85 = .ok (.iload_n 2, 1) := by decide +kernel
theorem dX8_cutOne_86 : decode cX8_cutOne 86 = .ok (.imul, 1) := by decide +kernel
theorem dX8_cutOne_87 : decode cX8_cutOne 87 = .ok (.bipush 36, 2) := by decide +kernel
theorem dX8_cutOne_89 : decode cX8_cutOne 89 = .ok (.iadd, 1) := by decide +kernel
theorem dX8_cutOne_90 : decode cX8_cutOne 90 = .ok (.lconst 0, 1) := by decide +kernel
theorem dX8_cutOne_91 : decode cX8_cutOne 91 = .ok (.lastore, 1) := by decide +kernel
theorem dX8_cutOne_92 : decode cX8_cutOne 92 = .ok (.aload_n 0, 1) := by decide +kernel
theorem dX8_cutOne_93 : decode cX8_cutOne 93 = .ok (.iconst 1, 1) := by decide +kernel
theorem dX8_cutOne_94 : decode cX8_cutOne 94 = .ok (.invokevirtual 204, 3) := by decide +kernel
theorem dX8_cutOne_97 : decode cX8_cutOne 97 = .ok (.aload_n 0, 1) := by decide +kernel
theorem dX8_cutOne_98 : decode cX8_cutOne 98 = .ok (.iload_n 1, 1) := by decide +kernel
theorem dX8_cutOne_99 : decode cX8_cutOne 99 = .ok (.aload_n 0, 1) := by decide +kernel
theorem dX8_cutOne_100 : decode cX8_cutOne 100 = .ok (.iload_n 1, 1) := by decide +kernel
theorem dX8_cutOne_101 : decode cX8_cutOne 101 = .ok (.bipush 33, 2) := by decide +kernel
theorem dX8_cutOne_103 : decode cX8_cutOne 103 = .ok (.invokevirtual 103, 3) := by decide +kernel
theorem dX8_cutOne_106 : decode cX8_cutOne 106 = .ok (.aload_n 0, 1) := by decide +kernel
theorem dX8_cutOne_107 : decode cX8_cutOne 107 = .ok (.iload_n 1, 1) := by decide +kernel
theorem dX8_cutOne_108 : decode cX8_cutOne 108 = .ok (.bipush 34, 2) := by decide +kernel
theorem dX8_cutOne_110 : decode cX8_cutOne 110 = .ok (.invokevirtual 103, 3) := by decide +kernel
theorem dX8_cutOne_113 : decode cX8_cutOne 113 = .ok (.aload_n 0, 1) := by decide +kernel
theorem dX8_cutOne_114 : decode cX8_cutOne 114 = .ok (.iload_n 1, 1) := by decide +kernel
theorem dX8_cutOne_115 : decode cX8_cutOne 115 = .ok (.bipush 35, 2) := by decide +kernel
theorem dX8_cutOne_117 : decode cX8_cutOne 117 = .ok (.invokevirtual 103, 3) := by decide +kernel
theorem dX8_cutOne_120 : decode cX8_cutOne 120 = .ok (.invokevirtual 177, 3) := by decide +kernel
theorem dX8_cutOne_123 : decode cX8_cutOne 123 = .ok (.aload_n 0, 1) := by decide +kernel
theorem dX8_cutOne_124 : decode cX8_cutOne 124 = .ok (.getfield 7, 3) := by decide +kernel
theorem dX8_cutOne_127 : decode cX8_cutOne 127 = .ok (.bipush 37, 2) := by decide +kernel
theorem dX8_cutOne_129 : decode cX8_cutOne 129 = .ok (.iload_n 1, 1) := by decide +kernel
theorem dX8_cutOne_130 : decode cX8_cutOne 130 = .ok (.imul, 1) := by decide +kernel
theorem dX8_cutOne_131 : decode cX8_cutOne 131 = .ok (.bipush 36, 2) := by decide +kernel
theorem dX8_cutOne_133 : decode cX8_cutOne 133 = .ok (.iadd, 1) := by decide +kernel
theorem dX8_cutOne_134 : decode cX8_cutOne 134 = .ok (.lconst 0, 1) := by decide +kernel
theorem dX8_cutOne_135 : decode cX8_cutOne 135 = .ok (.lastore, 1) := by decide +kernel
theorem dX8_cutOne_136 : decode cX8_cutOne 136 = .ok (.return_, 1) := by decide +kernel
set_option maxHeartbeats 4000000 in
set_option maxRecDepth 100000 in
theorem tX8_cutOne (l : Launch) (G : Gg) (b0 : Nat) {K : Kk} {R : Rr} {M : Mm} {r : Nat} {a0 : Int32} {M' : Mm} (hm : mX8_cutOne K R M r a0 = some (M')) : CT l G b0 yX8_cutOne cX8_cutOne 3 none (rmz 5 114) [.ref r, .int a0] K R M none K R M' := by
  refine ct_of (by decide +kernel) (Nat.le_of_ble_eq_true rfl) (fun w hq => ?_)
  have hw := hq.b
  change w 0 0 0 [(0, .ref r), (1, .int a0)] [] K R M
  replace hm := h_start hm
  unfold mX8_cutOne at hm
  obtain ⟨h1, m25⟩ := h_ck hm
  clear hm
  refine r_aload_n hw dX8_cutOne_0 0 rfl ?_
  obtain ⟨i2, g2, m26⟩ := h_bd m25
  clear m25
  refine r_callV1 hw (tX8_pieces l G b0 g2) lB_X8_pieces lI_X8_pieces mL_X8_99 (c := 8) rfl h1 rfl (Nat.le_of_ble_eq_true rfl) (Nat.le_of_ble_eq_true rfl) rfl (Nat.le_of_ble_eq_true rfl) dX8_cutOne_1 ?_
  refine r_istore_n hw dX8_cutOne_4 rfl (by decide) rfl ?_
  refine r_aload_n hw dX8_cutOne_5 1 rfl ?_
  obtain ⟨q3, bq3, m27⟩ := h_bd m26
  clear m26
  refine r_getR hw fO_X8_7 h1 bq3 dX8_cutOne_6 ?_
  refine r_sipush (v := 1480) hw dX8_cutOne_9 rfl ?_
  refine r_dup2 hw dX8_cutOne_12 rfl rfl ?_
  obtain ⟨h4, m28⟩ := h_ck m27
  clear m27
  refine r_laload hw h4 dX8_cutOne_13 ?_
  refine r_lconst (v := 1) hw dX8_cutOne_14 rfl ?_
  refine r_ladd hw dX8_cutOne_15 ?_
  obtain ⟨M5, eM5, m29⟩ := h_nm m28
  clear m28
  refine r_lastore hw h4 dX8_cutOne_16 (r_mem ?_ rfl eM5)
  refine r_aload_n hw dX8_cutOne_17 1 rfl ?_
  refine r_iload_n hw dX8_cutOne_18 2 rfl ?_
  obtain ⟨M6, g6, m30⟩ := h_bd m29
  clear m29
  refine r_callV0 hw (tX8_lookA l G b0 g6) lB_X8_lookA lI_X8_lookA mL_X8_149 (c := 8) rfl h1 rfl (Nat.le_of_ble_eq_true rfl) (Nat.le_of_ble_eq_true rfl) rfl (Nat.le_of_ble_eq_true rfl) dX8_cutOne_19 ?_
  refine r_aload_n hw dX8_cutOne_22 1 rfl ?_
  refine r_iconst (v := (-1)) hw dX8_cutOne_23 rfl ?_
  obtain ⟨M7, g7, m31⟩ := h_bd m30
  clear m30
  refine r_callV0 hw (tX8_partOn l G b0 g7) lB_X8_partOn lI_X8_partOn mL_X8_204 (c := 8) rfl h1 rfl (Nat.le_of_ble_eq_true rfl) (Nat.le_of_ble_eq_true rfl) rfl (Nat.le_of_ble_eq_true rfl) dX8_cutOne_24 ?_
  refine r_aload_n hw dX8_cutOne_27 1 rfl ?_
  refine r_iload_n hw dX8_cutOne_28 0 rfl ?_
  refine r_aload_n hw dX8_cutOne_29 1 rfl ?_
  refine r_iload_n hw dX8_cutOne_30 2 rfl ?_
  refine r_bipush (v := 33) hw dX8_cutOne_31 rfl ?_
  obtain ⟨l8, g8, m32⟩ := h_bd m31
  clear m31
  refine r_callV1 hw (tX8_get l G b0 g8) lB_X8_get lI_X8_get mL_X8_103 (c := 8) rfl h1 rfl (Nat.le_of_ble_eq_true rfl) (Nat.le_of_ble_eq_true rfl) rfl (Nat.le_of_ble_eq_true rfl) dX8_cutOne_33 ?_
  refine r_aload_n hw dX8_cutOne_36 1 rfl ?_
  refine r_iload_n hw dX8_cutOne_37 2 rfl ?_
  refine r_bipush (v := 34) hw dX8_cutOne_38 rfl ?_
  obtain ⟨l9, g9, m33⟩ := h_bd m32
  clear m32
  refine r_callV1 hw (tX8_get l G b0 g9) lB_X8_get lI_X8_get mL_X8_103 (c := 8) rfl h1 rfl (Nat.le_of_ble_eq_true rfl) (Nat.le_of_ble_eq_true rfl) rfl (Nat.le_of_ble_eq_true rfl) dX8_cutOne_40 ?_
  refine r_aload_n hw dX8_cutOne_43 1 rfl ?_
  refine r_iload_n hw dX8_cutOne_44 2 rfl ?_
  refine r_bipush (v := 35) hw dX8_cutOne_45 rfl ?_
  obtain ⟨l10, g10, m34⟩ := h_bd m33
  clear m33
  refine r_callV1 hw (tX8_get l G b0 g10) lB_X8_get lI_X8_get mL_X8_103 (c := 8) rfl h1 rfl (Nat.le_of_ble_eq_true rfl) (Nat.le_of_ble_eq_true rfl) rfl (Nat.le_of_ble_eq_true rfl) dX8_cutOne_47 ?_
  obtain ⟨M11, g11, m35⟩ := h_bd m34
  clear m34
  refine r_callV0 hw (tX8_originOf l G b0 g11) lB_X8_originOf lI_X8_originOf mL_X8_177 (c := 8) rfl h1 rfl (Nat.le_of_ble_eq_true rfl) (Nat.le_of_ble_eq_true rfl) rfl (Nat.le_of_ble_eq_true rfl) dX8_cutOne_50 ?_
  refine r_aload_n hw dX8_cutOne_53 1 rfl ?_
  refine r_iload_n hw dX8_cutOne_54 0 rfl ?_
  refine r_aload_n hw dX8_cutOne_55 1 rfl ?_
  refine r_iload_n hw dX8_cutOne_56 2 rfl ?_
  refine r_bipush (v := 33) hw dX8_cutOne_57 rfl ?_
  obtain ⟨l12, g12, m36⟩ := h_bd m35
  clear m35
  refine r_callV1 hw (tX8_get l G b0 g12) lB_X8_get lI_X8_get mL_X8_103 (c := 8) rfl h1 rfl (Nat.le_of_ble_eq_true rfl) (Nat.le_of_ble_eq_true rfl) rfl (Nat.le_of_ble_eq_true rfl) dX8_cutOne_59 ?_
  refine r_aload_n hw dX8_cutOne_62 1 rfl ?_
  refine r_iload_n hw dX8_cutOne_63 2 rfl ?_
  refine r_bipush (v := 34) hw dX8_cutOne_64 rfl ?_
  obtain ⟨l13, g13, m37⟩ := h_bd m36
  clear m36
  refine r_callV1 hw (tX8_get l G b0 g13) lB_X8_get lI_X8_get mL_X8_103 (c := 8) rfl h1 rfl (Nat.le_of_ble_eq_true rfl) (Nat.le_of_ble_eq_true rfl) rfl (Nat.le_of_ble_eq_true rfl) dX8_cutOne_66 ?_
  refine r_aload_n hw dX8_cutOne_69 1 rfl ?_
  refine r_iload_n hw dX8_cutOne_70 2 rfl ?_
  refine r_bipush (v := 35) hw dX8_cutOne_71 rfl ?_
  obtain ⟨l14, g14, m38⟩ := h_bd m37
  clear m37
  refine r_callV1 hw (tX8_get l G b0 g14) lB_X8_get lI_X8_get mL_X8_103 (c := 8) rfl h1 rfl (Nat.le_of_ble_eq_true rfl) (Nat.le_of_ble_eq_true rfl) rfl (Nat.le_of_ble_eq_true rfl) dX8_cutOne_73 ?_
  obtain ⟨M15, g15, m39⟩ := h_bd m38
  clear m38
  refine r_callV0 hw (tX8_move l G b0 g15) lB_X8_move lI_X8_move mL_X8_181 (c := 8) rfl h1 rfl (Nat.le_of_ble_eq_true rfl) (Nat.le_of_ble_eq_true rfl) rfl (Nat.le_of_ble_eq_true rfl) dX8_cutOne_76 ?_
  refine r_aload_n hw dX8_cutOne_79 1 rfl ?_
  refine r_getR hw fO_X8_7 h1 bq3 dX8_cutOne_80 ?_
  refine r_bipush (v := 37) hw dX8_cutOne_83 rfl ?_
  refine r_iload_n hw dX8_cutOne_85 0 rfl ?_
  refine r_imul hw dX8_cutOne_86 ?_
  refine r_bipush (v := 36) hw dX8_cutOne_87 rfl ?_
  refine r_iadd hw dX8_cutOne_89 ?_
  refine r_lconst (v := 0) hw dX8_cutOne_90 rfl ?_
  obtain ⟨h16, m40⟩ := h_ck m39
  clear m39
  obtain ⟨M17, eM17, m41⟩ := h_nm m40
  clear m40
  refine r_lastore hw h16 dX8_cutOne_91 (r_mem ?_ rfl eM17)
  refine r_aload_n hw dX8_cutOne_92 1 rfl ?_
  refine r_iconst (v := 1) hw dX8_cutOne_93 rfl ?_
  obtain ⟨M18, g18, m42⟩ := h_bd m41
  clear m41
  refine r_callV0 hw (tX8_partOn l G b0 g18) lB_X8_partOn lI_X8_partOn mL_X8_204 (c := 8) rfl h1 rfl (Nat.le_of_ble_eq_true rfl) (Nat.le_of_ble_eq_true rfl) rfl (Nat.le_of_ble_eq_true rfl) dX8_cutOne_94 ?_
  refine r_aload_n hw dX8_cutOne_97 1 rfl ?_
  refine r_iload_n hw dX8_cutOne_98 2 rfl ?_
  refine r_aload_n hw dX8_cutOne_99 1 rfl ?_
  refine r_iload_n hw dX8_cutOne_100 2 rfl ?_
  refine r_bipush (v := 33) hw dX8_cutOne_101 rfl ?_
  obtain ⟨l19, g19, m43⟩ := h_bd m42
  clear m42
  refine r_callV1 hw (tX8_get l G b0 g19) lB_X8_get lI_X8_get mL_X8_103 (c := 8) rfl h1 rfl (Nat.le_of_ble_eq_true rfl) (Nat.le_of_ble_eq_true rfl) rfl (Nat.le_of_ble_eq_true rfl) dX8_cutOne_103 ?_
  refine r_aload_n hw dX8_cutOne_106 1 rfl ?_
  refine r_iload_n hw dX8_cutOne_107 2 rfl ?_
  refine r_bipush (v := 34) hw dX8_cutOne_108 rfl ?_
  obtain ⟨l20, g20, m44⟩ := h_bd m43
  clear m43
  refine r_callV1 hw (tX8_get l G b0 g20) lB_X8_get lI_X8_get mL_X8_103 (c := 8) rfl h1 rfl (Nat.le_of_ble_eq_true rfl) (Nat.le_of_ble_eq_true rfl) rfl (Nat.le_of_ble_eq_true rfl) dX8_cutOne_110 ?_
  refine r_aload_n hw dX8_cutOne_113 1 rfl ?_
  refine r_iload_n hw dX8_cutOne_114 2 rfl ?_
  refine r_bipush (v := 35) hw dX8_cutOne_115 rfl ?_
  obtain ⟨l21, g21, m45⟩ := h_bd m44
  clear m44
  refine r_callV1 hw (tX8_get l G b0 g21) lB_X8_get lI_X8_get mL_X8_103 (c := 8) rfl h1 rfl (Nat.le_of_ble_eq_true rfl) (Nat.le_of_ble_eq_true rfl) rfl (Nat.le_of_ble_eq_true rfl) dX8_cutOne_117 ?_
  obtain ⟨M22, g22, m46⟩ := h_bd m45
  clear m45
  refine r_callV0 hw (tX8_originOf l G b0 g22) lB_X8_originOf lI_X8_originOf mL_X8_177 (c := 8) rfl h1 rfl (Nat.le_of_ble_eq_true rfl) (Nat.le_of_ble_eq_true rfl) rfl (Nat.le_of_ble_eq_true rfl) dX8_cutOne_120 ?_
  refine r_aload_n hw dX8_cutOne_123 1 rfl ?_
  refine r_getR hw fO_X8_7 h1 bq3 dX8_cutOne_124 ?_
  refine r_bipush (v := 37) hw dX8_cutOne_127 rfl ?_
  refine r_iload_n hw dX8_cutOne_129 2 rfl ?_
  refine r_imul hw dX8_cutOne_130 ?_
  refine r_bipush (v := 36) hw dX8_cutOne_131 rfl ?_
  refine r_iadd hw dX8_cutOne_133 ?_
  refine r_lconst (v := 0) hw dX8_cutOne_134 rfl ?_
  obtain ⟨h23, m47⟩ := h_ck m46
  clear m46
  obtain ⟨M24, eM24, m48⟩ := h_nm m47
  clear m47
  refine r_lastore hw h23 dX8_cutOne_135 (r_mem ?_ rfl eM24)
  cases h_ret m48
  exact r_return hq rfl rfl dX8_cutOne_136
theorem dX8_isLarge_0 : decode cX8_isLarge 0 = .ok (.aload_n 0, 1) := by decide +kernel
theorem dX8_isLarge_1 : decode cX8_isLarge 1 = .ok (.iconst 1, 1) := by decide +kernel
theorem dX8_isLarge_2 : decode cX8_isLarge 2 = .ok (.invokevirtual 201, 3) := by decide +kernel
theorem dX8_isLarge_5 : decode cX8_isLarge 5 = .ok (.iconst 2, 1) := by decide +kernel
theorem dX8_isLarge_6 : decode cX8_isLarge 6 = .ok (.iadd, 1) := by decide +kernel
theorem dX8_isLarge_7 : decode cX8_isLarge 7 = .ok (.bipush 16, 2) := by decide +kernel
theorem dX8_isLarge_9 : decode cX8_isLarge 9 = .ok (.if_icmp .gt 15, 3) := by decide +kernel
theorem dX8_isLarge_12 : decode cX8_isLarge 12 = .ok (.aload_n 0, 1) := by decide +kernel
theorem dX8_isLarge_13 : decode cX8_isLarge 13 = .ok (.iconst (-1), 1) := by decide +kernel
theorem dX8_isLarge_14 : decode cX8_isLarge 14 = .ok (.invokevirtual 201, 3) := by decide +kernel
theorem dX8_isLarge_17 : decode cX8_isLarge 17 = .ok (.iconst 2, 1) := by decide +kernel
theorem dX8_isLarge_18 : decode cX8_isLarge 18 = .ok (.iadd, 1) := by decide +kernel
theorem dX8_isLarge_19 : decode cX8_isLarge 19 = .ok (.bipush 16, 2) := by decide +kernel
theorem dX8_isLarge_21 : decode cX8_isLarge 21 = .ok (.if_icmp .le 7, 3) := by decide +kernel
theorem dX8_isLarge_24 : decode cX8_isLarge 24 = .ok (.iconst 1, 1) := by decide +kernel
theorem dX8_isLarge_25 : decode cX8_isLarge 25 = .ok (.goto 4, 3) := by decide +kernel
theorem dX8_isLarge_28 : decode cX8_isLarge 28 = .ok (.iconst 0, 1) := by decide +kernel
theorem dX8_isLarge_29 : decode cX8_isLarge 29 = .ok (.ireturn, 1) := by decide +kernel
set_option maxHeartbeats 4000000 in
set_option maxRecDepth 100000 in
theorem tX8_isLarge (l : Launch) (G : Gg) (b0 : Nat) {K : Kk} {R : Rr} {M : Mm} {r : Nat} {res : Int32} (hm : mX8_isLarge K R M r = some (res)) : CT l G b0 yX8_isLarge cX8_isLarge 1 (some .boolean) (rmz 4 80) [.ref r] K R M (some (.int res)) K R M := by
  refine ct_of (by decide +kernel) (Nat.le_of_ble_eq_true rfl) (fun w hq => ?_)
  have hw := hq.b
  change w 0 0 0 [(0, .ref r)] [] K R M
  replace hm := h_start hm
  unfold mX8_isLarge at hm
  obtain ⟨h1, m6⟩ := h_ck hm
  clear hm
  have J24 : (mX8_isLarge_J24 K R M ).bind some = some (res) → w 0 0 24 [] [] K R M := by
    intro  m7
    unfold mX8_isLarge_J24 at m7
    refine r_iconst (v := 1) hw dX8_isLarge_24 rfl ?_
    refine r_goto (tgt := 29) hw dX8_isLarge_25 (by decide) ?_
    cases h_ret m7
    exact r_zreturn hq isB_1 rfl rfl dX8_isLarge_29
  refine r_aload_n hw dX8_isLarge_0 0 rfl ?_
  refine r_iconst (v := 1) hw dX8_isLarge_1 rfl ?_
  obtain ⟨i2, g2, m8⟩ := h_bd m6
  clear m6
  refine r_callV1 hw (tX8_cornersOn l G b0 g2) lB_X8_cornersOn lI_X8_cornersOn mL_X8_201 (c := 8) rfl h1 rfl (Nat.le_of_ble_eq_true rfl) (Nat.le_of_ble_eq_true rfl) rfl (Nat.le_of_ble_eq_true rfl) dX8_isLarge_2 ?_
  refine r_iconst (v := 2) hw dX8_isLarge_5 rfl ?_
  refine r_iadd hw dX8_isLarge_6 ?_
  refine r_bipush (v := 16) hw dX8_isLarge_7 rfl ?_
  refine r_icmp_gt (tgt := 24) hw dX8_isLarge_9 (by decide) (fun c3 => ?_) (fun c3 => ?_)
  · have m9 := h_if_f c3 m8
    clear m8
    refine r_sub hw [] rfl ?_
    exact J24  m9
  · have m10 := h_if_t c3 m8
    clear m8
    refine r_aload_n hw dX8_isLarge_12 0 rfl ?_
    refine r_iconst (v := (-1)) hw dX8_isLarge_13 rfl ?_
    obtain ⟨i4, g4, m11⟩ := h_bd m10
    clear m10
    refine r_callV1 hw (tX8_cornersOn l G b0 g4) lB_X8_cornersOn lI_X8_cornersOn mL_X8_201 (c := 8) rfl h1 rfl (Nat.le_of_ble_eq_true rfl) (Nat.le_of_ble_eq_true rfl) rfl (Nat.le_of_ble_eq_true rfl) dX8_isLarge_14 ?_
    refine r_iconst (v := 2) hw dX8_isLarge_17 rfl ?_
    refine r_iadd hw dX8_isLarge_18 ?_
    refine r_bipush (v := 16) hw dX8_isLarge_19 rfl ?_
    refine r_icmp_le (tgt := 28) hw dX8_isLarge_21 (by decide) (fun c5 => ?_) (fun c5 => ?_)
    · have m12 := h_if_t c5 m11
      clear m11
      refine r_iconst (v := 0) hw dX8_isLarge_28 rfl ?_
      cases h_ret m12
      exact r_zreturn hq isB_0 rfl rfl dX8_isLarge_29
    · have m13 := h_if_f c5 m11
      clear m11
      refine r_sub hw [] rfl ?_
      exact J24  m13
