theorem dX8_part_0 : decode cX8_part 0 = .ok (.iload 4, 2) := by decide +kernel
theorem dX8_part_2 : decode cX8_part 2 = .ok (.i2l, 1) := by decide +kernel
theorem dX8_part_3 : decode cX8_part 3 = .ok (.ldc2_w 222, 3) := by decide +kernel
theorem dX8_part_6 : decode cX8_part 6 = .ok (.ldc2_w 224, 3) := by decide +kernel
theorem dX8_part_9 : decode cX8_part 9 = .ok (.invokestatic 95, 3) := by decide +kernel
theorem dX8_part_12 : decode cX8_part 12 = .ok (.ifCond .eq 32, 3) := by decide +kernel
theorem dX8_part_15 : decode cX8_part 15 = .ok (.iload 5, 2) := by decide +kernel
theorem dX8_part_17 : decode cX8_part 17 = .ok (.i2l, 1) := by decide +kernel
theorem dX8_part_18 : decode cX8_part 18 = .ok (.ldc2_w 222, 3) := by decide +kernel
theorem dX8_part_21 : decode cX8_part 21 = .ok (.ldc2_w 224, 3) := by decide +kernel
theorem dX8_part_24 : decode cX8_part 24 = .ok (.invokestatic 95, 3) := by decide +kernel
theorem dX8_part_27 : decode cX8_part 27 = .ok (.ifCond .eq 17, 3) := by decide +kernel
theorem dX8_part_30 : decode cX8_part 30 = .ok (.iload 4, 2) := by decide +kernel
theorem dX8_part_32 : decode cX8_part 32 = .ok (.ifCond .ne 8, 3) := by decide +kernel
theorem dX8_part_35 : decode cX8_part 35 = .ok (.iload 5, 2) := by decide +kernel
theorem dX8_part_37 : decode cX8_part 37 = .ok (.ifCond .eq 7, 3) := by decide +kernel
theorem dX8_part_40 : decode cX8_part 40 = .ok (.iconst 1, 1) := by decide +kernel
theorem dX8_part_41 : decode cX8_part 41 = .ok (.goto 4, 3) := by decide +kernel
theorem dX8_part_44 : decode cX8_part 44 = .ok (.iconst 0, 1) := by decide +kernel
theorem dX8_part_45 : decode cX8_part 45 = .ok (.istore 6, 2) := by decide +kernel
theorem dX8_part_47 : decode cX8_part 47 = .ok (.aload_n 0, 1) := by decide +kernel
theorem dX8_part_48 : decode cX8_part 48 = .ok (.iload_n 1, 1) := by decide +kernel
theorem dX8_part_49 : decode cX8_part 49 = .ok (.invokevirtual 226, 3) := by decide +kernel
theorem dX8_part_52 : decode cX8_part 52 = .ok (.ifCond .eq 18, 3) := by decide +kernel
theorem dX8_part_55 : decode cX8_part 55 = .ok (.iload_n 2, 1) := by decide +kernel
theorem dX8_part_56 : decode cX8_part 56 = .ok (.i2l, 1) := by decide +kernel
theorem dX8_part_57 : decode cX8_part 57 = .ok (.iload_n 3, 1) := by decide +kernel
theorem dX8_part_58 : decode cX8_part 58 = .ok (.i2l, 1) := by decide +kernel
theorem dX8_part_59 : decode cX8_part 59 = .ok (.invokestatic 156, 3) := by decide +kernel
theorem dX8_part_62 : decode cX8_part 62 = .ok (.ifCond .eq 8, 3) := by decide +kernel
theorem dX8_part_65 : decode cX8_part 65 = .ok (.iload 6, 2) := by decide +kernel
theorem dX8_part_67 : decode cX8_part 67 = .ok (.ifCond .ne 7, 3) := by decide +kernel
theorem dX8_part_70 : decode cX8_part 70 = .ok (.ldc2_w 160, 3) := by decide +kernel
theorem dX8_part_73 : decode cX8_part 73 = .ok (.lreturn, 1) := by decide +kernel
theorem dX8_part_74 : decode cX8_part 74 = .ok (.aload_n 0, 1) := by decide +kernel
theorem dX8_part_75 : decode cX8_part 75 = .ok (.iload_n 2, 1) := by decide +kernel
theorem dX8_part_76 : decode cX8_part 76 = .ok (.i2l, 1) := by decide +kernel
theorem dX8_part_77 : decode cX8_part 77 = .ok (.putfield 184, 3) := by decide +kernel
theorem dX8_part_80 : decode cX8_part 80 = .ok (.aload_n 0, 1) := by decide +kernel
theorem dX8_part_81 : decode cX8_part 81 = .ok (.iload_n 3, 1) := by decide +kernel
theorem dX8_part_82 : decode cX8_part 82 = .ok (.i2l, 1) := by decide +kernel
theorem dX8_part_83 : decode cX8_part 83 = .ok (.putfield 188, 3) := by decide +kernel
theorem dX8_part_86 : decode cX8_part 86 = .ok (.aload_n 0, 1) := by decide +kernel
theorem dX8_part_87 : decode cX8_part 87 = .ok (.iload_n 2, 1) := by decide +kernel
theorem dX8_part_88 : decode cX8_part 88 = .ok (.iload 4, 2) := by decide +kernel
theorem dX8_part_90 : decode cX8_part 90 = .ok (.iadd, 1) := by decide +kernel
theorem dX8_part_91 : decode cX8_part 91 = .ok (.i2l, 1) := by decide +kernel
theorem dX8_part_92 : decode cX8_part 92 = .ok (.putfield 191, 3) := by decide +kernel
theorem dX8_part_95 : decode cX8_part 95 = .ok (.aload_n 0, 1) := by decide +kernel
theorem dX8_part_96 : decode cX8_part 96 = .ok (.iload_n 3, 1) := by decide +kernel
theorem dX8_part_97 : decode cX8_part 97 = .ok (.iload 5, 2) := by decide +kernel
theorem dX8_part_99 : decode cX8_part 99 = .ok (.iadd, 1) := by decide +kernel
theorem dX8_part_100 : decode cX8_part 100 = .ok (.i2l, 1) := by decide +kernel
theorem dX8_part_101 : decode cX8_part 101 = .ok (.putfield 194, 3) := by decide +kernel
theorem dX8_part_104 : decode cX8_part 104 = .ok (.aload_n 0, 1) := by decide +kernel
theorem dX8_part_105 : decode cX8_part 105 = .ok (.iload_n 1, 1) := by decide +kernel
theorem dX8_part_106 : decode cX8_part 106 = .ok (.invokevirtual 207, 3) := by decide +kernel
theorem dX8_part_109 : decode cX8_part 109 = .ok (.ifCond .ne 7, 3) := by decide +kernel
theorem dX8_part_112 : decode cX8_part 112 = .ok (.ldc2_w 113, 3) := by decide +kernel
theorem dX8_part_115 : decode cX8_part 115 = .ok (.lreturn, 1) := by decide +kernel
theorem dX8_part_116 : decode cX8_part 116 = .ok (.aload_n 0, 1) := by decide +kernel
theorem dX8_part_117 : decode cX8_part 117 = .ok (.invokevirtual 99, 3) := by decide +kernel
theorem dX8_part_120 : decode cX8_part 120 = .ok (.bipush 40, 2) := by decide +kernel
theorem dX8_part_122 : decode cX8_part 122 = .ok (.if_icmp .eq 10, 3) := by decide +kernel
theorem dX8_part_125 : decode cX8_part 125 = .ok (.aload_n 0, 1) := by decide +kernel
theorem dX8_part_126 : decode cX8_part 126 = .ok (.invokevirtual 210, 3) := by decide +kernel
theorem dX8_part_129 : decode cX8_part 129 = .ok (.ifCond .eq 7, 3) := by decide +kernel
theorem dX8_part_132 : decode cX8_part 132 = .ok (.ldc2_w 162, 3) := by decide +kernel
theorem dX8_part_135 : decode cX8_part 135 = .ok (.lreturn, 1) := by decide +kernel
theorem dX8_part_136 : decode cX8_part 136 = .ok (.aload_n 0, 1) := by decide +kernel
theorem dX8_part_137 : decode cX8_part 137 = .ok (.invokevirtual 214, 3) := by decide +kernel
theorem dX8_part_140 : decode cX8_part 140 = .ok (.ifCond .ne 7, 3) := by decide +kernel
theorem dX8_part_143 : decode cX8_part 143 = .ok (.ldc2_w 217, 3) := by decide +kernel
theorem dX8_part_146 : decode cX8_part 146 = .ok (.lreturn, 1) := by decide +kernel
theorem dX8_part_147 : decode cX8_part 147 = .ok (.aload_n 0, 1) := by decide +kernel
theorem dX8_part_148 : decode cX8_part 148 = .ok (.invokevirtual 174, 3) := by decide +kernel
theorem dX8_part_151 : decode cX8_part 151 = .ok (.aload_n 0, 1) := by decide +kernel
theorem dX8_part_152 : decode cX8_part 152 = .ok (.iload_n 1, 1) := by decide +kernel
theorem dX8_part_153 : decode cX8_part 153 = .ok (.invokevirtual 219, 3) := by decide +kernel
theorem dX8_part_156 : decode cX8_part 156 = .ok (.aload_n 0, 1) := by decide +kernel
theorem dX8_part_157 : decode cX8_part 157 = .ok (.invokevirtual 99, 3) := by decide +kernel
theorem dX8_part_160 : decode cX8_part 160 = .ok (.iconst 1, 1) := by decide +kernel
theorem dX8_part_161 : decode cX8_part 161 = .ok (.isub, 1) := by decide +kernel
theorem dX8_part_162 : decode cX8_part 162 = .ok (.i2l, 1) := by decide +kernel
theorem dX8_part_163 : decode cX8_part 163 = .ok (.lreturn, 1) := by decide +kernel
set_option maxHeartbeats 4000000 in
set_option maxRecDepth 100000 in
theorem tX8_part (l : Launch) (G : Gg) (b0 : Nat) {K : Kk} {R : Rr} {M : Mm} {r : Nat} {a0 : Int32} {a1 : Int32} {a2 : Int32} {a3 : Int32} {a4 : Int32} {res : Int64} {M' : Mm} (hm : mX8_part K R M r a0 a1 a2 a3 a4 = some (res, M')) : CT l G b0 yX8_part cX8_part 7 (some .long) (rmz 6 136) [.ref r, .int a0, .int a1, .int a2, .int a3, .int a4] K R M (some (.long res)) K R M' := by
  refine ct_of (by decide +kernel) (Nat.le_of_ble_eq_true rfl) (fun w hw => ?_)
  change w 0 0 0 [(0, .ref r), (1, .int a0), (2, .int a1), (3, .int a2), (4, .int a3), (5, .int a4)] [] K R M
  replace hm := h_start hm
  unfold mX8_part at hm
  obtain ⟨h1, m33⟩ := h_ck hm
  clear hm
  have J45 : ∀ (M3 : Mm) (s2 : Int32), (mX8_part_J45 K R M3 r a0 a1 a2 a3 a4 s2).bind some = some (res, M') → w 0 0 45 [(0, .ref r), (1, .int a0), (2, .int a1), (3, .int a2), (4, .int a3), (5, .int a4)] [.int s2] K R M3 := by
    intro M3 s2 m34
    unfold mX8_part_J45 at m34
    refine r_istore hw dX8_part_45 (by decide) rfl ?_
    refine r_aload_n hw dX8_part_47 1 rfl ?_
    refine r_iload_n hw dX8_part_48 2 rfl ?_
    obtain ⟨i4, g4, m35⟩ := h_bd m34
    clear m34
    refine r_callV1 hw (tX8_isPiece l G b0 g4) lB_X8_isPiece lI_X8_isPiece mL_X8_226 (c := 8) rfl h1 rfl (Nat.le_of_ble_eq_true rfl) (Nat.le_of_ble_eq_true rfl) rfl (Nat.le_of_ble_eq_true rfl) dX8_part_49 ?_
    refine r_if_eq (tgt := 70) hw dX8_part_52 (by decide) (fun c5 => ?_) (fun c5 => ?_)
    · have m36 := h_if_t c5 m35
      clear m35
      refine r_ldc2 (v := (-9000000000000000001)) hw dX8_part_70 kW_X8_160 ?_
      cases h_ret m36
      exact r_lreturn hw rfl rfl dX8_part_73
    · have m37 := h_if_f c5 m35
      clear m35
      refine r_iload_n hw dX8_part_55 3 rfl ?_
      refine r_i2l hw dX8_part_56 ?_
      refine r_iload_n hw dX8_part_57 4 rfl ?_
      refine r_i2l hw dX8_part_58 ?_
      obtain ⟨i6, g6, m38⟩ := h_bd m37
      clear m37
      refine r_callS1 hw (tX8_isPlace l G b0 g6) lB_X8_isPlace sT_X8_isPlace mL_X8_156 rfl rfl (Nat.le_of_ble_eq_true rfl) (Nat.le_of_ble_eq_true rfl) rfl (Nat.le_of_ble_eq_true rfl) dX8_part_59 ?_
      refine r_if_eq (tgt := 70) hw dX8_part_62 (by decide) (fun c7 => ?_) (fun c7 => ?_)
      · have m39 := h_if_t c7 m38
        clear m38
        refine r_ldc2 (v := (-9000000000000000001)) hw dX8_part_70 kW_X8_160 ?_
        cases h_ret m39
        exact r_lreturn hw rfl rfl dX8_part_73
      · have m40 := h_if_f c7 m38
        clear m38
        refine r_iload hw dX8_part_65 0 rfl ?_
        refine r_if_ne (tgt := 74) hw dX8_part_67 (by decide) (fun c8 => ?_) (fun c8 => ?_)
        · have m41 := h_if_f c8 m40
          clear m40
          refine r_aload_n hw dX8_part_74 1 rfl ?_
          refine r_iload_n hw dX8_part_75 3 rfl ?_
          refine r_i2l hw dX8_part_76 ?_
          obtain ⟨M9, eM9, m42⟩ := h_nm m41
          clear m41
          refine r_putL hw fP_X8_184 h1 dX8_part_77 (r_mem ?_ rfl eM9)
          refine r_aload_n hw dX8_part_80 1 rfl ?_
          refine r_iload_n hw dX8_part_81 4 rfl ?_
          refine r_i2l hw dX8_part_82 ?_
          obtain ⟨M10, eM10, m43⟩ := h_nm m42
          clear m42
          refine r_putL hw fP_X8_188 h1 dX8_part_83 (r_mem ?_ rfl eM10)
          refine r_aload_n hw dX8_part_86 1 rfl ?_
          refine r_iload_n hw dX8_part_87 3 rfl ?_
          refine r_iload hw dX8_part_88 5 rfl ?_
          refine r_iadd hw dX8_part_90 ?_
          refine r_i2l hw dX8_part_91 ?_
          obtain ⟨M11, eM11, m44⟩ := h_nm m43
          clear m43
          refine r_putL hw fP_X8_191 h1 dX8_part_92 (r_mem ?_ rfl eM11)
          refine r_aload_n hw dX8_part_95 1 rfl ?_
          refine r_iload_n hw dX8_part_96 4 rfl ?_
          refine r_iload hw dX8_part_97 6 rfl ?_
          refine r_iadd hw dX8_part_99 ?_
          refine r_i2l hw dX8_part_100 ?_
          obtain ⟨M12, eM12, m45⟩ := h_nm m44
          clear m44
          refine r_putL hw fP_X8_194 h1 dX8_part_101 (r_mem ?_ rfl eM12)
          refine r_aload_n hw dX8_part_104 1 rfl ?_
          refine r_iload_n hw dX8_part_105 2 rfl ?_
          obtain ⟨i13, M14, g14, m46⟩ := h_bd2 m45
          clear m45
          refine r_callV1 hw (tX8_crosses l G b0 g14) lB_X8_crosses lI_X8_crosses mL_X8_207 (c := 8) rfl h1 rfl (Nat.le_of_ble_eq_true rfl) (Nat.le_of_ble_eq_true rfl) rfl (Nat.le_of_ble_eq_true rfl) dX8_part_106 ?_
          refine r_if_ne (tgt := 116) hw dX8_part_109 (by decide) (fun c15 => ?_) (fun c15 => ?_)
          · have m47 := h_if_f c15 m46
            clear m46
            refine r_aload_n hw dX8_part_116 1 rfl ?_
            obtain ⟨i16, g16, m48⟩ := h_bd m47
            clear m47
            refine r_callV1 hw (tX8_pieces l G b0 g16) lB_X8_pieces lI_X8_pieces mL_X8_99 (c := 8) rfl h1 rfl (Nat.le_of_ble_eq_true rfl) (Nat.le_of_ble_eq_true rfl) rfl (Nat.le_of_ble_eq_true rfl) dX8_part_117 ?_
            refine r_bipush (v := 40) hw dX8_part_120 rfl ?_
            refine r_icmp_eq (tgt := 132) hw dX8_part_122 (by decide) (fun c17 => ?_) (fun c17 => ?_)
            · have m49 := h_if_t c17 m48
              clear m48
              refine r_ldc2 (v := (-9000000000000000003)) hw dX8_part_132 kW_X8_162 ?_
              cases h_ret m49
              exact r_lreturn hw rfl rfl dX8_part_135
            · have m50 := h_if_f c17 m48
              clear m48
              refine r_aload_n hw dX8_part_125 1 rfl ?_
              obtain ⟨i18, g18, m51⟩ := h_bd m50
              clear m50
              refine r_callV1 hw (tX8_isLarge l G b0 g18) lB_X8_isLarge lI_X8_isLarge mL_X8_210 (c := 8) rfl h1 rfl (Nat.le_of_ble_eq_true rfl) (Nat.le_of_ble_eq_true rfl) rfl (Nat.le_of_ble_eq_true rfl) dX8_part_126 ?_
              refine r_if_eq (tgt := 136) hw dX8_part_129 (by decide) (fun c19 => ?_) (fun c19 => ?_)
              · have m52 := h_if_t c19 m51
                clear m51
                refine r_aload_n hw dX8_part_136 1 rfl ?_
                obtain ⟨i20, g20, m53⟩ := h_bd m52
                clear m52
                refine r_callV1 hw (tX8_isWhole l G b0 g20) lB_X8_isWhole lI_X8_isWhole mL_X8_214 (c := 8) rfl h1 rfl (Nat.le_of_ble_eq_true rfl) (Nat.le_of_ble_eq_true rfl) rfl (Nat.le_of_ble_eq_true rfl) dX8_part_137 ?_
                refine r_if_ne (tgt := 147) hw dX8_part_140 (by decide) (fun c21 => ?_) (fun c21 => ?_)
                · have m54 := h_if_f c21 m53
                  clear m53
                  refine r_aload_n hw dX8_part_147 1 rfl ?_
                  obtain ⟨M22, g22, m55⟩ := h_bd m54
                  clear m54
                  refine r_callV0 hw (tX8_keep l G b0 g22) lB_X8_keep lI_X8_keep mL_X8_174 (c := 8) rfl h1 rfl (Nat.le_of_ble_eq_true rfl) (Nat.le_of_ble_eq_true rfl) rfl (Nat.le_of_ble_eq_true rfl) dX8_part_148 ?_
                  refine r_aload_n hw dX8_part_151 1 rfl ?_
                  refine r_iload_n hw dX8_part_152 2 rfl ?_
                  obtain ⟨M23, g23, m56⟩ := h_bd m55
                  clear m55
                  refine r_callV0 hw (tX8_cutOne l G b0 g23) lB_X8_cutOne lI_X8_cutOne mL_X8_219 (c := 8) rfl h1 rfl (Nat.le_of_ble_eq_true rfl) (Nat.le_of_ble_eq_true rfl) rfl (Nat.le_of_ble_eq_true rfl) dX8_part_153 ?_
                  refine r_aload_n hw dX8_part_156 1 rfl ?_
                  obtain ⟨i24, g24, m57⟩ := h_bd m56
                  clear m56
                  refine r_callV1 hw (tX8_pieces l G b0 g24) lB_X8_pieces lI_X8_pieces mL_X8_99 (c := 8) rfl h1 rfl (Nat.le_of_ble_eq_true rfl) (Nat.le_of_ble_eq_true rfl) rfl (Nat.le_of_ble_eq_true rfl) dX8_part_157 ?_
                  refine r_iconst (v := 1) hw dX8_part_160 rfl ?_
                  refine r_isub hw dX8_part_161 ?_
                  refine r_i2l hw dX8_part_162 ?_
                  cases h_ret m57
                  exact r_lreturn hw rfl rfl dX8_part_163
                · have m58 := h_if_t c21 m53
                  clear m53
                  refine r_ldc2 (v := (-9000000000000000004)) hw dX8_part_143 kW_X8_217 ?_
                  cases h_ret m58
                  exact r_lreturn hw rfl rfl dX8_part_146
              · have m59 := h_if_f c19 m51
                clear m51
                refine r_ldc2 (v := (-9000000000000000003)) hw dX8_part_132 kW_X8_162 ?_
                cases h_ret m59
                exact r_lreturn hw rfl rfl dX8_part_135
          · have m60 := h_if_t c15 m46
            clear m46
            refine r_ldc2 (v := (-9000000000000000002)) hw dX8_part_112 kW_X8_113 ?_
            cases h_ret m60
            exact r_lreturn hw rfl rfl dX8_part_115
        · have m61 := h_if_t c8 m40
          clear m40
          refine r_ldc2 (v := (-9000000000000000001)) hw dX8_part_70 kW_X8_160 ?_
          cases h_ret m61
          exact r_lreturn hw rfl rfl dX8_part_73
  have J44 : ∀ (M25 : Mm), (mX8_part_J44 K R M25 r a0 a1 a2 a3 a4).bind some = some (res, M') → w 0 0 44 [(0, .ref r), (1, .int a0), (2, .int a1), (3, .int a2), (4, .int a3), (5, .int a4)] [] K R M25 := by
    intro M25  m62
    unfold mX8_part_J44 at m62
    refine r_iconst (v := 0) hw dX8_part_44 rfl ?_
    exact J45 _ _ m62
  have J40 : ∀ (M26 : Mm), (mX8_part_J40 K R M26 r a0 a1 a2 a3 a4).bind some = some (res, M') → w 0 0 40 [(0, .ref r), (1, .int a0), (2, .int a1), (3, .int a2), (4, .int a3), (5, .int a4)] [] K R M26 := by
    intro M26  m63
    unfold mX8_part_J40 at m63
    refine r_iconst (v := 1) hw dX8_part_40 rfl ?_
    refine r_goto (tgt := 45) hw dX8_part_41 (by decide) ?_
    exact J45 _ _ m63
  refine r_iload hw dX8_part_0 4 rfl ?_
  refine r_i2l hw dX8_part_2 ?_
  refine r_ldc2 (v := (-1000)) hw dX8_part_3 kW_X8_222 ?_
  refine r_ldc2 (v := 1000) hw dX8_part_6 kW_X8_224 ?_
  obtain ⟨i27, g27, m64⟩ := h_bd m33
  clear m33
  refine r_callS1 hw (tX8_isIn l G b0 g27) lB_X8_isIn sT_X8_isIn mL_X8_95 rfl rfl (Nat.le_of_ble_eq_true rfl) (Nat.le_of_ble_eq_true rfl) rfl (Nat.le_of_ble_eq_true rfl) dX8_part_9 ?_
  refine r_if_eq (tgt := 44) hw dX8_part_12 (by decide) (fun c28 => ?_) (fun c28 => ?_)
  · have m65 := h_if_t c28 m64
    clear m64
    exact J44 _ m65
  · have m66 := h_if_f c28 m64
    clear m64
    refine r_iload hw dX8_part_15 5 rfl ?_
    refine r_i2l hw dX8_part_17 ?_
    refine r_ldc2 (v := (-1000)) hw dX8_part_18 kW_X8_222 ?_
    refine r_ldc2 (v := 1000) hw dX8_part_21 kW_X8_224 ?_
    obtain ⟨i29, g29, m67⟩ := h_bd m66
    clear m66
    refine r_callS1 hw (tX8_isIn l G b0 g29) lB_X8_isIn sT_X8_isIn mL_X8_95 rfl rfl (Nat.le_of_ble_eq_true rfl) (Nat.le_of_ble_eq_true rfl) rfl (Nat.le_of_ble_eq_true rfl) dX8_part_24 ?_
    refine r_if_eq (tgt := 44) hw dX8_part_27 (by decide) (fun c30 => ?_) (fun c30 => ?_)
    · have m68 := h_if_t c30 m67
      clear m67
      exact J44 _ m68
    · have m69 := h_if_f c30 m67
      clear m67
      refine r_iload hw dX8_part_30 4 rfl ?_
      refine r_if_ne (tgt := 40) hw dX8_part_32 (by decide) (fun c31 => ?_) (fun c31 => ?_)
      · have m70 := h_if_f c31 m69
        clear m69
        exact J40 _ m70
      · have m71 := h_if_t c31 m69
        clear m69
        refine r_iload hw dX8_part_35 5 rfl ?_
        refine r_if_eq (tgt := 44) hw dX8_part_37 (by decide) (fun c32 => ?_) (fun c32 => ?_)
        · have m72 := h_if_t c32 m71
          clear m71
          exact J44 _ m72
        · have m73 := h_if_f c32 m71
          clear m71
          exact J40 _ m73
theorem dX8_fits_0 : decode cX8_fits 0 = .ok (.iconst 1, 1) := by decide +kernel
theorem dX8_fits_1 : decode cX8_fits 1 = .ok (.istore 8, 2) := by decide +kernel
theorem dX8_fits_3 : decode cX8_fits 3 = .ok (.iconst 0, 1) := by decide +kernel
theorem dX8_fits_4 : decode cX8_fits 4 = .ok (.istore 9, 2) := by decide +kernel
theorem dX8_fits_6 : decode cX8_fits 6 = .ok (.iload 9, 2) := by decide +kernel
theorem dX8_fits_8 : decode cX8_fits 8 = .ok (.aload_n 0, 1) := by decide +kernel
theorem dX8_fits_9 : decode cX8_fits 9 = .ok (.iload_n 1, 1) := by decide +kernel
theorem dX8_fits_10 : decode cX8_fits 10 = .ok (.invokevirtual 135, 3) := by decide +kernel
theorem dX8_fits_13 : decode cX8_fits 13 = .ok (.if_icmp .ge 59, 3) := by decide +kernel
theorem dX8_fits_16 : decode cX8_fits 16 = .ok (.iload 8, 2) := by decide +kernel
theorem dX8_fits_18 : decode cX8_fits 18 = .ok (.ifCond .eq 45, 3) := by decide +kernel
theorem dX8_fits_21 : decode cX8_fits 21 = .ok (.lload_n 2, 1) := by decide +kernel
theorem dX8_fits_22 : decode cX8_fits 22 = .ok (.aload_n 0, 1) := by decide +kernel
theorem dX8_fits_23 : decode cX8_fits 23 = .ok (.iload_n 1, 1) := by decide +kernel
theorem dX8_fits_24 : decode cX8_fits 24 = .ok (.iconst 1, 1) := by decide +kernel
theorem dX8_fits_25 : decode cX8_fits 25 = .ok (.iconst 2, 1) := by decide +kernel
theorem dX8_fits_26 : decode cX8_fits 26 = .ok (.iload 9, 2) := by decide +kernel
theorem dX8_fits_28 : decode cX8_fits 28 = .ok (.imul, 1) := by decide +kernel
theorem dX8_fits_29 : decode cX8_fits 29 = .ok (.iadd, 1) := by decide +kernel
theorem dX8_fits_30 : decode cX8_fits 30 = .ok (.invokevirtual 103, 3) := by decide +kernel
theorem dX8_fits_33 : decode cX8_fits 33 = .ok (.lmul, 1) := by decide +kernel
theorem dX8_fits_34 : decode cX8_fits 34 = .ok (.lload 4, 2) := by decide +kernel
theorem dX8_fits_36 : decode cX8_fits 36 = .ok (.ladd, 1) := by decide +kernel
theorem dX8_fits_37 : decode cX8_fits 37 = .ok (.lload_n 2, 1) := by decide +kernel
theorem dX8_fits_38 : decode cX8_fits 38 = .ok (.aload_n 0, 1) := by decide +kernel
theorem dX8_fits_39 : decode cX8_fits 39 = .ok (.iload_n 1, 1) := by decide +kernel
theorem dX8_fits_40 : decode cX8_fits 40 = .ok (.iconst 2, 1) := by decide +kernel
theorem dX8_fits_41 : decode cX8_fits 41 = .ok (.iconst 2, 1) := by decide +kernel
theorem dX8_fits_42 : decode cX8_fits 42 = .ok (.iload 9, 2) := by decide +kernel
theorem dX8_fits_44 : decode cX8_fits 44 = .ok (.imul, 1) := by decide +kernel
theorem dX8_fits_45 : decode cX8_fits 45 = .ok (.iadd, 1) := by decide +kernel
theorem dX8_fits_46 : decode cX8_fits 46 = .ok (.invokevirtual 103, 3) := by decide +kernel
theorem dX8_fits_49 : decode cX8_fits 49 = .ok (.lmul, 1) := by decide +kernel
theorem dX8_fits_50 : decode cX8_fits 50 = .ok (.lload 6, 2) := by decide +kernel
theorem dX8_fits_52 : decode cX8_fits 52 = .ok (.ladd, 1) := by decide +kernel
theorem dX8_fits_53 : decode cX8_fits 53 = .ok (.invokestatic 156, 3) := by decide +kernel
theorem dX8_fits_56 : decode cX8_fits 56 = .ok (.ifCond .eq 7, 3) := by decide +kernel
theorem dX8_fits_59 : decode cX8_fits 59 = .ok (.iconst 1, 1) := by decide +kernel
theorem dX8_fits_60 : decode cX8_fits 60 = .ok (.goto 4, 3) := by decide +kernel
theorem dX8_fits_63 : decode cX8_fits 63 = .ok (.iconst 0, 1) := by decide +kernel
theorem dX8_fits_64 : decode cX8_fits 64 = .ok (.istore 8, 2) := by decide +kernel
theorem dX8_fits_66 : decode cX8_fits 66 = .ok (.iinc 9 1, 3) := by decide +kernel
theorem dX8_fits_69 : decode cX8_fits 69 = .ok (.goto (-63), 3) := by decide +kernel
theorem dX8_fits_72 : decode cX8_fits 72 = .ok (.iload 8, 2) := by decide +kernel
theorem dX8_fits_74 : decode cX8_fits 74 = .ok (.ireturn, 1) := by decide +kernel
set_option maxHeartbeats 4000000 in
set_option maxRecDepth 100000 in
theorem tX8_fits (l : Launch) (G : Gg) (b0 : Nat) {K : Kk} {R : Rr} {M : Mm} {r : Nat} {a0 : Int32} {a1 : Int64} {a2 : Int64} {a3 : Int64} {res : Int32} (hm : mX8_fits K R M r a0 a1 a2 a3 = some (res)) : CT l G b0 yX8_fits cX8_fits 10 (some .boolean) (rmz 3 48) [.ref r, .int a0, .long a1, .long a2, .long a3] K R M (some (.int res)) K R M := by
  refine ct_of (by decide +kernel) (Nat.le_of_ble_eq_true rfl) (fun w hw => ?_)
  change w 0 0 0 [(0, .ref r), (1, .int a0), (2, .long a1), (4, .long a2), (6, .long a3)] [] K R M
  replace hm := h_start hm
  unfold mX8_fits at hm
  obtain ⟨h1, m18⟩ := h_ck hm
  clear hm
  refine r_iconst (v := 1) hw dX8_fits_0 rfl ?_
  obtain ⟨i2, ei2, m19⟩ := h_nm m18
  clear m18
  refine r_topI (w := w) ei2 ?_
  refine r_istore hw dX8_fits_1 (by decide) rfl ?_
  refine r_iconst (v := 0) hw dX8_fits_3 rfl ?_
  obtain ⟨i3, ei3, m20⟩ := h_nm m19
  clear m19
  refine r_topI (w := w) ei3 ?_
  refine r_istore hw dX8_fits_4 (by decide) rfl ?_
  refine r_sub hw [2, 3, 4, 5, 6, 1, 0] rfl ?_
  obtain ⟨v6, n06, hn6, hv6⟩ := h_lp m20
  clear m20
  have L6 : ∀ n : Nat, ∀ (i4 : Int32) (i5 : Int32), it (mX8_fits_L6 K R M r a0 a1 a2 a3) n (i4, i5) = some v6 → w 0 0 6 [(0, .ref r), (1, .int a0), (2, .long a1), (4, .long a2), (6, .long a3), (8, .int i4), (9, .int i5)] [] K R M := by
    intro n6
    induction n6 with
    | zero => intro i4 i5 hz; exact absurd hz h_it0
    | succ n6 ih6 =>
      intro i4 i5 m21
      replace m21 : (mX8_fits_B6 K R M r a0 a1 a2 a3 i4 i5).bind (Sum.elim (it (mX8_fits_L6 K R M r a0 a1 a2 a3) n6) some) = some v6 := m21
      unfold mX8_fits_B6 at m21
      have J64 : ∀ (i6 : Int32) (s7 : Int32), (mX8_fits_J64 K R M r a0 a1 a2 a3 i6 s7).bind (Sum.elim (it (mX8_fits_L6 K R M r a0 a1 a2 a3) n6) some) = some v6 → w 0 0 64 [(0, .ref r), (1, .int a0), (2, .long a1), (4, .long a2), (6, .long a3), (9, .int i6)] [.int s7] K R M := by
        intro i6 s7 m22
        unfold mX8_fits_J64 at m22
        refine r_istore hw dX8_fits_64 (by decide) rfl ?_
        obtain ⟨i8, ei8, m23⟩ := h_nm m22
        clear m22
        refine r_iinc (j := 6) (v := i8) hw dX8_fits_66 rfl (by rw [ei8]; rfl) (by decide) rfl ?_
        refine r_goto (tgt := 6) hw dX8_fits_69 (by decide) ?_
        refine r_sub hw [2, 3, 4, 5, 6, 1, 0] rfl ?_
        exact ih6 _ _ m23
      have J63 : ∀ (i9 : Int32), (mX8_fits_J63 K R M r a0 a1 a2 a3 i9).bind (Sum.elim (it (mX8_fits_L6 K R M r a0 a1 a2 a3) n6) some) = some v6 → w 0 0 63 [(0, .ref r), (1, .int a0), (2, .long a1), (4, .long a2), (6, .long a3), (9, .int i9)] [] K R M := by
        intro i9 m24
        unfold mX8_fits_J63 at m24
        refine r_iconst (v := 0) hw dX8_fits_63 rfl ?_
        exact J64 _ _ m24
      refine r_iload hw dX8_fits_6 6 rfl ?_
      refine r_aload_n hw dX8_fits_8 0 rfl ?_
      refine r_iload_n hw dX8_fits_9 1 rfl ?_
      obtain ⟨i10, g10, m25⟩ := h_bd m21
      clear m21
      refine r_callV1 hw (tX8_size l G b0 g10) lB_X8_size lI_X8_size mL_X8_135 (c := 8) rfl h1 rfl (Nat.le_of_ble_eq_true rfl) (Nat.le_of_ble_eq_true rfl) rfl (Nat.le_of_ble_eq_true rfl) dX8_fits_10 ?_
      refine r_icmp_ge (tgt := 72) hw dX8_fits_13 (by decide) (fun c11 => ?_) (fun c11 => ?_)
      · have m26 := h_if_f c11 m25
        clear m25
        have m27 := h_ex m26 hv6
        clear m26
        refine r_iload hw dX8_fits_72 5 rfl ?_
        obtain ⟨h12, m28⟩ := h_ck m27
        clear m27
        cases h_ret m28
        exact r_zreturn hw h12 rfl rfl dX8_fits_74
      · have m29 := h_if_t c11 m25
        clear m25
        refine r_iload hw dX8_fits_16 5 rfl ?_
        refine r_if_eq (tgt := 63) hw dX8_fits_18 (by decide) (fun c13 => ?_) (fun c13 => ?_)
        · have m30 := h_if_t c13 m29
          clear m29
          refine r_sub hw [0, 1, 2, 3, 4, 6] rfl ?_
          exact J63 _ m30
        · have m31 := h_if_f c13 m29
          clear m29
          refine r_lload_n hw dX8_fits_21 2 rfl ?_
          refine r_aload_n hw dX8_fits_22 0 rfl ?_
          refine r_iload_n hw dX8_fits_23 1 rfl ?_
          refine r_iconst (v := 1) hw dX8_fits_24 rfl ?_
          refine r_iconst (v := 2) hw dX8_fits_25 rfl ?_
          refine r_iload hw dX8_fits_26 6 rfl ?_
          refine r_imul hw dX8_fits_28 ?_
          refine r_iadd hw dX8_fits_29 ?_
          obtain ⟨l14, g14, m32⟩ := h_bd m31
          clear m31
          refine r_callV1 hw (tX8_get l G b0 g14) lB_X8_get lI_X8_get mL_X8_103 (c := 8) rfl h1 rfl (Nat.le_of_ble_eq_true rfl) (Nat.le_of_ble_eq_true rfl) rfl (Nat.le_of_ble_eq_true rfl) dX8_fits_30 ?_
          refine r_lmul hw dX8_fits_33 ?_
          refine r_lload hw dX8_fits_34 3 rfl ?_
          refine r_ladd hw dX8_fits_36 ?_
          refine r_lload_n hw dX8_fits_37 2 rfl ?_
          refine r_aload_n hw dX8_fits_38 0 rfl ?_
          refine r_iload_n hw dX8_fits_39 1 rfl ?_
          refine r_iconst (v := 2) hw dX8_fits_40 rfl ?_
          refine r_iconst (v := 2) hw dX8_fits_41 rfl ?_
          refine r_iload hw dX8_fits_42 6 rfl ?_
          refine r_imul hw dX8_fits_44 ?_
          refine r_iadd hw dX8_fits_45 ?_
          obtain ⟨l15, g15, m33⟩ := h_bd m32
          clear m32
          refine r_callV1 hw (tX8_get l G b0 g15) lB_X8_get lI_X8_get mL_X8_103 (c := 8) rfl h1 rfl (Nat.le_of_ble_eq_true rfl) (Nat.le_of_ble_eq_true rfl) rfl (Nat.le_of_ble_eq_true rfl) dX8_fits_46 ?_
          refine r_lmul hw dX8_fits_49 ?_
          refine r_lload hw dX8_fits_50 4 rfl ?_
          refine r_ladd hw dX8_fits_52 ?_
          obtain ⟨i16, g16, m34⟩ := h_bd m33
          clear m33
          refine r_callS1 hw (tX8_isPlace l G b0 g16) lB_X8_isPlace sT_X8_isPlace mL_X8_156 rfl rfl (Nat.le_of_ble_eq_true rfl) (Nat.le_of_ble_eq_true rfl) rfl (Nat.le_of_ble_eq_true rfl) dX8_fits_53 ?_
          refine r_if_eq (tgt := 63) hw dX8_fits_56 (by decide) (fun c17 => ?_) (fun c17 => ?_)
          · have m35 := h_if_t c17 m34
            clear m34
            refine r_sub hw [0, 1, 2, 3, 4, 6] rfl ?_
            exact J63 _ m35
          · have m36 := h_if_f c17 m34
            clear m34
            refine r_iconst (v := 1) hw dX8_fits_59 rfl ?_
            refine r_goto (tgt := 64) hw dX8_fits_60 (by decide) ?_
            refine r_sub hw [0, 1, 2, 3, 4, 6] rfl ?_
            exact J64 _ _ m36
  exact L6 n06 _ _ hn6
theorem dX8_moved_0 : decode cX8_moved 0 = .ok (.aload_n 0, 1) := by decide +kernel
theorem dX8_moved_1 : decode cX8_moved 1 = .ok (.iload_n 1, 1) := by decide +kernel
theorem dX8_moved_2 : decode cX8_moved 2 = .ok (.lload_n 2, 1) := by decide +kernel
theorem dX8_moved_3 : decode cX8_moved 3 = .ok (.lload 4, 2) := by decide +kernel
theorem dX8_moved_5 : decode cX8_moved 5 = .ok (.lload 6, 2) := by decide +kernel
theorem dX8_moved_7 : decode cX8_moved 7 = .ok (.invokevirtual 229, 3) := by decide +kernel
theorem dX8_moved_10 : decode cX8_moved 10 = .ok (.ifCond .ne 7, 3) := by decide +kernel
theorem dX8_moved_13 : decode cX8_moved 13 = .ok (.ldc2_w 160, 3) := by decide +kernel
theorem dX8_moved_16 : decode cX8_moved 16 = .ok (.lreturn, 1) := by decide +kernel
theorem dX8_moved_17 : decode cX8_moved 17 = .ok (.aload_n 0, 1) := by decide +kernel
theorem dX8_moved_18 : decode cX8_moved 18 = .ok (.invokevirtual 174, 3) := by decide +kernel
theorem dX8_moved_21 : decode cX8_moved 21 = .ok (.aload_n 0, 1) := by decide +kernel
theorem dX8_moved_22 : decode cX8_moved 22 = .ok (.iload_n 1, 1) := by decide +kernel
theorem dX8_moved_23 : decode cX8_moved 23 = .ok (.lload_n 2, 1) := by decide +kernel
theorem dX8_moved_24 : decode cX8_moved 24 = .ok (.lload 4, 2) := by decide +kernel
theorem dX8_moved_26 : decode cX8_moved 26 = .ok (.lload 6, 2) := by decide +kernel
theorem dX8_moved_28 : decode cX8_moved 28 = .ok (.invokevirtual 181, 3) := by decide +kernel
theorem dX8_moved_31 : decode cX8_moved 31 = .ok (.lconst 0, 1) := by decide +kernel
theorem dX8_moved_32 : decode cX8_moved 32 = .ok (.lreturn, 1) := by decide +kernel
set_option maxHeartbeats 4000000 in
set_option maxRecDepth 100000 in
theorem tX8_moved (l : Launch) (G : Gg) (b0 : Nat) {K : Kk} {R : Rr} {M : Mm} {r : Nat} {a0 : Int32} {a1 : Int64} {a2 : Int64} {a3 : Int64} {res : Int64} {M' : Mm} (hm : mX8_moved K R M r a0 a1 a2 a3 = some (res, M')) : CT l G b0 yX8_moved cX8_moved 8 (some .long) (rmz 4 77) [.ref r, .int a0, .long a1, .long a2, .long a3] K R M (some (.long res)) K R M' := by
  refine ct_of (by decide +kernel) (Nat.le_of_ble_eq_true rfl) (fun w hw => ?_)
  change w 0 0 0 [(0, .ref r), (1, .int a0), (2, .long a1), (4, .long a2), (6, .long a3)] [] K R M
  replace hm := h_start hm
  unfold mX8_moved at hm
  obtain ⟨h1, m6⟩ := h_ck hm
  clear hm
  refine r_aload_n hw dX8_moved_0 0 rfl ?_
  refine r_iload_n hw dX8_moved_1 1 rfl ?_
  refine r_lload_n hw dX8_moved_2 2 rfl ?_
  refine r_lload hw dX8_moved_3 3 rfl ?_
  refine r_lload hw dX8_moved_5 4 rfl ?_
  obtain ⟨i2, g2, m7⟩ := h_bd m6
  clear m6
  refine r_callV1 hw (tX8_fits l G b0 g2) lB_X8_fits lI_X8_fits mL_X8_229 (c := 8) rfl h1 rfl (Nat.le_of_ble_eq_true rfl) (Nat.le_of_ble_eq_true rfl) rfl (Nat.le_of_ble_eq_true rfl) dX8_moved_7 ?_
  refine r_if_ne (tgt := 17) hw dX8_moved_10 (by decide) (fun c3 => ?_) (fun c3 => ?_)
  · have m8 := h_if_f c3 m7
    clear m7
    refine r_aload_n hw dX8_moved_17 0 rfl ?_
    obtain ⟨M4, g4, m9⟩ := h_bd m8
    clear m8
    refine r_callV0 hw (tX8_keep l G b0 g4) lB_X8_keep lI_X8_keep mL_X8_174 (c := 8) rfl h1 rfl (Nat.le_of_ble_eq_true rfl) (Nat.le_of_ble_eq_true rfl) rfl (Nat.le_of_ble_eq_true rfl) dX8_moved_18 ?_
    refine r_aload_n hw dX8_moved_21 0 rfl ?_
    refine r_iload_n hw dX8_moved_22 1 rfl ?_
    refine r_lload_n hw dX8_moved_23 2 rfl ?_
    refine r_lload hw dX8_moved_24 3 rfl ?_
    refine r_lload hw dX8_moved_26 4 rfl ?_
    obtain ⟨M5, g5, m10⟩ := h_bd m9
    clear m9
    refine r_callV0 hw (tX8_move l G b0 g5) lB_X8_move lI_X8_move mL_X8_181 (c := 8) rfl h1 rfl (Nat.le_of_ble_eq_true rfl) (Nat.le_of_ble_eq_true rfl) rfl (Nat.le_of_ble_eq_true rfl) dX8_moved_28 ?_
    refine r_lconst (v := 0) hw dX8_moved_31 rfl ?_
    cases h_ret m10
    exact r_lreturn hw rfl rfl dX8_moved_32
  · have m11 := h_if_t c3 m7
    clear m7
    refine r_ldc2 (v := (-9000000000000000001)) hw dX8_moved_13 kW_X8_160 ?_
    cases h_ret m11
    exact r_lreturn hw rfl rfl dX8_moved_16
theorem dX8_slide_0 : decode cX8_slide 0 = .ok (.aload_n 0, 1) := by decide +kernel
theorem dX8_slide_1 : decode cX8_slide 1 = .ok (.iload_n 1, 1) := by decide +kernel
theorem dX8_slide_2 : decode cX8_slide 2 = .ok (.invokevirtual 226, 3) := by decide +kernel
theorem dX8_slide_5 : decode cX8_slide 5 = .ok (.ifCond .eq 31, 3) := by decide +kernel
theorem dX8_slide_8 : decode cX8_slide 8 = .ok (.iload_n 2, 1) := by decide +kernel
theorem dX8_slide_9 : decode cX8_slide 9 = .ok (.i2l, 1) := by decide +kernel
theorem dX8_slide_10 : decode cX8_slide 10 = .ok (.ldc2_w 233, 3) := by decide +kernel
theorem dX8_slide_13 : decode cX8_slide 13 = .ok (.ldc2_w 235, 3) := by decide +kernel
theorem dX8_slide_16 : decode cX8_slide 16 = .ok (.invokestatic 95, 3) := by decide +kernel
theorem dX8_slide_19 : decode cX8_slide 19 = .ok (.ifCond .eq 17, 3) := by decide +kernel
theorem dX8_slide_22 : decode cX8_slide 22 = .ok (.iload_n 3, 1) := by decide +kernel
theorem dX8_slide_23 : decode cX8_slide 23 = .ok (.i2l, 1) := by decide +kernel
theorem dX8_slide_24 : decode cX8_slide 24 = .ok (.ldc2_w 233, 3) := by decide +kernel
theorem dX8_slide_27 : decode cX8_slide 27 = .ok (.ldc2_w 235, 3) := by decide +kernel
theorem dX8_slide_30 : decode cX8_slide 30 = .ok (.invokestatic 95, 3) := by decide +kernel
theorem dX8_slide_33 : decode cX8_slide 33 = .ok (.ifCond .ne 7, 3) := by decide +kernel
theorem dX8_slide_36 : decode cX8_slide 36 = .ok (.ldc2_w 160, 3) := by decide +kernel
theorem dX8_slide_39 : decode cX8_slide 39 = .ok (.lreturn, 1) := by decide +kernel
theorem dX8_slide_40 : decode cX8_slide 40 = .ok (.aload_n 0, 1) := by decide +kernel
theorem dX8_slide_41 : decode cX8_slide 41 = .ok (.iload_n 1, 1) := by decide +kernel
theorem dX8_slide_42 : decode cX8_slide 42 = .ok (.aload_n 0, 1) := by decide +kernel
theorem dX8_slide_43 : decode cX8_slide 43 = .ok (.iload_n 1, 1) := by decide +kernel
theorem dX8_slide_44 : decode cX8_slide 44 = .ok (.bipush 33, 2) := by decide +kernel
theorem dX8_slide_46 : decode cX8_slide 46 = .ok (.invokevirtual 103, 3) := by decide +kernel
theorem dX8_slide_49 : decode cX8_slide 49 = .ok (.aload_n 0, 1) := by decide +kernel
theorem dX8_slide_50 : decode cX8_slide 50 = .ok (.iload_n 1, 1) := by decide +kernel
theorem dX8_slide_51 : decode cX8_slide 51 = .ok (.bipush 34, 2) := by decide +kernel
theorem dX8_slide_53 : decode cX8_slide 53 = .ok (.invokevirtual 103, 3) := by decide +kernel
theorem dX8_slide_56 : decode cX8_slide 56 = .ok (.iload_n 2, 1) := by decide +kernel
theorem dX8_slide_57 : decode cX8_slide 57 = .ok (.i2l, 1) := by decide +kernel
theorem dX8_slide_58 : decode cX8_slide 58 = .ok (.ladd, 1) := by decide +kernel
theorem dX8_slide_59 : decode cX8_slide 59 = .ok (.aload_n 0, 1) := by decide +kernel
theorem dX8_slide_60 : decode cX8_slide 60 = .ok (.iload_n 1, 1) := by decide +kernel
theorem dX8_slide_61 : decode cX8_slide 61 = .ok (.bipush 35, 2) := by decide +kernel
theorem dX8_slide_63 : decode cX8_slide 63 = .ok (.invokevirtual 103, 3) := by decide +kernel
theorem dX8_slide_66 : decode cX8_slide 66 = .ok (.iload_n 3, 1) := by decide +kernel
theorem dX8_slide_67 : decode cX8_slide 67 = .ok (.i2l, 1) := by decide +kernel
theorem dX8_slide_68 : decode cX8_slide 68 = .ok (.ladd, 1) := by decide +kernel
theorem dX8_slide_69 : decode cX8_slide 69 = .ok (.invokevirtual 237, 3) := by decide +kernel
theorem dX8_slide_72 : decode cX8_slide 72 = .ok (.lreturn, 1) := by decide +kernel
set_option maxHeartbeats 4000000 in
set_option maxRecDepth 100000 in
theorem tX8_slide (l : Launch) (G : Gg) (b0 : Nat) {K : Kk} {R : Rr} {M : Mm} {r : Nat} {a0 : Int32} {a1 : Int32} {a2 : Int32} {res : Int64} {M' : Mm} (hm : mX8_slide K R M r a0 a1 a2 = some (res, M')) : CT l G b0 yX8_slide cX8_slide 4 (some .long) (rmz 5 104) [.ref r, .int a0, .int a1, .int a2] K R M (some (.long res)) K R M' := by
  refine ct_of (by decide +kernel) (Nat.le_of_ble_eq_true rfl) (fun w hw => ?_)
  change w 0 0 0 [(0, .ref r), (1, .int a0), (2, .int a1), (3, .int a2)] [] K R M
  replace hm := h_start hm
  unfold mX8_slide at hm
  obtain ⟨h1, m13⟩ := h_ck hm
  clear hm
  refine r_aload_n hw dX8_slide_0 0 rfl ?_
  refine r_iload_n hw dX8_slide_1 1 rfl ?_
  obtain ⟨i2, g2, m14⟩ := h_bd m13
  clear m13
  refine r_callV1 hw (tX8_isPiece l G b0 g2) lB_X8_isPiece lI_X8_isPiece mL_X8_226 (c := 8) rfl h1 rfl (Nat.le_of_ble_eq_true rfl) (Nat.le_of_ble_eq_true rfl) rfl (Nat.le_of_ble_eq_true rfl) dX8_slide_2 ?_
  refine r_if_eq (tgt := 36) hw dX8_slide_5 (by decide) (fun c3 => ?_) (fun c3 => ?_)
  · have m15 := h_if_t c3 m14
    clear m14
    refine r_ldc2 (v := (-9000000000000000001)) hw dX8_slide_36 kW_X8_160 ?_
    cases h_ret m15
    exact r_lreturn hw rfl rfl dX8_slide_39
  · have m16 := h_if_f c3 m14
    clear m14
    refine r_iload_n hw dX8_slide_8 2 rfl ?_
    refine r_i2l hw dX8_slide_9 ?_
    refine r_ldc2 (v := (-200000)) hw dX8_slide_10 kW_X8_233 ?_
    refine r_ldc2 (v := 200000) hw dX8_slide_13 kW_X8_235 ?_
    obtain ⟨i4, g4, m17⟩ := h_bd m16
    clear m16
    refine r_callS1 hw (tX8_isIn l G b0 g4) lB_X8_isIn sT_X8_isIn mL_X8_95 rfl rfl (Nat.le_of_ble_eq_true rfl) (Nat.le_of_ble_eq_true rfl) rfl (Nat.le_of_ble_eq_true rfl) dX8_slide_16 ?_
    refine r_if_eq (tgt := 36) hw dX8_slide_19 (by decide) (fun c5 => ?_) (fun c5 => ?_)
    · have m18 := h_if_t c5 m17
      clear m17
      refine r_ldc2 (v := (-9000000000000000001)) hw dX8_slide_36 kW_X8_160 ?_
      cases h_ret m18
      exact r_lreturn hw rfl rfl dX8_slide_39
    · have m19 := h_if_f c5 m17
      clear m17
      refine r_iload_n hw dX8_slide_22 3 rfl ?_
      refine r_i2l hw dX8_slide_23 ?_
      refine r_ldc2 (v := (-200000)) hw dX8_slide_24 kW_X8_233 ?_
      refine r_ldc2 (v := 200000) hw dX8_slide_27 kW_X8_235 ?_
      obtain ⟨i6, g6, m20⟩ := h_bd m19
      clear m19
      refine r_callS1 hw (tX8_isIn l G b0 g6) lB_X8_isIn sT_X8_isIn mL_X8_95 rfl rfl (Nat.le_of_ble_eq_true rfl) (Nat.le_of_ble_eq_true rfl) rfl (Nat.le_of_ble_eq_true rfl) dX8_slide_30 ?_
      refine r_if_ne (tgt := 40) hw dX8_slide_33 (by decide) (fun c7 => ?_) (fun c7 => ?_)
      · have m21 := h_if_f c7 m20
        clear m20
        refine r_aload_n hw dX8_slide_40 0 rfl ?_
        refine r_iload_n hw dX8_slide_41 1 rfl ?_
        refine r_aload_n hw dX8_slide_42 0 rfl ?_
        refine r_iload_n hw dX8_slide_43 1 rfl ?_
        refine r_bipush (v := 33) hw dX8_slide_44 rfl ?_
        obtain ⟨l8, g8, m22⟩ := h_bd m21
        clear m21
        refine r_callV1 hw (tX8_get l G b0 g8) lB_X8_get lI_X8_get mL_X8_103 (c := 8) rfl h1 rfl (Nat.le_of_ble_eq_true rfl) (Nat.le_of_ble_eq_true rfl) rfl (Nat.le_of_ble_eq_true rfl) dX8_slide_46 ?_
        refine r_aload_n hw dX8_slide_49 0 rfl ?_
        refine r_iload_n hw dX8_slide_50 1 rfl ?_
        refine r_bipush (v := 34) hw dX8_slide_51 rfl ?_
        obtain ⟨l9, g9, m23⟩ := h_bd m22
        clear m22
        refine r_callV1 hw (tX8_get l G b0 g9) lB_X8_get lI_X8_get mL_X8_103 (c := 8) rfl h1 rfl (Nat.le_of_ble_eq_true rfl) (Nat.le_of_ble_eq_true rfl) rfl (Nat.le_of_ble_eq_true rfl) dX8_slide_53 ?_
        refine r_iload_n hw dX8_slide_56 2 rfl ?_
        refine r_i2l hw dX8_slide_57 ?_
        refine r_ladd hw dX8_slide_58 ?_
        refine r_aload_n hw dX8_slide_59 0 rfl ?_
        refine r_iload_n hw dX8_slide_60 1 rfl ?_
        refine r_bipush (v := 35) hw dX8_slide_61 rfl ?_
        obtain ⟨l10, g10, m24⟩ := h_bd m23
        clear m23
        refine r_callV1 hw (tX8_get l G b0 g10) lB_X8_get lI_X8_get mL_X8_103 (c := 8) rfl h1 rfl (Nat.le_of_ble_eq_true rfl) (Nat.le_of_ble_eq_true rfl) rfl (Nat.le_of_ble_eq_true rfl) dX8_slide_63 ?_
        refine r_iload_n hw dX8_slide_66 3 rfl ?_
        refine r_i2l hw dX8_slide_67 ?_
        refine r_ladd hw dX8_slide_68 ?_
        obtain ⟨l11, M12, g12, m25⟩ := h_bd2 m24
        clear m24
        refine r_callV1 hw (tX8_moved l G b0 g12) lB_X8_moved lI_X8_moved mL_X8_237 (c := 8) rfl h1 rfl (Nat.le_of_ble_eq_true rfl) (Nat.le_of_ble_eq_true rfl) rfl (Nat.le_of_ble_eq_true rfl) dX8_slide_69 ?_
        cases h_ret m25
        exact r_lreturn hw rfl rfl dX8_slide_72
      · have m26 := h_if_t c7 m20
        clear m20
        refine r_ldc2 (v := (-9000000000000000001)) hw dX8_slide_36 kW_X8_160 ?_
        cases h_ret m26
        exact r_lreturn hw rfl rfl dX8_slide_39
theorem dX8_half_0 : decode cX8_half 0 = .ok (.aload_n 0, 1) := by decide +kernel
theorem dX8_half_1 : decode cX8_half 1 = .ok (.iload_n 1, 1) := by decide +kernel
theorem dX8_half_2 : decode cX8_half 2 = .ok (.invokevirtual 226, 3) := by decide +kernel
theorem dX8_half_5 : decode cX8_half 5 = .ok (.ifCond .eq 31, 3) := by decide +kernel
theorem dX8_half_8 : decode cX8_half 8 = .ok (.iload_n 2, 1) := by decide +kernel
theorem dX8_half_9 : decode cX8_half 9 = .ok (.i2l, 1) := by decide +kernel
theorem dX8_half_10 : decode cX8_half 10 = .ok (.ldc2_w 233, 3) := by decide +kernel
theorem dX8_half_13 : decode cX8_half 13 = .ok (.ldc2_w 235, 3) := by decide +kernel
theorem dX8_half_16 : decode cX8_half 16 = .ok (.invokestatic 95, 3) := by decide +kernel
theorem dX8_half_19 : decode cX8_half 19 = .ok (.ifCond .eq 17, 3) := by decide +kernel
theorem dX8_half_22 : decode cX8_half 22 = .ok (.iload_n 3, 1) := by decide +kernel
theorem dX8_half_23 : decode cX8_half 23 = .ok (.i2l, 1) := by decide +kernel
theorem dX8_half_24 : decode cX8_half 24 = .ok (.ldc2_w 233, 3) := by decide +kernel
theorem dX8_half_27 : decode cX8_half 27 = .ok (.ldc2_w 235, 3) := by decide +kernel
theorem dX8_half_30 : decode cX8_half 30 = .ok (.invokestatic 95, 3) := by decide +kernel
theorem dX8_half_33 : decode cX8_half 33 = .ok (.ifCond .ne 7, 3) := by decide +kernel
theorem dX8_half_36 : decode cX8_half 36 = .ok (.ldc2_w 160, 3) := by decide +kernel
theorem dX8_half_39 : decode cX8_half 39 = .ok (.lreturn, 1) := by decide +kernel
theorem dX8_half_40 : decode cX8_half 40 = .ok (.aload_n 0, 1) := by decide +kernel
theorem dX8_half_41 : decode cX8_half 41 = .ok (.iload_n 1, 1) := by decide +kernel
theorem dX8_half_42 : decode cX8_half 42 = .ok (.aload_n 0, 1) := by decide +kernel
theorem dX8_half_43 : decode cX8_half 43 = .ok (.iload_n 1, 1) := by decide +kernel
theorem dX8_half_44 : decode cX8_half 44 = .ok (.bipush 33, 2) := by decide +kernel
theorem dX8_half_46 : decode cX8_half 46 = .ok (.invokevirtual 103, 3) := by decide +kernel
theorem dX8_half_49 : decode cX8_half 49 = .ok (.lneg, 1) := by decide +kernel
theorem dX8_half_50 : decode cX8_half 50 = .ok (.iload_n 2, 1) := by decide +kernel
theorem dX8_half_51 : decode cX8_half 51 = .ok (.i2l, 1) := by decide +kernel
theorem dX8_half_52 : decode cX8_half 52 = .ok (.aload_n 0, 1) := by decide +kernel
theorem dX8_half_53 : decode cX8_half 53 = .ok (.iload_n 1, 1) := by decide +kernel
theorem dX8_half_54 : decode cX8_half 54 = .ok (.bipush 34, 2) := by decide +kernel
theorem dX8_half_56 : decode cX8_half 56 = .ok (.invokevirtual 103, 3) := by decide +kernel
theorem dX8_half_59 : decode cX8_half 59 = .ok (.lsub, 1) := by decide +kernel
theorem dX8_half_60 : decode cX8_half 60 = .ok (.iload_n 3, 1) := by decide +kernel
theorem dX8_half_61 : decode cX8_half 61 = .ok (.i2l, 1) := by decide +kernel
theorem dX8_half_62 : decode cX8_half 62 = .ok (.aload_n 0, 1) := by decide +kernel
theorem dX8_half_63 : decode cX8_half 63 = .ok (.iload_n 1, 1) := by decide +kernel
theorem dX8_half_64 : decode cX8_half 64 = .ok (.bipush 35, 2) := by decide +kernel
theorem dX8_half_66 : decode cX8_half 66 = .ok (.invokevirtual 103, 3) := by decide +kernel
theorem dX8_half_69 : decode cX8_half 69 = .ok (.lsub, 1) := by decide +kernel
theorem dX8_half_70 : decode cX8_half 70 = .ok (.invokevirtual 237, 3) := by decide +kernel
theorem dX8_half_73 : decode cX8_half 73 = .ok (.lreturn, 1) := by decide +kernel
set_option maxHeartbeats 4000000 in
set_option maxRecDepth 100000 in
theorem tX8_half (l : Launch) (G : Gg) (b0 : Nat) {K : Kk} {R : Rr} {M : Mm} {r : Nat} {a0 : Int32} {a1 : Int32} {a2 : Int32} {res : Int64} {M' : Mm} (hm : mX8_half K R M r a0 a1 a2 = some (res, M')) : CT l G b0 yX8_half cX8_half 4 (some .long) (rmz 5 104) [.ref r, .int a0, .int a1, .int a2] K R M (some (.long res)) K R M' := by
  refine ct_of (by decide +kernel) (Nat.le_of_ble_eq_true rfl) (fun w hw => ?_)
  change w 0 0 0 [(0, .ref r), (1, .int a0), (2, .int a1), (3, .int a2)] [] K R M
  replace hm := h_start hm
  unfold mX8_half at hm
  obtain ⟨h1, m13⟩ := h_ck hm
  clear hm
  refine r_aload_n hw dX8_half_0 0 rfl ?_
  refine r_iload_n hw dX8_half_1 1 rfl ?_
  obtain ⟨i2, g2, m14⟩ := h_bd m13
  clear m13
  refine r_callV1 hw (tX8_isPiece l G b0 g2) lB_X8_isPiece lI_X8_isPiece mL_X8_226 (c := 8) rfl h1 rfl (Nat.le_of_ble_eq_true rfl) (Nat.le_of_ble_eq_true rfl) rfl (Nat.le_of_ble_eq_true rfl) dX8_half_2 ?_
  refine r_if_eq (tgt := 36) hw dX8_half_5 (by decide) (fun c3 => ?_) (fun c3 => ?_)
  · have m15 := h_if_t c3 m14
    clear m14
    refine r_ldc2 (v := (-9000000000000000001)) hw dX8_half_36 kW_X8_160 ?_
    cases h_ret m15
    exact r_lreturn hw rfl rfl dX8_half_39
  · have m16 := h_if_f c3 m14
    clear m14
    refine r_iload_n hw dX8_half_8 2 rfl ?_
    refine r_i2l hw dX8_half_9 ?_
    refine r_ldc2 (v := (-200000)) hw dX8_half_10 kW_X8_233 ?_
    refine r_ldc2 (v := 200000) hw dX8_half_13 kW_X8_235 ?_
    obtain ⟨i4, g4, m17⟩ := h_bd m16
    clear m16
    refine r_callS1 hw (tX8_isIn l G b0 g4) lB_X8_isIn sT_X8_isIn mL_X8_95 rfl rfl (Nat.le_of_ble_eq_true rfl) (Nat.le_of_ble_eq_true rfl) rfl (Nat.le_of_ble_eq_true rfl) dX8_half_16 ?_
    refine r_if_eq (tgt := 36) hw dX8_half_19 (by decide) (fun c5 => ?_) (fun c5 => ?_)
    · have m18 := h_if_t c5 m17
      clear m17
      refine r_ldc2 (v := (-9000000000000000001)) hw dX8_half_36 kW_X8_160 ?_
      cases h_ret m18
      exact r_lreturn hw rfl rfl dX8_half_39
    · have m19 := h_if_f c5 m17
      clear m17
      refine r_iload_n hw dX8_half_22 3 rfl ?_
      refine r_i2l hw dX8_half_23 ?_
      refine r_ldc2 (v := (-200000)) hw dX8_half_24 kW_X8_233 ?_
      refine r_ldc2 (v := 200000) hw dX8_half_27 kW_X8_235 ?_
      obtain ⟨i6, g6, m20⟩ := h_bd m19
      clear m19
      refine r_callS1 hw (tX8_isIn l G b0 g6) lB_X8_isIn sT_X8_isIn mL_X8_95 rfl rfl (Nat.le_of_ble_eq_true rfl) (Nat.le_of_ble_eq_true rfl) rfl (Nat.le_of_ble_eq_true rfl) dX8_half_30 ?_
      refine r_if_ne (tgt := 40) hw dX8_half_33 (by decide) (fun c7 => ?_) (fun c7 => ?_)
      · have m21 := h_if_f c7 m20
        clear m20
        refine r_aload_n hw dX8_half_40 0 rfl ?_
        refine r_iload_n hw dX8_half_41 1 rfl ?_
        refine r_aload_n hw dX8_half_42 0 rfl ?_
        refine r_iload_n hw dX8_half_43 1 rfl ?_
        refine r_bipush (v := 33) hw dX8_half_44 rfl ?_
        obtain ⟨l8, g8, m22⟩ := h_bd m21
        clear m21
        refine r_callV1 hw (tX8_get l G b0 g8) lB_X8_get lI_X8_get mL_X8_103 (c := 8) rfl h1 rfl (Nat.le_of_ble_eq_true rfl) (Nat.le_of_ble_eq_true rfl) rfl (Nat.le_of_ble_eq_true rfl) dX8_half_46 ?_
        refine r_lneg hw dX8_half_49 ?_
        refine r_iload_n hw dX8_half_50 2 rfl ?_
        refine r_i2l hw dX8_half_51 ?_
        refine r_aload_n hw dX8_half_52 0 rfl ?_
        refine r_iload_n hw dX8_half_53 1 rfl ?_
        refine r_bipush (v := 34) hw dX8_half_54 rfl ?_
        obtain ⟨l9, g9, m23⟩ := h_bd m22
        clear m22
        refine r_callV1 hw (tX8_get l G b0 g9) lB_X8_get lI_X8_get mL_X8_103 (c := 8) rfl h1 rfl (Nat.le_of_ble_eq_true rfl) (Nat.le_of_ble_eq_true rfl) rfl (Nat.le_of_ble_eq_true rfl) dX8_half_56 ?_
        refine r_lsub hw dX8_half_59 ?_
        refine r_iload_n hw dX8_half_60 3 rfl ?_
        refine r_i2l hw dX8_half_61 ?_
        refine r_aload_n hw dX8_half_62 0 rfl ?_
        refine r_iload_n hw dX8_half_63 1 rfl ?_
        refine r_bipush (v := 35) hw dX8_half_64 rfl ?_
        obtain ⟨l10, g10, m24⟩ := h_bd m23
        clear m23
        refine r_callV1 hw (tX8_get l G b0 g10) lB_X8_get lI_X8_get mL_X8_103 (c := 8) rfl h1 rfl (Nat.le_of_ble_eq_true rfl) (Nat.le_of_ble_eq_true rfl) rfl (Nat.le_of_ble_eq_true rfl) dX8_half_66 ?_
        refine r_lsub hw dX8_half_69 ?_
        obtain ⟨l11, M12, g12, m25⟩ := h_bd2 m24
        clear m24
        refine r_callV1 hw (tX8_moved l G b0 g12) lB_X8_moved lI_X8_moved mL_X8_237 (c := 8) rfl h1 rfl (Nat.le_of_ble_eq_true rfl) (Nat.le_of_ble_eq_true rfl) rfl (Nat.le_of_ble_eq_true rfl) dX8_half_70 ?_
        cases h_ret m25
        exact r_lreturn hw rfl rfl dX8_half_73
      · have m26 := h_if_t c7 m20
        clear m20
        refine r_ldc2 (v := (-9000000000000000001)) hw dX8_half_36 kW_X8_160 ?_
        cases h_ret m26
        exact r_lreturn hw rfl rfl dX8_half_39
theorem dX8_commonSide_0 : decode cX8_commonSide 0 = .ok (.iconst 0, 1) := by decide +kernel
theorem dX8_commonSide_1 : decode cX8_commonSide 1 = .ok (.istore_n 1, 1) := by decide +kernel
theorem dX8_commonSide_2 : decode cX8_commonSide 2 = .ok (.iload_n 1, 1) := by decide +kernel
theorem dX8_commonSide_3 : decode cX8_commonSide 3 = .ok (.aload_n 0, 1) := by decide +kernel
theorem dX8_commonSide_4 : decode cX8_commonSide 4 = .ok (.getfield 146, 3) := by decide +kernel
theorem dX8_commonSide_7 : decode cX8_commonSide 7 = .ok (.if_icmp .ge 112, 3) := by decide +kernel
theorem dX8_commonSide_10 : decode cX8_commonSide 10 = .ok (.iload_n 1, 1) := by decide +kernel
theorem dX8_commonSide_11 : decode cX8_commonSide 11 = .ok (.iconst 1, 1) := by decide +kernel
theorem dX8_commonSide_12 : decode cX8_commonSide 12 = .ok (.iadd, 1) := by decide +kernel
theorem dX8_commonSide_13 : decode cX8_commonSide 13 = .ok (.aload_n 0, 1) := by decide +kernel
theorem dX8_commonSide_14 : decode cX8_commonSide 14 = .ok (.getfield 146, 3) := by decide +kernel
theorem dX8_commonSide_17 : decode cX8_commonSide 17 = .ok (.irem, 1) := by decide +kernel
theorem dX8_commonSide_18 : decode cX8_commonSide 18 = .ok (.istore_n 2, 1) := by decide +kernel
theorem dX8_commonSide_19 : decode cX8_commonSide 19 = .ok (.iconst 0, 1) := by decide +kernel
theorem dX8_commonSide_20 : decode cX8_commonSide 20 = .ok (.istore_n 3, 1) := by decide +kernel
theorem dX8_commonSide_21 : decode cX8_commonSide 21 = .ok (.iload_n 3, 1) := by decide +kernel
theorem dX8_commonSide_22 : decode cX8_commonSide 22 = .ok (.aload_n 0, 1) := by decide +kernel
theorem dX8_commonSide_23 : decode cX8_commonSide 23 = .ok (.getfield 153, 3) := by decide +kernel
theorem dX8_commonSide_26 : decode cX8_commonSide 26 = .ok (.if_icmp .ge 87, 3) := by decide +kernel
theorem dX8_commonSide_29 : decode cX8_commonSide 29 = .ok (.iload_n 3, 1) := by decide +kernel
theorem dX8_commonSide_30 : decode cX8_commonSide 30 = .ok (.iconst 1, 1) := by decide +kernel
theorem dX8_commonSide_31 : decode cX8_commonSide 31 = .ok (.iadd, 1) := by decide +kernel
theorem dX8_commonSide_32 : decode cX8_commonSide 32 = .ok (.aload_n 0, 1) := by decide +kernel
theorem dX8_commonSide_33 : decode cX8_commonSide 33 = .ok (.getfield 153, 3) := by decide +kernel
theorem dX8_commonSide_36 : decode cX8_commonSide 36 = .ok (.irem, 1) := by decide +kernel
theorem dX8_commonSide_37 : decode cX8_commonSide 37 = .ok (.istore 4, 2) := by decide +kernel
theorem dX8_commonSide_39 : decode cX8_commonSide 39 = .ok (.aload_n 0, 1) := by decide +kernel
theorem dX8_commonSide_40 : decode cX8_commonSide 40 = .ok (.getfield 42, 3) := by decide +kernel
theorem dX8_commonSide_43 : decode cX8_commonSide 43 = .ok (.iload_n 1, 1) := by decide +kernel
theorem dX8_commonSide_44 : decode cX8_commonSide 44 = .ok (.laload, 1) := by decide +kernel
theorem dX8_commonSide_45 : decode cX8_commonSide 45 = .ok (.aload_n 0, 1) := by decide +kernel
theorem dX8_commonSide_46 : decode cX8_commonSide 46 = .ok (.getfield 48, 3) := by decide +kernel
theorem dX8_commonSide_49 : decode cX8_commonSide 49 = .ok (.iload 4, 2) := by decide +kernel
theorem dX8_commonSide_51 : decode cX8_commonSide 51 = .ok (.laload, 1) := by decide +kernel
theorem dX8_commonSide_52 : decode cX8_commonSide 52 = .ok (.lcmp, 1) := by decide +kernel
theorem dX8_commonSide_53 : decode cX8_commonSide 53 = .ok (.ifCond .ne 54, 3) := by decide +kernel
theorem dX8_commonSide_56 : decode cX8_commonSide 56 = .ok (.aload_n 0, 1) := by decide +kernel
theorem dX8_commonSide_57 : decode cX8_commonSide 57 = .ok (.getfield 45, 3) := by decide +kernel
theorem dX8_commonSide_60 : decode cX8_commonSide 60 = .ok (.iload_n 1, 1) := by decide +kernel
theorem dX8_commonSide_61 : decode cX8_commonSide 61 = .ok (.laload, 1) := by decide +kernel
theorem dX8_commonSide_62 : decode cX8_commonSide 62 = .ok (.aload_n 0, 1) := by decide +kernel
theorem dX8_commonSide_63 : decode cX8_commonSide 63 = .ok (.getfield 51, 3) := by decide +kernel
theorem dX8_commonSide_66 : decode cX8_commonSide 66 = .ok (.iload 4, 2) := by decide +kernel
theorem dX8_commonSide_68 : decode cX8_commonSide 68 = .ok (.laload, 1) := by decide +kernel
theorem dX8_commonSide_69 : decode cX8_commonSide 69 = .ok (.lcmp, 1) := by decide +kernel
theorem dX8_commonSide_70 : decode cX8_commonSide 70 = .ok (.ifCond .ne 37, 3) := by decide +kernel
theorem dX8_commonSide_73 : decode cX8_commonSide 73 = .ok (.aload_n 0, 1) := by decide +kernel
theorem dX8_commonSide_74 : decode cX8_commonSide 74 = .ok (.getfield 42, 3) := by decide +kernel
theorem dX8_commonSide_77 : decode cX8_commonSide 77 = .ok (.iload_n 2, 1) := by decide +kernel
theorem dX8_commonSide_78 : decode cX8_commonSide 78 = .ok (.laload, 1) := by decide +kernel
theorem dX8_commonSide_79 : decode cX8_commonSide 79 = .ok (.aload_n 0, 1) := by decide +kernel
theorem dX8_commonSide_80 : decode cX8_commonSide 80 = .ok (.getfield 48, 3) := by decide +kernel
theorem dX8_commonSide_83 : decode cX8_commonSide 83 = .ok (.iload_n 3, 1) := by decide +kernel
theorem dX8_commonSide_84 : decode cX8_commonSide 84 = .ok (.laload, 1) := by decide +kernel
theorem dX8_commonSide_85 : decode cX8_commonSide 85 = .ok (.lcmp, 1) := by decide +kernel
theorem dX8_commonSide_86 : decode cX8_commonSide 86 = .ok (.ifCond .ne 21, 3) := by decide +kernel
theorem dX8_commonSide_89 : decode cX8_commonSide 89 = .ok (.aload_n 0, 1) := by decide +kernel
theorem dX8_commonSide_90 : decode cX8_commonSide 90 = .ok (.getfield 45, 3) := by decide +kernel
theorem dX8_commonSide_93 : decode cX8_commonSide 93 = .ok (.iload_n 2, 1) := by decide +kernel
theorem dX8_commonSide_94 : decode cX8_commonSide 94 = .ok (.laload, 1) := by decide +kernel
theorem dX8_commonSide_95 : decode cX8_commonSide 95 = .ok (.aload_n 0, 1) := by decide +kernel
theorem dX8_commonSide_96 : decode cX8_commonSide 96 = .ok (.getfield 51, 3) := by decide +kernel
theorem dX8_commonSide_99 : decode cX8_commonSide 99 = .ok (.iload_n 3, 1) := by decide +kernel
theorem dX8_commonSide_100 : decode cX8_commonSide 100 = .ok (.laload, 1) := by decide +kernel
theorem dX8_commonSide_101 : decode cX8_commonSide 101 = .ok (.lcmp, 1) := by decide +kernel
theorem dX8_commonSide_102 : decode cX8_commonSide 102 = .ok (.ifCond .ne 5, 3) := by decide +kernel
theorem dX8_commonSide_105 : decode cX8_commonSide 105 = .ok (.iload_n 1, 1) := by decide +kernel
theorem dX8_commonSide_106 : decode cX8_commonSide 106 = .ok (.ireturn, 1) := by decide +kernel
theorem dX8_commonSide_107 : decode cX8_commonSide 107 = .ok (.iinc 3 1, 3) := by decide +kernel
theorem dX8_commonSide_110 : decode cX8_commonSide 110 = .ok (.goto (-89), 3) := by decide +kernel
theorem dX8_commonSide_113 : decode cX8_commonSide 113 = .ok (.iinc 1 1, 3) := by decide +kernel
theorem dX8_commonSide_116 : decode cX8_commonSide 116 = .ok (.goto (-114), 3) := by decide +kernel
theorem dX8_commonSide_119 : decode cX8_commonSide 119 = .ok (.iconst (-1), 1) := by decide +kernel
theorem dX8_commonSide_120 : decode cX8_commonSide 120 = .ok (.ireturn, 1) := by decide +kernel
set_option maxHeartbeats 4000000 in
set_option maxRecDepth 100000 in
theorem tX8_commonSide (l : Launch) (G : Gg) (b0 : Nat) {K : Kk} {R : Rr} {M : Mm} {r : Nat} {res : Int32} (hm : mX8_commonSide K R M r = some (res)) : CT l G b0 yX8_commonSide cX8_commonSide 5 (some .int) (rmz 1 0) [.ref r] K R M (some (.int res)) K R M := by
  refine ct_of (by decide +kernel) (Nat.le_of_ble_eq_true rfl) (fun w hw => ?_)
  change w 0 0 0 [(0, .ref r)] [] K R M
  replace hm := h_start hm
  unfold mX8_commonSide at hm
  obtain ⟨h1, m31⟩ := h_ck hm
  clear hm
  refine r_iconst (v := 0) hw dX8_commonSide_0 rfl ?_
  obtain ⟨i2, ei2, m32⟩ := h_nm m31
  clear m31
  refine r_topI (w := w) ei2 ?_
  refine r_istore_n hw dX8_commonSide_1 rfl (by decide) rfl ?_
  refine r_sub hw [1, 0] rfl ?_
  obtain ⟨v2, n02, hn2, hv2⟩ := h_lp m32
  clear m32
  have L2 : ∀ n : Nat, ∀ (i3 : Int32), it (mX8_commonSide_L2 K R M r) n (i3) = some v2 → w 0 0 2 [(0, .ref r), (1, .int i3)] [] K R M := by
    intro n2
    induction n2 with
    | zero => intro i3 hz; exact absurd hz h_it0
    | succ n2 ih2 =>
      intro i3 m33
      replace m33 : (mX8_commonSide_B2 K R M r i3).bind (Sum.elim (it (mX8_commonSide_L2 K R M r) n2) some) = some v2 := m33
      unfold mX8_commonSide_B2 at m33
      refine r_iload_n hw dX8_commonSide_2 1 rfl ?_
      refine r_aload_n hw dX8_commonSide_3 0 rfl ?_
      refine r_getI hw fO_X8_146 h1 dX8_commonSide_4 ?_
      refine r_icmp_ge (tgt := 119) hw dX8_commonSide_7 (by decide) (fun c4 => ?_) (fun c4 => ?_)
      · have m34 := h_if_f c4 m33
        clear m33
        have m35 := h_ex m34 hv2
        clear m34
        refine r_iconst (v := (-1)) hw dX8_commonSide_119 rfl ?_
        cases h_ret m35
        exact r_ireturn hw rfl rfl dX8_commonSide_120
      · have m36 := h_if_t c4 m33
        clear m33
        refine r_iload_n hw dX8_commonSide_10 1 rfl ?_
        refine r_iconst (v := 1) hw dX8_commonSide_11 rfl ?_
        refine r_iadd hw dX8_commonSide_12 ?_
        refine r_aload_n hw dX8_commonSide_13 0 rfl ?_
        refine r_getI hw fO_X8_146 h1 dX8_commonSide_14 ?_
        obtain ⟨h5, m37⟩ := h_ck m36
        clear m36
        refine r_irem hw dX8_commonSide_17 h5 ?_
        obtain ⟨i6, ei6, m38⟩ := h_nm m37
        clear m37
        refine r_topI (w := w) ei6 ?_
        refine r_istore_n hw dX8_commonSide_18 rfl (by decide) rfl ?_
        refine r_iconst (v := 0) hw dX8_commonSide_19 rfl ?_
        obtain ⟨i7, ei7, m39⟩ := h_nm m38
        clear m38
        refine r_topI (w := w) ei7 ?_
        refine r_istore_n hw dX8_commonSide_20 rfl (by decide) rfl ?_
        refine r_sub hw [2, 3, 1, 0] rfl ?_
        obtain ⟨v21, n021, hn21, hv21⟩ := h_lp m39
        clear m39
        have L21 : ∀ n : Nat, ∀ (i8 : Int32), it (mX8_commonSide_L21 K R M r i3 i6) n (i8) = some v21 → w 0 0 21 [(0, .ref r), (1, .int i3), (2, .int i6), (3, .int i8)] [] K R M := by
          intro n21
          induction n21 with
          | zero => intro i8 hz; exact absurd hz h_it0
          | succ n21 ih21 =>
            intro i8 m40
            replace m40 : (mX8_commonSide_B21 K R M r i3 i6 i8).bind (Sum.elim (it (mX8_commonSide_L21 K R M r i3 i6) n21) some) = some v21 := m40
            unfold mX8_commonSide_B21 at m40
            have J107 : ∀ (i9 : Int32), (mX8_commonSide_J107 K R M r i3 i6 i9).bind (Sum.elim (it (mX8_commonSide_L21 K R M r i3 i6) n21) some) = some v21 → w 0 0 107 [(0, .ref r), (1, .int i3), (2, .int i6), (3, .int i9)] [] K R M := by
              intro i9 m41
              unfold mX8_commonSide_J107 at m41
              obtain ⟨i10, ei10, m42⟩ := h_nm m41
              clear m41
              refine r_iinc (j := 3) (v := i10) hw dX8_commonSide_107 rfl (by rw [ei10]; rfl) (by decide) rfl ?_
              refine r_goto (tgt := 21) hw dX8_commonSide_110 (by decide) ?_
              refine r_sub hw [1, 2, 3, 0] rfl ?_
              exact ih21 _ m42
            refine r_iload_n hw dX8_commonSide_21 3 rfl ?_
            refine r_aload_n hw dX8_commonSide_22 0 rfl ?_
            refine r_getI hw fO_X8_153 h1 dX8_commonSide_23 ?_
            refine r_icmp_ge (tgt := 113) hw dX8_commonSide_26 (by decide) (fun c11 => ?_) (fun c11 => ?_)
            · have m43 := h_if_f c11 m40
              clear m40
              have m44 := h_ex m43 hv21
              clear m43
              obtain ⟨i12, ei12, m45⟩ := h_nm m44
              clear m44
              refine r_iinc (j := 1) (v := i12) hw dX8_commonSide_113 rfl (by rw [ei12]; rfl) (by decide) rfl ?_
              refine r_goto (tgt := 2) hw dX8_commonSide_116 (by decide) ?_
              refine r_sub hw [1, 0] rfl ?_
              exact ih2 _ m45
            · have m46 := h_if_t c11 m40
              clear m40
              refine r_iload_n hw dX8_commonSide_29 3 rfl ?_
              refine r_iconst (v := 1) hw dX8_commonSide_30 rfl ?_
              refine r_iadd hw dX8_commonSide_31 ?_
              refine r_aload_n hw dX8_commonSide_32 0 rfl ?_
              refine r_getI hw fO_X8_153 h1 dX8_commonSide_33 ?_
              obtain ⟨h13, m47⟩ := h_ck m46
              clear m46
              refine r_irem hw dX8_commonSide_36 h13 ?_
              obtain ⟨i14, ei14, m48⟩ := h_nm m47
              clear m47
              refine r_topI (w := w) ei14 ?_
              refine r_istore hw dX8_commonSide_37 (by decide) rfl ?_
              refine r_aload_n hw dX8_commonSide_39 1 rfl ?_
              obtain ⟨q15, bq15, m49⟩ := h_bd m48
              clear m48
              refine r_getR hw fO_X8_42 h1 bq15 dX8_commonSide_40 ?_
              refine r_iload_n hw dX8_commonSide_43 2 rfl ?_
              obtain ⟨h16, m50⟩ := h_ck m49
              clear m49
              refine r_laload hw h16 dX8_commonSide_44 ?_
              refine r_aload_n hw dX8_commonSide_45 1 rfl ?_
              obtain ⟨q17, bq17, m51⟩ := h_bd m50
              clear m50
              refine r_getR hw fO_X8_48 h1 bq17 dX8_commonSide_46 ?_
              refine r_iload hw dX8_commonSide_49 0 rfl ?_
              obtain ⟨h18, m52⟩ := h_ck m51
              clear m51
              refine r_laload hw h18 dX8_commonSide_51 ?_
              refine r_lcmp_ne (tgt := 107) hw dX8_commonSide_52 dX8_commonSide_53 (by decide) (fun c19 => ?_) (fun c19 => ?_)
              · have m53 := h_if_f c19 m52
                clear m52
                refine r_sub hw [1, 2, 3, 4] rfl ?_
                exact J107 _ m53
              · have m54 := h_if_t c19 m52
                clear m52
                refine r_aload_n hw dX8_commonSide_56 1 rfl ?_
                obtain ⟨q20, bq20, m55⟩ := h_bd m54
                clear m54
                refine r_getR hw fO_X8_45 h1 bq20 dX8_commonSide_57 ?_
                refine r_iload_n hw dX8_commonSide_60 2 rfl ?_
                obtain ⟨h21, m56⟩ := h_ck m55
                clear m55
                refine r_laload hw h21 dX8_commonSide_61 ?_
                refine r_aload_n hw dX8_commonSide_62 1 rfl ?_
                obtain ⟨q22, bq22, m57⟩ := h_bd m56
                clear m56
                refine r_getR hw fO_X8_51 h1 bq22 dX8_commonSide_63 ?_
                refine r_iload hw dX8_commonSide_66 0 rfl ?_
                obtain ⟨h23, m58⟩ := h_ck m57
                clear m57
                refine r_laload hw h23 dX8_commonSide_68 ?_
                refine r_lcmp_ne (tgt := 107) hw dX8_commonSide_69 dX8_commonSide_70 (by decide) (fun c24 => ?_) (fun c24 => ?_)
                · have m59 := h_if_f c24 m58
                  clear m58
                  refine r_sub hw [1, 2, 3, 4] rfl ?_
                  exact J107 _ m59
                · have m60 := h_if_t c24 m58
                  clear m58
                  refine r_aload_n hw dX8_commonSide_73 1 rfl ?_
                  refine r_getR hw fO_X8_42 h1 bq15 dX8_commonSide_74 ?_
                  refine r_iload_n hw dX8_commonSide_77 3 rfl ?_
                  obtain ⟨h25, m61⟩ := h_ck m60
                  clear m60
                  refine r_laload hw h25 dX8_commonSide_78 ?_
                  refine r_aload_n hw dX8_commonSide_79 1 rfl ?_
                  refine r_getR hw fO_X8_48 h1 bq17 dX8_commonSide_80 ?_
                  refine r_iload_n hw dX8_commonSide_83 4 rfl ?_
                  obtain ⟨h26, m62⟩ := h_ck m61
                  clear m61
                  refine r_laload hw h26 dX8_commonSide_84 ?_
                  refine r_lcmp_ne (tgt := 107) hw dX8_commonSide_85 dX8_commonSide_86 (by decide) (fun c27 => ?_) (fun c27 => ?_)
                  · have m63 := h_if_f c27 m62
                    clear m62
                    refine r_sub hw [1, 2, 3, 4] rfl ?_
                    exact J107 _ m63
                  · have m64 := h_if_t c27 m62
                    clear m62
                    refine r_aload_n hw dX8_commonSide_89 1 rfl ?_
                    refine r_getR hw fO_X8_45 h1 bq20 dX8_commonSide_90 ?_
                    refine r_iload_n hw dX8_commonSide_93 3 rfl ?_
                    obtain ⟨h28, m65⟩ := h_ck m64
                    clear m64
                    refine r_laload hw h28 dX8_commonSide_94 ?_
                    refine r_aload_n hw dX8_commonSide_95 1 rfl ?_
                    refine r_getR hw fO_X8_51 h1 bq22 dX8_commonSide_96 ?_
                    refine r_iload_n hw dX8_commonSide_99 4 rfl ?_
                    obtain ⟨h29, m66⟩ := h_ck m65
                    clear m65
                    refine r_laload hw h29 dX8_commonSide_100 ?_
                    refine r_lcmp_ne (tgt := 107) hw dX8_commonSide_101 dX8_commonSide_102 (by decide) (fun c30 => ?_) (fun c30 => ?_)
                    · have m67 := h_if_f c30 m66
                      clear m66
                      refine r_sub hw [1, 2, 3, 4] rfl ?_
                      exact J107 _ m67
                    · have m68 := h_if_t c30 m66
                      clear m66
                      have m69 := h_ex m68 hv21
                      clear m68
                      have m70 := h_ex m69 hv2
                      clear m69
                      refine r_iload_n hw dX8_commonSide_105 2 rfl ?_
                      cases h_ret m70
                      exact r_ireturn hw rfl rfl dX8_commonSide_106
        exact L21 n021 _ hn21
  exact L2 n02 _ hn2
theorem dX8_together_0 : decode cX8_together 0 = .ok (.aload_n 0, 1) := by decide +kernel
theorem dX8_together_1 : decode cX8_together 1 = .ok (.iconst 0, 1) := by decide +kernel
theorem dX8_together_2 : decode cX8_together 2 = .ok (.putfield 241, 3) := by decide +kernel
theorem dX8_together_5 : decode cX8_together 5 = .ok (.iconst 1, 1) := by decide +kernel
theorem dX8_together_6 : decode cX8_together 6 = .ok (.istore_n 2, 1) := by decide +kernel
theorem dX8_together_7 : decode cX8_together 7 = .ok (.iload_n 2, 1) := by decide +kernel
theorem dX8_together_8 : decode cX8_together 8 = .ok (.aload_n 0, 1) := by decide +kernel
theorem dX8_together_9 : decode cX8_together 9 = .ok (.getfield 146, 3) := by decide +kernel
theorem dX8_together_12 : decode cX8_together 12 = .ok (.if_icmp .gt 63, 3) := by decide +kernel
theorem dX8_together_15 : decode cX8_together 15 = .ok (.aload_n 0, 1) := by decide +kernel
theorem dX8_together_16 : decode cX8_together 16 = .ok (.getfield 66, 3) := by decide +kernel
theorem dX8_together_19 : decode cX8_together 19 = .ok (.aload_n 0, 1) := by decide +kernel
theorem dX8_together_20 : decode cX8_together 20 = .ok (.getfield 241, 3) := by decide +kernel
theorem dX8_together_23 : decode cX8_together 23 = .ok (.aload_n 0, 1) := by decide +kernel
theorem dX8_together_24 : decode cX8_together 24 = .ok (.getfield 42, 3) := by decide +kernel
theorem dX8_together_27 : decode cX8_together 27 = .ok (.iload_n 1, 1) := by decide +kernel
theorem dX8_together_28 : decode cX8_together 28 = .ok (.iload_n 2, 1) := by decide +kernel
theorem dX8_together_29 : decode cX8_together 29 = .ok (.iadd, 1) := by decide +kernel
theorem dX8_together_30 : decode cX8_together 30 = .ok (.aload_n 0, 1) := by decide +kernel
theorem dX8_together_31 : decode cX8_together 31 = .ok (.getfield 146, 3) := by decide +kernel
theorem dX8_together_34 : decode cX8_together 34 = .ok (.irem, 1) := by decide +kernel
theorem dX8_together_35 : decode cX8_together 35 = .ok (.laload, 1) := by decide +kernel
theorem dX8_together_36 : decode cX8_together 36 = .ok (.lastore, 1) := by decide +kernel
theorem dX8_together_37 : decode cX8_together 37 = .ok (.aload_n 0, 1) := by decide +kernel
theorem dX8_together_38 : decode cX8_together 38 = .ok (.getfield 69, 3) := by decide +kernel
theorem dX8_together_41 : decode cX8_together 41 = .ok (.aload_n 0, 1) := by decide +kernel
theorem dX8_together_42 : decode cX8_together 42 = .ok (.getfield 241, 3) := by decide +kernel
theorem dX8_together_45 : decode cX8_together 45 = .ok (.aload_n 0, 1) := by decide +kernel
theorem dX8_together_46 : decode cX8_together 46 = .ok (.getfield 45, 3) := by decide +kernel
theorem dX8_together_49 : decode cX8_together 49 = .ok (.iload_n 1, 1) := by decide +kernel
theorem dX8_together_50 : decode cX8_together 50 = .ok (.iload_n 2, 1) := by decide +kernel
theorem dX8_together_51 : decode cX8_together 51 = .ok (.iadd, 1) := by decide +kernel
theorem dX8_together_52 : decode cX8_together 52 = .ok (.aload_n 0, 1) := by decide +kernel
theorem dX8_together_53 : decode cX8_together 53 = .ok (.getfield 146, 3) := by decide +kernel
theorem dX8_together_56 : decode cX8_together 56 = .ok (.irem, 1) := by decide +kernel
theorem dX8_together_57 : decode cX8_together 57 = .ok (.laload, 1) := by decide +kernel
theorem dX8_together_58 : decode cX8_together 58 = .ok (.lastore, 1) := by decide +kernel
theorem dX8_together_59 : decode cX8_together 59 = .ok (.aload_n 0, 1) := by decide +kernel
theorem dX8_together_60 : decode cX8_together 60 = .ok (.dup, 1) := by decide +kernel
theorem dX8_together_61 : decode cX8_together 61 = .ok (.getfield 241, 3) := by decide +kernel
theorem dX8_together_64 : decode cX8_together 64 = .ok (.iconst 1, 1) := by decide +kernel
theorem dX8_together_65 : decode cX8_together 65 = .ok (.iadd, 1) := by decide +kernel
theorem dX8_together_66 : decode cX8_together 66 = .ok (.putfield 241, 3) := by decide +kernel
theorem dX8_together_69 : decode cX8_together 69 = .ok (.iinc 2 1, 3) := by decide +kernel
theorem dX8_together_72 : decode cX8_together 72 = .ok (.goto (-65), 3) := by decide +kernel
theorem dX8_together_75 : decode cX8_together 75 = .ok (.iconst 0, 1) := by decide +kernel
theorem dX8_together_76 : decode cX8_together 76 = .ok (.istore_n 2, 1) := by decide +kernel
theorem dX8_together_77 : decode cX8_together 77 = .ok (.aload_n 0, 1) := by decide +kernel
theorem dX8_together_78 : decode cX8_together 78 = .ok (.getfield 48, 3) := by decide +kernel
theorem dX8_together_81 : decode cX8_together 81 = .ok (.iload_n 2, 1) := by decide +kernel
theorem dX8_together_82 : decode cX8_together 82 = .ok (.laload, 1) := by decide +kernel
theorem dX8_together_83 : decode cX8_together 83 = .ok (.aload_n 0, 1) := by decide +kernel
theorem dX8_together_84 : decode cX8_together 84 = .ok (.getfield 42, 3) := by decide +kernel
theorem dX8_together_87 : decode cX8_together 87 = .ok (.iload_n 1, 1) := by decide +kernel
theorem dX8_together_88 : decode cX8_together 88 = .ok (.laload, 1) := by decide +kernel
theorem dX8_together_89 : decode cX8_together 89 = .ok (.lcmp, 1) := by decide +kernel
theorem dX8_together_90 : decode cX8_together 90 = .ok (.ifCond .ne 19, 3) := by decide +kernel
theorem dX8_together_93 : decode cX8_together 93 = .ok (.aload_n 0, 1) := by decide +kernel
theorem dX8_together_94 : decode cX8_together 94 = .ok (.getfield 51, 3) := by decide +kernel
theorem dX8_together_97 : decode cX8_together 97 = .ok (.iload_n 2, 1) := by decide +kernel
theorem dX8_together_98 : decode cX8_together 98 = .ok (.laload, 1) := by decide +kernel
theorem dX8_together_99 : decode cX8_together 99 = .ok (.aload_n 0, 1) := by decide +kernel
theorem dX8_together_100 : decode cX8_together 100 = .ok (.getfield 45, 3) := by decide +kernel
theorem dX8_together_103 : decode cX8_together 103 = .ok (.iload_n 1, 1) := by decide +kernel
theorem dX8_together_104 : decode cX8_together 104 = .ok (.laload, 1) := by decide +kernel
theorem dX8_together_105 : decode cX8_together 105 = .ok (.lcmp, 1) := by decide +kernel
theorem dX8_together_106 : decode cX8_together 106 = .ok (.ifCond .eq 9, 3) := by decide +kernel
theorem dX8_together_109 : decode cX8_together 109 = .ok (.iinc 2 1, 3) := by decide +kernel
theorem dX8_together_112 : decode cX8_together 112 = .ok (.goto (-35), 3) := by decide +kernel
theorem dX8_together_115 : decode cX8_together 115 = .ok (.iconst 1, 1) := by decide +kernel
theorem dX8_together_116 : decode cX8_together 116 = .ok (.istore_n 3, 1) := by decide +kernel
theorem dX8_together_117 : decode cX8_together 117 = .ok (.iload_n 3, 1) := by decide +kernel
theorem dX8_together_118 : decode cX8_together 118 = .ok (.aload_n 0, 1) := by decide +kernel
theorem dX8_together_119 : decode cX8_together 119 = .ok (.getfield 153, 3) := by decide +kernel
theorem dX8_together_122 : decode cX8_together 122 = .ok (.iconst 1, 1) := by decide +kernel
theorem dX8_together_123 : decode cX8_together 123 = .ok (.isub, 1) := by decide +kernel
theorem dX8_together_124 : decode cX8_together 124 = .ok (.if_icmp .ge 63, 3) := by decide +kernel
theorem dX8_together_127 : decode cX8_together 127 = .ok (.aload_n 0, 1) := by decide +kernel
theorem dX8_together_128 : decode cX8_together 128 = .ok (.getfield 66, 3) := by decide +kernel
theorem dX8_together_131 : decode cX8_together 131 = .ok (.aload_n 0, 1) := by decide +kernel
theorem dX8_together_132 : decode cX8_together 132 = .ok (.getfield 241, 3) := by decide +kernel
theorem dX8_together_135 : decode cX8_together 135 = .ok (.aload_n 0, 1) := by decide +kernel
theorem dX8_together_136 : decode cX8_together 136 = .ok (.getfield 48, 3) := by decide +kernel
theorem dX8_together_139 : decode cX8_together 139 = .ok (.iload_n 2, 1) := by decide +kernel
theorem dX8_together_140 : decode cX8_together 140 = .ok (.iload_n 3, 1) := by decide +kernel
theorem dX8_together_141 : decode cX8_together 141 = .ok (.iadd, 1) := by decide +kernel
theorem dX8_together_142 : decode cX8_together 142 = .ok (.aload_n 0, 1) := by decide +kernel
theorem dX8_together_143 : decode cX8_together 143 = .ok (.getfield 153, 3) := by decide +kernel
theorem dX8_together_146 : decode cX8_together 146 = .ok (.irem, 1) := by decide +kernel
theorem dX8_together_147 : decode cX8_together 147 = .ok (.laload, 1) := by decide +kernel
theorem dX8_together_148 : decode cX8_together 148 = .ok (.lastore, 1) := by decide +kernel
theorem dX8_together_149 : decode cX8_together 149 = .ok (.aload_n 0, 1) := by decide +kernel
theorem dX8_together_150 : decode cX8_together 150 = .ok (.getfield 69, 3) := by decide +kernel
theorem dX8_together_153 : decode cX8_together 153 = .ok (.aload_n 0, 1) := by decide +kernel
theorem dX8_together_154 : decode cX8_together 154 = .ok (.getfield 241, 3) := by decide +kernel
theorem dX8_together_157 : decode cX8_together 157 = .ok (.aload_n 0, 1) := by decide +kernel
theorem dX8_together_158 : decode cX8_together 158 = .ok (.getfield 51, 3) := by decide +kernel
theorem dX8_together_161 : decode cX8_together 161 = .ok (.iload_n 2, 1) := by decide +kernel
theorem dX8_together_162 : decode cX8_together 162 = .ok (.iload_n 3, 1) := by decide +kernel
theorem dX8_together_163 : decode cX8_together 163 = .ok (.iadd, 1) := by decide +kernel
theorem dX8_together_164 : decode cX8_together 164 = .ok (.aload_n 0, 1) := by decide +kernel
theorem dX8_together_165 : decode cX8_together 165 = .ok (.getfield 153, 3) := by decide +kernel
theorem dX8_together_168 : decode cX8_together 168 = .ok (.irem, 1) := by decide +kernel
theorem dX8_together_169 : decode cX8_together 169 = .ok (.laload, 1) := by decide +kernel
theorem dX8_together_170 : decode cX8_together 170 = .ok (.lastore, 1) := by decide +kernel
theorem dX8_together_171 : decode cX8_together 171 = .ok (.aload_n 0, 1) := by decide +kernel
theorem dX8_together_172 : decode cX8_together 172 = .ok (.dup, 1) := by decide +kernel
theorem dX8_together_173 : decode cX8_together 173 = .ok (.getfield 241, 3) := by decide +kernel
theorem dX8_together_176 : decode cX8_together 176 = .ok (.iconst 1, 1) := by decide +kernel
theorem dX8_together_177 : decode cX8_together 177 = .ok (.iadd, 1) := by decide +kernel
theorem dX8_together_178 : decode cX8_together 178 = .ok (.putfield 241, 3) := by decide +kernel
theorem dX8_together_181 : decode cX8_together 181 = .ok (.iinc 3 1, 3) := by decide +kernel
theorem dX8_together_184 : decode cX8_together 184 = .ok (.goto (-67), 3) := by decide +kernel
theorem dX8_together_187 : decode cX8_together 187 = .ok (.return_, 1) := by decide +kernel
set_option maxHeartbeats 4000000 in
set_option maxRecDepth 100000 in
theorem tX8_together (l : Launch) (G : Gg) (b0 : Nat) {K : Kk} {R : Rr} {M : Mm} {r : Nat} {a0 : Int32} {M' : Mm} (hm : mX8_together K R M r a0 = some (M')) : CT l G b0 yX8_together cX8_together 4 none (rmz 1 0) [.ref r, .int a0] K R M none K R M' := by
  refine ct_of (by decide +kernel) (Nat.le_of_ble_eq_true rfl) (fun w hw => ?_)
  change w 0 0 0 [(0, .ref r), (1, .int a0)] [] K R M
  replace hm := h_start hm
  unfold mX8_together at hm
  obtain ⟨h1, m53⟩ := h_ck hm
  clear hm
  refine r_aload_n hw dX8_together_0 0 rfl ?_
  refine r_iconst (v := 0) hw dX8_together_1 rfl ?_
  obtain ⟨M2, eM2, m54⟩ := h_nm m53
  clear m53
  refine r_putI hw fP_X8_241 h1 dX8_together_2 (r_mem ?_ rfl eM2)
  refine r_iconst (v := 1) hw dX8_together_5 rfl ?_
  obtain ⟨i3, ei3, m55⟩ := h_nm m54
  clear m54
  refine r_topI (w := w) ei3 ?_
  refine r_istore_n hw dX8_together_6 rfl (by decide) rfl ?_
  refine r_sub hw [1, 2, 0] rfl ?_
  obtain ⟨v7, n07, hn7, hv7⟩ := h_lp m55
  clear m55
  have L7 : ∀ n : Nat, ∀ (i4 : Int32) (M5 : Mm), it (mX8_together_L7 K R r a0) n (i4, M5) = some v7 → w 0 0 7 [(0, .ref r), (1, .int a0), (2, .int i4)] [] K R M5 := by
    intro n7
    induction n7 with
    | zero => intro i4 M5 hz; exact absurd hz h_it0
    | succ n7 ih7 =>
      intro i4 M5 m56
      replace m56 : (mX8_together_B7 K R r a0 i4 M5).bind (Sum.elim (it (mX8_together_L7 K R r a0) n7) some) = some v7 := m56
      unfold mX8_together_B7 at m56
      refine r_iload_n hw dX8_together_7 2 rfl ?_
      refine r_aload_n hw dX8_together_8 0 rfl ?_
      refine r_getI hw fO_X8_146 h1 dX8_together_9 ?_
      refine r_icmp_gt (tgt := 75) hw dX8_together_12 (by decide) (fun c6 => ?_) (fun c6 => ?_)
      · have m57 := h_if_f c6 m56
        clear m56
        have m58 := h_ex m57 hv7
        clear m57
        refine r_iconst (v := 0) hw dX8_together_75 rfl ?_
        obtain ⟨i7, ei7, m59⟩ := h_nm m58
        clear m58
        refine r_topI (w := w) ei7 ?_
        refine r_istore_n hw dX8_together_76 rfl (by decide) rfl ?_
        refine r_sub hw [1, 2, 0] rfl ?_
        obtain ⟨v77, n077, hn77, hv77⟩ := h_lp m59
        clear m59
        have L77 : ∀ n : Nat, ∀ (i8 : Int32), it (mX8_together_L77 K R M5 r a0) n (i8) = some v77 → w 0 0 77 [(0, .ref r), (1, .int a0), (2, .int i8)] [] K R M5 := by
          intro n77
          induction n77 with
          | zero => intro i8 hz; exact absurd hz h_it0
          | succ n77 ih77 =>
            intro i8 m60
            replace m60 : (mX8_together_B77 K R M5 r a0 i8).bind (Sum.elim (it (mX8_together_L77 K R M5 r a0) n77) some) = some v77 := m60
            unfold mX8_together_B77 at m60
            have J109 : ∀ (i9 : Int32), (mX8_together_J109 K R M5 r a0 i9).bind (Sum.elim (it (mX8_together_L77 K R M5 r a0) n77) some) = some v77 → w 0 0 109 [(0, .ref r), (1, .int a0), (2, .int i9)] [] K R M5 := by
              intro i9 m61
              unfold mX8_together_J109 at m61
              obtain ⟨i10, ei10, m62⟩ := h_nm m61
              clear m61
              refine r_iinc (j := 2) (v := i10) hw dX8_together_109 rfl (by rw [ei10]; rfl) (by decide) rfl ?_
              refine r_goto (tgt := 77) hw dX8_together_112 (by decide) ?_
              refine r_sub hw [1, 2, 0] rfl ?_
              exact ih77 _ m62
            refine r_aload_n hw dX8_together_77 0 rfl ?_
            obtain ⟨q11, bq11, m63⟩ := h_bd m60
            clear m60
            refine r_getR hw fO_X8_48 h1 bq11 dX8_together_78 ?_
            refine r_iload_n hw dX8_together_81 2 rfl ?_
            obtain ⟨h12, m64⟩ := h_ck m63
            clear m63
            refine r_laload hw h12 dX8_together_82 ?_
            refine r_aload_n hw dX8_together_83 0 rfl ?_
            obtain ⟨q13, bq13, m65⟩ := h_bd m64
            clear m64
            refine r_getR hw fO_X8_42 h1 bq13 dX8_together_84 ?_
            refine r_iload_n hw dX8_together_87 1 rfl ?_
            obtain ⟨h14, m66⟩ := h_ck m65
            clear m65
            refine r_laload hw h14 dX8_together_88 ?_
            refine r_lcmp_ne (tgt := 109) hw dX8_together_89 dX8_together_90 (by decide) (fun c15 => ?_) (fun c15 => ?_)
            · have m67 := h_if_f c15 m66
              clear m66
              exact J109 _ m67
            · have m68 := h_if_t c15 m66
              clear m66
              refine r_aload_n hw dX8_together_93 0 rfl ?_
              obtain ⟨q16, bq16, m69⟩ := h_bd m68
              clear m68
              refine r_getR hw fO_X8_51 h1 bq16 dX8_together_94 ?_
              refine r_iload_n hw dX8_together_97 2 rfl ?_
              obtain ⟨h17, m70⟩ := h_ck m69
              clear m69
              refine r_laload hw h17 dX8_together_98 ?_
              refine r_aload_n hw dX8_together_99 0 rfl ?_
              obtain ⟨q18, bq18, m71⟩ := h_bd m70
              clear m70
              refine r_getR hw fO_X8_45 h1 bq18 dX8_together_100 ?_
              refine r_iload_n hw dX8_together_103 1 rfl ?_
              obtain ⟨h19, m72⟩ := h_ck m71
              clear m71
              refine r_laload hw h19 dX8_together_104 ?_
              refine r_lcmp_eq (tgt := 115) hw dX8_together_105 dX8_together_106 (by decide) (fun c20 => ?_) (fun c20 => ?_)
              · have m73 := h_if_t c20 m72
                clear m72
                have m74 := h_ex m73 hv77
                clear m73
                refine r_iconst (v := 1) hw dX8_together_115 rfl ?_
                obtain ⟨i21, ei21, m75⟩ := h_nm m74
                clear m74
                refine r_topI (w := w) ei21 ?_
                refine r_istore_n hw dX8_together_116 rfl (by decide) rfl ?_
                refine r_sub hw [1, 3, 0] rfl ?_
                obtain ⟨v117, n0117, hn117, hv117⟩ := h_lp m75
                clear m75
                have L117 : ∀ n : Nat, ∀ (i22 : Int32) (M23 : Mm), it (mX8_together_L117 K R r i8) n (i22, M23) = some v117 → w 0 0 117 [(0, .ref r), (2, .int i8), (3, .int i22)] [] K R M23 := by
                  intro n117
                  induction n117 with
                  | zero => intro i22 M23 hz; exact absurd hz h_it0
                  | succ n117 ih117 =>
                    intro i22 M23 m76
                    replace m76 : (mX8_together_B117 K R r i8 i22 M23).bind (Sum.elim (it (mX8_together_L117 K R r i8) n117) some) = some v117 := m76
                    unfold mX8_together_B117 at m76
                    refine r_iload_n hw dX8_together_117 2 rfl ?_
                    refine r_aload_n hw dX8_together_118 0 rfl ?_
                    refine r_getI hw fO_X8_153 h1 dX8_together_119 ?_
                    refine r_iconst (v := 1) hw dX8_together_122 rfl ?_
                    refine r_isub hw dX8_together_123 ?_
                    refine r_icmp_ge (tgt := 187) hw dX8_together_124 (by decide) (fun c24 => ?_) (fun c24 => ?_)
                    · have m77 := h_if_f c24 m76
                      clear m76
                      have m78 := h_ex m77 hv117
                      clear m77
                      cases h_ret m78
                      exact r_return hw rfl rfl dX8_together_187
                    · have m79 := h_if_t c24 m76
                      clear m76
                      refine r_aload_n hw dX8_together_127 0 rfl ?_
                      obtain ⟨q25, bq25, m80⟩ := h_bd m79
                      clear m79
                      refine r_getR hw fO_X8_66 h1 bq25 dX8_together_128 ?_
                      refine r_aload_n hw dX8_together_131 0 rfl ?_
                      refine r_getI hw fO_X8_241 h1 dX8_together_132 ?_
                      refine r_aload_n hw dX8_together_135 0 rfl ?_
                      obtain ⟨q26, bq26, m81⟩ := h_bd m80
                      clear m80
                      refine r_getR hw fO_X8_48 h1 bq26 dX8_together_136 ?_
                      refine r_iload_n hw dX8_together_139 1 rfl ?_
                      refine r_iload_n hw dX8_together_140 2 rfl ?_
                      refine r_iadd hw dX8_together_141 ?_
                      refine r_aload_n hw dX8_together_142 0 rfl ?_
                      refine r_getI hw fO_X8_153 h1 dX8_together_143 ?_
                      obtain ⟨h27, m82⟩ := h_ck m81
                      clear m81
                      refine r_irem hw dX8_together_146 h27 ?_
                      obtain ⟨h28, m83⟩ := h_ck m82
                      clear m82
                      refine r_laload hw h28 dX8_together_147 ?_
                      obtain ⟨h29, m84⟩ := h_ck m83
                      clear m83
                      obtain ⟨M30, eM30, m85⟩ := h_nm m84
                      clear m84
                      refine r_lastore hw h29 dX8_together_148 (r_mem ?_ rfl eM30)
                      refine r_aload_n hw dX8_together_149 0 rfl ?_
                      obtain ⟨q31, bq31, m86⟩ := h_bd m85
                      clear m85
                      refine r_getR hw fO_X8_69 h1 bq31 dX8_together_150 ?_
                      refine r_aload_n hw dX8_together_153 0 rfl ?_
                      refine r_getI hw fO_X8_241 h1 dX8_together_154 ?_
                      refine r_aload_n hw dX8_together_157 0 rfl ?_
                      obtain ⟨q32, bq32, m87⟩ := h_bd m86
                      clear m86
                      refine r_getR hw fO_X8_51 h1 bq32 dX8_together_158 ?_
                      refine r_iload_n hw dX8_together_161 1 rfl ?_
                      refine r_iload_n hw dX8_together_162 2 rfl ?_
                      refine r_iadd hw dX8_together_163 ?_
                      refine r_aload_n hw dX8_together_164 0 rfl ?_
                      refine r_getI hw fO_X8_153 h1 dX8_together_165 ?_
                      obtain ⟨h33, m88⟩ := h_ck m87
                      clear m87
                      refine r_irem hw dX8_together_168 h33 ?_
                      obtain ⟨h34, m89⟩ := h_ck m88
                      clear m88
                      refine r_laload hw h34 dX8_together_169 ?_
                      obtain ⟨h35, m90⟩ := h_ck m89
                      clear m89
                      obtain ⟨M36, eM36, m91⟩ := h_nm m90
                      clear m90
                      refine r_lastore hw h35 dX8_together_170 (r_mem ?_ rfl eM36)
                      refine r_aload_n hw dX8_together_171 0 rfl ?_
                      refine r_dup hw dX8_together_172 rfl ?_
                      refine r_getI hw fO_X8_241 h1 dX8_together_173 ?_
                      refine r_iconst (v := 1) hw dX8_together_176 rfl ?_
                      refine r_iadd hw dX8_together_177 ?_
                      obtain ⟨M37, eM37, m92⟩ := h_nm m91
                      clear m91
                      refine r_putI hw fP_X8_241 h1 dX8_together_178 (r_mem ?_ rfl eM37)
                      obtain ⟨i38, ei38, m93⟩ := h_nm m92
                      clear m92
                      refine r_iinc (j := 2) (v := i38) hw dX8_together_181 rfl (by rw [ei38]; rfl) (by decide) rfl ?_
                      refine r_goto (tgt := 117) hw dX8_together_184 (by decide) ?_
                      refine r_sub hw [1, 2, 0] rfl ?_
                      exact ih117 _ _ m93
                exact L117 n0117 _ _ hn117
              · have m94 := h_if_f c20 m72
                clear m72
                exact J109 _ m94
        exact L77 n077 _ hn77
      · have m95 := h_if_t c6 m56
        clear m56
        refine r_aload_n hw dX8_together_15 0 rfl ?_
        obtain ⟨q39, bq39, m96⟩ := h_bd m95
        clear m95
        refine r_getR hw fO_X8_66 h1 bq39 dX8_together_16 ?_
        refine r_aload_n hw dX8_together_19 0 rfl ?_
        refine r_getI hw fO_X8_241 h1 dX8_together_20 ?_
        refine r_aload_n hw dX8_together_23 0 rfl ?_
        obtain ⟨q40, bq40, m97⟩ := h_bd m96
        clear m96
        refine r_getR hw fO_X8_42 h1 bq40 dX8_together_24 ?_
        refine r_iload_n hw dX8_together_27 1 rfl ?_
        refine r_iload_n hw dX8_together_28 2 rfl ?_
        refine r_iadd hw dX8_together_29 ?_
        refine r_aload_n hw dX8_together_30 0 rfl ?_
        refine r_getI hw fO_X8_146 h1 dX8_together_31 ?_
        obtain ⟨h41, m98⟩ := h_ck m97
        clear m97
        refine r_irem hw dX8_together_34 h41 ?_
        obtain ⟨h42, m99⟩ := h_ck m98
        clear m98
        refine r_laload hw h42 dX8_together_35 ?_
        obtain ⟨h43, m100⟩ := h_ck m99
        clear m99
        obtain ⟨M44, eM44, m101⟩ := h_nm m100
        clear m100
        refine r_lastore hw h43 dX8_together_36 (r_mem ?_ rfl eM44)
        refine r_aload_n hw dX8_together_37 0 rfl ?_
        obtain ⟨q45, bq45, m102⟩ := h_bd m101
        clear m101
        refine r_getR hw fO_X8_69 h1 bq45 dX8_together_38 ?_
        refine r_aload_n hw dX8_together_41 0 rfl ?_
        refine r_getI hw fO_X8_241 h1 dX8_together_42 ?_
        refine r_aload_n hw dX8_together_45 0 rfl ?_
        obtain ⟨q46, bq46, m103⟩ := h_bd m102
        clear m102
        refine r_getR hw fO_X8_45 h1 bq46 dX8_together_46 ?_
        refine r_iload_n hw dX8_together_49 1 rfl ?_
        refine r_iload_n hw dX8_together_50 2 rfl ?_
        refine r_iadd hw dX8_together_51 ?_
        refine r_aload_n hw dX8_together_52 0 rfl ?_
        refine r_getI hw fO_X8_146 h1 dX8_together_53 ?_
        obtain ⟨h47, m104⟩ := h_ck m103
        clear m103
        refine r_irem hw dX8_together_56 h47 ?_
        obtain ⟨h48, m105⟩ := h_ck m104
        clear m104
        refine r_laload hw h48 dX8_together_57 ?_
        obtain ⟨h49, m106⟩ := h_ck m105
        clear m105
        obtain ⟨M50, eM50, m107⟩ := h_nm m106
        clear m106
        refine r_lastore hw h49 dX8_together_58 (r_mem ?_ rfl eM50)
        refine r_aload_n hw dX8_together_59 0 rfl ?_
        refine r_dup hw dX8_together_60 rfl ?_
        refine r_getI hw fO_X8_241 h1 dX8_together_61 ?_
        refine r_iconst (v := 1) hw dX8_together_64 rfl ?_
        refine r_iadd hw dX8_together_65 ?_
        obtain ⟨M51, eM51, m108⟩ := h_nm m107
        clear m107
        refine r_putI hw fP_X8_241 h1 dX8_together_66 (r_mem ?_ rfl eM51)
        obtain ⟨i52, ei52, m109⟩ := h_nm m108
        clear m108
        refine r_iinc (j := 2) (v := i52) hw dX8_together_69 rfl (by rw [ei52]; rfl) (by decide) rfl ?_
        refine r_goto (tgt := 7) hw dX8_together_72 (by decide) ?_
        refine r_sub hw [1, 2, 0] rfl ?_
        exact ih7 _ _ m109
  exact L7 n07 _ _ hn7
theorem dX8_isOutward_0 : decode cX8_isOutward 0 = .ok (.iconst 1, 1) := by decide +kernel
theorem dX8_isOutward_1 : decode cX8_isOutward 1 = .ok (.istore_n 1, 1) := by decide +kernel
theorem dX8_isOutward_2 : decode cX8_isOutward 2 = .ok (.iconst 0, 1) := by decide +kernel
theorem dX8_isOutward_3 : decode cX8_isOutward 3 = .ok (.istore_n 2, 1) := by decide +kernel
theorem dX8_isOutward_4 : decode cX8_isOutward 4 = .ok (.iload_n 2, 1) := by decide +kernel
theorem dX8_isOutward_5 : decode cX8_isOutward 5 = .ok (.aload_n 0, 1) := by decide +kernel
theorem dX8_isOutward_6 : decode cX8_isOutward 6 = .ok (.getfield 241, 3) := by decide +kernel
theorem dX8_isOutward_9 : decode cX8_isOutward 9 = .ok (.if_icmp .ge 84, 3) := by decide +kernel
theorem dX8_isOutward_12 : decode cX8_isOutward 12 = .ok (.iload_n 2, 1) := by decide +kernel
theorem dX8_isOutward_13 : decode cX8_isOutward 13 = .ok (.iconst 1, 1) := by decide +kernel
theorem dX8_isOutward_14 : decode cX8_isOutward 14 = .ok (.iadd, 1) := by decide +kernel
theorem dX8_isOutward_15 : decode cX8_isOutward 15 = .ok (.aload_n 0, 1) := by decide +kernel
theorem dX8_isOutward_16 : decode cX8_isOutward 16 = .ok (.getfield 241, 3) := by decide +kernel
theorem dX8_isOutward_19 : decode cX8_isOutward 19 = .ok (.irem, 1) := by decide +kernel
theorem dX8_isOutward_20 : decode cX8_isOutward 20 = .ok (.istore_n 3, 1) := by decide +kernel
theorem dX8_isOutward_21 : decode cX8_isOutward 21 = .ok (.iload_n 2, 1) := by decide +kernel
theorem dX8_isOutward_22 : decode cX8_isOutward 22 = .ok (.iconst 2, 1) := by decide +kernel
theorem dX8_isOutward_23 : decode cX8_isOutward 23 = .ok (.iadd, 1) := by decide +kernel
theorem dX8_isOutward_24 : decode cX8_isOutward 24 = .ok (.aload_n 0, 1) := by decide +kernel
theorem dX8_isOutward_25 : decode cX8_isOutward 25 = .ok (.getfield 241, 3) := by decide +kernel
theorem dX8_isOutward_28 : decode cX8_isOutward 28 = .ok (.irem, 1) := by decide +kernel
theorem dX8_isOutward_29 : decode cX8_isOutward 29 = .ok (.istore 4, 2) := by decide +kernel
theorem dX8_isOutward_31 : decode cX8_isOutward 31 = .ok (.iload_n 1, 1) := by decide +kernel
theorem dX8_isOutward_32 : decode cX8_isOutward 32 = .ok (.ifCond .eq 53, 3) := by decide +kernel
theorem dX8_isOutward_35 : decode cX8_isOutward 35 = .ok (.aload_n 0, 1) := by decide +kernel
theorem dX8_isOutward_36 : decode cX8_isOutward 36 = .ok (.getfield 66, 3) := by decide +kernel
theorem dX8_isOutward_39 : decode cX8_isOutward 39 = .ok (.iload_n 2, 1) := by decide +kernel
theorem dX8_isOutward_40 : decode cX8_isOutward 40 = .ok (.laload, 1) := by decide +kernel
theorem dX8_isOutward_41 : decode cX8_isOutward 41 = .ok (.aload_n 0, 1) := by decide +kernel
theorem dX8_isOutward_42 : decode cX8_isOutward 42 = .ok (.getfield 69, 3) := by decide +kernel
theorem dX8_isOutward_45 : decode cX8_isOutward 45 = .ok (.iload_n 2, 1) := by decide +kernel
theorem dX8_isOutward_46 : decode cX8_isOutward 46 = .ok (.laload, 1) := by decide +kernel
theorem dX8_isOutward_47 : decode cX8_isOutward 47 = .ok (.aload_n 0, 1) := by decide +kernel
theorem dX8_isOutward_48 : decode cX8_isOutward 48 = .ok (.getfield 66, 3) := by decide +kernel
theorem dX8_isOutward_51 : decode cX8_isOutward 51 = .ok (.iload_n 3, 1) := by decide +kernel
theorem dX8_isOutward_52 : decode cX8_isOutward 52 = .ok (.laload, 1) := by decide +kernel
theorem dX8_isOutward_53 : decode cX8_isOutward 53 = .ok (.aload_n 0, 1) := by decide +kernel
theorem dX8_isOutward_54 : decode cX8_isOutward 54 = .ok (.getfield 69, 3) := by decide +kernel
theorem dX8_isOutward_57 : decode cX8_isOutward 57 = .ok (.iload_n 3, 1) := by decide +kernel
theorem dX8_isOutward_58 : decode cX8_isOutward 58 = .ok (.laload, 1) := by decide +kernel
theorem dX8_isOutward_59 : decode cX8_isOutward 59 = .ok (.aload_n 0, 1) := by decide +kernel
theorem dX8_isOutward_60 : decode cX8_isOutward 60 = .ok (.getfield 66, 3) := by decide +kernel
theorem dX8_isOutward_63 : decode cX8_isOutward 63 = .ok (.iload 4, 2) := by decide +kernel
theorem dX8_isOutward_65 : decode cX8_isOutward 65 = .ok (.laload, 1) := by decide +kernel
theorem dX8_isOutward_66 : decode cX8_isOutward 66 = .ok (.aload_n 0, 1) := by decide +kernel
theorem dX8_isOutward_67 : decode cX8_isOutward 67 = .ok (.getfield 69, 3) := by decide +kernel
theorem dX8_isOutward_70 : decode cX8_isOutward 70 = .ok (.iload 4, 2) := by decide +kernel
theorem dX8_isOutward_72 : decode cX8_isOutward 72 = .ok (.laload, 1) := by decide +kernel
theorem dX8_isOutward_73 : decode cX8_isOutward 73 = .ok (.invokestatic 128, 3) := by decide +kernel
theorem dX8_isOutward_76 : decode cX8_isOutward 76 = .ok (.lconst 0, 1) := by decide +kernel
theorem dX8_isOutward_77 : decode cX8_isOutward 77 = .ok (.lcmp, 1) := by decide +kernel
theorem dX8_isOutward_78 : decode cX8_isOutward 78 = .ok (.ifCond .lt 7, 3) := by decide +kernel
theorem dX8_isOutward_81 : decode cX8_isOutward 81 = .ok (.iconst 1, 1) := by decide +kernel
theorem dX8_isOutward_82 : decode cX8_isOutward 82 = .ok (.goto 4, 3) := by decide +kernel
theorem dX8_isOutward_85 : decode cX8_isOutward 85 = .ok (.iconst 0, 1) := by decide +kernel
theorem dX8_isOutward_86 : decode cX8_isOutward 86 = .ok (.istore_n 1, 1) := by decide +kernel
theorem dX8_isOutward_87 : decode cX8_isOutward 87 = .ok (.iinc 2 1, 3) := by decide +kernel
theorem dX8_isOutward_90 : decode cX8_isOutward 90 = .ok (.goto (-86), 3) := by decide +kernel
theorem dX8_isOutward_93 : decode cX8_isOutward 93 = .ok (.iload_n 1, 1) := by decide +kernel
theorem dX8_isOutward_94 : decode cX8_isOutward 94 = .ok (.ireturn, 1) := by decide +kernel
set_option maxHeartbeats 4000000 in
set_option maxRecDepth 100000 in
theorem tX8_isOutward (l : Launch) (G : Gg) (b0 : Nat) {K : Kk} {R : Rr} {M : Mm} {r : Nat} {res : Int32} (hm : mX8_isOutward K R M r = some (res)) : CT l G b0 yX8_isOutward cX8_isOutward 5 (some .boolean) (rmz 2 31) [.ref r] K R M (some (.int res)) K R M := by
  refine ct_of (by decide +kernel) (Nat.le_of_ble_eq_true rfl) (fun w hw => ?_)
  change w 0 0 0 [(0, .ref r)] [] K R M
  replace hm := h_start hm
  unfold mX8_isOutward at hm
  obtain ⟨h1, m26⟩ := h_ck hm
  clear hm
  refine r_iconst (v := 1) hw dX8_isOutward_0 rfl ?_
  obtain ⟨i2, ei2, m27⟩ := h_nm m26
  clear m26
  refine r_topI (w := w) ei2 ?_
  refine r_istore_n hw dX8_isOutward_1 rfl (by decide) rfl ?_
  refine r_iconst (v := 0) hw dX8_isOutward_2 rfl ?_
  obtain ⟨i3, ei3, m28⟩ := h_nm m27
  clear m27
  refine r_topI (w := w) ei3 ?_
  refine r_istore_n hw dX8_isOutward_3 rfl (by decide) rfl ?_
  refine r_sub hw [2, 1, 0] rfl ?_
  obtain ⟨v4, n04, hn4, hv4⟩ := h_lp m28
  clear m28
  have L4 : ∀ n : Nat, ∀ (i4 : Int32) (i5 : Int32), it (mX8_isOutward_L4 K R M r) n (i4, i5) = some v4 → w 0 0 4 [(0, .ref r), (1, .int i4), (2, .int i5)] [] K R M := by
    intro n4
    induction n4 with
    | zero => intro i4 i5 hz; exact absurd hz h_it0
    | succ n4 ih4 =>
      intro i4 i5 m29
      replace m29 : (mX8_isOutward_B4 K R M r i4 i5).bind (Sum.elim (it (mX8_isOutward_L4 K R M r) n4) some) = some v4 := m29
      unfold mX8_isOutward_B4 at m29
      have J86 : ∀ (i6 : Int32) (s7 : Int32), (mX8_isOutward_J86 K R M r i6 s7).bind (Sum.elim (it (mX8_isOutward_L4 K R M r) n4) some) = some v4 → w 0 0 86 [(0, .ref r), (2, .int i6)] [.int s7] K R M := by
        intro i6 s7 m30
        unfold mX8_isOutward_J86 at m30
        refine r_istore_n hw dX8_isOutward_86 rfl (by decide) rfl ?_
        obtain ⟨i8, ei8, m31⟩ := h_nm m30
        clear m30
        refine r_iinc (j := 2) (v := i8) hw dX8_isOutward_87 rfl (by rw [ei8]; rfl) (by decide) rfl ?_
        refine r_goto (tgt := 4) hw dX8_isOutward_90 (by decide) ?_
        refine r_sub hw [2, 1, 0] rfl ?_
        exact ih4 _ _ m31
      have J85 : ∀ (i9 : Int32), (mX8_isOutward_J85 K R M r i9).bind (Sum.elim (it (mX8_isOutward_L4 K R M r) n4) some) = some v4 → w 0 0 85 [(0, .ref r), (2, .int i9)] [] K R M := by
        intro i9 m32
        unfold mX8_isOutward_J85 at m32
        refine r_iconst (v := 0) hw dX8_isOutward_85 rfl ?_
        exact J86 _ _ m32
      refine r_iload_n hw dX8_isOutward_4 2 rfl ?_
      refine r_aload_n hw dX8_isOutward_5 0 rfl ?_
      refine r_getI hw fO_X8_241 h1 dX8_isOutward_6 ?_
      refine r_icmp_ge (tgt := 93) hw dX8_isOutward_9 (by decide) (fun c10 => ?_) (fun c10 => ?_)
      · have m33 := h_if_f c10 m29
        clear m29
        have m34 := h_ex m33 hv4
        clear m33
        refine r_iload_n hw dX8_isOutward_93 1 rfl ?_
        obtain ⟨h11, m35⟩ := h_ck m34
        clear m34
        cases h_ret m35
        exact r_zreturn hw h11 rfl rfl dX8_isOutward_94
      · have m36 := h_if_t c10 m29
        clear m29
        refine r_iload_n hw dX8_isOutward_12 2 rfl ?_
        refine r_iconst (v := 1) hw dX8_isOutward_13 rfl ?_
        refine r_iadd hw dX8_isOutward_14 ?_
        refine r_aload_n hw dX8_isOutward_15 0 rfl ?_
        refine r_getI hw fO_X8_241 h1 dX8_isOutward_16 ?_
        obtain ⟨h12, m37⟩ := h_ck m36
        clear m36
        refine r_irem hw dX8_isOutward_19 h12 ?_
        obtain ⟨i13, ei13, m38⟩ := h_nm m37
        clear m37
        refine r_topI (w := w) ei13 ?_
        refine r_istore_n hw dX8_isOutward_20 rfl (by decide) rfl ?_
        refine r_iload_n hw dX8_isOutward_21 3 rfl ?_
        refine r_iconst (v := 2) hw dX8_isOutward_22 rfl ?_
        refine r_iadd hw dX8_isOutward_23 ?_
        refine r_aload_n hw dX8_isOutward_24 1 rfl ?_
        refine r_getI hw fO_X8_241 h1 dX8_isOutward_25 ?_
        refine r_irem hw dX8_isOutward_28 h12 ?_
        obtain ⟨i14, ei14, m39⟩ := h_nm m38
        clear m38
        refine r_topI (w := w) ei14 ?_
        refine r_istore hw dX8_isOutward_29 (by decide) rfl ?_
        refine r_iload_n hw dX8_isOutward_31 3 rfl ?_
        refine r_if_eq (tgt := 85) hw dX8_isOutward_32 (by decide) (fun c15 => ?_) (fun c15 => ?_)
        · have m40 := h_if_t c15 m39
          clear m39
          refine r_sub hw [2, 4] rfl ?_
          exact J85 _ m40
        · have m41 := h_if_f c15 m39
          clear m39
          refine r_aload_n hw dX8_isOutward_35 2 rfl ?_
          obtain ⟨q16, bq16, m42⟩ := h_bd m41
          clear m41
          refine r_getR hw fO_X8_66 h1 bq16 dX8_isOutward_36 ?_
          refine r_iload_n hw dX8_isOutward_39 4 rfl ?_
          obtain ⟨h17, m43⟩ := h_ck m42
          clear m42
          refine r_laload hw h17 dX8_isOutward_40 ?_
          refine r_aload_n hw dX8_isOutward_41 2 rfl ?_
          obtain ⟨q18, bq18, m44⟩ := h_bd m43
          clear m43
          refine r_getR hw fO_X8_69 h1 bq18 dX8_isOutward_42 ?_
          refine r_iload_n hw dX8_isOutward_45 4 rfl ?_
          obtain ⟨h19, m45⟩ := h_ck m44
          clear m44
          refine r_laload hw h19 dX8_isOutward_46 ?_
          refine r_aload_n hw dX8_isOutward_47 2 rfl ?_
          refine r_getR hw fO_X8_66 h1 bq16 dX8_isOutward_48 ?_
          refine r_iload_n hw dX8_isOutward_51 1 rfl ?_
          obtain ⟨h20, m46⟩ := h_ck m45
          clear m45
          refine r_laload hw h20 dX8_isOutward_52 ?_
          refine r_aload_n hw dX8_isOutward_53 2 rfl ?_
          refine r_getR hw fO_X8_69 h1 bq18 dX8_isOutward_54 ?_
          refine r_iload_n hw dX8_isOutward_57 1 rfl ?_
          obtain ⟨h21, m47⟩ := h_ck m46
          clear m46
          refine r_laload hw h21 dX8_isOutward_58 ?_
          refine r_aload_n hw dX8_isOutward_59 2 rfl ?_
          refine r_getR hw fO_X8_66 h1 bq16 dX8_isOutward_60 ?_
          refine r_iload hw dX8_isOutward_63 0 rfl ?_
          obtain ⟨h22, m48⟩ := h_ck m47
          clear m47
          refine r_laload hw h22 dX8_isOutward_65 ?_
          refine r_aload_n hw dX8_isOutward_66 2 rfl ?_
          refine r_getR hw fO_X8_69 h1 bq18 dX8_isOutward_67 ?_
          refine r_iload hw dX8_isOutward_70 0 rfl ?_
          obtain ⟨h23, m49⟩ := h_ck m48
          clear m48
          refine r_laload hw h23 dX8_isOutward_72 ?_
          obtain ⟨l24, g24, m50⟩ := h_bd m49
          clear m49
          refine r_callS1 hw (tX8_side l G b0 g24) lB_X8_side sT_X8_side mL_X8_128 rfl rfl (Nat.le_of_ble_eq_true rfl) (Nat.le_of_ble_eq_true rfl) rfl (Nat.le_of_ble_eq_true rfl) dX8_isOutward_73 ?_
          refine r_lconst (v := 0) hw dX8_isOutward_76 rfl ?_
          refine r_lcmp_lt (tgt := 85) hw dX8_isOutward_77 dX8_isOutward_78 (by decide) (fun c25 => ?_) (fun c25 => ?_)
          · have m51 := h_if_t c25 m50
            clear m50
            refine r_sub hw [2, 4] rfl ?_
            exact J85 _ m51
          · have m52 := h_if_f c25 m50
            clear m50
            refine r_iconst (v := 1) hw dX8_isOutward_81 rfl ?_
            refine r_goto (tgt := 86) hw dX8_isOutward_82 (by decide) ?_
            refine r_sub hw [2, 4] rfl ?_
            exact J86 _ _ m52
  exact L4 n04 _ _ hn4
theorem dX8_dropPiece_0 : decode cX8_dropPiece 0 = .ok (.bipush 37, 2) := by decide +kernel
theorem dX8_dropPiece_2 : decode cX8_dropPiece 2 = .ok (.iload_n 1, 1) := by decide +kernel
theorem dX8_dropPiece_3 : decode cX8_dropPiece 3 = .ok (.imul, 1) := by decide +kernel
theorem dX8_dropPiece_4 : decode cX8_dropPiece 4 = .ok (.istore_n 2, 1) := by decide +kernel
theorem dX8_dropPiece_5 : decode cX8_dropPiece 5 = .ok (.iload_n 2, 1) := by decide +kernel
theorem dX8_dropPiece_6 : decode cX8_dropPiece 6 = .ok (.bipush 37, 2) := by decide +kernel
theorem dX8_dropPiece_8 : decode cX8_dropPiece 8 = .ok (.aload_n 0, 1) := by decide +kernel
theorem dX8_dropPiece_9 : decode cX8_dropPiece 9 = .ok (.invokevirtual 99, 3) := by decide +kernel
theorem dX8_dropPiece_12 : decode cX8_dropPiece 12 = .ok (.iconst 1, 1) := by decide +kernel
theorem dX8_dropPiece_13 : decode cX8_dropPiece 13 = .ok (.isub, 1) := by decide +kernel
theorem dX8_dropPiece_14 : decode cX8_dropPiece 14 = .ok (.imul, 1) := by decide +kernel
theorem dX8_dropPiece_15 : decode cX8_dropPiece 15 = .ok (.if_icmp .ge 24, 3) := by decide +kernel
theorem dX8_dropPiece_18 : decode cX8_dropPiece 18 = .ok (.aload_n 0, 1) := by decide +kernel
theorem dX8_dropPiece_19 : decode cX8_dropPiece 19 = .ok (.getfield 7, 3) := by decide +kernel
theorem dX8_dropPiece_22 : decode cX8_dropPiece 22 = .ok (.iload_n 2, 1) := by decide +kernel
theorem dX8_dropPiece_23 : decode cX8_dropPiece 23 = .ok (.aload_n 0, 1) := by decide +kernel
theorem dX8_dropPiece_24 : decode cX8_dropPiece 24 = .ok (.getfield 7, 3) := by decide +kernel
theorem dX8_dropPiece_27 : decode cX8_dropPiece 27 = .ok (.iload_n 2, 1) := by decide +kernel
theorem dX8_dropPiece_28 : decode cX8_dropPiece 28 = .ok (.bipush 37, 2) := by decide +kernel
theorem dX8_dropPiece_30 : decode cX8_dropPiece 30 = .ok (.iadd, 1) := by decide +kernel
theorem dX8_dropPiece_31 : decode cX8_dropPiece 31 = .ok (.laload, 1) := by decide +kernel
theorem dX8_dropPiece_32 : decode cX8_dropPiece 32 = .ok (.lastore, 1) := by decide +kernel
theorem dX8_dropPiece_33 : decode cX8_dropPiece 33 = .ok (.iinc 2 1, 3) := by decide +kernel
theorem dX8_dropPiece_36 : decode cX8_dropPiece 36 = .ok (.goto (-31), 3) := by decide +kernel
theorem dX8_dropPiece_39 : decode cX8_dropPiece 39 = .ok (.aload_n 0, 1) := by decide +kernel
theorem dX8_dropPiece_40 : decode cX8_dropPiece 40 = .ok (.getfield 7, 3) := by decide +kernel
theorem dX8_dropPiece_43 : decode cX8_dropPiece 43 = .ok (.sipush 1480, 3) := by decide +kernel
theorem dX8_dropPiece_46 : decode cX8_dropPiece 46 = .ok (.dup2, 1) := by decide +kernel
theorem dX8_dropPiece_47 : decode cX8_dropPiece 47 = .ok (.laload, 1) := by decide +kernel
theorem dX8_dropPiece_48 : decode cX8_dropPiece 48 = .ok (.lconst 1, 1) := by decide +kernel
theorem dX8_dropPiece_49 : decode cX8_dropPiece 49 = .ok (.lsub, 1) := by decide +kernel
theorem dX8_dropPiece_50 : decode cX8_dropPiece 50 = .ok (.lastore, 1) := by decide +kernel
theorem dX8_dropPiece_51 : decode cX8_dropPiece 51 = .ok (.return_, 1) := by decide +kernel
set_option maxHeartbeats 4000000 in
set_option maxRecDepth 100000 in
theorem tX8_dropPiece (l : Launch) (G : Gg) (b0 : Nat) {K : Kk} {R : Rr} {M : Mm} {r : Nat} {a0 : Int32} {M' : Mm} (hm : mX8_dropPiece K R M r a0 = some (M')) : CT l G b0 yX8_dropPiece cX8_dropPiece 3 none (rmz 2 20) [.ref r, .int a0] K R M none K R M' := by
  refine ct_of (by decide +kernel) (Nat.le_of_ble_eq_true rfl) (fun w hw => ?_)
  change w 0 0 0 [(0, .ref r), (1, .int a0)] [] K R M
  replace hm := h_start hm
  unfold mX8_dropPiece at hm
  obtain ⟨h1, m15⟩ := h_ck hm
  clear hm
  refine r_bipush (v := 37) hw dX8_dropPiece_0 rfl ?_
  refine r_iload_n hw dX8_dropPiece_2 1 rfl ?_
  refine r_imul hw dX8_dropPiece_3 ?_
  obtain ⟨i2, ei2, m16⟩ := h_nm m15
  clear m15
  refine r_topI (w := w) ei2 ?_
  refine r_istore_n hw dX8_dropPiece_4 rfl (by decide) rfl ?_
  refine r_sub hw [1, 0] rfl ?_
  obtain ⟨v5, n05, hn5, hv5⟩ := h_lp m16
  clear m16
  have L5 : ∀ n : Nat, ∀ (i3 : Int32) (M4 : Mm), it (mX8_dropPiece_L5 K R r) n (i3, M4) = some v5 → w 0 0 5 [(0, .ref r), (2, .int i3)] [] K R M4 := by
    intro n5
    induction n5 with
    | zero => intro i3 M4 hz; exact absurd hz h_it0
    | succ n5 ih5 =>
      intro i3 M4 m17
      replace m17 : (mX8_dropPiece_B5 K R r i3 M4).bind (Sum.elim (it (mX8_dropPiece_L5 K R r) n5) some) = some v5 := m17
      unfold mX8_dropPiece_B5 at m17
      refine r_iload_n hw dX8_dropPiece_5 1 rfl ?_
      refine r_bipush (v := 37) hw dX8_dropPiece_6 rfl ?_
      refine r_aload_n hw dX8_dropPiece_8 0 rfl ?_
      obtain ⟨i5, g5, m18⟩ := h_bd m17
      clear m17
      refine r_callV1 hw (tX8_pieces l G b0 g5) lB_X8_pieces lI_X8_pieces mL_X8_99 (c := 8) rfl h1 rfl (Nat.le_of_ble_eq_true rfl) (Nat.le_of_ble_eq_true rfl) rfl (Nat.le_of_ble_eq_true rfl) dX8_dropPiece_9 ?_
      refine r_iconst (v := 1) hw dX8_dropPiece_12 rfl ?_
      refine r_isub hw dX8_dropPiece_13 ?_
      refine r_imul hw dX8_dropPiece_14 ?_
      refine r_icmp_ge (tgt := 39) hw dX8_dropPiece_15 (by decide) (fun c6 => ?_) (fun c6 => ?_)
      · have m19 := h_if_f c6 m18
        clear m18
        have m20 := h_ex m19 hv5
        clear m19
        refine r_aload_n hw dX8_dropPiece_39 0 rfl ?_
        obtain ⟨q7, bq7, m21⟩ := h_bd m20
        clear m20
        refine r_getR hw fO_X8_7 h1 bq7 dX8_dropPiece_40 ?_
        refine r_sipush (v := 1480) hw dX8_dropPiece_43 rfl ?_
        refine r_dup2 hw dX8_dropPiece_46 rfl rfl ?_
        obtain ⟨h8, m22⟩ := h_ck m21
        clear m21
        refine r_laload hw h8 dX8_dropPiece_47 ?_
        refine r_lconst (v := 1) hw dX8_dropPiece_48 rfl ?_
        refine r_lsub hw dX8_dropPiece_49 ?_
        obtain ⟨M9, eM9, m23⟩ := h_nm m22
        clear m22
        refine r_lastore hw h8 dX8_dropPiece_50 (r_mem ?_ rfl eM9)
        cases h_ret m23
        exact r_return hw rfl rfl dX8_dropPiece_51
      · have m24 := h_if_t c6 m18
        clear m18
        refine r_aload_n hw dX8_dropPiece_18 0 rfl ?_
        obtain ⟨q10, bq10, m25⟩ := h_bd m24
        clear m24
        refine r_getR hw fO_X8_7 h1 bq10 dX8_dropPiece_19 ?_
        refine r_iload_n hw dX8_dropPiece_22 1 rfl ?_
        refine r_aload_n hw dX8_dropPiece_23 0 rfl ?_
        refine r_getR hw fO_X8_7 h1 bq10 dX8_dropPiece_24 ?_
        refine r_iload_n hw dX8_dropPiece_27 1 rfl ?_
        refine r_bipush (v := 37) hw dX8_dropPiece_28 rfl ?_
        refine r_iadd hw dX8_dropPiece_30 ?_
        obtain ⟨h11, m26⟩ := h_ck m25
        clear m25
        refine r_laload hw h11 dX8_dropPiece_31 ?_
        obtain ⟨h12, m27⟩ := h_ck m26
        clear m26
        obtain ⟨M13, eM13, m28⟩ := h_nm m27
        clear m27
        refine r_lastore hw h12 dX8_dropPiece_32 (r_mem ?_ rfl eM13)
        obtain ⟨i14, ei14, m29⟩ := h_nm m28
        clear m28
        refine r_iinc (j := 1) (v := i14) hw dX8_dropPiece_33 rfl (by rw [ei14]; rfl) (by decide) rfl ?_
        refine r_goto (tgt := 5) hw dX8_dropPiece_36 (by decide) ?_
        refine r_sub hw [1, 0] rfl ?_
        exact ih5 _ _ m29
  exact L5 n05 _ _ hn5
