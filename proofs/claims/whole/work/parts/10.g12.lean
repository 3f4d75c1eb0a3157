theorem dX8_join_0 : decode cX8_join 0 = .ok (.aload_n 0, 1) := by decide +kernel
theorem dX8_join_1 : decode cX8_join 1 = .ok (.iload_n 1, 1) := by decide +kernel
theorem dX8_join_2 : decode cX8_join 2 = .ok (.invokevirtual 226, 3) := by decide +kernel
theorem dX8_join_5 : decode cX8_join 5 = .ok (.ifCond .eq 16, 3) := by decide +kernel
theorem dX8_join_8 : decode cX8_join 8 = .ok (.aload_n 0, 1) := by decide +kernel
theorem dX8_join_9 : decode cX8_join 9 = .ok (.iload_n 2, 1) := by decide +kernel
theorem dX8_join_10 : decode cX8_join 10 = .ok (.invokevirtual 226, 3) := by decide +kernel
theorem dX8_join_13 : decode cX8_join 13 = .ok (.ifCond .eq 8, 3) := by decide +kernel
theorem dX8_join_16 : decode cX8_join 16 = .ok (.iload_n 1, 1) := by decide +kernel
theorem dX8_join_17 : decode cX8_join 17 = .ok (.iload_n 2, 1) := by decide +kernel
theorem dX8_join_18 : decode cX8_join 18 = .ok (.if_icmp .ne 7, 3) := by decide +kernel
theorem dX8_join_21 : decode cX8_join 21 = .ok (.ldc2_w 160, 3) := by decide +kernel
theorem dX8_join_24 : decode cX8_join 24 = .ok (.lreturn, 1) := by decide +kernel
theorem dX8_join_25 : decode cX8_join 25 = .ok (.aload_n 0, 1) := by decide +kernel
theorem dX8_join_26 : decode cX8_join 26 = .ok (.iload_n 1, 1) := by decide +kernel
theorem dX8_join_27 : decode cX8_join 27 = .ok (.bipush 33, 2) := by decide +kernel
theorem dX8_join_29 : decode cX8_join 29 = .ok (.invokevirtual 103, 3) := by decide +kernel
theorem dX8_join_32 : decode cX8_join 32 = .ok (.aload_n 0, 1) := by decide +kernel
theorem dX8_join_33 : decode cX8_join 33 = .ok (.iload_n 2, 1) := by decide +kernel
theorem dX8_join_34 : decode cX8_join 34 = .ok (.bipush 33, 2) := by decide +kernel
theorem dX8_join_36 : decode cX8_join 36 = .ok (.invokevirtual 103, 3) := by decide +kernel
theorem dX8_join_39 : decode cX8_join 39 = .ok (.lcmp, 1) := by decide +kernel
theorem dX8_join_40 : decode cX8_join 40 = .ok (.ifCond .ne 39, 3) := by decide +kernel
theorem dX8_join_43 : decode cX8_join 43 = .ok (.aload_n 0, 1) := by decide +kernel
theorem dX8_join_44 : decode cX8_join 44 = .ok (.iload_n 1, 1) := by decide +kernel
theorem dX8_join_45 : decode cX8_join 45 = .ok (.bipush 34, 2) := by decide +kernel
theorem dX8_join_47 : decode cX8_join 47 = .ok (.invokevirtual 103, 3) := by decide +kernel
theorem dX8_join_50 : decode cX8_join 50 = .ok (.aload_n 0, 1) := by decide +kernel
theorem dX8_join_51 : decode cX8_join 51 = .ok (.iload_n 2, 1) := by decide +kernel
theorem dX8_join_52 : decode cX8_join 52 = .ok (.bipush 34, 2) := by decide +kernel
theorem dX8_join_54 : decode cX8_join 54 = .ok (.invokevirtual 103, 3) := by decide +kernel
theorem dX8_join_57 : decode cX8_join 57 = .ok (.lcmp, 1) := by decide +kernel
theorem dX8_join_58 : decode cX8_join 58 = .ok (.ifCond .ne 21, 3) := by decide +kernel
theorem dX8_join_61 : decode cX8_join 61 = .ok (.aload_n 0, 1) := by decide +kernel
theorem dX8_join_62 : decode cX8_join 62 = .ok (.iload_n 1, 1) := by decide +kernel
theorem dX8_join_63 : decode cX8_join 63 = .ok (.bipush 35, 2) := by decide +kernel
theorem dX8_join_65 : decode cX8_join 65 = .ok (.invokevirtual 103, 3) := by decide +kernel
theorem dX8_join_68 : decode cX8_join 68 = .ok (.aload_n 0, 1) := by decide +kernel
theorem dX8_join_69 : decode cX8_join 69 = .ok (.iload_n 2, 1) := by decide +kernel
theorem dX8_join_70 : decode cX8_join 70 = .ok (.bipush 35, 2) := by decide +kernel
theorem dX8_join_72 : decode cX8_join 72 = .ok (.invokevirtual 103, 3) := by decide +kernel
theorem dX8_join_75 : decode cX8_join 75 = .ok (.lcmp, 1) := by decide +kernel
theorem dX8_join_76 : decode cX8_join 76 = .ok (.ifCond .eq 7, 3) := by decide +kernel
theorem dX8_join_79 : decode cX8_join 79 = .ok (.ldc2_w 113, 3) := by decide +kernel
theorem dX8_join_82 : decode cX8_join 82 = .ok (.lreturn, 1) := by decide +kernel
theorem dX8_join_83 : decode cX8_join 83 = .ok (.aload_n 0, 1) := by decide +kernel
theorem dX8_join_84 : decode cX8_join 84 = .ok (.iload_n 2, 1) := by decide +kernel
theorem dX8_join_85 : decode cX8_join 85 = .ok (.invokevirtual 244, 3) := by decide +kernel
theorem dX8_join_88 : decode cX8_join 88 = .ok (.aload_n 0, 1) := by decide +kernel
theorem dX8_join_89 : decode cX8_join 89 = .ok (.iload_n 1, 1) := by decide +kernel
theorem dX8_join_90 : decode cX8_join 90 = .ok (.invokevirtual 149, 3) := by decide +kernel
theorem dX8_join_93 : decode cX8_join 93 = .ok (.aload_n 0, 1) := by decide +kernel
theorem dX8_join_94 : decode cX8_join 94 = .ok (.invokevirtual 247, 3) := by decide +kernel
theorem dX8_join_97 : decode cX8_join 97 = .ok (.istore_n 3, 1) := by decide +kernel
theorem dX8_join_98 : decode cX8_join 98 = .ok (.iload_n 3, 1) := by decide +kernel
theorem dX8_join_99 : decode cX8_join 99 = .ok (.ifCond .ge 7, 3) := by decide +kernel
theorem dX8_join_102 : decode cX8_join 102 = .ok (.ldc2_w 113, 3) := by decide +kernel
theorem dX8_join_105 : decode cX8_join 105 = .ok (.lreturn, 1) := by decide +kernel
theorem dX8_join_106 : decode cX8_join 106 = .ok (.aload_n 0, 1) := by decide +kernel
theorem dX8_join_107 : decode cX8_join 107 = .ok (.iload_n 3, 1) := by decide +kernel
theorem dX8_join_108 : decode cX8_join 108 = .ok (.invokevirtual 250, 3) := by decide +kernel
theorem dX8_join_111 : decode cX8_join 111 = .ok (.aload_n 0, 1) := by decide +kernel
theorem dX8_join_112 : decode cX8_join 112 = .ok (.invokevirtual 253, 3) := by decide +kernel
theorem dX8_join_115 : decode cX8_join 115 = .ok (.ifCond .ne 7, 3) := by decide +kernel
theorem dX8_join_118 : decode cX8_join 118 = .ok (.ldc2_w 113, 3) := by decide +kernel
theorem dX8_join_121 : decode cX8_join 121 = .ok (.lreturn, 1) := by decide +kernel
theorem dX8_join_122 : decode cX8_join 122 = .ok (.aload_n 0, 1) := by decide +kernel
theorem dX8_join_123 : decode cX8_join 123 = .ok (.invokevirtual 132, 3) := by decide +kernel
theorem dX8_join_126 : decode cX8_join 126 = .ok (.iconst 0, 1) := by decide +kernel
theorem dX8_join_127 : decode cX8_join 127 = .ok (.istore 4, 2) := by decide +kernel
theorem dX8_join_129 : decode cX8_join 129 = .ok (.iload 4, 2) := by decide +kernel
theorem dX8_join_131 : decode cX8_join 131 = .ok (.aload_n 0, 1) := by decide +kernel
theorem dX8_join_132 : decode cX8_join 132 = .ok (.getfield 241, 3) := by decide +kernel
theorem dX8_join_135 : decode cX8_join 135 = .ok (.if_icmp .ge 27, 3) := by decide +kernel
theorem dX8_join_138 : decode cX8_join 138 = .ok (.aload_n 0, 1) := by decide +kernel
theorem dX8_join_139 : decode cX8_join 139 = .ok (.aload_n 0, 1) := by decide +kernel
theorem dX8_join_140 : decode cX8_join 140 = .ok (.getfield 66, 3) := by decide +kernel
theorem dX8_join_143 : decode cX8_join 143 = .ok (.iload 4, 2) := by decide +kernel
theorem dX8_join_145 : decode cX8_join 145 = .ok (.laload, 1) := by decide +kernel
theorem dX8_join_146 : decode cX8_join 146 = .ok (.aload_n 0, 1) := by decide +kernel
theorem dX8_join_147 : decode cX8_join 147 = .ok (.getfield 69, 3) := by decide +kernel
theorem dX8_join_150 : decode cX8_join 150 = .ok (.iload 4, 2) := by decide +kernel
theorem dX8_join_152 : decode cX8_join 152 = .ok (.laload, 1) := by decide +kernel
theorem dX8_join_153 : decode cX8_join 153 = .ok (.invokevirtual 139, 3) := by decide +kernel
theorem dX8_join_156 : decode cX8_join 156 = .ok (.iinc 4 1, 3) := by decide +kernel
theorem dX8_join_159 : decode cX8_join 159 = .ok (.goto (-30), 3) := by decide +kernel
theorem dX8_join_162 : decode cX8_join 162 = .ok (.aload_n 0, 1) := by decide +kernel
theorem dX8_join_163 : decode cX8_join 163 = .ok (.invokevirtual 143, 3) := by decide +kernel
theorem dX8_join_166 : decode cX8_join 166 = .ok (.aload_n 0, 1) := by decide +kernel
theorem dX8_join_167 : decode cX8_join 167 = .ok (.getfield 118, 3) := by decide +kernel
theorem dX8_join_170 : decode cX8_join 170 = .ok (.bipush 16, 2) := by decide +kernel
theorem dX8_join_172 : decode cX8_join 172 = .ok (.if_icmp .le 7, 3) := by decide +kernel
theorem dX8_join_175 : decode cX8_join 175 = .ok (.ldc2_w 162, 3) := by decide +kernel
theorem dX8_join_178 : decode cX8_join 178 = .ok (.lreturn, 1) := by decide +kernel
theorem dX8_join_179 : decode cX8_join 179 = .ok (.aload_n 0, 1) := by decide +kernel
theorem dX8_join_180 : decode cX8_join 180 = .ok (.invokevirtual 174, 3) := by decide +kernel
theorem dX8_join_183 : decode cX8_join 183 = .ok (.aload_n 0, 1) := by decide +kernel
theorem dX8_join_184 : decode cX8_join 184 = .ok (.iload_n 1, 1) := by decide +kernel
theorem dX8_join_185 : decode cX8_join 185 = .ok (.aload_n 0, 1) := by decide +kernel
theorem dX8_join_186 : decode cX8_join 186 = .ok (.iload_n 1, 1) := by decide +kernel
theorem dX8_join_187 : decode cX8_join 187 = .ok (.bipush 33, 2) := by decide +kernel
theorem dX8_join_189 : decode cX8_join 189 = .ok (.invokevirtual 103, 3) := by decide +kernel
theorem dX8_join_192 : decode cX8_join 192 = .ok (.aload_n 0, 1) := by decide +kernel
theorem dX8_join_193 : decode cX8_join 193 = .ok (.iload_n 1, 1) := by decide +kernel
theorem dX8_join_194 : decode cX8_join 194 = .ok (.bipush 34, 2) := by decide +kernel
theorem dX8_join_196 : decode cX8_join 196 = .ok (.invokevirtual 103, 3) := by decide +kernel
theorem dX8_join_199 : decode cX8_join 199 = .ok (.aload_n 0, 1) := by decide +kernel
theorem dX8_join_200 : decode cX8_join 200 = .ok (.iload_n 1, 1) := by decide +kernel
theorem dX8_join_201 : decode cX8_join 201 = .ok (.bipush 35, 2) := by decide +kernel
theorem dX8_join_203 : decode cX8_join 203 = .ok (.invokevirtual 103, 3) := by decide +kernel
theorem dX8_join_206 : decode cX8_join 206 = .ok (.invokevirtual 177, 3) := by decide +kernel
theorem dX8_join_209 : decode cX8_join 209 = .ok (.aload_n 0, 1) := by decide +kernel
theorem dX8_join_210 : decode cX8_join 210 = .ok (.getfield 7, 3) := by decide +kernel
theorem dX8_join_213 : decode cX8_join 213 = .ok (.bipush 37, 2) := by decide +kernel
theorem dX8_join_215 : decode cX8_join 215 = .ok (.iload_n 1, 1) := by decide +kernel
theorem dX8_join_216 : decode cX8_join 216 = .ok (.imul, 1) := by decide +kernel
theorem dX8_join_217 : decode cX8_join 217 = .ok (.bipush 36, 2) := by decide +kernel
theorem dX8_join_219 : decode cX8_join 219 = .ok (.iadd, 1) := by decide +kernel
theorem dX8_join_220 : decode cX8_join 220 = .ok (.lconst 0, 1) := by decide +kernel
theorem dX8_join_221 : decode cX8_join 221 = .ok (.lastore, 1) := by decide +kernel
theorem dX8_join_222 : decode cX8_join 222 = .ok (.aload_n 0, 1) := by decide +kernel
theorem dX8_join_223 : decode cX8_join 223 = .ok (.getfield 118, 3) := by decide +kernel
theorem dX8_join_226 : decode cX8_join 226 = .ok (.i2l, 1) := by decide +kernel
theorem dX8_join_227 : decode cX8_join 227 = .ok (.lstore 4, 2) := by decide +kernel
theorem dX8_join_229 : decode cX8_join 229 = .ok (.aload_n 0, 1) := by decide +kernel
theorem dX8_join_230 : decode cX8_join 230 = .ok (.iload_n 2, 1) := by decide +kernel
theorem dX8_join_231 : decode cX8_join 231 = .ok (.invokevirtual 256, 3) := by decide +kernel
theorem dX8_join_234 : decode cX8_join 234 = .ok (.lload 4, 2) := by decide +kernel
theorem dX8_join_236 : decode cX8_join 236 = .ok (.lreturn, 1) := by decide +kernel
set_option maxHeartbeats 4000000 in
set_option maxRecDepth 100000 in
theorem tX8_join (l : Launch) (G : Gg) (b0 : Nat) {K : Kk} {R : Rr} {M : Mm} {r : Nat} {a0 : Int32} {a1 : Int32} {res : Int64} {M' : Mm} (hm : mX8_join K R M r a0 a1 = some (res, M')) : CT l G b0 yX8_join cX8_join 6 (some .long) (rmz 6 131) [.ref r, .int a0, .int a1] K R M (some (.long res)) K R M' := by
  refine ct_of (by decide +kernel) (Nat.le_of_ble_eq_true rfl) (fun w hw => ?_)
  change w 0 0 0 [(0, .ref r), (1, .int a0), (2, .int a1)] [] K R M
  replace hm := h_start hm
  unfold mX8_join at hm
  obtain ⟨h1, m46⟩ := h_ck hm
  clear hm
  refine r_aload_n hw dX8_join_0 0 rfl ?_
  refine r_iload_n hw dX8_join_1 1 rfl ?_
  obtain ⟨i2, g2, m47⟩ := h_bd m46
  clear m46
  refine r_callV1 hw (tX8_isPiece l G b0 g2) lB_X8_isPiece lI_X8_isPiece mL_X8_226 (c := 8) rfl h1 rfl (Nat.le_of_ble_eq_true rfl) (Nat.le_of_ble_eq_true rfl) rfl (Nat.le_of_ble_eq_true rfl) dX8_join_2 ?_
  refine r_if_eq (tgt := 21) hw dX8_join_5 (by decide) (fun c3 => ?_) (fun c3 => ?_)
  · have m48 := h_if_t c3 m47
    clear m47
    refine r_ldc2 (v := (-9000000000000000001)) hw dX8_join_21 kW_X8_160 ?_
    cases h_ret m48
    exact r_lreturn hw rfl rfl dX8_join_24
  · have m49 := h_if_f c3 m47
    clear m47
    refine r_aload_n hw dX8_join_8 0 rfl ?_
    refine r_iload_n hw dX8_join_9 2 rfl ?_
    obtain ⟨i4, g4, m50⟩ := h_bd m49
    clear m49
    refine r_callV1 hw (tX8_isPiece l G b0 g4) lB_X8_isPiece lI_X8_isPiece mL_X8_226 (c := 8) rfl h1 rfl (Nat.le_of_ble_eq_true rfl) (Nat.le_of_ble_eq_true rfl) rfl (Nat.le_of_ble_eq_true rfl) dX8_join_10 ?_
    refine r_if_eq (tgt := 21) hw dX8_join_13 (by decide) (fun c5 => ?_) (fun c5 => ?_)
    · have m51 := h_if_t c5 m50
      clear m50
      refine r_ldc2 (v := (-9000000000000000001)) hw dX8_join_21 kW_X8_160 ?_
      cases h_ret m51
      exact r_lreturn hw rfl rfl dX8_join_24
    · have m52 := h_if_f c5 m50
      clear m50
      refine r_iload_n hw dX8_join_16 1 rfl ?_
      refine r_iload_n hw dX8_join_17 2 rfl ?_
      refine r_icmp_ne (tgt := 25) hw dX8_join_18 (by decide) (fun c6 => ?_) (fun c6 => ?_)
      · have m53 := h_if_f c6 m52
        clear m52
        refine r_aload_n hw dX8_join_25 0 rfl ?_
        refine r_iload_n hw dX8_join_26 1 rfl ?_
        refine r_bipush (v := 33) hw dX8_join_27 rfl ?_
        obtain ⟨l7, g7, m54⟩ := h_bd m53
        clear m53
        refine r_callV1 hw (tX8_get l G b0 g7) lB_X8_get lI_X8_get mL_X8_103 (c := 8) rfl h1 rfl (Nat.le_of_ble_eq_true rfl) (Nat.le_of_ble_eq_true rfl) rfl (Nat.le_of_ble_eq_true rfl) dX8_join_29 ?_
        refine r_aload_n hw dX8_join_32 0 rfl ?_
        refine r_iload_n hw dX8_join_33 2 rfl ?_
        refine r_bipush (v := 33) hw dX8_join_34 rfl ?_
        obtain ⟨l8, g8, m55⟩ := h_bd m54
        clear m54
        refine r_callV1 hw (tX8_get l G b0 g8) lB_X8_get lI_X8_get mL_X8_103 (c := 8) rfl h1 rfl (Nat.le_of_ble_eq_true rfl) (Nat.le_of_ble_eq_true rfl) rfl (Nat.le_of_ble_eq_true rfl) dX8_join_36 ?_
        refine r_lcmp_ne (tgt := 79) hw dX8_join_39 dX8_join_40 (by decide) (fun c9 => ?_) (fun c9 => ?_)
        · have m56 := h_if_f c9 m55
          clear m55
          refine r_ldc2 (v := (-9000000000000000002)) hw dX8_join_79 kW_X8_113 ?_
          cases h_ret m56
          exact r_lreturn hw rfl rfl dX8_join_82
        · have m57 := h_if_t c9 m55
          clear m55
          refine r_aload_n hw dX8_join_43 0 rfl ?_
          refine r_iload_n hw dX8_join_44 1 rfl ?_
          refine r_bipush (v := 34) hw dX8_join_45 rfl ?_
          obtain ⟨l10, g10, m58⟩ := h_bd m57
          clear m57
          refine r_callV1 hw (tX8_get l G b0 g10) lB_X8_get lI_X8_get mL_X8_103 (c := 8) rfl h1 rfl (Nat.le_of_ble_eq_true rfl) (Nat.le_of_ble_eq_true rfl) rfl (Nat.le_of_ble_eq_true rfl) dX8_join_47 ?_
          refine r_aload_n hw dX8_join_50 0 rfl ?_
          refine r_iload_n hw dX8_join_51 2 rfl ?_
          refine r_bipush (v := 34) hw dX8_join_52 rfl ?_
          obtain ⟨l11, g11, m59⟩ := h_bd m58
          clear m58
          refine r_callV1 hw (tX8_get l G b0 g11) lB_X8_get lI_X8_get mL_X8_103 (c := 8) rfl h1 rfl (Nat.le_of_ble_eq_true rfl) (Nat.le_of_ble_eq_true rfl) rfl (Nat.le_of_ble_eq_true rfl) dX8_join_54 ?_
          refine r_lcmp_ne (tgt := 79) hw dX8_join_57 dX8_join_58 (by decide) (fun c12 => ?_) (fun c12 => ?_)
          · have m60 := h_if_f c12 m59
            clear m59
            refine r_ldc2 (v := (-9000000000000000002)) hw dX8_join_79 kW_X8_113 ?_
            cases h_ret m60
            exact r_lreturn hw rfl rfl dX8_join_82
          · have m61 := h_if_t c12 m59
            clear m59
            refine r_aload_n hw dX8_join_61 0 rfl ?_
            refine r_iload_n hw dX8_join_62 1 rfl ?_
            refine r_bipush (v := 35) hw dX8_join_63 rfl ?_
            obtain ⟨l13, g13, m62⟩ := h_bd m61
            clear m61
            refine r_callV1 hw (tX8_get l G b0 g13) lB_X8_get lI_X8_get mL_X8_103 (c := 8) rfl h1 rfl (Nat.le_of_ble_eq_true rfl) (Nat.le_of_ble_eq_true rfl) rfl (Nat.le_of_ble_eq_true rfl) dX8_join_65 ?_
            refine r_aload_n hw dX8_join_68 0 rfl ?_
            refine r_iload_n hw dX8_join_69 2 rfl ?_
            refine r_bipush (v := 35) hw dX8_join_70 rfl ?_
            obtain ⟨l14, g14, m63⟩ := h_bd m62
            clear m62
            refine r_callV1 hw (tX8_get l G b0 g14) lB_X8_get lI_X8_get mL_X8_103 (c := 8) rfl h1 rfl (Nat.le_of_ble_eq_true rfl) (Nat.le_of_ble_eq_true rfl) rfl (Nat.le_of_ble_eq_true rfl) dX8_join_72 ?_
            refine r_lcmp_eq (tgt := 83) hw dX8_join_75 dX8_join_76 (by decide) (fun c15 => ?_) (fun c15 => ?_)
            · have m64 := h_if_t c15 m63
              clear m63
              refine r_aload_n hw dX8_join_83 0 rfl ?_
              refine r_iload_n hw dX8_join_84 2 rfl ?_
              obtain ⟨M16, g16, m65⟩ := h_bd m64
              clear m64
              refine r_callV0 hw (tX8_lookB l G b0 g16) lB_X8_lookB lI_X8_lookB mL_X8_244 (c := 8) rfl h1 rfl (Nat.le_of_ble_eq_true rfl) (Nat.le_of_ble_eq_true rfl) rfl (Nat.le_of_ble_eq_true rfl) dX8_join_85 ?_
              refine r_aload_n hw dX8_join_88 0 rfl ?_
              refine r_iload_n hw dX8_join_89 1 rfl ?_
              obtain ⟨M17, g17, m66⟩ := h_bd m65
              clear m65
              refine r_callV0 hw (tX8_lookA l G b0 g17) lB_X8_lookA lI_X8_lookA mL_X8_149 (c := 8) rfl h1 rfl (Nat.le_of_ble_eq_true rfl) (Nat.le_of_ble_eq_true rfl) rfl (Nat.le_of_ble_eq_true rfl) dX8_join_90 ?_
              refine r_aload_n hw dX8_join_93 0 rfl ?_
              obtain ⟨i18, g18, m67⟩ := h_bd m66
              clear m66
              refine r_callV1 hw (tX8_commonSide l G b0 g18) lB_X8_commonSide lI_X8_commonSide mL_X8_247 (c := 8) rfl h1 rfl (Nat.le_of_ble_eq_true rfl) (Nat.le_of_ble_eq_true rfl) rfl (Nat.le_of_ble_eq_true rfl) dX8_join_94 ?_
              refine r_istore_n hw dX8_join_97 rfl (by decide) rfl ?_
              refine r_iload_n hw dX8_join_98 0 rfl ?_
              refine r_if_ge (tgt := 106) hw dX8_join_99 (by decide) (fun c19 => ?_) (fun c19 => ?_)
              · have m68 := h_if_f c19 m67
                clear m67
                refine r_aload_n hw dX8_join_106 1 rfl ?_
                refine r_iload_n hw dX8_join_107 0 rfl ?_
                obtain ⟨M20, g20, m69⟩ := h_bd m68
                clear m68
                refine r_callV0 hw (tX8_together l G b0 g20) lB_X8_together lI_X8_together mL_X8_250 (c := 8) rfl h1 rfl (Nat.le_of_ble_eq_true rfl) (Nat.le_of_ble_eq_true rfl) rfl (Nat.le_of_ble_eq_true rfl) dX8_join_108 ?_
                refine r_aload_n hw dX8_join_111 1 rfl ?_
                obtain ⟨i21, g21, m70⟩ := h_bd m69
                clear m69
                refine r_callV1 hw (tX8_isOutward l G b0 g21) lB_X8_isOutward lI_X8_isOutward mL_X8_253 (c := 8) rfl h1 rfl (Nat.le_of_ble_eq_true rfl) (Nat.le_of_ble_eq_true rfl) rfl (Nat.le_of_ble_eq_true rfl) dX8_join_112 ?_
                refine r_if_ne (tgt := 122) hw dX8_join_115 (by decide) (fun c22 => ?_) (fun c22 => ?_)
                · have m71 := h_if_f c22 m70
                  clear m70
                  refine r_aload_n hw dX8_join_122 1 rfl ?_
                  obtain ⟨M23, g23, m72⟩ := h_bd m71
                  clear m71
                  refine r_callV0 hw (tX8_beginPoints l G b0 g23) lB_X8_beginPoints lI_X8_beginPoints mL_X8_132 (c := 8) rfl h1 rfl (Nat.le_of_ble_eq_true rfl) (Nat.le_of_ble_eq_true rfl) rfl (Nat.le_of_ble_eq_true rfl) dX8_join_123 ?_
                  refine r_iconst (v := 0) hw dX8_join_126 rfl ?_
                  obtain ⟨i24, ei24, m73⟩ := h_nm m72
                  clear m72
                  refine r_topI (w := w) ei24 ?_
                  refine r_istore hw dX8_join_127 (by decide) rfl ?_
                  refine r_sub hw [2, 3, 4, 0] rfl ?_
                  obtain ⟨v129, n0129, hn129, hv129⟩ := h_lp m73
                  clear m73
                  have L129 : ∀ n : Nat, ∀ (i25 : Int32) (M26 : Mm), it (mX8_join_L129 K R r a0 a1) n (i25, M26) = some v129 → w 0 0 129 [(0, .ref r), (1, .int a0), (2, .int a1), (4, .int i25)] [] K R M26 := by
                    intro n129
                    induction n129 with
                    | zero => intro i25 M26 hz; exact absurd hz h_it0
                    | succ n129 ih129 =>
                      intro i25 M26 m74
                      replace m74 : (mX8_join_B129 K R r a0 a1 i25 M26).bind (Sum.elim (it (mX8_join_L129 K R r a0 a1) n129) some) = some v129 := m74
                      unfold mX8_join_B129 at m74
                      refine r_iload hw dX8_join_129 3 rfl ?_
                      refine r_aload_n hw dX8_join_131 0 rfl ?_
                      refine r_getI hw fO_X8_241 h1 dX8_join_132 ?_
                      refine r_icmp_ge (tgt := 162) hw dX8_join_135 (by decide) (fun c27 => ?_) (fun c27 => ?_)
                      · have m75 := h_if_f c27 m74
                        clear m74
                        have m76 := h_ex m75 hv129
                        clear m75
                        refine r_aload_n hw dX8_join_162 0 rfl ?_
                        obtain ⟨M28, g28, m77⟩ := h_bd m76
                        clear m76
                        refine r_callV0 hw (tX8_outermost l G b0 g28) lB_X8_outermost lI_X8_outermost mL_X8_143 (c := 8) rfl h1 rfl (Nat.le_of_ble_eq_true rfl) (Nat.le_of_ble_eq_true rfl) rfl (Nat.le_of_ble_eq_true rfl) dX8_join_163 ?_
                        refine r_aload_n hw dX8_join_166 0 rfl ?_
                        refine r_getI hw fO_X8_118 h1 dX8_join_167 ?_
                        refine r_bipush (v := 16) hw dX8_join_170 rfl ?_
                        refine r_icmp_le (tgt := 179) hw dX8_join_172 (by decide) (fun c29 => ?_) (fun c29 => ?_)
                        · have m78 := h_if_t c29 m77
                          clear m77
                          refine r_aload_n hw dX8_join_179 0 rfl ?_
                          obtain ⟨M30, g30, m79⟩ := h_bd m78
                          clear m78
                          refine r_callV0 hw (tX8_keep l G b0 g30) lB_X8_keep lI_X8_keep mL_X8_174 (c := 8) rfl h1 rfl (Nat.le_of_ble_eq_true rfl) (Nat.le_of_ble_eq_true rfl) rfl (Nat.le_of_ble_eq_true rfl) dX8_join_180 ?_
                          refine r_aload_n hw dX8_join_183 0 rfl ?_
                          refine r_iload_n hw dX8_join_184 1 rfl ?_
                          refine r_aload_n hw dX8_join_185 0 rfl ?_
                          refine r_iload_n hw dX8_join_186 1 rfl ?_
                          refine r_bipush (v := 33) hw dX8_join_187 rfl ?_
                          obtain ⟨l31, g31, m80⟩ := h_bd m79
                          clear m79
                          refine r_callV1 hw (tX8_get l G b0 g31) lB_X8_get lI_X8_get mL_X8_103 (c := 8) rfl h1 rfl (Nat.le_of_ble_eq_true rfl) (Nat.le_of_ble_eq_true rfl) rfl (Nat.le_of_ble_eq_true rfl) dX8_join_189 ?_
                          refine r_aload_n hw dX8_join_192 0 rfl ?_
                          refine r_iload_n hw dX8_join_193 1 rfl ?_
                          refine r_bipush (v := 34) hw dX8_join_194 rfl ?_
                          obtain ⟨l32, g32, m81⟩ := h_bd m80
                          clear m80
                          refine r_callV1 hw (tX8_get l G b0 g32) lB_X8_get lI_X8_get mL_X8_103 (c := 8) rfl h1 rfl (Nat.le_of_ble_eq_true rfl) (Nat.le_of_ble_eq_true rfl) rfl (Nat.le_of_ble_eq_true rfl) dX8_join_196 ?_
                          refine r_aload_n hw dX8_join_199 0 rfl ?_
                          refine r_iload_n hw dX8_join_200 1 rfl ?_
                          refine r_bipush (v := 35) hw dX8_join_201 rfl ?_
                          obtain ⟨l33, g33, m82⟩ := h_bd m81
                          clear m81
                          refine r_callV1 hw (tX8_get l G b0 g33) lB_X8_get lI_X8_get mL_X8_103 (c := 8) rfl h1 rfl (Nat.le_of_ble_eq_true rfl) (Nat.le_of_ble_eq_true rfl) rfl (Nat.le_of_ble_eq_true rfl) dX8_join_203 ?_
                          obtain ⟨M34, g34, m83⟩ := h_bd m82
                          clear m82
                          refine r_callV0 hw (tX8_originOf l G b0 g34) lB_X8_originOf lI_X8_originOf mL_X8_177 (c := 8) rfl h1 rfl (Nat.le_of_ble_eq_true rfl) (Nat.le_of_ble_eq_true rfl) rfl (Nat.le_of_ble_eq_true rfl) dX8_join_206 ?_
                          refine r_aload_n hw dX8_join_209 0 rfl ?_
                          obtain ⟨q35, bq35, m84⟩ := h_bd m83
                          clear m83
                          refine r_getR hw fO_X8_7 h1 bq35 dX8_join_210 ?_
                          refine r_bipush (v := 37) hw dX8_join_213 rfl ?_
                          refine r_iload_n hw dX8_join_215 1 rfl ?_
                          refine r_imul hw dX8_join_216 ?_
                          refine r_bipush (v := 36) hw dX8_join_217 rfl ?_
                          refine r_iadd hw dX8_join_219 ?_
                          refine r_lconst (v := 0) hw dX8_join_220 rfl ?_
                          obtain ⟨h36, m85⟩ := h_ck m84
                          clear m84
                          obtain ⟨M37, eM37, m86⟩ := h_nm m85
                          clear m85
                          refine r_lastore hw h36 dX8_join_221 (r_mem ?_ rfl eM37)
                          refine r_aload_n hw dX8_join_222 0 rfl ?_
                          refine r_getI hw fO_X8_118 h1 dX8_join_223 ?_
                          refine r_i2l hw dX8_join_226 ?_
                          obtain ⟨l38, el38, m87⟩ := h_nm m86
                          clear m86
                          refine r_topL (w := w) el38 ?_
                          refine r_lstore hw dX8_join_227 (by decide) rfl ?_
                          refine r_aload_n hw dX8_join_229 1 rfl ?_
                          refine r_iload_n hw dX8_join_230 3 rfl ?_
                          obtain ⟨M39, g39, m88⟩ := h_bd m87
                          clear m87
                          refine r_callV0 hw (tX8_dropPiece l G b0 g39) lB_X8_dropPiece lI_X8_dropPiece mL_X8_256 (c := 8) rfl h1 rfl (Nat.le_of_ble_eq_true rfl) (Nat.le_of_ble_eq_true rfl) rfl (Nat.le_of_ble_eq_true rfl) dX8_join_231 ?_
                          refine r_lload hw dX8_join_234 0 rfl ?_
                          cases h_ret m88
                          exact r_lreturn hw rfl rfl dX8_join_236
                        · have m89 := h_if_f c29 m77
                          clear m77
                          refine r_ldc2 (v := (-9000000000000000003)) hw dX8_join_175 kW_X8_162 ?_
                          cases h_ret m89
                          exact r_lreturn hw rfl rfl dX8_join_178
                      · have m90 := h_if_t c27 m74
                        clear m74
                        refine r_aload_n hw dX8_join_138 0 rfl ?_
                        refine r_aload_n hw dX8_join_139 0 rfl ?_
                        obtain ⟨q40, bq40, m91⟩ := h_bd m90
                        clear m90
                        refine r_getR hw fO_X8_66 h1 bq40 dX8_join_140 ?_
                        refine r_iload hw dX8_join_143 3 rfl ?_
                        obtain ⟨h41, m92⟩ := h_ck m91
                        clear m91
                        refine r_laload hw h41 dX8_join_145 ?_
                        refine r_aload_n hw dX8_join_146 0 rfl ?_
                        obtain ⟨q42, bq42, m93⟩ := h_bd m92
                        clear m92
                        refine r_getR hw fO_X8_69 h1 bq42 dX8_join_147 ?_
                        refine r_iload hw dX8_join_150 3 rfl ?_
                        obtain ⟨h43, m94⟩ := h_ck m93
                        clear m93
                        refine r_laload hw h43 dX8_join_152 ?_
                        obtain ⟨M44, g44, m95⟩ := h_bd m94
                        clear m94
                        refine r_callV0 hw (tX8_point l G b0 g44) lB_X8_point lI_X8_point mL_X8_139 (c := 8) rfl h1 rfl (Nat.le_of_ble_eq_true rfl) (Nat.le_of_ble_eq_true rfl) rfl (Nat.le_of_ble_eq_true rfl) dX8_join_153 ?_
                        obtain ⟨i45, ei45, m96⟩ := h_nm m95
                        clear m95
                        refine r_iinc (j := 3) (v := i45) hw dX8_join_156 rfl (by rw [ei45]; rfl) (by decide) rfl ?_
                        refine r_goto (tgt := 129) hw dX8_join_159 (by decide) ?_
                        refine r_sub hw [1, 2, 3, 0] rfl ?_
                        exact ih129 _ _ m96
                  exact L129 n0129 _ _ hn129
                · have m97 := h_if_t c22 m70
                  clear m70
                  refine r_ldc2 (v := (-9000000000000000002)) hw dX8_join_118 kW_X8_113 ?_
                  cases h_ret m97
                  exact r_lreturn hw rfl rfl dX8_join_121
              · have m98 := h_if_t c19 m67
                clear m67
                refine r_ldc2 (v := (-9000000000000000002)) hw dX8_join_102 kW_X8_113 ?_
                cases h_ret m98
                exact r_lreturn hw rfl rfl dX8_join_105
            · have m99 := h_if_f c15 m63
              clear m63
              refine r_ldc2 (v := (-9000000000000000002)) hw dX8_join_79 kW_X8_113 ?_
              cases h_ret m99
              exact r_lreturn hw rfl rfl dX8_join_82
      · have m100 := h_if_t c6 m52
        clear m52
        refine r_ldc2 (v := (-9000000000000000001)) hw dX8_join_21 kW_X8_160 ?_
        cases h_ret m100
        exact r_lreturn hw rfl rfl dX8_join_24
theorem dX8_aside_0 : decode cX8_aside 0 = .ok (.aload_n 0, 1) := by decide +kernel
theorem dX8_aside_1 : decode cX8_aside 1 = .ok (.iload_n 1, 1) := by decide +kernel
theorem dX8_aside_2 : decode cX8_aside 2 = .ok (.invokevirtual 226, 3) := by decide +kernel
theorem dX8_aside_5 : decode cX8_aside 5 = .ok (.ifCond .eq 13, 3) := by decide +kernel
theorem dX8_aside_8 : decode cX8_aside 8 = .ok (.iload_n 2, 1) := by decide +kernel
theorem dX8_aside_9 : decode cX8_aside 9 = .ok (.i2l, 1) := by decide +kernel
theorem dX8_aside_10 : decode cX8_aside 10 = .ok (.lconst 0, 1) := by decide +kernel
theorem dX8_aside_11 : decode cX8_aside 11 = .ok (.lconst 1, 1) := by decide +kernel
theorem dX8_aside_12 : decode cX8_aside 12 = .ok (.invokestatic 95, 3) := by decide +kernel
theorem dX8_aside_15 : decode cX8_aside 15 = .ok (.ifCond .ne 7, 3) := by decide +kernel
theorem dX8_aside_18 : decode cX8_aside 18 = .ok (.ldc2_w 160, 3) := by decide +kernel
theorem dX8_aside_21 : decode cX8_aside 21 = .ok (.lreturn, 1) := by decide +kernel
theorem dX8_aside_22 : decode cX8_aside 22 = .ok (.iload_n 2, 1) := by decide +kernel
theorem dX8_aside_23 : decode cX8_aside 23 = .ok (.iconst 1, 1) := by decide +kernel
theorem dX8_aside_24 : decode cX8_aside 24 = .ok (.if_icmp .ne 16, 3) := by decide +kernel
theorem dX8_aside_27 : decode cX8_aside 27 = .ok (.aload_n 0, 1) := by decide +kernel
theorem dX8_aside_28 : decode cX8_aside 28 = .ok (.iload_n 1, 1) := by decide +kernel
theorem dX8_aside_29 : decode cX8_aside 29 = .ok (.invokevirtual 135, 3) := by decide +kernel
theorem dX8_aside_32 : decode cX8_aside 32 = .ok (.iconst 3, 1) := by decide +kernel
theorem dX8_aside_33 : decode cX8_aside 33 = .ok (.if_icmp .eq 7, 3) := by decide +kernel
theorem dX8_aside_36 : decode cX8_aside 36 = .ok (.ldc2_w 113, 3) := by decide +kernel
theorem dX8_aside_39 : decode cX8_aside 39 = .ok (.lreturn, 1) := by decide +kernel
theorem dX8_aside_40 : decode cX8_aside 40 = .ok (.aload_n 0, 1) := by decide +kernel
theorem dX8_aside_41 : decode cX8_aside 41 = .ok (.invokevirtual 174, 3) := by decide +kernel
theorem dX8_aside_44 : decode cX8_aside 44 = .ok (.aload_n 0, 1) := by decide +kernel
theorem dX8_aside_45 : decode cX8_aside 45 = .ok (.iload_n 1, 1) := by decide +kernel
theorem dX8_aside_46 : decode cX8_aside 46 = .ok (.bipush 36, 2) := by decide +kernel
theorem dX8_aside_48 : decode cX8_aside 48 = .ok (.invokevirtual 103, 3) := by decide +kernel
theorem dX8_aside_51 : decode cX8_aside 51 = .ok (.lstore_n 3, 1) := by decide +kernel
theorem dX8_aside_52 : decode cX8_aside 52 = .ok (.aload_n 0, 1) := by decide +kernel
theorem dX8_aside_53 : decode cX8_aside 53 = .ok (.getfield 7, 3) := by decide +kernel
theorem dX8_aside_56 : decode cX8_aside 56 = .ok (.bipush 37, 2) := by decide +kernel
theorem dX8_aside_58 : decode cX8_aside 58 = .ok (.iload_n 1, 1) := by decide +kernel
theorem dX8_aside_59 : decode cX8_aside 59 = .ok (.imul, 1) := by decide +kernel
theorem dX8_aside_60 : decode cX8_aside 60 = .ok (.bipush 36, 2) := by decide +kernel
theorem dX8_aside_62 : decode cX8_aside 62 = .ok (.iadd, 1) := by decide +kernel
theorem dX8_aside_63 : decode cX8_aside 63 = .ok (.iload_n 2, 1) := by decide +kernel
theorem dX8_aside_64 : decode cX8_aside 64 = .ok (.i2l, 1) := by decide +kernel
theorem dX8_aside_65 : decode cX8_aside 65 = .ok (.lastore, 1) := by decide +kernel
theorem dX8_aside_66 : decode cX8_aside 66 = .ok (.lload_n 3, 1) := by decide +kernel
theorem dX8_aside_67 : decode cX8_aside 67 = .ok (.lreturn, 1) := by decide +kernel
set_option maxHeartbeats 4000000 in
set_option maxRecDepth 100000 in
theorem tX8_aside (l : Launch) (G : Gg) (b0 : Nat) {K : Kk} {R : Rr} {M : Mm} {r : Nat} {a0 : Int32} {a1 : Int32} {res : Int64} {M' : Mm} (hm : mX8_aside K R M r a0 a1 = some (res, M')) : CT l G b0 yX8_aside cX8_aside 5 (some .long) (rmz 3 46) [.ref r, .int a0, .int a1] K R M (some (.long res)) K R M' := by
  refine ct_of (by decide +kernel) (Nat.le_of_ble_eq_true rfl) (fun w hw => ?_)
  change w 0 0 0 [(0, .ref r), (1, .int a0), (2, .int a1)] [] K R M
  replace hm := h_start hm
  unfold mX8_aside at hm
  obtain ⟨h1, m15⟩ := h_ck hm
  clear hm
  have J40 : ∀ (M2 : Mm), (mX8_aside_J40 K R M2 r a0 a1).bind some = some (res, M') → w 0 0 40 [(0, .ref r), (1, .int a0), (2, .int a1)] [] K R M2 := by
    intro M2  m16
    unfold mX8_aside_J40 at m16
    refine r_aload_n hw dX8_aside_40 0 rfl ?_
    obtain ⟨M3, g3, m17⟩ := h_bd m16
    clear m16
    refine r_callV0 hw (tX8_keep l G b0 g3) lB_X8_keep lI_X8_keep mL_X8_174 (c := 8) rfl h1 rfl (Nat.le_of_ble_eq_true rfl) (Nat.le_of_ble_eq_true rfl) rfl (Nat.le_of_ble_eq_true rfl) dX8_aside_41 ?_
    refine r_aload_n hw dX8_aside_44 0 rfl ?_
    refine r_iload_n hw dX8_aside_45 1 rfl ?_
    refine r_bipush (v := 36) hw dX8_aside_46 rfl ?_
    obtain ⟨l4, g4, m18⟩ := h_bd m17
    clear m17
    refine r_callV1 hw (tX8_get l G b0 g4) lB_X8_get lI_X8_get mL_X8_103 (c := 8) rfl h1 rfl (Nat.le_of_ble_eq_true rfl) (Nat.le_of_ble_eq_true rfl) rfl (Nat.le_of_ble_eq_true rfl) dX8_aside_48 ?_
    refine r_lstore_n hw dX8_aside_51 rfl (by decide) rfl ?_
    refine r_aload_n hw dX8_aside_52 1 rfl ?_
    obtain ⟨q5, bq5, m19⟩ := h_bd m18
    clear m18
    refine r_getR hw fO_X8_7 h1 bq5 dX8_aside_53 ?_
    refine r_bipush (v := 37) hw dX8_aside_56 rfl ?_
    refine r_iload_n hw dX8_aside_58 2 rfl ?_
    refine r_imul hw dX8_aside_59 ?_
    refine r_bipush (v := 36) hw dX8_aside_60 rfl ?_
    refine r_iadd hw dX8_aside_62 ?_
    refine r_iload_n hw dX8_aside_63 3 rfl ?_
    refine r_i2l hw dX8_aside_64 ?_
    obtain ⟨h6, m20⟩ := h_ck m19
    clear m19
    obtain ⟨M7, eM7, m21⟩ := h_nm m20
    clear m20
    refine r_lastore hw h6 dX8_aside_65 (r_mem ?_ rfl eM7)
    refine r_lload_n hw dX8_aside_66 0 rfl ?_
    cases h_ret m21
    exact r_lreturn hw rfl rfl dX8_aside_67
  refine r_aload_n hw dX8_aside_0 0 rfl ?_
  refine r_iload_n hw dX8_aside_1 1 rfl ?_
  obtain ⟨i8, g8, m22⟩ := h_bd m15
  clear m15
  refine r_callV1 hw (tX8_isPiece l G b0 g8) lB_X8_isPiece lI_X8_isPiece mL_X8_226 (c := 8) rfl h1 rfl (Nat.le_of_ble_eq_true rfl) (Nat.le_of_ble_eq_true rfl) rfl (Nat.le_of_ble_eq_true rfl) dX8_aside_2 ?_
  refine r_if_eq (tgt := 18) hw dX8_aside_5 (by decide) (fun c9 => ?_) (fun c9 => ?_)
  · have m23 := h_if_t c9 m22
    clear m22
    refine r_ldc2 (v := (-9000000000000000001)) hw dX8_aside_18 kW_X8_160 ?_
    cases h_ret m23
    exact r_lreturn hw rfl rfl dX8_aside_21
  · have m24 := h_if_f c9 m22
    clear m22
    refine r_iload_n hw dX8_aside_8 2 rfl ?_
    refine r_i2l hw dX8_aside_9 ?_
    refine r_lconst (v := 0) hw dX8_aside_10 rfl ?_
    refine r_lconst (v := 1) hw dX8_aside_11 rfl ?_
    obtain ⟨i10, g10, m25⟩ := h_bd m24
    clear m24
    refine r_callS1 hw (tX8_isIn l G b0 g10) lB_X8_isIn sT_X8_isIn mL_X8_95 rfl rfl (Nat.le_of_ble_eq_true rfl) (Nat.le_of_ble_eq_true rfl) rfl (Nat.le_of_ble_eq_true rfl) dX8_aside_12 ?_
    refine r_if_ne (tgt := 22) hw dX8_aside_15 (by decide) (fun c11 => ?_) (fun c11 => ?_)
    · have m26 := h_if_f c11 m25
      clear m25
      refine r_iload_n hw dX8_aside_22 2 rfl ?_
      refine r_iconst (v := 1) hw dX8_aside_23 rfl ?_
      refine r_icmp_ne (tgt := 40) hw dX8_aside_24 (by decide) (fun c12 => ?_) (fun c12 => ?_)
      · have m27 := h_if_f c12 m26
        clear m26
        exact J40 _ m27
      · have m28 := h_if_t c12 m26
        clear m26
        refine r_aload_n hw dX8_aside_27 0 rfl ?_
        refine r_iload_n hw dX8_aside_28 1 rfl ?_
        obtain ⟨i13, g13, m29⟩ := h_bd m28
        clear m28
        refine r_callV1 hw (tX8_size l G b0 g13) lB_X8_size lI_X8_size mL_X8_135 (c := 8) rfl h1 rfl (Nat.le_of_ble_eq_true rfl) (Nat.le_of_ble_eq_true rfl) rfl (Nat.le_of_ble_eq_true rfl) dX8_aside_29 ?_
        refine r_iconst (v := 3) hw dX8_aside_32 rfl ?_
        refine r_icmp_eq (tgt := 40) hw dX8_aside_33 (by decide) (fun c14 => ?_) (fun c14 => ?_)
        · have m30 := h_if_t c14 m29
          clear m29
          exact J40 _ m30
        · have m31 := h_if_f c14 m29
          clear m29
          refine r_ldc2 (v := (-9000000000000000002)) hw dX8_aside_36 kW_X8_113 ?_
          cases h_ret m31
          exact r_lreturn hw rfl rfl dX8_aside_39
    · have m32 := h_if_t c11 m25
      clear m25
      refine r_ldc2 (v := (-9000000000000000001)) hw dX8_aside_18 kW_X8_160 ?_
      cases h_ret m32
      exact r_lreturn hw rfl rfl dX8_aside_21
theorem dX8_back_0 : decode cX8_back 0 = .ok (.aload_n 0, 1) := by decide +kernel
theorem dX8_back_1 : decode cX8_back 1 = .ok (.invokevirtual 174, 3) := by decide +kernel
theorem dX8_back_4 : decode cX8_back 4 = .ok (.iconst 0, 1) := by decide +kernel
theorem dX8_back_5 : decode cX8_back 5 = .ok (.istore_n 1, 1) := by decide +kernel
theorem dX8_back_6 : decode cX8_back 6 = .ok (.iconst 0, 1) := by decide +kernel
theorem dX8_back_7 : decode cX8_back 7 = .ok (.istore_n 2, 1) := by decide +kernel
theorem dX8_back_8 : decode cX8_back 8 = .ok (.iload_n 2, 1) := by decide +kernel
theorem dX8_back_9 : decode cX8_back 9 = .ok (.aload_n 0, 1) := by decide +kernel
theorem dX8_back_10 : decode cX8_back 10 = .ok (.invokevirtual 99, 3) := by decide +kernel
theorem dX8_back_13 : decode cX8_back 13 = .ok (.if_icmp .ge 61, 3) := by decide +kernel
theorem dX8_back_16 : decode cX8_back 16 = .ok (.iload_n 1, 1) := by decide +kernel
theorem dX8_back_17 : decode cX8_back 17 = .ok (.aload_n 0, 1) := by decide +kernel
theorem dX8_back_18 : decode cX8_back 18 = .ok (.iload_n 2, 1) := by decide +kernel
theorem dX8_back_19 : decode cX8_back 19 = .ok (.bipush 33, 2) := by decide +kernel
theorem dX8_back_21 : decode cX8_back 21 = .ok (.invokevirtual 103, 3) := by decide +kernel
theorem dX8_back_24 : decode cX8_back 24 = .ok (.lconst 1, 1) := by decide +kernel
theorem dX8_back_25 : decode cX8_back 25 = .ok (.lcmp, 1) := by decide +kernel
theorem dX8_back_26 : decode cX8_back 26 = .ok (.ifCond .ne 27, 3) := by decide +kernel
theorem dX8_back_29 : decode cX8_back 29 = .ok (.aload_n 0, 1) := by decide +kernel
theorem dX8_back_30 : decode cX8_back 30 = .ok (.iload_n 2, 1) := by decide +kernel
theorem dX8_back_31 : decode cX8_back 31 = .ok (.bipush 34, 2) := by decide +kernel
theorem dX8_back_33 : decode cX8_back 33 = .ok (.invokevirtual 103, 3) := by decide +kernel
theorem dX8_back_36 : decode cX8_back 36 = .ok (.lconst 0, 1) := by decide +kernel
theorem dX8_back_37 : decode cX8_back 37 = .ok (.lcmp, 1) := by decide +kernel
theorem dX8_back_38 : decode cX8_back 38 = .ok (.ifCond .ne 15, 3) := by decide +kernel
theorem dX8_back_41 : decode cX8_back 41 = .ok (.aload_n 0, 1) := by decide +kernel
theorem dX8_back_42 : decode cX8_back 42 = .ok (.iload_n 2, 1) := by decide +kernel
theorem dX8_back_43 : decode cX8_back 43 = .ok (.bipush 35, 2) := by decide +kernel
theorem dX8_back_45 : decode cX8_back 45 = .ok (.invokevirtual 103, 3) := by decide +kernel
theorem dX8_back_48 : decode cX8_back 48 = .ok (.lconst 0, 1) := by decide +kernel
theorem dX8_back_49 : decode cX8_back 49 = .ok (.lcmp, 1) := by decide +kernel
theorem dX8_back_50 : decode cX8_back 50 = .ok (.ifCond .eq 7, 3) := by decide +kernel
theorem dX8_back_53 : decode cX8_back 53 = .ok (.iconst 1, 1) := by decide +kernel
theorem dX8_back_54 : decode cX8_back 54 = .ok (.goto 4, 3) := by decide +kernel
theorem dX8_back_57 : decode cX8_back 57 = .ok (.iconst 0, 1) := by decide +kernel
theorem dX8_back_58 : decode cX8_back 58 = .ok (.iadd, 1) := by decide +kernel
theorem dX8_back_59 : decode cX8_back 59 = .ok (.istore_n 1, 1) := by decide +kernel
theorem dX8_back_60 : decode cX8_back 60 = .ok (.aload_n 0, 1) := by decide +kernel
theorem dX8_back_61 : decode cX8_back 61 = .ok (.iload_n 2, 1) := by decide +kernel
theorem dX8_back_62 : decode cX8_back 62 = .ok (.lconst 1, 1) := by decide +kernel
theorem dX8_back_63 : decode cX8_back 63 = .ok (.lconst 0, 1) := by decide +kernel
theorem dX8_back_64 : decode cX8_back 64 = .ok (.lconst 0, 1) := by decide +kernel
theorem dX8_back_65 : decode cX8_back 65 = .ok (.invokevirtual 181, 3) := by decide +kernel
theorem dX8_back_68 : decode cX8_back 68 = .ok (.iinc 2 1, 3) := by decide +kernel
theorem dX8_back_71 : decode cX8_back 71 = .ok (.goto (-63), 3) := by decide +kernel
theorem dX8_back_74 : decode cX8_back 74 = .ok (.iload_n 1, 1) := by decide +kernel
theorem dX8_back_75 : decode cX8_back 75 = .ok (.i2l, 1) := by decide +kernel
theorem dX8_back_76 : decode cX8_back 76 = .ok (.lreturn, 1) := by decide +kernel
set_option maxHeartbeats 4000000 in
set_option maxRecDepth 100000 in
theorem tX8_back (l : Launch) (G : Gg) (b0 : Nat) {K : Kk} {R : Rr} {M : Mm} {r : Nat} {res : Int64} {M' : Mm} (hm : mX8_back K R M r = some (res, M')) : CT l G b0 yX8_back cX8_back 3 (some .long) (rmz 2 27) [.ref r] K R M (some (.long res)) K R M' := by
  refine ct_of (by decide +kernel) (Nat.le_of_ble_eq_true rfl) (fun w hw => ?_)
  change w 0 0 0 [(0, .ref r)] [] K R M
  replace hm := h_start hm
  unfold mX8_back at hm
  obtain ⟨h1, m26⟩ := h_ck hm
  clear hm
  refine r_aload_n hw dX8_back_0 0 rfl ?_
  obtain ⟨M2, g2, m27⟩ := h_bd m26
  clear m26
  refine r_callV0 hw (tX8_keep l G b0 g2) lB_X8_keep lI_X8_keep mL_X8_174 (c := 8) rfl h1 rfl (Nat.le_of_ble_eq_true rfl) (Nat.le_of_ble_eq_true rfl) rfl (Nat.le_of_ble_eq_true rfl) dX8_back_1 ?_
  refine r_iconst (v := 0) hw dX8_back_4 rfl ?_
  obtain ⟨i3, ei3, m28⟩ := h_nm m27
  clear m27
  refine r_topI (w := w) ei3 ?_
  refine r_istore_n hw dX8_back_5 rfl (by decide) rfl ?_
  refine r_iconst (v := 0) hw dX8_back_6 rfl ?_
  obtain ⟨i4, ei4, m29⟩ := h_nm m28
  clear m28
  refine r_topI (w := w) ei4 ?_
  refine r_istore_n hw dX8_back_7 rfl (by decide) rfl ?_
  refine r_sub hw [2, 1, 0] rfl ?_
  obtain ⟨v8, n08, hn8, hv8⟩ := h_lp m29
  clear m29
  have L8 : ∀ n : Nat, ∀ (i5 : Int32) (i6 : Int32) (M7 : Mm), it (mX8_back_L8 K R r) n (i5, i6, M7) = some v8 → w 0 0 8 [(0, .ref r), (1, .int i5), (2, .int i6)] [] K R M7 := by
    intro n8
    induction n8 with
    | zero => intro i5 i6 M7 hz; exact absurd hz h_it0
    | succ n8 ih8 =>
      intro i5 i6 M7 m30
      replace m30 : (mX8_back_B8 K R r i5 i6 M7).bind (Sum.elim (it (mX8_back_L8 K R r) n8) some) = some v8 := m30
      unfold mX8_back_B8 at m30
      have J58 : ∀ (M11 : Mm) (i8 : Int32) (s9 : Int32) (s10 : Int32), (mX8_back_J58 K R M11 r i8 s9 s10).bind (Sum.elim (it (mX8_back_L8 K R r) n8) some) = some v8 → w 0 0 58 [(0, .ref r), (2, .int i8)] [.int s10, .int s9] K R M11 := by
        intro M11 i8 s9 s10 m31
        unfold mX8_back_J58 at m31
        refine r_iadd hw dX8_back_58 ?_
        obtain ⟨i12, ei12, m32⟩ := h_nm m31
        clear m31
        refine r_topI (w := w) ei12 ?_
        refine r_istore_n hw dX8_back_59 rfl (by decide) rfl ?_
        refine r_aload_n hw dX8_back_60 1 rfl ?_
        refine r_iload_n hw dX8_back_61 2 rfl ?_
        refine r_lconst (v := 1) hw dX8_back_62 rfl ?_
        refine r_lconst (v := 0) hw dX8_back_63 rfl ?_
        refine r_lconst (v := 0) hw dX8_back_64 rfl ?_
        obtain ⟨M13, g13, m33⟩ := h_bd m32
        clear m32
        refine r_callV0 hw (tX8_move l G b0 g13) lB_X8_move lI_X8_move mL_X8_181 (c := 8) rfl h1 rfl (Nat.le_of_ble_eq_true rfl) (Nat.le_of_ble_eq_true rfl) rfl (Nat.le_of_ble_eq_true rfl) dX8_back_65 ?_
        obtain ⟨i14, ei14, m34⟩ := h_nm m33
        clear m33
        refine r_iinc (j := 2) (v := i14) hw dX8_back_68 rfl (by rw [ei14]; rfl) (by decide) rfl ?_
        refine r_goto (tgt := 8) hw dX8_back_71 (by decide) ?_
        refine r_sub hw [2, 1, 0] rfl ?_
        exact ih8 _ _ _ m34
      have J53 : ∀ (M17 : Mm) (i15 : Int32) (s16 : Int32), (mX8_back_J53 K R M17 r i15 s16).bind (Sum.elim (it (mX8_back_L8 K R r) n8) some) = some v8 → w 0 0 53 [(0, .ref r), (2, .int i15)] [.int s16] K R M17 := by
        intro M17 i15 s16 m35
        unfold mX8_back_J53 at m35
        refine r_iconst (v := 1) hw dX8_back_53 rfl ?_
        refine r_goto (tgt := 58) hw dX8_back_54 (by decide) ?_
        exact J58 _ _ _ _ m35
      refine r_iload_n hw dX8_back_8 2 rfl ?_
      refine r_aload_n hw dX8_back_9 0 rfl ?_
      obtain ⟨i18, g18, m36⟩ := h_bd m30
      clear m30
      refine r_callV1 hw (tX8_pieces l G b0 g18) lB_X8_pieces lI_X8_pieces mL_X8_99 (c := 8) rfl h1 rfl (Nat.le_of_ble_eq_true rfl) (Nat.le_of_ble_eq_true rfl) rfl (Nat.le_of_ble_eq_true rfl) dX8_back_10 ?_
      refine r_icmp_ge (tgt := 74) hw dX8_back_13 (by decide) (fun c19 => ?_) (fun c19 => ?_)
      · have m37 := h_if_f c19 m36
        clear m36
        have m38 := h_ex m37 hv8
        clear m37
        refine r_iload_n hw dX8_back_74 1 rfl ?_
        refine r_i2l hw dX8_back_75 ?_
        cases h_ret m38
        exact r_lreturn hw rfl rfl dX8_back_76
      · have m39 := h_if_t c19 m36
        clear m36
        refine r_iload_n hw dX8_back_16 1 rfl ?_
        refine r_aload_n hw dX8_back_17 0 rfl ?_
        refine r_iload_n hw dX8_back_18 2 rfl ?_
        refine r_bipush (v := 33) hw dX8_back_19 rfl ?_
        obtain ⟨l20, g20, m40⟩ := h_bd m39
        clear m39
        refine r_callV1 hw (tX8_get l G b0 g20) lB_X8_get lI_X8_get mL_X8_103 (c := 8) rfl h1 rfl (Nat.le_of_ble_eq_true rfl) (Nat.le_of_ble_eq_true rfl) rfl (Nat.le_of_ble_eq_true rfl) dX8_back_21 ?_
        refine r_lconst (v := 1) hw dX8_back_24 rfl ?_
        refine r_lcmp_ne (tgt := 53) hw dX8_back_25 dX8_back_26 (by decide) (fun c21 => ?_) (fun c21 => ?_)
        · have m41 := h_if_f c21 m40
          clear m40
          refine r_sub hw [0, 2] rfl ?_
          exact J53 _ _ _ m41
        · have m42 := h_if_t c21 m40
          clear m40
          refine r_aload_n hw dX8_back_29 0 rfl ?_
          refine r_iload_n hw dX8_back_30 2 rfl ?_
          refine r_bipush (v := 34) hw dX8_back_31 rfl ?_
          obtain ⟨l22, g22, m43⟩ := h_bd m42
          clear m42
          refine r_callV1 hw (tX8_get l G b0 g22) lB_X8_get lI_X8_get mL_X8_103 (c := 8) rfl h1 rfl (Nat.le_of_ble_eq_true rfl) (Nat.le_of_ble_eq_true rfl) rfl (Nat.le_of_ble_eq_true rfl) dX8_back_33 ?_
          refine r_lconst (v := 0) hw dX8_back_36 rfl ?_
          refine r_lcmp_ne (tgt := 53) hw dX8_back_37 dX8_back_38 (by decide) (fun c23 => ?_) (fun c23 => ?_)
          · have m44 := h_if_f c23 m43
            clear m43
            refine r_sub hw [0, 2] rfl ?_
            exact J53 _ _ _ m44
          · have m45 := h_if_t c23 m43
            clear m43
            refine r_aload_n hw dX8_back_41 0 rfl ?_
            refine r_iload_n hw dX8_back_42 2 rfl ?_
            refine r_bipush (v := 35) hw dX8_back_43 rfl ?_
            obtain ⟨l24, g24, m46⟩ := h_bd m45
            clear m45
            refine r_callV1 hw (tX8_get l G b0 g24) lB_X8_get lI_X8_get mL_X8_103 (c := 8) rfl h1 rfl (Nat.le_of_ble_eq_true rfl) (Nat.le_of_ble_eq_true rfl) rfl (Nat.le_of_ble_eq_true rfl) dX8_back_45 ?_
            refine r_lconst (v := 0) hw dX8_back_48 rfl ?_
            refine r_lcmp_eq (tgt := 57) hw dX8_back_49 dX8_back_50 (by decide) (fun c25 => ?_) (fun c25 => ?_)
            · have m47 := h_if_t c25 m46
              clear m46
              refine r_iconst (v := 0) hw dX8_back_57 rfl ?_
              refine r_sub hw [0, 2] rfl ?_
              exact J58 _ _ _ _ m47
            · have m48 := h_if_f c25 m46
              clear m46
              refine r_sub hw [0, 2] rfl ?_
              exact J53 _ _ _ m48
  exact L8 n08 _ _ _ hn8
theorem dX8_isSlab_0 : decode cX8_isSlab 0 = .ok (.aload_n 0, 1) := by decide +kernel
theorem dX8_isSlab_1 : decode cX8_isSlab 1 = .ok (.getfield 146, 3) := by decide +kernel
theorem dX8_isSlab_4 : decode cX8_isSlab 4 = .ok (.iconst 4, 1) := by decide +kernel
theorem dX8_isSlab_5 : decode cX8_isSlab 5 = .ok (.if_icmp .ne 67, 3) := by decide +kernel
theorem dX8_isSlab_8 : decode cX8_isSlab 8 = .ok (.aload_n 0, 1) := by decide +kernel
theorem dX8_isSlab_9 : decode cX8_isSlab 9 = .ok (.getfield 42, 3) := by decide +kernel
theorem dX8_isSlab_12 : decode cX8_isSlab 12 = .ok (.iconst 0, 1) := by decide +kernel
theorem dX8_isSlab_13 : decode cX8_isSlab 13 = .ok (.laload, 1) := by decide +kernel
theorem dX8_isSlab_14 : decode cX8_isSlab 14 = .ok (.aload_n 0, 1) := by decide +kernel
theorem dX8_isSlab_15 : decode cX8_isSlab 15 = .ok (.getfield 42, 3) := by decide +kernel
theorem dX8_isSlab_18 : decode cX8_isSlab 18 = .ok (.iconst 2, 1) := by decide +kernel
theorem dX8_isSlab_19 : decode cX8_isSlab 19 = .ok (.laload, 1) := by decide +kernel
theorem dX8_isSlab_20 : decode cX8_isSlab 20 = .ok (.ladd, 1) := by decide +kernel
theorem dX8_isSlab_21 : decode cX8_isSlab 21 = .ok (.aload_n 0, 1) := by decide +kernel
theorem dX8_isSlab_22 : decode cX8_isSlab 22 = .ok (.getfield 42, 3) := by decide +kernel
theorem dX8_isSlab_25 : decode cX8_isSlab 25 = .ok (.iconst 1, 1) := by decide +kernel
theorem dX8_isSlab_26 : decode cX8_isSlab 26 = .ok (.laload, 1) := by decide +kernel
theorem dX8_isSlab_27 : decode cX8_isSlab 27 = .ok (.aload_n 0, 1) := by decide +kernel
theorem dX8_isSlab_28 : decode cX8_isSlab 28 = .ok (.getfield 42, 3) := by decide +kernel
theorem dX8_isSlab_31 : decode cX8_isSlab 31 = .ok (.iconst 3, 1) := by decide +kernel
theorem dX8_isSlab_32 : decode cX8_isSlab 32 = .ok (.laload, 1) := by decide +kernel
theorem dX8_isSlab_33 : decode cX8_isSlab 33 = .ok (.ladd, 1) := by decide +kernel
theorem dX8_isSlab_34 : decode cX8_isSlab 34 = .ok (.lcmp, 1) := by decide +kernel
theorem dX8_isSlab_35 : decode cX8_isSlab 35 = .ok (.ifCond .ne 37, 3) := by decide +kernel
theorem dX8_isSlab_38 : decode cX8_isSlab 38 = .ok (.aload_n 0, 1) := by decide +kernel
theorem dX8_isSlab_39 : decode cX8_isSlab 39 = .ok (.getfield 45, 3) := by decide +kernel
theorem dX8_isSlab_42 : decode cX8_isSlab 42 = .ok (.iconst 0, 1) := by decide +kernel
theorem dX8_isSlab_43 : decode cX8_isSlab 43 = .ok (.laload, 1) := by decide +kernel
theorem dX8_isSlab_44 : decode cX8_isSlab 44 = .ok (.aload_n 0, 1) := by decide +kernel
theorem dX8_isSlab_45 : decode cX8_isSlab 45 = .ok (.getfield 45, 3) := by decide +kernel
theorem dX8_isSlab_48 : decode cX8_isSlab 48 = .ok (.iconst 2, 1) := by decide +kernel
theorem dX8_isSlab_49 : decode cX8_isSlab 49 = .ok (.laload, 1) := by decide +kernel
theorem dX8_isSlab_50 : decode cX8_isSlab 50 = .ok (.ladd, 1) := by decide +kernel
theorem dX8_isSlab_51 : decode cX8_isSlab 51 = .ok (.aload_n 0, 1) := by decide +kernel
theorem dX8_isSlab_52 : decode cX8_isSlab 52 = .ok (.getfield 45, 3) := by decide +kernel
theorem dX8_isSlab_55 : decode cX8_isSlab 55 = .ok (.iconst 1, 1) := by decide +kernel
theorem dX8_isSlab_56 : decode cX8_isSlab 56 = .ok (.laload, 1) := by decide +kernel
theorem dX8_isSlab_57 : decode cX8_isSlab 57 = .ok (.aload_n 0, 1) := by decide +kernel
theorem dX8_isSlab_58 : decode cX8_isSlab 58 = .ok (.getfield 45, 3) := by decide +kernel
theorem dX8_isSlab_61 : decode cX8_isSlab 61 = .ok (.iconst 3, 1) := by decide +kernel
theorem dX8_isSlab_62 : decode cX8_isSlab 62 = .ok (.laload, 1) := by decide +kernel
theorem dX8_isSlab_63 : decode cX8_isSlab 63 = .ok (.ladd, 1) := by decide +kernel
theorem dX8_isSlab_64 : decode cX8_isSlab 64 = .ok (.lcmp, 1) := by decide +kernel
theorem dX8_isSlab_65 : decode cX8_isSlab 65 = .ok (.ifCond .ne 7, 3) := by decide +kernel
theorem dX8_isSlab_68 : decode cX8_isSlab 68 = .ok (.iconst 1, 1) := by decide +kernel
theorem dX8_isSlab_69 : decode cX8_isSlab 69 = .ok (.goto 4, 3) := by decide +kernel
theorem dX8_isSlab_72 : decode cX8_isSlab 72 = .ok (.iconst 0, 1) := by decide +kernel
theorem dX8_isSlab_73 : decode cX8_isSlab 73 = .ok (.ireturn, 1) := by decide +kernel
set_option maxHeartbeats 4000000 in
set_option maxRecDepth 100000 in
theorem tX8_isSlab (l : Launch) (G : Gg) (b0 : Nat) {K : Kk} {R : Rr} {M : Mm} {r : Nat} {res : Int32} (hm : mX8_isSlab K R M r = some (res)) : CT l G b0 yX8_isSlab cX8_isSlab 1 (some .boolean) (rmz 1 0) [.ref r] K R M (some (.int res)) K R M := by
  refine ct_of (by decide +kernel) (Nat.le_of_ble_eq_true rfl) (fun w hw => ?_)
  change w 0 0 0 [(0, .ref r)] [] K R M
  replace hm := h_start hm
  unfold mX8_isSlab at hm
  obtain ⟨h1, m15⟩ := h_ck hm
  clear hm
  refine r_aload_n hw dX8_isSlab_0 0 rfl ?_
  refine r_getI hw fO_X8_146 h1 dX8_isSlab_1 ?_
  refine r_iconst (v := 4) hw dX8_isSlab_4 rfl ?_
  refine r_icmp_ne (tgt := 72) hw dX8_isSlab_5 (by decide) (fun c2 => ?_) (fun c2 => ?_)
  · have m16 := h_if_f c2 m15
    clear m15
    refine r_iconst (v := 0) hw dX8_isSlab_72 rfl ?_
    cases h_ret m16
    exact r_zreturn hw isB_0 rfl rfl dX8_isSlab_73
  · have m17 := h_if_t c2 m15
    clear m15
    refine r_aload_n hw dX8_isSlab_8 0 rfl ?_
    obtain ⟨q3, bq3, m18⟩ := h_bd m17
    clear m17
    refine r_getR hw fO_X8_42 h1 bq3 dX8_isSlab_9 ?_
    refine r_iconst (v := 0) hw dX8_isSlab_12 rfl ?_
    obtain ⟨h4, m19⟩ := h_ck m18
    clear m18
    refine r_laload hw h4 dX8_isSlab_13 ?_
    refine r_aload_n hw dX8_isSlab_14 0 rfl ?_
    refine r_getR hw fO_X8_42 h1 bq3 dX8_isSlab_15 ?_
    refine r_iconst (v := 2) hw dX8_isSlab_18 rfl ?_
    obtain ⟨h5, m20⟩ := h_ck m19
    clear m19
    refine r_laload hw h5 dX8_isSlab_19 ?_
    refine r_ladd hw dX8_isSlab_20 ?_
    refine r_aload_n hw dX8_isSlab_21 0 rfl ?_
    refine r_getR hw fO_X8_42 h1 bq3 dX8_isSlab_22 ?_
    refine r_iconst (v := 1) hw dX8_isSlab_25 rfl ?_
    obtain ⟨h6, m21⟩ := h_ck m20
    clear m20
    refine r_laload hw h6 dX8_isSlab_26 ?_
    refine r_aload_n hw dX8_isSlab_27 0 rfl ?_
    refine r_getR hw fO_X8_42 h1 bq3 dX8_isSlab_28 ?_
    refine r_iconst (v := 3) hw dX8_isSlab_31 rfl ?_
    obtain ⟨h7, m22⟩ := h_ck m21
    clear m21
    refine r_laload hw h7 dX8_isSlab_32 ?_
    refine r_ladd hw dX8_isSlab_33 ?_
    refine r_lcmp_ne (tgt := 72) hw dX8_isSlab_34 dX8_isSlab_35 (by decide) (fun c8 => ?_) (fun c8 => ?_)
    · have m23 := h_if_f c8 m22
      clear m22
      refine r_iconst (v := 0) hw dX8_isSlab_72 rfl ?_
      cases h_ret m23
      exact r_zreturn hw isB_0 rfl rfl dX8_isSlab_73
    · have m24 := h_if_t c8 m22
      clear m22
      refine r_aload_n hw dX8_isSlab_38 0 rfl ?_
      obtain ⟨q9, bq9, m25⟩ := h_bd m24
      clear m24
      refine r_getR hw fO_X8_45 h1 bq9 dX8_isSlab_39 ?_
      refine r_iconst (v := 0) hw dX8_isSlab_42 rfl ?_
      obtain ⟨h10, m26⟩ := h_ck m25
      clear m25
      refine r_laload hw h10 dX8_isSlab_43 ?_
      refine r_aload_n hw dX8_isSlab_44 0 rfl ?_
      refine r_getR hw fO_X8_45 h1 bq9 dX8_isSlab_45 ?_
      refine r_iconst (v := 2) hw dX8_isSlab_48 rfl ?_
      obtain ⟨h11, m27⟩ := h_ck m26
      clear m26
      refine r_laload hw h11 dX8_isSlab_49 ?_
      refine r_ladd hw dX8_isSlab_50 ?_
      refine r_aload_n hw dX8_isSlab_51 0 rfl ?_
      refine r_getR hw fO_X8_45 h1 bq9 dX8_isSlab_52 ?_
      refine r_iconst (v := 1) hw dX8_isSlab_55 rfl ?_
      obtain ⟨h12, m28⟩ := h_ck m27
      clear m27
      refine r_laload hw h12 dX8_isSlab_56 ?_
      refine r_aload_n hw dX8_isSlab_57 0 rfl ?_
      refine r_getR hw fO_X8_45 h1 bq9 dX8_isSlab_58 ?_
      refine r_iconst (v := 3) hw dX8_isSlab_61 rfl ?_
      obtain ⟨h13, m29⟩ := h_ck m28
      clear m28
      refine r_laload hw h13 dX8_isSlab_62 ?_
      refine r_ladd hw dX8_isSlab_63 ?_
      refine r_lcmp_ne (tgt := 72) hw dX8_isSlab_64 dX8_isSlab_65 (by decide) (fun c14 => ?_) (fun c14 => ?_)
      · have m30 := h_if_f c14 m29
        clear m29
        refine r_iconst (v := 0) hw dX8_isSlab_72 rfl ?_
        cases h_ret m30
        exact r_zreturn hw isB_0 rfl rfl dX8_isSlab_73
      · have m31 := h_if_t c14 m29
        clear m29
        refine r_iconst (v := 1) hw dX8_isSlab_68 rfl ?_
        refine r_goto (tgt := 73) hw dX8_isSlab_69 (by decide) ?_
        cases h_ret m31
        exact r_zreturn hw isB_1 rfl rfl dX8_isSlab_73
theorem dX8_isUpright_0 : decode cX8_isUpright 0 = .ok (.iconst 1, 1) := by decide +kernel
theorem dX8_isUpright_1 : decode cX8_isUpright 1 = .ok (.istore_n 1, 1) := by decide +kernel
theorem dX8_isUpright_2 : decode cX8_isUpright 2 = .ok (.iconst 0, 1) := by decide +kernel
theorem dX8_isUpright_3 : decode cX8_isUpright 3 = .ok (.istore_n 2, 1) := by decide +kernel
theorem dX8_isUpright_4 : decode cX8_isUpright 4 = .ok (.iload_n 2, 1) := by decide +kernel
theorem dX8_isUpright_5 : decode cX8_isUpright 5 = .ok (.aload_n 0, 1) := by decide +kernel
theorem dX8_isUpright_6 : decode cX8_isUpright 6 = .ok (.getfield 146, 3) := by decide +kernel
theorem dX8_isUpright_9 : decode cX8_isUpright 9 = .ok (.if_icmp .ge 60, 3) := by decide +kernel
theorem dX8_isUpright_12 : decode cX8_isUpright 12 = .ok (.iload_n 2, 1) := by decide +kernel
theorem dX8_isUpright_13 : decode cX8_isUpright 13 = .ok (.iconst 1, 1) := by decide +kernel
theorem dX8_isUpright_14 : decode cX8_isUpright 14 = .ok (.iadd, 1) := by decide +kernel
theorem dX8_isUpright_15 : decode cX8_isUpright 15 = .ok (.aload_n 0, 1) := by decide +kernel
theorem dX8_isUpright_16 : decode cX8_isUpright 16 = .ok (.getfield 146, 3) := by decide +kernel
theorem dX8_isUpright_19 : decode cX8_isUpright 19 = .ok (.irem, 1) := by decide +kernel
theorem dX8_isUpright_20 : decode cX8_isUpright 20 = .ok (.istore_n 3, 1) := by decide +kernel
theorem dX8_isUpright_21 : decode cX8_isUpright 21 = .ok (.iload_n 1, 1) := by decide +kernel
theorem dX8_isUpright_22 : decode cX8_isUpright 22 = .ok (.ifCond .eq 39, 3) := by decide +kernel
theorem dX8_isUpright_25 : decode cX8_isUpright 25 = .ok (.aload_n 0, 1) := by decide +kernel
theorem dX8_isUpright_26 : decode cX8_isUpright 26 = .ok (.getfield 42, 3) := by decide +kernel
theorem dX8_isUpright_29 : decode cX8_isUpright 29 = .ok (.iload_n 2, 1) := by decide +kernel
theorem dX8_isUpright_30 : decode cX8_isUpright 30 = .ok (.laload, 1) := by decide +kernel
theorem dX8_isUpright_31 : decode cX8_isUpright 31 = .ok (.aload_n 0, 1) := by decide +kernel
theorem dX8_isUpright_32 : decode cX8_isUpright 32 = .ok (.getfield 42, 3) := by decide +kernel
theorem dX8_isUpright_35 : decode cX8_isUpright 35 = .ok (.iload_n 3, 1) := by decide +kernel
theorem dX8_isUpright_36 : decode cX8_isUpright 36 = .ok (.laload, 1) := by decide +kernel
theorem dX8_isUpright_37 : decode cX8_isUpright 37 = .ok (.lcmp, 1) := by decide +kernel
theorem dX8_isUpright_38 : decode cX8_isUpright 38 = .ok (.ifCond .eq 19, 3) := by decide +kernel
theorem dX8_isUpright_41 : decode cX8_isUpright 41 = .ok (.aload_n 0, 1) := by decide +kernel
theorem dX8_isUpright_42 : decode cX8_isUpright 42 = .ok (.getfield 45, 3) := by decide +kernel
theorem dX8_isUpright_45 : decode cX8_isUpright 45 = .ok (.iload_n 2, 1) := by decide +kernel
theorem dX8_isUpright_46 : decode cX8_isUpright 46 = .ok (.laload, 1) := by decide +kernel
theorem dX8_isUpright_47 : decode cX8_isUpright 47 = .ok (.aload_n 0, 1) := by decide +kernel
theorem dX8_isUpright_48 : decode cX8_isUpright 48 = .ok (.getfield 45, 3) := by decide +kernel
theorem dX8_isUpright_51 : decode cX8_isUpright 51 = .ok (.iload_n 3, 1) := by decide +kernel
theorem dX8_isUpright_52 : decode cX8_isUpright 52 = .ok (.laload, 1) := by decide +kernel
theorem dX8_isUpright_53 : decode cX8_isUpright 53 = .ok (.lcmp, 1) := by decide +kernel
theorem dX8_isUpright_54 : decode cX8_isUpright 54 = .ok (.ifCond .ne 7, 3) := by decide +kernel
theorem dX8_isUpright_57 : decode cX8_isUpright 57 = .ok (.iconst 1, 1) := by decide +kernel
theorem dX8_isUpright_58 : decode cX8_isUpright 58 = .ok (.goto 4, 3) := by decide +kernel
theorem dX8_isUpright_61 : decode cX8_isUpright 61 = .ok (.iconst 0, 1) := by decide +kernel
theorem dX8_isUpright_62 : decode cX8_isUpright 62 = .ok (.istore_n 1, 1) := by decide +kernel
theorem dX8_isUpright_63 : decode cX8_isUpright 63 = .ok (.iinc 2 1, 3) := by decide +kernel
theorem dX8_isUpright_66 : decode cX8_isUpright 66 = .ok (.goto (-62), 3) := by decide +kernel
theorem dX8_isUpright_69 : decode cX8_isUpright 69 = .ok (.iload_n 1, 1) := by decide +kernel
theorem dX8_isUpright_70 : decode cX8_isUpright 70 = .ok (.ireturn, 1) := by decide +kernel
set_option maxHeartbeats 4000000 in
set_option maxRecDepth 100000 in
theorem tX8_isUpright (l : Launch) (G : Gg) (b0 : Nat) {K : Kk} {R : Rr} {M : Mm} {r : Nat} {res : Int32} (hm : mX8_isUpright K R M r = some (res)) : CT l G b0 yX8_isUpright cX8_isUpright 4 (some .boolean) (rmz 1 0) [.ref r] K R M (some (.int res)) K R M := by
  refine ct_of (by decide +kernel) (Nat.le_of_ble_eq_true rfl) (fun w hw => ?_)
  change w 0 0 0 [(0, .ref r)] [] K R M
  replace hm := h_start hm
  unfold mX8_isUpright at hm
  obtain ⟨h1, m24⟩ := h_ck hm
  clear hm
  refine r_iconst (v := 1) hw dX8_isUpright_0 rfl ?_
  obtain ⟨i2, ei2, m25⟩ := h_nm m24
  clear m24
  refine r_topI (w := w) ei2 ?_
  refine r_istore_n hw dX8_isUpright_1 rfl (by decide) rfl ?_
  refine r_iconst (v := 0) hw dX8_isUpright_2 rfl ?_
  obtain ⟨i3, ei3, m26⟩ := h_nm m25
  clear m25
  refine r_topI (w := w) ei3 ?_
  refine r_istore_n hw dX8_isUpright_3 rfl (by decide) rfl ?_
  refine r_sub hw [2, 1, 0] rfl ?_
  obtain ⟨v4, n04, hn4, hv4⟩ := h_lp m26
  clear m26
  have L4 : ∀ n : Nat, ∀ (i4 : Int32) (i5 : Int32), it (mX8_isUpright_L4 K R M r) n (i4, i5) = some v4 → w 0 0 4 [(0, .ref r), (1, .int i4), (2, .int i5)] [] K R M := by
    intro n4
    induction n4 with
    | zero => intro i4 i5 hz; exact absurd hz h_it0
    | succ n4 ih4 =>
      intro i4 i5 m27
      replace m27 : (mX8_isUpright_B4 K R M r i4 i5).bind (Sum.elim (it (mX8_isUpright_L4 K R M r) n4) some) = some v4 := m27
      unfold mX8_isUpright_B4 at m27
      have J62 : ∀ (i6 : Int32) (s7 : Int32), (mX8_isUpright_J62 K R M r i6 s7).bind (Sum.elim (it (mX8_isUpright_L4 K R M r) n4) some) = some v4 → w 0 0 62 [(0, .ref r), (2, .int i6)] [.int s7] K R M := by
        intro i6 s7 m28
        unfold mX8_isUpright_J62 at m28
        refine r_istore_n hw dX8_isUpright_62 rfl (by decide) rfl ?_
        obtain ⟨i8, ei8, m29⟩ := h_nm m28
        clear m28
        refine r_iinc (j := 2) (v := i8) hw dX8_isUpright_63 rfl (by rw [ei8]; rfl) (by decide) rfl ?_
        refine r_goto (tgt := 4) hw dX8_isUpright_66 (by decide) ?_
        refine r_sub hw [2, 1, 0] rfl ?_
        exact ih4 _ _ m29
      have J61 : ∀ (i9 : Int32), (mX8_isUpright_J61 K R M r i9).bind (Sum.elim (it (mX8_isUpright_L4 K R M r) n4) some) = some v4 → w 0 0 61 [(0, .ref r), (2, .int i9)] [] K R M := by
        intro i9 m30
        unfold mX8_isUpright_J61 at m30
        refine r_iconst (v := 0) hw dX8_isUpright_61 rfl ?_
        exact J62 _ _ m30
      have J57 : ∀ (i10 : Int32), (mX8_isUpright_J57 K R M r i10).bind (Sum.elim (it (mX8_isUpright_L4 K R M r) n4) some) = some v4 → w 0 0 57 [(0, .ref r), (2, .int i10)] [] K R M := by
        intro i10 m31
        unfold mX8_isUpright_J57 at m31
        refine r_iconst (v := 1) hw dX8_isUpright_57 rfl ?_
        refine r_goto (tgt := 62) hw dX8_isUpright_58 (by decide) ?_
        exact J62 _ _ m31
      refine r_iload_n hw dX8_isUpright_4 2 rfl ?_
      refine r_aload_n hw dX8_isUpright_5 0 rfl ?_
      refine r_getI hw fO_X8_146 h1 dX8_isUpright_6 ?_
      refine r_icmp_ge (tgt := 69) hw dX8_isUpright_9 (by decide) (fun c11 => ?_) (fun c11 => ?_)
      · have m32 := h_if_f c11 m27
        clear m27
        have m33 := h_ex m32 hv4
        clear m32
        refine r_iload_n hw dX8_isUpright_69 1 rfl ?_
        obtain ⟨h12, m34⟩ := h_ck m33
        clear m33
        cases h_ret m34
        exact r_zreturn hw h12 rfl rfl dX8_isUpright_70
      · have m35 := h_if_t c11 m27
        clear m27
        refine r_iload_n hw dX8_isUpright_12 2 rfl ?_
        refine r_iconst (v := 1) hw dX8_isUpright_13 rfl ?_
        refine r_iadd hw dX8_isUpright_14 ?_
        refine r_aload_n hw dX8_isUpright_15 0 rfl ?_
        refine r_getI hw fO_X8_146 h1 dX8_isUpright_16 ?_
        obtain ⟨h13, m36⟩ := h_ck m35
        clear m35
        refine r_irem hw dX8_isUpright_19 h13 ?_
        obtain ⟨i14, ei14, m37⟩ := h_nm m36
        clear m36
        refine r_topI (w := w) ei14 ?_
        refine r_istore_n hw dX8_isUpright_20 rfl (by decide) rfl ?_
        refine r_iload_n hw dX8_isUpright_21 2 rfl ?_
        refine r_if_eq (tgt := 61) hw dX8_isUpright_22 (by decide) (fun c15 => ?_) (fun c15 => ?_)
        · have m38 := h_if_t c15 m37
          clear m37
          refine r_sub hw [1, 3] rfl ?_
          exact J61 _ m38
        · have m39 := h_if_f c15 m37
          clear m37
          refine r_aload_n hw dX8_isUpright_25 1 rfl ?_
          obtain ⟨q16, bq16, m40⟩ := h_bd m39
          clear m39
          refine r_getR hw fO_X8_42 h1 bq16 dX8_isUpright_26 ?_
          refine r_iload_n hw dX8_isUpright_29 3 rfl ?_
          obtain ⟨h17, m41⟩ := h_ck m40
          clear m40
          refine r_laload hw h17 dX8_isUpright_30 ?_
          refine r_aload_n hw dX8_isUpright_31 1 rfl ?_
          refine r_getR hw fO_X8_42 h1 bq16 dX8_isUpright_32 ?_
          refine r_iload_n hw dX8_isUpright_35 0 rfl ?_
          obtain ⟨h18, m42⟩ := h_ck m41
          clear m41
          refine r_laload hw h18 dX8_isUpright_36 ?_
          refine r_lcmp_eq (tgt := 57) hw dX8_isUpright_37 dX8_isUpright_38 (by decide) (fun c19 => ?_) (fun c19 => ?_)
          · have m43 := h_if_t c19 m42
            clear m42
            refine r_sub hw [1, 3] rfl ?_
            exact J57 _ m43
          · have m44 := h_if_f c19 m42
            clear m42
            refine r_aload_n hw dX8_isUpright_41 1 rfl ?_
            obtain ⟨q20, bq20, m45⟩ := h_bd m44
            clear m44
            refine r_getR hw fO_X8_45 h1 bq20 dX8_isUpright_42 ?_
            refine r_iload_n hw dX8_isUpright_45 3 rfl ?_
            obtain ⟨h21, m46⟩ := h_ck m45
            clear m45
            refine r_laload hw h21 dX8_isUpright_46 ?_
            refine r_aload_n hw dX8_isUpright_47 1 rfl ?_
            refine r_getR hw fO_X8_45 h1 bq20 dX8_isUpright_48 ?_
            refine r_iload_n hw dX8_isUpright_51 0 rfl ?_
            obtain ⟨h22, m47⟩ := h_ck m46
            clear m46
            refine r_laload hw h22 dX8_isUpright_52 ?_
            refine r_lcmp_ne (tgt := 61) hw dX8_isUpright_53 dX8_isUpright_54 (by decide) (fun c23 => ?_) (fun c23 => ?_)
            · have m48 := h_if_f c23 m47
              clear m47
              refine r_sub hw [1, 3] rfl ?_
              exact J61 _ m48
            · have m49 := h_if_t c23 m47
              clear m47
              refine r_sub hw [1, 3] rfl ?_
              exact J57 _ m49
  exact L4 n04 _ _ hn4
theorem dX8_isOf_0 : decode cX8_isOf 0 = .ok (.aload_n 0, 1) := by decide +kernel
theorem dX8_isOf_1 : decode cX8_isOf 1 = .ok (.iload_n 1, 1) := by decide +kernel
theorem dX8_isOf_2 : decode cX8_isOf 2 = .ok (.invokevirtual 226, 3) := by decide +kernel
theorem dX8_isOf_5 : decode cX8_isOf 5 = .ok (.ifCond .eq 15, 3) := by decide +kernel
theorem dX8_isOf_8 : decode cX8_isOf 8 = .ok (.iload_n 2, 1) := by decide +kernel
theorem dX8_isOf_9 : decode cX8_isOf 9 = .ok (.i2l, 1) := by decide +kernel
theorem dX8_isOf_10 : decode cX8_isOf 10 = .ok (.lconst 0, 1) := by decide +kernel
theorem dX8_isOf_11 : decode cX8_isOf 11 = .ok (.ldc2_w 164, 3) := by decide +kernel
theorem dX8_isOf_14 : decode cX8_isOf 14 = .ok (.invokestatic 95, 3) := by decide +kernel
theorem dX8_isOf_17 : decode cX8_isOf 17 = .ok (.ifCond .ne 7, 3) := by decide +kernel
theorem dX8_isOf_20 : decode cX8_isOf 20 = .ok (.ldc2_w 160, 3) := by decide +kernel
theorem dX8_isOf_23 : decode cX8_isOf 23 = .ok (.lreturn, 1) := by decide +kernel
theorem dX8_isOf_24 : decode cX8_isOf 24 = .ok (.aload_n 0, 1) := by decide +kernel
theorem dX8_isOf_25 : decode cX8_isOf 25 = .ok (.iload_n 1, 1) := by decide +kernel
theorem dX8_isOf_26 : decode cX8_isOf 26 = .ok (.invokevirtual 149, 3) := by decide +kernel
theorem dX8_isOf_29 : decode cX8_isOf 29 = .ok (.iload_n 2, 1) := by decide +kernel
theorem dX8_isOf_30 : decode cX8_isOf 30 = .ok (.ifCond .eq 76, 3) := by decide +kernel
theorem dX8_isOf_33 : decode cX8_isOf 33 = .ok (.iload_n 2, 1) := by decide +kernel
theorem dX8_isOf_34 : decode cX8_isOf 34 = .ok (.iconst 1, 1) := by decide +kernel
theorem dX8_isOf_35 : decode cX8_isOf 35 = .ok (.if_icmp .ne 14, 3) := by decide +kernel
theorem dX8_isOf_38 : decode cX8_isOf 38 = .ok (.aload_n 0, 1) := by decide +kernel
theorem dX8_isOf_39 : decode cX8_isOf 39 = .ok (.getfield 146, 3) := by decide +kernel
theorem dX8_isOf_42 : decode cX8_isOf 42 = .ok (.iconst 3, 1) := by decide +kernel
theorem dX8_isOf_43 : decode cX8_isOf 43 = .ok (.if_icmp .ne 67, 3) := by decide +kernel
theorem dX8_isOf_46 : decode cX8_isOf 46 = .ok (.goto 60, 3) := by decide +kernel
theorem dX8_isOf_49 : decode cX8_isOf 49 = .ok (.iload_n 2, 1) := by decide +kernel
theorem dX8_isOf_50 : decode cX8_isOf 50 = .ok (.iconst 2, 1) := by decide +kernel
theorem dX8_isOf_51 : decode cX8_isOf 51 = .ok (.if_icmp .ne 13, 3) := by decide +kernel
theorem dX8_isOf_54 : decode cX8_isOf 54 = .ok (.aload_n 0, 1) := by decide +kernel
theorem dX8_isOf_55 : decode cX8_isOf 55 = .ok (.invokevirtual 259, 3) := by decide +kernel
theorem dX8_isOf_58 : decode cX8_isOf 58 = .ok (.ifCond .eq 52, 3) := by decide +kernel
theorem dX8_isOf_61 : decode cX8_isOf 61 = .ok (.goto 45, 3) := by decide +kernel
theorem dX8_isOf_64 : decode cX8_isOf 64 = .ok (.iload_n 2, 1) := by decide +kernel
theorem dX8_isOf_65 : decode cX8_isOf 65 = .ok (.iconst 3, 1) := by decide +kernel
theorem dX8_isOf_66 : decode cX8_isOf 66 = .ok (.if_icmp .ne 20, 3) := by decide +kernel
theorem dX8_isOf_69 : decode cX8_isOf 69 = .ok (.aload_n 0, 1) := by decide +kernel
theorem dX8_isOf_70 : decode cX8_isOf 70 = .ok (.invokevirtual 259, 3) := by decide +kernel
theorem dX8_isOf_73 : decode cX8_isOf 73 = .ok (.ifCond .eq 37, 3) := by decide +kernel
theorem dX8_isOf_76 : decode cX8_isOf 76 = .ok (.aload_n 0, 1) := by decide +kernel
theorem dX8_isOf_77 : decode cX8_isOf 77 = .ok (.invokevirtual 262, 3) := by decide +kernel
theorem dX8_isOf_80 : decode cX8_isOf 80 = .ok (.ifCond .eq 30, 3) := by decide +kernel
theorem dX8_isOf_83 : decode cX8_isOf 83 = .ok (.goto 23, 3) := by decide +kernel
theorem dX8_isOf_86 : decode cX8_isOf 86 = .ok (.aload_n 0, 1) := by decide +kernel
theorem dX8_isOf_87 : decode cX8_isOf 87 = .ok (.getfield 146, 3) := by decide +kernel
theorem dX8_isOf_90 : decode cX8_isOf 90 = .ok (.iconst 3, 1) := by decide +kernel
theorem dX8_isOf_91 : decode cX8_isOf 91 = .ok (.if_icmp .ne 19, 3) := by decide +kernel
theorem dX8_isOf_94 : decode cX8_isOf 94 = .ok (.aload_n 0, 1) := by decide +kernel
theorem dX8_isOf_95 : decode cX8_isOf 95 = .ok (.iload_n 1, 1) := by decide +kernel
theorem dX8_isOf_96 : decode cX8_isOf 96 = .ok (.bipush 36, 2) := by decide +kernel
theorem dX8_isOf_98 : decode cX8_isOf 98 = .ok (.invokevirtual 103, 3) := by decide +kernel
theorem dX8_isOf_101 : decode cX8_isOf 101 = .ok (.lconst 1, 1) := by decide +kernel
theorem dX8_isOf_102 : decode cX8_isOf 102 = .ok (.lcmp, 1) := by decide +kernel
theorem dX8_isOf_103 : decode cX8_isOf 103 = .ok (.ifCond .ne 7, 3) := by decide +kernel
theorem dX8_isOf_106 : decode cX8_isOf 106 = .ok (.iconst 1, 1) := by decide +kernel
theorem dX8_isOf_107 : decode cX8_isOf 107 = .ok (.goto 4, 3) := by decide +kernel
theorem dX8_isOf_110 : decode cX8_isOf 110 = .ok (.iconst 0, 1) := by decide +kernel
theorem dX8_isOf_111 : decode cX8_isOf 111 = .ok (.istore_n 3, 1) := by decide +kernel
theorem dX8_isOf_112 : decode cX8_isOf 112 = .ok (.iload_n 3, 1) := by decide +kernel
theorem dX8_isOf_113 : decode cX8_isOf 113 = .ok (.ifCond .eq 7, 3) := by decide +kernel
theorem dX8_isOf_116 : decode cX8_isOf 116 = .ok (.lconst 1, 1) := by decide +kernel
theorem dX8_isOf_117 : decode cX8_isOf 117 = .ok (.goto 4, 3) := by decide +kernel
theorem dX8_isOf_120 : decode cX8_isOf 120 = .ok (.lconst 0, 1) := by decide +kernel
theorem dX8_isOf_121 : decode cX8_isOf 121 = .ok (.lreturn, 1) := by decide +kernel
set_option maxHeartbeats 4000000 in
set_option maxRecDepth 100000 in
theorem tX8_isOf (l : Launch) (G : Gg) (b0 : Nat) {K : Kk} {R : Rr} {M : Mm} {r : Nat} {a0 : Int32} {a1 : Int32} {res : Int64} {M' : Mm} (hm : mX8_isOf K R M r a0 a1 = some (res, M')) : CT l G b0 yX8_isOf cX8_isOf 4 (some .long) (rmz 5 109) [.ref r, .int a0, .int a1] K R M (some (.long res)) K R M' := by
  refine ct_of (by decide +kernel) (Nat.le_of_ble_eq_true rfl) (fun w hw => ?_)
  change w 0 0 0 [(0, .ref r), (1, .int a0), (2, .int a1)] [] K R M
  replace hm := h_start hm
  unfold mX8_isOf at hm
  obtain ⟨h1, m26⟩ := h_ck hm
  clear hm
  have J111 : ∀ (M3 : Mm) (s2 : Int32), (mX8_isOf_J111 K R M3 s2).bind some = some (res, M') → w 0 0 111 [] [.int s2] K R M3 := by
    intro M3 s2 m27
    unfold mX8_isOf_J111 at m27
    refine r_istore_n hw dX8_isOf_111 rfl (by decide) rfl ?_
    refine r_iload_n hw dX8_isOf_112 0 rfl ?_
    refine r_if_eq (tgt := 120) hw dX8_isOf_113 (by decide) (fun c4 => ?_) (fun c4 => ?_)
    · have m28 := h_if_t c4 m27
      clear m27
      refine r_lconst (v := 0) hw dX8_isOf_120 rfl ?_
      cases h_ret m28
      exact r_lreturn hw rfl rfl dX8_isOf_121
    · have m29 := h_if_f c4 m27
      clear m27
      refine r_lconst (v := 1) hw dX8_isOf_116 rfl ?_
      refine r_goto (tgt := 121) hw dX8_isOf_117 (by decide) ?_
      cases h_ret m29
      exact r_lreturn hw rfl rfl dX8_isOf_121
  have J110 : ∀ (M5 : Mm), (mX8_isOf_J110 K R M5 ).bind some = some (res, M') → w 0 0 110 [] [] K R M5 := by
    intro M5  m30
    unfold mX8_isOf_J110 at m30
    refine r_iconst (v := 0) hw dX8_isOf_110 rfl ?_
    exact J111 _ _ m30
  have J106 : ∀ (M6 : Mm), (mX8_isOf_J106 K R M6 ).bind some = some (res, M') → w 0 0 106 [] [] K R M6 := by
    intro M6  m31
    unfold mX8_isOf_J106 at m31
    refine r_iconst (v := 1) hw dX8_isOf_106 rfl ?_
    refine r_goto (tgt := 111) hw dX8_isOf_107 (by decide) ?_
    exact J111 _ _ m31
  refine r_aload_n hw dX8_isOf_0 0 rfl ?_
  refine r_iload_n hw dX8_isOf_1 1 rfl ?_
  obtain ⟨i7, g7, m32⟩ := h_bd m26
  clear m26
  refine r_callV1 hw (tX8_isPiece l G b0 g7) lB_X8_isPiece lI_X8_isPiece mL_X8_226 (c := 8) rfl h1 rfl (Nat.le_of_ble_eq_true rfl) (Nat.le_of_ble_eq_true rfl) rfl (Nat.le_of_ble_eq_true rfl) dX8_isOf_2 ?_
  refine r_if_eq (tgt := 20) hw dX8_isOf_5 (by decide) (fun c8 => ?_) (fun c8 => ?_)
  · have m33 := h_if_t c8 m32
    clear m32
    refine r_ldc2 (v := (-9000000000000000001)) hw dX8_isOf_20 kW_X8_160 ?_
    cases h_ret m33
    exact r_lreturn hw rfl rfl dX8_isOf_23
  · have m34 := h_if_f c8 m32
    clear m32
    refine r_iload_n hw dX8_isOf_8 2 rfl ?_
    refine r_i2l hw dX8_isOf_9 ?_
    refine r_lconst (v := 0) hw dX8_isOf_10 rfl ?_
    refine r_ldc2 (v := 4) hw dX8_isOf_11 kW_X8_164 ?_
    obtain ⟨i9, g9, m35⟩ := h_bd m34
    clear m34
    refine r_callS1 hw (tX8_isIn l G b0 g9) lB_X8_isIn sT_X8_isIn mL_X8_95 rfl rfl (Nat.le_of_ble_eq_true rfl) (Nat.le_of_ble_eq_true rfl) rfl (Nat.le_of_ble_eq_true rfl) dX8_isOf_14 ?_
    refine r_if_ne (tgt := 24) hw dX8_isOf_17 (by decide) (fun c10 => ?_) (fun c10 => ?_)
    · have m36 := h_if_f c10 m35
      clear m35
      refine r_aload_n hw dX8_isOf_24 0 rfl ?_
      refine r_iload_n hw dX8_isOf_25 1 rfl ?_
      obtain ⟨M11, g11, m37⟩ := h_bd m36
      clear m36
      refine r_callV0 hw (tX8_lookA l G b0 g11) lB_X8_lookA lI_X8_lookA mL_X8_149 (c := 8) rfl h1 rfl (Nat.le_of_ble_eq_true rfl) (Nat.le_of_ble_eq_true rfl) rfl (Nat.le_of_ble_eq_true rfl) dX8_isOf_26 ?_
      refine r_iload_n hw dX8_isOf_29 2 rfl ?_
      refine r_if_eq (tgt := 106) hw dX8_isOf_30 (by decide) (fun c12 => ?_) (fun c12 => ?_)
      · have m38 := h_if_t c12 m37
        clear m37
        refine r_sub hw [] rfl ?_
        exact J106 _ m38
      · have m39 := h_if_f c12 m37
        clear m37
        refine r_iload_n hw dX8_isOf_33 2 rfl ?_
        refine r_iconst (v := 1) hw dX8_isOf_34 rfl ?_
        refine r_icmp_ne (tgt := 49) hw dX8_isOf_35 (by decide) (fun c13 => ?_) (fun c13 => ?_)
        · have m40 := h_if_f c13 m39
          clear m39
          refine r_iload_n hw dX8_isOf_49 2 rfl ?_
          refine r_iconst (v := 2) hw dX8_isOf_50 rfl ?_
          refine r_icmp_ne (tgt := 64) hw dX8_isOf_51 (by decide) (fun c14 => ?_) (fun c14 => ?_)
          · have m41 := h_if_f c14 m40
            clear m40
            refine r_iload_n hw dX8_isOf_64 2 rfl ?_
            refine r_iconst (v := 3) hw dX8_isOf_65 rfl ?_
            refine r_icmp_ne (tgt := 86) hw dX8_isOf_66 (by decide) (fun c15 => ?_) (fun c15 => ?_)
            · have m42 := h_if_f c15 m41
              clear m41
              refine r_aload_n hw dX8_isOf_86 0 rfl ?_
              refine r_getI hw fO_X8_146 h1 dX8_isOf_87 ?_
              refine r_iconst (v := 3) hw dX8_isOf_90 rfl ?_
              refine r_icmp_ne (tgt := 110) hw dX8_isOf_91 (by decide) (fun c16 => ?_) (fun c16 => ?_)
              · have m43 := h_if_f c16 m42
                clear m42
                refine r_sub hw [] rfl ?_
                exact J110 _ m43
              · have m44 := h_if_t c16 m42
                clear m42
                refine r_aload_n hw dX8_isOf_94 0 rfl ?_
                refine r_iload_n hw dX8_isOf_95 1 rfl ?_
                refine r_bipush (v := 36) hw dX8_isOf_96 rfl ?_
                obtain ⟨l17, g17, m45⟩ := h_bd m44
                clear m44
                refine r_callV1 hw (tX8_get l G b0 g17) lB_X8_get lI_X8_get mL_X8_103 (c := 8) rfl h1 rfl (Nat.le_of_ble_eq_true rfl) (Nat.le_of_ble_eq_true rfl) rfl (Nat.le_of_ble_eq_true rfl) dX8_isOf_98 ?_
                refine r_lconst (v := 1) hw dX8_isOf_101 rfl ?_
                refine r_lcmp_ne (tgt := 110) hw dX8_isOf_102 dX8_isOf_103 (by decide) (fun c18 => ?_) (fun c18 => ?_)
                · have m46 := h_if_f c18 m45
                  clear m45
                  refine r_sub hw [] rfl ?_
                  exact J110 _ m46
                · have m47 := h_if_t c18 m45
                  clear m45
                  refine r_sub hw [] rfl ?_
                  exact J106 _ m47
            · have m48 := h_if_t c15 m41
              clear m41
              refine r_aload_n hw dX8_isOf_69 0 rfl ?_
              obtain ⟨i19, g19, m49⟩ := h_bd m48
              clear m48
              refine r_callV1 hw (tX8_isSlab l G b0 g19) lB_X8_isSlab lI_X8_isSlab mL_X8_259 (c := 8) rfl h1 rfl (Nat.le_of_ble_eq_true rfl) (Nat.le_of_ble_eq_true rfl) rfl (Nat.le_of_ble_eq_true rfl) dX8_isOf_70 ?_
              refine r_if_eq (tgt := 110) hw dX8_isOf_73 (by decide) (fun c20 => ?_) (fun c20 => ?_)
              · have m50 := h_if_t c20 m49
                clear m49
                refine r_sub hw [] rfl ?_
                exact J110 _ m50
              · have m51 := h_if_f c20 m49
                clear m49
                refine r_aload_n hw dX8_isOf_76 0 rfl ?_
                obtain ⟨i21, g21, m52⟩ := h_bd m51
                clear m51
                refine r_callV1 hw (tX8_isUpright l G b0 g21) lB_X8_isUpright lI_X8_isUpright mL_X8_262 (c := 8) rfl h1 rfl (Nat.le_of_ble_eq_true rfl) (Nat.le_of_ble_eq_true rfl) rfl (Nat.le_of_ble_eq_true rfl) dX8_isOf_77 ?_
                refine r_if_eq (tgt := 110) hw dX8_isOf_80 (by decide) (fun c22 => ?_) (fun c22 => ?_)
                · have m53 := h_if_t c22 m52
                  clear m52
                  refine r_sub hw [] rfl ?_
                  exact J110 _ m53
                · have m54 := h_if_f c22 m52
                  clear m52
                  refine r_goto (tgt := 106) hw dX8_isOf_83 (by decide) ?_
                  refine r_sub hw [] rfl ?_
                  exact J106 _ m54
          · have m55 := h_if_t c14 m40
            clear m40
            refine r_aload_n hw dX8_isOf_54 0 rfl ?_
            obtain ⟨i23, g23, m56⟩ := h_bd m55
            clear m55
            refine r_callV1 hw (tX8_isSlab l G b0 g23) lB_X8_isSlab lI_X8_isSlab mL_X8_259 (c := 8) rfl h1 rfl (Nat.le_of_ble_eq_true rfl) (Nat.le_of_ble_eq_true rfl) rfl (Nat.le_of_ble_eq_true rfl) dX8_isOf_55 ?_
            refine r_if_eq (tgt := 110) hw dX8_isOf_58 (by decide) (fun c24 => ?_) (fun c24 => ?_)
            · have m57 := h_if_t c24 m56
              clear m56
              refine r_sub hw [] rfl ?_
              exact J110 _ m57
            · have m58 := h_if_f c24 m56
              clear m56
              refine r_goto (tgt := 106) hw dX8_isOf_61 (by decide) ?_
              refine r_sub hw [] rfl ?_
              exact J106 _ m58
        · have m59 := h_if_t c13 m39
          clear m39
          refine r_aload_n hw dX8_isOf_38 0 rfl ?_
          refine r_getI hw fO_X8_146 h1 dX8_isOf_39 ?_
          refine r_iconst (v := 3) hw dX8_isOf_42 rfl ?_
          refine r_icmp_ne (tgt := 110) hw dX8_isOf_43 (by decide) (fun c25 => ?_) (fun c25 => ?_)
          · have m60 := h_if_f c25 m59
            clear m59
            refine r_sub hw [] rfl ?_
            exact J110 _ m60
          · have m61 := h_if_t c25 m59
            clear m59
            refine r_goto (tgt := 106) hw dX8_isOf_46 (by decide) ?_
            refine r_sub hw [] rfl ?_
            exact J106 _ m61
    · have m62 := h_if_t c10 m35
      clear m35
      refine r_ldc2 (v := (-9000000000000000001)) hw dX8_isOf_20 kW_X8_160 ?_
      cases h_ret m62
      exact r_lreturn hw rfl rfl dX8_isOf_23
theorem dX8_areaOf_0 : decode cX8_areaOf 0 = .ok (.aload_n 0, 1) := by decide +kernel
theorem dX8_areaOf_1 : decode cX8_areaOf 1 = .ok (.iload_n 1, 1) := by decide +kernel
theorem dX8_areaOf_2 : decode cX8_areaOf 2 = .ok (.invokevirtual 149, 3) := by decide +kernel
theorem dX8_areaOf_5 : decode cX8_areaOf 5 = .ok (.lconst 0, 1) := by decide +kernel
theorem dX8_areaOf_6 : decode cX8_areaOf 6 = .ok (.lstore_n 2, 1) := by decide +kernel
theorem dX8_areaOf_7 : decode cX8_areaOf 7 = .ok (.iconst 0, 1) := by decide +kernel
theorem dX8_areaOf_8 : decode cX8_areaOf 8 = .ok (.istore 4, 2) := by decide +kernel
theorem dX8_areaOf_10 : decode cX8_areaOf 10 = .ok (.iload 4, 2) := by decide +kernel
theorem dX8_areaOf_12 : decode cX8_areaOf 12 = .ok (.aload_n 0, 1) := by decide +kernel
theorem dX8_areaOf_13 : decode cX8_areaOf 13 = .ok (.getfield 146, 3) := by decide +kernel
theorem dX8_areaOf_16 : decode cX8_areaOf 16 = .ok (.if_icmp .ge 54, 3) := by decide +kernel
theorem dX8_areaOf_19 : decode cX8_areaOf 19 = .ok (.iload 4, 2) := by decide +kernel
theorem dX8_areaOf_21 : decode cX8_areaOf 21 = .ok (.iconst 1, 1) := by decide +kernel
theorem dX8_areaOf_22 : decode cX8_areaOf 22 = .ok (.iadd, 1) := by decide +kernel
theorem dX8_areaOf_23 : decode cX8_areaOf 23 = .ok (.aload_n 0, 1) := by decide +kernel
theorem dX8_areaOf_24 : decode cX8_areaOf 24 = .ok (.getfield 146, 3) := by decide +kernel
theorem dX8_areaOf_27 : decode cX8_areaOf 27 = .ok (.irem, 1) := by decide +kernel
theorem dX8_areaOf_28 : decode cX8_areaOf 28 = .ok (.istore 5, 2) := by decide +kernel
theorem dX8_areaOf_30 : decode cX8_areaOf 30 = .ok (.lload_n 2, 1) := by decide +kernel
theorem dX8_areaOf_31 : decode cX8_areaOf 31 = .ok (.aload_n 0, 1) := by decide +kernel
theorem dX8_areaOf_32 : decode cX8_areaOf 32 = .ok (.getfield 42, 3) := by decide +kernel
theorem dX8_areaOf_35 : decode cX8_areaOf 35 = .ok (.iload 4, 2) := by decide +kernel
theorem dX8_areaOf_37 : decode cX8_areaOf 37 = .ok (.laload, 1) := by decide +kernel
theorem dX8_areaOf_38 : decode cX8_areaOf 38 = .ok (.aload_n 0, 1) := by decide +kernel
theorem dX8_areaOf_39 : decode cX8_areaOf 39 = .ok (.getfield 45, 3) := by decide +kernel
theorem dX8_areaOf_42 : decode cX8_areaOf 42 = .ok (.iload 5, 2) := by decide +kernel
theorem dX8_areaOf_44 : decode cX8_areaOf 44 = .ok (.laload, 1) := by decide +kernel
theorem dX8_areaOf_45 : decode cX8_areaOf 45 = .ok (.lmul, 1) := by decide +kernel
theorem dX8_areaOf_46 : decode cX8_areaOf 46 = .ok (.aload_n 0, 1) := by decide +kernel
theorem dX8_areaOf_47 : decode cX8_areaOf 47 = .ok (.getfield 42, 3) := by decide +kernel
theorem dX8_areaOf_50 : decode cX8_areaOf 50 = .ok (.iload 5, 2) := by decide +kernel
theorem dX8_areaOf_52 : decode cX8_areaOf 52 = .ok (.laload, 1) := by decide +kernel
theorem dX8_areaOf_53 : decode cX8_areaOf 53 = .ok (.aload_n 0, 1) := by decide +kernel
theorem dX8_areaOf_54 : decode cX8_areaOf 54 = .ok (.getfield 45, 3) := by decide +kernel
theorem dX8_areaOf_57 : decode cX8_areaOf 57 = .ok (.iload 4, 2) := by decide +kernel
theorem dX8_areaOf_59 : decode cX8_areaOf 59 = .ok (.laload, 1) := by decide +kernel
theorem dX8_areaOf_60 : decode cX8_areaOf 60 = .ok (.lmul, 1) := by decide +kernel
theorem dX8_areaOf_61 : decode cX8_areaOf 61 = .ok (.lsub, 1) := by decide +kernel
theorem dX8_areaOf_62 : decode cX8_areaOf 62 = .ok (.ladd, 1) := by decide +kernel
theorem dX8_areaOf_63 : decode cX8_areaOf 63 = .ok (.lstore_n 2, 1) := by decide +kernel
theorem dX8_areaOf_64 : decode cX8_areaOf 64 = .ok (.iinc 4 1, 3) := by decide +kernel
theorem dX8_areaOf_67 : decode cX8_areaOf 67 = .ok (.goto (-57), 3) := by decide +kernel
theorem dX8_areaOf_70 : decode cX8_areaOf 70 = .ok (.lload_n 2, 1) := by decide +kernel
theorem dX8_areaOf_71 : decode cX8_areaOf 71 = .ok (.lreturn, 1) := by decide +kernel
set_option maxHeartbeats 4000000 in
set_option maxRecDepth 100000 in
theorem tX8_areaOf (l : Launch) (G : Gg) (b0 : Nat) {K : Kk} {R : Rr} {M : Mm} {r : Nat} {a0 : Int32} {res : Int64} {M' : Mm} (hm : mX8_areaOf K R M r a0 = some (res, M')) : CT l G b0 yX8_areaOf cX8_areaOf 6 (some .long) (rmz 5 109) [.ref r, .int a0] K R M (some (.long res)) K R M' := by
  refine ct_of (by decide +kernel) (Nat.le_of_ble_eq_true rfl) (fun w hw => ?_)
  change w 0 0 0 [(0, .ref r), (1, .int a0)] [] K R M
  replace hm := h_start hm
  unfold mX8_areaOf at hm
  obtain ⟨h1, m18⟩ := h_ck hm
  clear hm
  refine r_aload_n hw dX8_areaOf_0 0 rfl ?_
  refine r_iload_n hw dX8_areaOf_1 1 rfl ?_
  obtain ⟨M2, g2, m19⟩ := h_bd m18
  clear m18
  refine r_callV0 hw (tX8_lookA l G b0 g2) lB_X8_lookA lI_X8_lookA mL_X8_149 (c := 8) rfl h1 rfl (Nat.le_of_ble_eq_true rfl) (Nat.le_of_ble_eq_true rfl) rfl (Nat.le_of_ble_eq_true rfl) dX8_areaOf_2 ?_
  refine r_lconst (v := 0) hw dX8_areaOf_5 rfl ?_
  obtain ⟨l3, el3, m20⟩ := h_nm m19
  clear m19
  refine r_topL (w := w) el3 ?_
  refine r_lstore_n hw dX8_areaOf_6 rfl (by decide) rfl ?_
  refine r_iconst (v := 0) hw dX8_areaOf_7 rfl ?_
  obtain ⟨i4, ei4, m21⟩ := h_nm m20
  clear m20
  refine r_topI (w := w) ei4 ?_
  refine r_istore hw dX8_areaOf_8 (by decide) rfl ?_
  refine r_sub hw [2, 1, 0] rfl ?_
  obtain ⟨v10, n010, hn10, hv10⟩ := h_lp m21
  clear m21
  have L10 : ∀ n : Nat, ∀ (l5 : Int64) (i6 : Int32), it (mX8_areaOf_L10 K R M2 r) n (l5, i6) = some v10 → w 0 0 10 [(0, .ref r), (2, .long l5), (4, .int i6)] [] K R M2 := by
    intro n10
    induction n10 with
    | zero => intro l5 i6 hz; exact absurd hz h_it0
    | succ n10 ih10 =>
      intro l5 i6 m22
      replace m22 : (mX8_areaOf_B10 K R M2 r l5 i6).bind (Sum.elim (it (mX8_areaOf_L10 K R M2 r) n10) some) = some v10 := m22
      unfold mX8_areaOf_B10 at m22
      refine r_iload hw dX8_areaOf_10 2 rfl ?_
      refine r_aload_n hw dX8_areaOf_12 0 rfl ?_
      refine r_getI hw fO_X8_146 h1 dX8_areaOf_13 ?_
      refine r_icmp_ge (tgt := 70) hw dX8_areaOf_16 (by decide) (fun c7 => ?_) (fun c7 => ?_)
      · have m23 := h_if_f c7 m22
        clear m22
        have m24 := h_ex m23 hv10
        clear m23
        refine r_lload_n hw dX8_areaOf_70 1 rfl ?_
        cases h_ret m24
        exact r_lreturn hw rfl rfl dX8_areaOf_71
      · have m25 := h_if_t c7 m22
        clear m22
        refine r_iload hw dX8_areaOf_19 2 rfl ?_
        refine r_iconst (v := 1) hw dX8_areaOf_21 rfl ?_
        refine r_iadd hw dX8_areaOf_22 ?_
        refine r_aload_n hw dX8_areaOf_23 0 rfl ?_
        refine r_getI hw fO_X8_146 h1 dX8_areaOf_24 ?_
        obtain ⟨h8, m26⟩ := h_ck m25
        clear m25
        refine r_irem hw dX8_areaOf_27 h8 ?_
        obtain ⟨i9, ei9, m27⟩ := h_nm m26
        clear m26
        refine r_topI (w := w) ei9 ?_
        refine r_istore hw dX8_areaOf_28 (by decide) rfl ?_
        refine r_lload_n hw dX8_areaOf_30 2 rfl ?_
        refine r_aload_n hw dX8_areaOf_31 1 rfl ?_
        obtain ⟨q10, bq10, m28⟩ := h_bd m27
        clear m27
        refine r_getR hw fO_X8_42 h1 bq10 dX8_areaOf_32 ?_
        refine r_iload hw dX8_areaOf_35 3 rfl ?_
        obtain ⟨h11, m29⟩ := h_ck m28
        clear m28
        refine r_laload hw h11 dX8_areaOf_37 ?_
        refine r_aload_n hw dX8_areaOf_38 1 rfl ?_
        obtain ⟨q12, bq12, m30⟩ := h_bd m29
        clear m29
        refine r_getR hw fO_X8_45 h1 bq12 dX8_areaOf_39 ?_
        refine r_iload hw dX8_areaOf_42 0 rfl ?_
        obtain ⟨h13, m31⟩ := h_ck m30
        clear m30
        refine r_laload hw h13 dX8_areaOf_44 ?_
        refine r_lmul hw dX8_areaOf_45 ?_
        refine r_aload_n hw dX8_areaOf_46 1 rfl ?_
        refine r_getR hw fO_X8_42 h1 bq10 dX8_areaOf_47 ?_
        refine r_iload hw dX8_areaOf_50 0 rfl ?_
        obtain ⟨h14, m32⟩ := h_ck m31
        clear m31
        refine r_laload hw h14 dX8_areaOf_52 ?_
        refine r_aload_n hw dX8_areaOf_53 1 rfl ?_
        refine r_getR hw fO_X8_45 h1 bq12 dX8_areaOf_54 ?_
        refine r_iload hw dX8_areaOf_57 3 rfl ?_
        obtain ⟨h15, m33⟩ := h_ck m32
        clear m32
        refine r_laload hw h15 dX8_areaOf_59 ?_
        refine r_lmul hw dX8_areaOf_60 ?_
        refine r_lsub hw dX8_areaOf_61 ?_
        refine r_ladd hw dX8_areaOf_62 ?_
        obtain ⟨l16, el16, m34⟩ := h_nm m33
        clear m33
        refine r_topL (w := w) el16 ?_
        refine r_lstore_n hw dX8_areaOf_63 rfl (by decide) rfl ?_
        obtain ⟨i17, ei17, m35⟩ := h_nm m34
        clear m34
        refine r_iinc (j := 3) (v := i17) hw dX8_areaOf_64 rfl (by rw [ei17]; rfl) (by decide) rfl ?_
        refine r_goto (tgt := 10) hw dX8_areaOf_67 (by decide) ?_
        refine r_sub hw [3, 1, 0] rfl ?_
        exact ih10 _ _ m35
  exact L10 n010 _ _ hn10
theorem dX8_about_0 : decode cX8_about 0 = .ok (.aload_n 0, 1) := by decide +kernel
theorem dX8_about_1 : decode cX8_about 1 = .ok (.iload_n 1, 1) := by decide +kernel
theorem dX8_about_2 : decode cX8_about 2 = .ok (.invokevirtual 226, 3) := by decide +kernel
theorem dX8_about_5 : decode cX8_about 5 = .ok (.ifCond .eq 15, 3) := by decide +kernel
theorem dX8_about_8 : decode cX8_about 8 = .ok (.iload_n 2, 1) := by decide +kernel
theorem dX8_about_9 : decode cX8_about 9 = .ok (.i2l, 1) := by decide +kernel
theorem dX8_about_10 : decode cX8_about 10 = .ok (.lconst 0, 1) := by decide +kernel
theorem dX8_about_11 : decode cX8_about 11 = .ok (.ldc2_w 265, 3) := by decide +kernel
theorem dX8_about_14 : decode cX8_about 14 = .ok (.invokestatic 95, 3) := by decide +kernel
theorem dX8_about_17 : decode cX8_about 17 = .ok (.ifCond .ne 7, 3) := by decide +kernel
theorem dX8_about_20 : decode cX8_about 20 = .ok (.ldc2_w 160, 3) := by decide +kernel
theorem dX8_about_23 : decode cX8_about 23 = .ok (.lreturn, 1) := by decide +kernel
theorem dX8_about_24 : decode cX8_about 24 = .ok (.iload_n 2, 1) := by decide +kernel
theorem dX8_about_25 : decode cX8_about 25 = .ok (.ifCond .ne 12, 3) := by decide +kernel
theorem dX8_about_28 : decode cX8_about 28 = .ok (.aload_n 0, 1) := by decide +kernel
theorem dX8_about_29 : decode cX8_about 29 = .ok (.iload_n 1, 1) := by decide +kernel
theorem dX8_about_30 : decode cX8_about 30 = .ok (.invokevirtual 135, 3) := by decide +kernel
theorem dX8_about_33 : decode cX8_about 33 = .ok (.i2l, 1) := by decide +kernel
theorem dX8_about_34 : decode cX8_about 34 = .ok (.goto 68, 3) := by decide +kernel
theorem dX8_about_37 : decode cX8_about 37 = .ok (.iload_n 2, 1) := by decide +kernel
theorem dX8_about_38 : decode cX8_about 38 = .ok (.iconst 1, 1) := by decide +kernel
theorem dX8_about_39 : decode cX8_about 39 = .ok (.if_icmp .ne 11, 3) := by decide +kernel
theorem dX8_about_42 : decode cX8_about 42 = .ok (.aload_n 0, 1) := by decide +kernel
theorem dX8_about_43 : decode cX8_about 43 = .ok (.iload_n 1, 1) := by decide +kernel
theorem dX8_about_44 : decode cX8_about 44 = .ok (.invokevirtual 267, 3) := by decide +kernel
theorem dX8_about_47 : decode cX8_about 47 = .ok (.goto 55, 3) := by decide +kernel
theorem dX8_about_50 : decode cX8_about 50 = .ok (.iload_n 2, 1) := by decide +kernel
theorem dX8_about_51 : decode cX8_about 51 = .ok (.iconst 2, 1) := by decide +kernel
theorem dX8_about_52 : decode cX8_about 52 = .ok (.if_icmp .ne 13, 3) := by decide +kernel
theorem dX8_about_55 : decode cX8_about 55 = .ok (.aload_n 0, 1) := by decide +kernel
theorem dX8_about_56 : decode cX8_about 56 = .ok (.iload_n 1, 1) := by decide +kernel
theorem dX8_about_57 : decode cX8_about 57 = .ok (.bipush 33, 2) := by decide +kernel
theorem dX8_about_59 : decode cX8_about 59 = .ok (.invokevirtual 103, 3) := by decide +kernel
theorem dX8_about_62 : decode cX8_about 62 = .ok (.goto 40, 3) := by decide +kernel
theorem dX8_about_65 : decode cX8_about 65 = .ok (.iload_n 2, 1) := by decide +kernel
theorem dX8_about_66 : decode cX8_about 66 = .ok (.iconst 3, 1) := by decide +kernel
theorem dX8_about_67 : decode cX8_about 67 = .ok (.if_icmp .ne 13, 3) := by decide +kernel
theorem dX8_about_70 : decode cX8_about 70 = .ok (.aload_n 0, 1) := by decide +kernel
theorem dX8_about_71 : decode cX8_about 71 = .ok (.iload_n 1, 1) := by decide +kernel
theorem dX8_about_72 : decode cX8_about 72 = .ok (.bipush 34, 2) := by decide +kernel
theorem dX8_about_74 : decode cX8_about 74 = .ok (.invokevirtual 103, 3) := by decide +kernel
theorem dX8_about_77 : decode cX8_about 77 = .ok (.goto 25, 3) := by decide +kernel
theorem dX8_about_80 : decode cX8_about 80 = .ok (.iload_n 2, 1) := by decide +kernel
theorem dX8_about_81 : decode cX8_about 81 = .ok (.iconst 4, 1) := by decide +kernel
theorem dX8_about_82 : decode cX8_about 82 = .ok (.if_icmp .ne 13, 3) := by decide +kernel
theorem dX8_about_85 : decode cX8_about 85 = .ok (.aload_n 0, 1) := by decide +kernel
theorem dX8_about_86 : decode cX8_about 86 = .ok (.iload_n 1, 1) := by decide +kernel
theorem dX8_about_87 : decode cX8_about 87 = .ok (.bipush 35, 2) := by decide +kernel
theorem dX8_about_89 : decode cX8_about 89 = .ok (.invokevirtual 103, 3) := by decide +kernel
theorem dX8_about_92 : decode cX8_about 92 = .ok (.goto 10, 3) := by decide +kernel
theorem dX8_about_95 : decode cX8_about 95 = .ok (.aload_n 0, 1) := by decide +kernel
theorem dX8_about_96 : decode cX8_about 96 = .ok (.iload_n 1, 1) := by decide +kernel
theorem dX8_about_97 : decode cX8_about 97 = .ok (.bipush 36, 2) := by decide +kernel
theorem dX8_about_99 : decode cX8_about 99 = .ok (.invokevirtual 103, 3) := by decide +kernel
theorem dX8_about_102 : decode cX8_about 102 = .ok (.lreturn, 1) := by decide +kernel
set_option maxHeartbeats 4000000 in
set_option maxRecDepth 100000 in
theorem tX8_about (l : Launch) (G : Gg) (b0 : Nat) {K : Kk} {R : Rr} {M : Mm} {r : Nat} {a0 : Int32} {a1 : Int32} {res : Int64} {M' : Mm} (hm : mX8_about K R M r a0 a1 = some (res, M')) : CT l G b0 yX8_about cX8_about 3 (some .long) (rmz 6 134) [.ref r, .int a0, .int a1] K R M (some (.long res)) K R M' := by
  refine ct_of (by decide +kernel) (Nat.le_of_ble_eq_true rfl) (fun w hw => ?_)
  change w 0 0 0 [(0, .ref r), (1, .int a0), (2, .int a1)] [] K R M
  replace hm := h_start hm
  unfold mX8_about at hm
  obtain ⟨h1, m18⟩ := h_ck hm
  clear hm
  refine r_aload_n hw dX8_about_0 0 rfl ?_
  refine r_iload_n hw dX8_about_1 1 rfl ?_
  obtain ⟨i2, g2, m19⟩ := h_bd m18
  clear m18
  refine r_callV1 hw (tX8_isPiece l G b0 g2) lB_X8_isPiece lI_X8_isPiece mL_X8_226 (c := 8) rfl h1 rfl (Nat.le_of_ble_eq_true rfl) (Nat.le_of_ble_eq_true rfl) rfl (Nat.le_of_ble_eq_true rfl) dX8_about_2 ?_
  refine r_if_eq (tgt := 20) hw dX8_about_5 (by decide) (fun c3 => ?_) (fun c3 => ?_)
  · have m20 := h_if_t c3 m19
    clear m19
    refine r_ldc2 (v := (-9000000000000000001)) hw dX8_about_20 kW_X8_160 ?_
    cases h_ret m20
    exact r_lreturn hw rfl rfl dX8_about_23
  · have m21 := h_if_f c3 m19
    clear m19
    refine r_iload_n hw dX8_about_8 2 rfl ?_
    refine r_i2l hw dX8_about_9 ?_
    refine r_lconst (v := 0) hw dX8_about_10 rfl ?_
    refine r_ldc2 (v := 5) hw dX8_about_11 kW_X8_265 ?_
    obtain ⟨i4, g4, m22⟩ := h_bd m21
    clear m21
    refine r_callS1 hw (tX8_isIn l G b0 g4) lB_X8_isIn sT_X8_isIn mL_X8_95 rfl rfl (Nat.le_of_ble_eq_true rfl) (Nat.le_of_ble_eq_true rfl) rfl (Nat.le_of_ble_eq_true rfl) dX8_about_14 ?_
    refine r_if_ne (tgt := 24) hw dX8_about_17 (by decide) (fun c5 => ?_) (fun c5 => ?_)
    · have m23 := h_if_f c5 m22
      clear m22
      refine r_iload_n hw dX8_about_24 2 rfl ?_
      refine r_if_ne (tgt := 37) hw dX8_about_25 (by decide) (fun c6 => ?_) (fun c6 => ?_)
      · have m24 := h_if_f c6 m23
        clear m23
        refine r_iload_n hw dX8_about_37 2 rfl ?_
        refine r_iconst (v := 1) hw dX8_about_38 rfl ?_
        refine r_icmp_ne (tgt := 50) hw dX8_about_39 (by decide) (fun c7 => ?_) (fun c7 => ?_)
        · have m25 := h_if_f c7 m24
          clear m24
          refine r_iload_n hw dX8_about_50 2 rfl ?_
          refine r_iconst (v := 2) hw dX8_about_51 rfl ?_
          refine r_icmp_ne (tgt := 65) hw dX8_about_52 (by decide) (fun c8 => ?_) (fun c8 => ?_)
          · have m26 := h_if_f c8 m25
            clear m25
            refine r_iload_n hw dX8_about_65 2 rfl ?_
            refine r_iconst (v := 3) hw dX8_about_66 rfl ?_
            refine r_icmp_ne (tgt := 80) hw dX8_about_67 (by decide) (fun c9 => ?_) (fun c9 => ?_)
            · have m27 := h_if_f c9 m26
              clear m26
              refine r_iload_n hw dX8_about_80 2 rfl ?_
              refine r_iconst (v := 4) hw dX8_about_81 rfl ?_
              refine r_icmp_ne (tgt := 95) hw dX8_about_82 (by decide) (fun c10 => ?_) (fun c10 => ?_)
              · have m28 := h_if_f c10 m27
                clear m27
                refine r_aload_n hw dX8_about_95 0 rfl ?_
                refine r_iload_n hw dX8_about_96 1 rfl ?_
                refine r_bipush (v := 36) hw dX8_about_97 rfl ?_
                obtain ⟨l11, g11, m29⟩ := h_bd m28
                clear m28
                refine r_callV1 hw (tX8_get l G b0 g11) lB_X8_get lI_X8_get mL_X8_103 (c := 8) rfl h1 rfl (Nat.le_of_ble_eq_true rfl) (Nat.le_of_ble_eq_true rfl) rfl (Nat.le_of_ble_eq_true rfl) dX8_about_99 ?_
                cases h_ret m29
                exact r_lreturn hw rfl rfl dX8_about_102
              · have m30 := h_if_t c10 m27
                clear m27
                refine r_aload_n hw dX8_about_85 0 rfl ?_
                refine r_iload_n hw dX8_about_86 1 rfl ?_
                refine r_bipush (v := 35) hw dX8_about_87 rfl ?_
                obtain ⟨l12, g12, m31⟩ := h_bd m30
                clear m30
                refine r_callV1 hw (tX8_get l G b0 g12) lB_X8_get lI_X8_get mL_X8_103 (c := 8) rfl h1 rfl (Nat.le_of_ble_eq_true rfl) (Nat.le_of_ble_eq_true rfl) rfl (Nat.le_of_ble_eq_true rfl) dX8_about_89 ?_
                refine r_goto (tgt := 102) hw dX8_about_92 (by decide) ?_
                cases h_ret m31
                exact r_lreturn hw rfl rfl dX8_about_102
            · have m32 := h_if_t c9 m26
              clear m26
              refine r_aload_n hw dX8_about_70 0 rfl ?_
              refine r_iload_n hw dX8_about_71 1 rfl ?_
              refine r_bipush (v := 34) hw dX8_about_72 rfl ?_
              obtain ⟨l13, g13, m33⟩ := h_bd m32
              clear m32
              refine r_callV1 hw (tX8_get l G b0 g13) lB_X8_get lI_X8_get mL_X8_103 (c := 8) rfl h1 rfl (Nat.le_of_ble_eq_true rfl) (Nat.le_of_ble_eq_true rfl) rfl (Nat.le_of_ble_eq_true rfl) dX8_about_74 ?_
              refine r_goto (tgt := 102) hw dX8_about_77 (by decide) ?_
              cases h_ret m33
              exact r_lreturn hw rfl rfl dX8_about_102
          · have m34 := h_if_t c8 m25
            clear m25
            refine r_aload_n hw dX8_about_55 0 rfl ?_
            refine r_iload_n hw dX8_about_56 1 rfl ?_
            refine r_bipush (v := 33) hw dX8_about_57 rfl ?_
            obtain ⟨l14, g14, m35⟩ := h_bd m34
            clear m34
            refine r_callV1 hw (tX8_get l G b0 g14) lB_X8_get lI_X8_get mL_X8_103 (c := 8) rfl h1 rfl (Nat.le_of_ble_eq_true rfl) (Nat.le_of_ble_eq_true rfl) rfl (Nat.le_of_ble_eq_true rfl) dX8_about_59 ?_
            refine r_goto (tgt := 102) hw dX8_about_62 (by decide) ?_
            cases h_ret m35
            exact r_lreturn hw rfl rfl dX8_about_102
        · have m36 := h_if_t c7 m24
          clear m24
          refine r_aload_n hw dX8_about_42 0 rfl ?_
          refine r_iload_n hw dX8_about_43 1 rfl ?_
          obtain ⟨l15, M16, g16, m37⟩ := h_bd2 m36
          clear m36
          refine r_callV1 hw (tX8_areaOf l G b0 g16) lB_X8_areaOf lI_X8_areaOf mL_X8_267 (c := 8) rfl h1 rfl (Nat.le_of_ble_eq_true rfl) (Nat.le_of_ble_eq_true rfl) rfl (Nat.le_of_ble_eq_true rfl) dX8_about_44 ?_
          refine r_goto (tgt := 102) hw dX8_about_47 (by decide) ?_
          cases h_ret m37
          exact r_lreturn hw rfl rfl dX8_about_102
      · have m38 := h_if_t c6 m23
        clear m23
        refine r_aload_n hw dX8_about_28 0 rfl ?_
        refine r_iload_n hw dX8_about_29 1 rfl ?_
        obtain ⟨i17, g17, m39⟩ := h_bd m38
        clear m38
        refine r_callV1 hw (tX8_size l G b0 g17) lB_X8_size lI_X8_size mL_X8_135 (c := 8) rfl h1 rfl (Nat.le_of_ble_eq_true rfl) (Nat.le_of_ble_eq_true rfl) rfl (Nat.le_of_ble_eq_true rfl) dX8_about_30 ?_
        refine r_i2l hw dX8_about_33 ?_
        refine r_goto (tgt := 102) hw dX8_about_34 (by decide) ?_
        cases h_ret m39
        exact r_lreturn hw rfl rfl dX8_about_102
    · have m40 := h_if_t c5 m22
      clear m22
      refine r_ldc2 (v := (-9000000000000000001)) hw dX8_about_20 kW_X8_160 ?_
      cases h_ret m40
      exact r_lreturn hw rfl rfl dX8_about_23
theorem dX8_at_0 : decode cX8_at 0 = .ok (.aload_n 0, 1) := by decide +kernel
theorem dX8_at_1 : decode cX8_at 1 = .ok (.iload_n 1, 1) := by decide +kernel
theorem dX8_at_2 : decode cX8_at 2 = .ok (.invokevirtual 226, 3) := by decide +kernel
theorem dX8_at_5 : decode cX8_at 5 = .ok (.ifCond .eq 19, 3) := by decide +kernel
theorem dX8_at_8 : decode cX8_at 8 = .ok (.iload_n 2, 1) := by decide +kernel
theorem dX8_at_9 : decode cX8_at 9 = .ok (.ifCond .lt 15, 3) := by decide +kernel
theorem dX8_at_12 : decode cX8_at 12 = .ok (.iload_n 3, 1) := by decide +kernel
theorem dX8_at_13 : decode cX8_at 13 = .ok (.i2l, 1) := by decide +kernel
theorem dX8_at_14 : decode cX8_at 14 = .ok (.lconst 0, 1) := by decide +kernel
theorem dX8_at_15 : decode cX8_at 15 = .ok (.ldc2_w 270, 3) := by decide +kernel
theorem dX8_at_18 : decode cX8_at 18 = .ok (.invokestatic 95, 3) := by decide +kernel
theorem dX8_at_21 : decode cX8_at 21 = .ok (.ifCond .ne 7, 3) := by decide +kernel
theorem dX8_at_24 : decode cX8_at 24 = .ok (.ldc2_w 160, 3) := by decide +kernel
theorem dX8_at_27 : decode cX8_at 27 = .ok (.lreturn, 1) := by decide +kernel
theorem dX8_at_28 : decode cX8_at 28 = .ok (.iload_n 2, 1) := by decide +kernel
theorem dX8_at_29 : decode cX8_at 29 = .ok (.aload_n 0, 1) := by decide +kernel
theorem dX8_at_30 : decode cX8_at 30 = .ok (.iload_n 1, 1) := by decide +kernel
theorem dX8_at_31 : decode cX8_at 31 = .ok (.invokevirtual 135, 3) := by decide +kernel
theorem dX8_at_34 : decode cX8_at 34 = .ok (.if_icmp .lt 7, 3) := by decide +kernel
theorem dX8_at_37 : decode cX8_at 37 = .ok (.ldc2_w 272, 3) := by decide +kernel
theorem dX8_at_40 : decode cX8_at 40 = .ok (.lreturn, 1) := by decide +kernel
theorem dX8_at_41 : decode cX8_at 41 = .ok (.iload_n 3, 1) := by decide +kernel
theorem dX8_at_42 : decode cX8_at 42 = .ok (.iconst 1, 1) := by decide +kernel
theorem dX8_at_43 : decode cX8_at 43 = .ok (.if_icmp .le 16, 3) := by decide +kernel
theorem dX8_at_46 : decode cX8_at 46 = .ok (.aload_n 0, 1) := by decide +kernel
theorem dX8_at_47 : decode cX8_at 47 = .ok (.iload_n 1, 1) := by decide +kernel
theorem dX8_at_48 : decode cX8_at 48 = .ok (.iload_n 3, 1) := by decide +kernel
theorem dX8_at_49 : decode cX8_at 49 = .ok (.iconst 1, 1) := by decide +kernel
theorem dX8_at_50 : decode cX8_at 50 = .ok (.isub, 1) := by decide +kernel
theorem dX8_at_51 : decode cX8_at 51 = .ok (.iconst 2, 1) := by decide +kernel
theorem dX8_at_52 : decode cX8_at 52 = .ok (.iload_n 2, 1) := by decide +kernel
theorem dX8_at_53 : decode cX8_at 53 = .ok (.imul, 1) := by decide +kernel
theorem dX8_at_54 : decode cX8_at 54 = .ok (.iadd, 1) := by decide +kernel
theorem dX8_at_55 : decode cX8_at 55 = .ok (.invokevirtual 103, 3) := by decide +kernel
theorem dX8_at_58 : decode cX8_at 58 = .ok (.lreturn, 1) := by decide +kernel
theorem dX8_at_59 : decode cX8_at 59 = .ok (.aload_n 0, 1) := by decide +kernel
theorem dX8_at_60 : decode cX8_at 60 = .ok (.iload_n 1, 1) := by decide +kernel
theorem dX8_at_61 : decode cX8_at 61 = .ok (.invokevirtual 149, 3) := by decide +kernel
theorem dX8_at_64 : decode cX8_at 64 = .ok (.iload_n 3, 1) := by decide +kernel
theorem dX8_at_65 : decode cX8_at 65 = .ok (.ifCond .ne 12, 3) := by decide +kernel
theorem dX8_at_68 : decode cX8_at 68 = .ok (.aload_n 0, 1) := by decide +kernel
theorem dX8_at_69 : decode cX8_at 69 = .ok (.getfield 42, 3) := by decide +kernel
theorem dX8_at_72 : decode cX8_at 72 = .ok (.iload_n 2, 1) := by decide +kernel
theorem dX8_at_73 : decode cX8_at 73 = .ok (.laload, 1) := by decide +kernel
theorem dX8_at_74 : decode cX8_at 74 = .ok (.goto 9, 3) := by decide +kernel
theorem dX8_at_77 : decode cX8_at 77 = .ok (.aload_n 0, 1) := by decide +kernel
theorem dX8_at_78 : decode cX8_at 78 = .ok (.getfield 45, 3) := by decide +kernel
theorem dX8_at_81 : decode cX8_at 81 = .ok (.iload_n 2, 1) := by decide +kernel
theorem dX8_at_82 : decode cX8_at 82 = .ok (.laload, 1) := by decide +kernel
theorem dX8_at_83 : decode cX8_at 83 = .ok (.lreturn, 1) := by decide +kernel
set_option maxHeartbeats 4000000 in
set_option maxRecDepth 100000 in
theorem tX8_at (l : Launch) (G : Gg) (b0 : Nat) {K : Kk} {R : Rr} {M : Mm} {r : Nat} {a0 : Int32} {a1 : Int32} {a2 : Int32} {res : Int64} {M' : Mm} (hm : mX8_at K R M r a0 a1 a2 = some (res, M')) : CT l G b0 yX8_at cX8_at 4 (some .long) (rmz 5 109) [.ref r, .int a0, .int a1, .int a2] K R M (some (.long res)) K R M' := by
  refine ct_of (by decide +kernel) (Nat.le_of_ble_eq_true rfl) (fun w hw => ?_)
  change w 0 0 0 [(0, .ref r), (1, .int a0), (2, .int a1), (3, .int a2)] [] K R M
  replace hm := h_start hm
  unfold mX8_at at hm
  obtain ⟨h1, m17⟩ := h_ck hm
  clear hm
  refine r_aload_n hw dX8_at_0 0 rfl ?_
  refine r_iload_n hw dX8_at_1 1 rfl ?_
  obtain ⟨i2, g2, m18⟩ := h_bd m17
  clear m17
  refine r_callV1 hw (tX8_isPiece l G b0 g2) lB_X8_isPiece lI_X8_isPiece mL_X8_226 (c := 8) rfl h1 rfl (Nat.le_of_ble_eq_true rfl) (Nat.le_of_ble_eq_true rfl) rfl (Nat.le_of_ble_eq_true rfl) dX8_at_2 ?_
  refine r_if_eq (tgt := 24) hw dX8_at_5 (by decide) (fun c3 => ?_) (fun c3 => ?_)
  · have m19 := h_if_t c3 m18
    clear m18
    refine r_ldc2 (v := (-9000000000000000001)) hw dX8_at_24 kW_X8_160 ?_
    cases h_ret m19
    exact r_lreturn hw rfl rfl dX8_at_27
  · have m20 := h_if_f c3 m18
    clear m18
    refine r_iload_n hw dX8_at_8 2 rfl ?_
    refine r_if_lt (tgt := 24) hw dX8_at_9 (by decide) (fun c4 => ?_) (fun c4 => ?_)
    · have m21 := h_if_t c4 m20
      clear m20
      refine r_ldc2 (v := (-9000000000000000001)) hw dX8_at_24 kW_X8_160 ?_
      cases h_ret m21
      exact r_lreturn hw rfl rfl dX8_at_27
    · have m22 := h_if_f c4 m20
      clear m20
      refine r_iload_n hw dX8_at_12 3 rfl ?_
      refine r_i2l hw dX8_at_13 ?_
      refine r_lconst (v := 0) hw dX8_at_14 rfl ?_
      refine r_ldc2 (v := 3) hw dX8_at_15 kW_X8_270 ?_
      obtain ⟨i5, g5, m23⟩ := h_bd m22
      clear m22
      refine r_callS1 hw (tX8_isIn l G b0 g5) lB_X8_isIn sT_X8_isIn mL_X8_95 rfl rfl (Nat.le_of_ble_eq_true rfl) (Nat.le_of_ble_eq_true rfl) rfl (Nat.le_of_ble_eq_true rfl) dX8_at_18 ?_
      refine r_if_ne (tgt := 28) hw dX8_at_21 (by decide) (fun c6 => ?_) (fun c6 => ?_)
      · have m24 := h_if_f c6 m23
        clear m23
        refine r_iload_n hw dX8_at_28 2 rfl ?_
        refine r_aload_n hw dX8_at_29 0 rfl ?_
        refine r_iload_n hw dX8_at_30 1 rfl ?_
        obtain ⟨i7, g7, m25⟩ := h_bd m24
        clear m24
        refine r_callV1 hw (tX8_size l G b0 g7) lB_X8_size lI_X8_size mL_X8_135 (c := 8) rfl h1 rfl (Nat.le_of_ble_eq_true rfl) (Nat.le_of_ble_eq_true rfl) rfl (Nat.le_of_ble_eq_true rfl) dX8_at_31 ?_
        refine r_icmp_lt (tgt := 41) hw dX8_at_34 (by decide) (fun c8 => ?_) (fun c8 => ?_)
        · have m26 := h_if_t c8 m25
          clear m25
          refine r_iload_n hw dX8_at_41 3 rfl ?_
          refine r_iconst (v := 1) hw dX8_at_42 rfl ?_
          refine r_icmp_le (tgt := 59) hw dX8_at_43 (by decide) (fun c9 => ?_) (fun c9 => ?_)
          · have m27 := h_if_t c9 m26
            clear m26
            refine r_aload_n hw dX8_at_59 0 rfl ?_
            refine r_iload_n hw dX8_at_60 1 rfl ?_
            obtain ⟨M10, g10, m28⟩ := h_bd m27
            clear m27
            refine r_callV0 hw (tX8_lookA l G b0 g10) lB_X8_lookA lI_X8_lookA mL_X8_149 (c := 8) rfl h1 rfl (Nat.le_of_ble_eq_true rfl) (Nat.le_of_ble_eq_true rfl) rfl (Nat.le_of_ble_eq_true rfl) dX8_at_61 ?_
            refine r_iload_n hw dX8_at_64 3 rfl ?_
            refine r_if_ne (tgt := 77) hw dX8_at_65 (by decide) (fun c11 => ?_) (fun c11 => ?_)
            · have m29 := h_if_f c11 m28
              clear m28
              refine r_aload_n hw dX8_at_77 0 rfl ?_
              obtain ⟨q12, bq12, m30⟩ := h_bd m29
              clear m29
              refine r_getR hw fO_X8_45 h1 bq12 dX8_at_78 ?_
              refine r_iload_n hw dX8_at_81 2 rfl ?_
              obtain ⟨h13, m31⟩ := h_ck m30
              clear m30
              refine r_laload hw h13 dX8_at_82 ?_
              cases h_ret m31
              exact r_lreturn hw rfl rfl dX8_at_83
            · have m32 := h_if_t c11 m28
              clear m28
              refine r_aload_n hw dX8_at_68 0 rfl ?_
              obtain ⟨q14, bq14, m33⟩ := h_bd m32
              clear m32
              refine r_getR hw fO_X8_42 h1 bq14 dX8_at_69 ?_
              refine r_iload_n hw dX8_at_72 2 rfl ?_
              obtain ⟨h15, m34⟩ := h_ck m33
              clear m33
              refine r_laload hw h15 dX8_at_73 ?_
              refine r_goto (tgt := 83) hw dX8_at_74 (by decide) ?_
              cases h_ret m34
              exact r_lreturn hw rfl rfl dX8_at_83
          · have m35 := h_if_f c9 m26
            clear m26
            refine r_aload_n hw dX8_at_46 0 rfl ?_
            refine r_iload_n hw dX8_at_47 1 rfl ?_
            refine r_iload_n hw dX8_at_48 3 rfl ?_
            refine r_iconst (v := 1) hw dX8_at_49 rfl ?_
            refine r_isub hw dX8_at_50 ?_
            refine r_iconst (v := 2) hw dX8_at_51 rfl ?_
            refine r_iload_n hw dX8_at_52 2 rfl ?_
            refine r_imul hw dX8_at_53 ?_
            refine r_iadd hw dX8_at_54 ?_
            obtain ⟨l16, g16, m36⟩ := h_bd m35
            clear m35
            refine r_callV1 hw (tX8_get l G b0 g16) lB_X8_get lI_X8_get mL_X8_103 (c := 8) rfl h1 rfl (Nat.le_of_ble_eq_true rfl) (Nat.le_of_ble_eq_true rfl) rfl (Nat.le_of_ble_eq_true rfl) dX8_at_55 ?_
            cases h_ret m36
            exact r_lreturn hw rfl rfl dX8_at_58
        · have m37 := h_if_f c8 m25
          clear m25
          refine r_ldc2 (v := (-9000000000000000005)) hw dX8_at_37 kW_X8_272 ?_
          cases h_ret m37
          exact r_lreturn hw rfl rfl dX8_at_40
      · have m38 := h_if_t c6 m23
        clear m23
        refine r_ldc2 (v := (-9000000000000000001)) hw dX8_at_24 kW_X8_160 ?_
        cases h_ret m38
        exact r_lreturn hw rfl rfl dX8_at_27
