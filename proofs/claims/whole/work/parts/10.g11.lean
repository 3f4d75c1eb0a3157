theorem dX8_cut_0 : decode cX8_cut 0 = .ok (.iload_n 1, 1) := by decide +kernel
theorem dX8_cut_1 : decode cX8_cut 1 = .ok (.i2l, 1) := by decide +kernel
theorem dX8_cut_2 : decode cX8_cut 2 = .ok (.iload_n 2, 1) := by decide +kernel
theorem dX8_cut_3 : decode cX8_cut 3 = .ok (.i2l, 1) := by decide +kernel
theorem dX8_cut_4 : decode cX8_cut 4 = .ok (.invokestatic 156, 3) := by decide +kernel
theorem dX8_cut_7 : decode cX8_cut 7 = .ok (.ifCond .eq 25, 3) := by decide +kernel
theorem dX8_cut_10 : decode cX8_cut 10 = .ok (.iload_n 3, 1) := by decide +kernel
theorem dX8_cut_11 : decode cX8_cut 11 = .ok (.i2l, 1) := by decide +kernel
theorem dX8_cut_12 : decode cX8_cut 12 = .ok (.iload 4, 2) := by decide +kernel
theorem dX8_cut_14 : decode cX8_cut 14 = .ok (.i2l, 1) := by decide +kernel
theorem dX8_cut_15 : decode cX8_cut 15 = .ok (.invokestatic 156, 3) := by decide +kernel
theorem dX8_cut_18 : decode cX8_cut 18 = .ok (.ifCond .eq 14, 3) := by decide +kernel
theorem dX8_cut_21 : decode cX8_cut 21 = .ok (.iload_n 1, 1) := by decide +kernel
theorem dX8_cut_22 : decode cX8_cut 22 = .ok (.iload_n 3, 1) := by decide +kernel
theorem dX8_cut_23 : decode cX8_cut 23 = .ok (.if_icmp .ne 13, 3) := by decide +kernel
theorem dX8_cut_26 : decode cX8_cut 26 = .ok (.iload_n 2, 1) := by decide +kernel
theorem dX8_cut_27 : decode cX8_cut 27 = .ok (.iload 4, 2) := by decide +kernel
theorem dX8_cut_29 : decode cX8_cut 29 = .ok (.if_icmp .ne 7, 3) := by decide +kernel
theorem dX8_cut_32 : decode cX8_cut 32 = .ok (.ldc2_w 160, 3) := by decide +kernel
theorem dX8_cut_35 : decode cX8_cut 35 = .ok (.lreturn, 1) := by decide +kernel
theorem dX8_cut_36 : decode cX8_cut 36 = .ok (.aload_n 0, 1) := by decide +kernel
theorem dX8_cut_37 : decode cX8_cut 37 = .ok (.iload_n 1, 1) := by decide +kernel
theorem dX8_cut_38 : decode cX8_cut 38 = .ok (.i2l, 1) := by decide +kernel
theorem dX8_cut_39 : decode cX8_cut 39 = .ok (.putfield 184, 3) := by decide +kernel
theorem dX8_cut_42 : decode cX8_cut 42 = .ok (.aload_n 0, 1) := by decide +kernel
theorem dX8_cut_43 : decode cX8_cut 43 = .ok (.iload_n 2, 1) := by decide +kernel
theorem dX8_cut_44 : decode cX8_cut 44 = .ok (.i2l, 1) := by decide +kernel
theorem dX8_cut_45 : decode cX8_cut 45 = .ok (.putfield 188, 3) := by decide +kernel
theorem dX8_cut_48 : decode cX8_cut 48 = .ok (.aload_n 0, 1) := by decide +kernel
theorem dX8_cut_49 : decode cX8_cut 49 = .ok (.iload_n 3, 1) := by decide +kernel
theorem dX8_cut_50 : decode cX8_cut 50 = .ok (.i2l, 1) := by decide +kernel
theorem dX8_cut_51 : decode cX8_cut 51 = .ok (.putfield 191, 3) := by decide +kernel
theorem dX8_cut_54 : decode cX8_cut 54 = .ok (.aload_n 0, 1) := by decide +kernel
theorem dX8_cut_55 : decode cX8_cut 55 = .ok (.iload 4, 2) := by decide +kernel
theorem dX8_cut_57 : decode cX8_cut 57 = .ok (.i2l, 1) := by decide +kernel
theorem dX8_cut_58 : decode cX8_cut 58 = .ok (.putfield 194, 3) := by decide +kernel
theorem dX8_cut_61 : decode cX8_cut 61 = .ok (.iconst 0, 1) := by decide +kernel
theorem dX8_cut_62 : decode cX8_cut 62 = .ok (.istore 5, 2) := by decide +kernel
theorem dX8_cut_64 : decode cX8_cut 64 = .ok (.iconst 0, 1) := by decide +kernel
theorem dX8_cut_65 : decode cX8_cut 65 = .ok (.istore 6, 2) := by decide +kernel
theorem dX8_cut_67 : decode cX8_cut 67 = .ok (.iconst 1, 1) := by decide +kernel
theorem dX8_cut_68 : decode cX8_cut 68 = .ok (.istore 7, 2) := by decide +kernel
theorem dX8_cut_70 : decode cX8_cut 70 = .ok (.iconst 0, 1) := by decide +kernel
theorem dX8_cut_71 : decode cX8_cut 71 = .ok (.istore 8, 2) := by decide +kernel
theorem dX8_cut_73 : decode cX8_cut 73 = .ok (.iload 8, 2) := by decide +kernel
theorem dX8_cut_75 : decode cX8_cut 75 = .ok (.aload_n 0, 1) := by decide +kernel
theorem dX8_cut_76 : decode cX8_cut 76 = .ok (.invokevirtual 99, 3) := by decide +kernel
theorem dX8_cut_79 : decode cX8_cut 79 = .ok (.if_icmp .ge 59, 3) := by decide +kernel
theorem dX8_cut_82 : decode cX8_cut 82 = .ok (.aload_n 0, 1) := by decide +kernel
theorem dX8_cut_83 : decode cX8_cut 83 = .ok (.iload 8, 2) := by decide +kernel
theorem dX8_cut_85 : decode cX8_cut 85 = .ok (.invokevirtual 207, 3) := by decide +kernel
theorem dX8_cut_88 : decode cX8_cut 88 = .ok (.ifCond .eq 44, 3) := by decide +kernel
theorem dX8_cut_91 : decode cX8_cut 91 = .ok (.iinc 5 1, 3) := by decide +kernel
theorem dX8_cut_94 : decode cX8_cut 94 = .ok (.iload 6, 2) := by decide +kernel
theorem dX8_cut_96 : decode cX8_cut 96 = .ok (.ifCond .ne 10, 3) := by decide +kernel
theorem dX8_cut_99 : decode cX8_cut 99 = .ok (.aload_n 0, 1) := by decide +kernel
theorem dX8_cut_100 : decode cX8_cut 100 = .ok (.invokevirtual 210, 3) := by decide +kernel
theorem dX8_cut_103 : decode cX8_cut 103 = .ok (.ifCond .eq 7, 3) := by decide +kernel
theorem dX8_cut_106 : decode cX8_cut 106 = .ok (.iconst 1, 1) := by decide +kernel
theorem dX8_cut_107 : decode cX8_cut 107 = .ok (.goto 4, 3) := by decide +kernel
theorem dX8_cut_110 : decode cX8_cut 110 = .ok (.iconst 0, 1) := by decide +kernel
theorem dX8_cut_111 : decode cX8_cut 111 = .ok (.istore 6, 2) := by decide +kernel
theorem dX8_cut_113 : decode cX8_cut 113 = .ok (.iload 7, 2) := by decide +kernel
theorem dX8_cut_115 : decode cX8_cut 115 = .ok (.ifCond .eq 14, 3) := by decide +kernel
theorem dX8_cut_118 : decode cX8_cut 118 = .ok (.aload_n 0, 1) := by decide +kernel
theorem dX8_cut_119 : decode cX8_cut 119 = .ok (.invokevirtual 214, 3) := by decide +kernel
theorem dX8_cut_122 : decode cX8_cut 122 = .ok (.ifCond .eq 7, 3) := by decide +kernel
theorem dX8_cut_125 : decode cX8_cut 125 = .ok (.iconst 1, 1) := by decide +kernel
theorem dX8_cut_126 : decode cX8_cut 126 = .ok (.goto 4, 3) := by decide +kernel
theorem dX8_cut_129 : decode cX8_cut 129 = .ok (.iconst 0, 1) := by decide +kernel
theorem dX8_cut_130 : decode cX8_cut 130 = .ok (.istore 7, 2) := by decide +kernel
theorem dX8_cut_132 : decode cX8_cut 132 = .ok (.iinc 8 1, 3) := by decide +kernel
theorem dX8_cut_135 : decode cX8_cut 135 = .ok (.goto (-62), 3) := by decide +kernel
theorem dX8_cut_138 : decode cX8_cut 138 = .ok (.iload 6, 2) := by decide +kernel
theorem dX8_cut_140 : decode cX8_cut 140 = .ok (.ifCond .ne 15, 3) := by decide +kernel
theorem dX8_cut_143 : decode cX8_cut 143 = .ok (.aload_n 0, 1) := by decide +kernel
theorem dX8_cut_144 : decode cX8_cut 144 = .ok (.invokevirtual 99, 3) := by decide +kernel
theorem dX8_cut_147 : decode cX8_cut 147 = .ok (.iload 5, 2) := by decide +kernel
theorem dX8_cut_149 : decode cX8_cut 149 = .ok (.iadd, 1) := by decide +kernel
theorem dX8_cut_150 : decode cX8_cut 150 = .ok (.bipush 40, 2) := by decide +kernel
theorem dX8_cut_152 : decode cX8_cut 152 = .ok (.if_icmp .le 7, 3) := by decide +kernel
theorem dX8_cut_155 : decode cX8_cut 155 = .ok (.ldc2_w 162, 3) := by decide +kernel
theorem dX8_cut_158 : decode cX8_cut 158 = .ok (.lreturn, 1) := by decide +kernel
theorem dX8_cut_159 : decode cX8_cut 159 = .ok (.iload 7, 2) := by decide +kernel
theorem dX8_cut_161 : decode cX8_cut 161 = .ok (.ifCond .ne 7, 3) := by decide +kernel
theorem dX8_cut_164 : decode cX8_cut 164 = .ok (.ldc2_w 217, 3) := by decide +kernel
theorem dX8_cut_167 : decode cX8_cut 167 = .ok (.lreturn, 1) := by decide +kernel
theorem dX8_cut_168 : decode cX8_cut 168 = .ok (.aload_n 0, 1) := by decide +kernel
theorem dX8_cut_169 : decode cX8_cut 169 = .ok (.invokevirtual 174, 3) := by decide +kernel
theorem dX8_cut_172 : decode cX8_cut 172 = .ok (.aload_n 0, 1) := by decide +kernel
theorem dX8_cut_173 : decode cX8_cut 173 = .ok (.invokevirtual 99, 3) := by decide +kernel
theorem dX8_cut_176 : decode cX8_cut 176 = .ok (.istore 8, 2) := by decide +kernel
theorem dX8_cut_178 : decode cX8_cut 178 = .ok (.iconst 0, 1) := by decide +kernel
theorem dX8_cut_179 : decode cX8_cut 179 = .ok (.istore 9, 2) := by decide +kernel
theorem dX8_cut_181 : decode cX8_cut 181 = .ok (.iload 9, 2) := by decide +kernel
theorem dX8_cut_183 : decode cX8_cut 183 = .ok (.iload 8, 2) := by decide +kernel
theorem dX8_cut_185 : decode cX8_cut 185 = .ok (.if_icmp .ge 24, 3) := by decide +kernel
theorem dX8_cut_188 : decode cX8_cut 188 = .ok (.aload_n 0, 1) := by decide +kernel
theorem dX8_cut_189 : decode cX8_cut 189 = .ok (.iload 9, 2) := by decide +kernel
theorem dX8_cut_191 : decode cX8_cut 191 = .ok (.invokevirtual 207, 3) := by decide +kernel
theorem dX8_cut_194 : decode cX8_cut 194 = .ok (.ifCond .eq 9, 3) := by decide +kernel
theorem dX8_cut_197 : decode cX8_cut 197 = .ok (.aload_n 0, 1) := by decide +kernel
theorem dX8_cut_198 : decode cX8_cut 198 = .ok (.iload 9, 2) := by decide +kernel
theorem dX8_cut_200 : decode cX8_cut 200 = .ok (.invokevirtual 219, 3) := by decide +kernel
theorem dX8_cut_203 : decode cX8_cut 203 = .ok (.iinc 9 1, 3) := by decide +kernel
theorem dX8_cut_206 : decode cX8_cut 206 = .ok (.goto (-25), 3) := by decide +kernel
theorem dX8_cut_209 : decode cX8_cut 209 = .ok (.iload 5, 2) := by decide +kernel
theorem dX8_cut_211 : decode cX8_cut 211 = .ok (.i2l, 1) := by decide +kernel
theorem dX8_cut_212 : decode cX8_cut 212 = .ok (.lreturn, 1) := by decide +kernel
set_option maxHeartbeats 4000000 in
set_option maxRecDepth 100000 in
theorem tX8_cut (l : Launch) (G : Gg) (b0 : Nat) {K : Kk} {R : Rr} {M : Mm} {r : Nat} {a0 : Int32} {a1 : Int32} {a2 : Int32} {a3 : Int32} {res : Int64} {M' : Mm} (hm : mX8_cut K R M r a0 a1 a2 a3 = some (res, M')) : CT l G b0 yX8_cut cX8_cut 10 (some .long) (rmz 6 136) [.ref r, .int a0, .int a1, .int a2, .int a3] K R M (some (.long res)) K R M' := by
  refine ct_of (by decide +kernel) (Nat.le_of_ble_eq_true rfl) (fun w hq => ?_)
  have hw := hq.b
  change w 0 0 0 [(0, .ref r), (1, .int a0), (2, .int a1), (3, .int a2), (4, .int a3)] [] K R M
  replace hm := h_start hm
  unfold mX8_cut at hm
  obtain ⟨h1, m75⟩ := h_ck hm
  clear hm
  have J36 : ∀ (M2 : Mm), (mX8_cut_J36 K R M2 r a0 a1 a2 a3).bind some = some (res, M') → w 0 0 36 [(0, .ref r), (1, .int a0), (2, .int a1), (3, .int a2), (4, .int a3)] [] K R M2 := by
    intro M2  m76
    unfold mX8_cut_J36 at m76
    refine r_aload_n hw dX8_cut_36 0 rfl ?_
    refine r_iload_n hw dX8_cut_37 1 rfl ?_
    refine r_i2l hw dX8_cut_38 ?_
    obtain ⟨M3, eM3, m77⟩ := h_nm m76
    clear m76
    refine r_putL hw fP_X8_184 h1 dX8_cut_39 (r_mem ?_ rfl eM3)
    refine r_aload_n hw dX8_cut_42 0 rfl ?_
    refine r_iload_n hw dX8_cut_43 2 rfl ?_
    refine r_i2l hw dX8_cut_44 ?_
    obtain ⟨M4, eM4, m78⟩ := h_nm m77
    clear m77
    refine r_putL hw fP_X8_188 h1 dX8_cut_45 (r_mem ?_ rfl eM4)
    refine r_aload_n hw dX8_cut_48 0 rfl ?_
    refine r_iload_n hw dX8_cut_49 3 rfl ?_
    refine r_i2l hw dX8_cut_50 ?_
    obtain ⟨M5, eM5, m79⟩ := h_nm m78
    clear m78
    refine r_putL hw fP_X8_191 h1 dX8_cut_51 (r_mem ?_ rfl eM5)
    refine r_aload_n hw dX8_cut_54 0 rfl ?_
    refine r_iload hw dX8_cut_55 4 rfl ?_
    refine r_i2l hw dX8_cut_57 ?_
    obtain ⟨M6, eM6, m80⟩ := h_nm m79
    clear m79
    refine r_putL hw fP_X8_194 h1 dX8_cut_58 (r_mem ?_ rfl eM6)
    refine r_iconst (v := 0) hw dX8_cut_61 rfl ?_
    obtain ⟨i7, ei7, m81⟩ := h_nm m80
    clear m80
    refine r_topI (w := w) ei7 ?_
    refine r_istore hw dX8_cut_62 (by decide) rfl ?_
    refine r_iconst (v := 0) hw dX8_cut_64 rfl ?_
    obtain ⟨i8, ei8, m82⟩ := h_nm m81
    clear m81
    refine r_topI (w := w) ei8 ?_
    refine r_istore hw dX8_cut_65 (by decide) rfl ?_
    refine r_iconst (v := 1) hw dX8_cut_67 rfl ?_
    obtain ⟨i9, ei9, m83⟩ := h_nm m82
    clear m82
    refine r_topI (w := w) ei9 ?_
    refine r_istore hw dX8_cut_68 (by decide) rfl ?_
    refine r_iconst (v := 0) hw dX8_cut_70 rfl ?_
    obtain ⟨i10, ei10, m84⟩ := h_nm m83
    clear m83
    refine r_topI (w := w) ei10 ?_
    refine r_istore hw dX8_cut_71 (by decide) rfl ?_
    refine r_sub hw [4, 3, 2, 1, 0] rfl ?_
    obtain ⟨v73, n073, hn73, hv73⟩ := h_lp m84
    clear m84
    have L73 : ∀ n : Nat, ∀ (i11 : Int32) (i12 : Int32) (i13 : Int32) (i14 : Int32) (M15 : Mm), it (mX8_cut_L73 K R r) n (i11, i12, i13, i14, M15) = some v73 → w 0 0 73 [(0, .ref r), (5, .int i11), (6, .int i12), (7, .int i13), (8, .int i14)] [] K R M15 := by
      intro n73
      induction n73 with
      | zero => intro i11 i12 i13 i14 M15 hz; exact absurd hz h_it0
      | succ n73 ih73 =>
        intro i11 i12 i13 i14 M15 m85
        replace m85 : (mX8_cut_B73 K R r i11 i12 i13 i14 M15).bind (Sum.elim (it (mX8_cut_L73 K R r) n73) some) = some v73 := m85
        unfold mX8_cut_B73 at m85
        have J132 : ∀ (M20 : Mm) (i16 : Int32) (i17 : Int32) (i18 : Int32) (i19 : Int32), (mX8_cut_J132 K R M20 r i16 i17 i18 i19).bind (Sum.elim (it (mX8_cut_L73 K R r) n73) some) = some v73 → w 0 0 132 [(0, .ref r), (5, .int i16), (6, .int i17), (7, .int i18), (8, .int i19)] [] K R M20 := by
          intro M20 i16 i17 i18 i19 m86
          unfold mX8_cut_J132 at m86
          obtain ⟨i21, ei21, m87⟩ := h_nm m86
          clear m86
          refine r_iinc (j := 4) (v := i21) hw dX8_cut_132 rfl (by rw [ei21]; rfl) (by decide) rfl ?_
          refine r_goto (tgt := 73) hw dX8_cut_135 (by decide) ?_
          refine r_sub hw [1, 2, 3, 4, 0] rfl ?_
          exact ih73 _ _ _ _ _ m87
        have J130 : ∀ (M26 : Mm) (i22 : Int32) (i23 : Int32) (i24 : Int32) (s25 : Int32), (mX8_cut_J130 K R M26 r i22 i23 i24 s25).bind (Sum.elim (it (mX8_cut_L73 K R r) n73) some) = some v73 → w 0 0 130 [(0, .ref r), (5, .int i22), (6, .int i23), (8, .int i24)] [.int s25] K R M26 := by
          intro M26 i22 i23 i24 s25 m88
          unfold mX8_cut_J130 at m88
          refine r_istore hw dX8_cut_130 (by decide) rfl ?_
          refine r_sub hw [1, 2, 3, 0, 4] rfl ?_
          exact J132 _ _ _ _ _ m88
        have J129 : ∀ (M30 : Mm) (i27 : Int32) (i28 : Int32) (i29 : Int32), (mX8_cut_J129 K R M30 r i27 i28 i29).bind (Sum.elim (it (mX8_cut_L73 K R r) n73) some) = some v73 → w 0 0 129 [(0, .ref r), (5, .int i27), (6, .int i28), (8, .int i29)] [] K R M30 := by
          intro M30 i27 i28 i29 m89
          unfold mX8_cut_J129 at m89
          refine r_iconst (v := 0) hw dX8_cut_129 rfl ?_
          exact J130 _ _ _ _ _ m89
        have J111 : ∀ (M35 : Mm) (i31 : Int32) (i32 : Int32) (i33 : Int32) (s34 : Int32), (mX8_cut_J111 K R M35 r i31 i32 i33 s34).bind (Sum.elim (it (mX8_cut_L73 K R r) n73) some) = some v73 → w 0 0 111 [(0, .ref r), (5, .int i31), (7, .int i32), (8, .int i33)] [.int s34] K R M35 := by
          intro M35 i31 i32 i33 s34 m90
          unfold mX8_cut_J111 at m90
          refine r_istore hw dX8_cut_111 (by decide) rfl ?_
          refine r_iload hw dX8_cut_113 3 rfl ?_
          refine r_if_eq (tgt := 129) hw dX8_cut_115 (by decide) (fun c36 => ?_) (fun c36 => ?_)
          · have m91 := h_if_t c36 m90
            clear m90
            refine r_sub hw [1, 2, 0, 4] rfl ?_
            exact J129 _ _ _ _ m91
          · have m92 := h_if_f c36 m90
            clear m90
            refine r_aload_n hw dX8_cut_118 1 rfl ?_
            obtain ⟨i37, g37, m93⟩ := h_bd m92
            clear m92
            refine r_callV1 hw (tX8_isWhole l G b0 g37) lB_X8_isWhole lI_X8_isWhole mL_X8_214 (c := 8) rfl h1 rfl (Nat.le_of_ble_eq_true rfl) (Nat.le_of_ble_eq_true rfl) rfl (Nat.le_of_ble_eq_true rfl) dX8_cut_119 ?_
            refine r_if_eq (tgt := 129) hw dX8_cut_122 (by decide) (fun c38 => ?_) (fun c38 => ?_)
            · have m94 := h_if_t c38 m93
              clear m93
              refine r_sub hw [1, 2, 0, 4] rfl ?_
              exact J129 _ _ _ _ m94
            · have m95 := h_if_f c38 m93
              clear m93
              refine r_iconst (v := 1) hw dX8_cut_125 rfl ?_
              refine r_goto (tgt := 130) hw dX8_cut_126 (by decide) ?_
              refine r_sub hw [1, 2, 0, 4] rfl ?_
              exact J130 _ _ _ _ _ m95
        have J106 : ∀ (M42 : Mm) (i39 : Int32) (i40 : Int32) (i41 : Int32), (mX8_cut_J106 K R M42 r i39 i40 i41).bind (Sum.elim (it (mX8_cut_L73 K R r) n73) some) = some v73 → w 0 0 106 [(0, .ref r), (5, .int i39), (7, .int i40), (8, .int i41)] [] K R M42 := by
          intro M42 i39 i40 i41 m96
          unfold mX8_cut_J106 at m96
          refine r_iconst (v := 1) hw dX8_cut_106 rfl ?_
          refine r_goto (tgt := 111) hw dX8_cut_107 (by decide) ?_
          exact J111 _ _ _ _ _ m96
        refine r_iload hw dX8_cut_73 4 rfl ?_
        refine r_aload_n hw dX8_cut_75 0 rfl ?_
        obtain ⟨i43, g43, m97⟩ := h_bd m85
        clear m85
        refine r_callV1 hw (tX8_pieces l G b0 g43) lB_X8_pieces lI_X8_pieces mL_X8_99 (c := 8) rfl h1 rfl (Nat.le_of_ble_eq_true rfl) (Nat.le_of_ble_eq_true rfl) rfl (Nat.le_of_ble_eq_true rfl) dX8_cut_76 ?_
        refine r_icmp_ge (tgt := 138) hw dX8_cut_79 (by decide) (fun c44 => ?_) (fun c44 => ?_)
        · have m98 := h_if_f c44 m97
          clear m97
          have m99 := h_ex m98 hv73
          clear m98
          refine r_iload hw dX8_cut_138 2 rfl ?_
          refine r_if_ne (tgt := 155) hw dX8_cut_140 (by decide) (fun c45 => ?_) (fun c45 => ?_)
          · have m100 := h_if_f c45 m99
            clear m99
            refine r_ldc2 (v := (-9000000000000000003)) hw dX8_cut_155 kW_X8_162 ?_
            cases h_ret m100
            exact r_lreturn hq rfl rfl dX8_cut_158
          · have m101 := h_if_t c45 m99
            clear m99
            refine r_aload_n hw dX8_cut_143 0 rfl ?_
            obtain ⟨i46, g46, m102⟩ := h_bd m101
            clear m101
            refine r_callV1 hw (tX8_pieces l G b0 g46) lB_X8_pieces lI_X8_pieces mL_X8_99 (c := 8) rfl h1 rfl (Nat.le_of_ble_eq_true rfl) (Nat.le_of_ble_eq_true rfl) rfl (Nat.le_of_ble_eq_true rfl) dX8_cut_144 ?_
            refine r_iload hw dX8_cut_147 1 rfl ?_
            refine r_iadd hw dX8_cut_149 ?_
            refine r_bipush (v := 40) hw dX8_cut_150 rfl ?_
            refine r_icmp_le (tgt := 159) hw dX8_cut_152 (by decide) (fun c47 => ?_) (fun c47 => ?_)
            · have m103 := h_if_t c47 m102
              clear m102
              refine r_iload hw dX8_cut_159 3 rfl ?_
              refine r_if_ne (tgt := 168) hw dX8_cut_161 (by decide) (fun c48 => ?_) (fun c48 => ?_)
              · have m104 := h_if_f c48 m103
                clear m103
                refine r_aload_n hw dX8_cut_168 0 rfl ?_
                obtain ⟨M49, g49, m105⟩ := h_bd m104
                clear m104
                refine r_callV0 hw (tX8_keep l G b0 g49) lB_X8_keep lI_X8_keep mL_X8_174 (c := 8) rfl h1 rfl (Nat.le_of_ble_eq_true rfl) (Nat.le_of_ble_eq_true rfl) rfl (Nat.le_of_ble_eq_true rfl) dX8_cut_169 ?_
                refine r_aload_n hw dX8_cut_172 0 rfl ?_
                obtain ⟨i50, g50, m106⟩ := h_bd m105
                clear m105
                refine r_callV1 hw (tX8_pieces l G b0 g50) lB_X8_pieces lI_X8_pieces mL_X8_99 (c := 8) rfl h1 rfl (Nat.le_of_ble_eq_true rfl) (Nat.le_of_ble_eq_true rfl) rfl (Nat.le_of_ble_eq_true rfl) dX8_cut_173 ?_
                refine r_istore hw dX8_cut_176 (by decide) rfl ?_
                refine r_iconst (v := 0) hw dX8_cut_178 rfl ?_
                obtain ⟨i51, ei51, m107⟩ := h_nm m106
                clear m106
                refine r_topI (w := w) ei51 ?_
                refine r_istore hw dX8_cut_179 (by decide) rfl ?_
                refine r_sub hw [2, 3, 1, 0] rfl ?_
                obtain ⟨v181, n0181, hn181, hv181⟩ := h_lp m107
                clear m107
                have L181 : ∀ n : Nat, ∀ (i52 : Int32) (M53 : Mm), it (mX8_cut_L181 K R r i11 i50) n (i52, M53) = some v181 → w 0 0 181 [(0, .ref r), (5, .int i11), (8, .int i50), (9, .int i52)] [] K R M53 := by
                  intro n181
                  induction n181 with
                  | zero => intro i52 M53 hz; exact absurd hz h_it0
                  | succ n181 ih181 =>
                    intro i52 M53 m108
                    replace m108 : (mX8_cut_B181 K R r i11 i50 i52 M53).bind (Sum.elim (it (mX8_cut_L181 K R r i11 i50) n181) some) = some v181 := m108
                    unfold mX8_cut_B181 at m108
                    have J203 : ∀ (M55 : Mm) (i54 : Int32), (mX8_cut_J203 K R M55 r i11 i50 i54).bind (Sum.elim (it (mX8_cut_L181 K R r i11 i50) n181) some) = some v181 → w 0 0 203 [(0, .ref r), (5, .int i11), (8, .int i50), (9, .int i54)] [] K R M55 := by
                      intro M55 i54 m109
                      unfold mX8_cut_J203 at m109
                      obtain ⟨i56, ei56, m110⟩ := h_nm m109
                      clear m109
                      refine r_iinc (j := 3) (v := i56) hw dX8_cut_203 rfl (by rw [ei56]; rfl) (by decide) rfl ?_
                      refine r_goto (tgt := 181) hw dX8_cut_206 (by decide) ?_
                      refine r_sub hw [1, 2, 3, 0] rfl ?_
                      exact ih181 _ _ m110
                    refine r_iload hw dX8_cut_181 3 rfl ?_
                    refine r_iload hw dX8_cut_183 2 rfl ?_
                    refine r_icmp_ge (tgt := 209) hw dX8_cut_185 (by decide) (fun c57 => ?_) (fun c57 => ?_)
                    · have m111 := h_if_f c57 m108
                      clear m108
                      have m112 := h_ex m111 hv181
                      clear m111
                      refine r_iload hw dX8_cut_209 1 rfl ?_
                      refine r_i2l hw dX8_cut_211 ?_
                      cases h_ret m112
                      exact r_lreturn hq rfl rfl dX8_cut_212
                    · have m113 := h_if_t c57 m108
                      clear m108
                      refine r_aload_n hw dX8_cut_188 0 rfl ?_
                      refine r_iload hw dX8_cut_189 3 rfl ?_
                      obtain ⟨i58, M59, g59, m114⟩ := h_bd2 m113
                      clear m113
                      refine r_callV1 hw (tX8_crosses l G b0 g59) lB_X8_crosses lI_X8_crosses mL_X8_207 (c := 8) rfl h1 rfl (Nat.le_of_ble_eq_true rfl) (Nat.le_of_ble_eq_true rfl) rfl (Nat.le_of_ble_eq_true rfl) dX8_cut_191 ?_
                      refine r_if_eq (tgt := 203) hw dX8_cut_194 (by decide) (fun c60 => ?_) (fun c60 => ?_)
                      · have m115 := h_if_t c60 m114
                        clear m114
                        exact J203 _ _ m115
                      · have m116 := h_if_f c60 m114
                        clear m114
                        refine r_aload_n hw dX8_cut_197 0 rfl ?_
                        refine r_iload hw dX8_cut_198 3 rfl ?_
                        obtain ⟨M61, g61, m117⟩ := h_bd m116
                        clear m116
                        refine r_callV0 hw (tX8_cutOne l G b0 g61) lB_X8_cutOne lI_X8_cutOne mL_X8_219 (c := 8) rfl h1 rfl (Nat.le_of_ble_eq_true rfl) (Nat.le_of_ble_eq_true rfl) rfl (Nat.le_of_ble_eq_true rfl) dX8_cut_200 ?_
                        exact J203 _ _ m117
                exact L181 n0181 _ _ hn181
              · have m118 := h_if_t c48 m103
                clear m103
                refine r_ldc2 (v := (-9000000000000000004)) hw dX8_cut_164 kW_X8_217 ?_
                cases h_ret m118
                exact r_lreturn hq rfl rfl dX8_cut_167
            · have m119 := h_if_f c47 m102
              clear m102
              refine r_ldc2 (v := (-9000000000000000003)) hw dX8_cut_155 kW_X8_162 ?_
              cases h_ret m119
              exact r_lreturn hq rfl rfl dX8_cut_158
        · have m120 := h_if_t c44 m97
          clear m97
          refine r_aload_n hw dX8_cut_82 0 rfl ?_
          refine r_iload hw dX8_cut_83 4 rfl ?_
          obtain ⟨i62, M63, g63, m121⟩ := h_bd2 m120
          clear m120
          refine r_callV1 hw (tX8_crosses l G b0 g63) lB_X8_crosses lI_X8_crosses mL_X8_207 (c := 8) rfl h1 rfl (Nat.le_of_ble_eq_true rfl) (Nat.le_of_ble_eq_true rfl) rfl (Nat.le_of_ble_eq_true rfl) dX8_cut_85 ?_
          refine r_if_eq (tgt := 132) hw dX8_cut_88 (by decide) (fun c64 => ?_) (fun c64 => ?_)
          · have m122 := h_if_t c64 m121
            clear m121
            exact J132 _ _ _ _ _ m122
          · have m123 := h_if_f c64 m121
            clear m121
            obtain ⟨i65, ei65, m124⟩ := h_nm m123
            clear m123
            refine r_iinc (j := 1) (v := i65) hw dX8_cut_91 rfl (by rw [ei65]; rfl) (by decide) rfl ?_
            refine r_iload hw dX8_cut_94 2 rfl ?_
            refine r_if_ne (tgt := 106) hw dX8_cut_96 (by decide) (fun c66 => ?_) (fun c66 => ?_)
            · have m125 := h_if_f c66 m124
              clear m124
              refine r_sub hw [1, 0, 3, 4] rfl ?_
              exact J106 _ _ _ _ m125
            · have m126 := h_if_t c66 m124
              clear m124
              refine r_aload_n hw dX8_cut_99 1 rfl ?_
              obtain ⟨i67, g67, m127⟩ := h_bd m126
              clear m126
              refine r_callV1 hw (tX8_isLarge l G b0 g67) lB_X8_isLarge lI_X8_isLarge mL_X8_210 (c := 8) rfl h1 rfl (Nat.le_of_ble_eq_true rfl) (Nat.le_of_ble_eq_true rfl) rfl (Nat.le_of_ble_eq_true rfl) dX8_cut_100 ?_
              refine r_if_eq (tgt := 110) hw dX8_cut_103 (by decide) (fun c68 => ?_) (fun c68 => ?_)
              · have m128 := h_if_t c68 m127
                clear m127
                refine r_iconst (v := 0) hw dX8_cut_110 rfl ?_
                refine r_sub hw [1, 0, 3, 4] rfl ?_
                exact J111 _ _ _ _ _ m128
              · have m129 := h_if_f c68 m127
                clear m127
                refine r_sub hw [1, 0, 3, 4] rfl ?_
                exact J106 _ _ _ _ m129
    exact L73 n073 _ _ _ _ _ hn73
  refine r_iload_n hw dX8_cut_0 1 rfl ?_
  refine r_i2l hw dX8_cut_1 ?_
  refine r_iload_n hw dX8_cut_2 2 rfl ?_
  refine r_i2l hw dX8_cut_3 ?_
  obtain ⟨i69, g69, m130⟩ := h_bd m75
  clear m75
  refine r_callS1 hw (tX8_isPlace l G b0 g69) lB_X8_isPlace sT_X8_isPlace mL_X8_156 rfl rfl (Nat.le_of_ble_eq_true rfl) (Nat.le_of_ble_eq_true rfl) rfl (Nat.le_of_ble_eq_true rfl) dX8_cut_4 ?_
  refine r_if_eq (tgt := 32) hw dX8_cut_7 (by decide) (fun c70 => ?_) (fun c70 => ?_)
  · have m131 := h_if_t c70 m130
    clear m130
    refine r_ldc2 (v := (-9000000000000000001)) hw dX8_cut_32 kW_X8_160 ?_
    cases h_ret m131
    exact r_lreturn hq rfl rfl dX8_cut_35
  · have m132 := h_if_f c70 m130
    clear m130
    refine r_iload_n hw dX8_cut_10 3 rfl ?_
    refine r_i2l hw dX8_cut_11 ?_
    refine r_iload hw dX8_cut_12 4 rfl ?_
    refine r_i2l hw dX8_cut_14 ?_
    obtain ⟨i71, g71, m133⟩ := h_bd m132
    clear m132
    refine r_callS1 hw (tX8_isPlace l G b0 g71) lB_X8_isPlace sT_X8_isPlace mL_X8_156 rfl rfl (Nat.le_of_ble_eq_true rfl) (Nat.le_of_ble_eq_true rfl) rfl (Nat.le_of_ble_eq_true rfl) dX8_cut_15 ?_
    refine r_if_eq (tgt := 32) hw dX8_cut_18 (by decide) (fun c72 => ?_) (fun c72 => ?_)
    · have m134 := h_if_t c72 m133
      clear m133
      refine r_ldc2 (v := (-9000000000000000001)) hw dX8_cut_32 kW_X8_160 ?_
      cases h_ret m134
      exact r_lreturn hq rfl rfl dX8_cut_35
    · have m135 := h_if_f c72 m133
      clear m133
      refine r_iload_n hw dX8_cut_21 1 rfl ?_
      refine r_iload_n hw dX8_cut_22 3 rfl ?_
      refine r_icmp_ne (tgt := 36) hw dX8_cut_23 (by decide) (fun c73 => ?_) (fun c73 => ?_)
      · have m136 := h_if_f c73 m135
        clear m135
        exact J36 _ m136
      · have m137 := h_if_t c73 m135
        clear m135
        refine r_iload_n hw dX8_cut_26 2 rfl ?_
        refine r_iload hw dX8_cut_27 4 rfl ?_
        refine r_icmp_ne (tgt := 36) hw dX8_cut_29 (by decide) (fun c74 => ?_) (fun c74 => ?_)
        · have m138 := h_if_f c74 m137
          clear m137
          exact J36 _ m138
        · have m139 := h_if_t c74 m137
          clear m137
          refine r_ldc2 (v := (-9000000000000000001)) hw dX8_cut_32 kW_X8_160 ?_
          cases h_ret m139
          exact r_lreturn hq rfl rfl dX8_cut_35
theorem dX8_part_0 : decode cX8_part 0 = .ok (.iload 4, 2) := by decide +kernel
theorem dX8_part_2 : decode cX8_part 2 = .ok (.i2l, 1) := by decide +kernel
theorem dX8_part_3 : decode cX8_part 3 = .ok (.ldc2_w 222, 3) := by decide +kernel
theorem dX8_part_6 : decode cX8_part 6 = .ok (.ldc2_w 224, 3) := by decide +kernel
theorem dX8_part_9 : decode cX8_part 9 = .ok (.invokestatic 95, 3) := by decide +kernel
theorem dX8_part_12 : decode cX8_part 12 = .ok (.ifCond .eq 32, 3) := by decide +kernel
theorem dX8_part_15 : decode cX8_part 15 = .ok (.iload 5, 2) := by decide +kernel
theorem dX8_part_17 : decode cX8_part 17 = .ok (.i2l, 1) := by decide +kernel
theorem dX8_part_18 : decode cX8_part 18 = .ok (.ldc2_w 222, 3) := by decide +kernel
theorem dX8_part_21 : decode cX8_part 21 = .ok (.ldc2_w 224, 3) := by decide +kernel
theorem dX8_part_24 : decode cX8_part 24 = .ok (.invokestatic 95, 3) := by decide +kernel
theorem dX8_part_27 : decode cX8_part 27 = .ok (.ifCond .eq 17, 3) := by decide +kernel
theorem dX8_part_30 : decode cX8_part 30 = .ok (.iload 4, 2) := by decide +kernel
theorem dX8_part_32 : decode cX8_part 32 = .ok (.ifCond .ne 8, 3) := by decide +kernel
theorem dX8_part_35 : decode cX8_part 35 = .ok (.iload 5, 2) := by decide +kernel
theorem dX8_part_37 : decode cX8_part 37 = .ok (.ifCond .eq 7, 3) := by decide +kernel
theorem dX8_part_40 : decode cX8_part 40 = .ok (.iconst 1, 1) := by decide +kernel
theorem dX8_part_41 : decode cX8_part 41 = .ok (.goto 4, 3) := by decide +kernel
theorem dX8_part_44 : decode cX8_part 44 = .ok (.iconst 0, 1) := by decide +kernel
theorem dX8_part_45 : decode cX8_part 45 = .ok (.istore 6, 2) := by decide +kernel
theorem dX8_part_47 : decode cX8_part 47 = .ok (.aload_n 0, 1) := by decide +kernel
theorem dX8_part_48 : decode cX8_part 48 = .ok (.iload_n 1, 1) := by decide +kernel
theorem dX8_part_49 : decode cX8_part 49 = .ok (.invokevirtual 226, 3) := by decide +kernel
theorem dX8_part_52 : decode cX8_part 52 = .ok (.ifCond .eq 18, 3) := by decide +kernel
theorem dX8_part_55 : decode cX8_part 55 = .ok (.iload_n 2, 1) := by decide +kernel
theorem dX8_part_56 : decode cX8_part 56 = .ok (.i2l, 1) := by decide +kernel
theorem dX8_part_57 : decode cX8_part 57 = .ok (.iload_n 3, 1) := by decide +kernel
theorem dX8_part_58 : decode cX8_part 58 = .ok (.i2l, 1) := by decide +kernel
theorem dX8_part_59 : decode cX8_part 59 = .ok (.invokestatic 156, 3) := by decide +kernel
theorem dX8_part_62 : decode cX8_part 62 = .ok (.ifCond .eq 8, 3) := by decide +kernel
theorem dX8_part_65 : decode cX8_part 65 = .ok (.iload 6, 2) := by decide +kernel
theorem dX8_part_67 : decode cX8_part 67 = .ok (.ifCond .ne 7, 3) := by decide +kernel
theorem dX8_part_70 : decode cX8_part 70 = .ok (.ldc2_w 160, 3) := by decide +kernel
theorem dX8_part_73 : decode cX8_part 73 = .ok (.lreturn, 1) := by decide +kernel
theorem dX8_part_74 : decode cX8_part 74 = .ok (.aload_n 0, 1) := by decide +kernel
theorem dX8_part_75 : decode cX8_part 75 = .ok (.iload_n 2, 1) := by decide +kernel
theorem dX8_part_76 : decode cX8_part 76 = .ok (.i2l, 1) := by decide +kernel
theorem dX8_part_77 : decode cX8_part 77 = .ok (.putfield 184, 3) := by decide +kernel
theorem dX8_part_80 : decode cX8_part 80 = .ok (.aload_n 0, 1) := by decide +kernel
theorem dX8_part_81 : decode cX8_part 81 = .ok (.iload_n 3, 1) := by decide +kernel
theorem dX8_part_82 : decode cX8_part 82 = .ok (.i2l, 1) := by decide +kernel
theorem dX8_part_83 : decode cX8_part 83 = .ok (.putfield 188, 3) := by decide +kernel
theorem dX8_part_86 : decode cX8_part 86 = .ok (.aload_n 0, 1) := by decide +kernel
theorem dX8_part_87 : decode cX8_part 87 = .ok (.iload_n 2, 1) := by decide +kernel
theorem dX8_part_88 : decode cX8_part 88 = .ok (.iload 4, 2) := by decide +kernel
theorem dX8_part_90 : decode cX8_part 90 = .ok (.iadd, 1) := by decide +kernel
theorem dX8_part_91 : decode cX8_part 91 = .ok (.i2l, 1) := by decide +kernel
theorem dX8_part_92 : decode cX8_part 92 = .ok (.putfield 191, 3) := by decide +kernel
theorem dX8_part_95 : decode cX8_part 95 = .ok (.aload_n 0, 1) := by decide +kernel
theorem dX8_part_96 : decode cX8_part 96 = .ok (.iload_n 3, 1) := by decide +kernel
theorem dX8_part_97 : decode cX8_part 97 = .ok (.iload 5, 2) := by decide +kernel
theorem dX8_part_99 : decode cX8_part 99 = .ok (.iadd, 1) := by decide +kernel
theorem dX8_part_100 : decode cX8_part 100 = .ok (.i2l, 1) := by decide +kernel
theorem dX8_part_101 : decode cX8_part 101 = .ok (.putfield 194, 3) := by decide +kernel
theorem dX8_part_104 : decode cX8_part 104 = .ok (.aload_n 0, 1) := by decide +kernel
theorem dX8_part_105 : decode cX8_part 105 = .ok (.iload_n 1, 1) := by decide +kernel
theorem dX8_part_106 : decode cX8_part 106 = .ok (.invokevirtual 207, 3) := by decide +kernel
theorem dX8_part_109 : decode cX8_part 109 = .ok (.ifCond .ne 7, 3) := by decide +kernel
theorem dX8_part_112 : decode cX8_part 112 = .ok (.ldc2_w 113, 3) := by decide +kernel
theorem dX8_part_115 : decode cX8_part 115 = .ok (.lreturn, 1) := by decide +kernel
theorem dX8_part_116 : decode cX8_part 116 = .ok (.aload_n 0, 1) := by decide +kernel
theorem dX8_part_117 : decode cX8_part 117 = .ok (.invokevirtual 99, 3) := by decide +kernel
theorem dX8_part_120 : decode cX8_part 120 = .ok (.bipush 40, 2) := by decide +kernel
theorem dX8_part_122 : decode cX8_part 122 = .ok (.if_icmp .eq 10, 3) := by decide +kernel
theorem dX8_part_125 : decode cX8_part 125 = .ok (.aload_n 0, 1) := by decide +kernel
theorem dX8_part_126 : decode cX8_part 126 = .ok (.invokevirtual 210, 3) := by decide +kernel
theorem dX8_part_129 : decode cX8_part 129 = .ok (.ifCond .eq 7, 3) := by decide +kernel
theorem dX8_part_132 : decode cX8_part 132 = .ok (.ldc2_w 162, 3) := by decide +kernel
theorem dX8_part_135 : decode cX8_part 135 = .ok (.lreturn, 1) := by decide +kernel
theorem dX8_part_136 : decode cX8_part 136 = .ok (.aload_n 0, 1) := by decide +kernel
theorem dX8_part_137 : decode cX8_part 137 = .ok (.invokevirtual 214, 3) := by decide +kernel
theorem dX8_part_140 : decode cX8_part 140 = .ok (.ifCond .ne 7, 3) := by decide +kernel
theorem dX8_part_143 : decode cX8_part 143 = .ok (.ldc2_w 217, 3) := by decide +kernel
theorem dX8_part_146 : decode cX8_part 146 = .ok (.lreturn, 1) := by decide +kernel
theorem dX8_part_147 : decode cX8_part 147 = .ok (.aload_n 0, 1) := by decide +kernel
theorem dX8_part_148 : decode cX8_part 148 = .ok (.invokevirtual 174, 3) := by decide +kernel
theorem dX8_part_151 : decode cX8_part 151 = .ok (.aload_n 0, 1) := by decide +kernel
theorem dX8_part_152 : decode cX8_part 152 = .ok (.iload_n 1, 1) := by decide +kernel
theorem dX8_part_153 : decode cX8_part 153 = .ok (.invokevirtual 219, 3) := by decide +kernel
theorem dX8_part_156 : decode cX8_part 156 = .ok (.aload_n 0, 1) := by decide +kernel
theorem dX8_part_157 : decode cX8_part 157 = .ok (.invokevirtual 99, 3) := by decide +kernel
theorem dX8_part_160 : decode cX8_part 160 = .ok (.iconst 1, 1) := by decide +kernel
theorem dX8_part_161 : decode cX8_part 161 = .ok (.isub, 1) := by decide +kernel
theorem dX8_part_162 : decode cX8_part 162 = .ok (.i2l, 1) := by decide +kernel
theorem dX8_part_163 : decode cX8_part 163 = .ok (.lreturn, 1) := by decide +kernel
set_option maxHeartbeats 4000000 in
set_option maxRecDepth 100000 in
theorem tX8_part (l : Launch) (G : Gg) (b0 : Nat) {K : Kk} {R : Rr} {M : Mm} {r : Nat} {a0 : Int32} {a1 : Int32} {a2 : Int32} {a3 : Int32} {a4 : Int32} {res : Int64} {M' : Mm} (hm : mX8_part K R M r a0 a1 a2 a3 a4 = some (res, M')) : CT l G b0 yX8_part cX8_part 7 (some .long) (rmz 6 136) [.ref r, .int a0, .int a1, .int a2, .int a3, .int a4] K R M (some (.long res)) K R M' := by
  refine ct_of (by decide +kernel) (Nat.le_of_ble_eq_true rfl) (fun w hq => ?_)
  have hw := hq.b
  change w 0 0 0 [(0, .ref r), (1, .int a0), (2, .int a1), (3, .int a2), (4, .int a3), (5, .int a4)] [] K R M
  replace hm := h_start hm
  unfold mX8_part at hm
  obtain ⟨h1, m33⟩ := h_ck hm
  clear hm
  have J45 : ∀ (M3 : Mm) (s2 : Int32), (mX8_part_J45 K R M3 r a0 a1 a2 a3 a4 s2).bind some = some (res, M') → w 0 0 45 [(0, .ref r), (1, .int a0), (2, .int a1), (3, .int a2), (4, .int a3), (5, .int a4)] [.int s2] K R M3 := by
    intro M3 s2 m34
    unfold mX8_part_J45 at m34
    refine r_istore hw dX8_part_45 (by decide) rfl ?_
    refine r_aload_n hw dX8_part_47 1 rfl ?_
    refine r_iload_n hw dX8_part_48 2 rfl ?_
    obtain ⟨i4, g4, m35⟩ := h_bd m34
    clear m34
    refine r_callV1 hw (tX8_isPiece l G b0 g4) lB_X8_isPiece lI_X8_isPiece mL_X8_226 (c := 8) rfl h1 rfl (Nat.le_of_ble_eq_true rfl) (Nat.le_of_ble_eq_true rfl) rfl (Nat.le_of_ble_eq_true rfl) dX8_part_49 ?_
    refine r_if_eq (tgt := 70) hw dX8_part_52 (by decide) (fun c5 => ?_) (fun c5 => ?_)
    · have m36 := h_if_t c5 m35
      clear m35
      refine r_ldc2 (v := (-9000000000000000001)) hw dX8_part_70 kW_X8_160 ?_
      cases h_ret m36
      exact r_lreturn hq rfl rfl dX8_part_73
    · have m37 := h_if_f c5 m35
      clear m35
      refine r_iload_n hw dX8_part_55 3 rfl ?_
      refine r_i2l hw dX8_part_56 ?_
      refine r_iload_n hw dX8_part_57 4 rfl ?_
      refine r_i2l hw dX8_part_58 ?_
      obtain ⟨i6, g6, m38⟩ := h_bd m37
      clear m37
      refine r_callS1 hw (tX8_isPlace l G b0 g6) lB_X8_isPlace sT_X8_isPlace mL_X8_156 rfl rfl (Nat.le_of_ble_eq_true rfl) (Nat.le_of_ble_eq_true rfl) rfl (Nat.le_of_ble_eq_true rfl) dX8_part_59 ?_
      refine r_if_eq (tgt := 70) hw dX8_part_62 (by decide) (fun c7 => ?_) (fun c7 => ?_)
      · have m39 := h_if_t c7 m38
        clear m38
        refine r_ldc2 (v := (-9000000000000000001)) hw dX8_part_70 kW_X8_160 ?_
        cases h_ret m39
        exact r_lreturn hq rfl rfl dX8_part_73
      · have m40 := h_if_f c7 m38
        clear m38
        refine r_iload hw dX8_part_65 0 rfl ?_
        refine r_if_ne (tgt := 74) hw dX8_part_67 (by decide) (fun c8 => ?_) (fun c8 => ?_)
        · have m41 := h_if_f c8 m40
          clear m40
          refine r_aload_n hw dX8_part_74 1 rfl ?_
          refine r_iload_n hw dX8_part_75 3 rfl ?_
          refine r_i2l hw dX8_part_76 ?_
          obtain ⟨M9, eM9, m42⟩ := h_nm m41
          clear m41
          refine r_putL hw fP_X8_184 h1 dX8_part_77 (r_mem ?_ rfl eM9)
          refine r_aload_n hw dX8_part_80 1 rfl ?_
          refine r_iload_n hw dX8_part_81 4 rfl ?_
          refine r_i2l hw dX8_part_82 ?_
          obtain ⟨M10, eM10, m43⟩ := h_nm m42
          clear m42
          refine r_putL hw fP_X8_188 h1 dX8_part_83 (r_mem ?_ rfl eM10)
          refine r_aload_n hw dX8_part_86 1 rfl ?_
          refine r_iload_n hw dX8_part_87 3 rfl ?_
          refine r_iload hw dX8_part_88 5 rfl ?_
          refine r_iadd hw dX8_part_90 ?_
          refine r_i2l hw dX8_part_91 ?_
          obtain ⟨M11, eM11, m44⟩ := h_nm m43
          clear m43
          refine r_putL hw fP_X8_191 h1 dX8_part_92 (r_mem ?_ rfl eM11)
          refine r_aload_n hw dX8_part_95 1 rfl ?_
          refine r_iload_n hw dX8_part_96 4 rfl ?_
          refine r_iload hw dX8_part_97 6 rfl ?_
          refine r_iadd hw dX8_part_99 ?_
          refine r_i2l hw dX8_part_100 ?_
          obtain ⟨M12, eM12, m45⟩ := h_nm m44
          clear m44
          refine r_putL hw fP_X8_194 h1 dX8_part_101 (r_mem ?_ rfl eM12)
          refine r_aload_n hw dX8_part_104 1 rfl ?_
          refine r_iload_n hw dX8_part_105 2 rfl ?_
          obtain ⟨i13, M14, g14, m46⟩ := h_bd2 m45
          clear m45
          refine r_callV1 hw (tX8_crosses l G b0 g14) lB_X8_crosses lI_X8_crosses mL_X8_207 (c := 8) rfl h1 rfl (Nat.le_of_ble_eq_true rfl) (Nat.le_of_ble_eq_true rfl) rfl (Nat.le_of_ble_eq_true rfl) dX8_part_106 ?_
          refine r_if_ne (tgt := 116) hw dX8_part_109 (by decide) (fun c15 => ?_) (fun c15 => ?_)
          · have m47 := h_if_f c15 m46
            clear m46
            refine r_aload_n hw dX8_part_116 1 rfl ?_
            obtain ⟨i16, g16, m48⟩ := h_bd m47
            clear m47
            refine r_callV1 hw (tX8_pieces l G b0 g16) lB_X8_pieces lI_X8_pieces mL_X8_99 (c := 8) rfl h1 rfl (Nat.le_of_ble_eq_true rfl) (Nat.le_of_ble_eq_true rfl) rfl (Nat.le_of_ble_eq_true rfl) dX8_part_117 ?_
            refine r_bipush (v := 40) hw dX8_part_120 rfl ?_
            refine r_icmp_eq (tgt := 132) hw dX8_part_122 (by decide) (fun c17 => ?_) (fun c17 => ?_)
            · have m49 := h_if_t c17 m48
              clear m48
              refine r_ldc2 (v := (-9000000000000000003)) hw dX8_part_132 kW_X8_162 ?_
              cases h_ret m49
              exact r_lreturn hq rfl rfl dX8_part_135
            · have m50 := h_if_f c17 m48
              clear m48
              refine r_aload_n hw dX8_part_125 1 rfl ?_
              obtain ⟨i18, g18, m51⟩ := h_bd m50
              clear m50
              refine r_callV1 hw (tX8_isLarge l G b0 g18) lB_X8_isLarge lI_X8_isLarge mL_X8_210 (c := 8) rfl h1 rfl (Nat.le_of_ble_eq_true rfl) (Nat.le_of_ble_eq_true rfl) rfl (Nat.le_of_ble_eq_true rfl) dX8_part_126 ?_
              refine r_if_eq (tgt := 136) hw dX8_part_129 (by decide) (fun c19 => ?_) (fun c19 => ?_)
              · have m52 := h_if_t c19 m51
                clear m51
                refine r_aload_n hw dX8_part_136 1 rfl ?_
                obtain ⟨i20, g20, m53⟩ := h_bd m52
                clear m52
                refine r_callV1 hw (tX8_isWhole l G b0 g20) lB_X8_isWhole lI_X8_isWhole mL_X8_214 (c := 8) rfl h1 rfl (Nat.le_of_ble_eq_true rfl) (Nat.le_of_ble_eq_true rfl) rfl (Nat.le_of_ble_eq_true rfl) dX8_part_137 ?_
                refine r_if_ne (tgt := 147) hw dX8_part_140 (by decide) (fun c21 => ?_) (fun c21 => ?_)
                · have m54 := h_if_f c21 m53
                  clear m53
                  refine r_aload_n hw dX8_part_147 1 rfl ?_
                  obtain ⟨M22, g22, m55⟩ := h_bd m54
                  clear m54
                  refine r_callV0 hw (tX8_keep l G b0 g22) lB_X8_keep lI_X8_keep mL_X8_174 (c := 8) rfl h1 rfl (Nat.le_of_ble_eq_true rfl) (Nat.le_of_ble_eq_true rfl) rfl (Nat.le_of_ble_eq_true rfl) dX8_part_148 ?_
                  refine r_aload_n hw dX8_part_151 1 rfl ?_
                  refine r_iload_n hw dX8_part_152 2 rfl ?_
                  obtain ⟨M23, g23, m56⟩ := h_bd m55
                  clear m55
                  refine r_callV0 hw (tX8_cutOne l G b0 g23) lB_X8_cutOne lI_X8_cutOne mL_X8_219 (c := 8) rfl h1 rfl (Nat.le_of_ble_eq_true rfl) (Nat.le_of_ble_eq_true rfl) rfl (Nat.le_of_ble_eq_true rfl) dX8_part_153 ?_
                  refine r_aload_n hw dX8_part_156 1 rfl ?_
                  obtain ⟨i24, g24, m57⟩ := h_bd m56
                  clear m56
                  refine r_callV1 hw (tX8_pieces l G b0 g24) lB_X8_pieces lI_X8_pieces mL_X8_99 (c := 8) rfl h1 rfl (Nat.le_of_ble_eq_true rfl) (Nat.le_of_ble_eq_true rfl) rfl (Nat.le_of_ble_eq_true rfl) dX8_part_157 ?_
                  refine r_iconst (v := 1) hw dX8_part_160 rfl ?_
                  refine r_isub hw dX8_part_161 ?_
                  refine r_i2l hw dX8_part_162 ?_
                  cases h_ret m57
                  exact r_lreturn hq rfl rfl dX8_part_163
                · have m58 := h_if_t c21 m53
                  clear m53
                  refine r_ldc2 (v := (-9000000000000000004)) hw dX8_part_143 kW_X8_217 ?_
                  cases h_ret m58
                  exact r_lreturn hq rfl rfl dX8_part_146
              · have m59 := h_if_f c19 m51
                clear m51
                refine r_ldc2 (v := (-9000000000000000003)) hw dX8_part_132 kW_X8_162 ?_
                cases h_ret m59
                exact r_lreturn hq rfl rfl dX8_part_135
          · have m60 := h_if_t c15 m46
            clear m46
            refine r_ldc2 (v := (-9000000000000000002)) hw dX8_part_112 kW_X8_113 ?_
            cases h_ret m60
            exact r_lreturn hq rfl rfl dX8_part_115
        · have m61 := h_if_t c8 m40
          clear m40
          refine r_ldc2 (v := (-9000000000000000001)) hw dX8_part_70 kW_X8_160 ?_
          cases h_ret m61
          exact r_lreturn hq rfl rfl dX8_part_73
  have J44 : ∀ (M25 : Mm), (mX8_part_J44 K R M25 r a0 a1 a2 a3 a4).bind some = some (res, M') → w 0 0 44 [(0, .ref r), (1, .int a0), (2, .int a1), (3, .int a2), (4, .int a3), (5, .int a4)] [] K R M25 := by
    intro M25  m62
    unfold mX8_part_J44 at m62
    refine r_iconst (v := 0) hw dX8_part_44 rfl ?_
    exact J45 _ _ m62
  have J40 : ∀ (M26 : Mm), (mX8_part_J40 K R M26 r a0 a1 a2 a3 a4).bind some = some (res, M') → w 0 0 40 [(0, .ref r), (1, .int a0), (2, .int a1), (3, .int a2), (4, .int a3), (5, .int a4)] [] K R M26 := by
    intro M26  m63
    unfold mX8_part_J40 at m63
    refine r_iconst (v := 1) hw dX8_part_40 rfl ?_
    refine r_goto (tgt := 45) hw dX8_part_41 (by decide) ?_
    exact J45 _ _ m63
  refine r_iload hw dX8_part_0 4 rfl ?_
  refine r_i2l hw dX8_part_2 ?_
  refine r_ldc2 (v := (-1000)) hw dX8_part_3 kW_X8_222 ?_
  refine r_ldc2 (v := 1000) hw dX8_part_6 kW_X8_224 ?_
  obtain ⟨i27, g27, m64⟩ := h_bd m33
  clear m33
  refine r_callS1 hw (tX8_isIn l G b0 g27) lB_X8_isIn sT_X8_isIn mL_X8_95 rfl rfl (Nat.le_of_ble_eq_true rfl) (Nat.le_of_ble_eq_true rfl) rfl (Nat.le_of_ble_eq_true rfl) dX8_part_9 ?_
  refine r_if_eq (tgt := 44) hw dX8_part_12 (by decide) (fun c28 => ?_) (fun c28 => ?_)
  · have m65 := h_if_t c28 m64
    clear m64
    exact J44 _ m65
  · have m66 := h_if_f c28 m64
    clear m64
    refine r_iload hw dX8_part_15 5 rfl ?_
    refine r_i2l hw dX8_part_17 ?_
    refine r_ldc2 (v := (-1000)) hw dX8_part_18 kW_X8_222 ?_
    refine r_ldc2 (v := 1000) hw dX8_part_21 kW_X8_224 ?_
    obtain ⟨i29, g29, m67⟩ := h_bd m66
    clear m66
    refine r_callS1 hw (tX8_isIn l G b0 g29) lB_X8_isIn sT_X8_isIn mL_X8_95 rfl rfl (Nat.le_of_ble_eq_true rfl) (Nat.le_of_ble_eq_true rfl) rfl (Nat.le_of_ble_eq_true rfl) dX8_part_24 ?_
    refine r_if_eq (tgt := 44) hw dX8_part_27 (by decide) (fun c30 => ?_) (fun c30 => ?_)
    · have m68 := h_if_t c30 m67
      clear m67
      exact J44 _ m68
    · have m69 := h_if_f c30 m67
      clear m67
      refine r_iload hw dX8_part_30 4 rfl ?_
      refine r_if_ne (tgt := 40) hw dX8_part_32 (by decide) (fun c31 => ?_) (fun c31 => ?_)
      · have m70 := h_if_f c31 m69
        clear m69
        exact J40 _ m70
      · have m71 := h_if_t c31 m69
        clear m69
        refine r_iload hw dX8_part_35 5 rfl ?_
        refine r_if_eq (tgt := 44) hw dX8_part_37 (by decide) (fun c32 => ?_) (fun c32 => ?_)
        · have m72 := h_if_t c32 m71
          clear m71
          exact J44 _ m72
        · have m73 := h_if_f c32 m71
          clear m71
          exact J40 _ m73
theorem dX8_fits_0 : decode cX8_fits 0 = .ok (.iconst 1, 1) := by decide +kernel
theorem dX8_fits_1 : decode cX8_fits 1 = .ok (.istore 8, 2) := by decide +kernel
theorem dX8_fits_3 : decode cX8_fits 3 = .ok (.iconst 0, 1) := by decide +kernel
theorem dX8_fits_4 : decode cX8_fits 4 = .ok (.istore 9, 2) := by decide +kernel
theorem dX8_fits_6 : decode cX8_fits 6 = .ok (.iload 9, 2) := by decide +kernel
theorem dX8_fits_8 : decode cX8_fits 8 = .ok (.aload_n 0, 1) := by decide +kernel
theorem dX8_fits_9 : decode cX8_fits 9 = .ok (.iload_n 1, 1) := by decide +kernel
theorem dX8_fits_10 : decode cX8_fits 10 = .ok (.invokevirtual 135, 3) := by decide +kernel
theorem dX8_fits_13 : decode cX8_fits 13 = .ok (.if_icmp .ge 59, 3) := by decide +kernel
theorem dX8_fits_16 : decode cX8_fits 16 = .ok (.iload 8, 2) := by decide +kernel
theorem dX8_fits_18 : decode cX8_fits 18 = .ok (.ifCond .eq 45, 3) := by decide +kernel
theorem dX8_fits_21 : decode cX8_fits 21 = .ok (.lload_n 2, 1) := by decide +kernel
theorem dX8_fits_22 : decode cX8_fits 22 = .ok (.aload_n 0, 1) := by decide +kernel
theorem dX8_fits_23 : decode cX8_fits 23 = .ok (.iload_n 1, 1) := by decide +kernel
theorem dX8_fits_24 : decode cX8_fits 24 = .ok (.iconst 1, 1) := by decide +kernel
theorem dX8_fits_25 : decode cX8_fits 25 = .ok (.iconst 2, 1) := by decide +kernel
theorem dX8_fits_26 : decode cX8_fits 26 = .ok (.iload 9, 2) := by decide +kernel
theorem dX8_fits_28 : decode cX8_fits 28 = .ok (.imul, 1) := by decide +kernel
theorem dX8_fits_29 : decode cX8_fits 29 = .ok (.iadd, 1) := by decide +kernel
theorem dX8_fits_30 : decode cX8_fits 30 = .ok (.invokevirtual 103, 3) := by decide +kernel
theorem dX8_fits_33 : decode cX8_fits 33 = .ok (.lmul, 1) := by decide +kernel
theorem dX8_fits_34 : decode cX8_fits 34 = .ok (.lload 4, 2) := by decide +kernel
theorem dX8_fits_36 : decode cX8_fits 36 = .ok (.ladd, 1) := by decide +kernel
theorem dX8_fits_37 : decode cX8_fits 37 = .ok (.lload_n 2, 1) := by decide +kernel
theorem dX8_fits_38 : decode cX8_fits 38 = .ok (.aload_n 0, 1) := by decide +kernel
theorem dX8_fits_39 : decode cX8_fits 39 = .ok (.iload_n 1, 1) := by decide +kernel
theorem dX8_fits_40 : decode cX8_fits 40 = .ok (.iconst 2, 1) := by decide +kernel
theorem dX8_fits_41 : decode cX8_fits 41 = .ok (.iconst 2, 1) := by decide +kernel
theorem dX8_fits_42 : decode cX8_fits 42 = .ok (.iload 9, 2) := by decide +kernel
theorem dX8_fits_44 : decode cX8_fits 44 = .ok (.imul, 1) := by decide +kernel
theorem dX8_fits_45 : decode cX8_fits 45 = .ok (.iadd, 1) := by decide +kernel
theorem dX8_fits_46 : decode cX8_fits 46 = .ok (.invokevirtual 103, 3) := by decide +kernel
theorem dX8_fits_49 : decode cX8_fits 49 = .ok (.lmul, 1) := by decide +kernel
theorem dX8_fits_50 : decode cX8_fits 50 = .ok (.lload 6, 2) := by decide +kernel
theorem dX8_fits_52 : decode cX8_fits 52 = .ok (.ladd, 1) := by decide +kernel
theorem dX8_fits_53 : decode cX8_fits 53 = .ok (.invokestatic 156, 3) := by decide +kernel
theorem dX8_fits_56 : decode cX8_fits 56 = .ok (.ifCond .eq 7, 3) := by decide +kernel
theorem dX8_fits_59 : decode cX8_fits 59 = .ok (.iconst 1, 1) := by decide +kernel
theorem dX8_fits_60 : decode cX8_fits 60 = .ok (.goto 4, 3) := by decide +kernel
theorem dX8_fits_63 : decode cX8_fits 63 = .ok (.iconst 0, 1) := by decide +kernel
theorem dX8_fits_64 : decode cX8_fits 64 = .ok (.istore 8, 2) := by decide +kernel
theorem dX8_fits_66 : decode cX8_fits 66 = .ok (.iinc 9 1, 3) := by decide +kernel
theorem dX8_fits_69 : decode cX8_fits 69 = .ok (.goto (-63), 3) := by decide +kernel
theorem dX8_fits_72 : decode cX8_fits 72 = .ok (.iload 8, 2) := by decide +kernel
theorem dX8_fits_74 : decode cX8_fits 74 = .ok (.ireturn, 1) := by decide +kernel
set_option maxHeartbeats 4000000 in
set_option maxRecDepth 100000 in
theorem tX8_fits (l : Launch) (G : Gg) (b0 : Nat) {K : Kk} {R : Rr} {M : Mm} {r : Nat} {a0 : Int32} {a1 : Int64} {a2 : Int64} {a3 : Int64} {res : Int32} (hm : mX8_fits K R M r a0 a1 a2 a3 = some (res)) : CT l G b0 yX8_fits cX8_fits 10 (some .boolean) (rmz 3 48) [.ref r, .int a0, .long a1, .long a2, .long a3] K R M (some (.int res)) K R M := by
  refine ct_of (by decide +kernel) (Nat.le_of_ble_eq_true rfl) (fun w hq => ?_)
  have hw := hq.b
  change w 0 0 0 [(0, .ref r), (1, .int a0), (2, .long a1), (4, .long a2), (6, .long a3)] [] K R M
  replace hm := h_start hm
  unfold mX8_fits at hm
  obtain ⟨h1, m18⟩ := h_ck hm
  clear hm
  refine r_iconst (v := 1) hw dX8_fits_0 rfl ?_
  obtain ⟨i2, ei2, m19⟩ := h_nm m18
  clear m18
  refine r_topI (w := w) ei2 ?_
  refine r_istore hw dX8_fits_1 (by decide) rfl ?_
  refine r_iconst (v := 0) hw dX8_fits_3 rfl ?_
  obtain ⟨i3, ei3, m20⟩ := h_nm m19
  clear m19
  refine r_topI (w := w) ei3 ?_
  refine r_istore hw dX8_fits_4 (by decide) rfl ?_
  refine r_sub hw [2, 3, 4, 5, 6, 1, 0] rfl ?_
  obtain ⟨v6, n06, hn6, hv6⟩ := h_lp m20
  clear m20
  have L6 : ∀ n : Nat, ∀ (i4 : Int32) (i5 : Int32), it (mX8_fits_L6 K R M r a0 a1 a2 a3) n (i4, i5) = some v6 → w 0 0 6 [(0, .ref r), (1, .int a0), (2, .long a1), (4, .long a2), (6, .long a3), (8, .int i4), (9, .int i5)] [] K R M := by
    intro n6
    induction n6 with
    | zero => intro i4 i5 hz; exact absurd hz h_it0
    | succ n6 ih6 =>
      intro i4 i5 m21
      replace m21 : (mX8_fits_B6 K R M r a0 a1 a2 a3 i4 i5).bind (Sum.elim (it (mX8_fits_L6 K R M r a0 a1 a2 a3) n6) some) = some v6 := m21
      unfold mX8_fits_B6 at m21
      have J64 : ∀ (i6 : Int32) (s7 : Int32), (mX8_fits_J64 K R M r a0 a1 a2 a3 i6 s7).bind (Sum.elim (it (mX8_fits_L6 K R M r a0 a1 a2 a3) n6) some) = some v6 → w 0 0 64 [(0, .ref r), (1, .int a0), (2, .long a1), (4, .long a2), (6, .long a3), (9, .int i6)] [.int s7] K R M := by
        intro i6 s7 m22
        unfold mX8_fits_J64 at m22
        refine r_istore hw dX8_fits_64 (by decide) rfl ?_
        obtain ⟨i8, ei8, m23⟩ := h_nm m22
        clear m22
        refine r_iinc (j := 6) (v := i8) hw dX8_fits_66 rfl (by rw [ei8]; rfl) (by decide) rfl ?_
        refine r_goto (tgt := 6) hw dX8_fits_69 (by decide) ?_
        refine r_sub hw [2, 3, 4, 5, 6, 1, 0] rfl ?_
        exact ih6 _ _ m23
      have J63 : ∀ (i9 : Int32), (mX8_fits_J63 K R M r a0 a1 a2 a3 i9).bind (Sum.elim (it (mX8_fits_L6 K R M r a0 a1 a2 a3) n6) some) = some v6 → w 0 0 63 [(0, .ref r), (1, .int a0), (2, .long a1), (4, .long a2), (6, .long a3), (9, .int i9)] [] K R M := by
        intro i9 m24
        unfold mX8_fits_J63 at m24
        refine r_iconst (v := 0) hw dX8_fits_63 rfl ?_
        exact J64 _ _ m24
      refine r_iload hw dX8_fits_6 6 rfl ?_
      refine r_aload_n hw dX8_fits_8 0 rfl ?_
      refine r_iload_n hw dX8_fits_9 1 rfl ?_
      obtain ⟨i10, g10, m25⟩ := h_bd m21
      clear m21
      refine r_callV1 hw (tX8_size l G b0 g10) lB_X8_size lI_X8_size mL_X8_135 (c := 8) rfl h1 rfl (Nat.le_of_ble_eq_true rfl) (Nat.le_of_ble_eq_true rfl) rfl (Nat.le_of_ble_eq_true rfl) dX8_fits_10 ?_
      refine r_icmp_ge (tgt := 72) hw dX8_fits_13 (by decide) (fun c11 => ?_) (fun c11 => ?_)
      · have m26 := h_if_f c11 m25
        clear m25
        have m27 := h_ex m26 hv6
        clear m26
        refine r_iload hw dX8_fits_72 5 rfl ?_
        obtain ⟨h12, m28⟩ := h_ck m27
        clear m27
        cases h_ret m28
        exact r_zreturn hq h12 rfl rfl dX8_fits_74
      · have m29 := h_if_t c11 m25
        clear m25
        refine r_iload hw dX8_fits_16 5 rfl ?_
        refine r_if_eq (tgt := 63) hw dX8_fits_18 (by decide) (fun c13 => ?_) (fun c13 => ?_)
        · have m30 := h_if_t c13 m29
          clear m29
          refine r_sub hw [0, 1, 2, 3, 4, 6] rfl ?_
          exact J63 _ m30
        · have m31 := h_if_f c13 m29
          clear m29
          refine r_lload_n hw dX8_fits_21 2 rfl ?_
          refine r_aload_n hw dX8_fits_22 0 rfl ?_
          refine r_iload_n hw dX8_fits_23 1 rfl ?_
          refine r_iconst (v := 1) hw dX8_fits_24 rfl ?_
          refine r_iconst (v := 2) hw dX8_fits_25 rfl ?_
          refine r_iload hw dX8_fits_26 6 rfl ?_
          refine r_imul hw dX8_fits_28 ?_
          refine r_iadd hw dX8_fits_29 ?_
          obtain ⟨l14, g14, m32⟩ := h_bd m31
          clear m31
          refine r_callV1 hw (tX8_get l G b0 g14) lB_X8_get lI_X8_get mL_X8_103 (c := 8) rfl h1 rfl (Nat.le_of_ble_eq_true rfl) (Nat.le_of_ble_eq_true rfl) rfl (Nat.le_of_ble_eq_true rfl) dX8_fits_30 ?_
          refine r_lmul hw dX8_fits_33 ?_
          refine r_lload hw dX8_fits_34 3 rfl ?_
          refine r_ladd hw dX8_fits_36 ?_
          refine r_lload_n hw dX8_fits_37 2 rfl ?_
          refine r_aload_n hw dX8_fits_38 0 rfl ?_
          refine r_iload_n hw dX8_fits_39 1 rfl ?_
          refine r_iconst (v := 2) hw dX8_fits_40 rfl ?_
          refine r_iconst (v := 2) hw dX8_fits_41 rfl ?_
          refine r_iload hw dX8_fits_42 6 rfl ?_
          refine r_imul hw dX8_fits_44 ?_
          refine r_iadd hw dX8_fits_45 ?_
          obtain ⟨l15, g15, m33⟩ := h_bd m32
          clear m32
          refine r_callV1 hw (tX8_get l G b0 g15) lB_X8_get lI_X8_get mL_X8_103 (c := 8) rfl h1 rfl (Nat.le_of_ble_eq_true rfl) (Nat.le_of_ble_eq_true rfl) rfl (Nat.le_of_ble_eq_true rfl) dX8_fits_46 ?_
          refine r_lmul hw dX8_fits_49 ?_
          refine r_lload hw dX8_fits_50 4 rfl ?_
          refine r_ladd hw dX8_fits_52 ?_
          obtain ⟨i16, g16, m34⟩ := h_bd m33
          clear m33
          refine r_callS1 hw (tX8_isPlace l G b0 g16) lB_X8_isPlace sT_X8_isPlace mL_X8_156 rfl rfl (Nat.le_of_ble_eq_true rfl) (Nat.le_of_ble_eq_true rfl) rfl (Nat.le_of_ble_eq_true rfl) dX8_fits_53 ?_
          refine r_if_eq (tgt := 63) hw dX8_fits_56 (by decide) (fun c17 => ?_) (fun c17 => ?_)
          · have m35 := h_if_t c17 m34
            clear m34
            refine r_sub hw [0, 1, 2, 3, 4, 6] rfl ?_
            exact J63 _ m35
          · have m36 := h_if_f c17 m34
            clear m34
            refine r_iconst (v := 1) hw dX8_fits_59 rfl ?_
            refine r_goto (tgt := 64) hw dX8_fits_60 (by decide) ?_
            refine r_sub hw [0, 1, 2, 3, 4, 6] rfl ?_
            exact J64 _ _ m36
  exact L6 n06 _ _ hn6
theorem dX8_moved_0 : decode cX8_moved 0 = .ok (.aload_n 0, 1) := by decide +kernel
theorem dX8_moved_1 : decode cX8_moved 1 = .ok (.iload_n 1, 1) := by decide +kernel
theorem dX8_moved_2 : decode cX8_moved 2 = .ok (.lload_n 2, 1) := by decide +kernel
theorem dX8_moved_3 : decode cX8_moved 3 = .ok (.lload 4, 2) := by decide +kernel
theorem dX8_moved_5 : decode cX8_moved 5 = .ok (.lload 6, 2) := by decide +kernel
theorem dX8_moved_7 : decode cX8_moved 7 = .ok (.invokevirtual 229, 3) := by decide +kernel
theorem dX8_moved_10 : decode cX8_moved 10 = .ok (.ifCond .ne 7, 3) := by decide +kernel
theorem dX8_moved_13 : decode cX8_moved 13 = .ok (.ldc2_w 160, 3) := by decide +kernel
theorem dX8_moved_16 : decode cX8_moved 16 = .ok (.lreturn, 1) := by decide +kernel
theorem dX8_moved_17 : decode cX8_moved 17 = .ok (.aload_n 0, 1) := by decide +kernel
theorem dX8_moved_18 : decode cX8_moved 18 = .ok (.invokevirtual 174, 3) := by decide +kernel
theorem dX8_moved_21 : decode cX8_moved 21 = .ok (.aload_n 0, 1) := by decide +kernel
theorem dX8_moved_22 : decode cX8_moved 22 = .ok (.iload_n 1, 1) := by decide +kernel
theorem dX8_moved_23 : decode cX8_moved 23 = .ok (.lload_n 2, 1) := by decide +kernel
theorem dX8_moved_24 : decode cX8_moved 24 = .ok (.lload 4, 2) := by decide +kernel
theorem dX8_moved_26 : decode cX8_moved 26 = .ok (.lload 6, 2) := by decide +kernel
theorem dX8_moved_28 : decode cX8_moved 28 = .ok (.invokevirtual 181, 3) := by decide +kernel
theorem dX8_moved_31 : decode cX8_moved 31 = .ok (.lconst 0, 1) := by decide +kernel
theorem dX8_moved_32 : decode cX8_moved 32 = .ok (.lreturn, 1) := by decide +kernel
set_option maxHeartbeats 4000000 in
set_option maxRecDepth 100000 in
theorem tX8_moved (l : Launch) (G : Gg) (b0 : Nat) {K : Kk} {R : Rr} {M : Mm} {r : Nat} {a0 : Int32} {a1 : Int64} {a2 : Int64} {a3 : Int64} {res : Int64} {M' : Mm} (hm : mX8_moved K R M r a0 a1 a2 a3 = some (res, M')) : CT l G b0 yX8_moved cX8_moved 8 (some .long) (rmz 4 77) [.ref r, .int a0, .long a1, .long a2, .long a3] K R M (some (.long res)) K R M' := by
  refine ct_of (by decide +kernel) (Nat.le_of_ble_eq_true rfl) (fun w hq => ?_)
  have hw := hq.b
  change w 0 0 0 [(0, .ref r), (1, .int a0), (2, .long a1), (4, .long a2), (6, .long a3)] [] K R M
  replace hm := h_start hm
  unfold mX8_moved at hm
  obtain ⟨h1, m6⟩ := h_ck hm
  clear hm
  refine r_aload_n hw dX8_moved_0 0 rfl ?_
  refine r_iload_n hw dX8_moved_1 1 rfl ?_
  refine r_lload_n hw dX8_moved_2 2 rfl ?_
  refine r_lload hw dX8_moved_3 3 rfl ?_
  refine r_lload hw dX8_moved_5 4 rfl ?_
  obtain ⟨i2, g2, m7⟩ := h_bd m6
  clear m6
  refine r_callV1 hw (tX8_fits l G b0 g2) lB_X8_fits lI_X8_fits mL_X8_229 (c := 8) rfl h1 rfl (Nat.le_of_ble_eq_true rfl) (Nat.le_of_ble_eq_true rfl) rfl (Nat.le_of_ble_eq_true rfl) dX8_moved_7 ?_
  refine r_if_ne (tgt := 17) hw dX8_moved_10 (by decide) (fun c3 => ?_) (fun c3 => ?_)
  · have m8 := h_if_f c3 m7
    clear m7
    refine r_aload_n hw dX8_moved_17 0 rfl ?_
    obtain ⟨M4, g4, m9⟩ := h_bd m8
    clear m8
    refine r_callV0 hw (tX8_keep l G b0 g4) lB_X8_keep lI_X8_keep mL_X8_174 (c := 8) rfl h1 rfl (Nat.le_of_ble_eq_true rfl) (Nat.le_of_ble_eq_true rfl) rfl (Nat.le_of_ble_eq_true rfl) dX8_moved_18 ?_
    refine r_aload_n hw dX8_moved_21 0 rfl ?_
    refine r_iload_n hw dX8_moved_22 1 rfl ?_
    refine r_lload_n hw dX8_moved_23 2 rfl ?_
    refine r_lload hw dX8_moved_24 3 rfl ?_
    refine r_lload hw dX8_moved_26 4 rfl ?_
    obtain ⟨M5, g5, m10⟩ := h_bd m9
    clear m9
    refine r_callV0 hw (tX8_move l G b0 g5) lB_X8_move lI_X8_move mL_X8_181 (c := 8) rfl h1 rfl (Nat.le_of_ble_eq_true rfl) (Nat.le_of_ble_eq_true rfl) rfl (Nat.le_of_ble_eq_true rfl) dX8_moved_28 ?_
    refine r_lconst (v := 0) hw dX8_moved_31 rfl ?_
    cases h_ret m10
    exact r_lreturn hq rfl rfl dX8_moved_32
  · have m11 := h_if_t c3 m7
    clear m7
    refine r_ldc2 (v := (-9000000000000000001)) hw dX8_moved_13 kW_X8_160 ?_
    cases h_ret m11
    exact r_lreturn hq rfl rfl dX8_moved_16
theorem dX8_slide_0 : decode cX8_slide 0 = .ok (.aload_n 0, 1) := by decide +kernel
theorem dX8_slide_1 : decode cX8_slide 1 = .ok (.iload_n 1, 1) := by decide +kernel
theorem dX8_slide_2 : decode cX8_slide 2 = .ok (.invokevirtual 226, 3) := by decide +kernel
theorem dX8_slide_5 : decode cX8_slide 5 = .ok (.ifCond .eq 31, 3) := by decide +kernel
theorem dX8_slide_8 : decode cX8_slide 8 = .ok (.iload_n 2, 1) := by decide +kernel
theorem dX8_slide_9 : decode cX8_slide 9 = .ok (.i2l, 1) := by decide +kernel
theorem dX8_slide_10 : decode cX8_slide 10 = .ok (.ldc2_w 233, 3) := by decide +kernel
theorem dX8_slide_13 : decode cX8_slide 13 = .ok (.ldc2_w 235, 3) := by decide +kernel
theorem dX8_slide_16 : decode cX8_slide 16 = .ok (.invokestatic 95, 3) := by decide +kernel
theorem dX8_slide_19 : decode cX8_slide 19 = .ok (.ifCond .eq 17, 3) := by decide +kernel
theorem dX8_slide_22 : decode cX8_slide 22 = .ok (.iload_n 3, 1) := by decide +kernel
theorem dX8_slide_23 : decode cX8_slide 23 = .ok (.i2l, 1) := by decide +kernel
theorem dX8_slide_24 : decode cX8_slide 24 = .ok (.ldc2_w 233, 3) := by decide +kernel
theorem dX8_slide_27 : decode cX8_slide 27 = .ok (.ldc2_w 235, 3) := by decide +kernel
theorem dX8_slide_30 : decode cX8_slide 30 = .ok (.invokestatic 95, 3) := by decide +kernel
theorem dX8_slide_33 : decode cX8_slide 33 = .ok (.ifCond .ne 7, 3) := by decide +kernel
theorem dX8_slide_36 : decode cX8_slide 36 = .ok (.ldc2_w 160, 3) := by decide +kernel
theorem dX8_slide_39 : decode cX8_slide 39 = .ok (.lreturn, 1) := by decide +kernel
theorem dX8_slide_40 : decode cX8_slide 40 = .ok (.aload_n 0, 1) := by decide +kernel
theorem dX8_slide_41 : decode cX8_slide 41 = .ok (.iload_n 1, 1) := by decide +kernel
theorem dX8_slide_42 : decode cX8_slide 42 = .ok (.aload_n 0, 1) := by decide +kernel
theorem dX8_slide_43 : decode cX8_slide 43 = .ok (.iload_n 1, 1) := by decide +kernel
theorem dX8_slide_44 : decode cX8_slide 44 = .ok (.bipush 33, 2) := by decide +kernel
theorem dX8_slide_46 : decode cX8_slide 46 = .ok (.invokevirtual 103, 3) := by decide +kernel
theorem dX8_slide_49 : decode cX8_slide 49 = .ok (.aload_n 0, 1) := by decide +kernel
theorem dX8_slide_50 : decode cX8_slide 50 = .ok (.iload_n 1, 1) := by decide +kernel
theorem dX8_slide_51 : decode cX8_slide 51 = .ok (.bipush 34, 2) := by decide +kernel
theorem dX8_slide_53 : decode cX8_slide 53 = .ok (.invokevirtual 103, 3) := by decide +kernel
theorem dX8_slide_56 : decode cX8_slide 56 = .ok (.iload_n 2, 1) := by decide +kernel
theorem dX8_slide_57 : decode cX8_slide 57 = .ok (.i2l, 1) := by decide +kernel
theorem dX8_slide_58 : decode cX8_slide 58 = .ok (.ladd, 1) := by decide +kernel
theorem dX8_slide_59 : decode cX8_slide 59 = .ok (.aload_n 0, 1) := by decide +kernel
theorem dX8_slide_60 : decode cX8_slide 60 = .ok (.iload_n 1, 1) := by decide +kernel
theorem dX8_slide_61 : decode cX8_slide 61 = .ok (.bipush 35, 2) := by decide +kernel
theorem dX8_slide_63 : decode cX8_slide 63 = .ok (.invokevirtual 103, 3) := by decide +kernel
theorem dX8_slide_66 : decode cX8_slide 66 = .ok (.iload_n 3, 1) := by decide +kernel
theorem dX8_slide_67 : decode cX8_slide 67 = .ok (.i2l, 1) := by decide +kernel
theorem dX8_slide_68 : decode cX8_slide 68 = .ok (.ladd, 1) := by decide +kernel
theorem dX8_slide_69 : decode cX8_slide 69 = .ok (.invokevirtual 237, 3) := by decide +kernel
theorem dX8_slide_72 : decode cX8_slide 72 = .ok (.lreturn, 1) := by decide +kernel
set_option maxHeartbeats 4000000 in
set_option maxRecDepth 100000 in
theorem tX8_slide (l : Launch) (G : Gg) (b0 : Nat) {K : Kk} {R : Rr} {M : Mm} {r : Nat} {a0 : Int32} {a1 : Int32} {a2 : Int32} {res : Int64} {M' : Mm} (hm : mX8_slide K R M r a0 a1 a2 = some (res, M')) : CT l G b0 yX8_slide cX8_slide 4 (some .long) (rmz 5 104) [.ref r, .int a0, .int a1, .int a2] K R M (some (.long res)) K R M' := by
  refine ct_of (by decide +kernel) (Nat.le_of_ble_eq_true rfl) (fun w hq => ?_)
  have hw := hq.b
  change w 0 0 0 [(0, .ref r), (1, .int a0), (2, .int a1), (3, .int a2)] [] K R M
  replace hm := h_start hm
  unfold mX8_slide at hm
  obtain ⟨h1, m13⟩ := h_ck hm
  clear hm
  refine r_aload_n hw dX8_slide_0 0 rfl ?_
  refine r_iload_n hw dX8_slide_1 1 rfl ?_
  obtain ⟨i2, g2, m14⟩ := h_bd m13
  clear m13
  refine r_callV1 hw (tX8_isPiece l G b0 g2) lB_X8_isPiece lI_X8_isPiece mL_X8_226 (c := 8) rfl h1 rfl (Nat.le_of_ble_eq_true rfl) (Nat.le_of_ble_eq_true rfl) rfl (Nat.le_of_ble_eq_true rfl) dX8_slide_2 ?_
  refine r_if_eq (tgt := 36) hw dX8_slide_5 (by decide) (fun c3 => ?_) (fun c3 => ?_)
  · have m15 := h_if_t c3 m14
    clear m14
    refine r_ldc2 (v := (-9000000000000000001)) hw dX8_slide_36 kW_X8_160 ?_
    cases h_ret m15
    exact r_lreturn hq rfl rfl dX8_slide_39
  · have m16 := h_if_f c3 m14
    clear m14
    refine r_iload_n hw dX8_slide_8 2 rfl ?_
    refine r_i2l hw dX8_slide_9 ?_
    refine r_ldc2 (v := (-200000)) hw dX8_slide_10 kW_X8_233 ?_
    refine r_ldc2 (v := 200000) hw dX8_slide_13 kW_X8_235 ?_
    obtain ⟨i4, g4, m17⟩ := h_bd m16
    clear m16
    refine r_callS1 hw (tX8_isIn l G b0 g4) lB_X8_isIn sT_X8_isIn mL_X8_95 rfl rfl (Nat.le_of_ble_eq_true rfl) (Nat.le_of_ble_eq_true rfl) rfl (Nat.le_of_ble_eq_true rfl) dX8_slide_16 ?_
    refine r_if_eq (tgt := 36) hw dX8_slide_19 (by decide) (fun c5 => ?_) (fun c5 => ?_)
    · have m18 := h_if_t c5 m17
      clear m17
      refine r_ldc2 (v := (-9000000000000000001)) hw dX8_slide_36 kW_X8_160 ?_
      cases h_ret m18
      exact r_lreturn hq rfl rfl dX8_slide_39
    · have m19 := h_if_f c5 m17
      clear m17
      refine r_iload_n hw dX8_slide_22 3 rfl ?_
      refine r_i2l hw dX8_slide_23 ?_
      refine r_ldc2 (v := (-200000)) hw dX8_slide_24 kW_X8_233 ?_
      refine r_ldc2 (v := 200000) hw dX8_slide_27 kW_X8_235 ?_
      obtain ⟨i6, g6, m20⟩ := h_bd m19
      clear m19
      refine r_callS1 hw (tX8_isIn l G b0 g6) lB_X8_isIn sT_X8_isIn mL_X8_95 rfl rfl (Nat.le_of_ble_eq_true rfl) (Nat.le_of_ble_eq_true rfl) rfl (Nat.le_of_ble_eq_true rfl) dX8_slide_30 ?_
      refine r_if_ne (tgt := 40) hw dX8_slide_33 (by decide) (fun c7 => ?_) (fun c7 => ?_)
      · have m21 := h_if_f c7 m20
        clear m20
        refine r_aload_n hw dX8_slide_40 0 rfl ?_
        refine r_iload_n hw dX8_slide_41 1 rfl ?_
        refine r_aload_n hw dX8_slide_42 0 rfl ?_
        refine r_iload_n hw dX8_slide_43 1 rfl ?_
        refine r_bipush (v := 33) hw dX8_slide_44 rfl ?_
        obtain ⟨l8, g8, m22⟩ := h_bd m21
        clear m21
        refine r_callV1 hw (tX8_get l G b0 g8) lB_X8_get lI_X8_get mL_X8_103 (c := 8) rfl h1 rfl (Nat.le_of_ble_eq_true rfl) (Nat.le_of_ble_eq_true rfl) rfl (Nat.le_of_ble_eq_true rfl) dX8_slide_46 ?_
        refine r_aload_n hw dX8_slide_49 0 rfl ?_
        refine r_iload_n hw dX8_slide_50 1 rfl ?_
        refine r_bipush (v := 34) hw dX8_slide_51 rfl ?_
        obtain ⟨l9, g9, m23⟩ := h_bd m22
        clear m22
        refine r_callV1 hw (tX8_get l G b0 g9) lB_X8_get lI_X8_get mL_X8_103 (c := 8) rfl h1 rfl (Nat.le_of_ble_eq_true rfl) (Nat.le_of_ble_eq_true rfl) rfl (Nat.le_of_ble_eq_true rfl) dX8_slide_53 ?_
        refine r_iload_n hw dX8_slide_56 2 rfl ?_
        refine r_i2l hw dX8_slide_57 ?_
        refine r_ladd hw dX8_slide_58 ?_
        refine r_aload_n hw dX8_slide_59 0 rfl ?_
        refine r_iload_n hw dX8_slide_60 1 rfl ?_
        refine r_bipush (v := 35) hw dX8_slide_61 rfl ?_
        obtain ⟨l10, g10, m24⟩ := h_bd m23
        clear m23
        refine r_callV1 hw (tX8_get l G b0 g10) lB_X8_get lI_X8_get mL_X8_103 (c := 8) rfl h1 rfl (Nat.le_of_ble_eq_true rfl) (Nat.le_of_ble_eq_true rfl) rfl (Nat.le_of_ble_eq_true rfl) dX8_slide_63 ?_
        refine r_iload_n hw dX8_slide_66 3 rfl ?_
        refine r_i2l hw dX8_slide_67 ?_
        refine r_ladd hw dX8_slide_68 ?_
        obtain ⟨l11, M12, g12, m25⟩ := h_bd2 m24
        clear m24
        refine r_callV1 hw (tX8_moved l G b0 g12) lB_X8_moved lI_X8_moved mL_X8_237 (c := 8) rfl h1 rfl (Nat.le_of_ble_eq_true rfl) (Nat.le_of_ble_eq_true rfl) rfl (Nat.le_of_ble_eq_true rfl) dX8_slide_69 ?_
        cases h_ret m25
        exact r_lreturn hq rfl rfl dX8_slide_72
      · have m26 := h_if_t c7 m20
        clear m20
        refine r_ldc2 (v := (-9000000000000000001)) hw dX8_slide_36 kW_X8_160 ?_
        cases h_ret m26
        exact r_lreturn hq rfl rfl dX8_slide_39
theorem dX8_half_0 : decode cX8_half 0 = .ok (.aload_n 0, 1) := by decide +kernel
theorem dX8_half_1 : decode cX8_half 1 = .ok (.iload_n 1, 1) := by decide +kernel
theorem dX8_half_2 : decode cX8_half 2 = .ok (.invokevirtual 226, 3) := by decide +kernel
theorem dX8_half_5 : decode cX8_half 5 = .ok (.ifCond .eq 31, 3) := by decide +kernel
theorem dX8_half_8 : decode cX8_half 8 = .ok (.iload_n 2, 1) := by decide +kernel
theorem dX8_half_9 : decode cX8_half 9 = .ok (.i2l, 1) := by decide +kernel
theorem dX8_half_10 : decode cX8_half 10 = .ok (.ldc2_w 233, 3) := by decide +kernel
theorem dX8_half_13 : decode cX8_half 13 = .ok (.ldc2_w 235, 3) := by decide +kernel
theorem dX8_half_16 : decode cX8_half 16 = .ok (.invokestatic 95, 3) := by decide +kernel
theorem dX8_half_19 : decode cX8_half 19 = .ok (.ifCond .eq 17, 3) := by decide +kernel
theorem dX8_half_22 : decode cX8_half 22 = .ok (.iload_n 3, 1) := by decide +kernel
theorem dX8_half_23 : decode cX8_half 23 = .ok (.i2l, 1) := by decide +kernel
theorem dX8_half_24 : decode cX8_half 24 = .ok (.ldc2_w 233, 3) := by decide +kernel
theorem dX8_half_27 : decode cX8_half 27 = .ok (.ldc2_w 235, 3) := by decide +kernel
theorem dX8_half_30 : decode cX8_half 30 = .ok (.invokestatic 95, 3) := by decide +kernel
theorem dX8_half_33 : decode cX8_half 33 = .ok (.ifCond .ne 7, 3) := by decide +kernel
theorem dX8_half_36 : decode cX8_half 36 = .ok (.ldc2_w 160, 3) := by decide +kernel
theorem dX8_half_39 : decode cX8_half 39 = .ok (.lreturn, 1) := by decide +kernel
theorem dX8_half_40 : decode cX8_half 40 = .ok (.aload_n 0, 1) := by decide +kernel
theorem dX8_half_41 : decode cX8_half 41 = .ok (.iload_n 1, 1) := by decide +kernel
theorem dX8_half_42 : decode cX8_half 42 = .ok (.aload_n 0, 1) := by decide +kernel
theorem dX8_half_43 : decode cX8_half 43 = .ok (.iload_n 1, 1) := by decide +kernel
theorem dX8_half_44 : decode cX8_half 44 = .ok (.bipush 33, 2) := by decide +kernel
theorem dX8_half_46 : decode cX8_half 46 = .ok (.invokevirtual 103, 3) := by decide +kernel
theorem dX8_half_49 : decode cX8_half 49 = .ok (.lneg, 1) := by decide +kernel
theorem dX8_half_50 : decode cX8_half 50 = .ok (.iload_n 2, 1) := by decide +kernel
theorem dX8_half_51 : decode cX8_half 51 = .ok (.i2l, 1) := by decide +kernel
theorem dX8_half_52 : decode cX8_half 52 = .ok (.aload_n 0, 1) := by decide +kernel
theorem dX8_half_53 : decode cX8_half 53 = .ok (.iload_n 1, 1) := by decide +kernel
theorem dX8_half_54 : decode cX8_half 54 = .ok (.bipush 34, 2) := by decide +kernel
theorem dX8_half_56 : decode cX8_half 56 = .ok (.invokevirtual 103, 3) := by decide +kernel
theorem dX8_half_59 : decode cX8_half 59 = .ok (.lsub, 1) := by decide +kernel
theorem dX8_half_60 : decode cX8_half 60 = .ok (.iload_n 3, 1) := by decide +kernel
theorem dX8_half_61 : decode cX8_half 61 = .ok (.i2l, 1) := by decide +kernel
theorem dX8_half_62 : decode cX8_half 62 = .ok (.aload_n 0, 1) := by decide +kernel
theorem dX8_half_63 : decode cX8_half 63 = .ok (.iload_n 1, 1) := by decide +kernel
theorem dX8_half_64 : decode cX8_half 64 = .ok (.bipush 35, 2) := by decide +kernel
theorem dX8_half_66 : decode cX8_half 66 = .ok (.invokevirtual 103, 3) := by decide +kernel
theorem dX8_half_69 : decode cX8_half 69 = .ok (.lsub, 1) := by decide +kernel
theorem dX8_half_70 : decode cX8_half 70 = .ok (.invokevirtual 237, 3) := by decide +kernel
theorem dX8_half_73 : decode cX8_half 73 = .ok (.lreturn, 1) := by decide +kernel
set_option maxHeartbeats 4000000 in
set_option maxRecDepth 100000 in
theorem tX8_half (l : Launch) (G : Gg) (b0 : Nat) {K : Kk} {R : Rr} {M : Mm} {r : Nat} {a0 : Int32} {a1 : Int32} {a2 : Int32} {res : Int64} {M' : Mm} (hm : mX8_half K R M r a0 a1 a2 = some (res, M')) : CT l G b0 yX8_half cX8_half 4 (some .long) (rmz 5 104) [.ref r, .int a0, .int a1, .int a2] K R M (some (.long res)) K R M' := by
  refine ct_of (by decide +kernel) (Nat.le_of_ble_eq_true rfl) (fun w hq => ?_)
  have hw := hq.b
  change w 0 0 0 [(0, .ref r), (1, .int a0), (2, .int a1), (3, .int a2)] [] K R M
  replace hm := h_start hm
  unfold mX8_half at hm
  obtain ⟨h1, m13⟩ := h_ck hm
  clear hm
  refine r_aload_n hw dX8_half_0 0 rfl ?_
  refine r_iload_n hw dX8_half_1 1 rfl ?_
  obtain ⟨i2, g2, m14⟩ := h_bd m13
  clear m13
  refine r_callV1 hw (tX8_isPiece l G b0 g2) lB_X8_isPiece lI_X8_isPiece mL_X8_226 (c := 8) rfl h1 rfl (Nat.le_of_ble_eq_true rfl) (Nat.le_of_ble_eq_true rfl) rfl (Nat.le_of_ble_eq_true rfl) dX8_half_2 ?_
  refine r_if_eq (tgt := 36) hw dX8_half_5 (by decide) (fun c3 => ?_) (fun c3 => ?_)
  · have m15 := h_if_t c3 m14
    clear m14
    refine r_ldc2 (v := (-9000000000000000001)) hw dX8_half_36 kW_X8_160 ?_
    cases h_ret m15
    exact r_lreturn hq rfl rfl dX8_half_39
  · have m16 := h_if_f c3 m14
    clear m14
    refine r_iload_n hw dX8_half_8 2 rfl ?_
    refine r_i2l hw dX8_half_9 ?_
    refine r_ldc2 (v := (-200000)) hw dX8_half_10 kW_X8_233 ?_
    refine r_ldc2 (v := 200000) hw dX8_half_13 kW_X8_235 ?_
    obtain ⟨i4, g4, m17⟩ := h_bd m16
    clear m16
    refine r_callS1 hw (tX8_isIn l G b0 g4) lB_X8_isIn sT_X8_isIn mL_X8_95 rfl rfl (Nat.le_of_ble_eq_true rfl) (Nat.le_of_ble_eq_true rfl) rfl (Nat.le_of_ble_eq_true rfl) dX8_half_16 ?_
    refine r_if_eq (tgt := 36) hw dX8_half_19 (by decide) (fun c5 => ?_) (fun c5 => ?_)
    · have m18 := h_if_t c5 m17
      clear m17
      refine r_ldc2 (v := (-9000000000000000001)) hw dX8_half_36 kW_X8_160 ?_
      cases h_ret m18
      exact r_lreturn hq rfl rfl dX8_half_39
    · have m19 := h_if_f c5 m17
      clear m17
      refine r_iload_n hw dX8_half_22 3 rfl ?_
      refine r_i2l hw dX8_half_23 ?_
      refine r_ldc2 (v := (-200000)) hw dX8_half_24 kW_X8_233 ?_
      refine r_ldc2 (v := 200000) hw dX8_half_27 kW_X8_235 ?_
      obtain ⟨i6, g6, m20⟩ := h_bd m19
      clear m19
      refine r_callS1 hw (tX8_isIn l G b0 g6) lB_X8_isIn sT_X8_isIn mL_X8_95 rfl rfl (Nat.le_of_ble_eq_true rfl) (Nat.le_of_ble_eq_true rfl) rfl (Nat.le_of_ble_eq_true rfl) dX8_half_30 ?_
      refine r_if_ne (tgt := 40) hw dX8_half_33 (by decide) (fun c7 => ?_) (fun c7 => ?_)
      · have m21 := h_if_f c7 m20
        clear m20
        refine r_aload_n hw dX8_half_40 0 rfl ?_
        refine r_iload_n hw dX8_half_41 1 rfl ?_
        refine r_aload_n hw dX8_half_42 0 rfl ?_
        refine r_iload_n hw dX8_half_43 1 rfl ?_
        refine r_bipush (v := 33) hw dX8_half_44 rfl ?_
        obtain ⟨l8, g8, m22⟩ := h_bd m21
        clear m21
        refine r_callV1 hw (tX8_get l G b0 g8) lB_X8_get lI_X8_get mL_X8_103 (c := 8) rfl h1 rfl (Nat.le_of_ble_eq_true rfl) (Nat.le_of_ble_eq_true rfl) rfl (Nat.le_of_ble_eq_true rfl) dX8_half_46 ?_
        refine r_lneg hw dX8_half_49 ?_
        refine r_iload_n hw dX8_half_50 2 rfl ?_
        refine r_i2l hw dX8_half_51 ?_
        refine r_aload_n hw dX8_half_52 0 rfl ?_
        refine r_iload_n hw dX8_half_53 1 rfl ?_
        refine r_bipush (v := 34) hw dX8_half_54 rfl ?_
        obtain ⟨l9, g9, m23⟩ := h_bd m22
        clear m22
        refine r_callV1 hw (tX8_get l G b0 g9) lB_X8_get lI_X8_get mL_X8_103 (c := 8) rfl h1 rfl (Nat.le_of_ble_eq_true rfl) (Nat.le_of_ble_eq_true rfl) rfl (Nat.le_of_ble_eq_true rfl) dX8_half_56 ?_
        refine r_lsub hw dX8_half_59 ?_
        refine r_iload_n hw dX8_half_60 3 rfl ?_
        refine r_i2l hw dX8_half_61 ?_
        refine r_aload_n hw dX8_half_62 0 rfl ?_
        refine r_iload_n hw dX8_half_63 1 rfl ?_
        refine r_bipush (v := 35) hw dX8_half_64 rfl ?_
        obtain ⟨l10, g10, m24⟩ := h_bd m23
        clear m23
        refine r_callV1 hw (tX8_get l G b0 g10) lB_X8_get lI_X8_get mL_X8_103 (c := 8) rfl h1 rfl (Nat.le_of_ble_eq_true rfl) (Nat.le_of_ble_eq_true rfl) rfl (Nat.le_of_ble_eq_true rfl) dX8_half_66 ?_
        refine r_lsub hw dX8_half_69 ?_
        obtain ⟨l11, M12, g12, m25⟩ := h_bd2 m24
        clear m24
        refine r_callV1 hw (tX8_moved l G b0 g12) lB_X8_moved lI_X8_moved mL_X8_237 (c := 8) rfl h1 rfl (Nat.le_of_ble_eq_true rfl) (Nat.le_of_ble_eq_true rfl) rfl (Nat.le_of_ble_eq_true rfl) dX8_half_70 ?_
        cases h_ret m25
        exact r_lreturn hq rfl rfl dX8_half_73
      · have m26 := h_if_t c7 m20
        clear m20
        refine r_ldc2 (v := (-9000000000000000001)) hw dX8_half_36 kW_X8_160 ?_
        cases h_ret m26
        exact r_lreturn hq rfl rfl dX8_half_39
theorem dX8_commonSide_0 : decode cX8_commonSide 0 = .ok (.iconst 0, 1) := by decide +kernel
theorem dX8_commonSide_1 : decode cX8_commonSide 1 = .ok (.istore_n 1, 1) := by decide +kernel
theorem dX8_commonSide_2 : decode cX8_commonSide 2 = .ok (.iload_n 1, 1) := by decide +kernel
theorem dX8_commonSide_3 : decode cX8_commonSide 3 = .ok (.aload_n 0, 1) := by decide +kernel
theorem dX8_commonSide_4 : decode cX8_commonSide 4 = .ok (.getfield 146, 3) := by decide +kernel
theorem dX8_commonSide_7 : decode cX8_commonSide 7 = .ok (.if_icmp .ge 112, 3) := by decide +kernel
theorem dX8_commonSide_10 : decode cX8_commonSide 10 = .ok (.iload_n 1, 1) := by decide +kernel
theorem dX8_commonSide_11 : decode cX8_commonSide 11 = .ok (.iconst 1, 1) := by decide +kernel
theorem dX8_commonSide_12 : decode cX8_commonSide 12 = .ok (.iadd, 1) := by decide +kernel
theorem dX8_commonSide_13 : decode cX8_commonSide 13 = .ok (.aload_n 0, 1) := by decide +kernel
theorem dX8_commonSide_14 : decode cX8_commonSide 14 = .ok (.getfield 146, 3) := by decide +kernel
theorem dX8_commonSide_17 : decode cX8_commonSide 17 = .ok (.irem, 1) := by decide +kernel
theorem dX8_commonSide_18 : decode cX8_commonSide 18 = .ok (.istore_n 2, 1) := by decide +kernel
theorem dX8_commonSide_19 : decode cX8_commonSide 19 = .ok (.iconst 0, 1) := by decide +kernel
theorem dX8_commonSide_20 : decode cX8_commonSide 20 = .ok (.istore_n 3, 1) := by decide +kernel
theorem dX8_commonSide_21 : decode cX8_commonSide 21 = .ok (.iload_n 3, 1) := by decide +kernel
theorem dX8_commonSide_22 : decode cX8_commonSide 22 = .ok (.aload_n 0, 1) := by decide +kernel
theorem dX8_commonSide_23 : decode cX8_commonSide 23 = .ok (.getfield 153, 3) := by decide +kernel
theorem dX8_commonSide_26 : decode cX8_commonSide 26 = .ok (.if_icmp .ge 87, 3) := by decide +kernel
theorem dX8_commonSide_29 : decode cX8_commonSide 29 = .ok (.iload_n 3, 1) := by decide +kernel
theorem dX8_commonSide_30 : decode cX8_commonSide 30 = .ok (.iconst 1, 1) := by decide +kernel
theorem dX8_commonSide_31 : decode cX8_commonSide 31 = .ok (.iadd, 1) := by decide +kernel
theorem dX8_commonSide_32 : decode cX8_commonSide 32 = .ok (.aload_n 0, 1) := by decide +kernel
theorem dX8_commonSide_33 : decode cX8_commonSide 33 = .ok (.getfield 153, 3) := by decide +kernel
theorem dX8_commonSide_36 : decode cX8_commonSide 36 = .ok (.irem, 1) := by decide +kernel
theorem dX8_commonSide_37 : decode cX8_commonSide 37 = .ok (.istore 4, 2) := by decide +kernel
theorem dX8_commonSide_39 : decode cX8_commonSide 39 = .ok (.aload_n 0, 1) := by decide +kernel
theorem dX8_commonSide_40 : decode cX8_commonSide 40 = .ok (.getfield 42, 3) := by decide +kernel
theorem dX8_commonSide_43 : decode cX8_commonSide 43 = .ok (.iload_n 1, 1) := by decide +kernel
theorem dX8_commonSide_44 : decode cX8_commonSide 44 = .ok (.laload, 1) := by decide +kernel
theorem dX8_commonSide_45 : decode cX8_commonSide 45 = .ok (.aload_n 0, 1) := by decide +kernel
theorem dX8_commonSide_46 : decode cX8_commonSide 46 = .ok (.getfield 48, 3) := by decide +kernel
theorem dX8_commonSide_49 : decode cX8_commonSide 49 = .ok (.iload 4, 2) := by decide +kernel
theorem dX8_commonSide_51 : decode cX8_commonSide 51 = .ok (.laload, 1) := by decide +kernel
theorem dX8_commonSide_52 : decode cX8_commonSide 52 = .ok (.lcmp, 1) := by decide +kernel
theorem dX8_commonSide_53 : decode cX8_commonSide 53 = .ok (.ifCond .ne 54, 3) := by decide +kernel
theorem dX8_commonSide_56 : decode cX8_commonSide 56 = .ok (.aload_n 0, 1) := by decide +kernel
theorem dX8_commonSide_57 : decode cX8_commonSide 57 = .ok (.getfield 45, 3) := by decide +kernel
theorem dX8_commonSide_60 : decode cX8_commonSide 60 = .ok (.iload_n 1, 1) := by decide +kernel
theorem dX8_commonSide_61 : decode cX8_commonSide 61 = .ok (.laload, 1) := by decide +kernel
theorem dX8_commonSide_62 : decode cX8_commonSide 62 = .ok (.aload_n 0, 1) := by decide +kernel
theorem dX8_commonSide_63 : decode cX8_commonSide 63 = .ok (.getfield 51, 3) := by decide +kernel
theorem dX8_commonSide_66 : decode cX8_commonSide 66 = .ok (.iload 4, 2) := by decide +kernel
theorem dX8_commonSide_68 : decode cX8_commonSide 68 = .ok (.laload, 1) := by decide +kernel
theorem dX8_commonSide_69 : decode cX8_commonSide 69 = .ok (.lcmp, 1) := by decide +kernel
theorem dX8_commonSide_70 : decode cX8_commonSide 70 = .ok (.ifCond .ne 37, 3) := by decide +kernel
theorem dX8_commonSide_73 : decode cX8_commonSide 73 = .ok (.aload_n 0, 1) := by decide +kernel
theorem dX8_commonSide_74 : decode cX8_commonSide 74 = .ok (.getfield 42, 3) := by decide +kernel
theorem dX8_commonSide_77 : decode cX8_commonSide 77 = .ok (.iload_n 2, 1) := by decide +kernel
theorem dX8_commonSide_78 : decode cX8_commonSide 78 = .ok (.laload, 1) := by decide +kernel
theorem dX8_commonSide_79 : decode cX8_commonSide 79 = .ok (.aload_n 0, 1) := by decide +kernel
theorem dX8_commonSide_80 : decode cX8_commonSide 80 = .ok (.getfield 48, 3) := by decide +kernel
theorem dX8_commonSide_83 : decode cX8_commonSide 83 = .ok (.iload_n 3, 1) := by decide +kernel
theorem dX8_commonSide_84 : decode cX8_commonSide 84 = .ok (.laload, 1) := by decide +kernel
theorem dX8_commonSide_85 : decode cX8_commonSide 85 = .ok (.lcmp, 1) := by decide +kernel
theorem dX8_commonSide_86 : decode cX8_commonSide 86 = .ok (.ifCond .ne 21, 3) := by decide +kernel
theorem dX8_commonSide_89 : decode cX8_commonSide 89 = .ok (.aload_n 0, 1) := by decide +kernel
theorem dX8_commonSide_90 : decode cX8_commonSide 90 = .ok (.getfield 45, 3) := by decide +kernel
theorem dX8_commonSide_93 : decode cX8_commonSide 93 = .ok (.iload_n 2, 1) := by decide +kernel
theorem dX8_commonSide_94 : decode cX8_commonSide 94 = .ok (.laload, 1) := by decide +kernel
theorem dX8_commonSide_95 : decode cX8_commonSide 95 = .ok (.aload_n 0, 1) := by decide +kernel
theorem dX8_commonSide_96 : decode cX8_commonSide 96 = .ok (.getfield 51, 3) := by decide +kernel
theorem dX8_commonSide_99 : decode cX8_commonSide 99 = .ok (.iload_n 3, 1) := by decide +kernel
theorem dX8_commonSide_100 : decode cX8_commonSide 100 = .ok (.laload, 1) := by decide +kernel
theorem dX8_commonSide_101 : decode cX8_commonSide 101 = .ok (.lcmp, 1) := by decide +kernel
theorem dX8_commonSide_102 : decode cX8_commonSide 102 = .ok (.ifCond .ne 5, 3) := by decide +kernel
theorem dX8_commonSide_105 : decode cX8_commonSide 105 = .ok (.iload_n 1, 1) := by decide +kernel
theorem dX8_commonSide_106 : decode cX8_commonSide 106 = .ok (.ireturn, 1) := by decide +kernel
theorem dX8_commonSide_107 : decode cX8_commonSide 107 = .ok (.iinc 3 1, 3) := by decide +kernel
theorem dX8_commonSide_110 : decode cX8_commonSide 110 = .ok (.goto (-89), 3) := by decide +kernel
theorem dX8_commonSide_113 : decode cX8_commonSide 113 = .ok (.iinc 1 1, 3) := by decide +kernel
theorem dX8_commonSide_116 : decode cX8_commonSide 116 = .ok (.goto (-114), 3) := by decide +kernel
theorem dX8_commonSide_119 : decode cX8_commonSide 119 = .ok (.iconst (-1), 1) := by decide +kernel
theorem dX8_commonSide_120 : decode cX8_commonSide 120 = .ok (.ireturn, 1) := by decide +kernel
set_option maxHeartbeats 4000000 in
set_option maxRecDepth 100000 in
theorem tX8_commonSide (l : Launch) (G : Gg) (b0 : Nat) {K : Kk} {R : Rr} {M : Mm} {r : Nat} {res : Int32} (hm : mX8_commonSide K R M r = some (res)) : CT l G b0 yX8_commonSide cX8_commonSide 5 (some .int) (rmz 1 0) [.ref r] K R M (some (.int res)) K R M := by
  refine ct_of (by decide +kernel) (Nat.le_of_ble_eq_true rfl) (fun w hq => ?_)
  have hw := hq.b
  change w 0 0 0 [(0, .ref r)] [] K R M
  replace hm := h_start hm
  unfold mX8_commonSide at hm
  obtain ⟨h1, m31⟩ := h_ck hm
  clear hm
  refine r_iconst (v := 0) hw dX8_commonSide_0 rfl ?_
  obtain ⟨i2, ei2, m32⟩ := h_nm m31
  clear m31
  refine r_topI (w := w) ei2 ?_
  refine r_istore_n hw dX8_commonSide_1 rfl (by decide) rfl ?_
  refine r_sub hw [1, 0] rfl ?_
  obtain ⟨v2, n02, hn2, hv2⟩ := h_lp m32
  clear m32
  have L2 : ∀ n : Nat, ∀ (i3 : Int32), it (mX8_commonSide_L2 K R M r) n (i3) = some v2 → w 0 0 2 [(0, .ref r), (1, .int i3)] [] K R M := by
    intro n2
    induction n2 with
    | zero => intro i3 hz; exact absurd hz h_it0
    | succ n2 ih2 =>
      intro i3 m33
      replace m33 : (mX8_commonSide_B2 K R M r i3).bind (Sum.elim (it (mX8_commonSide_L2 K R M r) n2) some) = some v2 := m33
      unfold mX8_commonSide_B2 at m33
      refine r_iload_n hw dX8_commonSide_2 1 rfl ?_
      refine r_aload_n hw dX8_commonSide_3 0 rfl ?_
      refine r_getI hw fO_X8_146 h1 dX8_commonSide_4 ?_
      refine r_icmp_ge (tgt := 119) hw dX8_commonSide_7 (by decide) (fun c4 => ?_) (fun c4 => ?_)
      · have m34 := h_if_f c4 m33
        clear m33
        have m35 := h_ex m34 hv2
        clear m34
        refine r_iconst (v := (-1)) hw dX8_commonSide_119 rfl ?_
        cases h_ret m35
        exact r_ireturn hq rfl rfl dX8_commonSide_120
      · have m36 := h_if_t c4 m33
        clear m33
        refine r_iload_n hw dX8_commonSide_10 1 rfl ?_
        refine r_iconst (v := 1) hw dX8_commonSide_11 rfl ?_
        refine r_iadd hw dX8_commonSide_12 ?_
        refine r_aload_n hw dX8_commonSide_13 0 rfl ?_
        refine r_getI hw fO_X8_146 h1 dX8_commonSide_14 ?_
        obtain ⟨h5, m37⟩ := h_ck m36
        clear m36
        refine r_irem hw dX8_commonSide_17 h5 ?_
        obtain ⟨i6, ei6, m38⟩ := h_nm m37
        clear m37
        refine r_topI (w := w) ei6 ?_
        refine r_istore_n hw dX8_commonSide_18 rfl (by decide) rfl ?_
        refine r_iconst (v := 0) hw dX8_commonSide_19 rfl ?_
        obtain ⟨i7, ei7, m39⟩ := h_nm m38
        clear m38
        refine r_topI (w := w) ei7 ?_
        refine r_istore_n hw dX8_commonSide_20 rfl (by decide) rfl ?_
        refine r_sub hw [2, 3, 1, 0] rfl ?_
        obtain ⟨v21, n021, hn21, hv21⟩ := h_lp m39
        clear m39
        have L21 : ∀ n : Nat, ∀ (i8 : Int32), it (mX8_commonSide_L21 K R M r i3 i6) n (i8) = some v21 → w 0 0 21 [(0, .ref r), (1, .int i3), (2, .int i6), (3, .int i8)] [] K R M := by
          intro n21
          induction n21 with
          | zero => intro i8 hz; exact absurd hz h_it0
          | succ n21 ih21 =>
            intro i8 m40
            replace m40 : (mX8_commonSide_B21 K R M r i3 i6 i8).bind (Sum.elim (it (mX8_commonSide_L21 K R M r i3 i6) n21) some) = some v21 := m40
            unfold mX8_commonSide_B21 at m40
            have J107 : ∀ (i9 : Int32), (mX8_commonSide_J107 K R M r i3 i6 i9).bind (Sum.elim (it (mX8_commonSide_L21 K R M r i3 i6) n21) some) = some v21 → w 0 0 107 [(0, .ref r), (1, .int i3), (2, .int i6), (3, .int i9)] [] K R M := by
              intro i9 m41
              unfold mX8_commonSide_J107 at m41
              obtain ⟨i10, ei10, m42⟩ := h_nm m41
              clear m41
              refine r_iinc (j := 3) (v := i10) hw dX8_commonSide_107 rfl (by rw [ei10]; rfl) (by decide) rfl ?_
              refine r_goto (tgt := 21) hw dX8_commonSide_110 (by decide) ?_
              refine r_sub hw [1, 2, 3, 0] rfl ?_
              exact ih21 _ m42
            refine r_iload_n hw dX8_commonSide_21 3 rfl ?_
            refine r_aload_n hw dX8_commonSide_22 0 rfl ?_
            refine r_getI hw fO_X8_153 h1 dX8_commonSide_23 ?_
            refine r_icmp_ge (tgt := 113) hw dX8_commonSide_26 (by decide) (fun c11 => ?_) (fun c11 => ?_)
            · have m43 := h_if_f c11 m40
              clear m40
              have m44 := h_ex m43 hv21
              clear m43
              obtain ⟨i12, ei12, m45⟩ := h_nm m44
              clear m44
              refine r_iinc (j := 1) (v := i12) hw dX8_commonSide_113 rfl (by rw [ei12]; rfl) (by decide) rfl ?_
              refine r_goto (tgt := 2) hw dX8_commonSide_116 (by decide) ?_
              refine r_sub hw [1, 0] rfl ?_
              exact ih2 _ m45
            · have m46 := h_if_t c11 m40
              clear m40
              refine r_iload_n hw dX8_commonSide_29 3 rfl ?_
              refine r_iconst (v := 1) hw dX8_commonSide_30 rfl ?_
              refine r_iadd hw dX8_commonSide_31 ?_
              refine r_aload_n hw dX8_commonSide_32 0 rfl ?_
              refine r_getI hw fO_X8_153 h1 dX8_commonSide_33 ?_
              obtain ⟨h13, m47⟩ := h_ck m46
              clear m46
              refine r_irem hw dX8_commonSide_36 h13 ?_
              obtain ⟨i14, ei14, m48⟩ := h_nm m47
              clear m47
              refine r_topI (w := w) ei14 ?_
              refine r_istore hw dX8_commonSide_37 (by decide) rfl ?_
              refine r_aload_n hw dX8_commonSide_39 1 rfl ?_
              obtain ⟨q15, bq15, m49⟩ := h_bd m48
              clear m48
              refine r_getR hw fO_X8_42 h1 bq15 dX8_commonSide_40 ?_
              refine r_iload_n hw dX8_commonSide_43 2 rfl ?_
              obtain ⟨h16, m50⟩ := h_ck m49
              clear m49
              refine r_laload hw h16 dX8_commonSide_44 ?_
              refine r_aload_n hw dX8_commonSide_45 1 rfl ?_
              obtain ⟨q17, bq17, m51⟩ := h_bd m50
              clear m50
              refine r_getR hw fO_X8_48 h1 bq17 dX8_commonSide_46 ?_
              refine r_iload hw dX8_commonSide_49 0 rfl ?_
              obtain ⟨h18, m52⟩ := h_ck m51
              clear m51
              refine r_laload hw h18 dX8_commonSide_51 ?_
              refine r_lcmp_ne (tgt := 107) hw dX8_commonSide_52 dX8_commonSide_53 (by decide) (fun c19 => ?_) (fun c19 => ?_)
              · have m53 := h_if_f c19 m52
                clear m52
                refine r_sub hw [1, 2, 3, 4] rfl ?_
                exact J107 _ m53
              · have m54 := h_if_t c19 m52
                clear m52
                refine r_aload_n hw dX8_commonSide_56 1 rfl ?_
                obtain ⟨q20, bq20, m55⟩ := h_bd m54
                clear m54
                refine r_getR hw fO_X8_45 h1 bq20 dX8_commonSide_57 ?_
                refine r_iload_n hw dX8_commonSide_60 2 rfl ?_
                obtain ⟨h21, m56⟩ := h_ck m55
                clear m55
                refine r_laload hw h21 dX8_commonSide_61 ?_
                refine r_aload_n hw dX8_commonSide_62 1 rfl ?_
                obtain ⟨q22, bq22, m57⟩ := h_bd m56
                clear m56
                refine r_getR hw fO_X8_51 h1 bq22 dX8_commonSide_63 ?_
                refine r_iload hw dX8_commonSide_66 0 rfl ?_
                obtain ⟨h23, m58⟩ := h_ck m57
                clear m57
                refine r_laload hw h23 dX8_commonSide_68 ?_
                refine r_lcmp_ne (tgt := 107) hw dX8_commonSide_69 dX8_commonSide_70 (by decide) (fun c24 => ?_) (fun c24 => ?_)
                · have m59 := h_if_f c24 m58
                  clear m58
                  refine r_sub hw [1, 2, 3, 4] rfl ?_
                  exact J107 _ m59
                · have m60 := h_if_t c24 m58
                  clear m58
                  refine r_aload_n hw dX8_commonSide_73 1 rfl ?_
                  refine r_getR hw fO_X8_42 h1 bq15 dX8_commonSide_74 ?_
                  refine r_iload_n hw dX8_commonSide_77 3 rfl ?_
                  obtain ⟨h25, m61⟩ := h_ck m60
                  clear m60
                  refine r_laload hw h25 dX8_commonSide_78 ?_
                  refine r_aload_n hw dX8_commonSide_79 1 rfl ?_
                  refine r_getR hw fO_X8_48 h1 bq17 dX8_commonSide_80 ?_
                  refine r_iload_n hw dX8_commonSide_83 4 rfl ?_
                  obtain ⟨h26, m62⟩ := h_ck m61
                  clear m61
                  refine r_laload hw h26 dX8_commonSide_84 ?_
                  refine r_lcmp_ne (tgt := 107) hw dX8_commonSide_85 dX8_commonSide_86 (by decide) (fun c27 => ?_) (fun c27 => ?_)
                  · have m63 := h_if_f c27 m62
                    clear m62
                    refine r_sub hw [1, 2, 3, 4] rfl ?_
                    exact J107 _ m63
                  · have m64 := h_if_t c27 m62
                    clear m62
                    refine r_aload_n hw dX8_commonSide_89 1 rfl ?_
                    refine r_getR hw fO_X8_45 h1 bq20 dX8_commonSide_90 ?_
                    refine r_iload_n hw dX8_commonSide_93 3 rfl ?_
                    obtain ⟨h28, m65⟩ := h_ck m64
                    clear m64
                    refine r_laload hw h28 dX8_commonSide_94 ?_
                    refine r_aload_n hw dX8_commonSide_95 1 rfl ?_
                    refine r_getR hw fO_X8_51 h1 bq22 dX8_commonSide_96 ?_
                    refine r_iload_n hw dX8_commonSide_99 4 rfl ?_
                    obtain ⟨h29, m66⟩ := h_ck m65
                    clear m65
                    refine r_laload hw h29 dX8_commonSide_100 ?_
                    refine r_lcmp_ne (tgt := 107) hw dX8_commonSide_101 dX8_commonSide_102 (by decide) (fun c30 => ?_) (fun c30 => ?_)
                    · have m67 := h_if_f c30 m66
                      clear m66
                      refine r_sub hw [1, 2, 3, 4] rfl ?_
                      exact J107 _ m67
                    · have m68 := h_if_t c30 m66
                      clear m66
                      have m69 := h_ex m68 hv21
                      clear m68
                      have m70 := h_ex m69 hv2
                      clear m69
                      refine r_iload_n hw dX8_commonSide_105 2 rfl ?_
                      cases h_ret m70
                      exact r_ireturn hq rfl rfl dX8_commonSide_106
        exact L21 n021 _ hn21
  exact L2 n02 _ hn2
