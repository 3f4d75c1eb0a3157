theorem dX2_divide_0 : decode cX2_divide 0 = .ok (.aload_n 2, 1) := by decide +kernel
theorem dX2_divide_1 : decode cX2_divide 1 = .ok (.iconst 0, 1) := by decide +kernel
theorem dX2_divide_2 : decode cX2_divide 2 = .ok (.putfield 30, 3) := by decide +kernel
theorem dX2_divide_5 : decode cX2_divide 5 = .ok (.aload_n 3, 1) := by decide +kernel
theorem dX2_divide_6 : decode cX2_divide 6 = .ok (.iconst 0, 1) := by decide +kernel
theorem dX2_divide_7 : decode cX2_divide 7 = .ok (.putfield 30, 3) := by decide +kernel
theorem dX2_divide_10 : decode cX2_divide 10 = .ok (.iconst 0, 1) := by decide +kernel
theorem dX2_divide_11 : decode cX2_divide 11 = .ok (.istore 4, 2) := by decide +kernel
theorem dX2_divide_13 : decode cX2_divide 13 = .ok (.iload 4, 2) := by decide +kernel
theorem dX2_divide_15 : decode cX2_divide 15 = .ok (.aload_n 1, 1) := by decide +kernel
theorem dX2_divide_16 : decode cX2_divide 16 = .ok (.getfield 30, 3) := by decide +kernel
theorem dX2_divide_19 : decode cX2_divide 19 = .ok (.if_icmp .ge 185, 3) := by decide +kernel
theorem dX2_divide_22 : decode cX2_divide 22 = .ok (.aload_n 1, 1) := by decide +kernel
theorem dX2_divide_23 : decode cX2_divide 23 = .ok (.iload 4, 2) := by decide +kernel
theorem dX2_divide_25 : decode cX2_divide 25 = .ok (.iconst 1, 1) := by decide +kernel
theorem dX2_divide_26 : decode cX2_divide 26 = .ok (.iadd, 1) := by decide +kernel
theorem dX2_divide_27 : decode cX2_divide 27 = .ok (.invokevirtual 52, 3) := by decide +kernel
theorem dX2_divide_30 : decode cX2_divide 30 = .ok (.istore 5, 2) := by decide +kernel
theorem dX2_divide_32 : decode cX2_divide 32 = .ok (.aload_n 0, 1) := by decide +kernel
theorem dX2_divide_33 : decode cX2_divide 33 = .ok (.aload_n 1, 1) := by decide +kernel
theorem dX2_divide_34 : decode cX2_divide 34 = .ok (.getfield 35, 3) := by decide +kernel
theorem dX2_divide_37 : decode cX2_divide 37 = .ok (.iload 4, 2) := by decide +kernel
theorem dX2_divide_39 : decode cX2_divide 39 = .ok (.iaload, 1) := by decide +kernel
theorem dX2_divide_40 : decode cX2_divide 40 = .ok (.aload_n 1, 1) := by decide +kernel
theorem dX2_divide_41 : decode cX2_divide 41 = .ok (.getfield 39, 3) := by decide +kernel
theorem dX2_divide_44 : decode cX2_divide 44 = .ok (.iload 4, 2) := by decide +kernel
theorem dX2_divide_46 : decode cX2_divide 46 = .ok (.iaload, 1) := by decide +kernel
theorem dX2_divide_47 : decode cX2_divide 47 = .ok (.invokevirtual 42, 3) := by decide +kernel
theorem dX2_divide_50 : decode cX2_divide 50 = .ok (.lstore 6, 2) := by decide +kernel
theorem dX2_divide_52 : decode cX2_divide 52 = .ok (.lload 6, 2) := by decide +kernel
theorem dX2_divide_54 : decode cX2_divide 54 = .ok (.lconst 0, 1) := by decide +kernel
theorem dX2_divide_55 : decode cX2_divide 55 = .ok (.lcmp, 1) := by decide +kernel
theorem dX2_divide_56 : decode cX2_divide 56 = .ok (.ifCond .lt 21, 3) := by decide +kernel
theorem dX2_divide_59 : decode cX2_divide 59 = .ok (.aload_n 2, 1) := by decide +kernel
theorem dX2_divide_60 : decode cX2_divide 60 = .ok (.aload_n 1, 1) := by decide +kernel
theorem dX2_divide_61 : decode cX2_divide 61 = .ok (.getfield 35, 3) := by decide +kernel
theorem dX2_divide_64 : decode cX2_divide 64 = .ok (.iload 4, 2) := by decide +kernel
theorem dX2_divide_66 : decode cX2_divide 66 = .ok (.iaload, 1) := by decide +kernel
theorem dX2_divide_67 : decode cX2_divide 67 = .ok (.aload_n 1, 1) := by decide +kernel
theorem dX2_divide_68 : decode cX2_divide 68 = .ok (.getfield 39, 3) := by decide +kernel
theorem dX2_divide_71 : decode cX2_divide 71 = .ok (.iload 4, 2) := by decide +kernel
theorem dX2_divide_73 : decode cX2_divide 73 = .ok (.iaload, 1) := by decide +kernel
theorem dX2_divide_74 : decode cX2_divide 74 = .ok (.invokevirtual 56, 3) := by decide +kernel
theorem dX2_divide_77 : decode cX2_divide 77 = .ok (.lload 6, 2) := by decide +kernel
theorem dX2_divide_79 : decode cX2_divide 79 = .ok (.lconst 0, 1) := by decide +kernel
theorem dX2_divide_80 : decode cX2_divide 80 = .ok (.lcmp, 1) := by decide +kernel
theorem dX2_divide_81 : decode cX2_divide 81 = .ok (.ifCond .gt 21, 3) := by decide +kernel
theorem dX2_divide_84 : decode cX2_divide 84 = .ok (.aload_n 3, 1) := by decide +kernel
theorem dX2_divide_85 : decode cX2_divide 85 = .ok (.aload_n 1, 1) := by decide +kernel
theorem dX2_divide_86 : decode cX2_divide 86 = .ok (.getfield 35, 3) := by decide +kernel
theorem dX2_divide_89 : decode cX2_divide 89 = .ok (.iload 4, 2) := by decide +kernel
theorem dX2_divide_91 : decode cX2_divide 91 = .ok (.iaload, 1) := by decide +kernel
theorem dX2_divide_92 : decode cX2_divide 92 = .ok (.aload_n 1, 1) := by decide +kernel
theorem dX2_divide_93 : decode cX2_divide 93 = .ok (.getfield 39, 3) := by decide +kernel
theorem dX2_divide_96 : decode cX2_divide 96 = .ok (.iload 4, 2) := by decide +kernel
theorem dX2_divide_98 : decode cX2_divide 98 = .ok (.iaload, 1) := by decide +kernel
theorem dX2_divide_99 : decode cX2_divide 99 = .ok (.invokevirtual 56, 3) := by decide +kernel
theorem dX2_divide_102 : decode cX2_divide 102 = .ok (.aload_n 0, 1) := by decide +kernel
theorem dX2_divide_103 : decode cX2_divide 103 = .ok (.aload_n 1, 1) := by decide +kernel
theorem dX2_divide_104 : decode cX2_divide 104 = .ok (.getfield 35, 3) := by decide +kernel
theorem dX2_divide_107 : decode cX2_divide 107 = .ok (.iload 4, 2) := by decide +kernel
theorem dX2_divide_109 : decode cX2_divide 109 = .ok (.iaload, 1) := by decide +kernel
theorem dX2_divide_110 : decode cX2_divide 110 = .ok (.aload_n 1, 1) := by decide +kernel
theorem dX2_divide_111 : decode cX2_divide 111 = .ok (.getfield 39, 3) := by decide +kernel
theorem dX2_divide_114 : decode cX2_divide 114 = .ok (.iload 4, 2) := by decide +kernel
theorem dX2_divide_116 : decode cX2_divide 116 = .ok (.iaload, 1) := by decide +kernel
theorem dX2_divide_117 : decode cX2_divide 117 = .ok (.aload_n 1, 1) := by decide +kernel
theorem dX2_divide_118 : decode cX2_divide 118 = .ok (.getfield 35, 3) := by decide +kernel
theorem dX2_divide_121 : decode cX2_divide 121 = .ok (.iload 5, 2) := by decide +kernel
theorem dX2_divide_123 : decode cX2_divide 123 = .ok (.iaload, 1) := by decide +kernel
theorem dX2_divide_124 : decode cX2_divide 124 = .ok (.aload_n 1, 1) := by decide +kernel
theorem dX2_divide_125 : decode cX2_divide 125 = .ok (.getfield 39, 3) := by decide +kernel
theorem dX2_divide_128 : decode cX2_divide 128 = .ok (.iload 5, 2) := by decide +kernel
theorem dX2_divide_130 : decode cX2_divide 130 = .ok (.iaload, 1) := by decide +kernel
theorem dX2_divide_131 : decode cX2_divide 131 = .ok (.invokevirtual 60, 3) := by decide +kernel
theorem dX2_divide_134 : decode cX2_divide 134 = .ok (.ifCond .eq 64, 3) := by decide +kernel
theorem dX2_divide_137 : decode cX2_divide 137 = .ok (.aload_n 0, 1) := by decide +kernel
theorem dX2_divide_138 : decode cX2_divide 138 = .ok (.aload_n 1, 1) := by decide +kernel
theorem dX2_divide_139 : decode cX2_divide 139 = .ok (.getfield 35, 3) := by decide +kernel
theorem dX2_divide_142 : decode cX2_divide 142 = .ok (.iload 4, 2) := by decide +kernel
theorem dX2_divide_144 : decode cX2_divide 144 = .ok (.iaload, 1) := by decide +kernel
theorem dX2_divide_145 : decode cX2_divide 145 = .ok (.aload_n 1, 1) := by decide +kernel
theorem dX2_divide_146 : decode cX2_divide 146 = .ok (.getfield 39, 3) := by decide +kernel
theorem dX2_divide_149 : decode cX2_divide 149 = .ok (.iload 4, 2) := by decide +kernel
theorem dX2_divide_151 : decode cX2_divide 151 = .ok (.iaload, 1) := by decide +kernel
theorem dX2_divide_152 : decode cX2_divide 152 = .ok (.aload_n 1, 1) := by decide +kernel
theorem dX2_divide_153 : decode cX2_divide 153 = .ok (.getfield 35, 3) := by decide +kernel
theorem dX2_divide_156 : decode cX2_divide 156 = .ok (.iload 5, 2) := by decide +kernel
theorem dX2_divide_158 : decode cX2_divide 158 = .ok (.iaload, 1) := by decide +kernel
theorem dX2_divide_159 : decode cX2_divide 159 = .ok (.aload_n 1, 1) := by decide +kernel
theorem dX2_divide_160 : decode cX2_divide 160 = .ok (.getfield 39, 3) := by decide +kernel
theorem dX2_divide_163 : decode cX2_divide 163 = .ok (.iload 5, 2) := by decide +kernel
theorem dX2_divide_165 : decode cX2_divide 165 = .ok (.iaload, 1) := by decide +kernel
theorem dX2_divide_166 : decode cX2_divide 166 = .ok (.invokevirtual 64, 3) := by decide +kernel
theorem dX2_divide_169 : decode cX2_divide 169 = .ok (.ifCond .ne 5, 3) := by decide +kernel
theorem dX2_divide_172 : decode cX2_divide 172 = .ok (.iconst 0, 1) := by decide +kernel
theorem dX2_divide_173 : decode cX2_divide 173 = .ok (.ireturn, 1) := by decide +kernel
theorem dX2_divide_174 : decode cX2_divide 174 = .ok (.aload_n 2, 1) := by decide +kernel
theorem dX2_divide_175 : decode cX2_divide 175 = .ok (.aload_n 0, 1) := by decide +kernel
theorem dX2_divide_176 : decode cX2_divide 176 = .ok (.getfield 67, 3) := by decide +kernel
theorem dX2_divide_179 : decode cX2_divide 179 = .ok (.aload_n 0, 1) := by decide +kernel
theorem dX2_divide_180 : decode cX2_divide 180 = .ok (.getfield 70, 3) := by decide +kernel
theorem dX2_divide_183 : decode cX2_divide 183 = .ok (.invokevirtual 56, 3) := by decide +kernel
theorem dX2_divide_186 : decode cX2_divide 186 = .ok (.aload_n 3, 1) := by decide +kernel
theorem dX2_divide_187 : decode cX2_divide 187 = .ok (.aload_n 0, 1) := by decide +kernel
theorem dX2_divide_188 : decode cX2_divide 188 = .ok (.getfield 67, 3) := by decide +kernel
theorem dX2_divide_191 : decode cX2_divide 191 = .ok (.aload_n 0, 1) := by decide +kernel
theorem dX2_divide_192 : decode cX2_divide 192 = .ok (.getfield 70, 3) := by decide +kernel
theorem dX2_divide_195 : decode cX2_divide 195 = .ok (.invokevirtual 56, 3) := by decide +kernel
theorem dX2_divide_198 : decode cX2_divide 198 = .ok (.iinc 4 1, 3) := by decide +kernel
theorem dX2_divide_201 : decode cX2_divide 201 = .ok (.goto (-188), 3) := by decide +kernel
theorem dX2_divide_204 : decode cX2_divide 204 = .ok (.iconst 1, 1) := by decide +kernel
theorem dX2_divide_205 : decode cX2_divide 205 = .ok (.ireturn, 1) := by decide +kernel
set_option maxHeartbeats 4000000 in
set_option maxRecDepth 100000 in
theorem tX2_divide (l : Launch) (G : Gg) (b0 : Nat) {K : Kk} {R : Rr} {M : Mm} {r : Nat} {a0 : Nat} {a1 : Nat} {a2 : Nat} {res : Int32} {M' : Mm} (hm : mX2_divide K R M r a0 a1 a2 = some (res, M')) : CT l G b0 yX2_divide cX2_divide 8 (some .boolean) (rmz 3 54) [.ref r, .ref a0, .ref a1, .ref a2] K R M (some (.int res)) K R M' := by
  refine ct_of (by decide +kernel) (Nat.le_of_ble_eq_true rfl) (fun w hq => ?_)
  have hw := hq.b
  change w 0 0 0 [(0, .ref r), (1, .ref a0), (2, .ref a1), (3, .ref a2)] [] K R M
  replace hm := h_start hm
  unfold mX2_divide at hm
  obtain ⟨h1, m48⟩ := h_ck hm
  clear hm
  obtain ⟨h2, m49⟩ := h_ck m48
  clear m48
  obtain ⟨h3, m50⟩ := h_ck m49
  clear m49
  obtain ⟨h4, m51⟩ := h_ck m50
  clear m50
  refine r_aload_n hw dX2_divide_0 2 rfl ?_
  refine r_iconst (v := 0) hw dX2_divide_1 rfl ?_
  obtain ⟨M5, eM5, m52⟩ := h_nm m51
  clear m51
  refine r_putI hw fP_X2_30 h3 dX2_divide_2 (r_mem ?_ rfl eM5)
  refine r_aload_n hw dX2_divide_5 3 rfl ?_
  refine r_iconst (v := 0) hw dX2_divide_6 rfl ?_
  obtain ⟨M6, eM6, m53⟩ := h_nm m52
  clear m52
  refine r_putI hw fP_X2_30 h4 dX2_divide_7 (r_mem ?_ rfl eM6)
  refine r_iconst (v := 0) hw dX2_divide_10 rfl ?_
  obtain ⟨i7, ei7, m54⟩ := h_nm m53
  clear m53
  refine r_topI (w := w) ei7 ?_
  refine r_istore hw dX2_divide_11 (by decide) rfl ?_
  refine r_sub hw [1, 2, 3, 4, 0] rfl ?_
  obtain ⟨v13, n013, hn13, hv13⟩ := h_lp m54
  clear m54
  have L13 : ∀ n : Nat, ∀ (i8 : Int32) (M9 : Mm), it (mX2_divide_L13 K R r a0 a1 a2) n (i8, M9) = some v13 → w 0 0 13 [(0, .ref r), (1, .ref a0), (2, .ref a1), (3, .ref a2), (4, .int i8)] [] K R M9 := by
    intro n13
    induction n13 with
    | zero => intro i8 M9 hz; exact absurd hz h_it0
    | succ n13 ih13 =>
      intro i8 M9 m55
      replace m55 : (mX2_divide_B13 K R r a0 a1 a2 i8 M9).bind (Sum.elim (it (mX2_divide_L13 K R r a0 a1 a2) n13) some) = some v13 := m55
      unfold mX2_divide_B13 at m55
      have J198 : ∀ (M11 : Mm) (i10 : Int32), (mX2_divide_J198 K R M11 r a0 a1 a2 i10).bind (Sum.elim (it (mX2_divide_L13 K R r a0 a1 a2) n13) some) = some v13 → w 0 0 198 [(0, .ref r), (1, .ref a0), (2, .ref a1), (3, .ref a2), (4, .int i10)] [] K R M11 := by
        intro M11 i10 m56
        unfold mX2_divide_J198 at m56
        obtain ⟨i12, ei12, m57⟩ := h_nm m56
        clear m56
        refine r_iinc (j := 4) (v := i12) hw dX2_divide_198 rfl (by rw [ei12]; rfl) (by decide) rfl ?_
        refine r_goto (tgt := 13) hw dX2_divide_201 (by decide) ?_
        refine r_sub hw [1, 2, 3, 4, 0] rfl ?_
        exact ih13 _ _ m57
      have J102 : ∀ (M15 : Mm) (i13 : Int32) (i14 : Int32), (mX2_divide_J102 K R M15 r a0 a1 a2 i13 i14).bind (Sum.elim (it (mX2_divide_L13 K R r a0 a1 a2) n13) some) = some v13 → w 0 0 102 [(0, .ref r), (1, .ref a0), (2, .ref a1), (3, .ref a2), (4, .int i13), (5, .int i14)] [] K R M15 := by
        intro M15 i13 i14 m58
        unfold mX2_divide_J102 at m58
        refine r_aload_n hw dX2_divide_102 0 rfl ?_
        refine r_aload_n hw dX2_divide_103 1 rfl ?_
        obtain ⟨q16, bq16, m59⟩ := h_bd m58
        clear m58
        refine r_getR hw fO_X2_35 h2 bq16 dX2_divide_104 ?_
        refine r_iload hw dX2_divide_107 4 rfl ?_
        obtain ⟨h17, m60⟩ := h_ck m59
        clear m59
        refine r_iaload hw h17 dX2_divide_109 ?_
        refine r_aload_n hw dX2_divide_110 1 rfl ?_
        obtain ⟨q18, bq18, m61⟩ := h_bd m60
        clear m60
        refine r_getR hw fO_X2_39 h2 bq18 dX2_divide_111 ?_
        refine r_iload hw dX2_divide_114 4 rfl ?_
        obtain ⟨h19, m62⟩ := h_ck m61
        clear m61
        refine r_iaload hw h19 dX2_divide_116 ?_
        refine r_aload_n hw dX2_divide_117 1 rfl ?_
        refine r_getR hw fO_X2_35 h2 bq16 dX2_divide_118 ?_
        refine r_iload hw dX2_divide_121 5 rfl ?_
        obtain ⟨h20, m63⟩ := h_ck m62
        clear m62
        refine r_iaload hw h20 dX2_divide_123 ?_
        refine r_aload_n hw dX2_divide_124 1 rfl ?_
        refine r_getR hw fO_X2_39 h2 bq18 dX2_divide_125 ?_
        refine r_iload hw dX2_divide_128 5 rfl ?_
        obtain ⟨h21, m64⟩ := h_ck m63
        clear m63
        refine r_iaload hw h21 dX2_divide_130 ?_
        obtain ⟨i22, g22, m65⟩ := h_bd m64
        clear m64
        refine r_callV1 hw (tX2_isBetween l G b0 g22) lB_X2_isBetween lI_X2_isBetween mL_X2_60 (c := 2) rfl h1 rfl (Nat.le_of_ble_eq_true rfl) (Nat.le_of_ble_eq_true rfl) rfl (Nat.le_of_ble_eq_true rfl) dX2_divide_131 ?_
        refine r_if_eq (tgt := 198) hw dX2_divide_134 (by decide) (fun c23 => ?_) (fun c23 => ?_)
        · have m66 := h_if_t c23 m65
          clear m65
          refine r_sub hw [0, 1, 2, 3, 4] rfl ?_
          exact J198 _ _ m66
        · have m67 := h_if_f c23 m65
          clear m65
          refine r_aload_n hw dX2_divide_137 0 rfl ?_
          refine r_aload_n hw dX2_divide_138 1 rfl ?_
          refine r_getR hw fO_X2_35 h2 bq16 dX2_divide_139 ?_
          refine r_iload hw dX2_divide_142 4 rfl ?_
          refine r_iaload hw h17 dX2_divide_144 ?_
          refine r_aload_n hw dX2_divide_145 1 rfl ?_
          refine r_getR hw fO_X2_39 h2 bq18 dX2_divide_146 ?_
          refine r_iload hw dX2_divide_149 4 rfl ?_
          refine r_iaload hw h19 dX2_divide_151 ?_
          refine r_aload_n hw dX2_divide_152 1 rfl ?_
          refine r_getR hw fO_X2_35 h2 bq16 dX2_divide_153 ?_
          refine r_iload hw dX2_divide_156 5 rfl ?_
          refine r_iaload hw h20 dX2_divide_158 ?_
          refine r_aload_n hw dX2_divide_159 1 rfl ?_
          refine r_getR hw fO_X2_39 h2 bq18 dX2_divide_160 ?_
          refine r_iload hw dX2_divide_163 5 rfl ?_
          refine r_iaload hw h21 dX2_divide_165 ?_
          obtain ⟨i24, M25, g25, m68⟩ := h_bd2 m67
          clear m67
          refine r_callV1 hw (tX2_meet l G b0 g25) lB_X2_meet lI_X2_meet mL_X2_64 (c := 2) rfl h1 rfl (Nat.le_of_ble_eq_true rfl) (Nat.le_of_ble_eq_true rfl) rfl (Nat.le_of_ble_eq_true rfl) dX2_divide_166 ?_
          refine r_if_ne (tgt := 174) hw dX2_divide_169 (by decide) (fun c26 => ?_) (fun c26 => ?_)
          · have m69 := h_if_f c26 m68
            clear m68
            refine r_aload_n hw dX2_divide_174 2 rfl ?_
            refine r_aload_n hw dX2_divide_175 0 rfl ?_
            refine r_getI hw fO_X2_67 h1 dX2_divide_176 ?_
            refine r_aload_n hw dX2_divide_179 0 rfl ?_
            refine r_getI hw fO_X2_70 h1 dX2_divide_180 ?_
            obtain ⟨M27, g27, m70⟩ := h_bd m69
            clear m69
            refine r_callV0 hw (tX5_add l G b0 g27) lB_X5_add lI_X5_add mL_X2_56 (c := 5) rfl h3 rfl (Nat.le_of_ble_eq_true rfl) (Nat.le_of_ble_eq_true rfl) rfl (Nat.le_of_ble_eq_true rfl) dX2_divide_183 ?_
            refine r_aload_n hw dX2_divide_186 3 rfl ?_
            refine r_aload_n hw dX2_divide_187 0 rfl ?_
            refine r_getI hw fO_X2_67 h1 dX2_divide_188 ?_
            refine r_aload_n hw dX2_divide_191 0 rfl ?_
            refine r_getI hw fO_X2_70 h1 dX2_divide_192 ?_
            obtain ⟨M28, g28, m71⟩ := h_bd m70
            clear m70
            refine r_callV0 hw (tX5_add l G b0 g28) lB_X5_add lI_X5_add mL_X2_56 (c := 5) rfl h4 rfl (Nat.le_of_ble_eq_true rfl) (Nat.le_of_ble_eq_true rfl) rfl (Nat.le_of_ble_eq_true rfl) dX2_divide_195 ?_
            refine r_sub hw [0, 1, 2, 3, 4] rfl ?_
            exact J198 _ _ m71
          · have m72 := h_if_t c26 m68
            clear m68
            have m73 := h_ex m72 hv13
            clear m72
            refine r_iconst (v := 0) hw dX2_divide_172 rfl ?_
            cases h_ret m73
            exact r_zreturn hq isB_0 rfl rfl dX2_divide_173
      have J77 : ∀ (M32 : Mm) (i29 : Int32) (i30 : Int32) (l31 : Int64), (mX2_divide_J77 K R M32 r a0 a1 a2 i29 i30 l31).bind (Sum.elim (it (mX2_divide_L13 K R r a0 a1 a2) n13) some) = some v13 → w 0 0 77 [(0, .ref r), (1, .ref a0), (2, .ref a1), (3, .ref a2), (4, .int i29), (5, .int i30), (6, .long l31)] [] K R M32 := by
        intro M32 i29 i30 l31 m74
        unfold mX2_divide_J77 at m74
        refine r_lload hw dX2_divide_77 6 rfl ?_
        refine r_lconst (v := 0) hw dX2_divide_79 rfl ?_
        refine r_lcmp_gt (tgt := 102) hw dX2_divide_80 dX2_divide_81 (by decide) (fun c33 => ?_) (fun c33 => ?_)
        · have m75 := h_if_f c33 m74
          clear m74
          refine r_sub hw [0, 1, 2, 3, 4, 5] rfl ?_
          exact J102 _ _ _ m75
        · have m76 := h_if_t c33 m74
          clear m74
          refine r_aload_n hw dX2_divide_84 3 rfl ?_
          refine r_aload_n hw dX2_divide_85 1 rfl ?_
          obtain ⟨q34, bq34, m77⟩ := h_bd m76
          clear m76
          refine r_getR hw fO_X2_35 h2 bq34 dX2_divide_86 ?_
          refine r_iload hw dX2_divide_89 4 rfl ?_
          obtain ⟨h35, m78⟩ := h_ck m77
          clear m77
          refine r_iaload hw h35 dX2_divide_91 ?_
          refine r_aload_n hw dX2_divide_92 1 rfl ?_
          obtain ⟨q36, bq36, m79⟩ := h_bd m78
          clear m78
          refine r_getR hw fO_X2_39 h2 bq36 dX2_divide_93 ?_
          refine r_iload hw dX2_divide_96 4 rfl ?_
          obtain ⟨h37, m80⟩ := h_ck m79
          clear m79
          refine r_iaload hw h37 dX2_divide_98 ?_
          obtain ⟨M38, g38, m81⟩ := h_bd m80
          clear m80
          refine r_callV0 hw (tX5_add l G b0 g38) lB_X5_add lI_X5_add mL_X2_56 (c := 5) rfl h4 rfl (Nat.le_of_ble_eq_true rfl) (Nat.le_of_ble_eq_true rfl) rfl (Nat.le_of_ble_eq_true rfl) dX2_divide_99 ?_
          refine r_sub hw [0, 1, 2, 3, 4, 5] rfl ?_
          exact J102 _ _ _ m81
      refine r_iload hw dX2_divide_13 4 rfl ?_
      refine r_aload_n hw dX2_divide_15 1 rfl ?_
      refine r_getI hw fO_X2_30 h2 dX2_divide_16 ?_
      refine r_icmp_ge (tgt := 204) hw dX2_divide_19 (by decide) (fun c39 => ?_) (fun c39 => ?_)
      · have m82 := h_if_f c39 m55
        clear m55
        have m83 := h_ex m82 hv13
        clear m82
        refine r_iconst (v := 1) hw dX2_divide_204 rfl ?_
        cases h_ret m83
        exact r_zreturn hq isB_1 rfl rfl dX2_divide_205
      · have m84 := h_if_t c39 m55
        clear m55
        refine r_aload_n hw dX2_divide_22 1 rfl ?_
        refine r_iload hw dX2_divide_23 4 rfl ?_
        refine r_iconst (v := 1) hw dX2_divide_25 rfl ?_
        refine r_iadd hw dX2_divide_26 ?_
        obtain ⟨i40, g40, m85⟩ := h_bd m84
        clear m84
        refine r_callV1 hw (tX5_wrap l G b0 g40) lB_X5_wrap lI_X5_wrap mL_X2_52 (c := 5) rfl h2 rfl (Nat.le_of_ble_eq_true rfl) (Nat.le_of_ble_eq_true rfl) rfl (Nat.le_of_ble_eq_true rfl) dX2_divide_27 ?_
        refine r_istore hw dX2_divide_30 (by decide) rfl ?_
        refine r_aload_n hw dX2_divide_32 1 rfl ?_
        refine r_aload_n hw dX2_divide_33 2 rfl ?_
        obtain ⟨q41, bq41, m86⟩ := h_bd m85
        clear m85
        refine r_getR hw fO_X2_35 h2 bq41 dX2_divide_34 ?_
        refine r_iload hw dX2_divide_37 5 rfl ?_
        obtain ⟨h42, m87⟩ := h_ck m86
        clear m86
        refine r_iaload hw h42 dX2_divide_39 ?_
        refine r_aload_n hw dX2_divide_40 2 rfl ?_
        obtain ⟨q43, bq43, m88⟩ := h_bd m87
        clear m87
        refine r_getR hw fO_X2_39 h2 bq43 dX2_divide_41 ?_
        refine r_iload hw dX2_divide_44 5 rfl ?_
        obtain ⟨h44, m89⟩ := h_ck m88
        clear m88
        refine r_iaload hw h44 dX2_divide_46 ?_
        obtain ⟨l45, g45, m90⟩ := h_bd m89
        clear m89
        refine r_callV1 hw (tX2_side l G b0 g45) lB_X2_side lI_X2_side mL_X2_42 (c := 2) rfl h1 rfl (Nat.le_of_ble_eq_true rfl) (Nat.le_of_ble_eq_true rfl) rfl (Nat.le_of_ble_eq_true rfl) dX2_divide_47 ?_
        refine r_lstore hw dX2_divide_50 (by decide) rfl ?_
        refine r_lload hw dX2_divide_52 0 rfl ?_
        refine r_lconst (v := 0) hw dX2_divide_54 rfl ?_
        refine r_lcmp_lt (tgt := 77) hw dX2_divide_55 dX2_divide_56 (by decide) (fun c46 => ?_) (fun c46 => ?_)
        · have m91 := h_if_t c46 m90
          clear m90
          refine r_sub hw [2, 3, 4, 5, 6, 1, 0] rfl ?_
          exact J77 _ _ _ _ m91
        · have m92 := h_if_f c46 m90
          clear m90
          refine r_aload_n hw dX2_divide_59 4 rfl ?_
          refine r_aload_n hw dX2_divide_60 3 rfl ?_
          refine r_getR hw fO_X2_35 h2 bq41 dX2_divide_61 ?_
          refine r_iload hw dX2_divide_64 6 rfl ?_
          refine r_iaload hw h42 dX2_divide_66 ?_
          refine r_aload_n hw dX2_divide_67 3 rfl ?_
          refine r_getR hw fO_X2_39 h2 bq43 dX2_divide_68 ?_
          refine r_iload hw dX2_divide_71 6 rfl ?_
          refine r_iaload hw h44 dX2_divide_73 ?_
          obtain ⟨M47, g47, m93⟩ := h_bd m92
          clear m92
          refine r_callV0 hw (tX5_add l G b0 g47) lB_X5_add lI_X5_add mL_X2_56 (c := 5) rfl h3 rfl (Nat.le_of_ble_eq_true rfl) (Nat.le_of_ble_eq_true rfl) rfl (Nat.le_of_ble_eq_true rfl) dX2_divide_74 ?_
          refine r_sub hw [2, 3, 4, 5, 6, 1, 0] rfl ?_
          exact J77 _ _ _ _ m93
  exact L13 n013 _ _ hn13
theorem dX3_hasMove_0 : decode cX3_hasMove 0 = .ok (.aload_n 0, 1) := by decide +kernel
theorem dX3_hasMove_1 : decode cX3_hasMove 1 = .ok (.getfield 20, 3) := by decide +kernel
theorem dX3_hasMove_4 : decode cX3_hasMove 4 = .ok (.iload_n 1, 1) := by decide +kernel
theorem dX3_hasMove_5 : decode cX3_hasMove 5 = .ok (.if_icmp .ne 23, 3) := by decide +kernel
theorem dX3_hasMove_8 : decode cX3_hasMove 8 = .ok (.aload_n 0, 1) := by decide +kernel
theorem dX3_hasMove_9 : decode cX3_hasMove 9 = .ok (.getfield 28, 3) := by decide +kernel
theorem dX3_hasMove_12 : decode cX3_hasMove 12 = .ok (.iload_n 2, 1) := by decide +kernel
theorem dX3_hasMove_13 : decode cX3_hasMove 13 = .ok (.if_icmp .ne 15, 3) := by decide +kernel
theorem dX3_hasMove_16 : decode cX3_hasMove 16 = .ok (.aload_n 0, 1) := by decide +kernel
theorem dX3_hasMove_17 : decode cX3_hasMove 17 = .ok (.getfield 31, 3) := by decide +kernel
theorem dX3_hasMove_20 : decode cX3_hasMove 20 = .ok (.iload_n 3, 1) := by decide +kernel
theorem dX3_hasMove_21 : decode cX3_hasMove 21 = .ok (.if_icmp .ne 7, 3) := by decide +kernel
theorem dX3_hasMove_24 : decode cX3_hasMove 24 = .ok (.iconst 1, 1) := by decide +kernel
theorem dX3_hasMove_25 : decode cX3_hasMove 25 = .ok (.goto 4, 3) := by decide +kernel
theorem dX3_hasMove_28 : decode cX3_hasMove 28 = .ok (.iconst 0, 1) := by decide +kernel
theorem dX3_hasMove_29 : decode cX3_hasMove 29 = .ok (.ireturn, 1) := by decide +kernel
set_option maxHeartbeats 4000000 in
set_option maxRecDepth 100000 in
theorem tX3_hasMove (l : Launch) (G : Gg) (b0 : Nat) {K : Kk} {R : Rr} {M : Mm} {r : Nat} {a0 : Int32} {a1 : Int32} {a2 : Int32} {res : Int32} (hm : mX3_hasMove K R M r a0 a1 a2 = some (res)) : CT l G b0 yX3_hasMove cX3_hasMove 4 (some .boolean) (rmz 1 0) [.ref r, .int a0, .int a1, .int a2] K R M (some (.int res)) K R M := by
  refine ct_of (by decide +kernel) (Nat.le_of_ble_eq_true rfl) (fun w hq => ?_)
  have hw := hq.b
  change w 0 0 0 [(0, .ref r), (1, .int a0), (2, .int a1), (3, .int a2)] [] K R M
  replace hm := h_start hm
  unfold mX3_hasMove at hm
  obtain ⟨h1, m5⟩ := h_ck hm
  clear hm
  refine r_aload_n hw dX3_hasMove_0 0 rfl ?_
  refine r_getI hw fO_X3_20 h1 dX3_hasMove_1 ?_
  refine r_iload_n hw dX3_hasMove_4 1 rfl ?_
  refine r_icmp_ne (tgt := 28) hw dX3_hasMove_5 (by decide) (fun c2 => ?_) (fun c2 => ?_)
  · have m6 := h_if_f c2 m5
    clear m5
    refine r_iconst (v := 0) hw dX3_hasMove_28 rfl ?_
    cases h_ret m6
    exact r_zreturn hq isB_0 rfl rfl dX3_hasMove_29
  · have m7 := h_if_t c2 m5
    clear m5
    refine r_aload_n hw dX3_hasMove_8 0 rfl ?_
    refine r_getI hw fO_X3_28 h1 dX3_hasMove_9 ?_
    refine r_iload_n hw dX3_hasMove_12 2 rfl ?_
    refine r_icmp_ne (tgt := 28) hw dX3_hasMove_13 (by decide) (fun c3 => ?_) (fun c3 => ?_)
    · have m8 := h_if_f c3 m7
      clear m7
      refine r_iconst (v := 0) hw dX3_hasMove_28 rfl ?_
      cases h_ret m8
      exact r_zreturn hq isB_0 rfl rfl dX3_hasMove_29
    · have m9 := h_if_t c3 m7
      clear m7
      refine r_aload_n hw dX3_hasMove_16 0 rfl ?_
      refine r_getI hw fO_X3_31 h1 dX3_hasMove_17 ?_
      refine r_iload_n hw dX3_hasMove_20 3 rfl ?_
      refine r_icmp_ne (tgt := 28) hw dX3_hasMove_21 (by decide) (fun c4 => ?_) (fun c4 => ?_)
      · have m10 := h_if_f c4 m9
        clear m9
        refine r_iconst (v := 0) hw dX3_hasMove_28 rfl ?_
        cases h_ret m10
        exact r_zreturn hq isB_0 rfl rfl dX3_hasMove_29
      · have m11 := h_if_t c4 m9
        clear m9
        refine r_iconst (v := 1) hw dX3_hasMove_24 rfl ?_
        refine r_goto (tgt := 29) hw dX3_hasMove_25 (by decide) ?_
        cases h_ret m11
        exact r_zreturn hq isB_1 rfl rfl dX3_hasMove_29
theorem dX5_leastTurned_0 : decode cX5_leastTurned 0 = .ok (.iconst 0, 1) := by decide +kernel
theorem dX5_leastTurned_1 : decode cX5_leastTurned 1 = .ok (.istore_n 2, 1) := by decide +kernel
theorem dX5_leastTurned_2 : decode cX5_leastTurned 2 = .ok (.iconst 1, 1) := by decide +kernel
theorem dX5_leastTurned_3 : decode cX5_leastTurned 3 = .ok (.istore_n 3, 1) := by decide +kernel
theorem dX5_leastTurned_4 : decode cX5_leastTurned 4 = .ok (.iload_n 3, 1) := by decide +kernel
theorem dX5_leastTurned_5 : decode cX5_leastTurned 5 = .ok (.aload_n 0, 1) := by decide +kernel
theorem dX5_leastTurned_6 : decode cX5_leastTurned 6 = .ok (.getfield 16, 3) := by decide +kernel
theorem dX5_leastTurned_9 : decode cX5_leastTurned 9 = .ok (.if_icmp .ge 60, 3) := by decide +kernel
theorem dX5_leastTurned_12 : decode cX5_leastTurned 12 = .ok (.iload_n 1, 1) := by decide +kernel
theorem dX5_leastTurned_13 : decode cX5_leastTurned 13 = .ok (.aload_n 0, 1) := by decide +kernel
theorem dX5_leastTurned_14 : decode cX5_leastTurned 14 = .ok (.getfield 7, 3) := by decide +kernel
theorem dX5_leastTurned_17 : decode cX5_leastTurned 17 = .ok (.iload_n 2, 1) := by decide +kernel
theorem dX5_leastTurned_18 : decode cX5_leastTurned 18 = .ok (.iaload, 1) := by decide +kernel
theorem dX5_leastTurned_19 : decode cX5_leastTurned 19 = .ok (.aload_n 0, 1) := by decide +kernel
theorem dX5_leastTurned_20 : decode cX5_leastTurned 20 = .ok (.getfield 7, 3) := by decide +kernel
theorem dX5_leastTurned_23 : decode cX5_leastTurned 23 = .ok (.iload_n 3, 1) := by decide +kernel
theorem dX5_leastTurned_24 : decode cX5_leastTurned 24 = .ok (.iaload, 1) := by decide +kernel
theorem dX5_leastTurned_25 : decode cX5_leastTurned 25 = .ok (.isub, 1) := by decide +kernel
theorem dX5_leastTurned_26 : decode cX5_leastTurned 26 = .ok (.imul, 1) := by decide +kernel
theorem dX5_leastTurned_27 : decode cX5_leastTurned 27 = .ok (.istore 4, 2) := by decide +kernel
theorem dX5_leastTurned_29 : decode cX5_leastTurned 29 = .ok (.iload_n 1, 1) := by decide +kernel
theorem dX5_leastTurned_30 : decode cX5_leastTurned 30 = .ok (.aload_n 0, 1) := by decide +kernel
theorem dX5_leastTurned_31 : decode cX5_leastTurned 31 = .ok (.getfield 13, 3) := by decide +kernel
theorem dX5_leastTurned_34 : decode cX5_leastTurned 34 = .ok (.iload_n 2, 1) := by decide +kernel
theorem dX5_leastTurned_35 : decode cX5_leastTurned 35 = .ok (.iaload, 1) := by decide +kernel
theorem dX5_leastTurned_36 : decode cX5_leastTurned 36 = .ok (.aload_n 0, 1) := by decide +kernel
theorem dX5_leastTurned_37 : decode cX5_leastTurned 37 = .ok (.getfield 13, 3) := by decide +kernel
theorem dX5_leastTurned_40 : decode cX5_leastTurned 40 = .ok (.iload_n 3, 1) := by decide +kernel
theorem dX5_leastTurned_41 : decode cX5_leastTurned 41 = .ok (.iaload, 1) := by decide +kernel
theorem dX5_leastTurned_42 : decode cX5_leastTurned 42 = .ok (.isub, 1) := by decide +kernel
theorem dX5_leastTurned_43 : decode cX5_leastTurned 43 = .ok (.imul, 1) := by decide +kernel
theorem dX5_leastTurned_44 : decode cX5_leastTurned 44 = .ok (.istore 5, 2) := by decide +kernel
theorem dX5_leastTurned_46 : decode cX5_leastTurned 46 = .ok (.iload 4, 2) := by decide +kernel
theorem dX5_leastTurned_48 : decode cX5_leastTurned 48 = .ok (.ifCond .gt 13, 3) := by decide +kernel
theorem dX5_leastTurned_51 : decode cX5_leastTurned 51 = .ok (.iload 4, 2) := by decide +kernel
theorem dX5_leastTurned_53 : decode cX5_leastTurned 53 = .ok (.ifCond .ne 10, 3) := by decide +kernel
theorem dX5_leastTurned_56 : decode cX5_leastTurned 56 = .ok (.iload 5, 2) := by decide +kernel
theorem dX5_leastTurned_58 : decode cX5_leastTurned 58 = .ok (.ifCond .le 5, 3) := by decide +kernel
theorem dX5_leastTurned_61 : decode cX5_leastTurned 61 = .ok (.iload_n 3, 1) := by decide +kernel
theorem dX5_leastTurned_62 : decode cX5_leastTurned 62 = .ok (.istore_n 2, 1) := by decide +kernel
theorem dX5_leastTurned_63 : decode cX5_leastTurned 63 = .ok (.iinc 3 1, 3) := by decide +kernel
theorem dX5_leastTurned_66 : decode cX5_leastTurned 66 = .ok (.goto (-62), 3) := by decide +kernel
theorem dX5_leastTurned_69 : decode cX5_leastTurned 69 = .ok (.iload_n 2, 1) := by decide +kernel
theorem dX5_leastTurned_70 : decode cX5_leastTurned 70 = .ok (.ireturn, 1) := by decide +kernel
set_option maxHeartbeats 4000000 in
set_option maxRecDepth 100000 in
theorem tX5_leastTurned (l : Launch) (G : Gg) (b0 : Nat) {K : Kk} {R : Rr} {M : Mm} {r : Nat} {a0 : Int32} {res : Int32} (hm : mX5_leastTurned K R M r a0 = some (res)) : CT l G b0 yX5_leastTurned cX5_leastTurned 6 (some .int) (rmz 1 0) [.ref r, .int a0] K R M (some (.int res)) K R M := by
  refine ct_of (by decide +kernel) (Nat.le_of_ble_eq_true rfl) (fun w hq => ?_)
  have hw := hq.b
  change w 0 0 0 [(0, .ref r), (1, .int a0)] [] K R M
  replace hm := h_start hm
  unfold mX5_leastTurned at hm
  obtain ⟨h1, m22⟩ := h_ck hm
  clear hm
  refine r_iconst (v := 0) hw dX5_leastTurned_0 rfl ?_
  obtain ⟨i2, ei2, m23⟩ := h_nm m22
  clear m22
  refine r_topI (w := w) ei2 ?_
  refine r_istore_n hw dX5_leastTurned_1 rfl (by decide) rfl ?_
  refine r_iconst (v := 1) hw dX5_leastTurned_2 rfl ?_
  obtain ⟨i3, ei3, m24⟩ := h_nm m23
  clear m23
  refine r_topI (w := w) ei3 ?_
  refine r_istore_n hw dX5_leastTurned_3 rfl (by decide) rfl ?_
  refine r_sub hw [2, 3, 1, 0] rfl ?_
  obtain ⟨v4, n04, hn4, hv4⟩ := h_lp m24
  clear m24
  have L4 : ∀ n : Nat, ∀ (i4 : Int32) (i5 : Int32), it (mX5_leastTurned_L4 K R M r a0) n (i4, i5) = some v4 → w 0 0 4 [(0, .ref r), (1, .int a0), (2, .int i4), (3, .int i5)] [] K R M := by
    intro n4
    induction n4 with
    | zero => intro i4 i5 hz; exact absurd hz h_it0
    | succ n4 ih4 =>
      intro i4 i5 m25
      replace m25 : (mX5_leastTurned_B4 K R M r a0 i4 i5).bind (Sum.elim (it (mX5_leastTurned_L4 K R M r a0) n4) some) = some v4 := m25
      unfold mX5_leastTurned_B4 at m25
      have J63 : ∀ (i6 : Int32) (i7 : Int32), (mX5_leastTurned_J63 K R M r a0 i6 i7).bind (Sum.elim (it (mX5_leastTurned_L4 K R M r a0) n4) some) = some v4 → w 0 0 63 [(0, .ref r), (1, .int a0), (2, .int i6), (3, .int i7)] [] K R M := by
        intro i6 i7 m26
        unfold mX5_leastTurned_J63 at m26
        obtain ⟨i8, ei8, m27⟩ := h_nm m26
        clear m26
        refine r_iinc (j := 3) (v := i8) hw dX5_leastTurned_63 rfl (by rw [ei8]; rfl) (by decide) rfl ?_
        refine r_goto (tgt := 4) hw dX5_leastTurned_66 (by decide) ?_
        refine r_sub hw [1, 2, 3, 0] rfl ?_
        exact ih4 _ _ m27
      have J61 : ∀ (i9 : Int32), (mX5_leastTurned_J61 K R M r a0 i9).bind (Sum.elim (it (mX5_leastTurned_L4 K R M r a0) n4) some) = some v4 → w 0 0 61 [(0, .ref r), (1, .int a0), (3, .int i9)] [] K R M := by
        intro i9 m28
        unfold mX5_leastTurned_J61 at m28
        refine r_iload_n hw dX5_leastTurned_61 2 rfl ?_
        refine r_istore_n hw dX5_leastTurned_62 rfl (by decide) rfl ?_
        refine r_sub hw [1, 2, 0, 3] rfl ?_
        exact J63 _ _ m28
      refine r_iload_n hw dX5_leastTurned_4 3 rfl ?_
      refine r_aload_n hw dX5_leastTurned_5 0 rfl ?_
      refine r_getI hw fO_X5_16 h1 dX5_leastTurned_6 ?_
      refine r_icmp_ge (tgt := 69) hw dX5_leastTurned_9 (by decide) (fun c10 => ?_) (fun c10 => ?_)
      · have m29 := h_if_f c10 m25
        clear m25
        have m30 := h_ex m29 hv4
        clear m29
        refine r_iload_n hw dX5_leastTurned_69 2 rfl ?_
        cases h_ret m30
        exact r_ireturn hq rfl rfl dX5_leastTurned_70
      · have m31 := h_if_t c10 m25
        clear m25
        refine r_iload_n hw dX5_leastTurned_12 1 rfl ?_
        refine r_aload_n hw dX5_leastTurned_13 0 rfl ?_
        obtain ⟨q11, bq11, m32⟩ := h_bd m31
        clear m31
        refine r_getR hw fO_X5_7 h1 bq11 dX5_leastTurned_14 ?_
        refine r_iload_n hw dX5_leastTurned_17 2 rfl ?_
        obtain ⟨h12, m33⟩ := h_ck m32
        clear m32
        refine r_iaload hw h12 dX5_leastTurned_18 ?_
        refine r_aload_n hw dX5_leastTurned_19 0 rfl ?_
        refine r_getR hw fO_X5_7 h1 bq11 dX5_leastTurned_20 ?_
        refine r_iload_n hw dX5_leastTurned_23 3 rfl ?_
        obtain ⟨h13, m34⟩ := h_ck m33
        clear m33
        refine r_iaload hw h13 dX5_leastTurned_24 ?_
        refine r_isub hw dX5_leastTurned_25 ?_
        refine r_imul hw dX5_leastTurned_26 ?_
        obtain ⟨i14, ei14, m35⟩ := h_nm m34
        clear m34
        refine r_topI (w := w) ei14 ?_
        refine r_istore hw dX5_leastTurned_27 (by decide) rfl ?_
        refine r_iload_n hw dX5_leastTurned_29 2 rfl ?_
        refine r_aload_n hw dX5_leastTurned_30 1 rfl ?_
        obtain ⟨q15, bq15, m36⟩ := h_bd m35
        clear m35
        refine r_getR hw fO_X5_13 h1 bq15 dX5_leastTurned_31 ?_
        refine r_iload_n hw dX5_leastTurned_34 3 rfl ?_
        obtain ⟨h16, m37⟩ := h_ck m36
        clear m36
        refine r_iaload hw h16 dX5_leastTurned_35 ?_
        refine r_aload_n hw dX5_leastTurned_36 1 rfl ?_
        refine r_getR hw fO_X5_13 h1 bq15 dX5_leastTurned_37 ?_
        refine r_iload_n hw dX5_leastTurned_40 4 rfl ?_
        obtain ⟨h17, m38⟩ := h_ck m37
        clear m37
        refine r_iaload hw h17 dX5_leastTurned_41 ?_
        refine r_isub hw dX5_leastTurned_42 ?_
        refine r_imul hw dX5_leastTurned_43 ?_
        obtain ⟨i18, ei18, m39⟩ := h_nm m38
        clear m38
        refine r_topI (w := w) ei18 ?_
        refine r_istore hw dX5_leastTurned_44 (by decide) rfl ?_
        refine r_iload hw dX5_leastTurned_46 1 rfl ?_
        refine r_if_gt (tgt := 61) hw dX5_leastTurned_48 (by decide) (fun c19 => ?_) (fun c19 => ?_)
        · have m40 := h_if_f c19 m39
          clear m39
          refine r_sub hw [2, 3, 5] rfl ?_
          exact J61 _ m40
        · have m41 := h_if_t c19 m39
          clear m39
          refine r_iload hw dX5_leastTurned_51 1 rfl ?_
          refine r_if_ne (tgt := 63) hw dX5_leastTurned_53 (by decide) (fun c20 => ?_) (fun c20 => ?_)
          · have m42 := h_if_f c20 m41
            clear m41
            refine r_sub hw [2, 3, 4, 5] rfl ?_
            exact J63 _ _ m42
          · have m43 := h_if_t c20 m41
            clear m41
            refine r_iload hw dX5_leastTurned_56 0 rfl ?_
            refine r_if_le (tgt := 63) hw dX5_leastTurned_58 (by decide) (fun c21 => ?_) (fun c21 => ?_)
            · have m44 := h_if_t c21 m43
              clear m43
              refine r_sub hw [2, 3, 4, 5] rfl ?_
              exact J63 _ _ m44
            · have m45 := h_if_f c21 m43
              clear m43
              refine r_sub hw [2, 3, 5] rfl ?_
              exact J61 _ m45
  exact L4 n04 _ _ hn4
theorem dX5_takeMoved_0 : decode cX5_takeMoved 0 = .ok (.aload_n 1, 1) := by decide +kernel
theorem dX5_takeMoved_1 : decode cX5_takeMoved 1 = .ok (.iload_n 2, 1) := by decide +kernel
theorem dX5_takeMoved_2 : decode cX5_takeMoved 2 = .ok (.invokevirtual 36, 3) := by decide +kernel
theorem dX5_takeMoved_5 : decode cX5_takeMoved 5 = .ok (.istore 5, 2) := by decide +kernel
theorem dX5_takeMoved_7 : decode cX5_takeMoved 7 = .ok (.aload_n 0, 1) := by decide +kernel
theorem dX5_takeMoved_8 : decode cX5_takeMoved 8 = .ok (.iconst 0, 1) := by decide +kernel
theorem dX5_takeMoved_9 : decode cX5_takeMoved 9 = .ok (.putfield 16, 3) := by decide +kernel
theorem dX5_takeMoved_12 : decode cX5_takeMoved 12 = .ok (.iconst 0, 1) := by decide +kernel
theorem dX5_takeMoved_13 : decode cX5_takeMoved 13 = .ok (.istore 6, 2) := by decide +kernel
theorem dX5_takeMoved_15 : decode cX5_takeMoved 15 = .ok (.iload 6, 2) := by decide +kernel
theorem dX5_takeMoved_17 : decode cX5_takeMoved 17 = .ok (.aload_n 1, 1) := by decide +kernel
theorem dX5_takeMoved_18 : decode cX5_takeMoved 18 = .ok (.getfield 16, 3) := by decide +kernel
theorem dX5_takeMoved_21 : decode cX5_takeMoved 21 = .ok (.if_icmp .ge 47, 3) := by decide +kernel
theorem dX5_takeMoved_24 : decode cX5_takeMoved 24 = .ok (.aload_n 1, 1) := by decide +kernel
theorem dX5_takeMoved_25 : decode cX5_takeMoved 25 = .ok (.iload 5, 2) := by decide +kernel
theorem dX5_takeMoved_27 : decode cX5_takeMoved 27 = .ok (.iload 6, 2) := by decide +kernel
theorem dX5_takeMoved_29 : decode cX5_takeMoved 29 = .ok (.iadd, 1) := by decide +kernel
theorem dX5_takeMoved_30 : decode cX5_takeMoved 30 = .ok (.invokevirtual 40, 3) := by decide +kernel
theorem dX5_takeMoved_33 : decode cX5_takeMoved 33 = .ok (.istore 7, 2) := by decide +kernel
theorem dX5_takeMoved_35 : decode cX5_takeMoved 35 = .ok (.aload_n 0, 1) := by decide +kernel
theorem dX5_takeMoved_36 : decode cX5_takeMoved 36 = .ok (.iload_n 2, 1) := by decide +kernel
theorem dX5_takeMoved_37 : decode cX5_takeMoved 37 = .ok (.aload_n 1, 1) := by decide +kernel
theorem dX5_takeMoved_38 : decode cX5_takeMoved 38 = .ok (.getfield 7, 3) := by decide +kernel
theorem dX5_takeMoved_41 : decode cX5_takeMoved 41 = .ok (.iload 7, 2) := by decide +kernel
theorem dX5_takeMoved_43 : decode cX5_takeMoved 43 = .ok (.iaload, 1) := by decide +kernel
theorem dX5_takeMoved_44 : decode cX5_takeMoved 44 = .ok (.imul, 1) := by decide +kernel
theorem dX5_takeMoved_45 : decode cX5_takeMoved 45 = .ok (.iload_n 3, 1) := by decide +kernel
theorem dX5_takeMoved_46 : decode cX5_takeMoved 46 = .ok (.iadd, 1) := by decide +kernel
theorem dX5_takeMoved_47 : decode cX5_takeMoved 47 = .ok (.iload_n 2, 1) := by decide +kernel
theorem dX5_takeMoved_48 : decode cX5_takeMoved 48 = .ok (.aload_n 1, 1) := by decide +kernel
theorem dX5_takeMoved_49 : decode cX5_takeMoved 49 = .ok (.getfield 13, 3) := by decide +kernel
theorem dX5_takeMoved_52 : decode cX5_takeMoved 52 = .ok (.iload 7, 2) := by decide +kernel
theorem dX5_takeMoved_54 : decode cX5_takeMoved 54 = .ok (.iaload, 1) := by decide +kernel
theorem dX5_takeMoved_55 : decode cX5_takeMoved 55 = .ok (.imul, 1) := by decide +kernel
theorem dX5_takeMoved_56 : decode cX5_takeMoved 56 = .ok (.iload 4, 2) := by decide +kernel
theorem dX5_takeMoved_58 : decode cX5_takeMoved 58 = .ok (.iadd, 1) := by decide +kernel
theorem dX5_takeMoved_59 : decode cX5_takeMoved 59 = .ok (.invokevirtual 32, 3) := by decide +kernel
theorem dX5_takeMoved_62 : decode cX5_takeMoved 62 = .ok (.iinc 6 1, 3) := by decide +kernel
theorem dX5_takeMoved_65 : decode cX5_takeMoved 65 = .ok (.goto (-50), 3) := by decide +kernel
theorem dX5_takeMoved_68 : decode cX5_takeMoved 68 = .ok (.return_, 1) := by decide +kernel
set_option maxHeartbeats 4000000 in
set_option maxRecDepth 100000 in
theorem tX5_takeMoved (l : Launch) (G : Gg) (b0 : Nat) {K : Kk} {R : Rr} {M : Mm} {r : Nat} {a0 : Nat} {a1 : Int32} {a2 : Int32} {a3 : Int32} {M' : Mm} (hm : mX5_takeMoved K R M r a0 a1 a2 a3 = some (M')) : CT l G b0 yX5_takeMoved cX5_takeMoved 8 none (rmz 2 25) [.ref r, .ref a0, .int a1, .int a2, .int a3] K R M none K R M' := by
  refine ct_of (by decide +kernel) (Nat.le_of_ble_eq_true rfl) (fun w hq => ?_)
  have hw := hq.b
  change w 0 0 0 [(0, .ref r), (1, .ref a0), (2, .int a1), (3, .int a2), (4, .int a3)] [] K R M
  replace hm := h_start hm
  unfold mX5_takeMoved at hm
  obtain ⟨h1, m16⟩ := h_ck hm
  clear hm
  obtain ⟨h2, m17⟩ := h_ck m16
  clear m16
  refine r_aload_n hw dX5_takeMoved_0 1 rfl ?_
  refine r_iload_n hw dX5_takeMoved_1 2 rfl ?_
  obtain ⟨i3, g3, m18⟩ := h_bd m17
  clear m17
  refine r_callV1 hw (tX5_leastTurned l G b0 g3) lB_X5_leastTurned lI_X5_leastTurned mL_X5_36 (c := 5) rfl h2 rfl (Nat.le_of_ble_eq_true rfl) (Nat.le_of_ble_eq_true rfl) rfl (Nat.le_of_ble_eq_true rfl) dX5_takeMoved_2 ?_
  refine r_istore hw dX5_takeMoved_5 (by decide) rfl ?_
  refine r_aload_n hw dX5_takeMoved_7 1 rfl ?_
  refine r_iconst (v := 0) hw dX5_takeMoved_8 rfl ?_
  obtain ⟨M4, eM4, m19⟩ := h_nm m18
  clear m18
  refine r_putI hw fP_X5_16 h1 dX5_takeMoved_9 (r_mem ?_ rfl eM4)
  refine r_iconst (v := 0) hw dX5_takeMoved_12 rfl ?_
  obtain ⟨i5, ei5, m20⟩ := h_nm m19
  clear m19
  refine r_topI (w := w) ei5 ?_
  refine r_istore hw dX5_takeMoved_13 (by decide) rfl ?_
  refine r_sub hw [2, 3, 4, 5, 6, 1, 0] rfl ?_
  obtain ⟨v15, n015, hn15, hv15⟩ := h_lp m20
  clear m20
  have L15 : ∀ n : Nat, ∀ (i6 : Int32) (M7 : Mm), it (mX5_takeMoved_L15 K R r a0 a1 a2 a3 i3) n (i6, M7) = some v15 → w 0 0 15 [(0, .ref r), (1, .ref a0), (2, .int a1), (3, .int a2), (4, .int a3), (5, .int i3), (6, .int i6)] [] K R M7 := by
    intro n15
    induction n15 with
    | zero => intro i6 M7 hz; exact absurd hz h_it0
    | succ n15 ih15 =>
      intro i6 M7 m21
      replace m21 : (mX5_takeMoved_B15 K R r a0 a1 a2 a3 i3 i6 M7).bind (Sum.elim (it (mX5_takeMoved_L15 K R r a0 a1 a2 a3 i3) n15) some) = some v15 := m21
      unfold mX5_takeMoved_B15 at m21
      refine r_iload hw dX5_takeMoved_15 6 rfl ?_
      refine r_aload_n hw dX5_takeMoved_17 1 rfl ?_
      refine r_getI hw fO_X5_16 h2 dX5_takeMoved_18 ?_
      refine r_icmp_ge (tgt := 68) hw dX5_takeMoved_21 (by decide) (fun c8 => ?_) (fun c8 => ?_)
      · have m22 := h_if_f c8 m21
        clear m21
        have m23 := h_ex m22 hv15
        clear m22
        cases h_ret m23
        exact r_return hq rfl rfl dX5_takeMoved_68
      · have m24 := h_if_t c8 m21
        clear m21
        refine r_aload_n hw dX5_takeMoved_24 1 rfl ?_
        refine r_iload hw dX5_takeMoved_25 5 rfl ?_
        refine r_iload hw dX5_takeMoved_27 6 rfl ?_
        refine r_iadd hw dX5_takeMoved_29 ?_
        obtain ⟨i9, g9, m25⟩ := h_bd m24
        clear m24
        refine r_callV1 hw (tX5_wrap l G b0 g9) lB_X5_wrap lI_X5_wrap mL_X5_40 (c := 5) rfl h2 rfl (Nat.le_of_ble_eq_true rfl) (Nat.le_of_ble_eq_true rfl) rfl (Nat.le_of_ble_eq_true rfl) dX5_takeMoved_30 ?_
        refine r_istore hw dX5_takeMoved_33 (by decide) rfl ?_
        refine r_aload_n hw dX5_takeMoved_35 1 rfl ?_
        refine r_iload_n hw dX5_takeMoved_36 3 rfl ?_
        refine r_aload_n hw dX5_takeMoved_37 2 rfl ?_
        obtain ⟨q10, bq10, m26⟩ := h_bd m25
        clear m25
        refine r_getR hw fO_X5_7 h2 bq10 dX5_takeMoved_38 ?_
        refine r_iload hw dX5_takeMoved_41 0 rfl ?_
        obtain ⟨h11, m27⟩ := h_ck m26
        clear m26
        refine r_iaload hw h11 dX5_takeMoved_43 ?_
        refine r_imul hw dX5_takeMoved_44 ?_
        refine r_iload_n hw dX5_takeMoved_45 4 rfl ?_
        refine r_iadd hw dX5_takeMoved_46 ?_
        refine r_iload_n hw dX5_takeMoved_47 3 rfl ?_
        refine r_aload_n hw dX5_takeMoved_48 2 rfl ?_
        obtain ⟨q12, bq12, m28⟩ := h_bd m27
        clear m27
        refine r_getR hw fO_X5_13 h2 bq12 dX5_takeMoved_49 ?_
        refine r_iload hw dX5_takeMoved_52 0 rfl ?_
        obtain ⟨h13, m29⟩ := h_ck m28
        clear m28
        refine r_iaload hw h13 dX5_takeMoved_54 ?_
        refine r_imul hw dX5_takeMoved_55 ?_
        refine r_iload hw dX5_takeMoved_56 5 rfl ?_
        refine r_iadd hw dX5_takeMoved_58 ?_
        obtain ⟨M14, g14, m30⟩ := h_bd m29
        clear m29
        refine r_callV0 hw (tX5_add l G b0 g14) lB_X5_add lI_X5_add mL_X5_32 (c := 5) rfl h1 rfl (Nat.le_of_ble_eq_true rfl) (Nat.le_of_ble_eq_true rfl) rfl (Nat.le_of_ble_eq_true rfl) dX5_takeMoved_59 ?_
        obtain ⟨i15, ei15, m31⟩ := h_nm m30
        clear m30
        refine r_iinc (j := 7) (v := i15) hw dX5_takeMoved_62 rfl (by rw [ei15]; rfl) (by decide) rfl ?_
        refine r_goto (tgt := 15) hw dX5_takeMoved_65 (by decide) ?_
        refine r_sub hw [2, 3, 4, 5, 6, 7, 0] rfl ?_
        exact ih15 _ _ m31
  exact L15 n015 _ _ hn15
theorem dX3_setOrigin_0 : decode cX3_setOrigin 0 = .ok (.aload_n 0, 1) := by decide +kernel
theorem dX3_setOrigin_1 : decode cX3_setOrigin 1 = .ok (.getfield 14, 3) := by decide +kernel
theorem dX3_setOrigin_4 : decode cX3_setOrigin 4 = .ok (.aload_n 1, 1) := by decide +kernel
theorem dX3_setOrigin_5 : decode cX3_setOrigin 5 = .ok (.iconst 1, 1) := by decide +kernel
theorem dX3_setOrigin_6 : decode cX3_setOrigin 6 = .ok (.iconst 0, 1) := by decide +kernel
theorem dX3_setOrigin_7 : decode cX3_setOrigin 7 = .ok (.iconst 0, 1) := by decide +kernel
theorem dX3_setOrigin_8 : decode cX3_setOrigin 8 = .ok (.invokevirtual 42, 3) := by decide +kernel
theorem dX3_setOrigin_11 : decode cX3_setOrigin 11 = .ok (.aload_n 0, 1) := by decide +kernel
theorem dX3_setOrigin_12 : decode cX3_setOrigin 12 = .ok (.iconst 0, 1) := by decide +kernel
theorem dX3_setOrigin_13 : decode cX3_setOrigin 13 = .ok (.putfield 38, 3) := by decide +kernel
theorem dX3_setOrigin_16 : decode cX3_setOrigin 16 = .ok (.return_, 1) := by decide +kernel
set_option maxHeartbeats 4000000 in
set_option maxRecDepth 100000 in
theorem tX3_setOrigin (l : Launch) (G : Gg) (b0 : Nat) {K : Kk} {R : Rr} {M : Mm} {r : Nat} {a0 : Nat} {M' : Mm} (hm : mX3_setOrigin K R M r a0 = some (M')) : CT l G b0 yX3_setOrigin cX3_setOrigin 2 none (rmz 3 52) [.ref r, .ref a0] K R M none K R M' := by
  refine ct_of (by decide +kernel) (Nat.le_of_ble_eq_true rfl) (fun w hq => ?_)
  have hw := hq.b
  change w 0 0 0 [(0, .ref r), (1, .ref a0)] [] K R M
  replace hm := h_start hm
  unfold mX3_setOrigin at hm
  obtain ⟨h1, m7⟩ := h_ck hm
  clear hm
  obtain ⟨h2, m8⟩ := h_ck m7
  clear m7
  refine r_aload_n hw dX3_setOrigin_0 0 rfl ?_
  obtain ⟨q3, bq3, m9⟩ := h_bd m8
  clear m8
  refine r_getR hw fO_X3_14 h1 bq3 dX3_setOrigin_1 ?_
  refine r_aload_n hw dX3_setOrigin_4 1 rfl ?_
  refine r_iconst (v := 1) hw dX3_setOrigin_5 rfl ?_
  refine r_iconst (v := 0) hw dX3_setOrigin_6 rfl ?_
  refine r_iconst (v := 0) hw dX3_setOrigin_7 rfl ?_
  obtain ⟨h5, m10⟩ := h_ck m9
  clear m9
  obtain ⟨M4, g4, m11⟩ := h_bd m10
  clear m10
  refine r_callV0 hw (tX5_takeMoved l G b0 g4) lB_X5_takeMoved lI_X5_takeMoved mL_X3_42 (c := 5) rfl h5 rfl (Nat.le_of_ble_eq_true rfl) (Nat.le_of_ble_eq_true rfl) rfl (Nat.le_of_ble_eq_true rfl) dX3_setOrigin_8 ?_
  refine r_aload_n hw dX3_setOrigin_11 0 rfl ?_
  refine r_iconst (v := 0) hw dX3_setOrigin_12 rfl ?_
  obtain ⟨M6, eM6, m12⟩ := h_nm m11
  clear m11
  refine r_putZ hw fP_X3_38 h1 isB_0 dX3_setOrigin_13 (r_mem ?_ rfl eM6)
  cases h_ret m12
  exact r_return hq rfl rfl dX3_setOrigin_16
theorem dX3_setPlace_0 : decode cX3_setPlace 0 = .ok (.aload_n 0, 1) := by decide +kernel
theorem dX3_setPlace_1 : decode cX3_setPlace 1 = .ok (.getfield 14, 3) := by decide +kernel
theorem dX3_setPlace_4 : decode cX3_setPlace 4 = .ok (.aload_n 1, 1) := by decide +kernel
theorem dX3_setPlace_5 : decode cX3_setPlace 5 = .ok (.aload_n 0, 1) := by decide +kernel
theorem dX3_setPlace_6 : decode cX3_setPlace 6 = .ok (.getfield 20, 3) := by decide +kernel
theorem dX3_setPlace_9 : decode cX3_setPlace 9 = .ok (.aload_n 0, 1) := by decide +kernel
theorem dX3_setPlace_10 : decode cX3_setPlace 10 = .ok (.getfield 20, 3) := by decide +kernel
theorem dX3_setPlace_13 : decode cX3_setPlace 13 = .ok (.ineg, 1) := by decide +kernel
theorem dX3_setPlace_14 : decode cX3_setPlace 14 = .ok (.aload_n 0, 1) := by decide +kernel
theorem dX3_setPlace_15 : decode cX3_setPlace 15 = .ok (.getfield 28, 3) := by decide +kernel
theorem dX3_setPlace_18 : decode cX3_setPlace 18 = .ok (.imul, 1) := by decide +kernel
theorem dX3_setPlace_19 : decode cX3_setPlace 19 = .ok (.aload_n 0, 1) := by decide +kernel
theorem dX3_setPlace_20 : decode cX3_setPlace 20 = .ok (.getfield 20, 3) := by decide +kernel
theorem dX3_setPlace_23 : decode cX3_setPlace 23 = .ok (.ineg, 1) := by decide +kernel
theorem dX3_setPlace_24 : decode cX3_setPlace 24 = .ok (.aload_n 0, 1) := by decide +kernel
theorem dX3_setPlace_25 : decode cX3_setPlace 25 = .ok (.getfield 31, 3) := by decide +kernel
theorem dX3_setPlace_28 : decode cX3_setPlace 28 = .ok (.imul, 1) := by decide +kernel
theorem dX3_setPlace_29 : decode cX3_setPlace 29 = .ok (.invokevirtual 42, 3) := by decide +kernel
theorem dX3_setPlace_32 : decode cX3_setPlace 32 = .ok (.aload_n 0, 1) := by decide +kernel
theorem dX3_setPlace_33 : decode cX3_setPlace 33 = .ok (.iconst 0, 1) := by decide +kernel
theorem dX3_setPlace_34 : decode cX3_setPlace 34 = .ok (.putfield 38, 3) := by decide +kernel
theorem dX3_setPlace_37 : decode cX3_setPlace 37 = .ok (.return_, 1) := by decide +kernel
set_option maxHeartbeats 4000000 in
set_option maxRecDepth 100000 in
theorem tX3_setPlace (l : Launch) (G : Gg) (b0 : Nat) {K : Kk} {R : Rr} {M : Mm} {r : Nat} {a0 : Nat} {M' : Mm} (hm : mX3_setPlace K R M r a0 = some (M')) : CT l G b0 yX3_setPlace cX3_setPlace 2 none (rmz 3 52) [.ref r, .ref a0] K R M none K R M' := by
  refine ct_of (by decide +kernel) (Nat.le_of_ble_eq_true rfl) (fun w hq => ?_)
  have hw := hq.b
  change w 0 0 0 [(0, .ref r), (1, .ref a0)] [] K R M
  replace hm := h_start hm
  unfold mX3_setPlace at hm
  obtain ⟨h1, m7⟩ := h_ck hm
  clear hm
  obtain ⟨h2, m8⟩ := h_ck m7
  clear m7
  refine r_aload_n hw dX3_setPlace_0 0 rfl ?_
  obtain ⟨q3, bq3, m9⟩ := h_bd m8
  clear m8
  refine r_getR hw fO_X3_14 h1 bq3 dX3_setPlace_1 ?_
  refine r_aload_n hw dX3_setPlace_4 1 rfl ?_
  refine r_aload_n hw dX3_setPlace_5 0 rfl ?_
  refine r_getI hw fO_X3_20 h1 dX3_setPlace_6 ?_
  refine r_aload_n hw dX3_setPlace_9 0 rfl ?_
  refine r_getI hw fO_X3_20 h1 dX3_setPlace_10 ?_
  refine r_ineg hw dX3_setPlace_13 ?_
  refine r_aload_n hw dX3_setPlace_14 0 rfl ?_
  refine r_getI hw fO_X3_28 h1 dX3_setPlace_15 ?_
  refine r_imul hw dX3_setPlace_18 ?_
  refine r_aload_n hw dX3_setPlace_19 0 rfl ?_
  refine r_getI hw fO_X3_20 h1 dX3_setPlace_20 ?_
  refine r_ineg hw dX3_setPlace_23 ?_
  refine r_aload_n hw dX3_setPlace_24 0 rfl ?_
  refine r_getI hw fO_X3_31 h1 dX3_setPlace_25 ?_
  refine r_imul hw dX3_setPlace_28 ?_
  obtain ⟨h5, m10⟩ := h_ck m9
  clear m9
  obtain ⟨M4, g4, m11⟩ := h_bd m10
  clear m10
  refine r_callV0 hw (tX5_takeMoved l G b0 g4) lB_X5_takeMoved lI_X5_takeMoved mL_X3_42 (c := 5) rfl h5 rfl (Nat.le_of_ble_eq_true rfl) (Nat.le_of_ble_eq_true rfl) rfl (Nat.le_of_ble_eq_true rfl) dX3_setPlace_29 ?_
  refine r_aload_n hw dX3_setPlace_32 0 rfl ?_
  refine r_iconst (v := 0) hw dX3_setPlace_33 rfl ?_
  obtain ⟨M6, eM6, m12⟩ := h_nm m11
  clear m11
  refine r_putZ hw fP_X3_38 h1 isB_0 dX3_setPlace_34 (r_mem ?_ rfl eM6)
  cases h_ret m12
  exact r_return hq rfl rfl dX3_setPlace_37
theorem dX3_placeInto_0 : decode cX3_placeInto 0 = .ok (.aload_n 1, 1) := by decide +kernel
theorem dX3_placeInto_1 : decode cX3_placeInto 1 = .ok (.aload_n 0, 1) := by decide +kernel
theorem dX3_placeInto_2 : decode cX3_placeInto 2 = .ok (.getfield 14, 3) := by decide +kernel
theorem dX3_placeInto_5 : decode cX3_placeInto 5 = .ok (.aload_n 0, 1) := by decide +kernel
theorem dX3_placeInto_6 : decode cX3_placeInto 6 = .ok (.getfield 20, 3) := by decide +kernel
theorem dX3_placeInto_9 : decode cX3_placeInto 9 = .ok (.aload_n 0, 1) := by decide +kernel
theorem dX3_placeInto_10 : decode cX3_placeInto 10 = .ok (.getfield 28, 3) := by decide +kernel
theorem dX3_placeInto_13 : decode cX3_placeInto 13 = .ok (.aload_n 0, 1) := by decide +kernel
theorem dX3_placeInto_14 : decode cX3_placeInto 14 = .ok (.getfield 31, 3) := by decide +kernel
theorem dX3_placeInto_17 : decode cX3_placeInto 17 = .ok (.invokevirtual 42, 3) := by decide +kernel
theorem dX3_placeInto_20 : decode cX3_placeInto 20 = .ok (.return_, 1) := by decide +kernel
set_option maxHeartbeats 4000000 in
set_option maxRecDepth 100000 in
theorem tX3_placeInto (l : Launch) (G : Gg) (b0 : Nat) {K : Kk} {R : Rr} {M : Mm} {r : Nat} {a0 : Nat} {M' : Mm} (hm : mX3_placeInto K R M r a0 = some (M')) : CT l G b0 yX3_placeInto cX3_placeInto 2 none (rmz 3 52) [.ref r, .ref a0] K R M none K R M' := by
  refine ct_of (by decide +kernel) (Nat.le_of_ble_eq_true rfl) (fun w hq => ?_)
  have hw := hq.b
  change w 0 0 0 [(0, .ref r), (1, .ref a0)] [] K R M
  replace hm := h_start hm
  unfold mX3_placeInto at hm
  obtain ⟨h1, m5⟩ := h_ck hm
  clear hm
  obtain ⟨h2, m6⟩ := h_ck m5
  clear m5
  refine r_aload_n hw dX3_placeInto_0 1 rfl ?_
  refine r_aload_n hw dX3_placeInto_1 0 rfl ?_
  obtain ⟨q3, bq3, m7⟩ := h_bd m6
  clear m6
  refine r_getR hw fO_X3_14 h1 bq3 dX3_placeInto_2 ?_
  refine r_aload_n hw dX3_placeInto_5 0 rfl ?_
  refine r_getI hw fO_X3_20 h1 dX3_placeInto_6 ?_
  refine r_aload_n hw dX3_placeInto_9 0 rfl ?_
  refine r_getI hw fO_X3_28 h1 dX3_placeInto_10 ?_
  refine r_aload_n hw dX3_placeInto_13 0 rfl ?_
  refine r_getI hw fO_X3_31 h1 dX3_placeInto_14 ?_
  obtain ⟨M4, g4, m8⟩ := h_bd m7
  clear m7
  refine r_callV0 hw (tX5_takeMoved l G b0 g4) lB_X5_takeMoved lI_X5_takeMoved mL_X3_42 (c := 5) rfl h2 rfl (Nat.le_of_ble_eq_true rfl) (Nat.le_of_ble_eq_true rfl) rfl (Nat.le_of_ble_eq_true rfl) dX3_placeInto_17 ?_
  cases h_ret m8
  exact r_return hq rfl rfl dX3_placeInto_20
theorem dX3_isTriangle_0 : decode cX3_isTriangle 0 = .ok (.aload_n 0, 1) := by decide +kernel
theorem dX3_isTriangle_1 : decode cX3_isTriangle 1 = .ok (.getfield 14, 3) := by decide +kernel
theorem dX3_isTriangle_4 : decode cX3_isTriangle 4 = .ok (.getfield 46, 3) := by decide +kernel
theorem dX3_isTriangle_7 : decode cX3_isTriangle 7 = .ok (.iconst 3, 1) := by decide +kernel
theorem dX3_isTriangle_8 : decode cX3_isTriangle 8 = .ok (.if_icmp .ne 7, 3) := by decide +kernel
theorem dX3_isTriangle_11 : decode cX3_isTriangle 11 = .ok (.iconst 1, 1) := by decide +kernel
theorem dX3_isTriangle_12 : decode cX3_isTriangle 12 = .ok (.goto 4, 3) := by decide +kernel
theorem dX3_isTriangle_15 : decode cX3_isTriangle 15 = .ok (.iconst 0, 1) := by decide +kernel
theorem dX3_isTriangle_16 : decode cX3_isTriangle 16 = .ok (.ireturn, 1) := by decide +kernel
set_option maxHeartbeats 4000000 in
set_option maxRecDepth 100000 in
theorem tX3_isTriangle (l : Launch) (G : Gg) (b0 : Nat) {K : Kk} {R : Rr} {M : Mm} {r : Nat} {res : Int32} (hm : mX3_isTriangle K R M r = some (res)) : CT l G b0 yX3_isTriangle cX3_isTriangle 1 (some .boolean) (rmz 1 0) [.ref r] K R M (some (.int res)) K R M := by
  refine ct_of (by decide +kernel) (Nat.le_of_ble_eq_true rfl) (fun w hq => ?_)
  have hw := hq.b
  change w 0 0 0 [(0, .ref r)] [] K R M
  replace hm := h_start hm
  unfold mX3_isTriangle at hm
  obtain ⟨h1, m5⟩ := h_ck hm
  clear hm
  refine r_aload_n hw dX3_isTriangle_0 0 rfl ?_
  obtain ⟨q2, bq2, m6⟩ := h_bd m5
  clear m5
  refine r_getR hw fO_X3_14 h1 bq2 dX3_isTriangle_1 ?_
  obtain ⟨h3, m7⟩ := h_ck m6
  clear m6
  refine r_getI hw fO_X3_46 h3 dX3_isTriangle_4 ?_
  refine r_iconst (v := 3) hw dX3_isTriangle_7 rfl ?_
  refine r_icmp_ne (tgt := 15) hw dX3_isTriangle_8 (by decide) (fun c4 => ?_) (fun c4 => ?_)
  · have m8 := h_if_f c4 m7
    clear m7
    refine r_iconst (v := 0) hw dX3_isTriangle_15 rfl ?_
    cases h_ret m8
    exact r_zreturn hq isB_0 rfl rfl dX3_isTriangle_16
  · have m9 := h_if_t c4 m7
    clear m7
    refine r_iconst (v := 1) hw dX3_isTriangle_11 rfl ?_
    refine r_goto (tgt := 16) hw dX3_isTriangle_12 (by decide) ?_
    cases h_ret m9
    exact r_zreturn hq isB_1 rfl rfl dX3_isTriangle_16
theorem dX5_isSlab_0 : decode cX5_isSlab 0 = .ok (.aload_n 0, 1) := by decide +kernel
theorem dX5_isSlab_1 : decode cX5_isSlab 1 = .ok (.getfield 16, 3) := by decide +kernel
theorem dX5_isSlab_4 : decode cX5_isSlab 4 = .ok (.iconst 4, 1) := by decide +kernel
theorem dX5_isSlab_5 : decode cX5_isSlab 5 = .ok (.if_icmp .ne 65, 3) := by decide +kernel
theorem dX5_isSlab_8 : decode cX5_isSlab 8 = .ok (.aload_n 0, 1) := by decide +kernel
theorem dX5_isSlab_9 : decode cX5_isSlab 9 = .ok (.getfield 7, 3) := by decide +kernel
theorem dX5_isSlab_12 : decode cX5_isSlab 12 = .ok (.iconst 1, 1) := by decide +kernel
theorem dX5_isSlab_13 : decode cX5_isSlab 13 = .ok (.iaload, 1) := by decide +kernel
theorem dX5_isSlab_14 : decode cX5_isSlab 14 = .ok (.aload_n 0, 1) := by decide +kernel
theorem dX5_isSlab_15 : decode cX5_isSlab 15 = .ok (.getfield 7, 3) := by decide +kernel
theorem dX5_isSlab_18 : decode cX5_isSlab 18 = .ok (.iconst 0, 1) := by decide +kernel
theorem dX5_isSlab_19 : decode cX5_isSlab 19 = .ok (.iaload, 1) := by decide +kernel
theorem dX5_isSlab_20 : decode cX5_isSlab 20 = .ok (.isub, 1) := by decide +kernel
theorem dX5_isSlab_21 : decode cX5_isSlab 21 = .ok (.aload_n 0, 1) := by decide +kernel
theorem dX5_isSlab_22 : decode cX5_isSlab 22 = .ok (.getfield 7, 3) := by decide +kernel
theorem dX5_isSlab_25 : decode cX5_isSlab 25 = .ok (.iconst 2, 1) := by decide +kernel
theorem dX5_isSlab_26 : decode cX5_isSlab 26 = .ok (.iaload, 1) := by decide +kernel
theorem dX5_isSlab_27 : decode cX5_isSlab 27 = .ok (.aload_n 0, 1) := by decide +kernel
theorem dX5_isSlab_28 : decode cX5_isSlab 28 = .ok (.getfield 7, 3) := by decide +kernel
theorem dX5_isSlab_31 : decode cX5_isSlab 31 = .ok (.iconst 3, 1) := by decide +kernel
theorem dX5_isSlab_32 : decode cX5_isSlab 32 = .ok (.iaload, 1) := by decide +kernel
theorem dX5_isSlab_33 : decode cX5_isSlab 33 = .ok (.isub, 1) := by decide +kernel
theorem dX5_isSlab_34 : decode cX5_isSlab 34 = .ok (.if_icmp .ne 36, 3) := by decide +kernel
theorem dX5_isSlab_37 : decode cX5_isSlab 37 = .ok (.aload_n 0, 1) := by decide +kernel
theorem dX5_isSlab_38 : decode cX5_isSlab 38 = .ok (.getfield 13, 3) := by decide +kernel
theorem dX5_isSlab_41 : decode cX5_isSlab 41 = .ok (.iconst 1, 1) := by decide +kernel
theorem dX5_isSlab_42 : decode cX5_isSlab 42 = .ok (.iaload, 1) := by decide +kernel
theorem dX5_isSlab_43 : decode cX5_isSlab 43 = .ok (.aload_n 0, 1) := by decide +kernel
theorem dX5_isSlab_44 : decode cX5_isSlab 44 = .ok (.getfield 13, 3) := by decide +kernel
theorem dX5_isSlab_47 : decode cX5_isSlab 47 = .ok (.iconst 0, 1) := by decide +kernel
theorem dX5_isSlab_48 : decode cX5_isSlab 48 = .ok (.iaload, 1) := by decide +kernel
theorem dX5_isSlab_49 : decode cX5_isSlab 49 = .ok (.isub, 1) := by decide +kernel
theorem dX5_isSlab_50 : decode cX5_isSlab 50 = .ok (.aload_n 0, 1) := by decide +kernel
theorem dX5_isSlab_51 : decode cX5_isSlab 51 = .ok (.getfield 13, 3) := by decide +kernel
theorem dX5_isSlab_54 : decode cX5_isSlab 54 = .ok (.iconst 2, 1) := by decide +kernel
theorem dX5_isSlab_55 : decode cX5_isSlab 55 = .ok (.iaload, 1) := by decide +kernel
theorem dX5_isSlab_56 : decode cX5_isSlab 56 = .ok (.aload_n 0, 1) := by decide +kernel
theorem dX5_isSlab_57 : decode cX5_isSlab 57 = .ok (.getfield 13, 3) := by decide +kernel
theorem dX5_isSlab_60 : decode cX5_isSlab 60 = .ok (.iconst 3, 1) := by decide +kernel
theorem dX5_isSlab_61 : decode cX5_isSlab 61 = .ok (.iaload, 1) := by decide +kernel
theorem dX5_isSlab_62 : decode cX5_isSlab 62 = .ok (.isub, 1) := by decide +kernel
theorem dX5_isSlab_63 : decode cX5_isSlab 63 = .ok (.if_icmp .ne 7, 3) := by decide +kernel
theorem dX5_isSlab_66 : decode cX5_isSlab 66 = .ok (.iconst 1, 1) := by decide +kernel
theorem dX5_isSlab_67 : decode cX5_isSlab 67 = .ok (.goto 4, 3) := by decide +kernel
theorem dX5_isSlab_70 : decode cX5_isSlab 70 = .ok (.iconst 0, 1) := by decide +kernel
theorem dX5_isSlab_71 : decode cX5_isSlab 71 = .ok (.ireturn, 1) := by decide +kernel
set_option maxHeartbeats 4000000 in
set_option maxRecDepth 100000 in
theorem tX5_isSlab (l : Launch) (G : Gg) (b0 : Nat) {K : Kk} {R : Rr} {M : Mm} {r : Nat} {res : Int32} (hm : mX5_isSlab K R M r = some (res)) : CT l G b0 yX5_isSlab cX5_isSlab 1 (some .boolean) (rmz 1 0) [.ref r] K R M (some (.int res)) K R M := by
  refine ct_of (by decide +kernel) (Nat.le_of_ble_eq_true rfl) (fun w hq => ?_)
  have hw := hq.b
  change w 0 0 0 [(0, .ref r)] [] K R M
  replace hm := h_start hm
  unfold mX5_isSlab at hm
  obtain ⟨h1, m15⟩ := h_ck hm
  clear hm
  refine r_aload_n hw dX5_isSlab_0 0 rfl ?_
  refine r_getI hw fO_X5_16 h1 dX5_isSlab_1 ?_
  refine r_iconst (v := 4) hw dX5_isSlab_4 rfl ?_
  refine r_icmp_ne (tgt := 70) hw dX5_isSlab_5 (by decide) (fun c2 => ?_) (fun c2 => ?_)
  · have m16 := h_if_f c2 m15
    clear m15
    refine r_iconst (v := 0) hw dX5_isSlab_70 rfl ?_
    cases h_ret m16
    exact r_zreturn hq isB_0 rfl rfl dX5_isSlab_71
  · have m17 := h_if_t c2 m15
    clear m15
    refine r_aload_n hw dX5_isSlab_8 0 rfl ?_
    obtain ⟨q3, bq3, m18⟩ := h_bd m17
    clear m17
    refine r_getR hw fO_X5_7 h1 bq3 dX5_isSlab_9 ?_
    refine r_iconst (v := 1) hw dX5_isSlab_12 rfl ?_
    obtain ⟨h4, m19⟩ := h_ck m18
    clear m18
    refine r_iaload hw h4 dX5_isSlab_13 ?_
    refine r_aload_n hw dX5_isSlab_14 0 rfl ?_
    refine r_getR hw fO_X5_7 h1 bq3 dX5_isSlab_15 ?_
    refine r_iconst (v := 0) hw dX5_isSlab_18 rfl ?_
    obtain ⟨h5, m20⟩ := h_ck m19
    clear m19
    refine r_iaload hw h5 dX5_isSlab_19 ?_
    refine r_isub hw dX5_isSlab_20 ?_
    refine r_aload_n hw dX5_isSlab_21 0 rfl ?_
    refine r_getR hw fO_X5_7 h1 bq3 dX5_isSlab_22 ?_
    refine r_iconst (v := 2) hw dX5_isSlab_25 rfl ?_
    obtain ⟨h6, m21⟩ := h_ck m20
    clear m20
    refine r_iaload hw h6 dX5_isSlab_26 ?_
    refine r_aload_n hw dX5_isSlab_27 0 rfl ?_
    refine r_getR hw fO_X5_7 h1 bq3 dX5_isSlab_28 ?_
    refine r_iconst (v := 3) hw dX5_isSlab_31 rfl ?_
    obtain ⟨h7, m22⟩ := h_ck m21
    clear m21
    refine r_iaload hw h7 dX5_isSlab_32 ?_
    refine r_isub hw dX5_isSlab_33 ?_
    refine r_icmp_ne (tgt := 70) hw dX5_isSlab_34 (by decide) (fun c8 => ?_) (fun c8 => ?_)
    · have m23 := h_if_f c8 m22
      clear m22
      refine r_iconst (v := 0) hw dX5_isSlab_70 rfl ?_
      cases h_ret m23
      exact r_zreturn hq isB_0 rfl rfl dX5_isSlab_71
    · have m24 := h_if_t c8 m22
      clear m22
      refine r_aload_n hw dX5_isSlab_37 0 rfl ?_
      obtain ⟨q9, bq9, m25⟩ := h_bd m24
      clear m24
      refine r_getR hw fO_X5_13 h1 bq9 dX5_isSlab_38 ?_
      refine r_iconst (v := 1) hw dX5_isSlab_41 rfl ?_
      obtain ⟨h10, m26⟩ := h_ck m25
      clear m25
      refine r_iaload hw h10 dX5_isSlab_42 ?_
      refine r_aload_n hw dX5_isSlab_43 0 rfl ?_
      refine r_getR hw fO_X5_13 h1 bq9 dX5_isSlab_44 ?_
      refine r_iconst (v := 0) hw dX5_isSlab_47 rfl ?_
      obtain ⟨h11, m27⟩ := h_ck m26
      clear m26
      refine r_iaload hw h11 dX5_isSlab_48 ?_
      refine r_isub hw dX5_isSlab_49 ?_
      refine r_aload_n hw dX5_isSlab_50 0 rfl ?_
      refine r_getR hw fO_X5_13 h1 bq9 dX5_isSlab_51 ?_
      refine r_iconst (v := 2) hw dX5_isSlab_54 rfl ?_
      obtain ⟨h12, m28⟩ := h_ck m27
      clear m27
      refine r_iaload hw h12 dX5_isSlab_55 ?_
      refine r_aload_n hw dX5_isSlab_56 0 rfl ?_
      refine r_getR hw fO_X5_13 h1 bq9 dX5_isSlab_57 ?_
      refine r_iconst (v := 3) hw dX5_isSlab_60 rfl ?_
      obtain ⟨h13, m29⟩ := h_ck m28
      clear m28
      refine r_iaload hw h13 dX5_isSlab_61 ?_
      refine r_isub hw dX5_isSlab_62 ?_
      refine r_icmp_ne (tgt := 70) hw dX5_isSlab_63 (by decide) (fun c14 => ?_) (fun c14 => ?_)
      · have m30 := h_if_f c14 m29
        clear m29
        refine r_iconst (v := 0) hw dX5_isSlab_70 rfl ?_
        cases h_ret m30
        exact r_zreturn hq isB_0 rfl rfl dX5_isSlab_71
      · have m31 := h_if_t c14 m29
        clear m29
        refine r_iconst (v := 1) hw dX5_isSlab_66 rfl ?_
        refine r_goto (tgt := 71) hw dX5_isSlab_67 (by decide) ?_
        cases h_ret m31
        exact r_zreturn hq isB_1 rfl rfl dX5_isSlab_71
theorem dX5_goesAlongOrUp_0 : decode cX5_goesAlongOrUp 0 = .ok (.aload_n 0, 1) := by decide +kernel
theorem dX5_goesAlongOrUp_1 : decode cX5_goesAlongOrUp 1 = .ok (.iload_n 1, 1) := by decide +kernel
theorem dX5_goesAlongOrUp_2 : decode cX5_goesAlongOrUp 2 = .ok (.iconst 1, 1) := by decide +kernel
theorem dX5_goesAlongOrUp_3 : decode cX5_goesAlongOrUp 3 = .ok (.iadd, 1) := by decide +kernel
theorem dX5_goesAlongOrUp_4 : decode cX5_goesAlongOrUp 4 = .ok (.invokevirtual 40, 3) := by decide +kernel
theorem dX5_goesAlongOrUp_7 : decode cX5_goesAlongOrUp 7 = .ok (.istore_n 2, 1) := by decide +kernel
theorem dX5_goesAlongOrUp_8 : decode cX5_goesAlongOrUp 8 = .ok (.aload_n 0, 1) := by decide +kernel
theorem dX5_goesAlongOrUp_9 : decode cX5_goesAlongOrUp 9 = .ok (.getfield 7, 3) := by decide +kernel
theorem dX5_goesAlongOrUp_12 : decode cX5_goesAlongOrUp 12 = .ok (.iload_n 1, 1) := by decide +kernel
theorem dX5_goesAlongOrUp_13 : decode cX5_goesAlongOrUp 13 = .ok (.iaload, 1) := by decide +kernel
theorem dX5_goesAlongOrUp_14 : decode cX5_goesAlongOrUp 14 = .ok (.aload_n 0, 1) := by decide +kernel
theorem dX5_goesAlongOrUp_15 : decode cX5_goesAlongOrUp 15 = .ok (.getfield 7, 3) := by decide +kernel
theorem dX5_goesAlongOrUp_18 : decode cX5_goesAlongOrUp 18 = .ok (.iload_n 2, 1) := by decide +kernel
theorem dX5_goesAlongOrUp_19 : decode cX5_goesAlongOrUp 19 = .ok (.iaload, 1) := by decide +kernel
theorem dX5_goesAlongOrUp_20 : decode cX5_goesAlongOrUp 20 = .ok (.if_icmp .eq 18, 3) := by decide +kernel
theorem dX5_goesAlongOrUp_23 : decode cX5_goesAlongOrUp 23 = .ok (.aload_n 0, 1) := by decide +kernel
theorem dX5_goesAlongOrUp_24 : decode cX5_goesAlongOrUp 24 = .ok (.getfield 13, 3) := by decide +kernel
theorem dX5_goesAlongOrUp_27 : decode cX5_goesAlongOrUp 27 = .ok (.iload_n 1, 1) := by decide +kernel
theorem dX5_goesAlongOrUp_28 : decode cX5_goesAlongOrUp 28 = .ok (.iaload, 1) := by decide +kernel
theorem dX5_goesAlongOrUp_29 : decode cX5_goesAlongOrUp 29 = .ok (.aload_n 0, 1) := by decide +kernel
theorem dX5_goesAlongOrUp_30 : decode cX5_goesAlongOrUp 30 = .ok (.getfield 13, 3) := by decide +kernel
theorem dX5_goesAlongOrUp_33 : decode cX5_goesAlongOrUp 33 = .ok (.iload_n 2, 1) := by decide +kernel
theorem dX5_goesAlongOrUp_34 : decode cX5_goesAlongOrUp 34 = .ok (.iaload, 1) := by decide +kernel
theorem dX5_goesAlongOrUp_35 : decode cX5_goesAlongOrUp 35 = .ok (.if_icmp .ne 7, 3) := by decide +kernel
theorem dX5_goesAlongOrUp_38 : decode cX5_goesAlongOrUp 38 = .ok (.iconst 1, 1) := by decide +kernel
theorem dX5_goesAlongOrUp_39 : decode cX5_goesAlongOrUp 39 = .ok (.goto 4, 3) := by decide +kernel
theorem dX5_goesAlongOrUp_42 : decode cX5_goesAlongOrUp 42 = .ok (.iconst 0, 1) := by decide +kernel
theorem dX5_goesAlongOrUp_43 : decode cX5_goesAlongOrUp 43 = .ok (.ireturn, 1) := by decide +kernel
set_option maxHeartbeats 4000000 in
set_option maxRecDepth 100000 in
theorem tX5_goesAlongOrUp (l : Launch) (G : Gg) (b0 : Nat) {K : Kk} {R : Rr} {M : Mm} {r : Nat} {a0 : Int32} {res : Int32} (hm : mX5_goesAlongOrUp K R M r a0 = some (res)) : CT l G b0 yX5_goesAlongOrUp cX5_goesAlongOrUp 3 (some .boolean) (rmz 2 21) [.ref r, .int a0] K R M (some (.int res)) K R M := by
  refine ct_of (by decide +kernel) (Nat.le_of_ble_eq_true rfl) (fun w hq => ?_)
  have hw := hq.b
  change w 0 0 0 [(0, .ref r), (1, .int a0)] [] K R M
  replace hm := h_start hm
  unfold mX5_goesAlongOrUp at hm
  obtain ⟨h1, m11⟩ := h_ck hm
  clear hm
  have J38 : (mX5_goesAlongOrUp_J38 K R M ).bind some = some (res) → w 0 0 38 [] [] K R M := by
    intro  m12
    unfold mX5_goesAlongOrUp_J38 at m12
    refine r_iconst (v := 1) hw dX5_goesAlongOrUp_38 rfl ?_
    refine r_goto (tgt := 43) hw dX5_goesAlongOrUp_39 (by decide) ?_
    cases h_ret m12
    exact r_zreturn hq isB_1 rfl rfl dX5_goesAlongOrUp_43
  refine r_aload_n hw dX5_goesAlongOrUp_0 0 rfl ?_
  refine r_iload_n hw dX5_goesAlongOrUp_1 1 rfl ?_
  refine r_iconst (v := 1) hw dX5_goesAlongOrUp_2 rfl ?_
  refine r_iadd hw dX5_goesAlongOrUp_3 ?_
  obtain ⟨i2, g2, m13⟩ := h_bd m11
  clear m11
  refine r_callV1 hw (tX5_wrap l G b0 g2) lB_X5_wrap lI_X5_wrap mL_X5_40 (c := 5) rfl h1 rfl (Nat.le_of_ble_eq_true rfl) (Nat.le_of_ble_eq_true rfl) rfl (Nat.le_of_ble_eq_true rfl) dX5_goesAlongOrUp_4 ?_
  refine r_istore_n hw dX5_goesAlongOrUp_7 rfl (by decide) rfl ?_
  refine r_aload_n hw dX5_goesAlongOrUp_8 1 rfl ?_
  obtain ⟨q3, bq3, m14⟩ := h_bd m13
  clear m13
  refine r_getR hw fO_X5_7 h1 bq3 dX5_goesAlongOrUp_9 ?_
  refine r_iload_n hw dX5_goesAlongOrUp_12 2 rfl ?_
  obtain ⟨h4, m15⟩ := h_ck m14
  clear m14
  refine r_iaload hw h4 dX5_goesAlongOrUp_13 ?_
  refine r_aload_n hw dX5_goesAlongOrUp_14 1 rfl ?_
  refine r_getR hw fO_X5_7 h1 bq3 dX5_goesAlongOrUp_15 ?_
  refine r_iload_n hw dX5_goesAlongOrUp_18 0 rfl ?_
  obtain ⟨h5, m16⟩ := h_ck m15
  clear m15
  refine r_iaload hw h5 dX5_goesAlongOrUp_19 ?_
  refine r_icmp_eq (tgt := 38) hw dX5_goesAlongOrUp_20 (by decide) (fun c6 => ?_) (fun c6 => ?_)
  · have m17 := h_if_t c6 m16
    clear m16
    refine r_sub hw [] rfl ?_
    exact J38  m17
  · have m18 := h_if_f c6 m16
    clear m16
    refine r_aload_n hw dX5_goesAlongOrUp_23 1 rfl ?_
    obtain ⟨q7, bq7, m19⟩ := h_bd m18
    clear m18
    refine r_getR hw fO_X5_13 h1 bq7 dX5_goesAlongOrUp_24 ?_
    refine r_iload_n hw dX5_goesAlongOrUp_27 2 rfl ?_
    obtain ⟨h8, m20⟩ := h_ck m19
    clear m19
    refine r_iaload hw h8 dX5_goesAlongOrUp_28 ?_
    refine r_aload_n hw dX5_goesAlongOrUp_29 1 rfl ?_
    refine r_getR hw fO_X5_13 h1 bq7 dX5_goesAlongOrUp_30 ?_
    refine r_iload_n hw dX5_goesAlongOrUp_33 0 rfl ?_
    obtain ⟨h9, m21⟩ := h_ck m20
    clear m20
    refine r_iaload hw h9 dX5_goesAlongOrUp_34 ?_
    refine r_icmp_ne (tgt := 42) hw dX5_goesAlongOrUp_35 (by decide) (fun c10 => ?_) (fun c10 => ?_)
    · have m22 := h_if_f c10 m21
      clear m21
      refine r_iconst (v := 0) hw dX5_goesAlongOrUp_42 rfl ?_
      cases h_ret m22
      exact r_zreturn hq isB_0 rfl rfl dX5_goesAlongOrUp_43
    · have m23 := h_if_t c10 m21
      clear m21
      refine r_sub hw [] rfl ?_
      exact J38  m23
theorem dX3_isOfKind_0 : decode cX3_isOfKind 0 = .ok (.iload_n 1, 1) := by decide +kernel
theorem dX3_isOfKind_1 : decode cX3_isOfKind 1 = .ok (.tableswitch 84 0 3 #[31, 33, 38, 46], 31) := by decide +kernel
theorem dX3_isOfKind_32 : decode cX3_isOfKind 32 = .ok (.iconst 1, 1) := by decide +kernel
theorem dX3_isOfKind_33 : decode cX3_isOfKind 33 = .ok (.ireturn, 1) := by decide +kernel
theorem dX3_isOfKind_34 : decode cX3_isOfKind 34 = .ok (.aload_n 0, 1) := by decide +kernel
theorem dX3_isOfKind_35 : decode cX3_isOfKind 35 = .ok (.invokevirtual 49, 3) := by decide +kernel
theorem dX3_isOfKind_38 : decode cX3_isOfKind 38 = .ok (.ireturn, 1) := by decide +kernel
theorem dX3_isOfKind_39 : decode cX3_isOfKind 39 = .ok (.aload_n 0, 1) := by decide +kernel
theorem dX3_isOfKind_40 : decode cX3_isOfKind 40 = .ok (.getfield 14, 3) := by decide +kernel
theorem dX3_isOfKind_43 : decode cX3_isOfKind 43 = .ok (.invokevirtual 53, 3) := by decide +kernel
theorem dX3_isOfKind_46 : decode cX3_isOfKind 46 = .ok (.ireturn, 1) := by decide +kernel
theorem dX3_isOfKind_47 : decode cX3_isOfKind 47 = .ok (.aload_n 0, 1) := by decide +kernel
theorem dX3_isOfKind_48 : decode cX3_isOfKind 48 = .ok (.getfield 14, 3) := by decide +kernel
theorem dX3_isOfKind_51 : decode cX3_isOfKind 51 = .ok (.invokevirtual 53, 3) := by decide +kernel
theorem dX3_isOfKind_54 : decode cX3_isOfKind 54 = .ok (.ifCond .eq 29, 3) := by decide +kernel
theorem dX3_isOfKind_57 : decode cX3_isOfKind 57 = .ok (.aload_n 0, 1) := by decide +kernel
theorem dX3_isOfKind_58 : decode cX3_isOfKind 58 = .ok (.getfield 14, 3) := by decide +kernel
theorem dX3_isOfKind_61 : decode cX3_isOfKind 61 = .ok (.iconst 0, 1) := by decide +kernel
theorem dX3_isOfKind_62 : decode cX3_isOfKind 62 = .ok (.invokevirtual 56, 3) := by decide +kernel
theorem dX3_isOfKind_65 : decode cX3_isOfKind 65 = .ok (.ifCond .eq 18, 3) := by decide +kernel
theorem dX3_isOfKind_68 : decode cX3_isOfKind 68 = .ok (.aload_n 0, 1) := by decide +kernel
theorem dX3_isOfKind_69 : decode cX3_isOfKind 69 = .ok (.getfield 14, 3) := by decide +kernel
theorem dX3_isOfKind_72 : decode cX3_isOfKind 72 = .ok (.iconst 1, 1) := by decide +kernel
theorem dX3_isOfKind_73 : decode cX3_isOfKind 73 = .ok (.invokevirtual 56, 3) := by decide +kernel
theorem dX3_isOfKind_76 : decode cX3_isOfKind 76 = .ok (.ifCond .eq 7, 3) := by decide +kernel
theorem dX3_isOfKind_79 : decode cX3_isOfKind 79 = .ok (.iconst 1, 1) := by decide +kernel
theorem dX3_isOfKind_80 : decode cX3_isOfKind 80 = .ok (.goto 4, 3) := by decide +kernel
theorem dX3_isOfKind_83 : decode cX3_isOfKind 83 = .ok (.iconst 0, 1) := by decide +kernel
theorem dX3_isOfKind_84 : decode cX3_isOfKind 84 = .ok (.ireturn, 1) := by decide +kernel
theorem dX3_isOfKind_85 : decode cX3_isOfKind 85 = .ok (.aload_n 0, 1) := by decide +kernel
theorem dX3_isOfKind_86 : decode cX3_isOfKind 86 = .ok (.invokevirtual 49, 3) := by decide +kernel
theorem dX3_isOfKind_89 : decode cX3_isOfKind 89 = .ok (.ifCond .eq 14, 3) := by decide +kernel
theorem dX3_isOfKind_92 : decode cX3_isOfKind 92 = .ok (.aload_n 0, 1) := by decide +kernel
theorem dX3_isOfKind_93 : decode cX3_isOfKind 93 = .ok (.getfield 38, 3) := by decide +kernel
theorem dX3_isOfKind_96 : decode cX3_isOfKind 96 = .ok (.ifCond .eq 7, 3) := by decide +kernel
theorem dX3_isOfKind_99 : decode cX3_isOfKind 99 = .ok (.iconst 1, 1) := by decide +kernel
theorem dX3_isOfKind_100 : decode cX3_isOfKind 100 = .ok (.goto 4, 3) := by decide +kernel
theorem dX3_isOfKind_103 : decode cX3_isOfKind 103 = .ok (.iconst 0, 1) := by decide +kernel
theorem dX3_isOfKind_104 : decode cX3_isOfKind 104 = .ok (.ireturn, 1) := by decide +kernel
set_option maxHeartbeats 4000000 in
set_option maxRecDepth 100000 in
theorem tX3_isOfKind (l : Launch) (G : Gg) (b0 : Nat) {K : Kk} {R : Rr} {M : Mm} {r : Nat} {a0 : Int32} {res : Int32} (hm : mX3_isOfKind K R M r a0 = some (res)) : CT l G b0 yX3_isOfKind cX3_isOfKind 2 (some .boolean) (rmz 3 43) [.ref r, .int a0] K R M (some (.int res)) K R M := by
  refine ct_of (by decide +kernel) (Nat.le_of_ble_eq_true rfl) (fun w hq => ?_)
  have hw := hq.b
  change w 0 0 0 [(0, .ref r), (1, .int a0)] [] K R M
  replace hm := h_start hm
  unfold mX3_isOfKind at hm
  obtain ⟨h1, m23⟩ := h_ck hm
  clear hm
  refine r_iload_n hw dX3_isOfKind_0 1 rfl ?_
  by_cases c2 : a0 = 0
  · have m24 := h_if_t c2 m23
    clear m23
    rw [c2]
    refine r_tabIn (tgt := 32) hw dX3_isOfKind_1 (by decide) (by decide) rfl (by decide) ?_
    refine r_iconst (v := 1) hw dX3_isOfKind_32 rfl ?_
    cases h_ret m24
    exact r_zreturn hq isB_1 rfl rfl dX3_isOfKind_33
  have m25 := h_if_f c2 m23
  clear m23
  by_cases c3 : a0 = 1
  · have m26 := h_if_t c3 m25
    clear m25
    rw [c3]
    refine r_tabIn (tgt := 34) hw dX3_isOfKind_1 (by decide) (by decide) rfl (by decide) ?_
    refine r_aload_n hw dX3_isOfKind_34 0 rfl ?_
    obtain ⟨i4, g4, m27⟩ := h_bd m26
    clear m26
    refine r_callV1 hw (tX3_isTriangle l G b0 g4) lB_X3_isTriangle lI_X3_isTriangle mL_X3_49 (c := 3) rfl h1 rfl (Nat.le_of_ble_eq_true rfl) (Nat.le_of_ble_eq_true rfl) rfl (Nat.le_of_ble_eq_true rfl) dX3_isOfKind_35 ?_
    obtain ⟨h5, m28⟩ := h_ck m27
    clear m27
    cases h_ret m28
    exact r_zreturn hq h5 rfl rfl dX3_isOfKind_38
  have m29 := h_if_f c3 m25
  clear m25
  by_cases c6 : a0 = 2
  · have m30 := h_if_t c6 m29
    clear m29
    rw [c6]
    refine r_tabIn (tgt := 39) hw dX3_isOfKind_1 (by decide) (by decide) rfl (by decide) ?_
    refine r_aload_n hw dX3_isOfKind_39 0 rfl ?_
    obtain ⟨q7, bq7, m31⟩ := h_bd m30
    clear m30
    refine r_getR hw fO_X3_14 h1 bq7 dX3_isOfKind_40 ?_
    obtain ⟨h9, m32⟩ := h_ck m31
    clear m31
    obtain ⟨i8, g8, m33⟩ := h_bd m32
    clear m32
    refine r_callV1 hw (tX5_isSlab l G b0 g8) lB_X5_isSlab lI_X5_isSlab mL_X3_53 (c := 5) rfl h9 rfl (Nat.le_of_ble_eq_true rfl) (Nat.le_of_ble_eq_true rfl) rfl (Nat.le_of_ble_eq_true rfl) dX3_isOfKind_43 ?_
    obtain ⟨h10, m34⟩ := h_ck m33
    clear m33
    cases h_ret m34
    exact r_zreturn hq h10 rfl rfl dX3_isOfKind_46
  have m35 := h_if_f c6 m29
  clear m29
  by_cases c11 : a0 = 3
  · have m36 := h_if_t c11 m35
    clear m35
    rw [c11]
    refine r_tabIn (tgt := 47) hw dX3_isOfKind_1 (by decide) (by decide) rfl (by decide) ?_
    refine r_aload_n hw dX3_isOfKind_47 0 rfl ?_
    obtain ⟨q12, bq12, m37⟩ := h_bd m36
    clear m36
    refine r_getR hw fO_X3_14 h1 bq12 dX3_isOfKind_48 ?_
    obtain ⟨h14, m38⟩ := h_ck m37
    clear m37
    obtain ⟨i13, g13, m39⟩ := h_bd m38
    clear m38
    refine r_callV1 hw (tX5_isSlab l G b0 g13) lB_X5_isSlab lI_X5_isSlab mL_X3_53 (c := 5) rfl h14 rfl (Nat.le_of_ble_eq_true rfl) (Nat.le_of_ble_eq_true rfl) rfl (Nat.le_of_ble_eq_true rfl) dX3_isOfKind_51 ?_
    refine r_if_eq (tgt := 83) hw dX3_isOfKind_54 (by decide) (fun c15 => ?_) (fun c15 => ?_)
    · have m40 := h_if_t c15 m39
      clear m39
      refine r_iconst (v := 0) hw dX3_isOfKind_83 rfl ?_
      cases h_ret m40
      exact r_zreturn hq isB_0 rfl rfl dX3_isOfKind_84
    · have m41 := h_if_f c15 m39
      clear m39
      refine r_aload_n hw dX3_isOfKind_57 0 rfl ?_
      refine r_getR hw fO_X3_14 h1 bq12 dX3_isOfKind_58 ?_
      refine r_iconst (v := 0) hw dX3_isOfKind_61 rfl ?_
      obtain ⟨i16, g16, m42⟩ := h_bd m41
      clear m41
      refine r_callV1 hw (tX5_goesAlongOrUp l G b0 g16) lB_X5_goesAlongOrUp lI_X5_goesAlongOrUp mL_X3_56 (c := 5) rfl h14 rfl (Nat.le_of_ble_eq_true rfl) (Nat.le_of_ble_eq_true rfl) rfl (Nat.le_of_ble_eq_true rfl) dX3_isOfKind_62 ?_
      refine r_if_eq (tgt := 83) hw dX3_isOfKind_65 (by decide) (fun c17 => ?_) (fun c17 => ?_)
      · have m43 := h_if_t c17 m42
        clear m42
        refine r_iconst (v := 0) hw dX3_isOfKind_83 rfl ?_
        cases h_ret m43
        exact r_zreturn hq isB_0 rfl rfl dX3_isOfKind_84
      · have m44 := h_if_f c17 m42
        clear m42
        refine r_aload_n hw dX3_isOfKind_68 0 rfl ?_
        refine r_getR hw fO_X3_14 h1 bq12 dX3_isOfKind_69 ?_
        refine r_iconst (v := 1) hw dX3_isOfKind_72 rfl ?_
        obtain ⟨i18, g18, m45⟩ := h_bd m44
        clear m44
        refine r_callV1 hw (tX5_goesAlongOrUp l G b0 g18) lB_X5_goesAlongOrUp lI_X5_goesAlongOrUp mL_X3_56 (c := 5) rfl h14 rfl (Nat.le_of_ble_eq_true rfl) (Nat.le_of_ble_eq_true rfl) rfl (Nat.le_of_ble_eq_true rfl) dX3_isOfKind_73 ?_
        refine r_if_eq (tgt := 83) hw dX3_isOfKind_76 (by decide) (fun c19 => ?_) (fun c19 => ?_)
        · have m46 := h_if_t c19 m45
          clear m45
          refine r_iconst (v := 0) hw dX3_isOfKind_83 rfl ?_
          cases h_ret m46
          exact r_zreturn hq isB_0 rfl rfl dX3_isOfKind_84
        · have m47 := h_if_f c19 m45
          clear m45
          refine r_iconst (v := 1) hw dX3_isOfKind_79 rfl ?_
          refine r_goto (tgt := 84) hw dX3_isOfKind_80 (by decide) ?_
          cases h_ret m47
          exact r_zreturn hq isB_1 rfl rfl dX3_isOfKind_84
  have m48 := h_if_f c11 m35
  clear m35
  refine r_tabOut (tgt := 85) hw dX3_isOfKind_1 (sw_out 4 (by decide) (fun j hj => by match j, hj with | 0, _ => exact c2 | 1, _ => exact c3 | 2, _ => exact c6 | 3, _ => exact c11)) (by decide) ?_
  refine r_aload_n hw dX3_isOfKind_85 0 rfl ?_
  obtain ⟨i20, g20, m49⟩ := h_bd m48
  clear m48
  refine r_callV1 hw (tX3_isTriangle l G b0 g20) lB_X3_isTriangle lI_X3_isTriangle mL_X3_49 (c := 3) rfl h1 rfl (Nat.le_of_ble_eq_true rfl) (Nat.le_of_ble_eq_true rfl) rfl (Nat.le_of_ble_eq_true rfl) dX3_isOfKind_86 ?_
  refine r_if_eq (tgt := 103) hw dX3_isOfKind_89 (by decide) (fun c21 => ?_) (fun c21 => ?_)
  · have m50 := h_if_t c21 m49
    clear m49
    refine r_iconst (v := 0) hw dX3_isOfKind_103 rfl ?_
    cases h_ret m50
    exact r_zreturn hq isB_0 rfl rfl dX3_isOfKind_104
  · have m51 := h_if_f c21 m49
    clear m49
    refine r_aload_n hw dX3_isOfKind_92 0 rfl ?_
    refine r_getI hw fO_X3_38 h1 dX3_isOfKind_93 ?_
    refine r_if_eq (tgt := 103) hw dX3_isOfKind_96 (by decide) (fun c22 => ?_) (fun c22 => ?_)
    · have m52 := h_if_t c22 m51
      clear m51
      refine r_iconst (v := 0) hw dX3_isOfKind_103 rfl ?_
      cases h_ret m52
      exact r_zreturn hq isB_0 rfl rfl dX3_isOfKind_104
    · have m53 := h_if_f c22 m51
      clear m51
      refine r_iconst (v := 1) hw dX3_isOfKind_99 rfl ?_
      refine r_goto (tgt := 104) hw dX3_isOfKind_100 (by decide) ?_
      cases h_ret m53
      exact r_zreturn hq isB_1 rfl rfl dX3_isOfKind_104
theorem dX4_add_0 : decode cX4_add 0 = .ok (.aload_n 0, 1) := by decide +kernel
theorem dX4_add_1 : decode cX4_add 1 = .ok (.getfield 18, 3) := by decide +kernel
theorem dX4_add_4 : decode cX4_add 4 = .ok (.bipush 40, 2) := by decide +kernel
theorem dX4_add_6 : decode cX4_add 6 = .ok (.if_icmp .ge 26, 3) := by decide +kernel
theorem dX4_add_9 : decode cX4_add 9 = .ok (.aload_n 0, 1) := by decide +kernel
theorem dX4_add_10 : decode cX4_add 10 = .ok (.getfield 11, 3) := by decide +kernel
theorem dX4_add_13 : decode cX4_add 13 = .ok (.aload_n 0, 1) := by decide +kernel
theorem dX4_add_14 : decode cX4_add 14 = .ok (.getfield 18, 3) := by decide +kernel
theorem dX4_add_17 : decode cX4_add 17 = .ok (.aaload, 1) := by decide +kernel
theorem dX4_add_18 : decode cX4_add 18 = .ok (.aload_n 1, 1) := by decide +kernel
theorem dX4_add_19 : decode cX4_add 19 = .ok (.invokevirtual 22, 3) := by decide +kernel
theorem dX4_add_22 : decode cX4_add 22 = .ok (.aload_n 0, 1) := by decide +kernel
theorem dX4_add_23 : decode cX4_add 23 = .ok (.dup, 1) := by decide +kernel
theorem dX4_add_24 : decode cX4_add 24 = .ok (.getfield 18, 3) := by decide +kernel
theorem dX4_add_27 : decode cX4_add 27 = .ok (.iconst 1, 1) := by decide +kernel
theorem dX4_add_28 : decode cX4_add 28 = .ok (.iadd, 1) := by decide +kernel
theorem dX4_add_29 : decode cX4_add 29 = .ok (.putfield 18, 3) := by decide +kernel
theorem dX4_add_32 : decode cX4_add 32 = .ok (.return_, 1) := by decide +kernel
set_option maxHeartbeats 4000000 in
set_option maxRecDepth 100000 in
theorem tX4_add (l : Launch) (G : Gg) (b0 : Nat) {K : Kk} {R : Rr} {M : Mm} {r : Nat} {a0 : Nat} {M' : Mm} (hm : mX4_add K R M r a0 = some (M')) : CT l G b0 yX4_add cX4_add 2 none (rmz 4 90) [.ref r, .ref a0] K R M none K R M' := by
  refine ct_of (by decide +kernel) (Nat.le_of_ble_eq_true rfl) (fun w hq => ?_)
  have hw := hq.b
  change w 0 0 0 [(0, .ref r), (1, .ref a0)] [] K R M
  replace hm := h_start hm
  unfold mX4_add at hm
  obtain ⟨h1, m10⟩ := h_ck hm
  clear hm
  obtain ⟨h2, m11⟩ := h_ck m10
  clear m10
  refine r_aload_n hw dX4_add_0 0 rfl ?_
  refine r_getI hw fO_X4_18 h1 dX4_add_1 ?_
  refine r_bipush (v := 40) hw dX4_add_4 rfl ?_
  refine r_icmp_ge (tgt := 32) hw dX4_add_6 (by decide) (fun c3 => ?_) (fun c3 => ?_)
  · have m12 := h_if_f c3 m11
    clear m11
    cases h_ret m12
    exact r_return hq rfl rfl dX4_add_32
  · have m13 := h_if_t c3 m11
    clear m11
    refine r_aload_n hw dX4_add_9 0 rfl ?_
    obtain ⟨q4, bq4, m14⟩ := h_bd m13
    clear m13
    refine r_getR hw fO_X4_11 h1 bq4 dX4_add_10 ?_
    refine r_aload_n hw dX4_add_13 0 rfl ?_
    refine r_getI hw fO_X4_18 h1 dX4_add_14 ?_
    obtain ⟨h5, m15⟩ := h_ck m14
    clear m14
    obtain ⟨q6, bq6, m16⟩ := h_bd m15
    clear m15
    refine r_aaload hw 2 (by decide) h5 bq6 dX4_add_17 ?_
    refine r_aload_n hw dX4_add_18 1 rfl ?_
    obtain ⟨h8, m17⟩ := h_ck m16
    clear m16
    obtain ⟨M7, g7, m18⟩ := h_bd m17
    clear m17
    refine r_callV0 hw (tX3_take l G b0 g7) lB_X3_take lI_X3_take mL_X4_22 (c := 3) rfl h8 rfl (Nat.le_of_ble_eq_true rfl) (Nat.le_of_ble_eq_true rfl) rfl (Nat.le_of_ble_eq_true rfl) dX4_add_19 ?_
    refine r_aload_n hw dX4_add_22 0 rfl ?_
    refine r_dup hw dX4_add_23 rfl ?_
    refine r_getI hw fO_X4_18 h1 dX4_add_24 ?_
    refine r_iconst (v := 1) hw dX4_add_27 rfl ?_
    refine r_iadd hw dX4_add_28 ?_
    obtain ⟨M9, eM9, m19⟩ := h_nm m18
    clear m18
    refine r_putI hw fP_X4_18 h1 dX4_add_29 (r_mem ?_ rfl eM9)
    cases h_ret m19
    exact r_return hq rfl rfl dX4_add_32
theorem dX4_remove_0 : decode cX4_remove 0 = .ok (.iload_n 1, 1) := by decide +kernel
theorem dX4_remove_1 : decode cX4_remove 1 = .ok (.istore_n 2, 1) := by decide +kernel
theorem dX4_remove_2 : decode cX4_remove 2 = .ok (.iload_n 2, 1) := by decide +kernel
theorem dX4_remove_3 : decode cX4_remove 3 = .ok (.aload_n 0, 1) := by decide +kernel
theorem dX4_remove_4 : decode cX4_remove 4 = .ok (.getfield 18, 3) := by decide +kernel
theorem dX4_remove_7 : decode cX4_remove 7 = .ok (.iconst 1, 1) := by decide +kernel
theorem dX4_remove_8 : decode cX4_remove 8 = .ok (.isub, 1) := by decide +kernel
theorem dX4_remove_9 : decode cX4_remove 9 = .ok (.if_icmp .ge 26, 3) := by decide +kernel
theorem dX4_remove_12 : decode cX4_remove 12 = .ok (.aload_n 0, 1) := by decide +kernel
theorem dX4_remove_13 : decode cX4_remove 13 = .ok (.getfield 11, 3) := by decide +kernel
theorem dX4_remove_16 : decode cX4_remove 16 = .ok (.iload_n 2, 1) := by decide +kernel
theorem dX4_remove_17 : decode cX4_remove 17 = .ok (.aaload, 1) := by decide +kernel
theorem dX4_remove_18 : decode cX4_remove 18 = .ok (.aload_n 0, 1) := by decide +kernel
theorem dX4_remove_19 : decode cX4_remove 19 = .ok (.getfield 11, 3) := by decide +kernel
theorem dX4_remove_22 : decode cX4_remove 22 = .ok (.iload_n 2, 1) := by decide +kernel
theorem dX4_remove_23 : decode cX4_remove 23 = .ok (.iconst 1, 1) := by decide +kernel
theorem dX4_remove_24 : decode cX4_remove 24 = .ok (.iadd, 1) := by decide +kernel
theorem dX4_remove_25 : decode cX4_remove 25 = .ok (.aaload, 1) := by decide +kernel
theorem dX4_remove_26 : decode cX4_remove 26 = .ok (.invokevirtual 22, 3) := by decide +kernel
theorem dX4_remove_29 : decode cX4_remove 29 = .ok (.iinc 2 1, 3) := by decide +kernel
theorem dX4_remove_32 : decode cX4_remove 32 = .ok (.goto (-30), 3) := by decide +kernel
theorem dX4_remove_35 : decode cX4_remove 35 = .ok (.aload_n 0, 1) := by decide +kernel
theorem dX4_remove_36 : decode cX4_remove 36 = .ok (.dup, 1) := by decide +kernel
theorem dX4_remove_37 : decode cX4_remove 37 = .ok (.getfield 18, 3) := by decide +kernel
theorem dX4_remove_40 : decode cX4_remove 40 = .ok (.iconst 1, 1) := by decide +kernel
theorem dX4_remove_41 : decode cX4_remove 41 = .ok (.isub, 1) := by decide +kernel
theorem dX4_remove_42 : decode cX4_remove 42 = .ok (.putfield 18, 3) := by decide +kernel
theorem dX4_remove_45 : decode cX4_remove 45 = .ok (.return_, 1) := by decide +kernel
set_option maxHeartbeats 4000000 in
set_option maxRecDepth 100000 in
theorem tX4_remove (l : Launch) (G : Gg) (b0 : Nat) {K : Kk} {R : Rr} {M : Mm} {r : Nat} {a0 : Int32} {M' : Mm} (hm : mX4_remove K R M r a0 = some (M')) : CT l G b0 yX4_remove cX4_remove 3 none (rmz 4 90) [.ref r, .int a0] K R M none K R M' := by
  refine ct_of (by decide +kernel) (Nat.le_of_ble_eq_true rfl) (fun w hq => ?_)
  have hw := hq.b
  change w 0 0 0 [(0, .ref r), (1, .int a0)] [] K R M
  replace hm := h_start hm
  unfold mX4_remove at hm
  obtain ⟨h1, m14⟩ := h_ck hm
  clear hm
  refine r_iload_n hw dX4_remove_0 1 rfl ?_
  refine r_istore_n hw dX4_remove_1 rfl (by decide) rfl ?_
  refine r_sub hw [1, 0] rfl ?_
  obtain ⟨v2, n02, hn2, hv2⟩ := h_lp m14
  clear m14
  have L2 : ∀ n : Nat, ∀ (i2 : Int32) (M3 : Mm), it (mX4_remove_L2 K R r) n (i2, M3) = some v2 → w 0 0 2 [(0, .ref r), (2, .int i2)] [] K R M3 := by
    intro n2
    induction n2 with
    | zero => intro i2 M3 hz; exact absurd hz h_it0
    | succ n2 ih2 =>
      intro i2 M3 m15
      replace m15 : (mX4_remove_B2 K R r i2 M3).bind (Sum.elim (it (mX4_remove_L2 K R r) n2) some) = some v2 := m15
      unfold mX4_remove_B2 at m15
      refine r_iload_n hw dX4_remove_2 1 rfl ?_
      refine r_aload_n hw dX4_remove_3 0 rfl ?_
      refine r_getI hw fO_X4_18 h1 dX4_remove_4 ?_
      refine r_iconst (v := 1) hw dX4_remove_7 rfl ?_
      refine r_isub hw dX4_remove_8 ?_
      refine r_icmp_ge (tgt := 35) hw dX4_remove_9 (by decide) (fun c4 => ?_) (fun c4 => ?_)
      · have m16 := h_if_f c4 m15
        clear m15
        have m17 := h_ex m16 hv2
        clear m16
        refine r_aload_n hw dX4_remove_35 0 rfl ?_
        refine r_dup hw dX4_remove_36 rfl ?_
        refine r_getI hw fO_X4_18 h1 dX4_remove_37 ?_
        refine r_iconst (v := 1) hw dX4_remove_40 rfl ?_
        refine r_isub hw dX4_remove_41 ?_
        obtain ⟨M5, eM5, m18⟩ := h_nm m17
        clear m17
        refine r_putI hw fP_X4_18 h1 dX4_remove_42 (r_mem ?_ rfl eM5)
        cases h_ret m18
        exact r_return hq rfl rfl dX4_remove_45
      · have m19 := h_if_t c4 m15
        clear m15
        refine r_aload_n hw dX4_remove_12 0 rfl ?_
        obtain ⟨q6, bq6, m20⟩ := h_bd m19
        clear m19
        refine r_getR hw fO_X4_11 h1 bq6 dX4_remove_13 ?_
        refine r_iload_n hw dX4_remove_16 1 rfl ?_
        obtain ⟨h7, m21⟩ := h_ck m20
        clear m20
        obtain ⟨q8, bq8, m22⟩ := h_bd m21
        clear m21
        refine r_aaload hw 2 (by decide) h7 bq8 dX4_remove_17 ?_
        refine r_aload_n hw dX4_remove_18 0 rfl ?_
        refine r_getR hw fO_X4_11 h1 bq6 dX4_remove_19 ?_
        refine r_iload_n hw dX4_remove_22 1 rfl ?_
        refine r_iconst (v := 1) hw dX4_remove_23 rfl ?_
        refine r_iadd hw dX4_remove_24 ?_
        obtain ⟨h9, m23⟩ := h_ck m22
        clear m22
        obtain ⟨q10, bq10, m24⟩ := h_bd m23
        clear m23
        refine r_aaload hw 2 (by decide) h9 bq10 dX4_remove_25 ?_
        obtain ⟨h12, m25⟩ := h_ck m24
        clear m24
        obtain ⟨M11, g11, m26⟩ := h_bd m25
        clear m25
        refine r_callV0 hw (tX3_take l G b0 g11) lB_X3_take lI_X3_take mL_X4_22 (c := 3) rfl h12 rfl (Nat.le_of_ble_eq_true rfl) (Nat.le_of_ble_eq_true rfl) rfl (Nat.le_of_ble_eq_true rfl) dX4_remove_26 ?_
        obtain ⟨i13, ei13, m27⟩ := h_nm m26
        clear m26
        refine r_iinc (j := 1) (v := i13) hw dX4_remove_29 rfl (by rw [ei13]; rfl) (by decide) rfl ?_
        refine r_goto (tgt := 2) hw dX4_remove_32 (by decide) ?_
        refine r_sub hw [1, 0] rfl ?_
        exact ih2 _ _ m27
  exact L2 n02 _ _ hn2
theorem dX5_twiceArea_0 : decode cX5_twiceArea 0 = .ok (.lconst 0, 1) := by decide +kernel
theorem dX5_twiceArea_1 : decode cX5_twiceArea 1 = .ok (.lstore_n 1, 1) := by decide +kernel
theorem dX5_twiceArea_2 : decode cX5_twiceArea 2 = .ok (.iconst 0, 1) := by decide +kernel
theorem dX5_twiceArea_3 : decode cX5_twiceArea 3 = .ok (.istore_n 3, 1) := by decide +kernel
theorem dX5_twiceArea_4 : decode cX5_twiceArea 4 = .ok (.iload_n 3, 1) := by decide +kernel
theorem dX5_twiceArea_5 : decode cX5_twiceArea 5 = .ok (.aload_n 0, 1) := by decide +kernel
theorem dX5_twiceArea_6 : decode cX5_twiceArea 6 = .ok (.getfield 16, 3) := by decide +kernel
theorem dX5_twiceArea_9 : decode cX5_twiceArea 9 = .ok (.if_icmp .ge 54, 3) := by decide +kernel
theorem dX5_twiceArea_12 : decode cX5_twiceArea 12 = .ok (.aload_n 0, 1) := by decide +kernel
theorem dX5_twiceArea_13 : decode cX5_twiceArea 13 = .ok (.iload_n 3, 1) := by decide +kernel
theorem dX5_twiceArea_14 : decode cX5_twiceArea 14 = .ok (.iconst 1, 1) := by decide +kernel
theorem dX5_twiceArea_15 : decode cX5_twiceArea 15 = .ok (.iadd, 1) := by decide +kernel
theorem dX5_twiceArea_16 : decode cX5_twiceArea 16 = .ok (.invokevirtual 40, 3) := by decide +kernel
theorem dX5_twiceArea_19 : decode cX5_twiceArea 19 = .ok (.istore 4, 2) := by decide +kernel
theorem dX5_twiceArea_21 : decode cX5_twiceArea 21 = .ok (.lload_n 1, 1) := by decide +kernel
theorem dX5_twiceArea_22 : decode cX5_twiceArea 22 = .ok (.aload_n 0, 1) := by decide +kernel
theorem dX5_twiceArea_23 : decode cX5_twiceArea 23 = .ok (.getfield 7, 3) := by decide +kernel
theorem dX5_twiceArea_26 : decode cX5_twiceArea 26 = .ok (.iload_n 3, 1) := by decide +kernel
theorem dX5_twiceArea_27 : decode cX5_twiceArea 27 = .ok (.iaload, 1) := by decide +kernel
theorem dX5_twiceArea_28 : decode cX5_twiceArea 28 = .ok (.i2l, 1) := by decide +kernel
theorem dX5_twiceArea_29 : decode cX5_twiceArea 29 = .ok (.aload_n 0, 1) := by decide +kernel
theorem dX5_twiceArea_30 : decode cX5_twiceArea 30 = .ok (.getfield 13, 3) := by decide +kernel
theorem dX5_twiceArea_33 : decode cX5_twiceArea 33 = .ok (.iload 4, 2) := by decide +kernel
theorem dX5_twiceArea_35 : decode cX5_twiceArea 35 = .ok (.iaload, 1) := by decide +kernel
theorem dX5_twiceArea_36 : decode cX5_twiceArea 36 = .ok (.i2l, 1) := by decide +kernel
theorem dX5_twiceArea_37 : decode cX5_twiceArea 37 = .ok (.lmul, 1) := by decide +kernel
theorem dX5_twiceArea_38 : decode cX5_twiceArea 38 = .ok (.aload_n 0, 1) := by decide +kernel
theorem dX5_twiceArea_39 : decode cX5_twiceArea 39 = .ok (.getfield 7, 3) := by decide +kernel
theorem dX5_twiceArea_42 : decode cX5_twiceArea 42 = .ok (.iload 4, 2) := by decide +kernel
theorem dX5_twiceArea_44 : decode cX5_twiceArea 44 = .ok (.iaload, 1) := by decide +kernel
theorem dX5_twiceArea_45 : decode cX5_twiceArea 45 = .ok (.i2l, 1) := by decide +kernel
theorem dX5_twiceArea_46 : decode cX5_twiceArea 46 = .ok (.aload_n 0, 1) := by decide +kernel
theorem dX5_twiceArea_47 : decode cX5_twiceArea 47 = .ok (.getfield 13, 3) := by decide +kernel
theorem dX5_twiceArea_50 : decode cX5_twiceArea 50 = .ok (.iload_n 3, 1) := by decide +kernel
theorem dX5_twiceArea_51 : decode cX5_twiceArea 51 = .ok (.iaload, 1) := by decide +kernel
theorem dX5_twiceArea_52 : decode cX5_twiceArea 52 = .ok (.i2l, 1) := by decide +kernel
theorem dX5_twiceArea_53 : decode cX5_twiceArea 53 = .ok (.lmul, 1) := by decide +kernel
theorem dX5_twiceArea_54 : decode cX5_twiceArea 54 = .ok (.lsub, 1) := by decide +kernel
theorem dX5_twiceArea_55 : decode cX5_twiceArea 55 = .ok (.ladd, 1) := by decide +kernel
theorem dX5_twiceArea_56 : decode cX5_twiceArea 56 = .ok (.lstore_n 1, 1) := by decide +kernel
theorem dX5_twiceArea_57 : decode cX5_twiceArea 57 = .ok (.iinc 3 1, 3) := by decide +kernel
theorem dX5_twiceArea_60 : decode cX5_twiceArea 60 = .ok (.goto (-56), 3) := by decide +kernel
theorem dX5_twiceArea_63 : decode cX5_twiceArea 63 = .ok (.lload_n 1, 1) := by decide +kernel
theorem dX5_twiceArea_64 : decode cX5_twiceArea 64 = .ok (.lreturn, 1) := by decide +kernel
set_option maxHeartbeats 4000000 in
set_option maxRecDepth 100000 in
theorem tX5_twiceArea (l : Launch) (G : Gg) (b0 : Nat) {K : Kk} {R : Rr} {M : Mm} {r : Nat} {res : Int64} (hm : mX5_twiceArea K R M r = some (res)) : CT l G b0 yX5_twiceArea cX5_twiceArea 5 (some .long) (rmz 2 21) [.ref r] K R M (some (.long res)) K R M := by
  refine ct_of (by decide +kernel) (Nat.le_of_ble_eq_true rfl) (fun w hq => ?_)
  have hw := hq.b
  change w 0 0 0 [(0, .ref r)] [] K R M
  replace hm := h_start hm
  unfold mX5_twiceArea at hm
  obtain ⟨h1, m16⟩ := h_ck hm
  clear hm
  refine r_lconst (v := 0) hw dX5_twiceArea_0 rfl ?_
  obtain ⟨l2, el2, m17⟩ := h_nm m16
  clear m16
  refine r_topL (w := w) el2 ?_
  refine r_lstore_n hw dX5_twiceArea_1 rfl (by decide) rfl ?_
  refine r_iconst (v := 0) hw dX5_twiceArea_2 rfl ?_
  obtain ⟨i3, ei3, m18⟩ := h_nm m17
  clear m17
  refine r_topI (w := w) ei3 ?_
  refine r_istore_n hw dX5_twiceArea_3 rfl (by decide) rfl ?_
  refine r_sub hw [2, 1, 0] rfl ?_
  obtain ⟨v4, n04, hn4, hv4⟩ := h_lp m18
  clear m18
  have L4 : ∀ n : Nat, ∀ (l4 : Int64) (i5 : Int32), it (mX5_twiceArea_L4 K R M r) n (l4, i5) = some v4 → w 0 0 4 [(0, .ref r), (1, .long l4), (3, .int i5)] [] K R M := by
    intro n4
    induction n4 with
    | zero => intro l4 i5 hz; exact absurd hz h_it0
    | succ n4 ih4 =>
      intro l4 i5 m19
      replace m19 : (mX5_twiceArea_B4 K R M r l4 i5).bind (Sum.elim (it (mX5_twiceArea_L4 K R M r) n4) some) = some v4 := m19
      unfold mX5_twiceArea_B4 at m19
      refine r_iload_n hw dX5_twiceArea_4 2 rfl ?_
      refine r_aload_n hw dX5_twiceArea_5 0 rfl ?_
      refine r_getI hw fO_X5_16 h1 dX5_twiceArea_6 ?_
      refine r_icmp_ge (tgt := 63) hw dX5_twiceArea_9 (by decide) (fun c6 => ?_) (fun c6 => ?_)
      · have m20 := h_if_f c6 m19
        clear m19
        have m21 := h_ex m20 hv4
        clear m20
        refine r_lload_n hw dX5_twiceArea_63 1 rfl ?_
        cases h_ret m21
        exact r_lreturn hq rfl rfl dX5_twiceArea_64
      · have m22 := h_if_t c6 m19
        clear m19
        refine r_aload_n hw dX5_twiceArea_12 0 rfl ?_
        refine r_iload_n hw dX5_twiceArea_13 2 rfl ?_
        refine r_iconst (v := 1) hw dX5_twiceArea_14 rfl ?_
        refine r_iadd hw dX5_twiceArea_15 ?_
        obtain ⟨i7, g7, m23⟩ := h_bd m22
        clear m22
        refine r_callV1 hw (tX5_wrap l G b0 g7) lB_X5_wrap lI_X5_wrap mL_X5_40 (c := 5) rfl h1 rfl (Nat.le_of_ble_eq_true rfl) (Nat.le_of_ble_eq_true rfl) rfl (Nat.le_of_ble_eq_true rfl) dX5_twiceArea_16 ?_
        refine r_istore hw dX5_twiceArea_19 (by decide) rfl ?_
        refine r_lload_n hw dX5_twiceArea_21 2 rfl ?_
        refine r_aload_n hw dX5_twiceArea_22 1 rfl ?_
        obtain ⟨q8, bq8, m24⟩ := h_bd m23
        clear m23
        refine r_getR hw fO_X5_7 h1 bq8 dX5_twiceArea_23 ?_
        refine r_iload_n hw dX5_twiceArea_26 3 rfl ?_
        obtain ⟨h9, m25⟩ := h_ck m24
        clear m24
        refine r_iaload hw h9 dX5_twiceArea_27 ?_
        refine r_i2l hw dX5_twiceArea_28 ?_
        refine r_aload_n hw dX5_twiceArea_29 1 rfl ?_
        obtain ⟨q10, bq10, m26⟩ := h_bd m25
        clear m25
        refine r_getR hw fO_X5_13 h1 bq10 dX5_twiceArea_30 ?_
        refine r_iload hw dX5_twiceArea_33 0 rfl ?_
        obtain ⟨h11, m27⟩ := h_ck m26
        clear m26
        refine r_iaload hw h11 dX5_twiceArea_35 ?_
        refine r_i2l hw dX5_twiceArea_36 ?_
        refine r_lmul hw dX5_twiceArea_37 ?_
        refine r_aload_n hw dX5_twiceArea_38 1 rfl ?_
        refine r_getR hw fO_X5_7 h1 bq8 dX5_twiceArea_39 ?_
        refine r_iload hw dX5_twiceArea_42 0 rfl ?_
        obtain ⟨h12, m28⟩ := h_ck m27
        clear m27
        refine r_iaload hw h12 dX5_twiceArea_44 ?_
        refine r_i2l hw dX5_twiceArea_45 ?_
        refine r_aload_n hw dX5_twiceArea_46 1 rfl ?_
        refine r_getR hw fO_X5_13 h1 bq10 dX5_twiceArea_47 ?_
        refine r_iload_n hw dX5_twiceArea_50 3 rfl ?_
        obtain ⟨h13, m29⟩ := h_ck m28
        clear m28
        refine r_iaload hw h13 dX5_twiceArea_51 ?_
        refine r_i2l hw dX5_twiceArea_52 ?_
        refine r_lmul hw dX5_twiceArea_53 ?_
        refine r_lsub hw dX5_twiceArea_54 ?_
        refine r_ladd hw dX5_twiceArea_55 ?_
        obtain ⟨l14, el14, m30⟩ := h_nm m29
        clear m29
        refine r_topL (w := w) el14 ?_
        refine r_lstore_n hw dX5_twiceArea_56 rfl (by decide) rfl ?_
        obtain ⟨i15, ei15, m31⟩ := h_nm m30
        clear m30
        refine r_iinc (j := 3) (v := i15) hw dX5_twiceArea_57 rfl (by rw [ei15]; rfl) (by decide) rfl ?_
        refine r_goto (tgt := 4) hw dX5_twiceArea_60 (by decide) ?_
        refine r_sub hw [3, 1, 0] rfl ?_
        exact ih4 _ _ m31
  exact L4 n04 _ _ hn4
theorem dX4_twiceArea_0 : decode cX4_twiceArea 0 = .ok (.lconst 0, 1) := by decide +kernel
theorem dX4_twiceArea_1 : decode cX4_twiceArea 1 = .ok (.lstore_n 1, 1) := by decide +kernel
theorem dX4_twiceArea_2 : decode cX4_twiceArea 2 = .ok (.iconst 0, 1) := by decide +kernel
theorem dX4_twiceArea_3 : decode cX4_twiceArea 3 = .ok (.istore_n 3, 1) := by decide +kernel
theorem dX4_twiceArea_4 : decode cX4_twiceArea 4 = .ok (.iload_n 3, 1) := by decide +kernel
theorem dX4_twiceArea_5 : decode cX4_twiceArea 5 = .ok (.aload_n 0, 1) := by decide +kernel
theorem dX4_twiceArea_6 : decode cX4_twiceArea 6 = .ok (.getfield 18, 3) := by decide +kernel
theorem dX4_twiceArea_9 : decode cX4_twiceArea 9 = .ok (.if_icmp .ge 40, 3) := by decide +kernel
theorem dX4_twiceArea_12 : decode cX4_twiceArea 12 = .ok (.lload_n 1, 1) := by decide +kernel
theorem dX4_twiceArea_13 : decode cX4_twiceArea 13 = .ok (.aload_n 0, 1) := by decide +kernel
theorem dX4_twiceArea_14 : decode cX4_twiceArea 14 = .ok (.getfield 11, 3) := by decide +kernel
theorem dX4_twiceArea_17 : decode cX4_twiceArea 17 = .ok (.iload_n 3, 1) := by decide +kernel
theorem dX4_twiceArea_18 : decode cX4_twiceArea 18 = .ok (.aaload, 1) := by decide +kernel
theorem dX4_twiceArea_19 : decode cX4_twiceArea 19 = .ok (.getfield 26, 3) := by decide +kernel
theorem dX4_twiceArea_22 : decode cX4_twiceArea 22 = .ok (.ifCond .eq 7, 3) := by decide +kernel
theorem dX4_twiceArea_25 : decode cX4_twiceArea 25 = .ok (.lconst 0, 1) := by decide +kernel
theorem dX4_twiceArea_26 : decode cX4_twiceArea 26 = .ok (.goto 15, 3) := by decide +kernel
theorem dX4_twiceArea_29 : decode cX4_twiceArea 29 = .ok (.aload_n 0, 1) := by decide +kernel
theorem dX4_twiceArea_30 : decode cX4_twiceArea 30 = .ok (.getfield 11, 3) := by decide +kernel
theorem dX4_twiceArea_33 : decode cX4_twiceArea 33 = .ok (.iload_n 3, 1) := by decide +kernel
theorem dX4_twiceArea_34 : decode cX4_twiceArea 34 = .ok (.aaload, 1) := by decide +kernel
theorem dX4_twiceArea_35 : decode cX4_twiceArea 35 = .ok (.getfield 30, 3) := by decide +kernel
theorem dX4_twiceArea_38 : decode cX4_twiceArea 38 = .ok (.invokevirtual 34, 3) := by decide +kernel
theorem dX4_twiceArea_41 : decode cX4_twiceArea 41 = .ok (.ladd, 1) := by decide +kernel
theorem dX4_twiceArea_42 : decode cX4_twiceArea 42 = .ok (.lstore_n 1, 1) := by decide +kernel
theorem dX4_twiceArea_43 : decode cX4_twiceArea 43 = .ok (.iinc 3 1, 3) := by decide +kernel
theorem dX4_twiceArea_46 : decode cX4_twiceArea 46 = .ok (.goto (-42), 3) := by decide +kernel
theorem dX4_twiceArea_49 : decode cX4_twiceArea 49 = .ok (.lload_n 1, 1) := by decide +kernel
theorem dX4_twiceArea_50 : decode cX4_twiceArea 50 = .ok (.lreturn, 1) := by decide +kernel
set_option maxHeartbeats 4000000 in
set_option maxRecDepth 100000 in
theorem tX4_twiceArea (l : Launch) (G : Gg) (b0 : Nat) {K : Kk} {R : Rr} {M : Mm} {r : Nat} {res : Int64} (hm : mX4_twiceArea K R M r = some (res)) : CT l G b0 yX4_twiceArea cX4_twiceArea 4 (some .long) (rmz 3 45) [.ref r] K R M (some (.long res)) K R M := by
  refine ct_of (by decide +kernel) (Nat.le_of_ble_eq_true rfl) (fun w hq => ?_)
  have hw := hq.b
  change w 0 0 0 [(0, .ref r)] [] K R M
  replace hm := h_start hm
  unfold mX4_twiceArea at hm
  obtain ⟨h1, m20⟩ := h_ck hm
  clear hm
  refine r_lconst (v := 0) hw dX4_twiceArea_0 rfl ?_
  obtain ⟨l2, el2, m21⟩ := h_nm m20
  clear m20
  refine r_topL (w := w) el2 ?_
  refine r_lstore_n hw dX4_twiceArea_1 rfl (by decide) rfl ?_
  refine r_iconst (v := 0) hw dX4_twiceArea_2 rfl ?_
  obtain ⟨i3, ei3, m22⟩ := h_nm m21
  clear m21
  refine r_topI (w := w) ei3 ?_
  refine r_istore_n hw dX4_twiceArea_3 rfl (by decide) rfl ?_
  refine r_sub hw [2, 1, 0] rfl ?_
  obtain ⟨v4, n04, hn4, hv4⟩ := h_lp m22
  clear m22
  have L4 : ∀ n : Nat, ∀ (l4 : Int64) (i5 : Int32), it (mX4_twiceArea_L4 K R M r) n (l4, i5) = some v4 → w 0 0 4 [(0, .ref r), (1, .long l4), (3, .int i5)] [] K R M := by
    intro n4
    induction n4 with
    | zero => intro l4 i5 hz; exact absurd hz h_it0
    | succ n4 ih4 =>
      intro l4 i5 m23
      replace m23 : (mX4_twiceArea_B4 K R M r l4 i5).bind (Sum.elim (it (mX4_twiceArea_L4 K R M r) n4) some) = some v4 := m23
      unfold mX4_twiceArea_B4 at m23
      have J41 : ∀ (i6 : Int32) (s7 : Int64) (s8 : Int64), (mX4_twiceArea_J41 K R M r i6 s7 s8).bind (Sum.elim (it (mX4_twiceArea_L4 K R M r) n4) some) = some v4 → w 0 0 41 [(0, .ref r), (3, .int i6)] [.long s8, .long s7] K R M := by
        intro i6 s7 s8 m24
        unfold mX4_twiceArea_J41 at m24
        refine r_ladd hw dX4_twiceArea_41 ?_
        obtain ⟨l9, el9, m25⟩ := h_nm m24
        clear m24
        refine r_topL (w := w) el9 ?_
        refine r_lstore_n hw dX4_twiceArea_42 rfl (by decide) rfl ?_
        obtain ⟨i10, ei10, m26⟩ := h_nm m25
        clear m25
        refine r_iinc (j := 2) (v := i10) hw dX4_twiceArea_43 rfl (by rw [ei10]; rfl) (by decide) rfl ?_
        refine r_goto (tgt := 4) hw dX4_twiceArea_46 (by decide) ?_
        refine r_sub hw [2, 1, 0] rfl ?_
        exact ih4 _ _ m26
      refine r_iload_n hw dX4_twiceArea_4 2 rfl ?_
      refine r_aload_n hw dX4_twiceArea_5 0 rfl ?_
      refine r_getI hw fO_X4_18 h1 dX4_twiceArea_6 ?_
      refine r_icmp_ge (tgt := 49) hw dX4_twiceArea_9 (by decide) (fun c11 => ?_) (fun c11 => ?_)
      · have m27 := h_if_f c11 m23
        clear m23
        have m28 := h_ex m27 hv4
        clear m27
        refine r_lload_n hw dX4_twiceArea_49 1 rfl ?_
        cases h_ret m28
        exact r_lreturn hq rfl rfl dX4_twiceArea_50
      · have m29 := h_if_t c11 m23
        clear m23
        refine r_lload_n hw dX4_twiceArea_12 1 rfl ?_
        refine r_aload_n hw dX4_twiceArea_13 0 rfl ?_
        obtain ⟨q12, bq12, m30⟩ := h_bd m29
        clear m29
        refine r_getR hw fO_X4_11 h1 bq12 dX4_twiceArea_14 ?_
        refine r_iload_n hw dX4_twiceArea_17 2 rfl ?_
        obtain ⟨h13, m31⟩ := h_ck m30
        clear m30
        obtain ⟨q14, bq14, m32⟩ := h_bd m31
        clear m31
        refine r_aaload hw 2 (by decide) h13 bq14 dX4_twiceArea_18 ?_
        obtain ⟨h15, m33⟩ := h_ck m32
        clear m32
        refine r_getI hw fO_X4_26 h15 dX4_twiceArea_19 ?_
        refine r_if_eq (tgt := 29) hw dX4_twiceArea_22 (by decide) (fun c16 => ?_) (fun c16 => ?_)
        · have m34 := h_if_t c16 m33
          clear m33
          refine r_aload_n hw dX4_twiceArea_29 0 rfl ?_
          refine r_getR hw fO_X4_11 h1 bq12 dX4_twiceArea_30 ?_
          refine r_iload_n hw dX4_twiceArea_33 2 rfl ?_
          refine r_aaload hw 2 (by decide) h13 bq14 dX4_twiceArea_34 ?_
          obtain ⟨q17, bq17, m35⟩ := h_bd m34
          clear m34
          refine r_getR hw fO_X4_30 h15 bq17 dX4_twiceArea_35 ?_
          obtain ⟨h19, m36⟩ := h_ck m35
          clear m35
          obtain ⟨l18, g18, m37⟩ := h_bd m36
          clear m36
          refine r_callV1 hw (tX5_twiceArea l G b0 g18) lB_X5_twiceArea lI_X5_twiceArea mL_X4_34 (c := 5) rfl h19 rfl (Nat.le_of_ble_eq_true rfl) (Nat.le_of_ble_eq_true rfl) rfl (Nat.le_of_ble_eq_true rfl) dX4_twiceArea_38 ?_
          refine r_sub hw [0, 2] rfl ?_
          exact J41 _ _ _ m37
        · have m38 := h_if_f c16 m33
          clear m33
          refine r_lconst (v := 0) hw dX4_twiceArea_25 rfl ?_
          refine r_goto (tgt := 41) hw dX4_twiceArea_26 (by decide) ?_
          refine r_sub hw [0, 2] rfl ?_
          exact J41 _ _ _ m38
  exact L4 n04 _ _ hn4
