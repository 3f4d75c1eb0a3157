theorem dX8_addStep_0 : decode cX8_addStep 0 = .ok (.lload_n 1, 1) := by decide +kernel
theorem dX8_addStep_1 : decode cX8_addStep 1 = .ok (.lload_n 3, 1) := by decide +kernel
theorem dX8_addStep_2 : decode cX8_addStep 2 = .ok (.invokestatic 303, 3) := by decide +kernel
theorem dX8_addStep_5 : decode cX8_addStep 5 = .ok (.lstore 5, 2) := by decide +kernel
theorem dX8_addStep_7 : decode cX8_addStep 7 = .ok (.lload_n 1, 1) := by decide +kernel
theorem dX8_addStep_8 : decode cX8_addStep 8 = .ok (.lload 5, 2) := by decide +kernel
theorem dX8_addStep_10 : decode cX8_addStep 10 = .ok (.ldiv, 1) := by decide +kernel
theorem dX8_addStep_11 : decode cX8_addStep 11 = .ok (.lstore 7, 2) := by decide +kernel
theorem dX8_addStep_13 : decode cX8_addStep 13 = .ok (.lload_n 3, 1) := by decide +kernel
theorem dX8_addStep_14 : decode cX8_addStep 14 = .ok (.lload 5, 2) := by decide +kernel
theorem dX8_addStep_16 : decode cX8_addStep 16 = .ok (.ldiv, 1) := by decide +kernel
theorem dX8_addStep_17 : decode cX8_addStep 17 = .ok (.lstore 9, 2) := by decide +kernel
theorem dX8_addStep_19 : decode cX8_addStep 19 = .ok (.lload 7, 2) := by decide +kernel
theorem dX8_addStep_21 : decode cX8_addStep 21 = .ok (.lconst 0, 1) := by decide +kernel
theorem dX8_addStep_22 : decode cX8_addStep 22 = .ok (.lcmp, 1) := by decide +kernel
theorem dX8_addStep_23 : decode cX8_addStep 23 = .ok (.ifCond .gt 17, 3) := by decide +kernel
theorem dX8_addStep_26 : decode cX8_addStep 26 = .ok (.lload 7, 2) := by decide +kernel
theorem dX8_addStep_28 : decode cX8_addStep 28 = .ok (.lconst 0, 1) := by decide +kernel
theorem dX8_addStep_29 : decode cX8_addStep 29 = .ok (.lcmp, 1) := by decide +kernel
theorem dX8_addStep_30 : decode cX8_addStep 30 = .ok (.ifCond .ne 14, 3) := by decide +kernel
theorem dX8_addStep_33 : decode cX8_addStep 33 = .ok (.lload 9, 2) := by decide +kernel
theorem dX8_addStep_35 : decode cX8_addStep 35 = .ok (.lconst 0, 1) := by decide +kernel
theorem dX8_addStep_36 : decode cX8_addStep 36 = .ok (.lcmp, 1) := by decide +kernel
theorem dX8_addStep_37 : decode cX8_addStep 37 = .ok (.ifCond .le 7, 3) := by decide +kernel
theorem dX8_addStep_40 : decode cX8_addStep 40 = .ok (.iconst 1, 1) := by decide +kernel
theorem dX8_addStep_41 : decode cX8_addStep 41 = .ok (.goto 4, 3) := by decide +kernel
theorem dX8_addStep_44 : decode cX8_addStep 44 = .ok (.iconst 0, 1) := by decide +kernel
theorem dX8_addStep_45 : decode cX8_addStep 45 = .ok (.istore 11, 2) := by decide +kernel
theorem dX8_addStep_47 : decode cX8_addStep 47 = .ok (.iload 11, 2) := by decide +kernel
theorem dX8_addStep_49 : decode cX8_addStep 49 = .ok (.ifCond .eq 8, 3) := by decide +kernel
theorem dX8_addStep_52 : decode cX8_addStep 52 = .ok (.lload 7, 2) := by decide +kernel
theorem dX8_addStep_54 : decode cX8_addStep 54 = .ok (.goto 6, 3) := by decide +kernel
theorem dX8_addStep_57 : decode cX8_addStep 57 = .ok (.lload 7, 2) := by decide +kernel
theorem dX8_addStep_59 : decode cX8_addStep 59 = .ok (.lneg, 1) := by decide +kernel
theorem dX8_addStep_60 : decode cX8_addStep 60 = .ok (.lstore 12, 2) := by decide +kernel
theorem dX8_addStep_62 : decode cX8_addStep 62 = .ok (.iload 11, 2) := by decide +kernel
theorem dX8_addStep_64 : decode cX8_addStep 64 = .ok (.ifCond .eq 8, 3) := by decide +kernel
theorem dX8_addStep_67 : decode cX8_addStep 67 = .ok (.lload 9, 2) := by decide +kernel
theorem dX8_addStep_69 : decode cX8_addStep 69 = .ok (.goto 6, 3) := by decide +kernel
theorem dX8_addStep_72 : decode cX8_addStep 72 = .ok (.lload 9, 2) := by decide +kernel
theorem dX8_addStep_74 : decode cX8_addStep 74 = .ok (.lneg, 1) := by decide +kernel
theorem dX8_addStep_75 : decode cX8_addStep 75 = .ok (.lstore 14, 2) := by decide +kernel
theorem dX8_addStep_77 : decode cX8_addStep 77 = .ok (.iconst 0, 1) := by decide +kernel
theorem dX8_addStep_78 : decode cX8_addStep 78 = .ok (.istore 16, 2) := by decide +kernel
theorem dX8_addStep_80 : decode cX8_addStep 80 = .ok (.iload 16, 2) := by decide +kernel
theorem dX8_addStep_82 : decode cX8_addStep 82 = .ok (.aload_n 0, 1) := by decide +kernel
theorem dX8_addStep_83 : decode cX8_addStep 83 = .ok (.getfield 306, 3) := by decide +kernel
theorem dX8_addStep_86 : decode cX8_addStep 86 = .ok (.if_icmp .ge 35, 3) := by decide +kernel
theorem dX8_addStep_89 : decode cX8_addStep 89 = .ok (.aload_n 0, 1) := by decide +kernel
theorem dX8_addStep_90 : decode cX8_addStep 90 = .ok (.getfield 72, 3) := by decide +kernel
theorem dX8_addStep_93 : decode cX8_addStep 93 = .ok (.iload 16, 2) := by decide +kernel
theorem dX8_addStep_95 : decode cX8_addStep 95 = .ok (.laload, 1) := by decide +kernel
theorem dX8_addStep_96 : decode cX8_addStep 96 = .ok (.lload 12, 2) := by decide +kernel
theorem dX8_addStep_98 : decode cX8_addStep 98 = .ok (.lcmp, 1) := by decide +kernel
theorem dX8_addStep_99 : decode cX8_addStep 99 = .ok (.ifCond .ne 16, 3) := by decide +kernel
theorem dX8_addStep_102 : decode cX8_addStep 102 = .ok (.aload_n 0, 1) := by decide +kernel
theorem dX8_addStep_103 : decode cX8_addStep 103 = .ok (.getfield 75, 3) := by decide +kernel
theorem dX8_addStep_106 : decode cX8_addStep 106 = .ok (.iload 16, 2) := by decide +kernel
theorem dX8_addStep_108 : decode cX8_addStep 108 = .ok (.laload, 1) := by decide +kernel
theorem dX8_addStep_109 : decode cX8_addStep 109 = .ok (.lload 14, 2) := by decide +kernel
theorem dX8_addStep_111 : decode cX8_addStep 111 = .ok (.lcmp, 1) := by decide +kernel
theorem dX8_addStep_112 : decode cX8_addStep 112 = .ok (.ifCond .eq 9, 3) := by decide +kernel
theorem dX8_addStep_115 : decode cX8_addStep 115 = .ok (.iinc 16 1, 3) := by decide +kernel
theorem dX8_addStep_118 : decode cX8_addStep 118 = .ok (.goto (-38), 3) := by decide +kernel
theorem dX8_addStep_121 : decode cX8_addStep 121 = .ok (.iload 16, 2) := by decide +kernel
theorem dX8_addStep_123 : decode cX8_addStep 123 = .ok (.aload_n 0, 1) := by decide +kernel
theorem dX8_addStep_124 : decode cX8_addStep 124 = .ok (.getfield 306, 3) := by decide +kernel
theorem dX8_addStep_127 : decode cX8_addStep 127 = .ok (.if_icmp .ne 39, 3) := by decide +kernel
theorem dX8_addStep_130 : decode cX8_addStep 130 = .ok (.aload_n 0, 1) := by decide +kernel
theorem dX8_addStep_131 : decode cX8_addStep 131 = .ok (.getfield 72, 3) := by decide +kernel
theorem dX8_addStep_134 : decode cX8_addStep 134 = .ok (.iload 16, 2) := by decide +kernel
theorem dX8_addStep_136 : decode cX8_addStep 136 = .ok (.lload 12, 2) := by decide +kernel
theorem dX8_addStep_138 : decode cX8_addStep 138 = .ok (.lastore, 1) := by decide +kernel
theorem dX8_addStep_139 : decode cX8_addStep 139 = .ok (.aload_n 0, 1) := by decide +kernel
theorem dX8_addStep_140 : decode cX8_addStep 140 = .ok (.getfield 75, 3) := by decide +kernel
theorem dX8_addStep_143 : decode cX8_addStep 143 = .ok (.iload 16, 2) := by decide +kernel
theorem dX8_addStep_145 : decode cX8_addStep 145 = .ok (.lload 14, 2) := by decide +kernel
theorem dX8_addStep_147 : decode cX8_addStep 147 = .ok (.lastore, 1) := by decide +kernel
theorem dX8_addStep_148 : decode cX8_addStep 148 = .ok (.aload_n 0, 1) := by decide +kernel
theorem dX8_addStep_149 : decode cX8_addStep 149 = .ok (.getfield 78, 3) := by decide +kernel
theorem dX8_addStep_152 : decode cX8_addStep 152 = .ok (.iload 16, 2) := by decide +kernel
theorem dX8_addStep_154 : decode cX8_addStep 154 = .ok (.lconst 0, 1) := by decide +kernel
theorem dX8_addStep_155 : decode cX8_addStep 155 = .ok (.lastore, 1) := by decide +kernel
theorem dX8_addStep_156 : decode cX8_addStep 156 = .ok (.aload_n 0, 1) := by decide +kernel
theorem dX8_addStep_157 : decode cX8_addStep 157 = .ok (.dup, 1) := by decide +kernel
theorem dX8_addStep_158 : decode cX8_addStep 158 = .ok (.getfield 306, 3) := by decide +kernel
theorem dX8_addStep_161 : decode cX8_addStep 161 = .ok (.iconst 1, 1) := by decide +kernel
theorem dX8_addStep_162 : decode cX8_addStep 162 = .ok (.iadd, 1) := by decide +kernel
theorem dX8_addStep_163 : decode cX8_addStep 163 = .ok (.putfield 306, 3) := by decide +kernel
theorem dX8_addStep_166 : decode cX8_addStep 166 = .ok (.aload_n 0, 1) := by decide +kernel
theorem dX8_addStep_167 : decode cX8_addStep 167 = .ok (.getfield 78, 3) := by decide +kernel
theorem dX8_addStep_170 : decode cX8_addStep 170 = .ok (.iload 16, 2) := by decide +kernel
theorem dX8_addStep_172 : decode cX8_addStep 172 = .ok (.dup2, 1) := by decide +kernel
theorem dX8_addStep_173 : decode cX8_addStep 173 = .ok (.laload, 1) := by decide +kernel
theorem dX8_addStep_174 : decode cX8_addStep 174 = .ok (.iload 11, 2) := by decide +kernel
theorem dX8_addStep_176 : decode cX8_addStep 176 = .ok (.ifCond .eq 8, 3) := by decide +kernel
theorem dX8_addStep_179 : decode cX8_addStep 179 = .ok (.lload 5, 2) := by decide +kernel
theorem dX8_addStep_181 : decode cX8_addStep 181 = .ok (.goto 6, 3) := by decide +kernel
theorem dX8_addStep_184 : decode cX8_addStep 184 = .ok (.lload 5, 2) := by decide +kernel
theorem dX8_addStep_186 : decode cX8_addStep 186 = .ok (.lneg, 1) := by decide +kernel
theorem dX8_addStep_187 : decode cX8_addStep 187 = .ok (.ladd, 1) := by decide +kernel
theorem dX8_addStep_188 : decode cX8_addStep 188 = .ok (.lastore, 1) := by decide +kernel
theorem dX8_addStep_189 : decode cX8_addStep 189 = .ok (.return_, 1) := by decide +kernel
set_option maxHeartbeats 4000000 in
set_option maxRecDepth 100000 in
theorem tX8_addStep (l : Launch) (G : Gg) (b0 : Nat) {K : Kk} {R : Rr} {M : Mm} {r : Nat} {a0 : Int64} {a1 : Int64} {M' : Mm} (hm : mX8_addStep K R M r a0 a1 = some (M')) : CT l G b0 yX8_addStep cX8_addStep 17 none (rmz 2 29) [.ref r, .long a0, .long a1] K R M none K R M' := by
  refine ct_of (by decide +kernel) (Nat.le_of_ble_eq_true rfl) (fun w hw => ?_)
  change w 0 0 0 [(0, .ref r), (1, .long a0), (3, .long a1)] [] K R M
  replace hm := h_start hm
  unfold mX8_addStep at hm
  obtain ⟨h1, m76⟩ := h_ck hm
  clear hm
  have J187 : ∀ (M6 : Mm) (s2 : Nat) (s3 : Int32) (s4 : Int64) (s5 : Int64), (mX8_addStep_J187 K R M6 s2 s3 s4 s5).bind some = some (M') → w 0 0 187 [] [.long s5, .long s4, .int s3, .ref s2] K R M6 := by
    intro M6 s2 s3 s4 s5 m77
    unfold mX8_addStep_J187 at m77
    refine r_ladd hw dX8_addStep_187 ?_
    obtain ⟨h7, m78⟩ := h_ck m77
    clear m77
    obtain ⟨M8, eM8, m79⟩ := h_nm m78
    clear m78
    refine r_lastore hw h7 dX8_addStep_188 (r_mem ?_ rfl eM8)
    cases h_ret m79
    exact r_return hw rfl rfl dX8_addStep_189
  have J166 : ∀ (M12 : Mm) (l9 : Int64) (i10 : Int32) (i11 : Int32), (mX8_addStep_J166 K R M12 r l9 i10 i11).bind some = some (M') → w 0 0 166 [(0, .ref r), (5, .long l9), (11, .int i10), (16, .int i11)] [] K R M12 := by
    intro M12 l9 i10 i11 m80
    unfold mX8_addStep_J166 at m80
    refine r_aload_n hw dX8_addStep_166 0 rfl ?_
    obtain ⟨q13, bq13, m81⟩ := h_bd m80
    clear m80
    refine r_getR hw fO_X8_78 h1 bq13 dX8_addStep_167 ?_
    refine r_iload hw dX8_addStep_170 3 rfl ?_
    refine r_dup2 hw dX8_addStep_172 rfl rfl ?_
    obtain ⟨h14, m82⟩ := h_ck m81
    clear m81
    refine r_laload hw h14 dX8_addStep_173 ?_
    refine r_iload hw dX8_addStep_174 2 rfl ?_
    refine r_if_eq (tgt := 184) hw dX8_addStep_176 (by decide) (fun c15 => ?_) (fun c15 => ?_)
    · have m83 := h_if_t c15 m82
      clear m82
      refine r_lload hw dX8_addStep_184 1 rfl ?_
      refine r_lneg hw dX8_addStep_186 ?_
      refine r_sub hw [] rfl ?_
      exact J187 _ _ _ _ _ m83
    · have m84 := h_if_f c15 m82
      clear m82
      refine r_lload hw dX8_addStep_179 1 rfl ?_
      refine r_goto (tgt := 187) hw dX8_addStep_181 (by decide) ?_
      refine r_sub hw [] rfl ?_
      exact J187 _ _ _ _ _ m84
  have J121 : ∀ (M21 : Mm) (l16 : Int64) (i17 : Int32) (l18 : Int64) (l19 : Int64) (i20 : Int32), (mX8_addStep_J121 K R M21 r l16 i17 l18 l19 i20).bind some = some (M') → w 0 0 121 [(0, .ref r), (5, .long l16), (11, .int i17), (12, .long l18), (14, .long l19), (16, .int i20)] [] K R M21 := by
    intro M21 l16 i17 l18 l19 i20 m85
    unfold mX8_addStep_J121 at m85
    refine r_iload hw dX8_addStep_121 5 rfl ?_
    refine r_aload_n hw dX8_addStep_123 0 rfl ?_
    refine r_getI hw fO_X8_306 h1 dX8_addStep_124 ?_
    refine r_icmp_ne (tgt := 166) hw dX8_addStep_127 (by decide) (fun c22 => ?_) (fun c22 => ?_)
    · have m86 := h_if_f c22 m85
      clear m85
      refine r_sub hw [0, 1, 2, 5] rfl ?_
      exact J166 _ _ _ _ m86
    · have m87 := h_if_t c22 m85
      clear m85
      refine r_aload_n hw dX8_addStep_130 0 rfl ?_
      obtain ⟨q23, bq23, m88⟩ := h_bd m87
      clear m87
      refine r_getR hw fO_X8_72 h1 bq23 dX8_addStep_131 ?_
      refine r_iload hw dX8_addStep_134 5 rfl ?_
      refine r_lload hw dX8_addStep_136 3 rfl ?_
      obtain ⟨h24, m89⟩ := h_ck m88
      clear m88
      obtain ⟨M25, eM25, m90⟩ := h_nm m89
      clear m89
      refine r_lastore hw h24 dX8_addStep_138 (r_mem ?_ rfl eM25)
      refine r_aload_n hw dX8_addStep_139 0 rfl ?_
      obtain ⟨q26, bq26, m91⟩ := h_bd m90
      clear m90
      refine r_getR hw fO_X8_75 h1 bq26 dX8_addStep_140 ?_
      refine r_iload hw dX8_addStep_143 5 rfl ?_
      refine r_lload hw dX8_addStep_145 4 rfl ?_
      obtain ⟨h27, m92⟩ := h_ck m91
      clear m91
      obtain ⟨M28, eM28, m93⟩ := h_nm m92
      clear m92
      refine r_lastore hw h27 dX8_addStep_147 (r_mem ?_ rfl eM28)
      refine r_aload_n hw dX8_addStep_148 0 rfl ?_
      obtain ⟨q29, bq29, m94⟩ := h_bd m93
      clear m93
      refine r_getR hw fO_X8_78 h1 bq29 dX8_addStep_149 ?_
      refine r_iload hw dX8_addStep_152 5 rfl ?_
      refine r_lconst (v := 0) hw dX8_addStep_154 rfl ?_
      obtain ⟨h30, m95⟩ := h_ck m94
      clear m94
      obtain ⟨M31, eM31, m96⟩ := h_nm m95
      clear m95
      refine r_lastore hw h30 dX8_addStep_155 (r_mem ?_ rfl eM31)
      refine r_aload_n hw dX8_addStep_156 0 rfl ?_
      refine r_dup hw dX8_addStep_157 rfl ?_
      refine r_getI hw fO_X8_306 h1 dX8_addStep_158 ?_
      refine r_iconst (v := 1) hw dX8_addStep_161 rfl ?_
      refine r_iadd hw dX8_addStep_162 ?_
      obtain ⟨M32, eM32, m97⟩ := h_nm m96
      clear m96
      refine r_putI hw fP_X8_306 h1 dX8_addStep_163 (r_mem ?_ rfl eM32)
      refine r_sub hw [0, 1, 2, 5] rfl ?_
      exact J166 _ _ _ _ m97
  have J75 : ∀ (M37 : Mm) (l33 : Int64) (i34 : Int32) (l35 : Int64) (s36 : Int64), (mX8_addStep_J75 K R M37 r l33 i34 l35 s36).bind some = some (M') → w 0 0 75 [(0, .ref r), (5, .long l33), (11, .int i34), (12, .long l35)] [.long s36] K R M37 := by
    intro M37 l33 i34 l35 s36 m98
    unfold mX8_addStep_J75 at m98
    refine r_lstore hw dX8_addStep_75 (by decide) rfl ?_
    refine r_iconst (v := 0) hw dX8_addStep_77 rfl ?_
    obtain ⟨i38, ei38, m99⟩ := h_nm m98
    clear m98
    refine r_topI (w := w) ei38 ?_
    refine r_istore hw dX8_addStep_78 (by decide) rfl ?_
    refine r_sub hw [2, 3, 4, 5, 1, 0] rfl ?_
    obtain ⟨v80, n080, hn80, hv80⟩ := h_lp m99
    clear m99
    have L80 : ∀ n : Nat, ∀ (i39 : Int32), it (mX8_addStep_L80 K R M37 r l33 i34 l35 s36) n (i39) = some v80 → w 0 0 80 [(0, .ref r), (5, .long l33), (11, .int i34), (12, .long l35), (14, .long s36), (16, .int i39)] [] K R M37 := by
      intro n80
      induction n80 with
      | zero => intro i39 hz; exact absurd hz h_it0
      | succ n80 ih80 =>
        intro i39 m100
        replace m100 : (mX8_addStep_B80 K R M37 r l33 i34 l35 s36 i39).bind (Sum.elim (it (mX8_addStep_L80 K R M37 r l33 i34 l35 s36) n80) some) = some v80 := m100
        unfold mX8_addStep_B80 at m100
        have J115 : ∀ (i40 : Int32), (mX8_addStep_J115 K R M37 r l33 i34 l35 s36 i40).bind (Sum.elim (it (mX8_addStep_L80 K R M37 r l33 i34 l35 s36) n80) some) = some v80 → w 0 0 115 [(0, .ref r), (5, .long l33), (11, .int i34), (12, .long l35), (14, .long s36), (16, .int i40)] [] K R M37 := by
          intro i40 m101
          unfold mX8_addStep_J115 at m101
          obtain ⟨i41, ei41, m102⟩ := h_nm m101
          clear m101
          refine r_iinc (j := 5) (v := i41) hw dX8_addStep_115 rfl (by rw [ei41]; rfl) (by decide) rfl ?_
          refine r_goto (tgt := 80) hw dX8_addStep_118 (by decide) ?_
          refine r_sub hw [1, 2, 3, 4, 5, 0] rfl ?_
          exact ih80 _ m102
        refine r_iload hw dX8_addStep_80 5 rfl ?_
        refine r_aload_n hw dX8_addStep_82 0 rfl ?_
        refine r_getI hw fO_X8_306 h1 dX8_addStep_83 ?_
        refine r_icmp_ge (tgt := 121) hw dX8_addStep_86 (by decide) (fun c42 => ?_) (fun c42 => ?_)
        · have m103 := h_if_f c42 m100
          clear m100
          have m104 := h_ex m103 hv80
          clear m103
          exact J121 _ _ _ _ _ _ m104
        · have m105 := h_if_t c42 m100
          clear m100
          refine r_aload_n hw dX8_addStep_89 0 rfl ?_
          obtain ⟨q43, bq43, m106⟩ := h_bd m105
          clear m105
          refine r_getR hw fO_X8_72 h1 bq43 dX8_addStep_90 ?_
          refine r_iload hw dX8_addStep_93 5 rfl ?_
          obtain ⟨h44, m107⟩ := h_ck m106
          clear m106
          refine r_laload hw h44 dX8_addStep_95 ?_
          refine r_lload hw dX8_addStep_96 3 rfl ?_
          refine r_lcmp_ne (tgt := 115) hw dX8_addStep_98 dX8_addStep_99 (by decide) (fun c45 => ?_) (fun c45 => ?_)
          · have m108 := h_if_f c45 m107
            clear m107
            exact J115 _ m108
          · have m109 := h_if_t c45 m107
            clear m107
            refine r_aload_n hw dX8_addStep_102 0 rfl ?_
            obtain ⟨q46, bq46, m110⟩ := h_bd m109
            clear m109
            refine r_getR hw fO_X8_75 h1 bq46 dX8_addStep_103 ?_
            refine r_iload hw dX8_addStep_106 5 rfl ?_
            obtain ⟨h47, m111⟩ := h_ck m110
            clear m110
            refine r_laload hw h47 dX8_addStep_108 ?_
            refine r_lload hw dX8_addStep_109 4 rfl ?_
            refine r_lcmp_eq (tgt := 121) hw dX8_addStep_111 dX8_addStep_112 (by decide) (fun c48 => ?_) (fun c48 => ?_)
            · have m112 := h_if_t c48 m111
              clear m111
              have m113 := h_ex m112 hv80
              clear m112
              exact J121 _ _ _ _ _ _ m113
            · have m114 := h_if_f c48 m111
              clear m111
              exact J115 _ m114
    exact L80 n080 _ hn80
  have J60 : ∀ (M53 : Mm) (l49 : Int64) (l50 : Int64) (i51 : Int32) (s52 : Int64), (mX8_addStep_J60 K R M53 r l49 l50 i51 s52).bind some = some (M') → w 0 0 60 [(0, .ref r), (5, .long l49), (9, .long l50), (11, .int i51)] [.long s52] K R M53 := by
    intro M53 l49 l50 i51 s52 m115
    unfold mX8_addStep_J60 at m115
    refine r_lstore hw dX8_addStep_60 (by decide) rfl ?_
    refine r_iload hw dX8_addStep_62 4 rfl ?_
    refine r_if_eq (tgt := 72) hw dX8_addStep_64 (by decide) (fun c54 => ?_) (fun c54 => ?_)
    · have m116 := h_if_t c54 m115
      clear m115
      refine r_lload hw dX8_addStep_72 3 rfl ?_
      refine r_lneg hw dX8_addStep_74 ?_
      refine r_sub hw [1, 2, 4, 0] rfl ?_
      exact J75 _ _ _ _ _ m116
    · have m117 := h_if_f c54 m115
      clear m115
      refine r_lload hw dX8_addStep_67 3 rfl ?_
      refine r_goto (tgt := 75) hw dX8_addStep_69 (by decide) ?_
      refine r_sub hw [1, 2, 4, 0] rfl ?_
      exact J75 _ _ _ _ _ m117
  have J45 : ∀ (M59 : Mm) (l55 : Int64) (l56 : Int64) (l57 : Int64) (s58 : Int32), (mX8_addStep_J45 K R M59 r l55 l56 l57 s58).bind some = some (M') → w 0 0 45 [(0, .ref r), (5, .long l55), (7, .long l56), (9, .long l57)] [.int s58] K R M59 := by
    intro M59 l55 l56 l57 s58 m118
    unfold mX8_addStep_J45 at m118
    refine r_istore hw dX8_addStep_45 (by decide) rfl ?_
    refine r_iload hw dX8_addStep_47 0 rfl ?_
    refine r_if_eq (tgt := 57) hw dX8_addStep_49 (by decide) (fun c60 => ?_) (fun c60 => ?_)
    · have m119 := h_if_t c60 m118
      clear m118
      refine r_lload hw dX8_addStep_57 3 rfl ?_
      refine r_lneg hw dX8_addStep_59 ?_
      refine r_sub hw [1, 2, 4, 0] rfl ?_
      exact J60 _ _ _ _ _ m119
    · have m120 := h_if_f c60 m118
      clear m118
      refine r_lload hw dX8_addStep_52 3 rfl ?_
      refine r_goto (tgt := 60) hw dX8_addStep_54 (by decide) ?_
      refine r_sub hw [1, 2, 4, 0] rfl ?_
      exact J60 _ _ _ _ _ m120
  have J44 : ∀ (M64 : Mm) (l61 : Int64) (l62 : Int64) (l63 : Int64), (mX8_addStep_J44 K R M64 r l61 l62 l63).bind some = some (M') → w 0 0 44 [(0, .ref r), (5, .long l61), (7, .long l62), (9, .long l63)] [] K R M64 := by
    intro M64 l61 l62 l63 m121
    unfold mX8_addStep_J44 at m121
    refine r_iconst (v := 0) hw dX8_addStep_44 rfl ?_
    exact J45 _ _ _ _ _ m121
  have J40 : ∀ (M68 : Mm) (l65 : Int64) (l66 : Int64) (l67 : Int64), (mX8_addStep_J40 K R M68 r l65 l66 l67).bind some = some (M') → w 0 0 40 [(0, .ref r), (5, .long l65), (7, .long l66), (9, .long l67)] [] K R M68 := by
    intro M68 l65 l66 l67 m122
    unfold mX8_addStep_J40 at m122
    refine r_iconst (v := 1) hw dX8_addStep_40 rfl ?_
    refine r_goto (tgt := 45) hw dX8_addStep_41 (by decide) ?_
    exact J45 _ _ _ _ _ m122
  refine r_lload_n hw dX8_addStep_0 1 rfl ?_
  refine r_lload_n hw dX8_addStep_1 2 rfl ?_
  obtain ⟨l69, g69, m123⟩ := h_bd m76
  clear m76
  refine r_callS1 hw (tX8_common l G b0 g69) lB_X8_common sT_X8_common mL_X8_303 rfl rfl (Nat.le_of_ble_eq_true rfl) (Nat.le_of_ble_eq_true rfl) rfl (Nat.le_of_ble_eq_true rfl) dX8_addStep_2 ?_
  refine r_lstore hw dX8_addStep_5 (by decide) rfl ?_
  refine r_lload_n hw dX8_addStep_7 2 rfl ?_
  refine r_lload hw dX8_addStep_8 0 rfl ?_
  obtain ⟨h70, m124⟩ := h_ck m123
  clear m123
  refine r_ldiv hw dX8_addStep_10 h70 ?_
  obtain ⟨l71, el71, m125⟩ := h_nm m124
  clear m124
  refine r_topL (w := w) el71 ?_
  refine r_lstore hw dX8_addStep_11 (by decide) rfl ?_
  refine r_lload_n hw dX8_addStep_13 4 rfl ?_
  refine r_lload hw dX8_addStep_14 1 rfl ?_
  refine r_ldiv hw dX8_addStep_16 h70 ?_
  obtain ⟨l72, el72, m126⟩ := h_nm m125
  clear m125
  refine r_topL (w := w) el72 ?_
  refine r_lstore hw dX8_addStep_17 (by decide) rfl ?_
  refine r_lload hw dX8_addStep_19 1 rfl ?_
  refine r_lconst (v := 0) hw dX8_addStep_21 rfl ?_
  refine r_lcmp_gt (tgt := 40) hw dX8_addStep_22 dX8_addStep_23 (by decide) (fun c73 => ?_) (fun c73 => ?_)
  · have m127 := h_if_f c73 m126
    clear m126
    refine r_sub hw [3, 2, 1, 0] rfl ?_
    exact J40 _ _ _ _ m127
  · have m128 := h_if_t c73 m126
    clear m126
    refine r_lload hw dX8_addStep_26 1 rfl ?_
    refine r_lconst (v := 0) hw dX8_addStep_28 rfl ?_
    refine r_lcmp_ne (tgt := 44) hw dX8_addStep_29 dX8_addStep_30 (by decide) (fun c74 => ?_) (fun c74 => ?_)
    · have m129 := h_if_f c74 m128
      clear m128
      refine r_sub hw [3, 2, 1, 0] rfl ?_
      exact J44 _ _ _ _ m129
    · have m130 := h_if_t c74 m128
      clear m128
      refine r_lload hw dX8_addStep_33 0 rfl ?_
      refine r_lconst (v := 0) hw dX8_addStep_35 rfl ?_
      refine r_lcmp_le (tgt := 44) hw dX8_addStep_36 dX8_addStep_37 (by decide) (fun c75 => ?_) (fun c75 => ?_)
      · have m131 := h_if_t c75 m130
        clear m130
        refine r_sub hw [3, 2, 1, 0] rfl ?_
        exact J44 _ _ _ _ m131
      · have m132 := h_if_f c75 m130
        clear m130
        refine r_sub hw [3, 2, 1, 0] rfl ?_
        exact J40 _ _ _ _ m132
theorem dX8_addAll_0 : decode cX8_addAll 0 = .ok (.aload_n 0, 1) := by decide +kernel
theorem dX8_addAll_1 : decode cX8_addAll 1 = .ok (.iconst 0, 1) := by decide +kernel
theorem dX8_addAll_2 : decode cX8_addAll 2 = .ok (.putfield 306, 3) := by decide +kernel
theorem dX8_addAll_5 : decode cX8_addAll 5 = .ok (.iconst 0, 1) := by decide +kernel
theorem dX8_addAll_6 : decode cX8_addAll 6 = .ok (.istore_n 1, 1) := by decide +kernel
theorem dX8_addAll_7 : decode cX8_addAll 7 = .ok (.iload_n 1, 1) := by decide +kernel
theorem dX8_addAll_8 : decode cX8_addAll 8 = .ok (.aload_n 0, 1) := by decide +kernel
theorem dX8_addAll_9 : decode cX8_addAll 9 = .ok (.invokevirtual 99, 3) := by decide +kernel
theorem dX8_addAll_12 : decode cX8_addAll 12 = .ok (.if_icmp .ge 77, 3) := by decide +kernel
theorem dX8_addAll_15 : decode cX8_addAll 15 = .ok (.aload_n 0, 1) := by decide +kernel
theorem dX8_addAll_16 : decode cX8_addAll 16 = .ok (.iload_n 1, 1) := by decide +kernel
theorem dX8_addAll_17 : decode cX8_addAll 17 = .ok (.invokevirtual 287, 3) := by decide +kernel
theorem dX8_addAll_20 : decode cX8_addAll 20 = .ok (.ifCond .eq 63, 3) := by decide +kernel
theorem dX8_addAll_23 : decode cX8_addAll 23 = .ok (.aload_n 0, 1) := by decide +kernel
theorem dX8_addAll_24 : decode cX8_addAll 24 = .ok (.iload_n 1, 1) := by decide +kernel
theorem dX8_addAll_25 : decode cX8_addAll 25 = .ok (.invokevirtual 149, 3) := by decide +kernel
theorem dX8_addAll_28 : decode cX8_addAll 28 = .ok (.iconst 0, 1) := by decide +kernel
theorem dX8_addAll_29 : decode cX8_addAll 29 = .ok (.istore_n 2, 1) := by decide +kernel
theorem dX8_addAll_30 : decode cX8_addAll 30 = .ok (.iload_n 2, 1) := by decide +kernel
theorem dX8_addAll_31 : decode cX8_addAll 31 = .ok (.aload_n 0, 1) := by decide +kernel
theorem dX8_addAll_32 : decode cX8_addAll 32 = .ok (.getfield 146, 3) := by decide +kernel
theorem dX8_addAll_35 : decode cX8_addAll 35 = .ok (.if_icmp .ge 48, 3) := by decide +kernel
theorem dX8_addAll_38 : decode cX8_addAll 38 = .ok (.iload_n 2, 1) := by decide +kernel
theorem dX8_addAll_39 : decode cX8_addAll 39 = .ok (.iconst 1, 1) := by decide +kernel
theorem dX8_addAll_40 : decode cX8_addAll 40 = .ok (.iadd, 1) := by decide +kernel
theorem dX8_addAll_41 : decode cX8_addAll 41 = .ok (.aload_n 0, 1) := by decide +kernel
theorem dX8_addAll_42 : decode cX8_addAll 42 = .ok (.getfield 146, 3) := by decide +kernel
theorem dX8_addAll_45 : decode cX8_addAll 45 = .ok (.irem, 1) := by decide +kernel
theorem dX8_addAll_46 : decode cX8_addAll 46 = .ok (.istore_n 3, 1) := by decide +kernel
theorem dX8_addAll_47 : decode cX8_addAll 47 = .ok (.aload_n 0, 1) := by decide +kernel
theorem dX8_addAll_48 : decode cX8_addAll 48 = .ok (.aload_n 0, 1) := by decide +kernel
theorem dX8_addAll_49 : decode cX8_addAll 49 = .ok (.getfield 42, 3) := by decide +kernel
theorem dX8_addAll_52 : decode cX8_addAll 52 = .ok (.iload_n 3, 1) := by decide +kernel
theorem dX8_addAll_53 : decode cX8_addAll 53 = .ok (.laload, 1) := by decide +kernel
theorem dX8_addAll_54 : decode cX8_addAll 54 = .ok (.aload_n 0, 1) := by decide +kernel
theorem dX8_addAll_55 : decode cX8_addAll 55 = .ok (.getfield 42, 3) := by decide +kernel
theorem dX8_addAll_58 : decode cX8_addAll 58 = .ok (.iload_n 2, 1) := by decide +kernel
theorem dX8_addAll_59 : decode cX8_addAll 59 = .ok (.laload, 1) := by decide +kernel
theorem dX8_addAll_60 : decode cX8_addAll 60 = .ok (.lsub, 1) := by decide +kernel
theorem dX8_addAll_61 : decode cX8_addAll 61 = .ok (.aload_n 0, 1) := by decide +kernel
theorem dX8_addAll_62 : decode cX8_addAll 62 = .ok (.getfield 45, 3) := by decide +kernel
theorem dX8_addAll_65 : decode cX8_addAll 65 = .ok (.iload_n 3, 1) := by decide +kernel
theorem dX8_addAll_66 : decode cX8_addAll 66 = .ok (.laload, 1) := by decide +kernel
theorem dX8_addAll_67 : decode cX8_addAll 67 = .ok (.aload_n 0, 1) := by decide +kernel
theorem dX8_addAll_68 : decode cX8_addAll 68 = .ok (.getfield 45, 3) := by decide +kernel
theorem dX8_addAll_71 : decode cX8_addAll 71 = .ok (.iload_n 2, 1) := by decide +kernel
theorem dX8_addAll_72 : decode cX8_addAll 72 = .ok (.laload, 1) := by decide +kernel
theorem dX8_addAll_73 : decode cX8_addAll 73 = .ok (.lsub, 1) := by decide +kernel
theorem dX8_addAll_74 : decode cX8_addAll 74 = .ok (.invokevirtual 309, 3) := by decide +kernel
theorem dX8_addAll_77 : decode cX8_addAll 77 = .ok (.iinc 2 1, 3) := by decide +kernel
theorem dX8_addAll_80 : decode cX8_addAll 80 = .ok (.goto (-50), 3) := by decide +kernel
theorem dX8_addAll_83 : decode cX8_addAll 83 = .ok (.iinc 1 1, 3) := by decide +kernel
theorem dX8_addAll_86 : decode cX8_addAll 86 = .ok (.goto (-79), 3) := by decide +kernel
theorem dX8_addAll_89 : decode cX8_addAll 89 = .ok (.return_, 1) := by decide +kernel
set_option maxHeartbeats 4000000 in
set_option maxRecDepth 100000 in
theorem tX8_addAll (l : Launch) (G : Gg) (b0 : Nat) {K : Kk} {R : Rr} {M : Mm} {r : Nat} {M' : Mm} (hm : mX8_addAll K R M r = some (M')) : CT l G b0 yX8_addAll cX8_addAll 4 none (rmz 5 109) [.ref r] K R M none K R M' := by
  refine ct_of (by decide +kernel) (Nat.le_of_ble_eq_true rfl) (fun w hw => ?_)
  change w 0 0 0 [(0, .ref r)] [] K R M
  replace hm := h_start hm
  unfold mX8_addAll at hm
  obtain ⟨h1, m28⟩ := h_ck hm
  clear hm
  refine r_aload_n hw dX8_addAll_0 0 rfl ?_
  refine r_iconst (v := 0) hw dX8_addAll_1 rfl ?_
  obtain ⟨M2, eM2, m29⟩ := h_nm m28
  clear m28
  refine r_putI hw fP_X8_306 h1 dX8_addAll_2 (r_mem ?_ rfl eM2)
  refine r_iconst (v := 0) hw dX8_addAll_5 rfl ?_
  obtain ⟨i3, ei3, m30⟩ := h_nm m29
  clear m29
  refine r_topI (w := w) ei3 ?_
  refine r_istore_n hw dX8_addAll_6 rfl (by decide) rfl ?_
  refine r_sub hw [1, 0] rfl ?_
  obtain ⟨v7, n07, hn7, hv7⟩ := h_lp m30
  clear m30
  have L7 : ∀ n : Nat, ∀ (i4 : Int32) (M5 : Mm), it (mX8_addAll_L7 K R r) n (i4, M5) = some v7 → w 0 0 7 [(0, .ref r), (1, .int i4)] [] K R M5 := by
    intro n7
    induction n7 with
    | zero => intro i4 M5 hz; exact absurd hz h_it0
    | succ n7 ih7 =>
      intro i4 M5 m31
      replace m31 : (mX8_addAll_B7 K R r i4 M5).bind (Sum.elim (it (mX8_addAll_L7 K R r) n7) some) = some v7 := m31
      unfold mX8_addAll_B7 at m31
      have J83 : ∀ (M7 : Mm) (i6 : Int32), (mX8_addAll_J83 K R M7 r i6).bind (Sum.elim (it (mX8_addAll_L7 K R r) n7) some) = some v7 → w 0 0 83 [(0, .ref r), (1, .int i6)] [] K R M7 := by
        intro M7 i6 m32
        unfold mX8_addAll_J83 at m32
        obtain ⟨i8, ei8, m33⟩ := h_nm m32
        clear m32
        refine r_iinc (j := 1) (v := i8) hw dX8_addAll_83 rfl (by rw [ei8]; rfl) (by decide) rfl ?_
        refine r_goto (tgt := 7) hw dX8_addAll_86 (by decide) ?_
        refine r_sub hw [1, 0] rfl ?_
        exact ih7 _ _ m33
      refine r_iload_n hw dX8_addAll_7 1 rfl ?_
      refine r_aload_n hw dX8_addAll_8 0 rfl ?_
      obtain ⟨i9, g9, m34⟩ := h_bd m31
      clear m31
      refine r_callV1 hw (tX8_pieces l G b0 g9) lB_X8_pieces lI_X8_pieces mL_X8_99 (c := 8) rfl h1 rfl (Nat.le_of_ble_eq_true rfl) (Nat.le_of_ble_eq_true rfl) rfl (Nat.le_of_ble_eq_true rfl) dX8_addAll_9 ?_
      refine r_icmp_ge (tgt := 89) hw dX8_addAll_12 (by decide) (fun c10 => ?_) (fun c10 => ?_)
      · have m35 := h_if_f c10 m34
        clear m34
        have m36 := h_ex m35 hv7
        clear m35
        cases h_ret m36
        exact r_return hw rfl rfl dX8_addAll_89
      · have m37 := h_if_t c10 m34
        clear m34
        refine r_aload_n hw dX8_addAll_15 0 rfl ?_
        refine r_iload_n hw dX8_addAll_16 1 rfl ?_
        obtain ⟨i11, g11, m38⟩ := h_bd m37
        clear m37
        refine r_callV1 hw (tX8_isLaid l G b0 g11) lB_X8_isLaid lI_X8_isLaid mL_X8_287 (c := 8) rfl h1 rfl (Nat.le_of_ble_eq_true rfl) (Nat.le_of_ble_eq_true rfl) rfl (Nat.le_of_ble_eq_true rfl) dX8_addAll_17 ?_
        refine r_if_eq (tgt := 83) hw dX8_addAll_20 (by decide) (fun c12 => ?_) (fun c12 => ?_)
        · have m39 := h_if_t c12 m38
          clear m38
          exact J83 _ _ m39
        · have m40 := h_if_f c12 m38
          clear m38
          refine r_aload_n hw dX8_addAll_23 0 rfl ?_
          refine r_iload_n hw dX8_addAll_24 1 rfl ?_
          obtain ⟨M13, g13, m41⟩ := h_bd m40
          clear m40
          refine r_callV0 hw (tX8_lookA l G b0 g13) lB_X8_lookA lI_X8_lookA mL_X8_149 (c := 8) rfl h1 rfl (Nat.le_of_ble_eq_true rfl) (Nat.le_of_ble_eq_true rfl) rfl (Nat.le_of_ble_eq_true rfl) dX8_addAll_25 ?_
          refine r_iconst (v := 0) hw dX8_addAll_28 rfl ?_
          obtain ⟨i14, ei14, m42⟩ := h_nm m41
          clear m41
          refine r_topI (w := w) ei14 ?_
          refine r_istore_n hw dX8_addAll_29 rfl (by decide) rfl ?_
          refine r_sub hw [1, 2, 0] rfl ?_
          obtain ⟨v30, n030, hn30, hv30⟩ := h_lp m42
          clear m42
          have L30 : ∀ n : Nat, ∀ (i15 : Int32) (M16 : Mm), it (mX8_addAll_L30 K R r i4) n (i15, M16) = some v30 → w 0 0 30 [(0, .ref r), (1, .int i4), (2, .int i15)] [] K R M16 := by
            intro n30
            induction n30 with
            | zero => intro i15 M16 hz; exact absurd hz h_it0
            | succ n30 ih30 =>
              intro i15 M16 m43
              replace m43 : (mX8_addAll_B30 K R r i4 i15 M16).bind (Sum.elim (it (mX8_addAll_L30 K R r i4) n30) some) = some v30 := m43
              unfold mX8_addAll_B30 at m43
              refine r_iload_n hw dX8_addAll_30 2 rfl ?_
              refine r_aload_n hw dX8_addAll_31 0 rfl ?_
              refine r_getI hw fO_X8_146 h1 dX8_addAll_32 ?_
              refine r_icmp_ge (tgt := 83) hw dX8_addAll_35 (by decide) (fun c17 => ?_) (fun c17 => ?_)
              · have m44 := h_if_f c17 m43
                clear m43
                have m45 := h_ex m44 hv30
                clear m44
                refine r_sub hw [0, 1] rfl ?_
                exact J83 _ _ m45
              · have m46 := h_if_t c17 m43
                clear m43
                refine r_iload_n hw dX8_addAll_38 2 rfl ?_
                refine r_iconst (v := 1) hw dX8_addAll_39 rfl ?_
                refine r_iadd hw dX8_addAll_40 ?_
                refine r_aload_n hw dX8_addAll_41 0 rfl ?_
                refine r_getI hw fO_X8_146 h1 dX8_addAll_42 ?_
                obtain ⟨h18, m47⟩ := h_ck m46
                clear m46
                refine r_irem hw dX8_addAll_45 h18 ?_
                obtain ⟨i19, ei19, m48⟩ := h_nm m47
                clear m47
                refine r_topI (w := w) ei19 ?_
                refine r_istore_n hw dX8_addAll_46 rfl (by decide) rfl ?_
                refine r_aload_n hw dX8_addAll_47 1 rfl ?_
                refine r_aload_n hw dX8_addAll_48 1 rfl ?_
                obtain ⟨q20, bq20, m49⟩ := h_bd m48
                clear m48
                refine r_getR hw fO_X8_42 h1 bq20 dX8_addAll_49 ?_
                refine r_iload_n hw dX8_addAll_52 0 rfl ?_
                obtain ⟨h21, m50⟩ := h_ck m49
                clear m49
                refine r_laload hw h21 dX8_addAll_53 ?_
                refine r_aload_n hw dX8_addAll_54 1 rfl ?_
                refine r_getR hw fO_X8_42 h1 bq20 dX8_addAll_55 ?_
                refine r_iload_n hw dX8_addAll_58 3 rfl ?_
                obtain ⟨h22, m51⟩ := h_ck m50
                clear m50
                refine r_laload hw h22 dX8_addAll_59 ?_
                refine r_lsub hw dX8_addAll_60 ?_
                refine r_aload_n hw dX8_addAll_61 1 rfl ?_
                obtain ⟨q23, bq23, m52⟩ := h_bd m51
                clear m51
                refine r_getR hw fO_X8_45 h1 bq23 dX8_addAll_62 ?_
                refine r_iload_n hw dX8_addAll_65 0 rfl ?_
                obtain ⟨h24, m53⟩ := h_ck m52
                clear m52
                refine r_laload hw h24 dX8_addAll_66 ?_
                refine r_aload_n hw dX8_addAll_67 1 rfl ?_
                refine r_getR hw fO_X8_45 h1 bq23 dX8_addAll_68 ?_
                refine r_iload_n hw dX8_addAll_71 3 rfl ?_
                obtain ⟨h25, m54⟩ := h_ck m53
                clear m53
                refine r_laload hw h25 dX8_addAll_72 ?_
                refine r_lsub hw dX8_addAll_73 ?_
                obtain ⟨M26, g26, m55⟩ := h_bd m54
                clear m54
                refine r_callV0 hw (tX8_addStep l G b0 g26) lB_X8_addStep lI_X8_addStep mL_X8_309 (c := 8) rfl h1 rfl (Nat.le_of_ble_eq_true rfl) (Nat.le_of_ble_eq_true rfl) rfl (Nat.le_of_ble_eq_true rfl) dX8_addAll_74 ?_
                obtain ⟨i27, ei27, m56⟩ := h_nm m55
                clear m55
                refine r_iinc (j := 3) (v := i27) hw dX8_addAll_77 rfl (by rw [ei27]; rfl) (by decide) rfl ?_
                refine r_goto (tgt := 30) hw dX8_addAll_80 (by decide) ?_
                refine r_sub hw [2, 3, 0] rfl ?_
                exact ih30 _ _ m56
          exact L30 n030 _ _ hn30
  exact L7 n07 _ _ hn7
theorem dX8_sums_0 : decode cX8_sums 0 = .ok (.aload_n 0, 1) := by decide +kernel
theorem dX8_sums_1 : decode cX8_sums 1 = .ok (.invokevirtual 312, 3) := by decide +kernel
theorem dX8_sums_4 : decode cX8_sums 4 = .ok (.iconst 0, 1) := by decide +kernel
theorem dX8_sums_5 : decode cX8_sums 5 = .ok (.istore_n 1, 1) := by decide +kernel
theorem dX8_sums_6 : decode cX8_sums 6 = .ok (.iconst 0, 1) := by decide +kernel
theorem dX8_sums_7 : decode cX8_sums 7 = .ok (.istore_n 2, 1) := by decide +kernel
theorem dX8_sums_8 : decode cX8_sums 8 = .ok (.iload_n 2, 1) := by decide +kernel
theorem dX8_sums_9 : decode cX8_sums 9 = .ok (.aload_n 0, 1) := by decide +kernel
theorem dX8_sums_10 : decode cX8_sums 10 = .ok (.getfield 306, 3) := by decide +kernel
theorem dX8_sums_13 : decode cX8_sums 13 = .ok (.if_icmp .ge 28, 3) := by decide +kernel
theorem dX8_sums_16 : decode cX8_sums 16 = .ok (.iload_n 1, 1) := by decide +kernel
theorem dX8_sums_17 : decode cX8_sums 17 = .ok (.aload_n 0, 1) := by decide +kernel
theorem dX8_sums_18 : decode cX8_sums 18 = .ok (.getfield 78, 3) := by decide +kernel
theorem dX8_sums_21 : decode cX8_sums 21 = .ok (.iload_n 2, 1) := by decide +kernel
theorem dX8_sums_22 : decode cX8_sums 22 = .ok (.laload, 1) := by decide +kernel
theorem dX8_sums_23 : decode cX8_sums 23 = .ok (.lconst 0, 1) := by decide +kernel
theorem dX8_sums_24 : decode cX8_sums 24 = .ok (.lcmp, 1) := by decide +kernel
theorem dX8_sums_25 : decode cX8_sums 25 = .ok (.ifCond .eq 7, 3) := by decide +kernel
theorem dX8_sums_28 : decode cX8_sums 28 = .ok (.iconst 1, 1) := by decide +kernel
theorem dX8_sums_29 : decode cX8_sums 29 = .ok (.goto 4, 3) := by decide +kernel
theorem dX8_sums_32 : decode cX8_sums 32 = .ok (.iconst 0, 1) := by decide +kernel
theorem dX8_sums_33 : decode cX8_sums 33 = .ok (.iadd, 1) := by decide +kernel
theorem dX8_sums_34 : decode cX8_sums 34 = .ok (.istore_n 1, 1) := by decide +kernel
theorem dX8_sums_35 : decode cX8_sums 35 = .ok (.iinc 2 1, 3) := by decide +kernel
theorem dX8_sums_38 : decode cX8_sums 38 = .ok (.goto (-30), 3) := by decide +kernel
theorem dX8_sums_41 : decode cX8_sums 41 = .ok (.iload_n 1, 1) := by decide +kernel
theorem dX8_sums_42 : decode cX8_sums 42 = .ok (.i2l, 1) := by decide +kernel
theorem dX8_sums_43 : decode cX8_sums 43 = .ok (.lreturn, 1) := by decide +kernel
set_option maxHeartbeats 4000000 in
set_option maxRecDepth 100000 in
theorem tX8_sums (l : Launch) (G : Gg) (b0 : Nat) {K : Kk} {R : Rr} {M : Mm} {r : Nat} {res : Int64} {M' : Mm} (hm : mX8_sums K R M r = some (res, M')) : CT l G b0 yX8_sums cX8_sums 3 (some .long) (rmz 6 132) [.ref r] K R M (some (.long res)) K R M' := by
  refine ct_of (by decide +kernel) (Nat.le_of_ble_eq_true rfl) (fun w hw => ?_)
  change w 0 0 0 [(0, .ref r)] [] K R M
  replace hm := h_start hm
  unfold mX8_sums at hm
  obtain ⟨h1, m16⟩ := h_ck hm
  clear hm
  refine r_aload_n hw dX8_sums_0 0 rfl ?_
  obtain ⟨M2, g2, m17⟩ := h_bd m16
  clear m16
  refine r_callV0 hw (tX8_addAll l G b0 g2) lB_X8_addAll lI_X8_addAll mL_X8_312 (c := 8) rfl h1 rfl (Nat.le_of_ble_eq_true rfl) (Nat.le_of_ble_eq_true rfl) rfl (Nat.le_of_ble_eq_true rfl) dX8_sums_1 ?_
  refine r_iconst (v := 0) hw dX8_sums_4 rfl ?_
  obtain ⟨i3, ei3, m18⟩ := h_nm m17
  clear m17
  refine r_topI (w := w) ei3 ?_
  refine r_istore_n hw dX8_sums_5 rfl (by decide) rfl ?_
  refine r_iconst (v := 0) hw dX8_sums_6 rfl ?_
  obtain ⟨i4, ei4, m19⟩ := h_nm m18
  clear m18
  refine r_topI (w := w) ei4 ?_
  refine r_istore_n hw dX8_sums_7 rfl (by decide) rfl ?_
  refine r_sub hw [2, 1, 0] rfl ?_
  obtain ⟨v8, n08, hn8, hv8⟩ := h_lp m19
  clear m19
  have L8 : ∀ n : Nat, ∀ (i5 : Int32) (i6 : Int32), it (mX8_sums_L8 K R M2 r) n (i5, i6) = some v8 → w 0 0 8 [(0, .ref r), (1, .int i5), (2, .int i6)] [] K R M2 := by
    intro n8
    induction n8 with
    | zero => intro i5 i6 hz; exact absurd hz h_it0
    | succ n8 ih8 =>
      intro i5 i6 m20
      replace m20 : (mX8_sums_B8 K R M2 r i5 i6).bind (Sum.elim (it (mX8_sums_L8 K R M2 r) n8) some) = some v8 := m20
      unfold mX8_sums_B8 at m20
      have J33 : ∀ (i7 : Int32) (s8 : Int32) (s9 : Int32), (mX8_sums_J33 K R M2 r i7 s8 s9).bind (Sum.elim (it (mX8_sums_L8 K R M2 r) n8) some) = some v8 → w 0 0 33 [(0, .ref r), (2, .int i7)] [.int s9, .int s8] K R M2 := by
        intro i7 s8 s9 m21
        unfold mX8_sums_J33 at m21
        refine r_iadd hw dX8_sums_33 ?_
        obtain ⟨i10, ei10, m22⟩ := h_nm m21
        clear m21
        refine r_topI (w := w) ei10 ?_
        refine r_istore_n hw dX8_sums_34 rfl (by decide) rfl ?_
        obtain ⟨i11, ei11, m23⟩ := h_nm m22
        clear m22
        refine r_iinc (j := 2) (v := i11) hw dX8_sums_35 rfl (by rw [ei11]; rfl) (by decide) rfl ?_
        refine r_goto (tgt := 8) hw dX8_sums_38 (by decide) ?_
        refine r_sub hw [2, 1, 0] rfl ?_
        exact ih8 _ _ m23
      refine r_iload_n hw dX8_sums_8 2 rfl ?_
      refine r_aload_n hw dX8_sums_9 0 rfl ?_
      refine r_getI hw fO_X8_306 h1 dX8_sums_10 ?_
      refine r_icmp_ge (tgt := 41) hw dX8_sums_13 (by decide) (fun c12 => ?_) (fun c12 => ?_)
      · have m24 := h_if_f c12 m20
        clear m20
        have m25 := h_ex m24 hv8
        clear m24
        refine r_iload_n hw dX8_sums_41 1 rfl ?_
        refine r_i2l hw dX8_sums_42 ?_
        cases h_ret m25
        exact r_lreturn hw rfl rfl dX8_sums_43
      · have m26 := h_if_t c12 m20
        clear m20
        refine r_iload_n hw dX8_sums_16 1 rfl ?_
        refine r_aload_n hw dX8_sums_17 0 rfl ?_
        obtain ⟨q13, bq13, m27⟩ := h_bd m26
        clear m26
        refine r_getR hw fO_X8_78 h1 bq13 dX8_sums_18 ?_
        refine r_iload_n hw dX8_sums_21 2 rfl ?_
        obtain ⟨h14, m28⟩ := h_ck m27
        clear m27
        refine r_laload hw h14 dX8_sums_22 ?_
        refine r_lconst (v := 0) hw dX8_sums_23 rfl ?_
        refine r_lcmp_eq (tgt := 32) hw dX8_sums_24 dX8_sums_25 (by decide) (fun c15 => ?_) (fun c15 => ?_)
        · have m29 := h_if_t c15 m28
          clear m28
          refine r_iconst (v := 0) hw dX8_sums_32 rfl ?_
          refine r_sub hw [0, 2] rfl ?_
          exact J33 _ _ _ m29
        · have m30 := h_if_f c15 m28
          clear m28
          refine r_iconst (v := 1) hw dX8_sums_28 rfl ?_
          refine r_goto (tgt := 33) hw dX8_sums_29 (by decide) ?_
          refine r_sub hw [0, 2] rfl ?_
          exact J33 _ _ _ m30
  exact L8 n08 _ _ hn8
theorem dX8_isAhead_0 : decode cX8_isAhead 0 = .ok (.aload_n 0, 1) := by decide +kernel
theorem dX8_isAhead_1 : decode cX8_isAhead 1 = .ok (.getfield 72, 3) := by decide +kernel
theorem dX8_isAhead_4 : decode cX8_isAhead 4 = .ok (.iload_n 1, 1) := by decide +kernel
theorem dX8_isAhead_5 : decode cX8_isAhead 5 = .ok (.laload, 1) := by decide +kernel
theorem dX8_isAhead_6 : decode cX8_isAhead 6 = .ok (.aload_n 0, 1) := by decide +kernel
theorem dX8_isAhead_7 : decode cX8_isAhead 7 = .ok (.getfield 72, 3) := by decide +kernel
theorem dX8_isAhead_10 : decode cX8_isAhead 10 = .ok (.iload_n 2, 1) := by decide +kernel
theorem dX8_isAhead_11 : decode cX8_isAhead 11 = .ok (.laload, 1) := by decide +kernel
theorem dX8_isAhead_12 : decode cX8_isAhead 12 = .ok (.lcmp, 1) := by decide +kernel
theorem dX8_isAhead_13 : decode cX8_isAhead 13 = .ok (.ifCond .lt 35, 3) := by decide +kernel
theorem dX8_isAhead_16 : decode cX8_isAhead 16 = .ok (.aload_n 0, 1) := by decide +kernel
theorem dX8_isAhead_17 : decode cX8_isAhead 17 = .ok (.getfield 72, 3) := by decide +kernel
theorem dX8_isAhead_20 : decode cX8_isAhead 20 = .ok (.iload_n 1, 1) := by decide +kernel
theorem dX8_isAhead_21 : decode cX8_isAhead 21 = .ok (.laload, 1) := by decide +kernel
theorem dX8_isAhead_22 : decode cX8_isAhead 22 = .ok (.aload_n 0, 1) := by decide +kernel
theorem dX8_isAhead_23 : decode cX8_isAhead 23 = .ok (.getfield 72, 3) := by decide +kernel
theorem dX8_isAhead_26 : decode cX8_isAhead 26 = .ok (.iload_n 2, 1) := by decide +kernel
theorem dX8_isAhead_27 : decode cX8_isAhead 27 = .ok (.laload, 1) := by decide +kernel
theorem dX8_isAhead_28 : decode cX8_isAhead 28 = .ok (.lcmp, 1) := by decide +kernel
theorem dX8_isAhead_29 : decode cX8_isAhead 29 = .ok (.ifCond .ne 23, 3) := by decide +kernel
theorem dX8_isAhead_32 : decode cX8_isAhead 32 = .ok (.aload_n 0, 1) := by decide +kernel
theorem dX8_isAhead_33 : decode cX8_isAhead 33 = .ok (.getfield 75, 3) := by decide +kernel
theorem dX8_isAhead_36 : decode cX8_isAhead 36 = .ok (.iload_n 1, 1) := by decide +kernel
theorem dX8_isAhead_37 : decode cX8_isAhead 37 = .ok (.laload, 1) := by decide +kernel
theorem dX8_isAhead_38 : decode cX8_isAhead 38 = .ok (.aload_n 0, 1) := by decide +kernel
theorem dX8_isAhead_39 : decode cX8_isAhead 39 = .ok (.getfield 75, 3) := by decide +kernel
theorem dX8_isAhead_42 : decode cX8_isAhead 42 = .ok (.iload_n 2, 1) := by decide +kernel
theorem dX8_isAhead_43 : decode cX8_isAhead 43 = .ok (.laload, 1) := by decide +kernel
theorem dX8_isAhead_44 : decode cX8_isAhead 44 = .ok (.lcmp, 1) := by decide +kernel
theorem dX8_isAhead_45 : decode cX8_isAhead 45 = .ok (.ifCond .ge 7, 3) := by decide +kernel
theorem dX8_isAhead_48 : decode cX8_isAhead 48 = .ok (.iconst 1, 1) := by decide +kernel
theorem dX8_isAhead_49 : decode cX8_isAhead 49 = .ok (.goto 4, 3) := by decide +kernel
theorem dX8_isAhead_52 : decode cX8_isAhead 52 = .ok (.iconst 0, 1) := by decide +kernel
theorem dX8_isAhead_53 : decode cX8_isAhead 53 = .ok (.ireturn, 1) := by decide +kernel
set_option maxHeartbeats 4000000 in
set_option maxRecDepth 100000 in
theorem tX8_isAhead (l : Launch) (G : Gg) (b0 : Nat) {K : Kk} {R : Rr} {M : Mm} {r : Nat} {a0 : Int32} {a1 : Int32} {res : Int32} (hm : mX8_isAhead K R M r a0 a1 = some (res)) : CT l G b0 yX8_isAhead cX8_isAhead 3 (some .boolean) (rmz 1 0) [.ref r, .int a0, .int a1] K R M (some (.int res)) K R M := by
  refine ct_of (by decide +kernel) (Nat.le_of_ble_eq_true rfl) (fun w hw => ?_)
  change w 0 0 0 [(0, .ref r), (1, .int a0), (2, .int a1)] [] K R M
  replace hm := h_start hm
  unfold mX8_isAhead at hm
  obtain ⟨h1, m11⟩ := h_ck hm
  clear hm
  have J48 : (mX8_isAhead_J48 K R M ).bind some = some (res) → w 0 0 48 [] [] K R M := by
    intro  m12
    unfold mX8_isAhead_J48 at m12
    refine r_iconst (v := 1) hw dX8_isAhead_48 rfl ?_
    refine r_goto (tgt := 53) hw dX8_isAhead_49 (by decide) ?_
    cases h_ret m12
    exact r_zreturn hw isB_1 rfl rfl dX8_isAhead_53
  refine r_aload_n hw dX8_isAhead_0 0 rfl ?_
  obtain ⟨q2, bq2, m13⟩ := h_bd m11
  clear m11
  refine r_getR hw fO_X8_72 h1 bq2 dX8_isAhead_1 ?_
  refine r_iload_n hw dX8_isAhead_4 1 rfl ?_
  obtain ⟨h3, m14⟩ := h_ck m13
  clear m13
  refine r_laload hw h3 dX8_isAhead_5 ?_
  refine r_aload_n hw dX8_isAhead_6 0 rfl ?_
  refine r_getR hw fO_X8_72 h1 bq2 dX8_isAhead_7 ?_
  refine r_iload_n hw dX8_isAhead_10 2 rfl ?_
  obtain ⟨h4, m15⟩ := h_ck m14
  clear m14
  refine r_laload hw h4 dX8_isAhead_11 ?_
  refine r_lcmp_lt (tgt := 48) hw dX8_isAhead_12 dX8_isAhead_13 (by decide) (fun c5 => ?_) (fun c5 => ?_)
  · have m16 := h_if_t c5 m15
    clear m15
    refine r_sub hw [] rfl ?_
    exact J48  m16
  · have m17 := h_if_f c5 m15
    clear m15
    refine r_aload_n hw dX8_isAhead_16 0 rfl ?_
    refine r_getR hw fO_X8_72 h1 bq2 dX8_isAhead_17 ?_
    refine r_iload_n hw dX8_isAhead_20 1 rfl ?_
    refine r_laload hw h3 dX8_isAhead_21 ?_
    refine r_aload_n hw dX8_isAhead_22 0 rfl ?_
    refine r_getR hw fO_X8_72 h1 bq2 dX8_isAhead_23 ?_
    refine r_iload_n hw dX8_isAhead_26 2 rfl ?_
    refine r_laload hw h4 dX8_isAhead_27 ?_
    refine r_lcmp_ne (tgt := 52) hw dX8_isAhead_28 dX8_isAhead_29 (by decide) (fun c6 => ?_) (fun c6 => ?_)
    · have m18 := h_if_f c6 m17
      clear m17
      refine r_iconst (v := 0) hw dX8_isAhead_52 rfl ?_
      cases h_ret m18
      exact r_zreturn hw isB_0 rfl rfl dX8_isAhead_53
    · have m19 := h_if_t c6 m17
      clear m17
      refine r_aload_n hw dX8_isAhead_32 0 rfl ?_
      obtain ⟨q7, bq7, m20⟩ := h_bd m19
      clear m19
      refine r_getR hw fO_X8_75 h1 bq7 dX8_isAhead_33 ?_
      refine r_iload_n hw dX8_isAhead_36 1 rfl ?_
      obtain ⟨h8, m21⟩ := h_ck m20
      clear m20
      refine r_laload hw h8 dX8_isAhead_37 ?_
      refine r_aload_n hw dX8_isAhead_38 0 rfl ?_
      refine r_getR hw fO_X8_75 h1 bq7 dX8_isAhead_39 ?_
      refine r_iload_n hw dX8_isAhead_42 2 rfl ?_
      obtain ⟨h9, m22⟩ := h_ck m21
      clear m21
      refine r_laload hw h9 dX8_isAhead_43 ?_
      refine r_lcmp_ge (tgt := 52) hw dX8_isAhead_44 dX8_isAhead_45 (by decide) (fun c10 => ?_) (fun c10 => ?_)
      · have m23 := h_if_f c10 m22
        clear m22
        refine r_iconst (v := 0) hw dX8_isAhead_52 rfl ?_
        cases h_ret m23
        exact r_zreturn hw isB_0 rfl rfl dX8_isAhead_53
      · have m24 := h_if_t c10 m22
        clear m22
        refine r_sub hw [] rfl ?_
        exact J48  m24
theorem dX8_sum_0 : decode cX8_sum 0 = .ok (.iload_n 1, 1) := by decide +kernel
theorem dX8_sum_1 : decode cX8_sum 1 = .ok (.ifCond .lt 15, 3) := by decide +kernel
theorem dX8_sum_4 : decode cX8_sum 4 = .ok (.iload_n 2, 1) := by decide +kernel
theorem dX8_sum_5 : decode cX8_sum 5 = .ok (.i2l, 1) := by decide +kernel
theorem dX8_sum_6 : decode cX8_sum 6 = .ok (.lconst 0, 1) := by decide +kernel
theorem dX8_sum_7 : decode cX8_sum 7 = .ok (.ldc2_w 315, 3) := by decide +kernel
theorem dX8_sum_10 : decode cX8_sum 10 = .ok (.invokestatic 95, 3) := by decide +kernel
theorem dX8_sum_13 : decode cX8_sum 13 = .ok (.ifCond .ne 7, 3) := by decide +kernel
theorem dX8_sum_16 : decode cX8_sum 16 = .ok (.ldc2_w 160, 3) := by decide +kernel
theorem dX8_sum_19 : decode cX8_sum 19 = .ok (.lreturn, 1) := by decide +kernel
theorem dX8_sum_20 : decode cX8_sum 20 = .ok (.aload_n 0, 1) := by decide +kernel
theorem dX8_sum_21 : decode cX8_sum 21 = .ok (.invokevirtual 312, 3) := by decide +kernel
theorem dX8_sum_24 : decode cX8_sum 24 = .ok (.iconst 0, 1) := by decide +kernel
theorem dX8_sum_25 : decode cX8_sum 25 = .ok (.istore_n 3, 1) := by decide +kernel
theorem dX8_sum_26 : decode cX8_sum 26 = .ok (.iload_n 3, 1) := by decide +kernel
theorem dX8_sum_27 : decode cX8_sum 27 = .ok (.aload_n 0, 1) := by decide +kernel
theorem dX8_sum_28 : decode cX8_sum 28 = .ok (.getfield 306, 3) := by decide +kernel
theorem dX8_sum_31 : decode cX8_sum 31 = .ok (.if_icmp .ge 113, 3) := by decide +kernel
theorem dX8_sum_34 : decode cX8_sum 34 = .ok (.iconst 0, 1) := by decide +kernel
theorem dX8_sum_35 : decode cX8_sum 35 = .ok (.istore 4, 2) := by decide +kernel
theorem dX8_sum_37 : decode cX8_sum 37 = .ok (.iconst 0, 1) := by decide +kernel
theorem dX8_sum_38 : decode cX8_sum 38 = .ok (.istore 5, 2) := by decide +kernel
theorem dX8_sum_40 : decode cX8_sum 40 = .ok (.iload 5, 2) := by decide +kernel
theorem dX8_sum_42 : decode cX8_sum 42 = .ok (.aload_n 0, 1) := by decide +kernel
theorem dX8_sum_43 : decode cX8_sum 43 = .ok (.getfield 306, 3) := by decide +kernel
theorem dX8_sum_46 : decode cX8_sum 46 = .ok (.if_icmp .ge 41, 3) := by decide +kernel
theorem dX8_sum_49 : decode cX8_sum 49 = .ok (.iload 4, 2) := by decide +kernel
theorem dX8_sum_51 : decode cX8_sum 51 = .ok (.aload_n 0, 1) := by decide +kernel
theorem dX8_sum_52 : decode cX8_sum 52 = .ok (.getfield 78, 3) := by decide +kernel
theorem dX8_sum_55 : decode cX8_sum 55 = .ok (.iload 5, 2) := by decide +kernel
theorem dX8_sum_57 : decode cX8_sum 57 = .ok (.laload, 1) := by decide +kernel
theorem dX8_sum_58 : decode cX8_sum 58 = .ok (.lconst 0, 1) := by decide +kernel
theorem dX8_sum_59 : decode cX8_sum 59 = .ok (.lcmp, 1) := by decide +kernel
theorem dX8_sum_60 : decode cX8_sum 60 = .ok (.ifCond .eq 17, 3) := by decide +kernel
theorem dX8_sum_63 : decode cX8_sum 63 = .ok (.aload_n 0, 1) := by decide +kernel
theorem dX8_sum_64 : decode cX8_sum 64 = .ok (.iload 5, 2) := by decide +kernel
theorem dX8_sum_66 : decode cX8_sum 66 = .ok (.iload_n 3, 1) := by decide +kernel
theorem dX8_sum_67 : decode cX8_sum 67 = .ok (.invokevirtual 317, 3) := by decide +kernel
theorem dX8_sum_70 : decode cX8_sum 70 = .ok (.ifCond .eq 7, 3) := by decide +kernel
theorem dX8_sum_73 : decode cX8_sum 73 = .ok (.iconst 1, 1) := by decide +kernel
theorem dX8_sum_74 : decode cX8_sum 74 = .ok (.goto 4, 3) := by decide +kernel
theorem dX8_sum_77 : decode cX8_sum 77 = .ok (.iconst 0, 1) := by decide +kernel
theorem dX8_sum_78 : decode cX8_sum 78 = .ok (.iadd, 1) := by decide +kernel
theorem dX8_sum_79 : decode cX8_sum 79 = .ok (.istore 4, 2) := by decide +kernel
theorem dX8_sum_81 : decode cX8_sum 81 = .ok (.iinc 5 1, 3) := by decide +kernel
theorem dX8_sum_84 : decode cX8_sum 84 = .ok (.goto (-44), 3) := by decide +kernel
theorem dX8_sum_87 : decode cX8_sum 87 = .ok (.aload_n 0, 1) := by decide +kernel
theorem dX8_sum_88 : decode cX8_sum 88 = .ok (.getfield 78, 3) := by decide +kernel
theorem dX8_sum_91 : decode cX8_sum 91 = .ok (.iload_n 3, 1) := by decide +kernel
theorem dX8_sum_92 : decode cX8_sum 92 = .ok (.laload, 1) := by decide +kernel
theorem dX8_sum_93 : decode cX8_sum 93 = .ok (.lconst 0, 1) := by decide +kernel
theorem dX8_sum_94 : decode cX8_sum 94 = .ok (.lcmp, 1) := by decide +kernel
theorem dX8_sum_95 : decode cX8_sum 95 = .ok (.ifCond .eq 43, 3) := by decide +kernel
theorem dX8_sum_98 : decode cX8_sum 98 = .ok (.iload 4, 2) := by decide +kernel
theorem dX8_sum_100 : decode cX8_sum 100 = .ok (.iload_n 1, 1) := by decide +kernel
theorem dX8_sum_101 : decode cX8_sum 101 = .ok (.if_icmp .ne 37, 3) := by decide +kernel
theorem dX8_sum_104 : decode cX8_sum 104 = .ok (.iload_n 2, 1) := by decide +kernel
theorem dX8_sum_105 : decode cX8_sum 105 = .ok (.ifCond .ne 12, 3) := by decide +kernel
theorem dX8_sum_108 : decode cX8_sum 108 = .ok (.aload_n 0, 1) := by decide +kernel
theorem dX8_sum_109 : decode cX8_sum 109 = .ok (.getfield 72, 3) := by decide +kernel
theorem dX8_sum_112 : decode cX8_sum 112 = .ok (.iload_n 3, 1) := by decide +kernel
theorem dX8_sum_113 : decode cX8_sum 113 = .ok (.laload, 1) := by decide +kernel
theorem dX8_sum_114 : decode cX8_sum 114 = .ok (.goto 23, 3) := by decide +kernel
theorem dX8_sum_117 : decode cX8_sum 117 = .ok (.iload_n 2, 1) := by decide +kernel
theorem dX8_sum_118 : decode cX8_sum 118 = .ok (.iconst 1, 1) := by decide +kernel
theorem dX8_sum_119 : decode cX8_sum 119 = .ok (.if_icmp .ne 12, 3) := by decide +kernel
theorem dX8_sum_122 : decode cX8_sum 122 = .ok (.aload_n 0, 1) := by decide +kernel
theorem dX8_sum_123 : decode cX8_sum 123 = .ok (.getfield 75, 3) := by decide +kernel
theorem dX8_sum_126 : decode cX8_sum 126 = .ok (.iload_n 3, 1) := by decide +kernel
theorem dX8_sum_127 : decode cX8_sum 127 = .ok (.laload, 1) := by decide +kernel
theorem dX8_sum_128 : decode cX8_sum 128 = .ok (.goto 9, 3) := by decide +kernel
theorem dX8_sum_131 : decode cX8_sum 131 = .ok (.aload_n 0, 1) := by decide +kernel
theorem dX8_sum_132 : decode cX8_sum 132 = .ok (.getfield 78, 3) := by decide +kernel
theorem dX8_sum_135 : decode cX8_sum 135 = .ok (.iload_n 3, 1) := by decide +kernel
theorem dX8_sum_136 : decode cX8_sum 136 = .ok (.laload, 1) := by decide +kernel
theorem dX8_sum_137 : decode cX8_sum 137 = .ok (.lreturn, 1) := by decide +kernel
theorem dX8_sum_138 : decode cX8_sum 138 = .ok (.iinc 3 1, 3) := by decide +kernel
theorem dX8_sum_141 : decode cX8_sum 141 = .ok (.goto (-115), 3) := by decide +kernel
theorem dX8_sum_144 : decode cX8_sum 144 = .ok (.ldc2_w 272, 3) := by decide +kernel
theorem dX8_sum_147 : decode cX8_sum 147 = .ok (.lreturn, 1) := by decide +kernel
set_option maxHeartbeats 4000000 in
set_option maxRecDepth 100000 in
theorem tX8_sum (l : Launch) (G : Gg) (b0 : Nat) {K : Kk} {R : Rr} {M : Mm} {r : Nat} {a0 : Int32} {a1 : Int32} {res : Int64} {M' : Mm} (hm : mX8_sum K R M r a0 a1 = some (res, M')) : CT l G b0 yX8_sum cX8_sum 6 (some .long) (rmz 6 132) [.ref r, .int a0, .int a1] K R M (some (.long res)) K R M' := by
  refine ct_of (by decide +kernel) (Nat.le_of_ble_eq_true rfl) (fun w hw => ?_)
  change w 0 0 0 [(0, .ref r), (1, .int a0), (2, .int a1)] [] K R M
  replace hm := h_start hm
  unfold mX8_sum at hm
  obtain ⟨h1, m38⟩ := h_ck hm
  clear hm
  refine r_iload_n hw dX8_sum_0 1 rfl ?_
  refine r_if_lt (tgt := 16) hw dX8_sum_1 (by decide) (fun c2 => ?_) (fun c2 => ?_)
  · have m39 := h_if_t c2 m38
    clear m38
    refine r_ldc2 (v := (-9000000000000000001)) hw dX8_sum_16 kW_X8_160 ?_
    cases h_ret m39
    exact r_lreturn hw rfl rfl dX8_sum_19
  · have m40 := h_if_f c2 m38
    clear m38
    refine r_iload_n hw dX8_sum_4 2 rfl ?_
    refine r_i2l hw dX8_sum_5 ?_
    refine r_lconst (v := 0) hw dX8_sum_6 rfl ?_
    refine r_ldc2 (v := 2) hw dX8_sum_7 kW_X8_315 ?_
    obtain ⟨i3, g3, m41⟩ := h_bd m40
    clear m40
    refine r_callS1 hw (tX8_isIn l G b0 g3) lB_X8_isIn sT_X8_isIn mL_X8_95 rfl rfl (Nat.le_of_ble_eq_true rfl) (Nat.le_of_ble_eq_true rfl) rfl (Nat.le_of_ble_eq_true rfl) dX8_sum_10 ?_
    refine r_if_ne (tgt := 20) hw dX8_sum_13 (by decide) (fun c4 => ?_) (fun c4 => ?_)
    · have m42 := h_if_f c4 m41
      clear m41
      refine r_aload_n hw dX8_sum_20 0 rfl ?_
      obtain ⟨M5, g5, m43⟩ := h_bd m42
      clear m42
      refine r_callV0 hw (tX8_addAll l G b0 g5) lB_X8_addAll lI_X8_addAll mL_X8_312 (c := 8) rfl h1 rfl (Nat.le_of_ble_eq_true rfl) (Nat.le_of_ble_eq_true rfl) rfl (Nat.le_of_ble_eq_true rfl) dX8_sum_21 ?_
      refine r_iconst (v := 0) hw dX8_sum_24 rfl ?_
      obtain ⟨i6, ei6, m44⟩ := h_nm m43
      clear m43
      refine r_topI (w := w) ei6 ?_
      refine r_istore_n hw dX8_sum_25 rfl (by decide) rfl ?_
      refine r_sub hw [1, 2, 3, 0] rfl ?_
      obtain ⟨v26, n026, hn26, hv26⟩ := h_lp m44
      clear m44
      have L26 : ∀ n : Nat, ∀ (i7 : Int32), it (mX8_sum_L26 K R M5 r a0 a1) n (i7) = some v26 → w 0 0 26 [(0, .ref r), (1, .int a0), (2, .int a1), (3, .int i7)] [] K R M5 := by
        intro n26
        induction n26 with
        | zero => intro i7 hz; exact absurd hz h_it0
        | succ n26 ih26 =>
          intro i7 m45
          replace m45 : (mX8_sum_B26 K R M5 r a0 a1 i7).bind (Sum.elim (it (mX8_sum_L26 K R M5 r a0 a1) n26) some) = some v26 := m45
          unfold mX8_sum_B26 at m45
          have J138 : ∀ (i8 : Int32), (mX8_sum_J138 K R M5 r a0 a1 i8).bind (Sum.elim (it (mX8_sum_L26 K R M5 r a0 a1) n26) some) = some v26 → w 0 0 138 [(0, .ref r), (1, .int a0), (2, .int a1), (3, .int i8)] [] K R M5 := by
            intro i8 m46
            unfold mX8_sum_J138 at m46
            obtain ⟨i9, ei9, m47⟩ := h_nm m46
            clear m46
            refine r_iinc (j := 3) (v := i9) hw dX8_sum_138 rfl (by rw [ei9]; rfl) (by decide) rfl ?_
            refine r_goto (tgt := 26) hw dX8_sum_141 (by decide) ?_
            refine r_sub hw [1, 2, 3, 0] rfl ?_
            exact ih26 _ m47
          refine r_iload_n hw dX8_sum_26 3 rfl ?_
          refine r_aload_n hw dX8_sum_27 0 rfl ?_
          refine r_getI hw fO_X8_306 h1 dX8_sum_28 ?_
          refine r_icmp_ge (tgt := 144) hw dX8_sum_31 (by decide) (fun c10 => ?_) (fun c10 => ?_)
          · have m48 := h_if_f c10 m45
            clear m45
            have m49 := h_ex m48 hv26
            clear m48
            refine r_ldc2 (v := (-9000000000000000005)) hw dX8_sum_144 kW_X8_272 ?_
            cases h_ret m49
            exact r_lreturn hw rfl rfl dX8_sum_147
          · have m50 := h_if_t c10 m45
            clear m45
            refine r_iconst (v := 0) hw dX8_sum_34 rfl ?_
            obtain ⟨i11, ei11, m51⟩ := h_nm m50
            clear m50
            refine r_topI (w := w) ei11 ?_
            refine r_istore hw dX8_sum_35 (by decide) rfl ?_
            refine r_iconst (v := 0) hw dX8_sum_37 rfl ?_
            obtain ⟨i12, ei12, m52⟩ := h_nm m51
            clear m51
            refine r_topI (w := w) ei12 ?_
            refine r_istore hw dX8_sum_38 (by decide) rfl ?_
            refine r_sub hw [2, 3, 4, 5, 1, 0] rfl ?_
            obtain ⟨v40, n040, hn40, hv40⟩ := h_lp m52
            clear m52
            have L40 : ∀ n : Nat, ∀ (i13 : Int32) (i14 : Int32), it (mX8_sum_L40 K R M5 r a0 a1 i7) n (i13, i14) = some v40 → w 0 0 40 [(0, .ref r), (1, .int a0), (2, .int a1), (3, .int i7), (4, .int i13), (5, .int i14)] [] K R M5 := by
              intro n40
              induction n40 with
              | zero => intro i13 i14 hz; exact absurd hz h_it0
              | succ n40 ih40 =>
                intro i13 i14 m53
                replace m53 : (mX8_sum_B40 K R M5 r a0 a1 i7 i13 i14).bind (Sum.elim (it (mX8_sum_L40 K R M5 r a0 a1 i7) n40) some) = some v40 := m53
                unfold mX8_sum_B40 at m53
                have J78 : ∀ (i15 : Int32) (s16 : Int32) (s17 : Int32), (mX8_sum_J78 K R M5 r a0 a1 i7 i15 s16 s17).bind (Sum.elim (it (mX8_sum_L40 K R M5 r a0 a1 i7) n40) some) = some v40 → w 0 0 78 [(0, .ref r), (1, .int a0), (2, .int a1), (3, .int i7), (5, .int i15)] [.int s17, .int s16] K R M5 := by
                  intro i15 s16 s17 m54
                  unfold mX8_sum_J78 at m54
                  refine r_iadd hw dX8_sum_78 ?_
                  obtain ⟨i18, ei18, m55⟩ := h_nm m54
                  clear m54
                  refine r_topI (w := w) ei18 ?_
                  refine r_istore hw dX8_sum_79 (by decide) rfl ?_
                  obtain ⟨i19, ei19, m56⟩ := h_nm m55
                  clear m55
                  refine r_iinc (j := 5) (v := i19) hw dX8_sum_81 rfl (by rw [ei19]; rfl) (by decide) rfl ?_
                  refine r_goto (tgt := 40) hw dX8_sum_84 (by decide) ?_
                  refine r_sub hw [2, 3, 4, 5, 1, 0] rfl ?_
                  exact ih40 _ _ m56
                have J77 : ∀ (i20 : Int32) (s21 : Int32), (mX8_sum_J77 K R M5 r a0 a1 i7 i20 s21).bind (Sum.elim (it (mX8_sum_L40 K R M5 r a0 a1 i7) n40) some) = some v40 → w 0 0 77 [(0, .ref r), (1, .int a0), (2, .int a1), (3, .int i7), (5, .int i20)] [.int s21] K R M5 := by
                  intro i20 s21 m57
                  unfold mX8_sum_J77 at m57
                  refine r_iconst (v := 0) hw dX8_sum_77 rfl ?_
                  exact J78 _ _ _ m57
                refine r_iload hw dX8_sum_40 5 rfl ?_
                refine r_aload_n hw dX8_sum_42 0 rfl ?_
                refine r_getI hw fO_X8_306 h1 dX8_sum_43 ?_
                refine r_icmp_ge (tgt := 87) hw dX8_sum_46 (by decide) (fun c22 => ?_) (fun c22 => ?_)
                · have m58 := h_if_f c22 m53
                  clear m53
                  have m59 := h_ex m58 hv40
                  clear m58
                  refine r_aload_n hw dX8_sum_87 0 rfl ?_
                  obtain ⟨q23, bq23, m60⟩ := h_bd m59
                  clear m59
                  refine r_getR hw fO_X8_78 h1 bq23 dX8_sum_88 ?_
                  refine r_iload_n hw dX8_sum_91 3 rfl ?_
                  obtain ⟨h24, m61⟩ := h_ck m60
                  clear m60
                  refine r_laload hw h24 dX8_sum_92 ?_
                  refine r_lconst (v := 0) hw dX8_sum_93 rfl ?_
                  refine r_lcmp_eq (tgt := 138) hw dX8_sum_94 dX8_sum_95 (by decide) (fun c25 => ?_) (fun c25 => ?_)
                  · have m62 := h_if_t c25 m61
                    clear m61
                    refine r_sub hw [0, 1, 2, 3] rfl ?_
                    exact J138 _ m62
                  · have m63 := h_if_f c25 m61
                    clear m61
                    refine r_iload hw dX8_sum_98 4 rfl ?_
                    refine r_iload_n hw dX8_sum_100 1 rfl ?_
                    refine r_icmp_ne (tgt := 138) hw dX8_sum_101 (by decide) (fun c26 => ?_) (fun c26 => ?_)
                    · have m64 := h_if_f c26 m63
                      clear m63
                      refine r_sub hw [0, 1, 2, 3] rfl ?_
                      exact J138 _ m64
                    · have m65 := h_if_t c26 m63
                      clear m63
                      have m66 := h_ex m65 hv26
                      clear m65
                      refine r_iload_n hw dX8_sum_104 2 rfl ?_
                      refine r_if_ne (tgt := 117) hw dX8_sum_105 (by decide) (fun c27 => ?_) (fun c27 => ?_)
                      · have m67 := h_if_f c27 m66
                        clear m66
                        refine r_iload_n hw dX8_sum_117 2 rfl ?_
                        refine r_iconst (v := 1) hw dX8_sum_118 rfl ?_
                        refine r_icmp_ne (tgt := 131) hw dX8_sum_119 (by decide) (fun c28 => ?_) (fun c28 => ?_)
                        · have m68 := h_if_f c28 m67
                          clear m67
                          refine r_aload_n hw dX8_sum_131 0 rfl ?_
                          refine r_getR hw fO_X8_78 h1 bq23 dX8_sum_132 ?_
                          refine r_iload_n hw dX8_sum_135 3 rfl ?_
                          refine r_laload hw h24 dX8_sum_136 ?_
                          cases h_ret m68
                          exact r_lreturn hw rfl rfl dX8_sum_137
                        · have m69 := h_if_t c28 m67
                          clear m67
                          refine r_aload_n hw dX8_sum_122 0 rfl ?_
                          obtain ⟨q29, bq29, m70⟩ := h_bd m69
                          clear m69
                          refine r_getR hw fO_X8_75 h1 bq29 dX8_sum_123 ?_
                          refine r_iload_n hw dX8_sum_126 3 rfl ?_
                          obtain ⟨h30, m71⟩ := h_ck m70
                          clear m70
                          refine r_laload hw h30 dX8_sum_127 ?_
                          refine r_goto (tgt := 137) hw dX8_sum_128 (by decide) ?_
                          cases h_ret m71
                          exact r_lreturn hw rfl rfl dX8_sum_137
                      · have m72 := h_if_t c27 m66
                        clear m66
                        refine r_aload_n hw dX8_sum_108 0 rfl ?_
                        obtain ⟨q31, bq31, m73⟩ := h_bd m72
                        clear m72
                        refine r_getR hw fO_X8_72 h1 bq31 dX8_sum_109 ?_
                        refine r_iload_n hw dX8_sum_112 3 rfl ?_
                        obtain ⟨h32, m74⟩ := h_ck m73
                        clear m73
                        refine r_laload hw h32 dX8_sum_113 ?_
                        refine r_goto (tgt := 137) hw dX8_sum_114 (by decide) ?_
                        cases h_ret m74
                        exact r_lreturn hw rfl rfl dX8_sum_137
                · have m75 := h_if_t c22 m53
                  clear m53
                  refine r_iload hw dX8_sum_49 4 rfl ?_
                  refine r_aload_n hw dX8_sum_51 0 rfl ?_
                  obtain ⟨q33, bq33, m76⟩ := h_bd m75
                  clear m75
                  refine r_getR hw fO_X8_78 h1 bq33 dX8_sum_52 ?_
                  refine r_iload hw dX8_sum_55 5 rfl ?_
                  obtain ⟨h34, m77⟩ := h_ck m76
                  clear m76
                  refine r_laload hw h34 dX8_sum_57 ?_
                  refine r_lconst (v := 0) hw dX8_sum_58 rfl ?_
                  refine r_lcmp_eq (tgt := 77) hw dX8_sum_59 dX8_sum_60 (by decide) (fun c35 => ?_) (fun c35 => ?_)
                  · have m78 := h_if_t c35 m77
                    clear m77
                    refine r_sub hw [0, 1, 2, 3, 5] rfl ?_
                    exact J77 _ _ m78
                  · have m79 := h_if_f c35 m77
                    clear m77
                    refine r_aload_n hw dX8_sum_63 0 rfl ?_
                    refine r_iload hw dX8_sum_64 5 rfl ?_
                    refine r_iload_n hw dX8_sum_66 3 rfl ?_
                    obtain ⟨i36, g36, m80⟩ := h_bd m79
                    clear m79
                    refine r_callV1 hw (tX8_isAhead l G b0 g36) lB_X8_isAhead lI_X8_isAhead mL_X8_317 (c := 8) rfl h1 rfl (Nat.le_of_ble_eq_true rfl) (Nat.le_of_ble_eq_true rfl) rfl (Nat.le_of_ble_eq_true rfl) dX8_sum_67 ?_
                    refine r_if_eq (tgt := 77) hw dX8_sum_70 (by decide) (fun c37 => ?_) (fun c37 => ?_)
                    · have m81 := h_if_t c37 m80
                      clear m80
                      refine r_sub hw [0, 1, 2, 3, 5] rfl ?_
                      exact J77 _ _ m81
                    · have m82 := h_if_f c37 m80
                      clear m80
                      refine r_iconst (v := 1) hw dX8_sum_73 rfl ?_
                      refine r_goto (tgt := 78) hw dX8_sum_74 (by decide) ?_
                      refine r_sub hw [0, 1, 2, 3, 5] rfl ?_
                      exact J78 _ _ _ m82
            exact L40 n040 _ _ hn40
      exact L26 n026 _ hn26
    · have m83 := h_if_t c4 m41
      clear m41
      refine r_ldc2 (v := (-9000000000000000001)) hw dX8_sum_16 kW_X8_160 ?_
      cases h_ret m83
      exact r_lreturn hw rfl rfl dX8_sum_19
theorem dX8_shelve_0 : decode cX8_shelve 0 = .ok (.iload_n 1, 1) := by decide +kernel
theorem dX8_shelve_1 : decode cX8_shelve 1 = .ok (.i2l, 1) := by decide +kernel
theorem dX8_shelve_2 : decode cX8_shelve 2 = .ok (.lconst 0, 1) := by decide +kernel
theorem dX8_shelve_3 : decode cX8_shelve 3 = .ok (.ldc2_w 270, 3) := by decide +kernel
theorem dX8_shelve_6 : decode cX8_shelve 6 = .ok (.invokestatic 95, 3) := by decide +kernel
theorem dX8_shelve_9 : decode cX8_shelve 9 = .ok (.ifCond .ne 7, 3) := by decide +kernel
theorem dX8_shelve_12 : decode cX8_shelve 12 = .ok (.ldc2_w 160, 3) := by decide +kernel
theorem dX8_shelve_15 : decode cX8_shelve 15 = .ok (.lreturn, 1) := by decide +kernel
theorem dX8_shelve_16 : decode cX8_shelve 16 = .ok (.iconst 0, 1) := by decide +kernel
theorem dX8_shelve_17 : decode cX8_shelve 17 = .ok (.istore_n 2, 1) := by decide +kernel
theorem dX8_shelve_18 : decode cX8_shelve 18 = .ok (.iload_n 2, 1) := by decide +kernel
theorem dX8_shelve_19 : decode cX8_shelve 19 = .ok (.sipush 1481, 3) := by decide +kernel
theorem dX8_shelve_22 : decode cX8_shelve 22 = .ok (.if_icmp .ge 27, 3) := by decide +kernel
theorem dX8_shelve_25 : decode cX8_shelve 25 = .ok (.aload_n 0, 1) := by decide +kernel
theorem dX8_shelve_26 : decode cX8_shelve 26 = .ok (.getfield 19, 3) := by decide +kernel
theorem dX8_shelve_29 : decode cX8_shelve 29 = .ok (.sipush 1481, 3) := by decide +kernel
theorem dX8_shelve_32 : decode cX8_shelve 32 = .ok (.iload_n 1, 1) := by decide +kernel
theorem dX8_shelve_33 : decode cX8_shelve 33 = .ok (.imul, 1) := by decide +kernel
theorem dX8_shelve_34 : decode cX8_shelve 34 = .ok (.iload_n 2, 1) := by decide +kernel
theorem dX8_shelve_35 : decode cX8_shelve 35 = .ok (.iadd, 1) := by decide +kernel
theorem dX8_shelve_36 : decode cX8_shelve 36 = .ok (.aload_n 0, 1) := by decide +kernel
theorem dX8_shelve_37 : decode cX8_shelve 37 = .ok (.getfield 7, 3) := by decide +kernel
theorem dX8_shelve_40 : decode cX8_shelve 40 = .ok (.iload_n 2, 1) := by decide +kernel
theorem dX8_shelve_41 : decode cX8_shelve 41 = .ok (.laload, 1) := by decide +kernel
theorem dX8_shelve_42 : decode cX8_shelve 42 = .ok (.lastore, 1) := by decide +kernel
theorem dX8_shelve_43 : decode cX8_shelve 43 = .ok (.iinc 2 1, 3) := by decide +kernel
theorem dX8_shelve_46 : decode cX8_shelve 46 = .ok (.goto (-28), 3) := by decide +kernel
theorem dX8_shelve_49 : decode cX8_shelve 49 = .ok (.aload_n 0, 1) := by decide +kernel
theorem dX8_shelve_50 : decode cX8_shelve 50 = .ok (.getfield 22, 3) := by decide +kernel
theorem dX8_shelve_53 : decode cX8_shelve 53 = .ok (.iload_n 1, 1) := by decide +kernel
theorem dX8_shelve_54 : decode cX8_shelve 54 = .ok (.iconst 1, 1) := by decide +kernel
theorem dX8_shelve_55 : decode cX8_shelve 55 = .ok (.bastore, 1) := by decide +kernel
theorem dX8_shelve_56 : decode cX8_shelve 56 = .ok (.aload_n 0, 1) := by decide +kernel
theorem dX8_shelve_57 : decode cX8_shelve 57 = .ok (.invokevirtual 99, 3) := by decide +kernel
theorem dX8_shelve_60 : decode cX8_shelve 60 = .ok (.i2l, 1) := by decide +kernel
theorem dX8_shelve_61 : decode cX8_shelve 61 = .ok (.lreturn, 1) := by decide +kernel
set_option maxHeartbeats 4000000 in
set_option maxRecDepth 100000 in
theorem tX8_shelve (l : Launch) (G : Gg) (b0 : Nat) {K : Kk} {R : Rr} {M : Mm} {r : Nat} {a0 : Int32} {res : Int64} {M' : Mm} (hm : mX8_shelve K R M r a0 = some (res, M')) : CT l G b0 yX8_shelve cX8_shelve 3 (some .long) (rmz 2 25) [.ref r, .int a0] K R M (some (.long res)) K R M' := by
  refine ct_of (by decide +kernel) (Nat.le_of_ble_eq_true rfl) (fun w hw => ?_)
  change w 0 0 0 [(0, .ref r), (1, .int a0)] [] K R M
  replace hm := h_start hm
  unfold mX8_shelve at hm
  obtain ⟨h1, m18⟩ := h_ck hm
  clear hm
  refine r_iload_n hw dX8_shelve_0 1 rfl ?_
  refine r_i2l hw dX8_shelve_1 ?_
  refine r_lconst (v := 0) hw dX8_shelve_2 rfl ?_
  refine r_ldc2 (v := 3) hw dX8_shelve_3 kW_X8_270 ?_
  obtain ⟨i2, g2, m19⟩ := h_bd m18
  clear m18
  refine r_callS1 hw (tX8_isIn l G b0 g2) lB_X8_isIn sT_X8_isIn mL_X8_95 rfl rfl (Nat.le_of_ble_eq_true rfl) (Nat.le_of_ble_eq_true rfl) rfl (Nat.le_of_ble_eq_true rfl) dX8_shelve_6 ?_
  refine r_if_ne (tgt := 16) hw dX8_shelve_9 (by decide) (fun c3 => ?_) (fun c3 => ?_)
  · have m20 := h_if_f c3 m19
    clear m19
    refine r_iconst (v := 0) hw dX8_shelve_16 rfl ?_
    obtain ⟨i4, ei4, m21⟩ := h_nm m20
    clear m20
    refine r_topI (w := w) ei4 ?_
    refine r_istore_n hw dX8_shelve_17 rfl (by decide) rfl ?_
    refine r_sub hw [1, 2, 0] rfl ?_
    obtain ⟨v18, n018, hn18, hv18⟩ := h_lp m21
    clear m21
    have L18 : ∀ n : Nat, ∀ (i5 : Int32) (M6 : Mm), it (mX8_shelve_L18 K R r a0) n (i5, M6) = some v18 → w 0 0 18 [(0, .ref r), (1, .int a0), (2, .int i5)] [] K R M6 := by
      intro n18
      induction n18 with
      | zero => intro i5 M6 hz; exact absurd hz h_it0
      | succ n18 ih18 =>
        intro i5 M6 m22
        replace m22 : (mX8_shelve_B18 K R r a0 i5 M6).bind (Sum.elim (it (mX8_shelve_L18 K R r a0) n18) some) = some v18 := m22
        unfold mX8_shelve_B18 at m22
        refine r_iload_n hw dX8_shelve_18 2 rfl ?_
        refine r_sipush (v := 1481) hw dX8_shelve_19 rfl ?_
        refine r_icmp_ge (tgt := 49) hw dX8_shelve_22 (by decide) (fun c7 => ?_) (fun c7 => ?_)
        · have m23 := h_if_f c7 m22
          clear m22
          have m24 := h_ex m23 hv18
          clear m23
          refine r_aload_n hw dX8_shelve_49 0 rfl ?_
          obtain ⟨q8, bq8, m25⟩ := h_bd m24
          clear m24
          refine r_getR hw fO_X8_22 h1 bq8 dX8_shelve_50 ?_
          refine r_iload_n hw dX8_shelve_53 1 rfl ?_
          refine r_iconst (v := 1) hw dX8_shelve_54 rfl ?_
          obtain ⟨h9, m26⟩ := h_ck m25
          clear m25
          obtain ⟨M10, eM10, m27⟩ := h_nm m26
          clear m26
          refine r_bastore hw h9 dX8_shelve_55 (r_mem ?_ rfl eM10)
          refine r_aload_n hw dX8_shelve_56 0 rfl ?_
          obtain ⟨i11, g11, m28⟩ := h_bd m27
          clear m27
          refine r_callV1 hw (tX8_pieces l G b0 g11) lB_X8_pieces lI_X8_pieces mL_X8_99 (c := 8) rfl h1 rfl (Nat.le_of_ble_eq_true rfl) (Nat.le_of_ble_eq_true rfl) rfl (Nat.le_of_ble_eq_true rfl) dX8_shelve_57 ?_
          refine r_i2l hw dX8_shelve_60 ?_
          cases h_ret m28
          exact r_lreturn hw rfl rfl dX8_shelve_61
        · have m29 := h_if_t c7 m22
          clear m22
          refine r_aload_n hw dX8_shelve_25 0 rfl ?_
          obtain ⟨q12, bq12, m30⟩ := h_bd m29
          clear m29
          refine r_getR hw fO_X8_19 h1 bq12 dX8_shelve_26 ?_
          refine r_sipush (v := 1481) hw dX8_shelve_29 rfl ?_
          refine r_iload_n hw dX8_shelve_32 1 rfl ?_
          refine r_imul hw dX8_shelve_33 ?_
          refine r_iload_n hw dX8_shelve_34 2 rfl ?_
          refine r_iadd hw dX8_shelve_35 ?_
          refine r_aload_n hw dX8_shelve_36 0 rfl ?_
          obtain ⟨q13, bq13, m31⟩ := h_bd m30
          clear m30
          refine r_getR hw fO_X8_7 h1 bq13 dX8_shelve_37 ?_
          refine r_iload_n hw dX8_shelve_40 2 rfl ?_
          obtain ⟨h14, m32⟩ := h_ck m31
          clear m31
          refine r_laload hw h14 dX8_shelve_41 ?_
          obtain ⟨h15, m33⟩ := h_ck m32
          clear m32
          obtain ⟨M16, eM16, m34⟩ := h_nm m33
          clear m33
          refine r_lastore hw h15 dX8_shelve_42 (r_mem ?_ rfl eM16)
          obtain ⟨i17, ei17, m35⟩ := h_nm m34
          clear m34
          refine r_iinc (j := 2) (v := i17) hw dX8_shelve_43 rfl (by rw [ei17]; rfl) (by decide) rfl ?_
          refine r_goto (tgt := 18) hw dX8_shelve_46 (by decide) ?_
          refine r_sub hw [1, 2, 0] rfl ?_
          exact ih18 _ _ m35
    exact L18 n018 _ _ hn18
  · have m36 := h_if_t c3 m19
    clear m19
    refine r_ldc2 (v := (-9000000000000000001)) hw dX8_shelve_12 kW_X8_160 ?_
    cases h_ret m36
    exact r_lreturn hw rfl rfl dX8_shelve_15
theorem dX8_fetch_0 : decode cX8_fetch 0 = .ok (.iload_n 1, 1) := by decide +kernel
theorem dX8_fetch_1 : decode cX8_fetch 1 = .ok (.i2l, 1) := by decide +kernel
theorem dX8_fetch_2 : decode cX8_fetch 2 = .ok (.lconst 0, 1) := by decide +kernel
theorem dX8_fetch_3 : decode cX8_fetch 3 = .ok (.ldc2_w 270, 3) := by decide +kernel
theorem dX8_fetch_6 : decode cX8_fetch 6 = .ok (.invokestatic 95, 3) := by decide +kernel
theorem dX8_fetch_9 : decode cX8_fetch 9 = .ok (.ifCond .ne 7, 3) := by decide +kernel
theorem dX8_fetch_12 : decode cX8_fetch 12 = .ok (.ldc2_w 160, 3) := by decide +kernel
theorem dX8_fetch_15 : decode cX8_fetch 15 = .ok (.lreturn, 1) := by decide +kernel
theorem dX8_fetch_16 : decode cX8_fetch 16 = .ok (.aload_n 0, 1) := by decide +kernel
theorem dX8_fetch_17 : decode cX8_fetch 17 = .ok (.getfield 22, 3) := by decide +kernel
theorem dX8_fetch_20 : decode cX8_fetch 20 = .ok (.iload_n 1, 1) := by decide +kernel
theorem dX8_fetch_21 : decode cX8_fetch 21 = .ok (.baload, 1) := by decide +kernel
theorem dX8_fetch_22 : decode cX8_fetch 22 = .ok (.ifCond .ne 7, 3) := by decide +kernel
theorem dX8_fetch_25 : decode cX8_fetch 25 = .ok (.ldc2_w 113, 3) := by decide +kernel
theorem dX8_fetch_28 : decode cX8_fetch 28 = .ok (.lreturn, 1) := by decide +kernel
theorem dX8_fetch_29 : decode cX8_fetch 29 = .ok (.aload_n 0, 1) := by decide +kernel
theorem dX8_fetch_30 : decode cX8_fetch 30 = .ok (.invokevirtual 174, 3) := by decide +kernel
theorem dX8_fetch_33 : decode cX8_fetch 33 = .ok (.iconst 0, 1) := by decide +kernel
theorem dX8_fetch_34 : decode cX8_fetch 34 = .ok (.istore_n 2, 1) := by decide +kernel
theorem dX8_fetch_35 : decode cX8_fetch 35 = .ok (.iload_n 2, 1) := by decide +kernel
theorem dX8_fetch_36 : decode cX8_fetch 36 = .ok (.sipush 1481, 3) := by decide +kernel
theorem dX8_fetch_39 : decode cX8_fetch 39 = .ok (.if_icmp .ge 27, 3) := by decide +kernel
theorem dX8_fetch_42 : decode cX8_fetch 42 = .ok (.aload_n 0, 1) := by decide +kernel
theorem dX8_fetch_43 : decode cX8_fetch 43 = .ok (.getfield 7, 3) := by decide +kernel
theorem dX8_fetch_46 : decode cX8_fetch 46 = .ok (.iload_n 2, 1) := by decide +kernel
theorem dX8_fetch_47 : decode cX8_fetch 47 = .ok (.aload_n 0, 1) := by decide +kernel
theorem dX8_fetch_48 : decode cX8_fetch 48 = .ok (.getfield 19, 3) := by decide +kernel
theorem dX8_fetch_51 : decode cX8_fetch 51 = .ok (.sipush 1481, 3) := by decide +kernel
theorem dX8_fetch_54 : decode cX8_fetch 54 = .ok (.iload_n 1, 1) := by decide +kernel
theorem dX8_fetch_55 : decode cX8_fetch 55 = .ok (.imul, 1) := by decide +kernel
theorem dX8_fetch_56 : decode cX8_fetch 56 = .ok (.iload_n 2, 1) := by decide +kernel
theorem dX8_fetch_57 : decode cX8_fetch 57 = .ok (.iadd, 1) := by decide +kernel
theorem dX8_fetch_58 : decode cX8_fetch 58 = .ok (.laload, 1) := by decide +kernel
theorem dX8_fetch_59 : decode cX8_fetch 59 = .ok (.lastore, 1) := by decide +kernel
theorem dX8_fetch_60 : decode cX8_fetch 60 = .ok (.iinc 2 1, 3) := by decide +kernel
theorem dX8_fetch_63 : decode cX8_fetch 63 = .ok (.goto (-28), 3) := by decide +kernel
theorem dX8_fetch_66 : decode cX8_fetch 66 = .ok (.aload_n 0, 1) := by decide +kernel
theorem dX8_fetch_67 : decode cX8_fetch 67 = .ok (.invokevirtual 99, 3) := by decide +kernel
theorem dX8_fetch_70 : decode cX8_fetch 70 = .ok (.i2l, 1) := by decide +kernel
theorem dX8_fetch_71 : decode cX8_fetch 71 = .ok (.lreturn, 1) := by decide +kernel
set_option maxHeartbeats 4000000 in
set_option maxRecDepth 100000 in
theorem tX8_fetch (l : Launch) (G : Gg) (b0 : Nat) {K : Kk} {R : Rr} {M : Mm} {r : Nat} {a0 : Int32} {res : Int64} {M' : Mm} (hm : mX8_fetch K R M r a0 = some (res, M')) : CT l G b0 yX8_fetch cX8_fetch 3 (some .long) (rmz 2 25) [.ref r, .int a0] K R M (some (.long res)) K R M' := by
  refine ct_of (by decide +kernel) (Nat.le_of_ble_eq_true rfl) (fun w hw => ?_)
  change w 0 0 0 [(0, .ref r), (1, .int a0)] [] K R M
  replace hm := h_start hm
  unfold mX8_fetch at hm
  obtain ⟨h1, m19⟩ := h_ck hm
  clear hm
  refine r_iload_n hw dX8_fetch_0 1 rfl ?_
  refine r_i2l hw dX8_fetch_1 ?_
  refine r_lconst (v := 0) hw dX8_fetch_2 rfl ?_
  refine r_ldc2 (v := 3) hw dX8_fetch_3 kW_X8_270 ?_
  obtain ⟨i2, g2, m20⟩ := h_bd m19
  clear m19
  refine r_callS1 hw (tX8_isIn l G b0 g2) lB_X8_isIn sT_X8_isIn mL_X8_95 rfl rfl (Nat.le_of_ble_eq_true rfl) (Nat.le_of_ble_eq_true rfl) rfl (Nat.le_of_ble_eq_true rfl) dX8_fetch_6 ?_
  refine r_if_ne (tgt := 16) hw dX8_fetch_9 (by decide) (fun c3 => ?_) (fun c3 => ?_)
  · have m21 := h_if_f c3 m20
    clear m20
    refine r_aload_n hw dX8_fetch_16 0 rfl ?_
    obtain ⟨q4, bq4, m22⟩ := h_bd m21
    clear m21
    refine r_getR hw fO_X8_22 h1 bq4 dX8_fetch_17 ?_
    refine r_iload_n hw dX8_fetch_20 1 rfl ?_
    obtain ⟨h5, m23⟩ := h_ck m22
    clear m22
    refine r_baload hw h5 dX8_fetch_21 ?_
    refine r_if_ne (tgt := 29) hw dX8_fetch_22 (by decide) (fun c6 => ?_) (fun c6 => ?_)
    · have m24 := h_if_f c6 m23
      clear m23
      refine r_aload_n hw dX8_fetch_29 0 rfl ?_
      obtain ⟨M7, g7, m25⟩ := h_bd m24
      clear m24
      refine r_callV0 hw (tX8_keep l G b0 g7) lB_X8_keep lI_X8_keep mL_X8_174 (c := 8) rfl h1 rfl (Nat.le_of_ble_eq_true rfl) (Nat.le_of_ble_eq_true rfl) rfl (Nat.le_of_ble_eq_true rfl) dX8_fetch_30 ?_
      refine r_iconst (v := 0) hw dX8_fetch_33 rfl ?_
      obtain ⟨i8, ei8, m26⟩ := h_nm m25
      clear m25
      refine r_topI (w := w) ei8 ?_
      refine r_istore_n hw dX8_fetch_34 rfl (by decide) rfl ?_
      refine r_sub hw [1, 2, 0] rfl ?_
      obtain ⟨v35, n035, hn35, hv35⟩ := h_lp m26
      clear m26
      have L35 : ∀ n : Nat, ∀ (i9 : Int32) (M10 : Mm), it (mX8_fetch_L35 K R r a0) n (i9, M10) = some v35 → w 0 0 35 [(0, .ref r), (1, .int a0), (2, .int i9)] [] K R M10 := by
        intro n35
        induction n35 with
        | zero => intro i9 M10 hz; exact absurd hz h_it0
        | succ n35 ih35 =>
          intro i9 M10 m27
          replace m27 : (mX8_fetch_B35 K R r a0 i9 M10).bind (Sum.elim (it (mX8_fetch_L35 K R r a0) n35) some) = some v35 := m27
          unfold mX8_fetch_B35 at m27
          refine r_iload_n hw dX8_fetch_35 2 rfl ?_
          refine r_sipush (v := 1481) hw dX8_fetch_36 rfl ?_
          refine r_icmp_ge (tgt := 66) hw dX8_fetch_39 (by decide) (fun c11 => ?_) (fun c11 => ?_)
          · have m28 := h_if_f c11 m27
            clear m27
            have m29 := h_ex m28 hv35
            clear m28
            refine r_aload_n hw dX8_fetch_66 0 rfl ?_
            obtain ⟨i12, g12, m30⟩ := h_bd m29
            clear m29
            refine r_callV1 hw (tX8_pieces l G b0 g12) lB_X8_pieces lI_X8_pieces mL_X8_99 (c := 8) rfl h1 rfl (Nat.le_of_ble_eq_true rfl) (Nat.le_of_ble_eq_true rfl) rfl (Nat.le_of_ble_eq_true rfl) dX8_fetch_67 ?_
            refine r_i2l hw dX8_fetch_70 ?_
            cases h_ret m30
            exact r_lreturn hw rfl rfl dX8_fetch_71
          · have m31 := h_if_t c11 m27
            clear m27
            refine r_aload_n hw dX8_fetch_42 0 rfl ?_
            obtain ⟨q13, bq13, m32⟩ := h_bd m31
            clear m31
            refine r_getR hw fO_X8_7 h1 bq13 dX8_fetch_43 ?_
            refine r_iload_n hw dX8_fetch_46 2 rfl ?_
            refine r_aload_n hw dX8_fetch_47 0 rfl ?_
            obtain ⟨q14, bq14, m33⟩ := h_bd m32
            clear m32
            refine r_getR hw fO_X8_19 h1 bq14 dX8_fetch_48 ?_
            refine r_sipush (v := 1481) hw dX8_fetch_51 rfl ?_
            refine r_iload_n hw dX8_fetch_54 1 rfl ?_
            refine r_imul hw dX8_fetch_55 ?_
            refine r_iload_n hw dX8_fetch_56 2 rfl ?_
            refine r_iadd hw dX8_fetch_57 ?_
            obtain ⟨h15, m34⟩ := h_ck m33
            clear m33
            refine r_laload hw h15 dX8_fetch_58 ?_
            obtain ⟨h16, m35⟩ := h_ck m34
            clear m34
            obtain ⟨M17, eM17, m36⟩ := h_nm m35
            clear m35
            refine r_lastore hw h16 dX8_fetch_59 (r_mem ?_ rfl eM17)
            obtain ⟨i18, ei18, m37⟩ := h_nm m36
            clear m36
            refine r_iinc (j := 2) (v := i18) hw dX8_fetch_60 rfl (by rw [ei18]; rfl) (by decide) rfl ?_
            refine r_goto (tgt := 35) hw dX8_fetch_63 (by decide) ?_
            refine r_sub hw [1, 2, 0] rfl ?_
            exact ih35 _ _ m37
      exact L35 n035 _ _ hn35
    · have m38 := h_if_t c6 m23
      clear m23
      refine r_ldc2 (v := (-9000000000000000002)) hw dX8_fetch_25 kW_X8_113 ?_
      cases h_ret m38
      exact r_lreturn hw rfl rfl dX8_fetch_28
  · have m39 := h_if_t c3 m20
    clear m20
    refine r_ldc2 (v := (-9000000000000000001)) hw dX8_fetch_12 kW_X8_160 ?_
    cases h_ret m39
    exact r_lreturn hw rfl rfl dX8_fetch_15
