theorem dX8_together_0 : decode cX8_together 0 = .ok (.aload_n 0, 1) := by decide +kernel
theorem dX8_together_1 : decode cX8_together 1 = .ok (.iconst 0, 1) := by decide +kernel
theorem dX8_together_2 : decode cX8_together 2 = .ok (.putfield 241, 3) := by decide +kernel
theorem dX8_together_5 : decode cX8_together 5 = .ok (.iconst 1, 1) := by decide +kernel
theorem dX8_together_6 : decode cX8_together 6 = .ok (.istore_n 2, 1) := by decide +kernel
theorem dX8_together_7 : decode cX8_together 7 = .ok (.iload_n 2, 1) := by decide +kernel
theorem dX8_together_8 : decode cX8_together 8 = .ok (.aload_n 0, 1) := by decide +kernel
theorem dX8_together_9 : decode cX8_together 9 = .ok (.getfield 146, 3) := by decide +kernel
theorem dX8_together_12 : decode cX8_together 12 = .ok (.if_icmp .gt 63, 3) := by decide +kernel
theorem dX8_together_15 : decode cX8_together 15 = .ok (.aload_n 0, 1) := by decide +kernel
theorem dX8_together_16 : decode cX8_together 16 = .ok (.getfield 66, 3) := by decide +kernel
theorem dX8_together_19 : decode cX8_together 19 = .ok (.aload_n 0, 1) := by decide +kernel
theorem dX8_together_20 : decode cX8_together 20 = .ok (.getfield 241, 3) := by decide +kernel
theorem dX8_together_23 : decode cX8_together 23 = .ok (.aload_n 0, 1) := by decide +kernel
theorem dX8_together_24 : decode cX8_together 24 = .ok (.getfield 42, 3) := by decide +kernel
theorem dX8_together_27 : decode cX8_together 27 = .ok (.iload_n 1, 1) := by decide +kernel
theorem dX8_together_28 : decode cX8_together 28 = .ok (.iload_n 2, 1) := by decide +kernel
theorem dX8_together_29 : decode cX8_together 29 = .ok (.iadd, 1) := by decide +kernel
theorem dX8_together_30 : decode cX8_together 30 = .ok (.aload_n 0, 1) := by decide +kernel
theorem dX8_together_31 : decode cX8_together 31 = .ok (.getfield 146, 3) := by decide +kernel
theorem dX8_together_34 : decode cX8_together 34 = .ok (.irem, 1) := by decide +kernel
theorem dX8_together_35 : decode cX8_together 35 = .ok (.laload, 1) := by decide +kernel
theorem dX8_together_36 : decode cX8_together 36 = .ok (.lastore, 1) := by decide +kernel
theorem dX8_together_37 : decode cX8_together 37 = .ok (.aload_n 0, 1) := by decide +kernel
theorem dX8_together_38 : decode cX8_together 38 = .ok (.getfield 69, 3) := by decide +kernel
theorem dX8_together_41 : decode cX8_together 41 = .ok (.aload_n 0, 1) := by decide +kernel
theorem dX8_together_42 : decode cX8_together 42 = .ok (.getfield 241, 3) := by decide +kernel
theorem dX8_together_45 : decode cX8_together 45 = .ok (.aload_n 0, 1) := by decide +kernel
theorem dX8_together_46 : decode cX8_together 46 = .ok (.getfield 45, 3) := by decide +kernel
theorem dX8_together_49 : decode cX8_together 49 = .ok (.iload_n 1, 1) := by decide +kernel
theorem dX8_together_50 : decode cX8_together 50 = .ok (.iload_n 2, 1) := by decide +kernel
theorem dX8_together_51 : decode cX8_together 51 = .ok (.iadd, 1) := by decide +kernel
theorem dX8_together_52 : decode cX8_together 52 = .ok (.aload_n 0, 1) := by decide +kernel
theorem dX8_together_53 : decode cX8_together 53 = .ok (.getfield 146, 3) := by decide +kernel
theorem dX8_together_56 : decode cX8_together 56 = .ok (.irem, 1) := by decide +kernel
theorem dX8_together_57 : decode cX8_together 57 = .ok (.laload, 1) := by decide +kernel
theorem dX8_together_58 : decode cX8_together 58 = .ok (.lastore, 1) := by decide +kernel
theorem dX8_together_59 : decode cX8_together 59 = .ok (.aload_n 0, 1) := by decide +kernel
theorem dX8_together_60 : decode cX8_together 60 = .ok (.dup, 1) := by decide +kernel
theorem dX8_together_61 : decode cX8_together 61 = .ok (.getfield 241, 3) := by decide +kernel
theorem dX8_together_64 : decode cX8_together 64 = .ok (.iconst 1, 1) := by decide +kernel
theorem dX8_together_65 : decode cX8_together 65 = .ok (.iadd, 1) := by decide +kernel
theorem dX8_together_66 : decode cX8_together 66 = .ok (.putfield 241, 3) := by decide +kernel
theorem dX8_together_69 : decode cX8_together 69 = .ok (.iinc 2 1, 3) := by decide +kernel
theorem dX8_together_72 : decode cX8_together 72 = .ok (.goto (-65), 3) := by decide +kernel
theorem dX8_together_75 : decode cX8_together 75 = .ok (.iconst 0, 1) := by decide +kernel
theorem dX8_together_76 : decode cX8_together 76 = .ok (.istore_n 2, 1) := by decide +kernel
theorem dX8_together_77 : decode cX8_together 77 = .ok (.aload_n 0, 1) := by decide +kernel
theorem dX8_together_78 : decode cX8_together 78 = .ok (.getfield 48, 3) := by decide +kernel
theorem dX8_together_81 : decode cX8_together 81 = .ok (.iload_n 2, 1) := by decide +kernel
theorem dX8_together_82 : decode cX8_together 82 = .ok (.laload, 1) := by decide +kernel
theorem dX8_together_83 : decode cX8_together 83 = .ok (.aload_n 0, 1) := by decide +kernel
theorem dX8_together_84 : decode cX8_together 84 = .ok (.getfield 42, 3) := by decide +kernel
theorem dX8_together_87 : decode cX8_together 87 = .ok (.iload_n 1, 1) := by decide +kernel
theorem dX8_together_88 : decode cX8_together 88 = .ok (.laload, 1) := by decide +kernel
theorem dX8_together_89 : decode cX8_together 89 = .ok (.lcmp, 1) := by decide +kernel
theorem dX8_together_90 : decode cX8_together 90 = .ok (.ifCond .ne 19, 3) := by decide +kernel
theorem dX8_together_93 : decode cX8_together 93 = .ok (.aload_n 0, 1) := by decide +kernel
theorem dX8_together_94 : decode cX8_together 94 = .ok (.getfield 51, 3) := by decide +kernel
theorem dX8_together_97 : decode cX8_together 97 = .ok (.iload_n 2, 1) := by decide +kernel
theorem dX8_together_98 : decode cX8_together 98 = .ok (.laload, 1) := by decide +kernel
theorem dX8_together_99 : decode cX8_together 99 = .ok (.aload_n 0, 1) := by decide +kernel
theorem dX8_together_100 : decode cX8_together 100 = .ok (.getfield 45, 3) := by decide +kernel
theorem dX8_together_103 : decode cX8_together 103 = .ok (.iload_n 1, 1) := by decide +kernel
theorem dX8_together_104 : decode cX8_together 104 = .ok (.laload, 1) := by decide +kernel
theorem dX8_together_105 : decode cX8_together 105 = .ok (.lcmp, 1) := by decide +kernel
theorem dX8_together_106 : decode cX8_together 106 = .ok (.ifCond .eq 9, 3) := by decide +kernel
theorem dX8_together_109 : decode cX8_together 109 = .ok (.iinc 2 1, 3) := by decide +kernel
theorem dX8_together_112 : decode cX8_together 112 = .ok (.goto (-35), 3) := by decide +kernel
theorem dX8_together_115 : decode cX8_together 115 = .ok (.iconst 1, 1) := by decide +kernel
theorem dX8_together_116 : decode cX8_together 116 = .ok (.istore_n 3, 1) := by decide +kernel
theorem dX8_together_117 : decode cX8_together 117 = .ok (.iload_n 3, 1) := by decide +kernel
theorem dX8_together_118 : decode cX8_together 118 = .ok (.aload_n 0, 1) := by decide +kernel
theorem dX8_together_119 : decode cX8_together 119 = .ok (.getfield 153, 3) := by decide +kernel
theorem dX8_together_122 : decode cX8_together 122 = .ok (.iconst 1, 1) := by decide +kernel
theorem dX8_together_123 : decode cX8_together 123 = .ok (.isub, 1) := by decide +kernel
theorem dX8_together_124 : decode cX8_together 124 = .ok (.if_icmp .ge 63, 3) := by decide +kernel
theorem dX8_together_127 : decode cX8_together 127 = .ok (.aload_n 0, 1) := by decide +kernel
theorem dX8_together_128 : decode cX8_together 128 = .ok (.getfield 66, 3) := by decide +kernel
theorem dX8_together_131 : decode cX8_together 131 = .ok (.aload_n 0, 1) := by decide +kernel
theorem dX8_together_132 : decode cX8_together 132 = .ok (.getfield 241, 3) := by decide +kernel
theorem dX8_together_135 : decode cX8_together 135 = .ok (.aload_n 0, 1) := by decide +kernel
theorem dX8_together_136 : decode cX8_together 136 = .ok (.getfield 48, 3) := by decide +kernel
theorem dX8_together_139 : decode cX8_together 139 = .ok (.iload_n 2, 1) := by decide +kernel
theorem dX8_together_140 : decode cX8_together 140 = .ok (.iload_n 3, 1) := by decide +kernel
theorem dX8_together_141 : decode cX8_together 141 = .ok (.iadd, 1) := by decide +kernel
theorem dX8_together_142 : decode cX8_together 142 = .ok (.aload_n 0, 1) := by decide +kernel
theorem dX8_together_143 : decode cX8_together 143 = .ok (.getfield 153, 3) := by decide +kernel
theorem dX8_together_146 : decode cX8_together 146 = .ok (.irem, 1) := by decide +kernel
theorem dX8_together_147 : decode cX8_together 147 = .ok (.laload, 1) := by decide +kernel
theorem dX8_together_148 : decode cX8_together 148 = .ok (.lastore, 1) := by decide +kernel
theorem dX8_together_149 : decode cX8_together 149 = .ok (.aload_n 0, 1) := by decide +kernel
theorem dX8_together_150 : decode cX8_together 150 = .ok (.getfield 69, 3) := by decide +kernel
theorem dX8_together_153 : decode cX8_together 153 = .ok (.aload_n 0, 1) := by decide +kernel
theorem dX8_together_154 : decode cX8_together 154 = .ok (.getfield 241, 3) := by decide +kernel
theorem dX8_together_157 : decode cX8_together 157 = .ok (.aload_n 0, 1) := by decide +kernel
theorem dX8_together_158 : decode cX8_together 158 = .ok (.getfield 51, 3) := by decide +kernel
theorem dX8_together_161 : decode cX8_together 161 = .ok (.iload_n 2, 1) := by decide +kernel
theorem dX8_together_162 : decode cX8_together 162 = .ok (.iload_n 3, 1) := by decide +kernel
theorem dX8_together_163 : decode cX8_together 163 = .ok (.iadd, 1) := by decide +kernel
theorem dX8_together_164 : decode cX8_together 164 = .ok (.aload_n 0, 1) := by decide +kernel
theorem dX8_together_165 : decode cX8_together 165 = .ok (.getfield 153, 3) := by decide +kernel
theorem dX8_together_168 : decode cX8_together 168 = .ok (.irem, 1) := by decide +kernel
theorem dX8_together_169 : decode cX8_together 169 = .ok (.laload, 1) := by decide +kernel
theorem dX8_together_170 : decode cX8_together 170 = .ok (.lastore, 1) := by decide +kernel
theorem dX8_together_171 : decode cX8_together 171 = .ok (.aload_n 0, 1) := by decide +kernel
theorem dX8_together_172 : decode cX8_together 172 = .ok (.dup, 1) := by decide +kernel
theorem dX8_together_173 : decode cX8_together 173 = .ok (.getfield 241, 3) := by decide +kernel
theorem dX8_together_176 : decode cX8_together 176 = .ok (.iconst 1, 1) := by decide +kernel
theorem dX8_together_177 : decode cX8_together 177 = .ok (.iadd, 1) := by decide +kernel
theorem dX8_together_178 : decode cX8_together 178 = .ok (.putfield 241, 3) := by decide +kernel
theorem dX8_together_181 : decode cX8_together 181 = .ok (.iinc 3 1, 3) := by decide +kernel
theorem dX8_together_184 : decode cX8_together 184 = .ok (.goto (-67), 3) := by decide +kernel
theorem dX8_together_187 : decode cX8_together 187 = .ok (.return_, 1) := by decide +kernel
set_option maxHeartbeats 4000000 in
set_option maxRecDepth 100000 in
theorem tX8_together (l : Launch) (G : Gg) (b0 : Nat) {K : Kk} {R : Rr} {M : Mm} {r : Nat} {a0 : Int32} {M' : Mm} (hm : mX8_together K R M r a0 = some (M')) : CT l G b0 yX8_together cX8_together 4 none (rmz 1 0) [.ref r, .int a0] K R M none K R M' := by
  refine ct_of (by decide +kernel) (Nat.le_of_ble_eq_true rfl) (fun w hq => ?_)
  have hw := hq.b
  change w 0 0 0 [(0, .ref r), (1, .int a0)] [] K R M
  replace hm := h_start hm
  unfold mX8_together at hm
  obtain ⟨h1, m53⟩ := h_ck hm
  clear hm
  refine r_aload_n hw dX8_together_0 0 rfl ?_
  refine r_iconst (v := 0) hw dX8_together_1 rfl ?_
  obtain ⟨M2, eM2, m54⟩ := h_nm m53
  clear m53
  refine r_putI hw fP_X8_241 h1 dX8_together_2 (r_mem ?_ rfl eM2)
  refine r_iconst (v := 1) hw dX8_together_5 rfl ?_
  obtain ⟨i3, ei3, m55⟩ := h_nm m54
  clear m54
  refine r_topI (w := w) ei3 ?_
  refine r_istore_n hw dX8_together_6 rfl (by decide) rfl ?_
  refine r_sub hw [1, 2, 0] rfl ?_
  obtain ⟨v7, n07, hn7, hv7⟩ := h_lp m55
  clear m55
  have L7 : ∀ n : Nat, ∀ (i4 : Int32) (M5 : Mm), it (mX8_together_L7 K R r a0) n (i4, M5) = some v7 → w 0 0 7 [(0, .ref r), (1, .int a0), (2, .int i4)] [] K R M5 := by
    intro n7
    induction n7 with
    | zero => intro i4 M5 hz; exact absurd hz h_it0
    | succ n7 ih7 =>
      intro i4 M5 m56
      replace m56 : (mX8_together_B7 K R r a0 i4 M5).bind (Sum.elim (it (mX8_together_L7 K R r a0) n7) some) = some v7 := m56
      unfold mX8_together_B7 at m56
      refine r_iload_n hw dX8_together_7 2 rfl ?_
      refine r_aload_n hw dX8_together_8 0 rfl ?_
      refine r_getI hw fO_X8_146 h1 dX8_together_9 ?_
      refine r_icmp_gt (tgt := 75) hw dX8_together_12 (by decide) (fun c6 => ?_) (fun c6 => ?_)
      · have m57 := h_if_f c6 m56
        clear m56
        have m58 := h_ex m57 hv7
        clear m57
        refine r_iconst (v := 0) hw dX8_together_75 rfl ?_
        obtain ⟨i7, ei7, m59⟩ := h_nm m58
        clear m58
        refine r_topI (w := w) ei7 ?_
        refine r_istore_n hw dX8_together_76 rfl (by decide) rfl ?_
        refine r_sub hw [1, 2, 0] rfl ?_
        obtain ⟨v77, n077, hn77, hv77⟩ := h_lp m59
        clear m59
        have L77 : ∀ n : Nat, ∀ (i8 : Int32), it (mX8_together_L77 K R M5 r a0) n (i8) = some v77 → w 0 0 77 [(0, .ref r), (1, .int a0), (2, .int i8)] [] K R M5 := by
          intro n77
          induction n77 with
          | zero => intro i8 hz; exact absurd hz h_it0
          | succ n77 ih77 =>
            intro i8 m60
            replace m60 : (mX8_together_B77 K R M5 r a0 i8).bind (Sum.elim (it (mX8_together_L77 K R M5 r a0) n77) some) = some v77 := m60
            unfold mX8_together_B77 at m60
            have J109 : ∀ (i9 : Int32), (mX8_together_J109 K R M5 r a0 i9).bind (Sum.elim (it (mX8_together_L77 K R M5 r a0) n77) some) = some v77 → w 0 0 109 [(0, .ref r), (1, .int a0), (2, .int i9)] [] K R M5 := by
              intro i9 m61
              unfold mX8_together_J109 at m61
              obtain ⟨i10, ei10, m62⟩ := h_nm m61
              clear m61
              refine r_iinc (j := 2) (v := i10) hw dX8_together_109 rfl (by rw [ei10]; rfl) (by decide) rfl ?_
              refine r_goto (tgt := 77) hw dX8_together_112 (by decide) ?_
              refine r_sub hw [1, 2, 0] rfl ?_
              exact ih77 _ m62
            refine r_aload_n hw dX8_together_77 0 rfl ?_
            obtain ⟨q11, bq11, m63⟩ := h_bd m60
            clear m60
            refine r_getR hw fO_X8_48 h1 bq11 dX8_together_78 ?_
            refine r_iload_n hw dX8_together_81 2 rfl ?_
            obtain ⟨h12, m64⟩ := h_ck m63
            clear m63
            refine r_laload hw h12 dX8_together_82 ?_
            refine r_aload_n hw dX8_together_83 0 rfl ?_
            obtain ⟨q13, bq13, m65⟩ := h_bd m64
            clear m64
            refine r_getR hw fO_X8_42 h1 bq13 dX8_together_84 ?_
            refine r_iload_n hw dX8_together_87 1 rfl ?_
            obtain ⟨h14, m66⟩ := h_ck m65
            clear m65
            refine r_laload hw h14 dX8_together_88 ?_
            refine r_lcmp_ne (tgt := 109) hw dX8_together_89 dX8_together_90 (by decide) (fun c15 => ?_) (fun c15 => ?_)
            · have m67 := h_if_f c15 m66
              clear m66
              exact J109 _ m67
            · have m68 := h_if_t c15 m66
              clear m66
              refine r_aload_n hw dX8_together_93 0 rfl ?_
              obtain ⟨q16, bq16, m69⟩ := h_bd m68
              clear m68
              refine r_getR hw fO_X8_51 h1 bq16 dX8_together_94 ?_
              refine r_iload_n hw dX8_together_97 2 rfl ?_
              obtain ⟨h17, m70⟩ := h_ck m69
              clear m69
              refine r_laload hw h17 dX8_together_98 ?_
              refine r_aload_n hw dX8_together_99 0 rfl ?_
              obtain ⟨q18, bq18, m71⟩ := h_bd m70
              clear m70
              refine r_getR hw fO_X8_45 h1 bq18 dX8_together_100 ?_
              refine r_iload_n hw dX8_together_103 1 rfl ?_
              obtain ⟨h19, m72⟩ := h_ck m71
              clear m71
              refine r_laload hw h19 dX8_together_104 ?_
              refine r_lcmp_eq (tgt := 115) hw dX8_together_105 dX8_together_106 (by decide) (fun c20 => ?_) (fun c20 => ?_)
              · have m73 := h_if_t c20 m72
                clear m72
                have m74 := h_ex m73 hv77
                clear m73
                refine r_iconst (v := 1) hw dX8_together_115 rfl ?_
                obtain ⟨i21, ei21, m75⟩ := h_nm m74
                clear m74
                refine r_topI (w := w) ei21 ?_
                refine r_istore_n hw dX8_together_116 rfl (by decide) rfl ?_
                refine r_sub hw [1, 3, 0] rfl ?_
                obtain ⟨v117, n0117, hn117, hv117⟩ := h_lp m75
                clear m75
                have L117 : ∀ n : Nat, ∀ (i22 : Int32) (M23 : Mm), it (mX8_together_L117 K R r i8) n (i22, M23) = some v117 → w 0 0 117 [(0, .ref r), (2, .int i8), (3, .int i22)] [] K R M23 := by
                  intro n117
                  induction n117 with
                  | zero => intro i22 M23 hz; exact absurd hz h_it0
                  | succ n117 ih117 =>
                    intro i22 M23 m76
                    replace m76 : (mX8_together_B117 K R r i8 i22 M23).bind (Sum.elim (it (mX8_together_L117 K R r i8) n117) some) = some v117 := m76
                    unfold mX8_together_B117 at m76
                    refine r_iload_n hw dX8_together_117 2 rfl ?_
                    refine r_aload_n hw dX8_together_118 0 rfl ?_
                    refine r_getI hw fO_X8_153 h1 dX8_together_119 ?_
                    refine r_iconst (v := 1) hw dX8_together_122 rfl ?_
                    refine r_isub hw dX8_together_123 ?_
                    refine r_icmp_ge (tgt := 187) hw dX8_together_124 (by decide) (fun c24 => ?_) (fun c24 => ?_)
                    · have m77 := h_if_f c24 m76
                      clear m76
                      have m78 := h_ex m77 hv117
                      clear m77
                      cases h_ret m78
                      exact r_return hq rfl rfl dX8_together_187
                    · have m79 := h_if_t c24 m76
                      clear m76
                      refine r_aload_n hw dX8_together_127 0 rfl ?_
                      obtain ⟨q25, bq25, m80⟩ := h_bd m79
                      clear m79
                      refine r_getR hw fO_X8_66 h1 bq25 dX8_together_128 ?_
                      refine r_aload_n hw dX8_together_131 0 rfl ?_
                      refine r_getI hw fO_X8_241 h1 dX8_together_132 ?_
                      refine r_aload_n hw dX8_together_135 0 rfl ?_
                      obtain ⟨q26, bq26, m81⟩ := h_bd m80
                      clear m80
                      refine r_getR hw fO_X8_48 h1 bq26 dX8_together_136 ?_
                      refine r_iload_n hw dX8_together_139 1 rfl ?_
                      refine r_iload_n hw dX8_together_140 2 rfl ?_
                      refine r_iadd hw dX8_together_141 ?_
                      refine r_aload_n hw dX8_together_142 0 rfl ?_
                      refine r_getI hw fO_X8_153 h1 dX8_together_143 ?_
                      obtain ⟨h27, m82⟩ := h_ck m81
                      clear m81
                      refine r_irem hw dX8_together_146 h27 ?_
                      obtain ⟨h28, m83⟩ := h_ck m82
                      clear m82
                      refine r_laload hw h28 dX8_together_147 ?_
                      obtain ⟨h29, m84⟩ := h_ck m83
                      clear m83
                      obtain ⟨M30, eM30, m85⟩ := h_nm m84
                      clear m84
                      refine r_lastore hw h29 dX8_together_148 (r_mem ?_ rfl eM30)
                      refine r_aload_n hw dX8_together_149 0 rfl ?_
                      obtain ⟨q31, bq31, m86⟩ := h_bd m85
                      clear m85
                      refine r_getR hw fO_X8_69 h1 bq31 dX8_together_150 ?_
                      refine r_aload_n hw dX8_together_153 0 rfl ?_
                      refine r_getI hw fO_X8_241 h1 dX8_together_154 ?_
                      refine r_aload_n hw dX8_together_157 0 rfl ?_
                      obtain ⟨q32, bq32, m87⟩ := h_bd m86
                      clear m86
                      refine r_getR hw fO_X8_51 h1 bq32 dX8_together_158 ?_
                      refine r_iload_n hw dX8_together_161 1 rfl ?_
                      refine r_iload_n hw dX8_together_162 2 rfl ?_
                      refine r_iadd hw dX8_together_163 ?_
                      refine r_aload_n hw dX8_together_164 0 rfl ?_
                      refine r_getI hw fO_X8_153 h1 dX8_together_165 ?_
                      obtain ⟨h33, m88⟩ := h_ck m87
                      clear m87
                      refine r_irem hw dX8_together_168 h33 ?_
                      obtain ⟨h34, m89⟩ := h_ck m88
                      clear m88
                      refine r_laload hw h34 dX8_together_169 ?_
                      obtain ⟨h35, m90⟩ := h_ck m89
                      clear m89
                      obtain ⟨M36, eM36, m91⟩ := h_nm m90
                      clear m90
                      refine r_lastore hw h35 dX8_together_170 (r_mem ?_ rfl eM36)
                      refine r_aload_n hw dX8_together_171 0 rfl ?_
                      refine r_dup hw dX8_together_172 rfl ?_
                      refine r_getI hw fO_X8_241 h1 dX8_together_173 ?_
                      refine r_iconst (v := 1) hw dX8_together_176 rfl ?_
                      refine r_iadd hw dX8_together_177 ?_
                      obtain ⟨M37, eM37, m92⟩ := h_nm m91
                      clear m91
                      refine r_putI hw fP_X8_241 h1 dX8_together_178 (r_mem ?_ rfl eM37)
                      obtain ⟨i38, ei38, m93⟩ := h_nm m92
                      clear m92
                      refine r_iinc (j := 2) (v := i38) hw dX8_together_181 rfl (by rw [ei38]; rfl) (by decide) rfl ?_
                      refine r_goto (tgt := 117) hw dX8_together_184 (by decide) ?_
                      refine r_sub hw [1, 2, 0] rfl ?_
                      exact ih117 _ _ m93
                exact L117 n0117 _ _ hn117
              · have m94 := h_if_f c20 m72
                clear m72
                exact J109 _ m94
        exact L77 n077 _ hn77
      · have m95 := h_if_t c6 m56
        clear m56
        refine r_aload_n hw dX8_together_15 0 rfl ?_
        obtain ⟨q39, bq39, m96⟩ := h_bd m95
        clear m95
        refine r_getR hw fO_X8_66 h1 bq39 dX8_together_16 ?_
        refine r_aload_n hw dX8_together_19 0 rfl ?_
        refine r_getI hw fO_X8_241 h1 dX8_together_20 ?_
        refine r_aload_n hw dX8_together_23 0 rfl ?_
        obtain ⟨q40, bq40, m97⟩ := h_bd m96
        clear m96
        refine r_getR hw fO_X8_42 h1 bq40 dX8_together_24 ?_
        refine r_iload_n hw dX8_together_27 1 rfl ?_
        refine r_iload_n hw dX8_together_28 2 rfl ?_
        refine r_iadd hw dX8_together_29 ?_
        refine r_aload_n hw dX8_together_30 0 rfl ?_
        refine r_getI hw fO_X8_146 h1 dX8_together_31 ?_
        obtain ⟨h41, m98⟩ := h_ck m97
        clear m97
        refine r_irem hw dX8_together_34 h41 ?_
        obtain ⟨h42, m99⟩ := h_ck m98
        clear m98
        refine r_laload hw h42 dX8_together_35 ?_
        obtain ⟨h43, m100⟩ := h_ck m99
        clear m99
        obtain ⟨M44, eM44, m101⟩ := h_nm m100
        clear m100
        refine r_lastore hw h43 dX8_together_36 (r_mem ?_ rfl eM44)
        refine r_aload_n hw dX8_together_37 0 rfl ?_
        obtain ⟨q45, bq45, m102⟩ := h_bd m101
        clear m101
        refine r_getR hw fO_X8_69 h1 bq45 dX8_together_38 ?_
        refine r_aload_n hw dX8_together_41 0 rfl ?_
        refine r_getI hw fO_X8_241 h1 dX8_together_42 ?_
        refine r_aload_n hw dX8_together_45 0 rfl ?_
        obtain ⟨q46, bq46, m103⟩ := h_bd m102
        clear m102
        refine r_getR hw fO_X8_45 h1 bq46 dX8_together_46 ?_
        refine r_iload_n hw dX8_together_49 1 rfl ?_
        refine r_iload_n hw dX8_together_50 2 rfl ?_
        refine r_iadd hw dX8_together_51 ?_
        refine r_aload_n hw dX8_together_52 0 rfl ?_
        refine r_getI hw fO_X8_146 h1 dX8_together_53 ?_
        obtain ⟨h47, m104⟩ := h_ck m103
        clear m103
        refine r_irem hw dX8_together_56 h47 ?_
        obtain ⟨h48, m105⟩ := h_ck m104
        clear m104
        refine r_laload hw h48 dX8_together_57 ?_
        obtain ⟨h49, m106⟩ := h_ck m105
        clear m105
        obtain ⟨M50, eM50, m107⟩ := h_nm m106
        clear m106
        refine r_lastore hw h49 dX8_together_58 (r_mem ?_ rfl eM50)
        refine r_aload_n hw dX8_together_59 0 rfl ?_
        refine r_dup hw dX8_together_60 rfl ?_
        refine r_getI hw fO_X8_241 h1 dX8_together_61 ?_
        refine r_iconst (v := 1) hw dX8_together_64 rfl ?_
        refine r_iadd hw dX8_together_65 ?_
        obtain ⟨M51, eM51, m108⟩ := h_nm m107
        clear m107
        refine r_putI hw fP_X8_241 h1 dX8_together_66 (r_mem ?_ rfl eM51)
        obtain ⟨i52, ei52, m109⟩ := h_nm m108
        clear m108
        refine r_iinc (j := 2) (v := i52) hw dX8_together_69 rfl (by rw [ei52]; rfl) (by decide) rfl ?_
        refine r_goto (tgt := 7) hw dX8_together_72 (by decide) ?_
        refine r_sub hw [1, 2, 0] rfl ?_
        exact ih7 _ _ m109
  exact L7 n07 _ _ hn7
theorem dX8_isOutward_0 : decode cX8_isOutward 0 = .ok (.iconst 1, 1) := by decide +kernel
theorem dX8_isOutward_1 : decode cX8_isOutward 1 = .ok (.istore_n 1, 1) := by decide +kernel
theorem dX8_isOutward_2 : decode cX8_isOutward 2 = .ok (.iconst 0, 1) := by decide +kernel
theorem dX8_isOutward_3 : decode cX8_isOutward 3 = .ok (.istore_n 2, 1) := by decide +kernel
theorem dX8_isOutward_4 : decode cX8_isOutward 4 = .ok (.iload_n 2, 1) := by decide +kernel
theorem dX8_isOutward_5 : decode cX8_isOutward 5 = .ok (.aload_n 0, 1) := by decide +kernel
theorem dX8_isOutward_6 : decode cX8_isOutward 6 = .ok (.getfield 241, 3) := by decide +kernel
theorem dX8_isOutward_9 : decode cX8_isOutward 9 = .ok (.if_icmp .ge 84, 3) := by decide +kernel
theorem dX8_isOutward_12 : decode cX8_isOutward 12 = .ok (.iload_n 2, 1) := by decide +kernel
theorem dX8_isOutward_13 : decode cX8_isOutward 13 = .ok (.iconst 1, 1) := by decide +kernel
theorem dX8_isOutward_14 : decode cX8_isOutward 14 = .ok (.iadd, 1) := by decide +kernel
theorem dX8_isOutward_15 : decode cX8_isOutward 15 = .ok (.aload_n 0, 1) := by decide +kernel
theorem dX8_isOutward_16 : decode cX8_isOutward 16 = .ok (.getfield 241, 3) := by decide +kernel
theorem dX8_isOutward_19 : decode cX8_isOutward 19 = .ok (.irem, 1) := by decide +kernel
theorem dX8_isOutward_20 : decode cX8_isOutward 20 = .ok (.istore_n 3, 1) := by decide +kernel
theorem dX8_isOutward_21 : decode cX8_isOutward 21 = .ok (.iload_n 2, 1) := by decide +kernel
theorem dX8_isOutward_22 : decode cX8_isOutward 22 = .ok (.iconst 2, 1) := by decide +kernel
theorem dX8_isOutward_23 : decode cX8_isOutward 23 = .ok (.iadd, 1) := by decide +kernel
theorem dX8_isOutward_24 : decode cX8_isOutward 24 = .ok (.aload_n 0, 1) := by decide +kernel
theorem dX8_isOutward_25 : decode cX8_isOutward 25 = .ok (.getfield 241, 3) := by decide +kernel
theorem dX8_isOutward_28 : decode cX8_isOutward 28 = .ok (.irem, 1) := by decide +kernel
theorem dX8_isOutward_29 : decode cX8_isOutward 29 = .ok (.istore 4, 2) := by decide +kernel
theorem dX8_isOutward_31 : decode cX8_isOutward 31 = .ok (.iload_n 1, 1) := by decide +kernel
theorem dX8_isOutward_32 : decode cX8_isOutward 32 = .ok (.ifCond .eq 53, 3) := by decide +kernel
theorem dX8_isOutward_35 : decode cX8_isOutward 35 = .ok (.aload_n 0, 1) := by decide +kernel
theorem dX8_isOutward_36 : decode cX8_isOutward 36 = .ok (.getfield 66, 3) := by decide +kernel
theorem dX8_isOutward_39 : decode cX8_isOutward 39 = .ok (.iload_n 2, 1) := by decide +kernel
theorem dX8_isOutward_40 : decode cX8_isOutward 40 = .ok (.laload, 1) := by decide +kernel
theorem dX8_isOutward_41 : decode cX8_isOutward 41 = .ok (.aload_n 0, 1) := by decide +kernel
theorem dX8_isOutward_42 : decode cX8_isOutward 42 = .ok (.getfield 69, 3) := by decide +kernel
theorem dX8_isOutward_45 : decode cX8_isOutward 45 = .ok (.iload_n 2, 1) := by decide +kernel
theorem dX8_isOutward_46 : decode cX8_isOutward 46 = .ok (.laload, 1) := by decide +kernel
theorem dX8_isOutward_47 : decode cX8_isOutward 47 = .ok (.aload_n 0, 1) := by decide +kernel
theorem dX8_isOutward_48 : decode cX8_isOutward 48 = .ok (.getfield 66, 3) := by decide +kernel
theorem dX8_isOutward_51 : decode cX8_isOutward 51 = .ok (.iload_n 3, 1) := by decide +kernel
theorem dX8_isOutward_52 : decode cX8_isOutward 52 = .ok (.laload, 1) := by decide +kernel
theorem dX8_isOutward_53 : decode cX8_isOutward 53 = .ok (.aload_n 0, 1) := by decide +kernel
theorem dX8_isOutward_54 : decode cX8_isOutward 54 = .ok (.getfield 69, 3) := by decide +kernel
theorem dX8_isOutward_57 : decode cX8_isOutward 57 = .ok (.iload_n 3, 1) := by decide +kernel
theorem dX8_isOutward_58 : decode cX8_isOutward 58 = .ok (.laload, 1) := by decide +kernel
theorem dX8_isOutward_59 : decode cX8_isOutward 59 = .ok (.aload_n 0, 1) := by decide +kernel
theorem dX8_isOutward_60 : decode cX8_isOutward 60 = .ok (.getfield 66, 3) := by decide +kernel
theorem dX8_isOutward_63 : decode cX8_isOutward 63 = .ok (.iload 4, 2) := by decide +kernel
theorem dX8_isOutward_65 : decode cX8_isOutward 65 = .ok (.laload, 1) := by decide +kernel
theorem dX8_isOutward_66 : decode cX8_isOutward 66 = .ok (.aload_n 0, 1) := by decide +kernel
theorem dX8_isOutward_67 : decode cX8_isOutward 67 = .ok (.getfield 69, 3) := by decide +kernel
theorem dX8_isOutward_70 : decode cX8_isOutward 70 = .ok (.iload 4, 2) := by decide +kernel
theorem dX8_isOutward_72 : decode cX8_isOutward 72 = .ok (.laload, 1) := by decide +kernel
theorem dX8_isOutward_73 : decode cX8_isOutward 73 = .ok (.invokestatic 128, 3) := by decide +kernel
theorem dX8_isOutward_76 : decode cX8_isOutward 76 = .ok (.lconst 0, 1) := by decide +kernel
theorem dX8_isOutward_77 : decode cX8_isOutward 77 = .ok (.lcmp, 1) := by decide +kernel
theorem dX8_isOutward_78 : decode cX8_isOutward 78 = .ok (.ifCond .lt 7, 3) := by decide +kernel
theorem dX8_isOutward_81 : decode cX8_isOutward 81 = .ok (.iconst 1, 1) := by decide +kernel
theorem dX8_isOutward_82 : decode cX8_isOutward 82 = .ok (.goto 4, 3) := by decide +kernel
theorem dX8_isOutward_85 : decode cX8_isOutward 85 = .ok (.iconst 0, 1) := by decide +kernel
theorem dX8_isOutward_86 : decode cX8_isOutward 86 = .ok (.istore_n 1, 1) := by decide +kernel
theorem dX8_isOutward_87 : decode cX8_isOutward 87 = .ok (.iinc 2 1, 3) := by decide +kernel
theorem dX8_isOutward_90 : decode cX8_isOutward 90 = .ok (.goto (-86), 3) := by decide +kernel
theorem dX8_isOutward_93 : decode cX8_isOutward 93 = .ok (.iload_n 1, 1) := by decide +kernel
theorem dX8_isOutward_94 : decode cX8_isOutward 94 = .ok (.ireturn, 1) := by decide +kernel
set_option maxHeartbeats 4000000 in
set_option maxRecDepth 100000 in
theorem tX8_isOutward (l : Launch) (G : Gg) (b0 : Nat) {K : Kk} {R : Rr} {M : Mm} {r : Nat} {res : Int32} (hm : mX8_isOutward K R M r = some (res)) : CT l G b0 yX8_isOutward cX8_isOutward 5 (some .boolean) (rmz 2 31) [.ref r] K R M (some (.int res)) K R M := by
  refine ct_of (by decide +kernel) (Nat.le_of_ble_eq_true rfl) (fun w hq => ?_)
  have hw := hq.b
  change w 0 0 0 [(0, .ref r)] [] K R M
  replace hm := h_start hm
  unfold mX8_isOutward at hm
  obtain ⟨h1, m26⟩ := h_ck hm
  clear hm
  refine r_iconst (v := 1) hw dX8_isOutward_0 rfl ?_
  obtain ⟨i2, ei2, m27⟩ := h_nm m26
  clear m26
  refine r_topI (w := w) ei2 ?_
  refine r_istore_n hw dX8_isOutward_1 rfl (by decide) rfl ?_
  refine r_iconst (v := 0) hw dX8_isOutward_2 rfl ?_
  obtain ⟨i3, ei3, m28⟩ := h_nm m27
  clear m27
  refine r_topI (w := w) ei3 ?_
  refine r_istore_n hw dX8_isOutward_3 rfl (by decide) rfl ?_
  refine r_sub hw [2, 1, 0] rfl ?_
  obtain ⟨v4, n04, hn4, hv4⟩ := h_lp m28
  clear m28
  have L4 : ∀ n : Nat, ∀ (i4 : Int32) (i5 : Int32), it (mX8_isOutward_L4 K R M r) n (i4, i5) = some v4 → w 0 0 4 [(0, .ref r), (1, .int i4), (2, .int i5)] [] K R M := by
    intro n4
    induction n4 with
    | zero => intro i4 i5 hz; exact absurd hz h_it0
    | succ n4 ih4 =>
      intro i4 i5 m29
      replace m29 : (mX8_isOutward_B4 K R M r i4 i5).bind (Sum.elim (it (mX8_isOutward_L4 K R M r) n4) some) = some v4 := m29
      unfold mX8_isOutward_B4 at m29
      have J86 : ∀ (i6 : Int32) (s7 : Int32), (mX8_isOutward_J86 K R M r i6 s7).bind (Sum.elim (it (mX8_isOutward_L4 K R M r) n4) some) = some v4 → w 0 0 86 [(0, .ref r), (2, .int i6)] [.int s7] K R M := by
        intro i6 s7 m30
        unfold mX8_isOutward_J86 at m30
        refine r_istore_n hw dX8_isOutward_86 rfl (by decide) rfl ?_
        obtain ⟨i8, ei8, m31⟩ := h_nm m30
        clear m30
        refine r_iinc (j := 2) (v := i8) hw dX8_isOutward_87 rfl (by rw [ei8]; rfl) (by decide) rfl ?_
        refine r_goto (tgt := 4) hw dX8_isOutward_90 (by decide) ?_
        refine r_sub hw [2, 1, 0] rfl ?_
        exact ih4 _ _ m31
      have J85 : ∀ (i9 : Int32), (mX8_isOutward_J85 K R M r i9).bind (Sum.elim (it (mX8_isOutward_L4 K R M r) n4) some) = some v4 → w 0 0 85 [(0, .ref r), (2, .int i9)] [] K R M := by
        intro i9 m32
        unfold mX8_isOutward_J85 at m32
        refine r_iconst (v := 0) hw dX8_isOutward_85 rfl ?_
        exact J86 _ _ m32
      refine r_iload_n hw dX8_isOutward_4 2 rfl ?_
      refine r_aload_n hw dX8_isOutward_5 0 rfl ?_
      refine r_getI hw fO_X8_241 h1 dX8_isOutward_6 ?_
      refine r_icmp_ge (tgt := 93) hw dX8_isOutward_9 (by decide) (fun c10 => ?_) (fun c10 => ?_)
      · have m33 := h_if_f c10 m29
        clear m29
        have m34 := h_ex m33 hv4
        clear m33
        refine r_iload_n hw dX8_isOutward_93 1 rfl ?_
        obtain ⟨h11, m35⟩ := h_ck m34
        clear m34
        cases h_ret m35
        exact r_zreturn hq h11 rfl rfl dX8_isOutward_94
      · have m36 := h_if_t c10 m29
        clear m29
        refine r_iload_n hw dX8_isOutward_12 2 rfl ?_
        refine r_iconst (v := 1) hw dX8_isOutward_13 rfl ?_
        refine r_iadd hw dX8_isOutward_14 ?_
        refine r_aload_n hw dX8_isOutward_15 0 rfl ?_
        refine r_getI hw fO_X8_241 h1 dX8_isOutward_16 ?_
        obtain ⟨h12, m37⟩ := h_ck m36
        clear m36
        refine r_irem hw dX8_isOutward_19 h12 ?_
        obtain ⟨i13, ei13, m38⟩ := h_nm m37
        clear m37
        refine r_topI (w := w) ei13 ?_
        refine r_istore_n hw dX8_isOutward_20 rfl (by decide) rfl ?_
        refine r_iload_n hw dX8_isOutward_21 3 rfl ?_
        refine r_iconst (v := 2) hw dX8_isOutward_22 rfl ?_
        refine r_iadd hw dX8_isOutward_23 ?_
        refine r_aload_n hw dX8_isOutward_24 1 rfl ?_
        refine r_getI hw fO_X8_241 h1 dX8_isOutward_25 ?_
        refine r_irem hw dX8_isOutward_28 h12 ?_
        obtain ⟨i14, ei14, m39⟩ := h_nm m38
        clear m38
        refine r_topI (w := w) ei14 ?_
        refine r_istore hw dX8_isOutward_29 (by decide) rfl ?_
        refine r_iload_n hw dX8_isOutward_31 3 rfl ?_
        refine r_if_eq (tgt := 85) hw dX8_isOutward_32 (by decide) (fun c15 => ?_) (fun c15 => ?_)
        · have m40 := h_if_t c15 m39
          clear m39
          refine r_sub hw [2, 4] rfl ?_
          exact J85 _ m40
        · have m41 := h_if_f c15 m39
          clear m39
          refine r_aload_n hw dX8_isOutward_35 2 rfl ?_
          obtain ⟨q16, bq16, m42⟩ := h_bd m41
          clear m41
          refine r_getR hw fO_X8_66 h1 bq16 dX8_isOutward_36 ?_
          refine r_iload_n hw dX8_isOutward_39 4 rfl ?_
          obtain ⟨h17, m43⟩ := h_ck m42
          clear m42
          refine r_laload hw h17 dX8_isOutward_40 ?_
          refine r_aload_n hw dX8_isOutward_41 2 rfl ?_
          obtain ⟨q18, bq18, m44⟩ := h_bd m43
          clear m43
          refine r_getR hw fO_X8_69 h1 bq18 dX8_isOutward_42 ?_
          refine r_iload_n hw dX8_isOutward_45 4 rfl ?_
          obtain ⟨h19, m45⟩ := h_ck m44
          clear m44
          refine r_laload hw h19 dX8_isOutward_46 ?_
          refine r_aload_n hw dX8_isOutward_47 2 rfl ?_
          refine r_getR hw fO_X8_66 h1 bq16 dX8_isOutward_48 ?_
          refine r_iload_n hw dX8_isOutward_51 1 rfl ?_
          obtain ⟨h20, m46⟩ := h_ck m45
          clear m45
          refine r_laload hw h20 dX8_isOutward_52 ?_
          refine r_aload_n hw dX8_isOutward_53 2 rfl ?_
          refine r_getR hw fO_X8_69 h1 bq18 dX8_isOutward_54 ?_
          refine r_iload_n hw dX8_isOutward_57 1 rfl ?_
          obtain ⟨h21, m47⟩ := h_ck m46
          clear m46
          refine r_laload hw h21 dX8_isOutward_58 ?_
          refine r_aload_n hw dX8_isOutward_59 2 rfl ?_
          refine r_getR hw fO_X8_66 h1 bq16 dX8_isOutward_60 ?_
          refine r_iload hw dX8_isOutward_63 0 rfl ?_
          obtain ⟨h22, m48⟩ := h_ck m47
          clear m47
          refine r_laload hw h22 dX8_isOutward_65 ?_
          refine r_aload_n hw dX8_isOutward_66 2 rfl ?_
          refine r_getR hw fO_X8_69 h1 bq18 dX8_isOutward_67 ?_
          refine r_iload hw dX8_isOutward_70 0 rfl ?_
          obtain ⟨h23, m49⟩ := h_ck m48
          clear m48
          refine r_laload hw h23 dX8_isOutward_72 ?_
          obtain ⟨l24, g24, m50⟩ := h_bd m49
          clear m49
          refine r_callS1 hw (tX8_side l G b0 g24) lB_X8_side sT_X8_side mL_X8_128 rfl rfl (Nat.le_of_ble_eq_true rfl) (Nat.le_of_ble_eq_true rfl) rfl (Nat.le_of_ble_eq_true rfl) dX8_isOutward_73 ?_
          refine r_lconst (v := 0) hw dX8_isOutward_76 rfl ?_
          refine r_lcmp_lt (tgt := 85) hw dX8_isOutward_77 dX8_isOutward_78 (by decide) (fun c25 => ?_) (fun c25 => ?_)
          · have m51 := h_if_t c25 m50
            clear m50
            refine r_sub hw [2, 4] rfl ?_
            exact J85 _ m51
          · have m52 := h_if_f c25 m50
            clear m50
            refine r_iconst (v := 1) hw dX8_isOutward_81 rfl ?_
            refine r_goto (tgt := 86) hw dX8_isOutward_82 (by decide) ?_
            refine r_sub hw [2, 4] rfl ?_
            exact J86 _ _ m52
  exact L4 n04 _ _ hn4
theorem dX8_dropPiece_0 : decode cX8_dropPiece 0 = .ok (.bipush 37, 2) := by decide +kernel
theorem dX8_dropPiece_2 : decode cX8_dropPiece 2 = .ok (.iload_n 1, 1) := by decide +kernel
theorem dX8_dropPiece_3 : decode cX8_dropPiece 3 = .ok (.imul, 1) := by decide +kernel
theorem dX8_dropPiece_4 : decode cX8_dropPiece 4 = .ok (.istore_n 2, 1) := by decide +kernel
theorem dX8_dropPiece_5 : decode cX8_dropPiece 5 = .ok (.iload_n 2, 1) := by decide +kernel
theorem dX8_dropPiece_6 : decode cX8_dropPiece 6 = .ok (.bipush 37, 2) := by decide +kernel
theorem dX8_dropPiece_8 : decode cX8_dropPiece 8 = .ok (.aload_n 0, 1) := by decide +kernel
theorem dX8_dropPiece_9 : decode cX8_dropPiece 9 = .ok (.invokevirtual 99, 3) := by decide +kernel
theorem dX8_dropPiece_12 : decode cX8_dropPiece 12 = .ok (.iconst 1, 1) := by decide +kernel
theorem dX8_dropPiece_13 : decode cX8_dropPiece 13 = .ok (.isub, 1) := by decide +kernel
theorem dX8_dropPiece_14 : decode cX8_dropPiece 14 = .ok (.imul, 1) := by decide +kernel
theorem dX8_dropPiece_15 : decode cX8_dropPiece 15 = .ok (.if_icmp .ge 24, 3) := by decide +kernel
theorem dX8_dropPiece_18 : decode cX8_dropPiece 18 = .ok (.aload_n 0, 1) := by decide +kernel
theorem dX8_dropPiece_19 : decode cX8_dropPiece 19 = .ok (.getfield 7, 3) := by decide +kernel
theorem dX8_dropPiece_22 : decode cX8_dropPiece 22 = .ok (.iload_n 2, 1) := by decide +kernel
theorem dX8_dropPiece_23 : decode cX8_dropPiece 23 = .ok (.aload_n 0, 1) := by decide +kernel
theorem dX8_dropPiece_24 : decode cX8_dropPiece 24 = .ok (.getfield 7, 3) := by decide +kernel
theorem dX8_dropPiece_27 : decode cX8_dropPiece 27 = .ok (.iload_n 2, 1) := by decide +kernel
theorem dX8_dropPiece_28 : decode cX8_dropPiece 28 = .ok (.bipush 37, 2) := by decide +kernel
theorem dX8_dropPiece_30 : decode cX8_dropPiece 30 = .ok (.iadd, 1) := by decide +kernel
theorem dX8_dropPiece_31 : decode cX8_dropPiece 31 = .ok (.laload, 1) := by decide +kernel
theorem dX8_dropPiece_32 : decode cX8_dropPiece 32 = .ok (.lastore, 1) := by decide +kernel
theorem dX8_dropPiece_33 : decode cX8_dropPiece 33 = .ok (.iinc 2 1, 3) := by decide +kernel
theorem dX8_dropPiece_36 : decode cX8_dropPiece 36 = .ok (.goto (-31), 3) := by decide +kernel
theorem dX8_dropPiece_39 : decode cX8_dropPiece 39 = .ok (.aload_n 0, 1) := by decide +kernel
theorem dX8_dropPiece_40 : decode cX8_dropPiece 40 = .ok (.getfield 7, 3) := by decide +kernel
theorem dX8_dropPiece_43 : decode cX8_dropPiece 43 = .ok (.sipush 1480, 3) := by decide +kernel
theorem dX8_dropPiece_46 : decode cX8_dropPiece 46 = .ok (.dup2, 1) := by decide +kernel
theorem dX8_dropPiece_47 : decode cX8_dropPiece 47 = .ok (.laload, 1) := by decide +kernel
theorem dX8_dropPiece_48 : decode cX8_dropPiece 48 = .ok (.lconst 1, 1) := by decide +kernel
theorem dX8_dropPiece_49 : decode cX8_dropPiece 49 = .ok (.lsub, 1) := by decide +kernel
theorem dX8_dropPiece_50 : decode cX8_dropPiece 50 = .ok (.lastore, 1) := by decide +kernel
theorem dX8_dropPiece_51 : decode cX8_dropPiece 51 = .ok (.return_, 1) := by decide +kernel
set_option maxHeartbeats 4000000 in
set_option maxRecDepth 100000 in
theorem tX8_dropPiece (l : Launch) (G : Gg) (b0 : Nat) {K : Kk} {R : Rr} {M : Mm} {r : Nat} {a0 : Int32} {M' : Mm} (hm : mX8_dropPiece K R M r a0 = some (M')) : CT l G b0 yX8_dropPiece cX8_dropPiece 3 none (rmz 2 20) [.ref r, .int a0] K R M none K R M' := by
  refine ct_of (by decide +kernel) (Nat.le_of_ble_eq_true rfl) (fun w hq => ?_)
  have hw := hq.b
  change w 0 0 0 [(0, .ref r), (1, .int a0)] [] K R M
  replace hm := h_start hm
  unfold mX8_dropPiece at hm
  obtain ⟨h1, m15⟩ := h_ck hm
  clear hm
  refine r_bipush (v := 37) hw dX8_dropPiece_0 rfl ?_
  refine r_iload_n hw dX8_dropPiece_2 1 rfl ?_
  refine r_imul hw dX8_dropPiece_3 ?_
  obtain ⟨i2, ei2, m16⟩ := h_nm m15
  clear m15
  refine r_topI (w := w) ei2 ?_
  refine r_istore_n hw dX8_dropPiece_4 rfl (by decide) rfl ?_
  refine r_sub hw [1, 0] rfl ?_
  obtain ⟨v5, n05, hn5, hv5⟩ := h_lp m16
  clear m16
  have L5 : ∀ n : Nat, ∀ (i3 : Int32) (M4 : Mm), it (mX8_dropPiece_L5 K R r) n (i3, M4) = some v5 → w 0 0 5 [(0, .ref r), (2, .int i3)] [] K R M4 := by
    intro n5
    induction n5 with
    | zero => intro i3 M4 hz; exact absurd hz h_it0
    | succ n5 ih5 =>
      intro i3 M4 m17
      replace m17 : (mX8_dropPiece_B5 K R r i3 M4).bind (Sum.elim (it (mX8_dropPiece_L5 K R r) n5) some) = some v5 := m17
      unfold mX8_dropPiece_B5 at m17
      refine r_iload_n hw dX8_dropPiece_5 1 rfl ?_
      refine r_bipush (v := 37) hw dX8_dropPiece_6 rfl ?_
      refine r_aload_n hw dX8_dropPiece_8 0 rfl ?_
      obtain ⟨i5, g5, m18⟩ := h_bd m17
      clear m17
      refine r_callV1 hw (tX8_pieces l G b0 g5) lB_X8_pieces lI_X8_pieces mL_X8_99 (c := 8) rfl h1 rfl (Nat.le_of_ble_eq_true rfl) (Nat.le_of_ble_eq_true rfl) rfl (Nat.le_of_ble_eq_true rfl) dX8_dropPiece_9 ?_
      refine r_iconst (v := 1) hw dX8_dropPiece_12 rfl ?_
      refine r_isub hw dX8_dropPiece_13 ?_
      refine r_imul hw dX8_dropPiece_14 ?_
      refine r_icmp_ge (tgt := 39) hw dX8_dropPiece_15 (by decide) (fun c6 => ?_) (fun c6 => ?_)
      · have m19 := h_if_f c6 m18
        clear m18
        have m20 := h_ex m19 hv5
        clear m19
        refine r_aload_n hw dX8_dropPiece_39 0 rfl ?_
        obtain ⟨q7, bq7, m21⟩ := h_bd m20
        clear m20
        refine r_getR hw fO_X8_7 h1 bq7 dX8_dropPiece_40 ?_
        refine r_sipush (v := 1480) hw dX8_dropPiece_43 rfl ?_
        refine r_dup2 hw dX8_dropPiece_46 rfl rfl ?_
        obtain ⟨h8, m22⟩ := h_ck m21
        clear m21
        refine r_laload hw h8 dX8_dropPiece_47 ?_
        refine r_lconst (v := 1) hw dX8_dropPiece_48 rfl ?_
        refine r_lsub hw dX8_dropPiece_49 ?_
        obtain ⟨M9, eM9, m23⟩ := h_nm m22
        clear m22
        refine r_lastore hw h8 dX8_dropPiece_50 (r_mem ?_ rfl eM9)
        cases h_ret m23
        exact r_return hq rfl rfl dX8_dropPiece_51
      · have m24 := h_if_t c6 m18
        clear m18
        refine r_aload_n hw dX8_dropPiece_18 0 rfl ?_
        obtain ⟨q10, bq10, m25⟩ := h_bd m24
        clear m24
        refine r_getR hw fO_X8_7 h1 bq10 dX8_dropPiece_19 ?_
        refine r_iload_n hw dX8_dropPiece_22 1 rfl ?_
        refine r_aload_n hw dX8_dropPiece_23 0 rfl ?_
        refine r_getR hw fO_X8_7 h1 bq10 dX8_dropPiece_24 ?_
        refine r_iload_n hw dX8_dropPiece_27 1 rfl ?_
        refine r_bipush (v := 37) hw dX8_dropPiece_28 rfl ?_
        refine r_iadd hw dX8_dropPiece_30 ?_
        obtain ⟨h11, m26⟩ := h_ck m25
        clear m25
        refine r_laload hw h11 dX8_dropPiece_31 ?_
        obtain ⟨h12, m27⟩ := h_ck m26
        clear m26
        obtain ⟨M13, eM13, m28⟩ := h_nm m27
        clear m27
        refine r_lastore hw h12 dX8_dropPiece_32 (r_mem ?_ rfl eM13)
        obtain ⟨i14, ei14, m29⟩ := h_nm m28
        clear m28
        refine r_iinc (j := 1) (v := i14) hw dX8_dropPiece_33 rfl (by rw [ei14]; rfl) (by decide) rfl ?_
        refine r_goto (tgt := 5) hw dX8_dropPiece_36 (by decide) ?_
        refine r_sub hw [1, 0] rfl ?_
        exact ih5 _ _ m29
  exact L5 n05 _ _ hn5
theorem dX8_join_0 : decode cX8_join 0 = .ok (.aload_n 0, 1) := by decide +kernel
theorem dX8_join_1 : decode cX8_join 1 = .ok (.iload_n 1, 1) := by decide +kernel
theorem dX8_join_2 : decode cX8_join 2 = .ok (.invokevirtual 226, 3) := by decide +kernel
theorem dX8_join_5 : decode cX8_join 5 = .ok (.ifCond .eq 16, 3) := by decide +kernel
theorem dX8_join_8 : decode cX8_join 8 = .ok (.aload_n 0, 1) := by decide +kernel
theorem dX8_join_9 : decode cX8_join 9 = .ok (.iload_n 2, 1) := by decide +kernel
theorem dX8_join_10 : decode cX8_join 10 = .ok (.invokevirtual 226, 3) := by decide +kernel
theorem dX8_join_13 : decode cX8_join 13 = .ok (.ifCond .eq 8, 3) := by decide +kernel
theorem dX8_join_16 : decode cX8_join 16 = .ok (.iload_n 1, 1) := by decide +kernel
theorem dX8_join_17 : decode cX8_join 17 = .ok (.iload_n 2, 1) := by decide +kernel
theorem dX8_join_18 : decode cX8_join 18 = .ok (.if_icmp .ne 7, 3) := by decide +kernel
theorem dX8_join_21 : decode cX8_join 21 = .ok (.ldc2_w 160, 3) := by decide +kernel
theorem dX8_join_24 : decode cX8_join 24 = .ok (.lreturn, 1) := by decide +kernel
theorem dX8_join_25 : decode cX8_join 25 = .ok (.aload_n 0, 1) := by decide +kernel
theorem dX8_join_26 : decode cX8_join 26 = .ok (.iload_n 1, 1) := by decide +kernel
theorem dX8_join_27 : decode cX8_join 27 = .ok (.bipush 33, 2) := by decide +kernel
theorem dX8_join_29 : decode cX8_join 29 = .ok (.invokevirtual 103, 3) := by decide +kernel
theorem dX8_join_32 : decode cX8_join 32 = .ok (.aload_n 0, 1) := by decide +kernel
theorem dX8_join_33 : decode cX8_join 33 = .ok (.iload_n 2, 1) := by decide +kernel
theorem dX8_join_34 : decode cX8_join 34 = .ok (.bipush 33, 2) := by decide +kernel
theorem dX8_join_36 : decode cX8_join 36 = .ok (.invokevirtual 103, 3) := by decide +kernel
theorem dX8_join_39 : decode cX8_join 39 = .ok (.lcmp, 1) := by decide +kernel
theorem dX8_join_40 : decode cX8_join 40 = .ok (.ifCond .ne 39, 3) := by decide +kernel
theorem dX8_join_43 : decode cX8_join 43 = .ok (.aload_n 0, 1) := by decide +kernel
theorem dX8_join_44 : decode cX8_join 44 = .ok (.iload_n 1, 1) := by decide +kernel
theorem dX8_join_45 : decode cX8_join 45 = .ok (.bipush 34, 2) := by decide +kernel
theorem dX8_join_47 : decode cX8_join 47 = .ok (.invokevirtual 103, 3) := by decide +kernel
theorem dX8_join_50 : decode cX8_join 50 = .ok (.aload_n 0, 1) := by decide +kernel
theorem dX8_join_51 : decode cX8_join 51 = .ok (.iload_n 2, 1) := by decide +kernel
theorem dX8_join_52 : decode cX8_join 52 = .ok (.bipush 34, 2) := by decide +kernel
theorem dX8_join_54 : decode cX8_join 54 = .ok (.invokevirtual 103, 3) := by decide +kernel
theorem dX8_join_57 : decode cX8_join 57 = .ok (.lcmp, 1) := by decide +kernel
theorem dX8_join_58 : decode cX8_join 58 = .ok (.ifCond .ne 21, 3) := by decide +kernel
theorem dX8_join_61 : decode cX8_join 61 = .ok (.aload_n 0, 1) := by decide +kernel
theorem dX8_join_62 : decode cX8_join 62 = .ok (.iload_n 1, 1) := by decide +kernel
theorem dX8_join_63 : decode cX8_join 63 = .ok (.bipush 35, 2) := by decide +kernel
theorem dX8_join_65 : decode cX8_join 65 = .ok (.invokevirtual 103, 3) := by decide +kernel
theorem dX8_join_68 : decode cX8_join 68 = .ok (.aload_n 0, 1) := by decide +kernel
theorem dX8_join_69 : decode cX8_join 69 = .ok (.iload_n 2, 1) := by decide +kernel
theorem dX8_join_70 : decode cX8_join 70 = .ok (.bipush 35, 2) := by decide +kernel
theorem dX8_join_72 : decode cX8_join 72 = .ok (.invokevirtual 103, 3) := by decide +kernel
theorem dX8_join_75 : decode cX8_join 75 = .ok (.lcmp, 1) := by decide +kernel
theorem dX8_join_76 : decode cX8_join 76 = .ok (.ifCond .eq 7, 3) := by decide +kernel
theorem dX8_join_79 : decode cX8_join 79 = .ok (.ldc2_w 113, 3) := by decide +kernel
theorem dX8_join_82 : decode cX8_join 82 = .ok (.lreturn, 1) := by decide +kernel
theorem dX8_join_83 : decode cX8_join 83 = .ok (.aload_n 0, 1) := by decide +kernel
theorem dX8_join_84 : decode cX8_join 84 = .ok (.iload_n 2, 1) := by decide +kernel
theorem dX8_join_85 : decode cX8_join 85 = .ok (.invokevirtual 244, 3) := by decide +kernel
theorem dX8_join_88 : decode cX8_join 88 = .ok (.aload_n 0, 1) := by decide +kernel
theorem dX8_join_89 : decode cX8_join 89 = .ok (.iload_n 1, 1) := by decide +kernel
theorem dX8_join_90 : decode cX8_join 90 = .ok (.invokevirtual 149, 3) := by decide +kernel
theorem dX8_join_93 : decode cX8_join 93 = .ok (.aload_n 0, 1) := by decide +kernel
theorem dX8_join_94 : decode cX8_join 94 = .ok (.invokevirtual 247, 3) := by decide +kernel
theorem dX8_join_97 : decode cX8_join 97 = .ok (.istore_n 3, 1) := by decide +kernel
theorem dX8_join_98 : decode cX8_join 98 = .ok (.iload_n 3, 1) := by decide +kernel
theorem dX8_join_99 : decode cX8_join 99 = .ok (.ifCond .ge 7, 3) := by decide +kernel
theorem dX8_join_102 : decode cX8_join 102 = .ok (.ldc2_w 113, 3) := by decide +kernel
theorem dX8_join_105 : decode cX8_join 105 = .ok (.lreturn, 1) := by decide +kernel
theorem dX8_join_106 : decode cX8_join 106 = .ok (.aload_n 0, 1) := by decide +kernel
theorem dX8_join_107 : decode cX8_join 107 = .ok (.iload_n 3, 1) := by decide +kernel
theorem dX8_join_108 : decode cX8_join 108 = .ok (.invokevirtual 250, 3) := by decide +kernel
theorem dX8_join_111 : decode cX8_join 111 = .ok (.aload_n 0, 1) := by decide +kernel
theorem dX8_join_112 : decode cX8_join 112 = .ok (.invokevirtual 253, 3) := by decide +kernel
theorem dX8_join_115 : decode cX8_join 115 = .ok (.ifCond .ne 7, 3) := by decide +kernel
theorem dX8_join_118 : decode cX8_join 118 = .ok (.ldc2_w 113, 3) := by decide +kernel
theorem dX8_join_121 : decode cX8_join 121 = .ok (.lreturn, 1) := by decide +kernel
theorem dX8_join_122 : decode cX8_join 122 = .ok (.aload_n 0, 1) := by decide +kernel
theorem dX8_join_123 : decode cX8_join 123 = .ok (.invokevirtual 132, 3) := by decide +kernel
theorem dX8_join_126 : decode cX8_join 126 = .ok (.iconst 0, 1) := by decide +kernel
theorem dX8_join_127 : decode cX8_join 127 = .ok (.istore 4, 2) := by decide +kernel
theorem dX8_join_129 : decode cX8_join 129 = .ok (.iload 4, 2) := by decide +kernel
theorem dX8_join_131 : decode cX8_join 131 = .ok (.aload_n 0, 1) := by decide +kernel
theorem dX8_join_132 : decode cX8_join 132 = .ok (.getfield 241, 3) := by decide +kernel
theorem dX8_join_135 : decode cX8_join 135 = .ok (.if_icmp .ge 27, 3) := by decide +kernel
theorem dX8_join_138 : decode cX8_join 138 = .ok (.aload_n 0, 1) := by decide +kernel
theorem dX8_join_139 : decode cX8_join 139 = .ok (.aload_n 0, 1) := by decide +kernel
theorem dX8_join_140 : decode cX8_join 140 = .ok (.getfield 66, 3) := by decide +kernel
theorem dX8_join_143 : decode cX8_join 143 = .ok (.iload 4, 2) := by decide +kernel
theorem dX8_join_145 : decode cX8_join 145 = .ok (.laload, 1) := by decide +kernel
theorem dX8_join_146 : decode cX8_join 146 = .ok (.aload_n 0, 1) := by decide +kernel
theorem dX8_join_147 : decode cX8_join 147 = .ok (.getfield 69, 3) := by decide +kernel
theorem dX8_join_150 : decode cX8_join 150 = .ok (.iload 4, 2) := by decide +kernel
theorem dX8_join_152 : decode cX8_join 152 = .ok (.laload, 1) := by decide +kernel
theorem dX8_join_153 : decode cX8_join 153 = .ok (.invokevirtual 139, 3) := by decide +kernel
theorem dX8_join_156 : decode cX8_join 156 = .ok (.iinc 4 1, 3) := by decide +kernel
theorem dX8_join_159 : decode cX8_join 159 = .ok (.goto (-30), 3) := by decide +kernel
theorem dX8_join_162 : decode cX8_join 162 = .ok (.aload_n 0, 1) := by decide +kernel
theorem dX8_join_163 : decode cX8_join 163 = .ok (.invokevirtual 143, 3) := by decide +kernel
theorem dX8_join_166 : decode cX8_join 166 = .ok (.aload_n 0, 1) := by decide +kernel
theorem dX8_join_167 : decode cX8_join 167 = .ok (.getfield 118, 3) := by decide +kernel
theorem dX8_join_170 : decode cX8_join 170 = .ok (.bipush 16, 2) := by decide +kernel
theorem dX8_join_172 : decode cX8_join 172 = .ok (.if_icmp .le 7, 3) := by decide +kernel
theorem dX8_join_175 : decode cX8_join 175 = .ok (.ldc2_w 162, 3) := by decide +kernel
theorem dX8_join_178 : decode cX8_join 178 = .ok (.lreturn, 1) := by decide +kernel
theorem dX8_join_179 : decode cX8_join 179 = .ok (.aload_n 0, 1) := by decide +kernel
theorem dX8_join_180 : decode cX8_join 180 = .ok (.invokevirtual 174, 3) := by decide +kernel
theorem dX8_join_183 : decode cX8_join 183 = .ok (.aload_n 0, 1) := by decide +kernel
theorem dX8_join_184 : decode cX8_join 184 = .ok (.iload_n 1, 1) := by decide +kernel
theorem dX8_join_185 : decode cX8_join 185 = .ok (.aload_n 0, 1) := by decide +kernel
theorem dX8_join_186 : decode cX8_join 186 = .ok (.iload_n 1, 1) := by decide +kernel
theorem dX8_join_187 : decode cX8_join 187 = .ok (.bipush 33, 2) := by decide +kernel
theorem dX8_join_189 : decode cX8_join 189 = .ok (.invokevirtual 103, 3) := by decide +kernel
theorem dX8_join_192 : decode cX8_join 192 = .ok (.aload_n 0, 1) := by decide +kernel
theorem dX8_join_193 : decode cX8_join 193 = .ok (.iload_n 1, 1) := by decide +kernel
theorem dX8_join_194 : decode cX8_join 194 = .ok (.bipush 34, 2) := by decide +kernel
theorem dX8_join_196 : decode cX8_join 196 = .ok (.invokevirtual 103, 3) := by decide +kernel
theorem dX8_join_199 : decode cX8_join 199 = .ok (.aload_n 0, 1) := by decide +kernel
theorem dX8_join_200 : decode cX8_join 200 = .ok (.iload_n 1, 1) := by decide +kernel
theorem dX8_join_201 : decode cX8_join 201 = .ok (.bipush 35, 2) := by decide +kernel
theorem dX8_join_203 : decode cX8_join 203 = .ok (.invokevirtual 103, 3) := by decide +kernel
theorem dX8_join_206 : decode cX8_join 206 = .ok (.invokevirtual 177, 3) := by decide +kernel
theorem dX8_join_209 : decode cX8_join 209 = .ok (.aload_n 0, 1) := by decide +kernel
theorem dX8_join_210 : decode cX8_join 210 = .ok (.getfield 7, 3) := by decide +kernel
theorem dX8_join_213 : decode cX8_join 213 = .ok (.bipush 37, 2) := by decide +kernel
theorem dX8_join_215 : decode cX8_join 215 = .ok (.iload_n 1, 1) := by decide +kernel
theorem dX8_join_216 : decode cX8_join 216 = .ok (.imul, 1) := by decide +kernel
theorem dX8_join_217 : decode cX8_join 217 = .ok (.bipush 36, 2) := by decide +kernel
theorem dX8_join_219 : decode cX8_join 219 = .ok (.iadd, 1) := by decide +kernel
theorem dX8_join_220 : decode cX8_join 220 = .ok (.lconst 0, 1) := by decide +kernel
theorem dX8_join_221 : decode cX8_join 221 = .ok (.lastore, 1) := by decide +kernel
theorem dX8_join_222 : decode cX8_join 222 = .ok (.aload_n 0, 1) := by decide +kernel
theorem dX8_join_223 : decode cX8_join 223 = .ok (.getfield 118, 3) := by decide +kernel
theorem dX8_join_226 : decode cX8_join 226 = .ok (.i2l, 1) := by decide +kernel
theorem dX8_join_227 : decode cX8_join 227 = .ok (.lstore 4, 2) := by decide +kernel
theorem dX8_join_229 : decode cX8_join 229 = .ok (.aload_n 0, 1) := by decide +kernel
theorem dX8_join_230 : decode cX8_join 230 = .ok (.iload_n 2, 1) := by decide +kernel
theorem dX8_join_231 : decode cX8_join 231 = .ok (.invokevirtual 256, 3) := by decide +kernel
theorem dX8_join_234 : decode cX8_join 234 = .ok (.lload 4, 2) := by decide +kernel
theorem dX8_join_236 : decode cX8_join 236 = .ok (.lreturn, 1) := by decide +kernel
set_option maxHeartbeats 4000000 in
set_option maxRecDepth 100000 in
theorem tX8_join (l : Launch) (G : Gg) (b0 : Nat) {K : Kk} {R : Rr} {M : Mm} {r : Nat} {a0 : Int32} {a1 : Int32} {res : Int64} {M' : Mm} (hm : mX8_join K R M r a0 a1 = some (res, M')) : CT l G b0 yX8_join cX8_join 6 (some .long) (rmz 6 131) [.ref r, .int a0, .int a1] K R M (some (.long res)) K R M' := by
  refine ct_of (by decide +kernel) (Nat.le_of_ble_eq_true rfl) (fun w hq => ?_)
  have hw := hq.b
  change w 0 0 0 [(0, .ref r), (1, .int a0), (2, .int a1)] [] K R M
  replace hm := h_start hm
  unfold mX8_join at hm
  obtain ⟨h1, m46⟩ := h_ck hm
  clear hm
  refine r_aload_n hw dX8_join_0 0 rfl ?_
  refine r_iload_n hw dX8_join_1 1 rfl ?_
  obtain ⟨i2, g2, m47⟩ := h_bd m46
  clear m46
  refine r_callV1 hw (tX8_isPiece l G b0 g2) lB_X8_isPiece lI_X8_isPiece mL_X8_226 (c := 8) rfl h1 rfl (Nat.le_of_ble_eq_true rfl) (Nat.le_of_ble_eq_true rfl) rfl (Nat.le_of_ble_eq_true rfl) dX8_join_2 ?_
  refine r_if_eq (tgt := 21) hw dX8_join_5 (by decide) (fun c3 => ?_) (fun c3 => ?_)
  · have m48 := h_if_t c3 m47
    clear m47
    refine r_ldc2 (v := (-9000000000000000001)) hw dX8_join_21 kW_X8_160 ?_
    cases h_ret m48
    exact r_lreturn hq rfl rfl dX8_join_24
  · have m49 := h_if_f c3 m47
    clear m47
    refine r_aload_n hw dX8_join_8 0 rfl ?_
    refine r_iload_n hw dX8_join_9 2 rfl ?_
    obtain ⟨i4, g4, m50⟩ := h_bd m49
    clear m49
    refine r_callV1 hw (tX8_isPiece l G b0 g4) lB_X8_isPiece lI_X8_isPiece mL_X8_226 (c := 8) rfl h1 rfl (Nat.le_of_ble_eq_true rfl) (Nat.le_of_ble_eq_true rfl) rfl (Nat.le_of_ble_eq_true rfl) dX8_join_10 ?_
    refine r_if_eq (tgt := 21) hw dX8_join_13 (by decide) (fun c5 => ?_) (fun c5 => ?_)
    · have m51 := h_if_t c5 m50
      clear m50
      refine r_ldc2 (v := (-9000000000000000001)) hw dX8_join_21 kW_X8_160 ?_
      cases h_ret m51
      exact r_lreturn hq rfl rfl dX8_join_24
    · have m52 := h_if_f c5 m50
      clear m50
      refine r_iload_n hw dX8_join_16 1 rfl ?_
      refine r_iload_n hw dX8_join_17 2 rfl ?_
      refine r_icmp_ne (tgt := 25) hw dX8_join_18 (by decide) (fun c6 => ?_) (fun c6 => ?_)
      · have m53 := h_if_f c6 m52
        clear m52
        refine r_aload_n hw dX8_join_25 0 rfl ?_
        refine r_iload_n hw dX8_join_26 1 rfl ?_
        refine r_bipush (v := 33) hw dX8_join_27 rfl ?_
        obtain ⟨l7, g7, m54⟩ := h_bd m53
        clear m53
        refine r_callV1 hw (tX8_get l G b0 g7) lB_X8_get lI_X8_get mL_X8_103 (c := 8) rfl h1 rfl (Nat.le_of_ble_eq_true rfl) (Nat.le_of_ble_eq_true rfl) rfl (Nat.le_of_ble_eq_true rfl) dX8_join_29 ?_
        refine r_aload_n hw dX8_join_32 0 rfl ?_
        refine r_iload_n hw dX8_join_33 2 rfl ?_
        refine r_bipush (v := 33) hw dX8_join_34 rfl ?_
        obtain ⟨l8, g8, m55⟩ := h_bd m54
        clear m54
        refine r_callV1 hw (tX8_get l G b0 g8) lB_X8_get lI_X8_get mL_X8_103 (c := 8) rfl h1 rfl (Nat.le_of_ble_eq_true rfl) (Nat.le_of_ble_eq_true rfl) rfl (Nat.le_of_ble_eq_true rfl) dX8_join_36 ?_
        refine r_lcmp_ne (tgt := 79) hw dX8_join_39 dX8_join_40 (by decide) (fun c9 => ?_) (fun c9 => ?_)
        · have m56 := h_if_f c9 m55
          clear m55
          refine r_ldc2 (v := (-9000000000000000002)) hw dX8_join_79 kW_X8_113 ?_
          cases h_ret m56
          exact r_lreturn hq rfl rfl dX8_join_82
        · have m57 := h_if_t c9 m55
          clear m55
          refine r_aload_n hw dX8_join_43 0 rfl ?_
          refine r_iload_n hw dX8_join_44 1 rfl ?_
          refine r_bipush (v := 34) hw dX8_join_45 rfl ?_
          obtain ⟨l10, g10, m58⟩ := h_bd m57
          clear m57
          refine r_callV1 hw (tX8_get l G b0 g10) lB_X8_get lI_X8_get mL_X8_103 (c := 8) rfl h1 rfl (Nat.le_of_ble_eq_true rfl) (Nat.le_of_ble_eq_true rfl) rfl (Nat.le_of_ble_eq_true rfl) dX8_join_47 ?_
          refine r_aload_n hw dX8_join_50 0 rfl ?_
          refine r_iload_n hw dX8_join_51 2 rfl ?_
          refine r_bipush (v := 34) hw dX8_join_52 rfl ?_
          obtain ⟨l11, g11, m59⟩ := h_bd m58
          clear m58
          refine r_callV1 hw (tX8_get l G b0 g11) lB_X8_get lI_X8_get mL_X8_103 (c := 8) rfl h1 rfl (Nat.le_of_ble_eq_true rfl) (Nat.le_of_ble_eq_true rfl) rfl (Nat.le_of_ble_eq_true rfl) dX8_join_54 ?_
          refine r_lcmp_ne (tgt := 79) hw dX8_join_57 dX8_join_58 (by decide) (fun c12 => ?_) (fun c12 => ?_)
          · have m60 := h_if_f c12 m59
            clear m59
            refine r_ldc2 (v := (-9000000000000000002)) hw dX8_join_79 kW_X8_113 ?_
            cases h_ret m60
            exact r_lreturn hq rfl rfl dX8_join_82
          · have m61 := h_if_t c12 m59
            clear m59
            refine r_aload_n hw dX8_join_61 0 rfl ?_
            refine r_iload_n hw dX8_join_62 1 rfl ?_
            refine r_bipush (v := 35) hw dX8_join_63 rfl ?_
            obtain ⟨l13, g13, m62⟩ := h_bd m61
            clear m61
            refine r_callV1 hw (tX8_get l G b0 g13) lB_X8_get lI_X8_get mL_X8_103 (c := 8) rfl h1 rfl (Nat.le_of_ble_eq_true rfl) (Nat.le_of_ble_eq_true rfl) rfl (Nat.le_of_ble_eq_true rfl) dX8_join_65 ?_
            refine r_aload_n hw dX8_join_68 0 rfl ?_
            refine r_iload_n hw dX8_join_69 2 rfl ?_
            refine r_bipush (v := 35) hw dX8_join_70 rfl ?_
            obtain ⟨l14, g14, m63⟩ := h_bd m62
            clear m62
            refine r_callV1 hw (tX8_get l G b0 g14) lB_X8_get lI_X8_get mL_X8_103 (c := 8) rfl h1 rfl (Nat.le_of_ble_eq_true rfl) (Nat.le_of_ble_eq_true rfl) rfl (Nat.le_of_ble_eq_true rfl) dX8_join_72 ?_
            refine r_lcmp_eq (tgt := 83) hw dX8_join_75 dX8_join_76 (by decide) (fun c15 => ?_) (fun c15 => ?_)
            · have m64 := h_if_t c15 m63
              clear m63
              refine r_aload_n hw dX8_join_83 0 rfl ?_
              refine r_iload_n hw dX8_join_84 2 rfl ?_
              obtain ⟨M16, g16, m65⟩ := h_bd m64
              clear m64
              refine r_callV0 hw (tX8_lookB l G b0 g16) lB_X8_lookB lI_X8_lookB mL_X8_244 (c := 8) rfl h1 rfl (Nat.le_of_ble_eq_true rfl) (Nat.le_of_ble_eq_true rfl) rfl (Nat.le_of_ble_eq_true rfl) dX8_join_85 ?_
              refine r_aload_n hw dX8_join_88 0 rfl ?_
              refine r_iload_n hw dX8_join_89 1 rfl ?_
              obtain ⟨M17, g17, m66⟩ := h_bd m65
              clear m65
              refine r_callV0 hw (tX8_lookA l G b0 g17) lB_X8_lookA lI_X8_lookA mL_X8_149 (c := 8) rfl h1 rfl (Nat.le_of_ble_eq_true rfl) (Nat.le_of_ble_eq_true rfl) rfl (Nat.le_of_ble_eq_true rfl) dX8_join_90 ?_
              refine r_aload_n hw dX8_join_93 0 rfl ?_
              obtain ⟨i18, g18, m67⟩ := h_bd m66
              clear m66
              refine r_callV1 hw (tX8_commonSide l G b0 g18) lB_X8_commonSide lI_X8_commonSide mL_X8_247 (c := 8) rfl h1 rfl (Nat.le_of_ble_eq_true rfl) (Nat.le_of_ble_eq_true rfl) rfl (Nat.le_of_ble_eq_true rfl) dX8_join_94 ?_
              refine r_istore_n hw dX8_join_97 rfl (by decide) rfl ?_
              refine r_iload_n hw dX8_join_98 0 rfl ?_
              refine r_if_ge (tgt := 106) hw dX8_join_99 (by decide) (fun c19 => ?_) (fun c19 => ?_)
              · have m68 := h_if_f c19 m67
                clear m67
                refine r_aload_n hw dX8_join_106 1 rfl ?_
                refine r_iload_n hw dX8_join_107 0 rfl ?_
                obtain ⟨M20, g20, m69⟩ := h_bd m68
                clear m68
                refine r_callV0 hw (tX8_together l G b0 g20) lB_X8_together lI_X8_together mL_X8_250 (c := 8) rfl h1 rfl (Nat.le_of_ble_eq_true rfl) (Nat.le_of_ble_eq_true rfl) rfl (Nat.le_of_ble_eq_true rfl) dX8_join_108 ?_
                refine r_aload_n hw dX8_join_111 1 rfl ?_
                obtain ⟨i21, g21, m70⟩ := h_bd m69
                clear m69
                refine r_callV1 hw (tX8_isOutward l G b0 g21) lB_X8_isOutward lI_X8_isOutward mL_X8_253 (c := 8) rfl h1 rfl (Nat.le_of_ble_eq_true rfl) (Nat.le_of_ble_eq_true rfl) rfl (Nat.le_of_ble_eq_true rfl) dX8_join_112 ?_
                refine r_if_ne (tgt := 122) hw dX8_join_115 (by decide) (fun c22 => ?_) (fun c22 => ?_)
                · have m71 := h_if_f c22 m70
                  clear m70
                  refine r_aload_n hw dX8_join_122 1 rfl ?_
                  obtain ⟨M23, g23, m72⟩ := h_bd m71
                  clear m71
                  refine r_callV0 hw (tX8_beginPoints l G b0 g23) lB_X8_beginPoints lI_X8_beginPoints mL_X8_132 (c := 8) rfl h1 rfl (Nat.le_of_ble_eq_true rfl) (Nat.le_of_ble_eq_true rfl) rfl (Nat.le_of_ble_eq_true rfl) dX8_join_123 ?_
                  refine r_iconst (v := 0) hw dX8_join_126 rfl ?_
                  obtain ⟨i24, ei24, m73⟩ := h_nm m72
                  clear m72
                  refine r_topI (w := w) ei24 ?_
                  refine r_istore hw dX8_join_127 (by decide) rfl ?_
                  refine r_sub hw [2, 3, 4, 0] rfl ?_
                  obtain ⟨v129, n0129, hn129, hv129⟩ := h_lp m73
                  clear m73
                  have L129 : ∀ n : Nat, ∀ (i25 : Int32) (M26 : Mm), it (mX8_join_L129 K R r a0 a1) n (i25, M26) = some v129 → w 0 0 129 [(0, .ref r), (1, .int a0), (2, .int a1), (4, .int i25)] [] K R M26 := by
                    intro n129
                    induction n129 with
                    | zero => intro i25 M26 hz; exact absurd hz h_it0
                    | succ n129 ih129 =>
                      intro i25 M26 m74
                      replace m74 : (mX8_join_B129 K R r a0 a1 i25 M26).bind (Sum.elim (it (mX8_join_L129 K R r a0 a1) n129) some) = some v129 := m74
                      unfold mX8_join_B129 at m74
                      refine r_iload hw dX8_join_129 3 rfl ?_
                      refine r_aload_n hw dX8_join_131 0 rfl ?_
                      refine r_getI hw fO_X8_241 h1 dX8_join_132 ?_
                      refine r_icmp_ge (tgt := 162) hw dX8_join_135 (by decide) (fun c27 => ?_) (fun c27 => ?_)
                      · have m75 := h_if_f c27 m74
                        clear m74
                        have m76 := h_ex m75 hv129
                        clear m75
                        refine r_aload_n hw dX8_join_162 0 rfl ?_
                        obtain ⟨M28, g28, m77⟩ := h_bd m76
                        clear m76
                        refine r_callV0 hw (tX8_outermost l G b0 g28) lB_X8_outermost lI_X8_outermost mL_X8_143 (c := 8) rfl h1 rfl (Nat.le_of_ble_eq_true rfl) (Nat.le_of_ble_eq_true rfl) rfl (Nat.le_of_ble_eq_true rfl) dX8_join_163 ?_
                        refine r_aload_n hw dX8_join_166 0 rfl ?_
                        refine r_getI hw fO_X8_118 h1 dX8_join_167 ?_
                        refine r_bipush (v := 16) hw dX8_join_170 rfl ?_
                        refine r_icmp_le (tgt := 179) hw dX8_join_172 (by decide) (fun c29 => ?_) (fun c29 => ?_)
                        · have m78 := h_if_t c29 m77
                          clear m77
                          refine r_aload_n hw dX8_join_179 0 rfl ?_
                          obtain ⟨M30, g30, m79⟩ := h_bd m78
                          clear m78
                          refine r_callV0 hw (tX8_keep l G b0 g30) lB_X8_keep lI_X8_keep mL_X8_174 (c := 8) rfl h1 rfl (Nat.le_of_ble_eq_true rfl) (Nat.le_of_ble_eq_true rfl) rfl (Nat.le_of_ble_eq_true rfl) dX8_join_180 ?_
                          refine r_aload_n hw dX8_join_183 0 rfl ?_
                          refine r_iload_n hw dX8_join_184 1 rfl ?_
                          refine r_aload_n hw dX8_join_185 0 rfl ?_
                          refine r_iload_n hw dX8_join_186 1 rfl ?_
                          refine r_bipush (v := 33) hw dX8_join_187 rfl ?_
                          obtain ⟨l31, g31, m80⟩ := h_bd m79
                          clear m79
                          refine r_callV1 hw (tX8_get l G b0 g31) lB_X8_get lI_X8_get mL_X8_103 (c := 8) rfl h1 rfl (Nat.le_of_ble_eq_true rfl) (Nat.le_of_ble_eq_true rfl) rfl (Nat.le_of_ble_eq_true rfl) dX8_join_189 ?_
                          refine r_aload_n hw dX8_join_192 0 rfl ?_
                          refine r_iload_n hw dX8_join_193 1 rfl ?_
                          refine r_bipush (v := 34) hw dX8_join_194 rfl ?_
                          obtain ⟨l32, g32, m81⟩ := h_bd m80
                          clear m80
                          refine r_callV1 hw (tX8_get l G b0 g32) lB_X8_get lI_X8_get mL_X8_103 (c := 8) rfl h1 rfl (Nat.le_of_ble_eq_true rfl) (Nat.le_of_ble_eq_true rfl) rfl (Nat.le_of_ble_eq_true rfl) dX8_join_196 ?_
                          refine r_aload_n hw dX8_join_199 0 rfl ?_
                          refine r_iload_n hw dX8_join_200 1 rfl ?_
                          refine r_bipush (v := 35) hw dX8_join_201 rfl ?_
                          obtain ⟨l33, g33, m82⟩ := h_bd m81
                          clear m81
                          refine r_callV1 hw (tX8_get l G b0 g33) lB_X8_get lI_X8_get mL_X8_103 (c := 8) rfl h1 rfl (Nat.le_of_ble_eq_true rfl) (Nat.le_of_ble_eq_true rfl) rfl (Nat.le_of_ble_eq_true rfl) dX8_join_203 ?_
                          obtain ⟨M34, g34, m83⟩ := h_bd m82
                          clear m82
                          refine r_callV0 hw (tX8_originOf l G b0 g34) lB_X8_originOf lI_X8_originOf mL_X8_177 (c := 8) rfl h1 rfl (Nat.le_of_ble_eq_true rfl) (Nat.le_of_ble_eq_true rfl) rfl (Nat.le_of_ble_eq_true rfl) dX8_join_206 ?_
                          refine r_aload_n hw dX8_join_209 0 rfl ?_
                          obtain ⟨q35, bq35, m84⟩ := h_bd m83
                          clear m83
                          refine r_getR hw fO_X8_7 h1 bq35 dX8_join_210 ?_
                          refine r_bipush (v := 37) hw dX8_join_213 rfl ?_
                          refine r_iload_n hw dX8_join_215 1 rfl ?_
                          refine r_imul hw dX8_join_216 ?_
                          refine r_bipush (v := 36) hw dX8_join_217 rfl ?_
                          refine r_iadd hw dX8_join_219 ?_
                          refine r_lconst (v := 0) hw dX8_join_220 rfl ?_
                          obtain ⟨h36, m85⟩ := h_ck m84
                          clear m84
                          obtain ⟨M37, eM37, m86⟩ := h_nm m85
                          clear m85
                          refine r_lastore hw h36 dX8_join_221 (r_mem ?_ rfl eM37)
                          refine r_aload_n hw dX8_join_222 0 rfl ?_
                          refine r_getI hw fO_X8_118 h1 dX8_join_223 ?_
                          refine r_i2l hw dX8_join_226 ?_
                          obtain ⟨l38, el38, m87⟩ := h_nm m86
                          clear m86
                          refine r_topL (w := w) el38 ?_
                          refine r_lstore hw dX8_join_227 (by decide) rfl ?_
                          refine r_aload_n hw dX8_join_229 1 rfl ?_
                          refine r_iload_n hw dX8_join_230 3 rfl ?_
                          obtain ⟨M39, g39, m88⟩ := h_bd m87
                          clear m87
                          refine r_callV0 hw (tX8_dropPiece l G b0 g39) lB_X8_dropPiece lI_X8_dropPiece mL_X8_256 (c := 8) rfl h1 rfl (Nat.le_of_ble_eq_true rfl) (Nat.le_of_ble_eq_true rfl) rfl (Nat.le_of_ble_eq_true rfl) dX8_join_231 ?_
                          refine r_lload hw dX8_join_234 0 rfl ?_
                          cases h_ret m88
                          exact r_lreturn hq rfl rfl dX8_join_236
                        · have m89 := h_if_f c29 m77
                          clear m77
                          refine r_ldc2 (v := (-9000000000000000003)) hw dX8_join_175 kW_X8_162 ?_
                          cases h_ret m89
                          exact r_lreturn hq rfl rfl dX8_join_178
                      · have m90 := h_if_t c27 m74
                        clear m74
                        refine r_aload_n hw dX8_join_138 0 rfl ?_
                        refine r_aload_n hw dX8_join_139 0 rfl ?_
                        obtain ⟨q40, bq40, m91⟩ := h_bd m90
                        clear m90
                        refine r_getR hw fO_X8_66 h1 bq40 dX8_join_140 ?_
                        refine r_iload hw dX8_join_143 3 rfl ?_
                        obtain ⟨h41, m92⟩ := h_ck m91
                        clear m91
                        refine r_laload hw h41 dX8_join_145 ?_
                        refine r_aload_n hw dX8_join_146 0 rfl ?_
                        obtain ⟨q42, bq42, m93⟩ := h_bd m92
                        clear m92
                        refine r_getR hw fO_X8_69 h1 bq42 dX8_join_147 ?_
                        refine r_iload hw dX8_join_150 3 rfl ?_
                        obtain ⟨h43, m94⟩ := h_ck m93
                        clear m93
                        refine r_laload hw h43 dX8_join_152 ?_
                        obtain ⟨M44, g44, m95⟩ := h_bd m94
                        clear m94
                        refine r_callV0 hw (tX8_point l G b0 g44) lB_X8_point lI_X8_point mL_X8_139 (c := 8) rfl h1 rfl (Nat.le_of_ble_eq_true rfl) (Nat.le_of_ble_eq_true rfl) rfl (Nat.le_of_ble_eq_true rfl) dX8_join_153 ?_
                        obtain ⟨i45, ei45, m96⟩ := h_nm m95
                        clear m95
                        refine r_iinc (j := 3) (v := i45) hw dX8_join_156 rfl (by rw [ei45]; rfl) (by decide) rfl ?_
                        refine r_goto (tgt := 129) hw dX8_join_159 (by decide) ?_
                        refine r_sub hw [1, 2, 3, 0] rfl ?_
                        exact ih129 _ _ m96
                  exact L129 n0129 _ _ hn129
                · have m97 := h_if_t c22 m70
                  clear m70
                  refine r_ldc2 (v := (-9000000000000000002)) hw dX8_join_118 kW_X8_113 ?_
                  cases h_ret m97
                  exact r_lreturn hq rfl rfl dX8_join_121
              · have m98 := h_if_t c19 m67
                clear m67
                refine r_ldc2 (v := (-9000000000000000002)) hw dX8_join_102 kW_X8_113 ?_
                cases h_ret m98
                exact r_lreturn hq rfl rfl dX8_join_105
            · have m99 := h_if_f c15 m63
              clear m63
              refine r_ldc2 (v := (-9000000000000000002)) hw dX8_join_79 kW_X8_113 ?_
              cases h_ret m99
              exact r_lreturn hq rfl rfl dX8_join_82
      · have m100 := h_if_t c6 m52
        clear m52
        refine r_ldc2 (v := (-9000000000000000001)) hw dX8_join_21 kW_X8_160 ?_
        cases h_ret m100
        exact r_lreturn hq rfl rfl dX8_join_24
theorem dX8_aside_0 : decode cX8_aside 0 = .ok (.aload_n 0, 1) := by decide +kernel
theorem dX8_aside_1 : decode cX8_aside 1 = .ok (.iload_n 1, 1) := by decide +kernel
theorem dX8_aside_2 : decode cX8_aside 2 = .ok (.invokevirtual 226, 3) := by decide +kernel
theorem dX8_aside_5 : decode cX8_aside 5 = .ok (.ifCond .eq 13, 3) := by decide +kernel
theorem dX8_aside_8 : decode cX8_aside 8 = .ok (.iload_n 2, 1) := by decide +kernel
theorem dX8_aside_9 : decode cX8_aside 9 = .ok (.i2l, 1) := by decide +kernel
theorem dX8_aside_10 : decode cX8_aside 10 = .ok (.lconst 0, 1) := by decide +kernel
theorem dX8_aside_11 : decode cX8_aside 11 = .ok (.lconst 1, 1) := by decide +kernel
theorem dX8_aside_12 : decode cX8_aside 12 = .ok (.invokestatic 95, 3) := by decide +kernel
theorem dX8_aside_15 : decode cX8_aside 15 = .ok (.ifCond .ne 7, 3) := by decide +kernel
theorem dX8_aside_18 : decode cX8_aside 18 = .ok (.ldc2_w 160, 3) := by decide +kernel
theorem dX8_aside_21 : decode cX8_aside 21 = .ok (.lreturn, 1) := by decide +kernel
theorem dX8_aside_22 : decode cX8_aside 22 = .ok (.iload_n 2, 1) := by decide +kernel
theorem dX8_aside_23 : decode cX8_aside 23 = .ok (.iconst 1, 1) := by decide +kernel
theorem dX8_aside_24 : decode cX8_aside 24 = .ok (.if_icmp .ne 16, 3) := by decide +kernel
theorem dX8_aside_27 : decode cX8_aside 27 = .ok (.aload_n 0, 1) := by decide +kernel
theorem dX8_aside_28 : decode cX8_aside 28 = .ok (.iload_n 1, 1) := by decide +kernel
theorem dX8_aside_29 : decode cX8_aside 29 = .ok (.invokevirtual 135, 3) := by decide +kernel
theorem dX8_aside_32 : decode cX8_aside 32 = .ok (.iconst 3, 1) := by decide +kernel
theorem dX8_aside_33 : decode cX8_aside 33 = .ok (.if_icmp .eq 7, 3) := by decide +kernel
theorem dX8_aside_36 : decode cX8_aside 36 = .ok (.ldc2_w 113, 3) := by decide +kernel
theorem dX8_aside_39 : decode cX8_aside 39 = .ok (.lreturn, 1) := by decide +kernel
theorem dX8_aside_40 : decode cX8_aside 40 = .ok (.aload_n 0, 1) := by decide +kernel
theorem dX8_aside_41 : decode cX8_aside 41 = .ok (.invokevirtual 174, 3) := by decide +kernel
theorem dX8_aside_44 : decode cX8_aside 44 = .ok (.aload_n 0, 1) := by decide +kernel
theorem dX8_aside_45 : decode cX8_aside 45 = .ok (.iload_n 1, 1) := by decide +kernel
theorem dX8_aside_46 : decode cX8_aside 46 = .ok (.bipush 36, 2) := by decide +kernel
theorem dX8_aside_48 : decode cX8_aside 48 = .ok (.invokevirtual 103, 3) := by decide +kernel
theorem dX8_aside_51 : decode cX8_aside 51 = .ok (.lstore_n 3, 1) := by decide +kernel
theorem dX8_aside_52 : decode cX8_aside 52 = .ok (.aload_n 0, 1) := by decide +kernel
theorem dX8_aside_53 : decode cX8_aside 53 = .ok (.getfield 7, 3) := by decide +kernel
theorem dX8_aside_56 : decode cX8_aside 56 = .ok (.bipush 37, 2) := by decide +kernel
theorem dX8_aside_58 : decode cX8_aside 58 = .ok (.iload_n 1, 1) := by decide +kernel
theorem dX8_aside_59 : decode cX8_aside 59 = .ok (.imul, 1) := by decide +kernel
theorem dX8_aside_60 : decode cX8_aside 60 = .ok (.bipush 36, 2) := by decide +kernel
theorem dX8_aside_62 : decode cX8_aside 62 = .ok (.iadd, 1) := by decide +kernel
theorem dX8_aside_63 : decode cX8_aside 63 = .ok (.iload_n 2, 1) := by decide +kernel
theorem dX8_aside_64 : decode cX8_aside 64 = .ok (.i2l, 1) := by decide +kernel
theorem dX8_aside_65 : decode cX8_aside 65 = .ok (.lastore, 1) := by decide +kernel
theorem dX8_aside_66 : decode cX8_aside 66 = .ok (.lload_n 3, 1) := by decide +kernel
theorem dX8_aside_67 : decode cX8_aside 67 = .ok (.lreturn, 1) := by decide +kernel
set_option maxHeartbeats 4000000 in
set_option maxRecDepth 100000 in
theorem tX8_aside (l : Launch) (G : Gg) (b0 : Nat) {K : Kk} {R : Rr} {M : Mm} {r : Nat} {a0 : Int32} {a1 : Int32} {res : Int64} {M' : Mm} (hm : mX8_aside K R M r a0 a1 = some (res, M')) : CT l G b0 yX8_aside cX8_aside 5 (some .long) (rmz 3 46) [.ref r, .int a0, .int a1] K R M (some (.long res)) K R M' := by
  refine ct_of (by decide +kernel) (Nat.le_of_ble_eq_true rfl) (fun w hq => ?_)
  have hw := hq.b
  change w 0 0 0 [(0, .ref r), (1, .int a0), (2, .int a1)] [] K R M
  replace hm := h_start hm
  unfold mX8_aside at hm
  obtain ⟨h1, m15⟩ := h_ck hm
  clear hm
  have J40 : ∀ (M2 : Mm), (mX8_aside_J40 K R M2 r a0 a1).bind some = some (res, M') → w 0 0 40 [(0, .ref r), (1, .int a0), (2, .int a1)] [] K R M2 := by
    intro M2  m16
    unfold mX8_aside_J40 at m16
    refine r_aload_n hw dX8_aside_40 0 rfl ?_
    obtain ⟨M3, g3, m17⟩ := h_bd m16
    clear m16
    refine r_callV0 hw (tX8_keep l G b0 g3) lB_X8_keep lI_X8_keep mL_X8_174 (c := 8) rfl h1 rfl (Nat.le_of_ble_eq_true rfl) (Nat.le_of_ble_eq_true rfl) rfl (Nat.le_of_ble_eq_true rfl) dX8_aside_41 ?_
    refine r_aload_n hw dX8_aside_44 0 rfl ?_
    refine r_iload_n hw dX8_aside_45 1 rfl ?_
    refine r_bipush (v := 36) hw dX8_aside_46 rfl ?_
    obtain ⟨l4, g4, m18⟩ := h_bd m17
    clear m17
    refine r_callV1 hw (tX8_get l G b0 g4) lB_X8_get lI_X8_get mL_X8_103 (c := 8) rfl h1 rfl (Nat.le_of_ble_eq_true rfl) (Nat.le_of_ble_eq_true rfl) rfl (Nat.le_of_ble_eq_true rfl) dX8_aside_48 ?_
    refine r_lstore_n hw dX8_aside_51 rfl (by decide) rfl ?_
    refine r_aload_n hw dX8_aside_52 1 rfl ?_
    obtain ⟨q5, bq5, m19⟩ := h_bd m18
    clear m18
    refine r_getR hw fO_X8_7 h1 bq5 dX8_aside_53 ?_
    refine r_bipush (v := 37) hw dX8_aside_56 rfl ?_
    refine r_iload_n hw dX8_aside_58 2 rfl ?_
    refine r_imul hw dX8_aside_59 ?_
    refine r_bipush (v := 36) hw dX8_aside_60 rfl ?_
    refine r_iadd hw dX8_aside_62 ?_
    refine r_iload_n hw dX8_aside_63 3 rfl ?_
    refine r_i2l hw dX8_aside_64 ?_
    obtain ⟨h6, m20⟩ := h_ck m19
    clear m19
    obtain ⟨M7, eM7, m21⟩ := h_nm m20
    clear m20
    refine r_lastore hw h6 dX8_aside_65 (r_mem ?_ rfl eM7)
    refine r_lload_n hw dX8_aside_66 0 rfl ?_
    cases h_ret m21
    exact r_lreturn hq rfl rfl dX8_aside_67
  refine r_aload_n hw dX8_aside_0 0 rfl ?_
  refine r_iload_n hw dX8_aside_1 1 rfl ?_
  obtain ⟨i8, g8, m22⟩ := h_bd m15
  clear m15
  refine r_callV1 hw (tX8_isPiece l G b0 g8) lB_X8_isPiece lI_X8_isPiece mL_X8_226 (c := 8) rfl h1 rfl (Nat.le_of_ble_eq_true rfl) (Nat.le_of_ble_eq_true rfl) rfl (Nat.le_of_ble_eq_true rfl) dX8_aside_2 ?_
  refine r_if_eq (tgt := 18) hw dX8_aside_5 (by decide) (fun c9 => ?_) (fun c9 => ?_)
  · have m23 := h_if_t c9 m22
    clear m22
    refine r_ldc2 (v := (-9000000000000000001)) hw dX8_aside_18 kW_X8_160 ?_
    cases h_ret m23
    exact r_lreturn hq rfl rfl dX8_aside_21
  · have m24 := h_if_f c9 m22
    clear m22
    refine r_iload_n hw dX8_aside_8 2 rfl ?_
    refine r_i2l hw dX8_aside_9 ?_
    refine r_lconst (v := 0) hw dX8_aside_10 rfl ?_
    refine r_lconst (v := 1) hw dX8_aside_11 rfl ?_
    obtain ⟨i10, g10, m25⟩ := h_bd m24
    clear m24
    refine r_callS1 hw (tX8_isIn l G b0 g10) lB_X8_isIn sT_X8_isIn mL_X8_95 rfl rfl (Nat.le_of_ble_eq_true rfl) (Nat.le_of_ble_eq_true rfl) rfl (Nat.le_of_ble_eq_true rfl) dX8_aside_12 ?_
    refine r_if_ne (tgt := 22) hw dX8_aside_15 (by decide) (fun c11 => ?_) (fun c11 => ?_)
    · have m26 := h_if_f c11 m25
      clear m25
      refine r_iload_n hw dX8_aside_22 2 rfl ?_
      refine r_iconst (v := 1) hw dX8_aside_23 rfl ?_
      refine r_icmp_ne (tgt := 40) hw dX8_aside_24 (by decide) (fun c12 => ?_) (fun c12 => ?_)
      · have m27 := h_if_f c12 m26
        clear m26
        exact J40 _ m27
      · have m28 := h_if_t c12 m26
        clear m26
        refine r_aload_n hw dX8_aside_27 0 rfl ?_
        refine r_iload_n hw dX8_aside_28 1 rfl ?_
        obtain ⟨i13, g13, m29⟩ := h_bd m28
        clear m28
        refine r_callV1 hw (tX8_size l G b0 g13) lB_X8_size lI_X8_size mL_X8_135 (c := 8) rfl h1 rfl (Nat.le_of_ble_eq_true rfl) (Nat.le_of_ble_eq_true rfl) rfl (Nat.le_of_ble_eq_true rfl) dX8_aside_29 ?_
        refine r_iconst (v := 3) hw dX8_aside_32 rfl ?_
        refine r_icmp_eq (tgt := 40) hw dX8_aside_33 (by decide) (fun c14 => ?_) (fun c14 => ?_)
        · have m30 := h_if_t c14 m29
          clear m29
          exact J40 _ m30
        · have m31 := h_if_f c14 m29
          clear m29
          refine r_ldc2 (v := (-9000000000000000002)) hw dX8_aside_36 kW_X8_113 ?_
          cases h_ret m31
          exact r_lreturn hq rfl rfl dX8_aside_39
    · have m32 := h_if_t c11 m25
      clear m25
      refine r_ldc2 (v := (-9000000000000000001)) hw dX8_aside_18 kW_X8_160 ?_
      cases h_ret m32
      exact r_lreturn hq rfl rfl dX8_aside_21
theorem dX8_back_0 : decode cX8_back 0 = .ok (.aload_n 0, 1) := by decide +kernel
theorem dX8_back_1 : decode cX8_back 1 = .ok (.invokevirtual 174, 3) := by decide +kernel
theorem dX8_back_4 : decode cX8_back 4 = .ok (.iconst 0, 1) := by decide +kernel
theorem dX8_back_5 : decode cX8_back 5 = .ok (.istore_n 1, 1) := by decide +kernel
theorem dX8_back_6 : decode cX8_back 6 = .ok (.iconst 0, 1) := by decide +kernel
theorem dX8_back_7 : decode cX8_back 7 = .ok (.istore_n 2, 1) := by decide +kernel
theorem dX8_back_8 : decode cX8_back 8 = .ok (.iload_n 2, 1) := by decide +kernel
theorem dX8_back_9 : decode cX8_back 9 = .ok (.aload_n 0, 1) := by decide +kernel
theorem dX8_back_10 : decode cX8_back 10 = .ok (.invokevirtual 99, 3) := by decide +kernel
theorem dX8_back_13 : decode cX8_back 13 = .ok (.if_icmp .ge 61, 3) := by decide +kernel
theorem dX8_back_16 : decode cX8_back 16 = .ok (.iload_n 1, 1) := by decide +kernel
theorem dX8_back_17 : decode cX8_back 17 = .ok (.aload_n 0, 1) := by decide +kernel
theorem dX8_back_18 : decode cX8_back 18 = .ok (.iload_n 2, 1) := by decide +kernel
theorem dX8_back_19 : decode cX8_back 19 = .ok (.bipush 33, 2) := by decide +kernel
theorem dX8_back_21 : decode cX8_back 21 = .ok (.invokevirtual 103, 3) := by decide +kernel
theorem dX8_back_24 : decode cX8_back 24 = .ok (.lconst 1, 1) := by decide +kernel
theorem dX8_back_25 : decode cX8_back 25 = .ok (.lcmp, 1) := by decide +kernel
theorem dX8_back_26 : decode cX8_back 26 = .ok (.ifCond .ne 27, 3) := by decide +kernel
theorem dX8_back_29 : decode cX8_back 29 = .ok (.aload_n 0, 1) := by decide +kernel
theorem dX8_back_30 : decode cX8_back 30 = .ok (.iload_n 2, 1) := by decide +kernel
theorem dX8_back_31 : decode cX8_back 31 = .ok (.bipush 34, 2) := by decide +kernel
theorem dX8_back_33 : decode cX8_back 33 = .ok (.invokevirtual 103, 3) := by decide +kernel
theorem dX8_back_36 : decode cX8_back 36 = .ok (.lconst 0, 1) := by decide +kernel
theorem dX8_back_37 : decode cX8_back 37 = .ok (.lcmp, 1) := by decide +kernel
theorem dX8_back_38 : decode cX8_back 38 = .ok (.ifCond .ne 15, 3) := by decide +kernel
theorem dX8_back_41 : decode cX8_back 41 = .ok (.aload_n 0, 1) := by decide +kernel
theorem dX8_back_42 : decode cX8_back 42 = .ok (.iload_n 2, 1) := by decide +kernel
theorem dX8_back_43 : decode cX8_back 43 = .ok (.bipush 35, 2) := by decide +kernel
theorem dX8_back_45 : decode cX8_back 45 = .ok (.invokevirtual 103, 3) := by decide +kernel
theorem dX8_back_48 : decode cX8_back 48 = .ok (.lconst 0, 1) := by decide +kernel
theorem dX8_back_49 : decode cX8_back 49 = .ok (.lcmp, 1) := by decide +kernel
theorem dX8_back_50 : decode cX8_back 50 = .ok (.ifCond .eq 7, 3) := by decide +kernel
theorem dX8_back_53 : decode cX8_back 53 = .ok (.iconst 1, 1) := by decide +kernel
theorem dX8_back_54 : decode cX8_back 54 = .ok (.goto 4, 3) := by decide +kernel
theorem dX8_back_57 : decode cX8_back 57 = .ok (.iconst 0, 1) := by decide +kernel
theorem dX8_back_58 : decode cX8_back 58 = .ok (.iadd, 1) := by decide +kernel
theorem dX8_back_59 : decode cX8_back 59 = .ok (.istore_n 1, 1) := by decide +kernel
theorem dX8_back_60 : decode cX8_back 60 = .ok (.aload_n 0, 1) := by decide +kernel
theorem dX8_back_61 : decode cX8_back 61 = .ok (.iload_n 2, 1) := by decide +kernel
theorem dX8_back_62 : decode cX8_back 62 = .ok (.lconst 1, 1) := by decide +kernel
theorem dX8_back_63 : decode cX8_back 63 = .ok (.lconst 0, 1) := by decide +kernel
theorem dX8_back_64 : decode cX8_back 64 = .ok (.lconst 0, 1) := by decide +kernel
theorem dX8_back_65 : decode cX8_back 65 = .ok (.invokevirtual 181, 3) := by decide +kernel
theorem dX8_back_68 : decode cX8_back 68 = .ok (.iinc 2 1, 3) := by decide +kernel
theorem dX8_back_71 : decode cX8_back 71 = .ok (.goto (-63), 3) := by decide +kernel
theorem dX8_back_74 : decode cX8_back 74 = .ok (.iload_n 1, 1) := by decide +kernel
theorem dX8_back_75 : decode cX8_back 75 = .ok (.i2l, 1) := by decide +kernel
theorem dX8_back_76 : decode cX8_back 76 = .ok (.lreturn, 1) := by decide +kernel
set_option maxHeartbeats 4000000 in
set_option maxRecDepth 100000 in
theorem tX8_back (l : Launch) (G : Gg) (b0 : Nat) {K : Kk} {R : Rr} {M : Mm} {r : Nat} {res : Int64} {M' : Mm} (hm : mX8_back K R M r = some (res, M')) : CT l G b0 yX8_back cX8_back 3 (some .long) (rmz 2 27) [.ref r] K R M (some (.long res)) K R M' := by
  refine ct_of (by decide +kernel) (Nat.le_of_ble_eq_true rfl) (fun w hq => ?_)
  have hw := hq.b
  change w 0 0 0 [(0, .ref r)] [] K R M
  replace hm := h_start hm
  unfold mX8_back at hm
  obtain ⟨h1, m26⟩ := h_ck hm
  clear hm
  refine r_aload_n hw dX8_back_0 0 rfl ?_
  obtain ⟨M2, g2, m27⟩ := h_bd m26
  clear m26
  refine r_callV0 hw (tX8_keep l G b0 g2) lB_X8_keep lI_X8_keep mL_X8_174 (c := 8) rfl h1 rfl (Nat.le_of_ble_eq_true rfl) (Nat.le_of_ble_eq_true rfl) rfl (Nat.le_of_ble_eq_true rfl) dX8_back_1 ?_
  refine r_iconst (v := 0) hw dX8_back_4 rfl ?_
  obtain ⟨i3, ei3, m28⟩ := h_nm m27
  clear m27
  refine r_topI (w := w) ei3 ?_
  refine r_istore_n hw dX8_back_5 rfl (by decide) rfl ?_
  refine r_iconst (v := 0) hw dX8_back_6 rfl ?_
  obtain ⟨i4, ei4, m29⟩ := h_nm m28
  clear m28
  refine r_topI (w := w) ei4 ?_
  refine r_istore_n hw dX8_back_7 rfl (by decide) rfl ?_
  refine r_sub hw [2, 1, 0] rfl ?_
  obtain ⟨v8, n08, hn8, hv8⟩ := h_lp m29
  clear m29
  have L8 : ∀ n : Nat, ∀ (i5 : Int32) (i6 : Int32) (M7 : Mm), it (mX8_back_L8 K R r) n (i5, i6, M7) = some v8 → w 0 0 8 [(0, .ref r), (1, .int i5), (2, .int i6)] [] K R M7 := by
    intro n8
    induction n8 with
    | zero => intro i5 i6 M7 hz; exact absurd hz h_it0
    | succ n8 ih8 =>
      intro i5 i6 M7 m30
      replace m30 : (mX8_back_B8 K R r i5 i6 M7).bind (Sum.elim (it (mX8_back_L8 K R r) n8) some) = some v8 := m30
      unfold mX8_back_B8 at m30
      have J58 : ∀ (M11 : Mm) (i8 : Int32) (s9 : Int32) (s10 : Int32), (mX8_back_J58 K R M11 r i8 s9 s10).bind (Sum.elim (it (mX8_back_L8 K R r) n8) some) = some v8 → w 0 0 58 [(0, .ref r), (2, .int i8)] [.int s10, .int s9] K R M11 := by
        intro M11 i8 s9 s10 m31
        unfold mX8_back_J58 at m31
        refine r_iadd hw dX8_back_58 ?_
        obtain ⟨i12, ei12, m32⟩ := h_nm m31
        clear m31
        refine r_topI (w := w) ei12 ?_
        refine r_istore_n hw dX8_back_59 rfl (by decide) rfl ?_
        refine r_aload_n hw dX8_back_60 1 rfl ?_
        refine r_iload_n hw dX8_back_61 2 rfl ?_
        refine r_lconst (v := 1) hw dX8_back_62 rfl ?_
        refine r_lconst (v := 0) hw dX8_back_63 rfl ?_
        refine r_lconst (v := 0) hw dX8_back_64 rfl ?_
        obtain ⟨M13, g13, m33⟩ := h_bd m32
        clear m32
        refine r_callV0 hw (tX8_move l G b0 g13) lB_X8_move lI_X8_move mL_X8_181 (c := 8) rfl h1 rfl (Nat.le_of_ble_eq_true rfl) (Nat.le_of_ble_eq_true rfl) rfl (Nat.le_of_ble_eq_true rfl) dX8_back_65 ?_
        obtain ⟨i14, ei14, m34⟩ := h_nm m33
        clear m33
        refine r_iinc (j := 2) (v := i14) hw dX8_back_68 rfl (by rw [ei14]; rfl) (by decide) rfl ?_
        refine r_goto (tgt := 8) hw dX8_back_71 (by decide) ?_
        refine r_sub hw [2, 1, 0] rfl ?_
        exact ih8 _ _ _ m34
      have J53 : ∀ (M17 : Mm) (i15 : Int32) (s16 : Int32), (mX8_back_J53 K R M17 r i15 s16).bind (Sum.elim (it (mX8_back_L8 K R r) n8) some) = some v8 → w 0 0 53 [(0, .ref r), (2, .int i15)] [.int s16] K R M17 := by
        intro M17 i15 s16 m35
        unfold mX8_back_J53 at m35
        refine r_iconst (v := 1) hw dX8_back_53 rfl ?_
        refine r_goto (tgt := 58) hw dX8_back_54 (by decide) ?_
        exact J58 _ _ _ _ m35
      refine r_iload_n hw dX8_back_8 2 rfl ?_
      refine r_aload_n hw dX8_back_9 0 rfl ?_
      obtain ⟨i18, g18, m36⟩ := h_bd m30
      clear m30
      refine r_callV1 hw (tX8_pieces l G b0 g18) lB_X8_pieces lI_X8_pieces mL_X8_99 (c := 8) rfl h1 rfl (Nat.le_of_ble_eq_true rfl) (Nat.le_of_ble_eq_true rfl) rfl (Nat.le_of_ble_eq_true rfl) dX8_back_10 ?_
      refine r_icmp_ge (tgt := 74) hw dX8_back_13 (by decide) (fun c19 => ?_) (fun c19 => ?_)
      · have m37 := h_if_f c19 m36
        clear m36
        have m38 := h_ex m37 hv8
        clear m37
        refine r_iload_n hw dX8_back_74 1 rfl ?_
        refine r_i2l hw dX8_back_75 ?_
        cases h_ret m38
        exact r_lreturn hq rfl rfl dX8_back_76
      · have m39 := h_if_t c19 m36
        clear m36
        refine r_iload_n hw dX8_back_16 1 rfl ?_
        refine r_aload_n hw dX8_back_17 0 rfl ?_
        refine r_iload_n hw dX8_back_18 2 rfl ?_
        refine r_bipush (v := 33) hw dX8_back_19 rfl ?_
        obtain ⟨l20, g20, m40⟩ := h_bd m39
        clear m39
        refine r_callV1 hw (tX8_get l G b0 g20) lB_X8_get lI_X8_get mL_X8_103 (c := 8) rfl h1 rfl (Nat.le_of_ble_eq_true rfl) (Nat.le_of_ble_eq_true rfl) rfl (Nat.le_of_ble_eq_true rfl) dX8_back_21 ?_
        refine r_lconst (v := 1) hw dX8_back_24 rfl ?_
        refine r_lcmp_ne (tgt := 53) hw dX8_back_25 dX8_back_26 (by decide) (fun c21 => ?_) (fun c21 => ?_)
        · have m41 := h_if_f c21 m40
          clear m40
          refine r_sub hw [0, 2] rfl ?_
          exact J53 _ _ _ m41
        · have m42 := h_if_t c21 m40
          clear m40
          refine r_aload_n hw dX8_back_29 0 rfl ?_
          refine r_iload_n hw dX8_back_30 2 rfl ?_
          refine r_bipush (v := 34) hw dX8_back_31 rfl ?_
          obtain ⟨l22, g22, m43⟩ := h_bd m42
          clear m42
          refine r_callV1 hw (tX8_get l G b0 g22) lB_X8_get lI_X8_get mL_X8_103 (c := 8) rfl h1 rfl (Nat.le_of_ble_eq_true rfl) (Nat.le_of_ble_eq_true rfl) rfl (Nat.le_of_ble_eq_true rfl) dX8_back_33 ?_
          refine r_lconst (v := 0) hw dX8_back_36 rfl ?_
          refine r_lcmp_ne (tgt := 53) hw dX8_back_37 dX8_back_38 (by decide) (fun c23 => ?_) (fun c23 => ?_)
          · have m44 := h_if_f c23 m43
            clear m43
            refine r_sub hw [0, 2] rfl ?_
            exact J53 _ _ _ m44
          · have m45 := h_if_t c23 m43
            clear m43
            refine r_aload_n hw dX8_back_41 0 rfl ?_
            refine r_iload_n hw dX8_back_42 2 rfl ?_
            refine r_bipush (v := 35) hw dX8_back_43 rfl ?_
            obtain ⟨l24, g24, m46⟩ := h_bd m45
            clear m45
            refine r_callV1 hw (tX8_get l G b0 g24) lB_X8_get lI_X8_get mL_X8_103 (c := 8) rfl h1 rfl (Nat.le_of_ble_eq_true rfl) (Nat.le_of_ble_eq_true rfl) rfl (Nat.le_of_ble_eq_true rfl) dX8_back_45 ?_
            refine r_lconst (v := 0) hw dX8_back_48 rfl ?_
            refine r_lcmp_eq (tgt := 57) hw dX8_back_49 dX8_back_50 (by decide) (fun c25 => ?_) (fun c25 => ?_)
            · have m47 := h_if_t c25 m46
              clear m46
              refine r_iconst (v := 0) hw dX8_back_57 rfl ?_
              refine r_sub hw [0, 2] rfl ?_
              exact J58 _ _ _ _ m47
            · have m48 := h_if_f c25 m46
              clear m46
              refine r_sub hw [0, 2] rfl ?_
              exact J53 _ _ _ m48
  exact L8 n08 _ _ _ hn8
theorem dX8_isSlab_0 : decode cX8_isSlab 0 = .ok (.aload_n 0, 1) := by decide +kernel
theorem dX8_isSlab_1 : decode cX8_isSlab 1 = .ok (.getfield 146, 3) := by decide +kernel
theorem dX8_isSlab_4 : decode cX8_isSlab 4 = .ok (.iconst 4, 1) := by decide +kernel
theorem dX8_isSlab_5 : decode cX8_isSlab 5 = .ok (.if_icmp .ne 67, 3) := by decide +kernel
theorem dX8_isSlab_8 : decode cX8_isSlab 8 = .ok (.aload_n 0, 1) := by decide +kernel
theorem dX8_isSlab_9 : decode cX8_isSlab 9 = .ok (.getfield 42, 3) := by decide +kernel
theorem dX8_isSlab_12 : decode cX8_isSlab 12 = .ok (.iconst 0, 1) := by decide +kernel
theorem dX8_isSlab_13 : decode cX8_isSlab 13 = .ok (.laload, 1) := by decide +kernel
theorem dX8_isSlab_14 : decode cX8_isSlab 14 = .ok (.aload_n 0, 1) := by decide +kernel
theorem dX8_isSlab_15 : decode cX8_isSlab 15 = .ok (.getfield 42, 3) := by decide +kernel
theorem dX8_isSlab_18 : decode cX8_isSlab 18 = .ok (.iconst 2, 1) := by decide +kernel
theorem dX8_isSlab_19 : decode cX8_isSlab 19 = .ok (.laload, 1) := by decide +kernel
theorem dX8_isSlab_20 : decode cX8_isSlab 20 = .ok (.ladd, 1) := by decide +kernel
theorem dX8_isSlab_21 : decode cX8_isSlab 21 = .ok (.aload_n 0, 1) := by decide +kernel
theorem dX8_isSlab_22 : decode cX8_isSlab 22 = .ok (.getfield 42, 3) := by decide +kernel
theorem dX8_isSlab_25 : decode cX8_isSlab 25 = .ok (.iconst 1, 1) := by decide +kernel
theorem dX8_isSlab_26 : decode cX8_isSlab 26 = .ok (.laload, 1) := by decide +kernel
theorem dX8_isSlab_27 : decode cX8_isSlab 27 = .ok (.aload_n 0, 1) := by decide +kernel
theorem dX8_isSlab_28 : decode cX8_isSlab 28 = .ok (.getfield 42, 3) := by decide +kernel
theorem dX8_isSlab_31 : decode cX8_isSlab 31 = .ok (.iconst 3, 1) := by decide +kernel
theorem dX8_isSlab_32 : decode cX8_isSlab 32 = .ok (.laload, 1) := by decide +kernel
theorem dX8_isSlab_33 : decode cX8_isSlab 33 = .ok (.ladd, 1) := by decide +kernel
theorem dX8_isSlab_34 : decode cX8_isSlab 34 = .ok (.lcmp, 1) := by decide +kernel
theorem dX8_isSlab_35 : decode cX8_isSlab 35 = .ok (.ifCond .ne 37, 3) := by decide +kernel
theorem dX8_isSlab_38 : decode cX8_isSlab 38 = .ok (.aload_n 0, 1) := by decide +kernel
theorem dX8_isSlab_39 : decode cX8_isSlab 39 = .ok (.getfield 45, 3) := by decide +kernel
theorem dX8_isSlab_42 : decode cX8_isSlab 42 = .ok (.iconst 0, 1) := by decide +kernel
theorem dX8_isSlab_43 : decode cX8_isSlab 43 = .ok (.laload, 1) := by decide +kernel
theorem dX8_isSlab_44 : decode cX8_isSlab 44 = .ok (.aload_n 0, 1) := by decide +kernel
theorem dX8_isSlab_45 : decode cX8_isSlab 45 = .ok (.getfield 45, 3) := by decide +kernel
theorem dX8_isSlab_48 : decode cX8_isSlab 48 = .ok (.iconst 2, 1) := by decide +kernel
theorem dX8_isSlab_49 : decode cX8_isSlab 49 = .ok (.laload, 1) := by decide +kernel
theorem dX8_isSlab_50 : decode cX8_isSlab 50 = .ok (.ladd, 1) := by decide +kernel
theorem dX8_isSlab_51 : decode cX8_isSlab 51 = .ok (.aload_n 0, 1) := by decide +kernel
theorem dX8_isSlab_52 : decode cX8_isSlab 52 = .ok (.getfield 45, 3) := by decide +kernel
theorem dX8_isSlab_55 : decode cX8_isSlab 55 = .ok (.iconst 1, 1) := by decide +kernel
theorem dX8_isSlab_56 : decode cX8_isSlab 56 = .ok (.laload, 1) := by decide +kernel
theorem dX8_isSlab_57 : decode cX8_isSlab 57 = .ok (.aload_n 0, 1) := by decide +kernel
theorem dX8_isSlab_58 : decode cX8_isSlab 58 = .ok (.getfield 45, 3) := by decide +kernel
theorem dX8_isSlab_61 : decode cX8_isSlab 61 = .ok (.iconst 3, 1) := by decide +kernel
theorem dX8_isSlab_62 : decode cX8_isSlab 62 = .ok (.laload, 1) := by decide +kernel
theorem dX8_isSlab_63 : decode cX8_isSlab 63 = .ok (.ladd, 1) := by decide +kernel
theorem dX8_isSlab_64 : decode cX8_isSlab 64 = .ok (.lcmp, 1) := by decide +kernel
theorem dX8_isSlab_65 : decode cX8_isSlab 65 = .ok (.ifCond .ne 7, 3) := by decide +kernel
theorem dX8_isSlab_68 : decode cX8_isSlab 68 = .ok (.iconst 1, 1) := by decide +kernel
theorem dX8_isSlab_69 : decode cX8_isSlab 69 = .ok (.goto 4, 3) := by decide +kernel
theorem dX8_isSlab_72 : decode cX8_isSlab 72 = .ok (.iconst 0, 1) := by decide +kernel
theorem dX8_isSlab_73 : decode cX8_isSlab 73 = .ok (.ireturn, 1) := by decide +kernel
set_option maxHeartbeats 4000000 in
set_option maxRecDepth 100000 in
theorem tX8_isSlab (l : Launch) (G : Gg) (b0 : Nat) {K : Kk} {R : Rr} {M : Mm} {r : Nat} {res : Int32} (hm : mX8_isSlab K R M r = some (res)) : CT l G b0 yX8_isSlab cX8_isSlab 1 (some .boolean) (rmz 1 0) [.ref r] K R M (some (.int res)) K R M := by
  refine ct_of (by decide +kernel) (Nat.le_of_ble_eq_true rfl) (fun w hq => ?_)
  have hw := hq.b
  change w 0 0 0 [(0, .ref r)] [] K R M
  replace hm := h_start hm
  unfold mX8_isSlab at hm
  obtain ⟨h1, m15⟩ := h_ck hm
  clear hm
  refine r_aload_n hw dX8_isSlab_0 0 rfl ?_
  refine r_getI hw fO_X8_146 h1 dX8_isSlab_1 ?_
  refine r_iconst (v := 4) hw dX8_isSlab_4 rfl ?_
  refine r_icmp_ne (tgt := 72) hw dX8_isSlab_5 (by decide) (fun c2 => ?_) (fun c2 => ?_)
  · have m16 := h_if_f c2 m15
    clear m15
    refine r_iconst (v := 0) hw dX8_isSlab_72 rfl ?_
    cases h_ret m16
    exact r_zreturn hq isB_0 rfl rfl dX8_isSlab_73
  · have m17 := h_if_t c2 m15
    clear m15
    refine r_aload_n hw dX8_isSlab_8 0 rfl ?_
    obtain ⟨q3, bq3, m18⟩ := h_bd m17
    clear m17
    refine r_getR hw fO_X8_42 h1 bq3 dX8_isSlab_9 ?_
    refine r_iconst (v := 0) hw dX8_isSlab_12 rfl ?_
    obtain ⟨h4, m19⟩ := h_ck m18
    clear m18
    refine r_laload hw h4 dX8_isSlab_13 ?_
    refine r_aload_n hw dX8_isSlab_14 0 rfl ?_
    refine r_getR hw fO_X8_42 h1 bq3 dX8_isSlab_15 ?_
    refine r_iconst (v := 2) hw dX8_isSlab_18 rfl ?_
    obtain ⟨h5, m20⟩ := h_ck m19
    clear m19
    refine r_laload hw h5 dX8_isSlab_19 ?_
    refine r_ladd hw dX8_isSlab_20 ?_
    refine r_aload_n hw dX8_isSlab_21 0 rfl ?_
    refine r_getR hw fO_X8_42 h1 bq3 dX8_isSlab_22 ?_
    refine r_iconst (v := 1) hw dX8_isSlab_25 rfl ?_
    obtain ⟨h6, m21⟩ := h_ck m20
    clear m20
    refine r_laload hw h6 dX8_isSlab_26 ?_
    refine r_aload_n hw dX8_isSlab_27 0 rfl ?_
    refine r_getR hw fO_X8_42 h1 bq3 dX8_isSlab_28 ?_
    refine r_iconst (v := 3) hw dX8_isSlab_31 rfl ?_
    obtain ⟨h7, m22⟩ := h_ck m21
    clear m21
    refine r_laload hw h7 dX8_isSlab_32 ?_
    refine r_ladd hw dX8_isSlab_33 ?_
    refine r_lcmp_ne (tgt := 72) hw dX8_isSlab_34 dX8_isSlab_35 (by decide) (fun c8 => ?_) (fun c8 => ?_)
    · have m23 := h_if_f c8 m22
      clear m22
      refine r_iconst (v := 0) hw dX8_isSlab_72 rfl ?_
      cases h_ret m23
      exact r_zreturn hq isB_0 rfl rfl dX8_isSlab_73
    · have m24 := h_if_t c8 m22
      clear m22
      refine r_aload_n hw dX8_isSlab_38 0 rfl ?_
      obtain ⟨q9, bq9, m25⟩ := h_bd m24
      clear m24
      refine r_getR hw fO_X8_45 h1 bq9 dX8_isSlab_39 ?_
      refine r_iconst (v := 0) hw dX8_isSlab_42 rfl ?_
      obtain ⟨h10, m26⟩ := h_ck m25
      clear m25
      refine r_laload hw h10 dX8_isSlab_43 ?_
      refine r_aload_n hw dX8_isSlab_44 0 rfl ?_
      refine r_getR hw fO_X8_45 h1 bq9 dX8_isSlab_45 ?_
      refine r_iconst (v := 2) hw dX8_isSlab_48 rfl ?_
      obtain ⟨h11, m27⟩ := h_ck m26
      clear m26
      refine r_laload hw h11 dX8_isSlab_49 ?_
      refine r_ladd hw dX8_isSlab_50 ?_
      refine r_aload_n hw dX8_isSlab_51 0 rfl ?_
      refine r_getR hw fO_X8_45 h1 bq9 dX8_isSlab_52 ?_
      refine r_iconst (v := 1) hw dX8_isSlab_55 rfl ?_
      obtain ⟨h12, m28⟩ := h_ck m27
      clear m27
      refine r_laload hw h12 dX8_isSlab_56 ?_
      refine r_aload_n hw dX8_isSlab_57 0 rfl ?_
      refine r_getR hw fO_X8_45 h1 bq9 dX8_isSlab_58 ?_
      refine r_iconst (v := 3) hw dX8_isSlab_61 rfl ?_
      obtain ⟨h13, m29⟩ := h_ck m28
      clear m28
      refine r_laload hw h13 dX8_isSlab_62 ?_
      refine r_ladd hw dX8_isSlab_63 ?_
      refine r_lcmp_ne (tgt := 72) hw dX8_isSlab_64 dX8_isSlab_65 (by decide) (fun c14 => ?_) (fun c14 => ?_)
      · have m30 := h_if_f c14 m29
        clear m29
        refine r_iconst (v := 0) hw dX8_isSlab_72 rfl ?_
        cases h_ret m30
        exact r_zreturn hq isB_0 rfl rfl dX8_isSlab_73
      · have m31 := h_if_t c14 m29
        clear m29
        refine r_iconst (v := 1) hw dX8_isSlab_68 rfl ?_
        refine r_goto (tgt := 73) hw dX8_isSlab_69 (by decide) ?_
        cases h_ret m31
        exact r_zreturn hq isB_1 rfl rfl dX8_isSlab_73
theorem dX8_isUpright_0 : decode cX8_isUpright 0 = .ok (.iconst 1, 1) := by decide +kernel
theorem dX8_isUpright_1 : decode cX8_isUpright 1 = .ok (.istore_n 1, 1) := by decide +kernel
theorem dX8_isUpright_2 : decode cX8_isUpright 2 = .ok (.iconst 0, 1) := by decide +kernel
theorem dX8_isUpright_3 : decode cX8_isUpright 3 = .ok (.istore_n 2, 1) := by decide +kernel
theorem dX8_isUpright_4 : decode cX8_isUpright 4 = .ok (.iload_n 2, 1) := by decide +kernel
theorem dX8_isUpright_5 : decode cX8_isUpright 5 = .ok (.aload_n 0, 1) := by decide +kernel
theorem dX8_isUpright_6 : decode cX8_isUpright 6 = .ok (.getfield 146, 3) := by decide +kernel
theorem dX8_isUpright_9 : decode cX8_isUpright 9 = .ok (.if_icmp .ge 60, 3) := by decide +kernel
theorem dX8_isUpright_12 : decode cX8_isUpright 12 = .ok (.iload_n 2, 1) := by decide +kernel
theorem dX8_isUpright_13 : decode cX8_isUpright 13 = .ok (.iconst 1, 1) := by decide +kernel
theorem dX8_isUpright_14 : decode cX8_isUpright 14 = .ok (.iadd, 1) := by decide +kernel
theorem dX8_isUpright_15 : decode cX8_isUpright 15 = .ok (.aload_n 0, 1) := by decide +kernel
theorem dX8_isUpright_16 : decode cX8_isUpright 16 = .ok (.getfield 146, 3) := by decide +kernel
theorem dX8_isUpright_19 : decode cX8_isUpright 19 = .ok (.irem, 1) := by decide +kernel
theorem dX8_isUpright_20 : decode cX8_isUpright 20 = .ok (.istore_n 3, 1) := by decide +kernel
theorem dX8_isUpright_21 : decode cX8_isUpright 21 = .ok (.iload_n 1, 1) := by decide +kernel
theorem dX8_isUpright_22 : decode cX8_isUpright 22 = .ok (.ifCond .eq 39, 3) := by decide +kernel
theorem dX8_isUpright_25 : decode cX8_isUpright 25 = .ok (.aload_n 0, 1) := by decide +kernel
theorem dX8_isUpright_26 : decode cX8_isUpright 26 = .ok (.getfield 42, 3) := by decide +kernel
theorem dX8_isUpright_29 : decode cX8_isUpright 29 = .ok (.iload_n 2, 1) := by decide +kernel
theorem dX8_isUpright_30 : decode cX8_isUpright 30 = .ok (.laload, 1) := by decide +kernel
theorem dX8_isUpright_31 : decode cX8_isUpright 31 = .ok (.aload_n 0, 1) := by decide +kernel
theorem dX8_isUpright_32 : decode cX8_isUpright 32 = .ok (.getfield 42, 3) := by decide +kernel
theorem dX8_isUpright_35 : decode cX8_isUpright 35 = .ok (.iload_n 3, 1) := by decide +kernel
theorem dX8_isUpright_36 : decode cX8_isUpright 36 = .ok (.laload, 1) := by decide +kernel
theorem dX8_isUpright_37 : decode cX8_isUpright 37 = .ok (.lcmp, 1) := by decide +kernel
theorem dX8_isUpright_38 : decode cX8_isUpright 38 = .ok (.ifCond .eq 19, 3) := by decide +kernel
theorem dX8_isUpright_41 : decode cX8_isUpright 41 = .ok (.aload_n 0, 1) := by decide +kernel
theorem dX8_isUpright_42 : decode cX8_isUpright 42 = .ok (.getfield 45, 3) := by decide +kernel
theorem dX8_isUpright_45 : decode cX8_isUpright 45 = .ok (.iload_n 2, 1) := by decide +kernel
theorem dX8_isUpright_46 : decode cX8_isUpright 46 = .ok (.laload, 1) := by decide +kernel
theorem dX8_isUpright_47 : decode cX8_isUpright 47 = .ok (.aload_n 0, 1) := by decide +kernel
theorem dX8_isUpright_48 : decode cX8_isUpright 48 = .ok (.getfield 45, 3) := by decide +kernel
theorem dX8_isUpright_51 : decode cX8_isUpright 51 = .ok (.iload_n 3, 1) := by decide +kernel
theorem dX8_isUpright_52 : decode cX8_isUpright 52 = .ok (.laload, 1) := by decide +kernel
theorem dX8_isUpright_53 : decode cX8_isUpright 53 = .ok (.lcmp, 1) := by decide +kernel
theorem dX8_isUpright_54 : decode cX8_isUpright 54 = .ok (.ifCond .ne 7, 3) := by decide +kernel
theorem dX8_isUpright_57 : decode cX8_isUpright 57 = .ok (.iconst 1, 1) := by decide +kernel
theorem dX8_isUpright_58 : decode cX8_isUpright 58 = .ok (.goto 4, 3) := by decide +kernel
theorem dX8_isUpright_61 : decode cX8_isUpright 61 = .ok (.iconst 0, 1) := by decide +kernel
theorem dX8_isUpright_62 : decode cX8_isUpright 62 = .ok (.istore_n 1, 1) := by decide +kernel
theorem dX8_isUpright_63 : decode cX8_isUpright 63 = .ok (.iinc 2 1, 3) := by decide +kernel
theorem dX8_isUpright_66 : decode cX8_isUpright 66 = .ok (.goto (-62), 3) := by decide +kernel
theorem dX8_isUpright_69 : decode cX8_isUpright 69 = .ok (.iload_n 1, 1) := by decide +kernel
theorem dX8_isUpright_70 : decode cX8_isUpright 70 = .ok (.ireturn, 1) := by decide +kernel
set_option maxHeartbeats 4000000 in
set_option maxRecDepth 100000 in
theorem tX8_isUpright (l : Launch) (G : Gg) (b0 : Nat) {K : Kk} {R : Rr} {M : Mm} {r : Nat} {res : Int32} (hm : mX8_isUpright K R M r = some (res)) : CT l G b0 yX8_isUpright cX8_isUpright 4 (some .boolean) (rmz 1 0) [.ref r] K R M (some (.int res)) K R M := by
  refine ct_of (by decide +kernel) (Nat.le_of_ble_eq_true rfl) (fun w hq => ?_)
  have hw := hq.b
  change w 0 0 0 [(0, .ref r)] [] K R M
  replace hm := h_start hm
  unfold mX8_isUpright at hm
  obtain ⟨h1, m24⟩ := h_ck hm
  clear hm
  refine r_iconst (v := 1) hw dX8_isUpright_0 rfl ?_
  obtain ⟨i2, ei2, m25⟩ := h_nm m24
  clear m24
  refine r_topI (w := w) ei2 ?_
  refine r_istore_n hw dX8_isUpright_1 rfl (by decide) rfl ?_
  refine r_iconst (v := 0) hw dX8_isUpright_2 rfl ?_
  obtain ⟨i3, ei3, m26⟩ := h_nm m25
  clear m25
  refine r_topI (w := w) ei3 ?_
  refine r_istore_n hw dX8_isUpright_3 rfl (by decide) rfl ?_
  refine r_sub hw [2, 1, 0] rfl ?_
  obtain ⟨v4, n04, hn4, hv4⟩ := h_lp m26
  clear m26
  have L4 : ∀ n : Nat, ∀ (i4 : Int32) (i5 : Int32), it (mX8_isUpright_L4 K R M r) n (i4, i5) = some v4 → w 0 0 4 [(0, .ref r), (1, .int i4), (2, .int i5)] [] K R M := by
    intro n4
    induction n4 with
    | zero => intro i4 i5 hz; exact absurd hz h_it0
    | succ n4 ih4 =>
      intro i4 i5 m27
      replace m27 : (mX8_isUpright_B4 K R M r i4 i5).bind (Sum.elim (it (mX8_isUpright_L4 K R M r) n4) some) = some v4 := m27
      unfold mX8_isUpright_B4 at m27
      have J62 : ∀ (i6 : Int32) (s7 : Int32), (mX8_isUpright_J62 K R M r i6 s7).bind (Sum.elim (it (mX8_isUpright_L4 K R M r) n4) some) = some v4 → w 0 0 62 [(0, .ref r), (2, .int i6)] [.int s7] K R M := by
        intro i6 s7 m28
        unfold mX8_isUpright_J62 at m28
        refine r_istore_n hw dX8_isUpright_62 rfl (by decide) rfl ?_
        obtain ⟨i8, ei8, m29⟩ := h_nm m28
        clear m28
        refine r_iinc (j := 2) (v := i8) hw dX8_isUpright_63 rfl (by rw [ei8]; rfl) (by decide) rfl ?_
        refine r_goto (tgt := 4) hw dX8_isUpright_66 (by decide) ?_
        refine r_sub hw [2, 1, 0] rfl ?_
        exact ih4 _ _ m29
      have J61 : ∀ (i9 : Int32), (mX8_isUpright_J61 K R M r i9).bind (Sum.elim (it (mX8_isUpright_L4 K R M r) n4) some) = some v4 → w 0 0 61 [(0, .ref r), (2, .int i9)] [] K R M := by
        intro i9 m30
        unfold mX8_isUpright_J61 at m30
        refine r_iconst (v := 0) hw dX8_isUpright_61 rfl ?_
        exact J62 _ _ m30
      have J57 : ∀ (i10 : Int32), (mX8_isUpright_J57 K R M r i10).bind (Sum.elim (it (mX8_isUpright_L4 K R M r) n4) some) = some v4 → w 0 0 57 [(0, .ref r), (2, .int i10)] [] K R M := by
        intro i10 m31
        unfold mX8_isUpright_J57 at m31
        refine r_iconst (v := 1) hw dX8_isUpright_57 rfl ?_
        refine r_goto (tgt := 62) hw dX8_isUpright_58 (by decide) ?_
        exact J62 _ _ m31
      refine r_iload_n hw dX8_isUpright_4 2 rfl ?_
      refine r_aload_n hw dX8_isUpright_5 0 rfl ?_
      refine r_getI hw fO_X8_146 h1 dX8_isUpright_6 ?_
      refine r_icmp_ge (tgt := 69) hw dX8_isUpright_9 (by decide) (fun c11 => ?_) (fun c11 => ?_)
      · have m32 := h_if_f c11 m27
        clear m27
        have m33 := h_ex m32 hv4
        clear m32
        refine r_iload_n hw dX8_isUpright_69 1 rfl ?_
        obtain ⟨h12, m34⟩ := h_ck m33
        clear m33
        cases h_ret m34
        exact r_zreturn hq h12 rfl rfl dX8_isUpright_70
      · have m35 := h_if_t c11 m27
        clear m27
        refine r_iload_n hw dX8_isUpright_12 2 rfl ?_
        refine r_iconst (v := 1) hw dX8_isUpright_13 rfl ?_
        refine r_iadd hw dX8_isUpright_14 ?_
        refine r_aload_n hw dX8_isUpright_15 0 rfl ?_
        refine r_getI hw fO_X8_146 h1 dX8_isUpright_16 ?_
        obtain ⟨h13, m36⟩ := h_ck m35
        clear m35
        refine r_irem hw dX8_isUpright_19 h13 ?_
        obtain ⟨i14, ei14, m37⟩ := h_nm m36
        clear m36
        refine r_topI (w := w) ei14 ?_
        refine r_istore_n hw dX8_isUpright_20 rfl (by decide) rfl ?_
        refine r_iload_n hw dX8_isUpright_21 2 rfl ?_
        refine r_if_eq (tgt := 61) hw dX8_isUpright_22 (by decide) (fun c15 => ?_) (fun c15 => ?_)
        · have m38 := h_if_t c15 m37
          clear m37
          refine r_sub hw [1, 3] rfl ?_
          exact J61 _ m38
        · have m39 := h_if_f c15 m37
          clear m37
          refine r_aload_n hw dX8_isUpright_25 1 rfl ?_
          obtain ⟨q16, bq16, m40⟩ := h_bd m39
          clear m39
          refine r_getR hw fO_X8_42 h1 bq16 dX8_isUpright_26 ?_
          refine r_iload_n hw dX8_isUpright_29 3 rfl ?_
          obtain ⟨h17, m41⟩ := h_ck m40
          clear m40
          refine r_laload hw h17 dX8_isUpright_30 ?_
          refine r_aload_n hw dX8_isUpright_31 1 rfl ?_
          refine r_getR hw fO_X8_42 h1 bq16 dX8_isUpright_32 ?_
          refine r_iload_n hw dX8_isUpright_35 0 rfl ?_
          obtain ⟨h18, m42⟩ := h_ck m41
          clear m41
          refine r_laload hw h18 dX8_isUpright_36 ?_
          refine r_lcmp_eq (tgt := 57) hw dX8_isUpright_37 dX8_isUpright_38 (by decide) (fun c19 => ?_) (fun c19 => ?_)
          · have m43 := h_if_t c19 m42
            clear m42
            refine r_sub hw [1, 3] rfl ?_
            exact J57 _ m43
          · have m44 := h_if_f c19 m42
            clear m42
            refine r_aload_n hw dX8_isUpright_41 1 rfl ?_
            obtain ⟨q20, bq20, m45⟩ := h_bd m44
            clear m44
            refine r_getR hw fO_X8_45 h1 bq20 dX8_isUpright_42 ?_
            refine r_iload_n hw dX8_isUpright_45 3 rfl ?_
            obtain ⟨h21, m46⟩ := h_ck m45
            clear m45
            refine r_laload hw h21 dX8_isUpright_46 ?_
            refine r_aload_n hw dX8_isUpright_47 1 rfl ?_
            refine r_getR hw fO_X8_45 h1 bq20 dX8_isUpright_48 ?_
            refine r_iload_n hw dX8_isUpright_51 0 rfl ?_
            obtain ⟨h22, m47⟩ := h_ck m46
            clear m46
            refine r_laload hw h22 dX8_isUpright_52 ?_
            refine r_lcmp_ne (tgt := 61) hw dX8_isUpright_53 dX8_isUpright_54 (by decide) (fun c23 => ?_) (fun c23 => ?_)
            · have m48 := h_if_f c23 m47
              clear m47
              refine r_sub hw [1, 3] rfl ?_
              exact J61 _ m48
            · have m49 := h_if_t c23 m47
              clear m47
              refine r_sub hw [1, 3] rfl ?_
              exact J57 _ m49
  exact L4 n04 _ _ hn4
