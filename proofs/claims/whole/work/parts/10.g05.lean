theorem dX7_cut_0 : decode cX7_cut 0 = .ok (.iload_n 1, 1) := by decide +kernel
theorem dX7_cut_1 : decode cX7_cut 1 = .ok (.iload_n 2, 1) := by decide +kernel
theorem dX7_cut_2 : decode cX7_cut 2 = .ok (.invokestatic 83, 3) := by decide +kernel
theorem dX7_cut_5 : decode cX7_cut 5 = .ok (.ifCond .eq 23, 3) := by decide +kernel
theorem dX7_cut_8 : decode cX7_cut 8 = .ok (.iload_n 3, 1) := by decide +kernel
theorem dX7_cut_9 : decode cX7_cut 9 = .ok (.iload 4, 2) := by decide +kernel
theorem dX7_cut_11 : decode cX7_cut 11 = .ok (.invokestatic 83, 3) := by decide +kernel
theorem dX7_cut_14 : decode cX7_cut 14 = .ok (.ifCond .eq 14, 3) := by decide +kernel
theorem dX7_cut_17 : decode cX7_cut 17 = .ok (.iload_n 1, 1) := by decide +kernel
theorem dX7_cut_18 : decode cX7_cut 18 = .ok (.iload_n 3, 1) := by decide +kernel
theorem dX7_cut_19 : decode cX7_cut 19 = .ok (.if_icmp .ne 13, 3) := by decide +kernel
theorem dX7_cut_22 : decode cX7_cut 22 = .ok (.iload_n 2, 1) := by decide +kernel
theorem dX7_cut_23 : decode cX7_cut 23 = .ok (.iload 4, 2) := by decide +kernel
theorem dX7_cut_25 : decode cX7_cut 25 = .ok (.if_icmp .ne 7, 3) := by decide +kernel
theorem dX7_cut_28 : decode cX7_cut 28 = .ok (.ldc2_w 87, 3) := by decide +kernel
theorem dX7_cut_31 : decode cX7_cut 31 = .ok (.lreturn, 1) := by decide +kernel
theorem dX7_cut_32 : decode cX7_cut 32 = .ok (.aload_n 0, 1) := by decide +kernel
theorem dX7_cut_33 : decode cX7_cut 33 = .ok (.getfield 50, 3) := by decide +kernel
theorem dX7_cut_36 : decode cX7_cut 36 = .ok (.iload_n 1, 1) := by decide +kernel
theorem dX7_cut_37 : decode cX7_cut 37 = .ok (.iload_n 2, 1) := by decide +kernel
theorem dX7_cut_38 : decode cX7_cut 38 = .ok (.iload_n 3, 1) := by decide +kernel
theorem dX7_cut_39 : decode cX7_cut 39 = .ok (.iload_n 1, 1) := by decide +kernel
theorem dX7_cut_40 : decode cX7_cut 40 = .ok (.isub, 1) := by decide +kernel
theorem dX7_cut_41 : decode cX7_cut 41 = .ok (.iload 4, 2) := by decide +kernel
theorem dX7_cut_43 : decode cX7_cut 43 = .ok (.iload_n 2, 1) := by decide +kernel
theorem dX7_cut_44 : decode cX7_cut 44 = .ok (.isub, 1) := by decide +kernel
theorem dX7_cut_45 : decode cX7_cut 45 = .ok (.invokevirtual 141, 3) := by decide +kernel
theorem dX7_cut_48 : decode cX7_cut 48 = .ok (.aload_n 0, 1) := by decide +kernel
theorem dX7_cut_49 : decode cX7_cut 49 = .ok (.getfield 25, 3) := by decide +kernel
theorem dX7_cut_52 : decode cX7_cut 52 = .ok (.invokevirtual 145, 3) := by decide +kernel
theorem dX7_cut_55 : decode cX7_cut 55 = .ok (.astore 5, 2) := by decide +kernel
theorem dX7_cut_57 : decode cX7_cut 57 = .ok (.iconst 0, 1) := by decide +kernel
theorem dX7_cut_58 : decode cX7_cut 58 = .ok (.istore 6, 2) := by decide +kernel
theorem dX7_cut_60 : decode cX7_cut 60 = .ok (.iconst 0, 1) := by decide +kernel
theorem dX7_cut_61 : decode cX7_cut 61 = .ok (.istore 7, 2) := by decide +kernel
theorem dX7_cut_63 : decode cX7_cut 63 = .ok (.iconst 0, 1) := by decide +kernel
theorem dX7_cut_64 : decode cX7_cut 64 = .ok (.istore 8, 2) := by decide +kernel
theorem dX7_cut_66 : decode cX7_cut 66 = .ok (.iload 8, 2) := by decide +kernel
theorem dX7_cut_68 : decode cX7_cut 68 = .ok (.aload 5, 2) := by decide +kernel
theorem dX7_cut_70 : decode cX7_cut 70 = .ok (.getfield 148, 3) := by decide +kernel
theorem dX7_cut_73 : decode cX7_cut 73 = .ok (.if_icmp .ge 70, 3) := by decide +kernel
theorem dX7_cut_76 : decode cX7_cut 76 = .ok (.aload 5, 2) := by decide +kernel
theorem dX7_cut_78 : decode cX7_cut 78 = .ok (.getfield 149, 3) := by decide +kernel
theorem dX7_cut_81 : decode cX7_cut 81 = .ok (.iload 8, 2) := by decide +kernel
theorem dX7_cut_83 : decode cX7_cut 83 = .ok (.aaload, 1) := by decide +kernel
theorem dX7_cut_84 : decode cX7_cut 84 = .ok (.aload_n 0, 1) := by decide +kernel
theorem dX7_cut_85 : decode cX7_cut 85 = .ok (.getfield 68, 3) := by decide +kernel
theorem dX7_cut_88 : decode cX7_cut 88 = .ok (.invokevirtual 153, 3) := by decide +kernel
theorem dX7_cut_91 : decode cX7_cut 91 = .ok (.aload_n 0, 1) := by decide +kernel
theorem dX7_cut_92 : decode cX7_cut 92 = .ok (.getfield 50, 3) := by decide +kernel
theorem dX7_cut_95 : decode cX7_cut 95 = .ok (.aload_n 0, 1) := by decide +kernel
theorem dX7_cut_96 : decode cX7_cut 96 = .ok (.getfield 68, 3) := by decide +kernel
theorem dX7_cut_99 : decode cX7_cut 99 = .ok (.invokevirtual 156, 3) := by decide +kernel
theorem dX7_cut_102 : decode cX7_cut 102 = .ok (.aload_n 0, 1) := by decide +kernel
theorem dX7_cut_103 : decode cX7_cut 103 = .ok (.getfield 50, 3) := by decide +kernel
theorem dX7_cut_106 : decode cX7_cut 106 = .ok (.invokevirtual 159, 3) := by decide +kernel
theorem dX7_cut_109 : decode cX7_cut 109 = .ok (.ifCond .eq 28, 3) := by decide +kernel
theorem dX7_cut_112 : decode cX7_cut 112 = .ok (.iinc 6 1, 3) := by decide +kernel
theorem dX7_cut_115 : decode cX7_cut 115 = .ok (.iload 7, 2) := by decide +kernel
theorem dX7_cut_117 : decode cX7_cut 117 = .ok (.ifCond .ne 13, 3) := by decide +kernel
theorem dX7_cut_120 : decode cX7_cut 120 = .ok (.aload_n 0, 1) := by decide +kernel
theorem dX7_cut_121 : decode cX7_cut 121 = .ok (.getfield 50, 3) := by decide +kernel
theorem dX7_cut_124 : decode cX7_cut 124 = .ok (.invokevirtual 162, 3) := by decide +kernel
theorem dX7_cut_127 : decode cX7_cut 127 = .ok (.ifCond .eq 7, 3) := by decide +kernel
theorem dX7_cut_130 : decode cX7_cut 130 = .ok (.iconst 1, 1) := by decide +kernel
theorem dX7_cut_131 : decode cX7_cut 131 = .ok (.goto 4, 3) := by decide +kernel
theorem dX7_cut_134 : decode cX7_cut 134 = .ok (.iconst 0, 1) := by decide +kernel
theorem dX7_cut_135 : decode cX7_cut 135 = .ok (.istore 7, 2) := by decide +kernel
theorem dX7_cut_137 : decode cX7_cut 137 = .ok (.iinc 8 1, 3) := by decide +kernel
theorem dX7_cut_140 : decode cX7_cut 140 = .ok (.goto (-74), 3) := by decide +kernel
theorem dX7_cut_143 : decode cX7_cut 143 = .ok (.iload 7, 2) := by decide +kernel
theorem dX7_cut_145 : decode cX7_cut 145 = .ok (.ifCond .ne 16, 3) := by decide +kernel
theorem dX7_cut_148 : decode cX7_cut 148 = .ok (.aload 5, 2) := by decide +kernel
theorem dX7_cut_150 : decode cX7_cut 150 = .ok (.getfield 148, 3) := by decide +kernel
theorem dX7_cut_153 : decode cX7_cut 153 = .ok (.iload 6, 2) := by decide +kernel
theorem dX7_cut_155 : decode cX7_cut 155 = .ok (.iadd, 1) := by decide +kernel
theorem dX7_cut_156 : decode cX7_cut 156 = .ok (.bipush 40, 2) := by decide +kernel
theorem dX7_cut_158 : decode cX7_cut 158 = .ok (.if_icmp .le 7, 3) := by decide +kernel
theorem dX7_cut_161 : decode cX7_cut 161 = .ok (.ldc2_w 93, 3) := by decide +kernel
theorem dX7_cut_164 : decode cX7_cut 164 = .ok (.lreturn, 1) := by decide +kernel
theorem dX7_cut_165 : decode cX7_cut 165 = .ok (.aload_n 0, 1) := by decide +kernel
theorem dX7_cut_166 : decode cX7_cut 166 = .ok (.aload 5, 2) := by decide +kernel
theorem dX7_cut_168 : decode cX7_cut 168 = .ok (.getfield 148, 3) := by decide +kernel
theorem dX7_cut_171 : decode cX7_cut 171 = .ok (.invokevirtual 165, 3) := by decide +kernel
theorem dX7_cut_174 : decode cX7_cut 174 = .ok (.ifCond .eq 9, 3) := by decide +kernel
theorem dX7_cut_177 : decode cX7_cut 177 = .ok (.iload 6, 2) := by decide +kernel
theorem dX7_cut_179 : decode cX7_cut 179 = .ok (.i2l, 1) := by decide +kernel
theorem dX7_cut_180 : decode cX7_cut 180 = .ok (.goto 6, 3) := by decide +kernel
theorem dX7_cut_183 : decode cX7_cut 183 = .ok (.ldc2_w 168, 3) := by decide +kernel
theorem dX7_cut_186 : decode cX7_cut 186 = .ok (.lreturn, 1) := by decide +kernel
set_option maxHeartbeats 4000000 in
set_option maxRecDepth 100000 in
theorem tX7_cut (l : Launch) (G : Gg) (b0 : Nat) {K : Kk} {R : Rr} {M : Mm} {r : Nat} {a0 : Int32} {a1 : Int32} {a2 : Int32} {a3 : Int32} {res : Int64} {R' : Rr} {M' : Mm} (hm : mX7_cut K R M r a0 a1 a2 a3 = some (res, R', M')) : CT l G b0 yX7_cut cX7_cut 9 (some .long) (rmz 7 157) [.ref r, .int a0, .int a1, .int a2, .int a3] K R M (some (.long res)) K R' M' := by
  refine ct_of (by decide +kernel) (Nat.le_of_ble_eq_true rfl) (fun w hq => ?_)
  have hw := hq.b
  change w 0 0 0 [(0, .ref r), (1, .int a0), (2, .int a1), (3, .int a2), (4, .int a3)] [] K R M
  replace hm := h_start hm
  unfold mX7_cut at hm
  obtain ⟨h1, m58⟩ := h_ck hm
  clear hm
  have J32 : ∀ (R2 : Rr) (M3 : Mm), (mX7_cut_J32 K R2 M3 r a0 a1 a2 a3).bind some = some (res, R', M') → w 0 0 32 [(0, .ref r), (1, .int a0), (2, .int a1), (3, .int a2), (4, .int a3)] [] K R2 M3 := by
    intro R2 M3  m59
    unfold mX7_cut_J32 at m59
    refine r_aload_n hw dX7_cut_32 0 rfl ?_
    obtain ⟨q4, bq4, m60⟩ := h_bd m59
    clear m59
    refine r_getR hw fO_X7_50 h1 bq4 dX7_cut_33 ?_
    refine r_iload_n hw dX7_cut_36 1 rfl ?_
    refine r_iload_n hw dX7_cut_37 2 rfl ?_
    refine r_iload_n hw dX7_cut_38 3 rfl ?_
    refine r_iload_n hw dX7_cut_39 1 rfl ?_
    refine r_isub hw dX7_cut_40 ?_
    refine r_iload hw dX7_cut_41 4 rfl ?_
    refine r_iload_n hw dX7_cut_43 2 rfl ?_
    refine r_isub hw dX7_cut_44 ?_
    obtain ⟨h6, m61⟩ := h_ck m60
    clear m60
    obtain ⟨M5, g5, m62⟩ := h_bd m61
    clear m61
    refine r_callV0 hw (tX2_set l G b0 g5) lB_X2_set lI_X2_set mL_X7_141 (c := 2) rfl h6 rfl (Nat.le_of_ble_eq_true rfl) (Nat.le_of_ble_eq_true rfl) rfl (Nat.le_of_ble_eq_true rfl) dX7_cut_45 ?_
    refine r_aload_n hw dX7_cut_48 0 rfl ?_
    obtain ⟨q7, bq7, m63⟩ := h_bd m62
    clear m62
    refine r_getR hw fO_X7_25 h1 bq7 dX7_cut_49 ?_
    obtain ⟨h9, m64⟩ := h_ck m63
    clear m63
    obtain ⟨q8, g8, m65⟩ := h_bd m64
    clear m64
    refine r_callV1 hw (tX1_now l G b0 g8) lB_X1_now lI_X1_now mL_X7_145 (c := 1) rfl h9 rfl (Nat.le_of_ble_eq_true rfl) (Nat.le_of_ble_eq_true rfl) rfl (Nat.le_of_ble_eq_true rfl) dX7_cut_52 ?_
    refine r_astore hw dX7_cut_55 (by decide) rfl ?_
    refine r_iconst (v := 0) hw dX7_cut_57 rfl ?_
    obtain ⟨i10, ei10, m66⟩ := h_nm m65
    clear m65
    refine r_topI (w := w) ei10 ?_
    refine r_istore hw dX7_cut_58 (by decide) rfl ?_
    refine r_iconst (v := 0) hw dX7_cut_60 rfl ?_
    obtain ⟨i11, ei11, m67⟩ := h_nm m66
    clear m66
    refine r_topI (w := w) ei11 ?_
    refine r_istore hw dX7_cut_61 (by decide) rfl ?_
    refine r_iconst (v := 0) hw dX7_cut_63 rfl ?_
    obtain ⟨i12, ei12, m68⟩ := h_nm m67
    clear m67
    refine r_topI (w := w) ei12 ?_
    refine r_istore hw dX7_cut_64 (by decide) rfl ?_
    refine r_sub hw [4, 3, 2, 1, 0] rfl ?_
    obtain ⟨v66, n066, hn66, hv66⟩ := h_lp m68
    clear m68
    have L66 : ∀ n : Nat, ∀ (i13 : Int32) (i14 : Int32) (i15 : Int32) (M16 : Mm), it (mX7_cut_L66 K R2 r q8) n (i13, i14, i15, M16) = some v66 → w 0 0 66 [(0, .ref r), (5, .ref q8), (6, .int i13), (7, .int i14), (8, .int i15)] [] K R2 M16 := by
      intro n66
      induction n66 with
      | zero => intro i13 i14 i15 M16 hz; exact absurd hz h_it0
      | succ n66 ih66 =>
        intro i13 i14 i15 M16 m69
        replace m69 : (mX7_cut_B66 K R2 r q8 i13 i14 i15 M16).bind (Sum.elim (it (mX7_cut_L66 K R2 r q8) n66) some) = some v66 := m69
        unfold mX7_cut_B66 at m69
        have J137 : ∀ (M20 : Mm) (i17 : Int32) (i18 : Int32) (i19 : Int32), (mX7_cut_J137 K R2 M20 r q8 i17 i18 i19).bind (Sum.elim (it (mX7_cut_L66 K R2 r q8) n66) some) = some v66 → w 0 0 137 [(0, .ref r), (5, .ref q8), (6, .int i17), (7, .int i18), (8, .int i19)] [] K R2 M20 := by
          intro M20 i17 i18 i19 m70
          unfold mX7_cut_J137 at m70
          obtain ⟨i21, ei21, m71⟩ := h_nm m70
          clear m70
          refine r_iinc (j := 4) (v := i21) hw dX7_cut_137 rfl (by rw [ei21]; rfl) (by decide) rfl ?_
          refine r_goto (tgt := 66) hw dX7_cut_140 (by decide) ?_
          refine r_sub hw [1, 2, 3, 4, 0] rfl ?_
          exact ih66 _ _ _ _ m71
        have J135 : ∀ (M25 : Mm) (i22 : Int32) (i23 : Int32) (s24 : Int32), (mX7_cut_J135 K R2 M25 r q8 i22 i23 s24).bind (Sum.elim (it (mX7_cut_L66 K R2 r q8) n66) some) = some v66 → w 0 0 135 [(0, .ref r), (5, .ref q8), (6, .int i22), (8, .int i23)] [.int s24] K R2 M25 := by
          intro M25 i22 i23 s24 m72
          unfold mX7_cut_J135 at m72
          refine r_istore hw dX7_cut_135 (by decide) rfl ?_
          refine r_sub hw [1, 2, 3, 0, 4] rfl ?_
          exact J137 _ _ _ _ m72
        have J130 : ∀ (M28 : Mm) (i26 : Int32) (i27 : Int32), (mX7_cut_J130 K R2 M28 r q8 i26 i27).bind (Sum.elim (it (mX7_cut_L66 K R2 r q8) n66) some) = some v66 → w 0 0 130 [(0, .ref r), (5, .ref q8), (6, .int i26), (8, .int i27)] [] K R2 M28 := by
          intro M28 i26 i27 m73
          unfold mX7_cut_J130 at m73
          refine r_iconst (v := 1) hw dX7_cut_130 rfl ?_
          refine r_goto (tgt := 135) hw dX7_cut_131 (by decide) ?_
          exact J135 _ _ _ _ m73
        refine r_iload hw dX7_cut_66 4 rfl ?_
        refine r_aload hw dX7_cut_68 1 rfl ?_
        obtain ⟨h29, m74⟩ := h_ck m69
        clear m69
        refine r_getI hw fO_X7_148 h29 dX7_cut_70 ?_
        refine r_icmp_ge (tgt := 143) hw dX7_cut_73 (by decide) (fun c30 => ?_) (fun c30 => ?_)
        · have m75 := h_if_f c30 m74
          clear m74
          have m76 := h_ex m75 hv66
          clear m75
          refine r_iload hw dX7_cut_143 3 rfl ?_
          refine r_if_ne (tgt := 161) hw dX7_cut_145 (by decide) (fun c31 => ?_) (fun c31 => ?_)
          · have m77 := h_if_f c31 m76
            clear m76
            refine r_ldc2 (v := (-9000000000000000003)) hw dX7_cut_161 kW_X7_93 ?_
            cases h_ret m77
            exact r_lreturn hq rfl rfl dX7_cut_164
          · have m78 := h_if_t c31 m76
            clear m76
            refine r_aload hw dX7_cut_148 1 rfl ?_
            refine r_getI hw fO_X7_148 h29 dX7_cut_150 ?_
            refine r_iload hw dX7_cut_153 2 rfl ?_
            refine r_iadd hw dX7_cut_155 ?_
            refine r_bipush (v := 40) hw dX7_cut_156 rfl ?_
            refine r_icmp_le (tgt := 165) hw dX7_cut_158 (by decide) (fun c32 => ?_) (fun c32 => ?_)
            · have m79 := h_if_t c32 m78
              clear m78
              refine r_aload_n hw dX7_cut_165 0 rfl ?_
              refine r_aload hw dX7_cut_166 1 rfl ?_
              refine r_getI hw fO_X7_148 h29 dX7_cut_168 ?_
              obtain ⟨i33, R34, M35, g35, m80⟩ := h_bd3 m79
              clear m79
              refine r_callV1 hw (tX7_cutThose l G b0 g35) lB_X7_cutThose lI_X7_cutThose mL_X7_165 (c := 7) rfl h1 rfl (Nat.le_of_ble_eq_true rfl) (Nat.le_of_ble_eq_true rfl) rfl (Nat.le_of_ble_eq_true rfl) dX7_cut_171 ?_
              refine r_if_eq (tgt := 183) hw dX7_cut_174 (by decide) (fun c36 => ?_) (fun c36 => ?_)
              · have m81 := h_if_t c36 m80
                clear m80
                refine r_ldc2 (v := (-9000000000000000004)) hw dX7_cut_183 kW_X7_168 ?_
                cases h_ret m81
                exact r_lreturn hq rfl rfl dX7_cut_186
              · have m82 := h_if_f c36 m80
                clear m80
                refine r_iload hw dX7_cut_177 2 rfl ?_
                refine r_i2l hw dX7_cut_179 ?_
                refine r_goto (tgt := 186) hw dX7_cut_180 (by decide) ?_
                cases h_ret m82
                exact r_lreturn hq rfl rfl dX7_cut_186
            · have m83 := h_if_f c32 m78
              clear m78
              refine r_ldc2 (v := (-9000000000000000003)) hw dX7_cut_161 kW_X7_93 ?_
              cases h_ret m83
              exact r_lreturn hq rfl rfl dX7_cut_164
        · have m84 := h_if_t c30 m74
          clear m74
          refine r_aload hw dX7_cut_76 1 rfl ?_
          obtain ⟨q37, bq37, m85⟩ := h_bd m84
          clear m84
          refine r_getR hw fO_X7_149 h29 bq37 dX7_cut_78 ?_
          refine r_iload hw dX7_cut_81 4 rfl ?_
          obtain ⟨h38, m86⟩ := h_ck m85
          clear m85
          obtain ⟨q39, bq39, m87⟩ := h_bd m86
          clear m86
          refine r_aaload hw 2 (by decide) h38 bq39 dX7_cut_83 ?_
          refine r_aload_n hw dX7_cut_84 0 rfl ?_
          obtain ⟨q40, bq40, m88⟩ := h_bd m87
          clear m87
          refine r_getR hw fO_X7_68 h1 bq40 dX7_cut_85 ?_
          obtain ⟨h42, m89⟩ := h_ck m88
          clear m88
          obtain ⟨M41, g41, m90⟩ := h_bd m89
          clear m89
          refine r_callV0 hw (tX3_placeInto l G b0 g41) lB_X3_placeInto lI_X3_placeInto mL_X7_153 (c := 3) rfl h42 rfl (Nat.le_of_ble_eq_true rfl) (Nat.le_of_ble_eq_true rfl) rfl (Nat.le_of_ble_eq_true rfl) dX7_cut_88 ?_
          refine r_aload_n hw dX7_cut_91 0 rfl ?_
          obtain ⟨q43, bq43, m91⟩ := h_bd m90
          clear m90
          refine r_getR hw fO_X7_50 h1 bq43 dX7_cut_92 ?_
          refine r_aload_n hw dX7_cut_95 0 rfl ?_
          refine r_getR hw fO_X7_68 h1 bq40 dX7_cut_96 ?_
          obtain ⟨h45, m92⟩ := h_ck m91
          clear m91
          obtain ⟨M44, g44, m93⟩ := h_bd m92
          clear m92
          refine r_callV0 hw (tX2_weigh l G b0 g44) lB_X2_weigh lI_X2_weigh mL_X7_156 (c := 2) rfl h45 rfl (Nat.le_of_ble_eq_true rfl) (Nat.le_of_ble_eq_true rfl) rfl (Nat.le_of_ble_eq_true rfl) dX7_cut_99 ?_
          refine r_aload_n hw dX7_cut_102 0 rfl ?_
          refine r_getR hw fO_X7_50 h1 bq43 dX7_cut_103 ?_
          obtain ⟨i46, g46, m94⟩ := h_bd m93
          clear m93
          refine r_callV1 hw (tX2_crosses l G b0 g46) lB_X2_crosses lI_X2_crosses mL_X7_159 (c := 2) rfl h45 rfl (Nat.le_of_ble_eq_true rfl) (Nat.le_of_ble_eq_true rfl) rfl (Nat.le_of_ble_eq_true rfl) dX7_cut_106 ?_
          refine r_if_eq (tgt := 137) hw dX7_cut_109 (by decide) (fun c47 => ?_) (fun c47 => ?_)
          · have m95 := h_if_t c47 m94
            clear m94
            exact J137 _ _ _ _ m95
          · have m96 := h_if_f c47 m94
            clear m94
            obtain ⟨i48, ei48, m97⟩ := h_nm m96
            clear m96
            refine r_iinc (j := 2) (v := i48) hw dX7_cut_112 rfl (by rw [ei48]; rfl) (by decide) rfl ?_
            refine r_iload hw dX7_cut_115 3 rfl ?_
            refine r_if_ne (tgt := 130) hw dX7_cut_117 (by decide) (fun c49 => ?_) (fun c49 => ?_)
            · have m98 := h_if_f c49 m97
              clear m97
              refine r_sub hw [1, 2, 0, 4] rfl ?_
              exact J130 _ _ _ m98
            · have m99 := h_if_t c49 m97
              clear m97
              refine r_aload_n hw dX7_cut_120 1 rfl ?_
              refine r_getR hw fO_X7_50 h1 bq43 dX7_cut_121 ?_
              obtain ⟨i50, g50, m100⟩ := h_bd m99
              clear m99
              refine r_callV1 hw (tX2_overfills l G b0 g50) lB_X2_overfills lI_X2_overfills mL_X7_162 (c := 2) rfl h45 rfl (Nat.le_of_ble_eq_true rfl) (Nat.le_of_ble_eq_true rfl) rfl (Nat.le_of_ble_eq_true rfl) dX7_cut_124 ?_
              refine r_if_eq (tgt := 134) hw dX7_cut_127 (by decide) (fun c51 => ?_) (fun c51 => ?_)
              · have m101 := h_if_t c51 m100
                clear m100
                refine r_iconst (v := 0) hw dX7_cut_134 rfl ?_
                refine r_sub hw [1, 2, 0, 4] rfl ?_
                exact J135 _ _ _ _ m101
              · have m102 := h_if_f c51 m100
                clear m100
                refine r_sub hw [1, 2, 0, 4] rfl ?_
                exact J130 _ _ _ m102
    exact L66 n066 _ _ _ _ hn66
  refine r_iload_n hw dX7_cut_0 1 rfl ?_
  refine r_iload_n hw dX7_cut_1 2 rfl ?_
  obtain ⟨i52, g52, m103⟩ := h_bd m58
  clear m58
  refine r_callS1 hw (tX7_isPlace l G b0 g52) lB_X7_isPlace sT_X7_isPlace mL_X7_83 rfl rfl (Nat.le_of_ble_eq_true rfl) (Nat.le_of_ble_eq_true rfl) rfl (Nat.le_of_ble_eq_true rfl) dX7_cut_2 ?_
  refine r_if_eq (tgt := 28) hw dX7_cut_5 (by decide) (fun c53 => ?_) (fun c53 => ?_)
  · have m104 := h_if_t c53 m103
    clear m103
    refine r_ldc2 (v := (-9000000000000000001)) hw dX7_cut_28 kW_X7_87 ?_
    cases h_ret m104
    exact r_lreturn hq rfl rfl dX7_cut_31
  · have m105 := h_if_f c53 m103
    clear m103
    refine r_iload_n hw dX7_cut_8 3 rfl ?_
    refine r_iload hw dX7_cut_9 4 rfl ?_
    obtain ⟨i54, g54, m106⟩ := h_bd m105
    clear m105
    refine r_callS1 hw (tX7_isPlace l G b0 g54) lB_X7_isPlace sT_X7_isPlace mL_X7_83 rfl rfl (Nat.le_of_ble_eq_true rfl) (Nat.le_of_ble_eq_true rfl) rfl (Nat.le_of_ble_eq_true rfl) dX7_cut_11 ?_
    refine r_if_eq (tgt := 28) hw dX7_cut_14 (by decide) (fun c55 => ?_) (fun c55 => ?_)
    · have m107 := h_if_t c55 m106
      clear m106
      refine r_ldc2 (v := (-9000000000000000001)) hw dX7_cut_28 kW_X7_87 ?_
      cases h_ret m107
      exact r_lreturn hq rfl rfl dX7_cut_31
    · have m108 := h_if_f c55 m106
      clear m106
      refine r_iload_n hw dX7_cut_17 1 rfl ?_
      refine r_iload_n hw dX7_cut_18 3 rfl ?_
      refine r_icmp_ne (tgt := 32) hw dX7_cut_19 (by decide) (fun c56 => ?_) (fun c56 => ?_)
      · have m109 := h_if_f c56 m108
        clear m108
        exact J32 _ _ m109
      · have m110 := h_if_t c56 m108
        clear m108
        refine r_iload_n hw dX7_cut_22 2 rfl ?_
        refine r_iload hw dX7_cut_23 4 rfl ?_
        refine r_icmp_ne (tgt := 32) hw dX7_cut_25 (by decide) (fun c57 => ?_) (fun c57 => ?_)
        · have m111 := h_if_f c57 m110
          clear m110
          exact J32 _ _ m111
        · have m112 := h_if_t c57 m110
          clear m110
          refine r_ldc2 (v := (-9000000000000000001)) hw dX7_cut_28 kW_X7_87 ?_
          cases h_ret m112
          exact r_lreturn hq rfl rfl dX7_cut_31
theorem dX7_isPiece_0 : decode cX7_isPiece 0 = .ok (.iload_n 1, 1) := by decide +kernel
theorem dX7_isPiece_1 : decode cX7_isPiece 1 = .ok (.ifCond .lt 21, 3) := by decide +kernel
theorem dX7_isPiece_4 : decode cX7_isPiece 4 = .ok (.iload_n 1, 1) := by decide +kernel
theorem dX7_isPiece_5 : decode cX7_isPiece 5 = .ok (.aload_n 0, 1) := by decide +kernel
theorem dX7_isPiece_6 : decode cX7_isPiece 6 = .ok (.getfield 25, 3) := by decide +kernel
theorem dX7_isPiece_9 : decode cX7_isPiece 9 = .ok (.invokevirtual 145, 3) := by decide +kernel
theorem dX7_isPiece_12 : decode cX7_isPiece 12 = .ok (.getfield 148, 3) := by decide +kernel
theorem dX7_isPiece_15 : decode cX7_isPiece 15 = .ok (.if_icmp .ge 7, 3) := by decide +kernel
theorem dX7_isPiece_18 : decode cX7_isPiece 18 = .ok (.iconst 1, 1) := by decide +kernel
theorem dX7_isPiece_19 : decode cX7_isPiece 19 = .ok (.goto 4, 3) := by decide +kernel
theorem dX7_isPiece_22 : decode cX7_isPiece 22 = .ok (.iconst 0, 1) := by decide +kernel
theorem dX7_isPiece_23 : decode cX7_isPiece 23 = .ok (.ireturn, 1) := by decide +kernel
set_option maxHeartbeats 4000000 in
set_option maxRecDepth 100000 in
theorem tX7_isPiece (l : Launch) (G : Gg) (b0 : Nat) {K : Kk} {R : Rr} {M : Mm} {r : Nat} {a0 : Int32} {res : Int32} (hm : mX7_isPiece K R M r a0 = some (res)) : CT l G b0 yX7_isPiece cX7_isPiece 2 (some .boolean) (rmz 2 20) [.ref r, .int a0] K R M (some (.int res)) K R M := by
  refine ct_of (by decide +kernel) (Nat.le_of_ble_eq_true rfl) (fun w hq => ?_)
  have hw := hq.b
  change w 0 0 0 [(0, .ref r), (1, .int a0)] [] K R M
  replace hm := h_start hm
  unfold mX7_isPiece at hm
  obtain ⟨h1, m8⟩ := h_ck hm
  clear hm
  refine r_iload_n hw dX7_isPiece_0 1 rfl ?_
  refine r_if_lt (tgt := 22) hw dX7_isPiece_1 (by decide) (fun c2 => ?_) (fun c2 => ?_)
  · have m9 := h_if_t c2 m8
    clear m8
    refine r_iconst (v := 0) hw dX7_isPiece_22 rfl ?_
    cases h_ret m9
    exact r_zreturn hq isB_0 rfl rfl dX7_isPiece_23
  · have m10 := h_if_f c2 m8
    clear m8
    refine r_iload_n hw dX7_isPiece_4 1 rfl ?_
    refine r_aload_n hw dX7_isPiece_5 0 rfl ?_
    obtain ⟨q3, bq3, m11⟩ := h_bd m10
    clear m10
    refine r_getR hw fO_X7_25 h1 bq3 dX7_isPiece_6 ?_
    obtain ⟨h5, m12⟩ := h_ck m11
    clear m11
    obtain ⟨q4, g4, m13⟩ := h_bd m12
    clear m12
    refine r_callV1 hw (tX1_now l G b0 g4) lB_X1_now lI_X1_now mL_X7_145 (c := 1) rfl h5 rfl (Nat.le_of_ble_eq_true rfl) (Nat.le_of_ble_eq_true rfl) rfl (Nat.le_of_ble_eq_true rfl) dX7_isPiece_9 ?_
    obtain ⟨h6, m14⟩ := h_ck m13
    clear m13
    refine r_getI hw fO_X7_148 h6 dX7_isPiece_12 ?_
    refine r_icmp_ge (tgt := 22) hw dX7_isPiece_15 (by decide) (fun c7 => ?_) (fun c7 => ?_)
    · have m15 := h_if_f c7 m14
      clear m14
      refine r_iconst (v := 0) hw dX7_isPiece_22 rfl ?_
      cases h_ret m15
      exact r_zreturn hq isB_0 rfl rfl dX7_isPiece_23
    · have m16 := h_if_t c7 m14
      clear m14
      refine r_iconst (v := 1) hw dX7_isPiece_18 rfl ?_
      refine r_goto (tgt := 23) hw dX7_isPiece_19 (by decide) ?_
      cases h_ret m16
      exact r_zreturn hq isB_1 rfl rfl dX7_isPiece_23
theorem dX7_part_0 : decode cX7_part 0 = .ok (.aload_n 0, 1) := by decide +kernel
theorem dX7_part_1 : decode cX7_part 1 = .ok (.iload_n 1, 1) := by decide +kernel
theorem dX7_part_2 : decode cX7_part 2 = .ok (.invokevirtual 186, 3) := by decide +kernel
theorem dX7_part_5 : decode cX7_part 5 = .ok (.ifCond .eq 43, 3) := by decide +kernel
theorem dX7_part_8 : decode cX7_part 8 = .ok (.iload_n 2, 1) := by decide +kernel
theorem dX7_part_9 : decode cX7_part 9 = .ok (.iload_n 3, 1) := by decide +kernel
theorem dX7_part_10 : decode cX7_part 10 = .ok (.invokestatic 83, 3) := by decide +kernel
theorem dX7_part_13 : decode cX7_part 13 = .ok (.ifCond .eq 35, 3) := by decide +kernel
theorem dX7_part_16 : decode cX7_part 16 = .ok (.iload 4, 2) := by decide +kernel
theorem dX7_part_18 : decode cX7_part 18 = .ok (.ifCond .ne 8, 3) := by decide +kernel
theorem dX7_part_21 : decode cX7_part 21 = .ok (.iload 5, 2) := by decide +kernel
theorem dX7_part_23 : decode cX7_part 23 = .ok (.ifCond .eq 25, 3) := by decide +kernel
theorem dX7_part_26 : decode cX7_part 26 = .ok (.iload 4, 2) := by decide +kernel
theorem dX7_part_28 : decode cX7_part 28 = .ok (.sipush 1000, 3) := by decide +kernel
theorem dX7_part_31 : decode cX7_part 31 = .ok (.invokestatic 189, 3) := by decide +kernel
theorem dX7_part_34 : decode cX7_part 34 = .ok (.ifCond .eq 14, 3) := by decide +kernel
theorem dX7_part_37 : decode cX7_part 37 = .ok (.iload 5, 2) := by decide +kernel
theorem dX7_part_39 : decode cX7_part 39 = .ok (.sipush 1000, 3) := by decide +kernel
theorem dX7_part_42 : decode cX7_part 42 = .ok (.invokestatic 189, 3) := by decide +kernel
theorem dX7_part_45 : decode cX7_part 45 = .ok (.ifCond .ne 7, 3) := by decide +kernel
theorem dX7_part_48 : decode cX7_part 48 = .ok (.ldc2_w 87, 3) := by decide +kernel
theorem dX7_part_51 : decode cX7_part 51 = .ok (.lreturn, 1) := by decide +kernel
theorem dX7_part_52 : decode cX7_part 52 = .ok (.aload_n 0, 1) := by decide +kernel
theorem dX7_part_53 : decode cX7_part 53 = .ok (.getfield 50, 3) := by decide +kernel
theorem dX7_part_56 : decode cX7_part 56 = .ok (.iload_n 2, 1) := by decide +kernel
theorem dX7_part_57 : decode cX7_part 57 = .ok (.iload_n 3, 1) := by decide +kernel
theorem dX7_part_58 : decode cX7_part 58 = .ok (.iload 4, 2) := by decide +kernel
theorem dX7_part_60 : decode cX7_part 60 = .ok (.iload 5, 2) := by decide +kernel
theorem dX7_part_62 : decode cX7_part 62 = .ok (.invokevirtual 141, 3) := by decide +kernel
theorem dX7_part_65 : decode cX7_part 65 = .ok (.aload_n 0, 1) := by decide +kernel
theorem dX7_part_66 : decode cX7_part 66 = .ok (.getfield 25, 3) := by decide +kernel
theorem dX7_part_69 : decode cX7_part 69 = .ok (.invokevirtual 145, 3) := by decide +kernel
theorem dX7_part_72 : decode cX7_part 72 = .ok (.astore 6, 2) := by decide +kernel
theorem dX7_part_74 : decode cX7_part 74 = .ok (.aload 6, 2) := by decide +kernel
theorem dX7_part_76 : decode cX7_part 76 = .ok (.getfield 149, 3) := by decide +kernel
theorem dX7_part_79 : decode cX7_part 79 = .ok (.iload_n 1, 1) := by decide +kernel
theorem dX7_part_80 : decode cX7_part 80 = .ok (.aaload, 1) := by decide +kernel
theorem dX7_part_81 : decode cX7_part 81 = .ok (.aload_n 0, 1) := by decide +kernel
theorem dX7_part_82 : decode cX7_part 82 = .ok (.getfield 68, 3) := by decide +kernel
theorem dX7_part_85 : decode cX7_part 85 = .ok (.invokevirtual 153, 3) := by decide +kernel
theorem dX7_part_88 : decode cX7_part 88 = .ok (.aload_n 0, 1) := by decide +kernel
theorem dX7_part_89 : decode cX7_part 89 = .ok (.getfield 50, 3) := by decide +kernel
theorem dX7_part_92 : decode cX7_part 92 = .ok (.aload_n 0, 1) := by decide +kernel
theorem dX7_part_93 : decode cX7_part 93 = .ok (.getfield 68, 3) := by decide +kernel
theorem dX7_part_96 : decode cX7_part 96 = .ok (.invokevirtual 156, 3) := by decide +kernel
theorem dX7_part_99 : decode cX7_part 99 = .ok (.aload_n 0, 1) := by decide +kernel
theorem dX7_part_100 : decode cX7_part 100 = .ok (.getfield 50, 3) := by decide +kernel
theorem dX7_part_103 : decode cX7_part 103 = .ok (.invokevirtual 159, 3) := by decide +kernel
theorem dX7_part_106 : decode cX7_part 106 = .ok (.ifCond .ne 7, 3) := by decide +kernel
theorem dX7_part_109 : decode cX7_part 109 = .ok (.ldc2_w 118, 3) := by decide +kernel
theorem dX7_part_112 : decode cX7_part 112 = .ok (.lreturn, 1) := by decide +kernel
theorem dX7_part_113 : decode cX7_part 113 = .ok (.aload 6, 2) := by decide +kernel
theorem dX7_part_115 : decode cX7_part 115 = .ok (.getfield 148, 3) := by decide +kernel
theorem dX7_part_118 : decode cX7_part 118 = .ok (.bipush 40, 2) := by decide +kernel
theorem dX7_part_120 : decode cX7_part 120 = .ok (.if_icmp .ge 13, 3) := by decide +kernel
theorem dX7_part_123 : decode cX7_part 123 = .ok (.aload_n 0, 1) := by decide +kernel
theorem dX7_part_124 : decode cX7_part 124 = .ok (.getfield 50, 3) := by decide +kernel
theorem dX7_part_127 : decode cX7_part 127 = .ok (.invokevirtual 162, 3) := by decide +kernel
theorem dX7_part_130 : decode cX7_part 130 = .ok (.ifCond .eq 7, 3) := by decide +kernel
theorem dX7_part_133 : decode cX7_part 133 = .ok (.ldc2_w 93, 3) := by decide +kernel
theorem dX7_part_136 : decode cX7_part 136 = .ok (.lreturn, 1) := by decide +kernel
theorem dX7_part_137 : decode cX7_part 137 = .ok (.aload 6, 2) := by decide +kernel
theorem dX7_part_139 : decode cX7_part 139 = .ok (.getfield 148, 3) := by decide +kernel
theorem dX7_part_142 : decode cX7_part 142 = .ok (.istore 7, 2) := by decide +kernel
theorem dX7_part_144 : decode cX7_part 144 = .ok (.aload_n 0, 1) := by decide +kernel
theorem dX7_part_145 : decode cX7_part 145 = .ok (.aload_n 0, 1) := by decide +kernel
theorem dX7_part_146 : decode cX7_part 146 = .ok (.getfield 25, 3) := by decide +kernel
theorem dX7_part_149 : decode cX7_part 149 = .ok (.invokevirtual 170, 3) := by decide +kernel
theorem dX7_part_152 : decode cX7_part 152 = .ok (.iload_n 1, 1) := by decide +kernel
theorem dX7_part_153 : decode cX7_part 153 = .ok (.invokevirtual 173, 3) := by decide +kernel
theorem dX7_part_156 : decode cX7_part 156 = .ok (.ifCond .ne 7, 3) := by decide +kernel
theorem dX7_part_159 : decode cX7_part 159 = .ok (.ldc2_w 168, 3) := by decide +kernel
theorem dX7_part_162 : decode cX7_part 162 = .ok (.lreturn, 1) := by decide +kernel
theorem dX7_part_163 : decode cX7_part 163 = .ok (.aload_n 0, 1) := by decide +kernel
theorem dX7_part_164 : decode cX7_part 164 = .ok (.getfield 25, 3) := by decide +kernel
theorem dX7_part_167 : decode cX7_part 167 = .ok (.invokevirtual 138, 3) := by decide +kernel
theorem dX7_part_170 : decode cX7_part 170 = .ok (.iload 7, 2) := by decide +kernel
theorem dX7_part_172 : decode cX7_part 172 = .ok (.i2l, 1) := by decide +kernel
theorem dX7_part_173 : decode cX7_part 173 = .ok (.lreturn, 1) := by decide +kernel
set_option maxHeartbeats 4000000 in
set_option maxRecDepth 100000 in
theorem tX7_part (l : Launch) (G : Gg) (b0 : Nat) {K : Kk} {R : Rr} {M : Mm} {r : Nat} {a0 : Int32} {a1 : Int32} {a2 : Int32} {a3 : Int32} {a4 : Int32} {res : Int64} {R' : Rr} {M' : Mm} (hm : mX7_part K R M r a0 a1 a2 a3 a4 = some (res, R', M')) : CT l G b0 yX7_part cX7_part 8 (some .long) (rmz 6 134) [.ref r, .int a0, .int a1, .int a2, .int a3, .int a4] K R M (some (.long res)) K R' M' := by
  refine ct_of (by decide +kernel) (Nat.le_of_ble_eq_true rfl) (fun w hq => ?_)
  have hw := hq.b
  change w 0 0 0 [(0, .ref r), (1, .int a0), (2, .int a1), (3, .int a2), (4, .int a3), (5, .int a4)] [] K R M
  replace hm := h_start hm
  unfold mX7_part at hm
  obtain ⟨h1, m41⟩ := h_ck hm
  clear hm
  have J26 : ∀ (R2 : Rr) (M3 : Mm), (mX7_part_J26 K R2 M3 r a0 a1 a2 a3 a4).bind some = some (res, R', M') → w 0 0 26 [(0, .ref r), (1, .int a0), (2, .int a1), (3, .int a2), (4, .int a3), (5, .int a4)] [] K R2 M3 := by
    intro R2 M3  m42
    unfold mX7_part_J26 at m42
    refine r_iload hw dX7_part_26 4 rfl ?_
    refine r_sipush (v := 1000) hw dX7_part_28 rfl ?_
    obtain ⟨i4, g4, m43⟩ := h_bd m42
    clear m42
    refine r_callS1 hw (tX7_isWithin l G b0 g4) lB_X7_isWithin sT_X7_isWithin mL_X7_189 rfl rfl (Nat.le_of_ble_eq_true rfl) (Nat.le_of_ble_eq_true rfl) rfl (Nat.le_of_ble_eq_true rfl) dX7_part_31 ?_
    refine r_if_eq (tgt := 48) hw dX7_part_34 (by decide) (fun c5 => ?_) (fun c5 => ?_)
    · have m44 := h_if_t c5 m43
      clear m43
      refine r_ldc2 (v := (-9000000000000000001)) hw dX7_part_48 kW_X7_87 ?_
      cases h_ret m44
      exact r_lreturn hq rfl rfl dX7_part_51
    · have m45 := h_if_f c5 m43
      clear m43
      refine r_iload hw dX7_part_37 5 rfl ?_
      refine r_sipush (v := 1000) hw dX7_part_39 rfl ?_
      obtain ⟨i6, g6, m46⟩ := h_bd m45
      clear m45
      refine r_callS1 hw (tX7_isWithin l G b0 g6) lB_X7_isWithin sT_X7_isWithin mL_X7_189 rfl rfl (Nat.le_of_ble_eq_true rfl) (Nat.le_of_ble_eq_true rfl) rfl (Nat.le_of_ble_eq_true rfl) dX7_part_42 ?_
      refine r_if_ne (tgt := 52) hw dX7_part_45 (by decide) (fun c7 => ?_) (fun c7 => ?_)
      · have m47 := h_if_f c7 m46
        clear m46
        refine r_aload_n hw dX7_part_52 0 rfl ?_
        obtain ⟨q8, bq8, m48⟩ := h_bd m47
        clear m47
        refine r_getR hw fO_X7_50 h1 bq8 dX7_part_53 ?_
        refine r_iload_n hw dX7_part_56 2 rfl ?_
        refine r_iload_n hw dX7_part_57 3 rfl ?_
        refine r_iload hw dX7_part_58 4 rfl ?_
        refine r_iload hw dX7_part_60 5 rfl ?_
        obtain ⟨h10, m49⟩ := h_ck m48
        clear m48
        obtain ⟨M9, g9, m50⟩ := h_bd m49
        clear m49
        refine r_callV0 hw (tX2_set l G b0 g9) lB_X2_set lI_X2_set mL_X7_141 (c := 2) rfl h10 rfl (Nat.le_of_ble_eq_true rfl) (Nat.le_of_ble_eq_true rfl) rfl (Nat.le_of_ble_eq_true rfl) dX7_part_62 ?_
        refine r_aload_n hw dX7_part_65 0 rfl ?_
        obtain ⟨q11, bq11, m51⟩ := h_bd m50
        clear m50
        refine r_getR hw fO_X7_25 h1 bq11 dX7_part_66 ?_
        obtain ⟨h13, m52⟩ := h_ck m51
        clear m51
        obtain ⟨q12, g12, m53⟩ := h_bd m52
        clear m52
        refine r_callV1 hw (tX1_now l G b0 g12) lB_X1_now lI_X1_now mL_X7_145 (c := 1) rfl h13 rfl (Nat.le_of_ble_eq_true rfl) (Nat.le_of_ble_eq_true rfl) rfl (Nat.le_of_ble_eq_true rfl) dX7_part_69 ?_
        refine r_astore hw dX7_part_72 (by decide) rfl ?_
        refine r_aload hw dX7_part_74 0 rfl ?_
        obtain ⟨h14, m54⟩ := h_ck m53
        clear m53
        obtain ⟨q15, bq15, m55⟩ := h_bd m54
        clear m54
        refine r_getR hw fO_X7_149 h14 bq15 dX7_part_76 ?_
        refine r_iload_n hw dX7_part_79 2 rfl ?_
        obtain ⟨h16, m56⟩ := h_ck m55
        clear m55
        obtain ⟨q17, bq17, m57⟩ := h_bd m56
        clear m56
        refine r_aaload hw 2 (by decide) h16 bq17 dX7_part_80 ?_
        refine r_aload_n hw dX7_part_81 1 rfl ?_
        obtain ⟨q18, bq18, m58⟩ := h_bd m57
        clear m57
        refine r_getR hw fO_X7_68 h1 bq18 dX7_part_82 ?_
        obtain ⟨h20, m59⟩ := h_ck m58
        clear m58
        obtain ⟨M19, g19, m60⟩ := h_bd m59
        clear m59
        refine r_callV0 hw (tX3_placeInto l G b0 g19) lB_X3_placeInto lI_X3_placeInto mL_X7_153 (c := 3) rfl h20 rfl (Nat.le_of_ble_eq_true rfl) (Nat.le_of_ble_eq_true rfl) rfl (Nat.le_of_ble_eq_true rfl) dX7_part_85 ?_
        refine r_aload_n hw dX7_part_88 1 rfl ?_
        refine r_getR hw fO_X7_50 h1 bq8 dX7_part_89 ?_
        refine r_aload_n hw dX7_part_92 1 rfl ?_
        refine r_getR hw fO_X7_68 h1 bq18 dX7_part_93 ?_
        obtain ⟨M21, g21, m61⟩ := h_bd m60
        clear m60
        refine r_callV0 hw (tX2_weigh l G b0 g21) lB_X2_weigh lI_X2_weigh mL_X7_156 (c := 2) rfl h10 rfl (Nat.le_of_ble_eq_true rfl) (Nat.le_of_ble_eq_true rfl) rfl (Nat.le_of_ble_eq_true rfl) dX7_part_96 ?_
        refine r_aload_n hw dX7_part_99 1 rfl ?_
        refine r_getR hw fO_X7_50 h1 bq8 dX7_part_100 ?_
        obtain ⟨i22, g22, m62⟩ := h_bd m61
        clear m61
        refine r_callV1 hw (tX2_crosses l G b0 g22) lB_X2_crosses lI_X2_crosses mL_X7_159 (c := 2) rfl h10 rfl (Nat.le_of_ble_eq_true rfl) (Nat.le_of_ble_eq_true rfl) rfl (Nat.le_of_ble_eq_true rfl) dX7_part_103 ?_
        refine r_if_ne (tgt := 113) hw dX7_part_106 (by decide) (fun c23 => ?_) (fun c23 => ?_)
        · have m63 := h_if_f c23 m62
          clear m62
          refine r_aload hw dX7_part_113 0 rfl ?_
          refine r_getI hw fO_X7_148 h14 dX7_part_115 ?_
          refine r_bipush (v := 40) hw dX7_part_118 rfl ?_
          refine r_icmp_ge (tgt := 133) hw dX7_part_120 (by decide) (fun c24 => ?_) (fun c24 => ?_)
          · have m64 := h_if_f c24 m63
            clear m63
            refine r_ldc2 (v := (-9000000000000000003)) hw dX7_part_133 kW_X7_93 ?_
            cases h_ret m64
            exact r_lreturn hq rfl rfl dX7_part_136
          · have m65 := h_if_t c24 m63
            clear m63
            refine r_aload_n hw dX7_part_123 1 rfl ?_
            refine r_getR hw fO_X7_50 h1 bq8 dX7_part_124 ?_
            obtain ⟨i25, g25, m66⟩ := h_bd m65
            clear m65
            refine r_callV1 hw (tX2_overfills l G b0 g25) lB_X2_overfills lI_X2_overfills mL_X7_162 (c := 2) rfl h10 rfl (Nat.le_of_ble_eq_true rfl) (Nat.le_of_ble_eq_true rfl) rfl (Nat.le_of_ble_eq_true rfl) dX7_part_127 ?_
            refine r_if_eq (tgt := 137) hw dX7_part_130 (by decide) (fun c26 => ?_) (fun c26 => ?_)
            · have m67 := h_if_t c26 m66
              clear m66
              refine r_aload hw dX7_part_137 0 rfl ?_
              refine r_getI hw fO_X7_148 h14 dX7_part_139 ?_
              obtain ⟨i27, ei27, m68⟩ := h_nm m67
              clear m67
              refine r_topI (w := w) ei27 ?_
              refine r_istore hw dX7_part_142 (by decide) rfl ?_
              refine r_aload_n hw dX7_part_144 2 rfl ?_
              refine r_aload_n hw dX7_part_145 2 rfl ?_
              refine r_getR hw fO_X7_25 h1 bq11 dX7_part_146 ?_
              obtain ⟨q28, M29, g29, m69⟩ := h_bd2 m68
              clear m68
              refine r_callV1 hw (tX1_draft l G b0 g29) lB_X1_draft lI_X1_draft mL_X7_170 (c := 1) rfl h13 rfl (Nat.le_of_ble_eq_true rfl) (Nat.le_of_ble_eq_true rfl) rfl (Nat.le_of_ble_eq_true rfl) dX7_part_149 ?_
              refine r_iload_n hw dX7_part_152 3 rfl ?_
              obtain ⟨i30, M31, g31, m70⟩ := h_bd2 m69
              clear m69
              refine r_callV1 hw (tX7_cutOne l G b0 g31) lB_X7_cutOne lI_X7_cutOne mL_X7_173 (c := 7) rfl h1 rfl (Nat.le_of_ble_eq_true rfl) (Nat.le_of_ble_eq_true rfl) rfl (Nat.le_of_ble_eq_true rfl) dX7_part_153 ?_
              refine r_if_ne (tgt := 163) hw dX7_part_156 (by decide) (fun c32 => ?_) (fun c32 => ?_)
              · have m71 := h_if_f c32 m70
                clear m70
                refine r_aload_n hw dX7_part_163 2 rfl ?_
                refine r_getR hw fO_X7_25 h1 bq11 dX7_part_164 ?_
                obtain ⟨R33, M34, g34, m72⟩ := h_bd2 m71
                clear m71
                refine r_callV0 hw (tX1_keepDraft l G b0 g34) lB_X1_keepDraft lI_X1_keepDraft mL_X7_138 (c := 1) rfl h13 rfl (Nat.le_of_ble_eq_true rfl) (Nat.le_of_ble_eq_true rfl) rfl (Nat.le_of_ble_eq_true rfl) dX7_part_167 ?_
                refine r_iload hw dX7_part_170 0 rfl ?_
                refine r_i2l hw dX7_part_172 ?_
                cases h_ret m72
                exact r_lreturn hq rfl rfl dX7_part_173
              · have m73 := h_if_t c32 m70
                clear m70
                refine r_ldc2 (v := (-9000000000000000004)) hw dX7_part_159 kW_X7_168 ?_
                cases h_ret m73
                exact r_lreturn hq rfl rfl dX7_part_162
            · have m74 := h_if_f c26 m66
              clear m66
              refine r_ldc2 (v := (-9000000000000000003)) hw dX7_part_133 kW_X7_93 ?_
              cases h_ret m74
              exact r_lreturn hq rfl rfl dX7_part_136
        · have m75 := h_if_t c23 m62
          clear m62
          refine r_ldc2 (v := (-9000000000000000002)) hw dX7_part_109 kW_X7_118 ?_
          cases h_ret m75
          exact r_lreturn hq rfl rfl dX7_part_112
      · have m76 := h_if_t c7 m46
        clear m46
        refine r_ldc2 (v := (-9000000000000000001)) hw dX7_part_48 kW_X7_87 ?_
        cases h_ret m76
        exact r_lreturn hq rfl rfl dX7_part_51
  refine r_aload_n hw dX7_part_0 0 rfl ?_
  refine r_iload_n hw dX7_part_1 1 rfl ?_
  obtain ⟨i35, g35, m77⟩ := h_bd m41
  clear m41
  refine r_callV1 hw (tX7_isPiece l G b0 g35) lB_X7_isPiece lI_X7_isPiece mL_X7_186 (c := 7) rfl h1 rfl (Nat.le_of_ble_eq_true rfl) (Nat.le_of_ble_eq_true rfl) rfl (Nat.le_of_ble_eq_true rfl) dX7_part_2 ?_
  refine r_if_eq (tgt := 48) hw dX7_part_5 (by decide) (fun c36 => ?_) (fun c36 => ?_)
  · have m78 := h_if_t c36 m77
    clear m77
    refine r_ldc2 (v := (-9000000000000000001)) hw dX7_part_48 kW_X7_87 ?_
    cases h_ret m78
    exact r_lreturn hq rfl rfl dX7_part_51
  · have m79 := h_if_f c36 m77
    clear m77
    refine r_iload_n hw dX7_part_8 2 rfl ?_
    refine r_iload_n hw dX7_part_9 3 rfl ?_
    obtain ⟨i37, g37, m80⟩ := h_bd m79
    clear m79
    refine r_callS1 hw (tX7_isPlace l G b0 g37) lB_X7_isPlace sT_X7_isPlace mL_X7_83 rfl rfl (Nat.le_of_ble_eq_true rfl) (Nat.le_of_ble_eq_true rfl) rfl (Nat.le_of_ble_eq_true rfl) dX7_part_10 ?_
    refine r_if_eq (tgt := 48) hw dX7_part_13 (by decide) (fun c38 => ?_) (fun c38 => ?_)
    · have m81 := h_if_t c38 m80
      clear m80
      refine r_ldc2 (v := (-9000000000000000001)) hw dX7_part_48 kW_X7_87 ?_
      cases h_ret m81
      exact r_lreturn hq rfl rfl dX7_part_51
    · have m82 := h_if_f c38 m80
      clear m80
      refine r_iload hw dX7_part_16 4 rfl ?_
      refine r_if_ne (tgt := 26) hw dX7_part_18 (by decide) (fun c39 => ?_) (fun c39 => ?_)
      · have m83 := h_if_f c39 m82
        clear m82
        exact J26 _ _ m83
      · have m84 := h_if_t c39 m82
        clear m82
        refine r_iload hw dX7_part_21 5 rfl ?_
        refine r_if_eq (tgt := 48) hw dX7_part_23 (by decide) (fun c40 => ?_) (fun c40 => ?_)
        · have m85 := h_if_t c40 m84
          clear m84
          refine r_ldc2 (v := (-9000000000000000001)) hw dX7_part_48 kW_X7_87 ?_
          cases h_ret m85
          exact r_lreturn hq rfl rfl dX7_part_51
        · have m86 := h_if_f c40 m84
          clear m84
          exact J26 _ _ m86
theorem dX7_moveTo_0 : decode cX7_moveTo 0 = .ok (.aload_n 0, 1) := by decide +kernel
theorem dX7_moveTo_1 : decode cX7_moveTo 1 = .ok (.getfield 68, 3) := by decide +kernel
theorem dX7_moveTo_4 : decode cX7_moveTo 4 = .ok (.aload_n 0, 1) := by decide +kernel
theorem dX7_moveTo_5 : decode cX7_moveTo 5 = .ok (.getfield 25, 3) := by decide +kernel
theorem dX7_moveTo_8 : decode cX7_moveTo 8 = .ok (.invokevirtual 145, 3) := by decide +kernel
theorem dX7_moveTo_11 : decode cX7_moveTo 11 = .ok (.getfield 149, 3) := by decide +kernel
theorem dX7_moveTo_14 : decode cX7_moveTo 14 = .ok (.iload_n 1, 1) := by decide +kernel
theorem dX7_moveTo_15 : decode cX7_moveTo 15 = .ok (.aaload, 1) := by decide +kernel
theorem dX7_moveTo_16 : decode cX7_moveTo 16 = .ok (.getfield 206, 3) := by decide +kernel
theorem dX7_moveTo_19 : decode cX7_moveTo 19 = .ok (.iload_n 2, 1) := by decide +kernel
theorem dX7_moveTo_20 : decode cX7_moveTo 20 = .ok (.iload_n 3, 1) := by decide +kernel
theorem dX7_moveTo_21 : decode cX7_moveTo 21 = .ok (.iload 4, 2) := by decide +kernel
theorem dX7_moveTo_23 : decode cX7_moveTo 23 = .ok (.invokevirtual 120, 3) := by decide +kernel
theorem dX7_moveTo_26 : decode cX7_moveTo 26 = .ok (.aload_n 0, 1) := by decide +kernel
theorem dX7_moveTo_27 : decode cX7_moveTo 27 = .ok (.getfield 68, 3) := by decide +kernel
theorem dX7_moveTo_30 : decode cX7_moveTo 30 = .ok (.invokevirtual 209, 3) := by decide +kernel
theorem dX7_moveTo_33 : decode cX7_moveTo 33 = .ok (.ifCond .ne 7, 3) := by decide +kernel
theorem dX7_moveTo_36 : decode cX7_moveTo 36 = .ok (.ldc2_w 87, 3) := by decide +kernel
theorem dX7_moveTo_39 : decode cX7_moveTo 39 = .ok (.lreturn, 1) := by decide +kernel
theorem dX7_moveTo_40 : decode cX7_moveTo 40 = .ok (.aload_n 0, 1) := by decide +kernel
theorem dX7_moveTo_41 : decode cX7_moveTo 41 = .ok (.getfield 25, 3) := by decide +kernel
theorem dX7_moveTo_44 : decode cX7_moveTo 44 = .ok (.invokevirtual 170, 3) := by decide +kernel
theorem dX7_moveTo_47 : decode cX7_moveTo 47 = .ok (.getfield 149, 3) := by decide +kernel
theorem dX7_moveTo_50 : decode cX7_moveTo 50 = .ok (.iload_n 1, 1) := by decide +kernel
theorem dX7_moveTo_51 : decode cX7_moveTo 51 = .ok (.aaload, 1) := by decide +kernel
theorem dX7_moveTo_52 : decode cX7_moveTo 52 = .ok (.iload_n 2, 1) := by decide +kernel
theorem dX7_moveTo_53 : decode cX7_moveTo 53 = .ok (.iload_n 3, 1) := by decide +kernel
theorem dX7_moveTo_54 : decode cX7_moveTo 54 = .ok (.iload 4, 2) := by decide +kernel
theorem dX7_moveTo_56 : decode cX7_moveTo 56 = .ok (.invokevirtual 124, 3) := by decide +kernel
theorem dX7_moveTo_59 : decode cX7_moveTo 59 = .ok (.aload_n 0, 1) := by decide +kernel
theorem dX7_moveTo_60 : decode cX7_moveTo 60 = .ok (.getfield 25, 3) := by decide +kernel
theorem dX7_moveTo_63 : decode cX7_moveTo 63 = .ok (.invokevirtual 138, 3) := by decide +kernel
theorem dX7_moveTo_66 : decode cX7_moveTo 66 = .ok (.lconst 0, 1) := by decide +kernel
theorem dX7_moveTo_67 : decode cX7_moveTo 67 = .ok (.lreturn, 1) := by decide +kernel
set_option maxHeartbeats 4000000 in
set_option maxRecDepth 100000 in
theorem tX7_moveTo (l : Launch) (G : Gg) (b0 : Nat) {K : Kk} {R : Rr} {M : Mm} {r : Nat} {a0 : Int32} {a1 : Int32} {a2 : Int32} {a3 : Int32} {res : Int64} {R' : Rr} {M' : Mm} (hm : mX7_moveTo K R M r a0 a1 a2 a3 = some (res, R', M')) : CT l G b0 yX7_moveTo cX7_moveTo 5 (some .long) (rmz 6 132) [.ref r, .int a0, .int a1, .int a2, .int a3] K R M (some (.long res)) K R' M' := by
  refine ct_of (by decide +kernel) (Nat.le_of_ble_eq_true rfl) (fun w hq => ?_)
  have hw := hq.b
  change w 0 0 0 [(0, .ref r), (1, .int a0), (2, .int a1), (3, .int a2), (4, .int a3)] [] K R M
  replace hm := h_start hm
  unfold mX7_moveTo at hm
  obtain ⟨h1, m26⟩ := h_ck hm
  clear hm
  refine r_aload_n hw dX7_moveTo_0 0 rfl ?_
  obtain ⟨q2, bq2, m27⟩ := h_bd m26
  clear m26
  refine r_getR hw fO_X7_68 h1 bq2 dX7_moveTo_1 ?_
  refine r_aload_n hw dX7_moveTo_4 0 rfl ?_
  obtain ⟨q3, bq3, m28⟩ := h_bd m27
  clear m27
  refine r_getR hw fO_X7_25 h1 bq3 dX7_moveTo_5 ?_
  obtain ⟨h5, m29⟩ := h_ck m28
  clear m28
  obtain ⟨q4, g4, m30⟩ := h_bd m29
  clear m29
  refine r_callV1 hw (tX1_now l G b0 g4) lB_X1_now lI_X1_now mL_X7_145 (c := 1) rfl h5 rfl (Nat.le_of_ble_eq_true rfl) (Nat.le_of_ble_eq_true rfl) rfl (Nat.le_of_ble_eq_true rfl) dX7_moveTo_8 ?_
  obtain ⟨h6, m31⟩ := h_ck m30
  clear m30
  obtain ⟨q7, bq7, m32⟩ := h_bd m31
  clear m31
  refine r_getR hw fO_X7_149 h6 bq7 dX7_moveTo_11 ?_
  refine r_iload_n hw dX7_moveTo_14 1 rfl ?_
  obtain ⟨h8, m33⟩ := h_ck m32
  clear m32
  obtain ⟨q9, bq9, m34⟩ := h_bd m33
  clear m33
  refine r_aaload hw 2 (by decide) h8 bq9 dX7_moveTo_15 ?_
  obtain ⟨h10, m35⟩ := h_ck m34
  clear m34
  obtain ⟨q11, bq11, m36⟩ := h_bd m35
  clear m35
  refine r_getR hw fO_X7_206 h10 bq11 dX7_moveTo_16 ?_
  refine r_iload_n hw dX7_moveTo_19 2 rfl ?_
  refine r_iload_n hw dX7_moveTo_20 3 rfl ?_
  refine r_iload hw dX7_moveTo_21 4 rfl ?_
  obtain ⟨h13, m37⟩ := h_ck m36
  clear m36
  obtain ⟨M12, g12, m38⟩ := h_bd m37
  clear m37
  refine r_callV0 hw (tX5_takeMoved l G b0 g12) lB_X5_takeMoved lI_X5_takeMoved mL_X7_120 (c := 5) rfl h13 rfl (Nat.le_of_ble_eq_true rfl) (Nat.le_of_ble_eq_true rfl) rfl (Nat.le_of_ble_eq_true rfl) dX7_moveTo_23 ?_
  refine r_aload_n hw dX7_moveTo_26 0 rfl ?_
  refine r_getR hw fO_X7_68 h1 bq2 dX7_moveTo_27 ?_
  obtain ⟨i14, g14, m39⟩ := h_bd m38
  clear m38
  refine r_callV1 hw (tX5_isInBounds l G b0 g14) lB_X5_isInBounds lI_X5_isInBounds mL_X7_209 (c := 5) rfl h13 rfl (Nat.le_of_ble_eq_true rfl) (Nat.le_of_ble_eq_true rfl) rfl (Nat.le_of_ble_eq_true rfl) dX7_moveTo_30 ?_
  refine r_if_ne (tgt := 40) hw dX7_moveTo_33 (by decide) (fun c15 => ?_) (fun c15 => ?_)
  · have m40 := h_if_f c15 m39
    clear m39
    refine r_aload_n hw dX7_moveTo_40 0 rfl ?_
    refine r_getR hw fO_X7_25 h1 bq3 dX7_moveTo_41 ?_
    obtain ⟨q16, M17, g17, m41⟩ := h_bd2 m40
    clear m40
    refine r_callV1 hw (tX1_draft l G b0 g17) lB_X1_draft lI_X1_draft mL_X7_170 (c := 1) rfl h5 rfl (Nat.le_of_ble_eq_true rfl) (Nat.le_of_ble_eq_true rfl) rfl (Nat.le_of_ble_eq_true rfl) dX7_moveTo_44 ?_
    obtain ⟨h18, m42⟩ := h_ck m41
    clear m41
    obtain ⟨q19, bq19, m43⟩ := h_bd m42
    clear m42
    refine r_getR hw fO_X7_149 h18 bq19 dX7_moveTo_47 ?_
    refine r_iload_n hw dX7_moveTo_50 1 rfl ?_
    obtain ⟨h20, m44⟩ := h_ck m43
    clear m43
    obtain ⟨q21, bq21, m45⟩ := h_bd m44
    clear m44
    refine r_aaload hw 2 (by decide) h20 bq21 dX7_moveTo_51 ?_
    refine r_iload_n hw dX7_moveTo_52 2 rfl ?_
    refine r_iload_n hw dX7_moveTo_53 3 rfl ?_
    refine r_iload hw dX7_moveTo_54 4 rfl ?_
    obtain ⟨h23, m46⟩ := h_ck m45
    clear m45
    obtain ⟨M22, g22, m47⟩ := h_bd m46
    clear m46
    refine r_callV0 hw (tX3_setMove l G b0 g22) lB_X3_setMove lI_X3_setMove mL_X7_124 (c := 3) rfl h23 rfl (Nat.le_of_ble_eq_true rfl) (Nat.le_of_ble_eq_true rfl) rfl (Nat.le_of_ble_eq_true rfl) dX7_moveTo_56 ?_
    refine r_aload_n hw dX7_moveTo_59 0 rfl ?_
    refine r_getR hw fO_X7_25 h1 bq3 dX7_moveTo_60 ?_
    obtain ⟨R24, M25, g25, m48⟩ := h_bd2 m47
    clear m47
    refine r_callV0 hw (tX1_keepDraft l G b0 g25) lB_X1_keepDraft lI_X1_keepDraft mL_X7_138 (c := 1) rfl h5 rfl (Nat.le_of_ble_eq_true rfl) (Nat.le_of_ble_eq_true rfl) rfl (Nat.le_of_ble_eq_true rfl) dX7_moveTo_63 ?_
    refine r_lconst (v := 0) hw dX7_moveTo_66 rfl ?_
    cases h_ret m48
    exact r_lreturn hq rfl rfl dX7_moveTo_67
  · have m49 := h_if_t c15 m39
    clear m39
    refine r_ldc2 (v := (-9000000000000000001)) hw dX7_moveTo_36 kW_X7_87 ?_
    cases h_ret m49
    exact r_lreturn hq rfl rfl dX7_moveTo_39
theorem dX7_slide_0 : decode cX7_slide 0 = .ok (.aload_n 0, 1) := by decide +kernel
theorem dX7_slide_1 : decode cX7_slide 1 = .ok (.iload_n 1, 1) := by decide +kernel
theorem dX7_slide_2 : decode cX7_slide 2 = .ok (.invokevirtual 186, 3) := by decide +kernel
theorem dX7_slide_5 : decode cX7_slide 5 = .ok (.ifCond .eq 21, 3) := by decide +kernel
theorem dX7_slide_8 : decode cX7_slide 8 = .ok (.iload_n 2, 1) := by decide +kernel
theorem dX7_slide_9 : decode cX7_slide 9 = .ok (.ldc 192, 2) := by decide +kernel
theorem dX7_slide_11 : decode cX7_slide 11 = .ok (.invokestatic 189, 3) := by decide +kernel
theorem dX7_slide_14 : decode cX7_slide 14 = .ok (.ifCond .eq 12, 3) := by decide +kernel
theorem dX7_slide_17 : decode cX7_slide 17 = .ok (.iload_n 3, 1) := by decide +kernel
theorem dX7_slide_18 : decode cX7_slide 18 = .ok (.ldc 192, 2) := by decide +kernel
theorem dX7_slide_20 : decode cX7_slide 20 = .ok (.invokestatic 189, 3) := by decide +kernel
theorem dX7_slide_23 : decode cX7_slide 23 = .ok (.ifCond .ne 7, 3) := by decide +kernel
theorem dX7_slide_26 : decode cX7_slide 26 = .ok (.ldc2_w 87, 3) := by decide +kernel
theorem dX7_slide_29 : decode cX7_slide 29 = .ok (.lreturn, 1) := by decide +kernel
theorem dX7_slide_30 : decode cX7_slide 30 = .ok (.aload_n 0, 1) := by decide +kernel
theorem dX7_slide_31 : decode cX7_slide 31 = .ok (.getfield 25, 3) := by decide +kernel
theorem dX7_slide_34 : decode cX7_slide 34 = .ok (.invokevirtual 145, 3) := by decide +kernel
theorem dX7_slide_37 : decode cX7_slide 37 = .ok (.getfield 149, 3) := by decide +kernel
theorem dX7_slide_40 : decode cX7_slide 40 = .ok (.iload_n 1, 1) := by decide +kernel
theorem dX7_slide_41 : decode cX7_slide 41 = .ok (.aaload, 1) := by decide +kernel
theorem dX7_slide_42 : decode cX7_slide 42 = .ok (.astore 4, 2) := by decide +kernel
theorem dX7_slide_44 : decode cX7_slide 44 = .ok (.aload_n 0, 1) := by decide +kernel
theorem dX7_slide_45 : decode cX7_slide 45 = .ok (.iload_n 1, 1) := by decide +kernel
theorem dX7_slide_46 : decode cX7_slide 46 = .ok (.aload 4, 2) := by decide +kernel
theorem dX7_slide_48 : decode cX7_slide 48 = .ok (.getfield 193, 3) := by decide +kernel
theorem dX7_slide_51 : decode cX7_slide 51 = .ok (.aload 4, 2) := by decide +kernel
theorem dX7_slide_53 : decode cX7_slide 53 = .ok (.getfield 196, 3) := by decide +kernel
theorem dX7_slide_56 : decode cX7_slide 56 = .ok (.iload_n 2, 1) := by decide +kernel
theorem dX7_slide_57 : decode cX7_slide 57 = .ok (.iadd, 1) := by decide +kernel
theorem dX7_slide_58 : decode cX7_slide 58 = .ok (.aload 4, 2) := by decide +kernel
theorem dX7_slide_60 : decode cX7_slide 60 = .ok (.getfield 199, 3) := by decide +kernel
theorem dX7_slide_63 : decode cX7_slide 63 = .ok (.iload_n 3, 1) := by decide +kernel
theorem dX7_slide_64 : decode cX7_slide 64 = .ok (.iadd, 1) := by decide +kernel
theorem dX7_slide_65 : decode cX7_slide 65 = .ok (.invokevirtual 202, 3) := by decide +kernel
theorem dX7_slide_68 : decode cX7_slide 68 = .ok (.lreturn, 1) := by decide +kernel
set_option maxHeartbeats 4000000 in
set_option maxRecDepth 100000 in
theorem tX7_slide (l : Launch) (G : Gg) (b0 : Nat) {K : Kk} {R : Rr} {M : Mm} {r : Nat} {a0 : Int32} {a1 : Int32} {a2 : Int32} {res : Int64} {R' : Rr} {M' : Mm} (hm : mX7_slide K R M r a0 a1 a2 = some (res, R', M')) : CT l G b0 yX7_slide cX7_slide 5 (some .long) (rmz 7 156) [.ref r, .int a0, .int a1, .int a2] K R M (some (.long res)) K R' M' := by
  refine ct_of (by decide +kernel) (Nat.le_of_ble_eq_true rfl) (fun w hq => ?_)
  have hw := hq.b
  change w 0 0 0 [(0, .ref r), (1, .int a0), (2, .int a1), (3, .int a2)] [] K R M
  replace hm := h_start hm
  unfold mX7_slide at hm
  obtain ⟨h1, m19⟩ := h_ck hm
  clear hm
  refine r_aload_n hw dX7_slide_0 0 rfl ?_
  refine r_iload_n hw dX7_slide_1 1 rfl ?_
  obtain ⟨i2, g2, m20⟩ := h_bd m19
  clear m19
  refine r_callV1 hw (tX7_isPiece l G b0 g2) lB_X7_isPiece lI_X7_isPiece mL_X7_186 (c := 7) rfl h1 rfl (Nat.le_of_ble_eq_true rfl) (Nat.le_of_ble_eq_true rfl) rfl (Nat.le_of_ble_eq_true rfl) dX7_slide_2 ?_
  refine r_if_eq (tgt := 26) hw dX7_slide_5 (by decide) (fun c3 => ?_) (fun c3 => ?_)
  · have m21 := h_if_t c3 m20
    clear m20
    refine r_ldc2 (v := (-9000000000000000001)) hw dX7_slide_26 kW_X7_87 ?_
    cases h_ret m21
    exact r_lreturn hq rfl rfl dX7_slide_29
  · have m22 := h_if_f c3 m20
    clear m20
    refine r_iload_n hw dX7_slide_8 2 rfl ?_
    refine r_ldc (v := 200000) hw dX7_slide_9 kW_X7_192 ?_
    obtain ⟨i4, g4, m23⟩ := h_bd m22
    clear m22
    refine r_callS1 hw (tX7_isWithin l G b0 g4) lB_X7_isWithin sT_X7_isWithin mL_X7_189 rfl rfl (Nat.le_of_ble_eq_true rfl) (Nat.le_of_ble_eq_true rfl) rfl (Nat.le_of_ble_eq_true rfl) dX7_slide_11 ?_
    refine r_if_eq (tgt := 26) hw dX7_slide_14 (by decide) (fun c5 => ?_) (fun c5 => ?_)
    · have m24 := h_if_t c5 m23
      clear m23
      refine r_ldc2 (v := (-9000000000000000001)) hw dX7_slide_26 kW_X7_87 ?_
      cases h_ret m24
      exact r_lreturn hq rfl rfl dX7_slide_29
    · have m25 := h_if_f c5 m23
      clear m23
      refine r_iload_n hw dX7_slide_17 3 rfl ?_
      refine r_ldc (v := 200000) hw dX7_slide_18 kW_X7_192 ?_
      obtain ⟨i6, g6, m26⟩ := h_bd m25
      clear m25
      refine r_callS1 hw (tX7_isWithin l G b0 g6) lB_X7_isWithin sT_X7_isWithin mL_X7_189 rfl rfl (Nat.le_of_ble_eq_true rfl) (Nat.le_of_ble_eq_true rfl) rfl (Nat.le_of_ble_eq_true rfl) dX7_slide_20 ?_
      refine r_if_ne (tgt := 30) hw dX7_slide_23 (by decide) (fun c7 => ?_) (fun c7 => ?_)
      · have m27 := h_if_f c7 m26
        clear m26
        refine r_aload_n hw dX7_slide_30 0 rfl ?_
        obtain ⟨q8, bq8, m28⟩ := h_bd m27
        clear m27
        refine r_getR hw fO_X7_25 h1 bq8 dX7_slide_31 ?_
        obtain ⟨h10, m29⟩ := h_ck m28
        clear m28
        obtain ⟨q9, g9, m30⟩ := h_bd m29
        clear m29
        refine r_callV1 hw (tX1_now l G b0 g9) lB_X1_now lI_X1_now mL_X7_145 (c := 1) rfl h10 rfl (Nat.le_of_ble_eq_true rfl) (Nat.le_of_ble_eq_true rfl) rfl (Nat.le_of_ble_eq_true rfl) dX7_slide_34 ?_
        obtain ⟨h11, m31⟩ := h_ck m30
        clear m30
        obtain ⟨q12, bq12, m32⟩ := h_bd m31
        clear m31
        refine r_getR hw fO_X7_149 h11 bq12 dX7_slide_37 ?_
        refine r_iload_n hw dX7_slide_40 1 rfl ?_
        obtain ⟨h13, m33⟩ := h_ck m32
        clear m32
        obtain ⟨q14, bq14, m34⟩ := h_bd m33
        clear m33
        refine r_aaload hw 2 (by decide) h13 bq14 dX7_slide_41 ?_
        refine r_astore hw dX7_slide_42 (by decide) rfl ?_
        refine r_aload_n hw dX7_slide_44 1 rfl ?_
        refine r_iload_n hw dX7_slide_45 2 rfl ?_
        refine r_aload hw dX7_slide_46 0 rfl ?_
        obtain ⟨h15, m35⟩ := h_ck m34
        clear m34
        refine r_getI hw fO_X7_193 h15 dX7_slide_48 ?_
        refine r_aload hw dX7_slide_51 0 rfl ?_
        refine r_getI hw fO_X7_196 h15 dX7_slide_53 ?_
        refine r_iload_n hw dX7_slide_56 3 rfl ?_
        refine r_iadd hw dX7_slide_57 ?_
        refine r_aload hw dX7_slide_58 0 rfl ?_
        refine r_getI hw fO_X7_199 h15 dX7_slide_60 ?_
        refine r_iload_n hw dX7_slide_63 4 rfl ?_
        refine r_iadd hw dX7_slide_64 ?_
        obtain ⟨l16, R17, M18, g18, m36⟩ := h_bd3 m35
        clear m35
        refine r_callV1 hw (tX7_moveTo l G b0 g18) lB_X7_moveTo lI_X7_moveTo mL_X7_202 (c := 7) rfl h1 rfl (Nat.le_of_ble_eq_true rfl) (Nat.le_of_ble_eq_true rfl) rfl (Nat.le_of_ble_eq_true rfl) dX7_slide_65 ?_
        cases h_ret m36
        exact r_lreturn hq rfl rfl dX7_slide_68
      · have m37 := h_if_t c7 m26
        clear m26
        refine r_ldc2 (v := (-9000000000000000001)) hw dX7_slide_26 kW_X7_87 ?_
        cases h_ret m37
        exact r_lreturn hq rfl rfl dX7_slide_29
theorem dX7_half_0 : decode cX7_half 0 = .ok (.aload_n 0, 1) := by decide +kernel
theorem dX7_half_1 : decode cX7_half 1 = .ok (.iload_n 1, 1) := by decide +kernel
theorem dX7_half_2 : decode cX7_half 2 = .ok (.invokevirtual 186, 3) := by decide +kernel
theorem dX7_half_5 : decode cX7_half 5 = .ok (.ifCond .eq 21, 3) := by decide +kernel
theorem dX7_half_8 : decode cX7_half 8 = .ok (.iload_n 2, 1) := by decide +kernel
theorem dX7_half_9 : decode cX7_half 9 = .ok (.ldc 192, 2) := by decide +kernel
theorem dX7_half_11 : decode cX7_half 11 = .ok (.invokestatic 189, 3) := by decide +kernel
theorem dX7_half_14 : decode cX7_half 14 = .ok (.ifCond .eq 12, 3) := by decide +kernel
theorem dX7_half_17 : decode cX7_half 17 = .ok (.iload_n 3, 1) := by decide +kernel
theorem dX7_half_18 : decode cX7_half 18 = .ok (.ldc 192, 2) := by decide +kernel
theorem dX7_half_20 : decode cX7_half 20 = .ok (.invokestatic 189, 3) := by decide +kernel
theorem dX7_half_23 : decode cX7_half 23 = .ok (.ifCond .ne 7, 3) := by decide +kernel
theorem dX7_half_26 : decode cX7_half 26 = .ok (.ldc2_w 87, 3) := by decide +kernel
theorem dX7_half_29 : decode cX7_half 29 = .ok (.lreturn, 1) := by decide +kernel
theorem dX7_half_30 : decode cX7_half 30 = .ok (.aload_n 0, 1) := by decide +kernel
theorem dX7_half_31 : decode cX7_half 31 = .ok (.getfield 25, 3) := by decide +kernel
theorem dX7_half_34 : decode cX7_half 34 = .ok (.invokevirtual 145, 3) := by decide +kernel
theorem dX7_half_37 : decode cX7_half 37 = .ok (.getfield 149, 3) := by decide +kernel
theorem dX7_half_40 : decode cX7_half 40 = .ok (.iload_n 1, 1) := by decide +kernel
theorem dX7_half_41 : decode cX7_half 41 = .ok (.aaload, 1) := by decide +kernel
theorem dX7_half_42 : decode cX7_half 42 = .ok (.astore 4, 2) := by decide +kernel
theorem dX7_half_44 : decode cX7_half 44 = .ok (.aload_n 0, 1) := by decide +kernel
theorem dX7_half_45 : decode cX7_half 45 = .ok (.iload_n 1, 1) := by decide +kernel
theorem dX7_half_46 : decode cX7_half 46 = .ok (.aload 4, 2) := by decide +kernel
theorem dX7_half_48 : decode cX7_half 48 = .ok (.getfield 193, 3) := by decide +kernel
theorem dX7_half_51 : decode cX7_half 51 = .ok (.ineg, 1) := by decide +kernel
theorem dX7_half_52 : decode cX7_half 52 = .ok (.iload_n 2, 1) := by decide +kernel
theorem dX7_half_53 : decode cX7_half 53 = .ok (.aload 4, 2) := by decide +kernel
theorem dX7_half_55 : decode cX7_half 55 = .ok (.getfield 196, 3) := by decide +kernel
theorem dX7_half_58 : decode cX7_half 58 = .ok (.isub, 1) := by decide +kernel
theorem dX7_half_59 : decode cX7_half 59 = .ok (.iload_n 3, 1) := by decide +kernel
theorem dX7_half_60 : decode cX7_half 60 = .ok (.aload 4, 2) := by decide +kernel
theorem dX7_half_62 : decode cX7_half 62 = .ok (.getfield 199, 3) := by decide +kernel
theorem dX7_half_65 : decode cX7_half 65 = .ok (.isub, 1) := by decide +kernel
theorem dX7_half_66 : decode cX7_half 66 = .ok (.invokevirtual 202, 3) := by decide +kernel
theorem dX7_half_69 : decode cX7_half 69 = .ok (.lreturn, 1) := by decide +kernel
set_option maxHeartbeats 4000000 in
set_option maxRecDepth 100000 in
theorem tX7_half (l : Launch) (G : Gg) (b0 : Nat) {K : Kk} {R : Rr} {M : Mm} {r : Nat} {a0 : Int32} {a1 : Int32} {a2 : Int32} {res : Int64} {R' : Rr} {M' : Mm} (hm : mX7_half K R M r a0 a1 a2 = some (res, R', M')) : CT l G b0 yX7_half cX7_half 5 (some .long) (rmz 7 156) [.ref r, .int a0, .int a1, .int a2] K R M (some (.long res)) K R' M' := by
  refine ct_of (by decide +kernel) (Nat.le_of_ble_eq_true rfl) (fun w hq => ?_)
  have hw := hq.b
  change w 0 0 0 [(0, .ref r), (1, .int a0), (2, .int a1), (3, .int a2)] [] K R M
  replace hm := h_start hm
  unfold mX7_half at hm
  obtain ⟨h1, m19⟩ := h_ck hm
  clear hm
  refine r_aload_n hw dX7_half_0 0 rfl ?_
  refine r_iload_n hw dX7_half_1 1 rfl ?_
  obtain ⟨i2, g2, m20⟩ := h_bd m19
  clear m19
  refine r_callV1 hw (tX7_isPiece l G b0 g2) lB_X7_isPiece lI_X7_isPiece mL_X7_186 (c := 7) rfl h1 rfl (Nat.le_of_ble_eq_true rfl) (Nat.le_of_ble_eq_true rfl) rfl (Nat.le_of_ble_eq_true rfl) dX7_half_2 ?_
  refine r_if_eq (tgt := 26) hw dX7_half_5 (by decide) (fun c3 => ?_) (fun c3 => ?_)
  · have m21 := h_if_t c3 m20
    clear m20
    refine r_ldc2 (v := (-9000000000000000001)) hw dX7_half_26 kW_X7_87 ?_
    cases h_ret m21
    exact r_lreturn hq rfl rfl dX7_half_29
  · have m22 := h_if_f c3 m20
    clear m20
    refine r_iload_n hw dX7_half_8 2 rfl ?_
    refine r_ldc (v := 200000) hw dX7_half_9 kW_X7_192 ?_
    obtain ⟨i4, g4, m23⟩ := h_bd m22
    clear m22
    refine r_callS1 hw (tX7_isWithin l G b0 g4) lB_X7_isWithin sT_X7_isWithin mL_X7_189 rfl rfl (Nat.le_of_ble_eq_true rfl) (Nat.le_of_ble_eq_true rfl) rfl (Nat.le_of_ble_eq_true rfl) dX7_half_11 ?_
    refine r_if_eq (tgt := 26) hw dX7_half_14 (by decide) (fun c5 => ?_) (fun c5 => ?_)
    · have m24 := h_if_t c5 m23
      clear m23
      refine r_ldc2 (v := (-9000000000000000001)) hw dX7_half_26 kW_X7_87 ?_
      cases h_ret m24
      exact r_lreturn hq rfl rfl dX7_half_29
    · have m25 := h_if_f c5 m23
      clear m23
      refine r_iload_n hw dX7_half_17 3 rfl ?_
      refine r_ldc (v := 200000) hw dX7_half_18 kW_X7_192 ?_
      obtain ⟨i6, g6, m26⟩ := h_bd m25
      clear m25
      refine r_callS1 hw (tX7_isWithin l G b0 g6) lB_X7_isWithin sT_X7_isWithin mL_X7_189 rfl rfl (Nat.le_of_ble_eq_true rfl) (Nat.le_of_ble_eq_true rfl) rfl (Nat.le_of_ble_eq_true rfl) dX7_half_20 ?_
      refine r_if_ne (tgt := 30) hw dX7_half_23 (by decide) (fun c7 => ?_) (fun c7 => ?_)
      · have m27 := h_if_f c7 m26
        clear m26
        refine r_aload_n hw dX7_half_30 0 rfl ?_
        obtain ⟨q8, bq8, m28⟩ := h_bd m27
        clear m27
        refine r_getR hw fO_X7_25 h1 bq8 dX7_half_31 ?_
        obtain ⟨h10, m29⟩ := h_ck m28
        clear m28
        obtain ⟨q9, g9, m30⟩ := h_bd m29
        clear m29
        refine r_callV1 hw (tX1_now l G b0 g9) lB_X1_now lI_X1_now mL_X7_145 (c := 1) rfl h10 rfl (Nat.le_of_ble_eq_true rfl) (Nat.le_of_ble_eq_true rfl) rfl (Nat.le_of_ble_eq_true rfl) dX7_half_34 ?_
        obtain ⟨h11, m31⟩ := h_ck m30
        clear m30
        obtain ⟨q12, bq12, m32⟩ := h_bd m31
        clear m31
        refine r_getR hw fO_X7_149 h11 bq12 dX7_half_37 ?_
        refine r_iload_n hw dX7_half_40 1 rfl ?_
        obtain ⟨h13, m33⟩ := h_ck m32
        clear m32
        obtain ⟨q14, bq14, m34⟩ := h_bd m33
        clear m33
        refine r_aaload hw 2 (by decide) h13 bq14 dX7_half_41 ?_
        refine r_astore hw dX7_half_42 (by decide) rfl ?_
        refine r_aload_n hw dX7_half_44 1 rfl ?_
        refine r_iload_n hw dX7_half_45 2 rfl ?_
        refine r_aload hw dX7_half_46 0 rfl ?_
        obtain ⟨h15, m35⟩ := h_ck m34
        clear m34
        refine r_getI hw fO_X7_193 h15 dX7_half_48 ?_
        refine r_ineg hw dX7_half_51 ?_
        refine r_iload_n hw dX7_half_52 3 rfl ?_
        refine r_aload hw dX7_half_53 0 rfl ?_
        refine r_getI hw fO_X7_196 h15 dX7_half_55 ?_
        refine r_isub hw dX7_half_58 ?_
        refine r_iload_n hw dX7_half_59 4 rfl ?_
        refine r_aload hw dX7_half_60 0 rfl ?_
        refine r_getI hw fO_X7_199 h15 dX7_half_62 ?_
        refine r_isub hw dX7_half_65 ?_
        obtain ⟨l16, R17, M18, g18, m36⟩ := h_bd3 m35
        clear m35
        refine r_callV1 hw (tX7_moveTo l G b0 g18) lB_X7_moveTo lI_X7_moveTo mL_X7_202 (c := 7) rfl h1 rfl (Nat.le_of_ble_eq_true rfl) (Nat.le_of_ble_eq_true rfl) rfl (Nat.le_of_ble_eq_true rfl) dX7_half_66 ?_
        cases h_ret m36
        exact r_lreturn hq rfl rfl dX7_half_69
      · have m37 := h_if_t c7 m26
        clear m26
        refine r_ldc2 (v := (-9000000000000000001)) hw dX7_half_26 kW_X7_87 ?_
        cases h_ret m37
        exact r_lreturn hq rfl rfl dX7_half_29
theorem dX7_join_0 : decode cX7_join 0 = .ok (.aload_n 0, 1) := by decide +kernel
theorem dX7_join_1 : decode cX7_join 1 = .ok (.iload_n 1, 1) := by decide +kernel
theorem dX7_join_2 : decode cX7_join 2 = .ok (.invokevirtual 186, 3) := by decide +kernel
theorem dX7_join_5 : decode cX7_join 5 = .ok (.ifCond .eq 16, 3) := by decide +kernel
theorem dX7_join_8 : decode cX7_join 8 = .ok (.aload_n 0, 1) := by decide +kernel
theorem dX7_join_9 : decode cX7_join 9 = .ok (.iload_n 2, 1) := by decide +kernel
theorem dX7_join_10 : decode cX7_join 10 = .ok (.invokevirtual 186, 3) := by decide +kernel
theorem dX7_join_13 : decode cX7_join 13 = .ok (.ifCond .eq 8, 3) := by decide +kernel
theorem dX7_join_16 : decode cX7_join 16 = .ok (.iload_n 1, 1) := by decide +kernel
theorem dX7_join_17 : decode cX7_join 17 = .ok (.iload_n 2, 1) := by decide +kernel
theorem dX7_join_18 : decode cX7_join 18 = .ok (.if_icmp .ne 7, 3) := by decide +kernel
theorem dX7_join_21 : decode cX7_join 21 = .ok (.ldc2_w 87, 3) := by decide +kernel
theorem dX7_join_24 : decode cX7_join 24 = .ok (.lreturn, 1) := by decide +kernel
theorem dX7_join_25 : decode cX7_join 25 = .ok (.aload_n 0, 1) := by decide +kernel
theorem dX7_join_26 : decode cX7_join 26 = .ok (.getfield 25, 3) := by decide +kernel
theorem dX7_join_29 : decode cX7_join 29 = .ok (.invokevirtual 145, 3) := by decide +kernel
theorem dX7_join_32 : decode cX7_join 32 = .ok (.getfield 149, 3) := by decide +kernel
theorem dX7_join_35 : decode cX7_join 35 = .ok (.iload_n 1, 1) := by decide +kernel
theorem dX7_join_36 : decode cX7_join 36 = .ok (.aaload, 1) := by decide +kernel
theorem dX7_join_37 : decode cX7_join 37 = .ok (.astore_n 3, 1) := by decide +kernel
theorem dX7_join_38 : decode cX7_join 38 = .ok (.aload_n 0, 1) := by decide +kernel
theorem dX7_join_39 : decode cX7_join 39 = .ok (.getfield 25, 3) := by decide +kernel
theorem dX7_join_42 : decode cX7_join 42 = .ok (.invokevirtual 145, 3) := by decide +kernel
theorem dX7_join_45 : decode cX7_join 45 = .ok (.getfield 149, 3) := by decide +kernel
theorem dX7_join_48 : decode cX7_join 48 = .ok (.iload_n 2, 1) := by decide +kernel
theorem dX7_join_49 : decode cX7_join 49 = .ok (.aaload, 1) := by decide +kernel
theorem dX7_join_50 : decode cX7_join 50 = .ok (.astore 4, 2) := by decide +kernel
theorem dX7_join_52 : decode cX7_join 52 = .ok (.aload_n 3, 1) := by decide +kernel
theorem dX7_join_53 : decode cX7_join 53 = .ok (.aload 4, 2) := by decide +kernel
theorem dX7_join_55 : decode cX7_join 55 = .ok (.getfield 193, 3) := by decide +kernel
theorem dX7_join_58 : decode cX7_join 58 = .ok (.aload 4, 2) := by decide +kernel
theorem dX7_join_60 : decode cX7_join 60 = .ok (.getfield 196, 3) := by decide +kernel
theorem dX7_join_63 : decode cX7_join 63 = .ok (.aload 4, 2) := by decide +kernel
theorem dX7_join_65 : decode cX7_join 65 = .ok (.getfield 199, 3) := by decide +kernel
theorem dX7_join_68 : decode cX7_join 68 = .ok (.invokevirtual 212, 3) := by decide +kernel
theorem dX7_join_71 : decode cX7_join 71 = .ok (.ifCond .eq 36, 3) := by decide +kernel
theorem dX7_join_74 : decode cX7_join 74 = .ok (.aload_n 0, 1) := by decide +kernel
theorem dX7_join_75 : decode cX7_join 75 = .ok (.getfield 68, 3) := by decide +kernel
theorem dX7_join_78 : decode cX7_join 78 = .ok (.aload_n 3, 1) := by decide +kernel
theorem dX7_join_79 : decode cX7_join 79 = .ok (.getfield 206, 3) := by decide +kernel
theorem dX7_join_82 : decode cX7_join 82 = .ok (.aload 4, 2) := by decide +kernel
theorem dX7_join_84 : decode cX7_join 84 = .ok (.getfield 206, 3) := by decide +kernel
theorem dX7_join_87 : decode cX7_join 87 = .ok (.invokevirtual 216, 3) := by decide +kernel
theorem dX7_join_90 : decode cX7_join 90 = .ok (.ifCond .eq 17, 3) := by decide +kernel
theorem dX7_join_93 : decode cX7_join 93 = .ok (.aload_n 0, 1) := by decide +kernel
theorem dX7_join_94 : decode cX7_join 94 = .ok (.getfield 71, 3) := by decide +kernel
theorem dX7_join_97 : decode cX7_join 97 = .ok (.aload_n 0, 1) := by decide +kernel
theorem dX7_join_98 : decode cX7_join 98 = .ok (.getfield 68, 3) := by decide +kernel
theorem dX7_join_101 : decode cX7_join 101 = .ok (.invokevirtual 220, 3) := by decide +kernel
theorem dX7_join_104 : decode cX7_join 104 = .ok (.ifCond .ne 7, 3) := by decide +kernel
theorem dX7_join_107 : decode cX7_join 107 = .ok (.ldc2_w 118, 3) := by decide +kernel
theorem dX7_join_110 : decode cX7_join 110 = .ok (.lreturn, 1) := by decide +kernel
theorem dX7_join_111 : decode cX7_join 111 = .ok (.aload_n 0, 1) := by decide +kernel
theorem dX7_join_112 : decode cX7_join 112 = .ok (.getfield 71, 3) := by decide +kernel
theorem dX7_join_115 : decode cX7_join 115 = .ok (.getfield 89, 3) := by decide +kernel
theorem dX7_join_118 : decode cX7_join 118 = .ok (.bipush 16, 2) := by decide +kernel
theorem dX7_join_120 : decode cX7_join 120 = .ok (.if_icmp .le 7, 3) := by decide +kernel
theorem dX7_join_123 : decode cX7_join 123 = .ok (.ldc2_w 93, 3) := by decide +kernel
theorem dX7_join_126 : decode cX7_join 126 = .ok (.lreturn, 1) := by decide +kernel
theorem dX7_join_127 : decode cX7_join 127 = .ok (.aload_n 0, 1) := by decide +kernel
theorem dX7_join_128 : decode cX7_join 128 = .ok (.getfield 25, 3) := by decide +kernel
theorem dX7_join_131 : decode cX7_join 131 = .ok (.invokevirtual 170, 3) := by decide +kernel
theorem dX7_join_134 : decode cX7_join 134 = .ok (.astore 5, 2) := by decide +kernel
theorem dX7_join_136 : decode cX7_join 136 = .ok (.aload 5, 2) := by decide +kernel
theorem dX7_join_138 : decode cX7_join 138 = .ok (.getfield 149, 3) := by decide +kernel
theorem dX7_join_141 : decode cX7_join 141 = .ok (.iload_n 1, 1) := by decide +kernel
theorem dX7_join_142 : decode cX7_join 142 = .ok (.aaload, 1) := by decide +kernel
theorem dX7_join_143 : decode cX7_join 143 = .ok (.aload_n 0, 1) := by decide +kernel
theorem dX7_join_144 : decode cX7_join 144 = .ok (.getfield 71, 3) := by decide +kernel
theorem dX7_join_147 : decode cX7_join 147 = .ok (.invokevirtual 128, 3) := by decide +kernel
theorem dX7_join_150 : decode cX7_join 150 = .ok (.aload 5, 2) := by decide +kernel
theorem dX7_join_152 : decode cX7_join 152 = .ok (.iload_n 2, 1) := by decide +kernel
theorem dX7_join_153 : decode cX7_join 153 = .ok (.invokevirtual 224, 3) := by decide +kernel
theorem dX7_join_156 : decode cX7_join 156 = .ok (.aload_n 0, 1) := by decide +kernel
theorem dX7_join_157 : decode cX7_join 157 = .ok (.getfield 25, 3) := by decide +kernel
theorem dX7_join_160 : decode cX7_join 160 = .ok (.invokevirtual 138, 3) := by decide +kernel
theorem dX7_join_163 : decode cX7_join 163 = .ok (.aload_n 0, 1) := by decide +kernel
theorem dX7_join_164 : decode cX7_join 164 = .ok (.getfield 71, 3) := by decide +kernel
theorem dX7_join_167 : decode cX7_join 167 = .ok (.getfield 89, 3) := by decide +kernel
theorem dX7_join_170 : decode cX7_join 170 = .ok (.i2l, 1) := by decide +kernel
theorem dX7_join_171 : decode cX7_join 171 = .ok (.lreturn, 1) := by decide +kernel
set_option maxHeartbeats 4000000 in
set_option maxRecDepth 100000 in
theorem tX7_join (l : Launch) (G : Gg) (b0 : Nat) {K : Kk} {R : Rr} {M : Mm} {r : Nat} {a0 : Int32} {a1 : Int32} {res : Int64} {R' : Rr} {M' : Mm} (hm : mX7_join K R M r a0 a1 = some (res, R', M')) : CT l G b0 yX7_join cX7_join 6 (some .long) (rmz 6 132) [.ref r, .int a0, .int a1] K R M (some (.long res)) K R' M' := by
  refine ct_of (by decide +kernel) (Nat.le_of_ble_eq_true rfl) (fun w hq => ?_)
  have hw := hq.b
  change w 0 0 0 [(0, .ref r), (1, .int a0), (2, .int a1)] [] K R M
  replace hm := h_start hm
  unfold mX7_join at hm
  obtain ⟨h1, m49⟩ := h_ck hm
  clear hm
  refine r_aload_n hw dX7_join_0 0 rfl ?_
  refine r_iload_n hw dX7_join_1 1 rfl ?_
  obtain ⟨i2, g2, m50⟩ := h_bd m49
  clear m49
  refine r_callV1 hw (tX7_isPiece l G b0 g2) lB_X7_isPiece lI_X7_isPiece mL_X7_186 (c := 7) rfl h1 rfl (Nat.le_of_ble_eq_true rfl) (Nat.le_of_ble_eq_true rfl) rfl (Nat.le_of_ble_eq_true rfl) dX7_join_2 ?_
  refine r_if_eq (tgt := 21) hw dX7_join_5 (by decide) (fun c3 => ?_) (fun c3 => ?_)
  · have m51 := h_if_t c3 m50
    clear m50
    refine r_ldc2 (v := (-9000000000000000001)) hw dX7_join_21 kW_X7_87 ?_
    cases h_ret m51
    exact r_lreturn hq rfl rfl dX7_join_24
  · have m52 := h_if_f c3 m50
    clear m50
    refine r_aload_n hw dX7_join_8 0 rfl ?_
    refine r_iload_n hw dX7_join_9 2 rfl ?_
    obtain ⟨i4, g4, m53⟩ := h_bd m52
    clear m52
    refine r_callV1 hw (tX7_isPiece l G b0 g4) lB_X7_isPiece lI_X7_isPiece mL_X7_186 (c := 7) rfl h1 rfl (Nat.le_of_ble_eq_true rfl) (Nat.le_of_ble_eq_true rfl) rfl (Nat.le_of_ble_eq_true rfl) dX7_join_10 ?_
    refine r_if_eq (tgt := 21) hw dX7_join_13 (by decide) (fun c5 => ?_) (fun c5 => ?_)
    · have m54 := h_if_t c5 m53
      clear m53
      refine r_ldc2 (v := (-9000000000000000001)) hw dX7_join_21 kW_X7_87 ?_
      cases h_ret m54
      exact r_lreturn hq rfl rfl dX7_join_24
    · have m55 := h_if_f c5 m53
      clear m53
      refine r_iload_n hw dX7_join_16 1 rfl ?_
      refine r_iload_n hw dX7_join_17 2 rfl ?_
      refine r_icmp_ne (tgt := 25) hw dX7_join_18 (by decide) (fun c6 => ?_) (fun c6 => ?_)
      · have m56 := h_if_f c6 m55
        clear m55
        refine r_aload_n hw dX7_join_25 0 rfl ?_
        obtain ⟨q7, bq7, m57⟩ := h_bd m56
        clear m56
        refine r_getR hw fO_X7_25 h1 bq7 dX7_join_26 ?_
        obtain ⟨h9, m58⟩ := h_ck m57
        clear m57
        obtain ⟨q8, g8, m59⟩ := h_bd m58
        clear m58
        refine r_callV1 hw (tX1_now l G b0 g8) lB_X1_now lI_X1_now mL_X7_145 (c := 1) rfl h9 rfl (Nat.le_of_ble_eq_true rfl) (Nat.le_of_ble_eq_true rfl) rfl (Nat.le_of_ble_eq_true rfl) dX7_join_29 ?_
        obtain ⟨h10, m60⟩ := h_ck m59
        clear m59
        obtain ⟨q11, bq11, m61⟩ := h_bd m60
        clear m60
        refine r_getR hw fO_X7_149 h10 bq11 dX7_join_32 ?_
        refine r_iload_n hw dX7_join_35 1 rfl ?_
        obtain ⟨h12, m62⟩ := h_ck m61
        clear m61
        obtain ⟨q13, bq13, m63⟩ := h_bd m62
        clear m62
        refine r_aaload hw 2 (by decide) h12 bq13 dX7_join_36 ?_
        refine r_astore_n hw dX7_join_37 rfl (by decide) rfl ?_
        refine r_aload_n hw dX7_join_38 1 rfl ?_
        refine r_getR hw fO_X7_25 h1 bq7 dX7_join_39 ?_
        obtain ⟨q14, g14, m64⟩ := h_bd m63
        clear m63
        refine r_callV1 hw (tX1_now l G b0 g14) lB_X1_now lI_X1_now mL_X7_145 (c := 1) rfl h9 rfl (Nat.le_of_ble_eq_true rfl) (Nat.le_of_ble_eq_true rfl) rfl (Nat.le_of_ble_eq_true rfl) dX7_join_42 ?_
        obtain ⟨h15, m65⟩ := h_ck m64
        clear m64
        obtain ⟨q16, bq16, m66⟩ := h_bd m65
        clear m65
        refine r_getR hw fO_X7_149 h15 bq16 dX7_join_45 ?_
        refine r_iload_n hw dX7_join_48 3 rfl ?_
        obtain ⟨h17, m67⟩ := h_ck m66
        clear m66
        obtain ⟨q18, bq18, m68⟩ := h_bd m67
        clear m67
        refine r_aaload hw 2 (by decide) h17 bq18 dX7_join_49 ?_
        refine r_astore hw dX7_join_50 (by decide) rfl ?_
        refine r_aload_n hw dX7_join_52 1 rfl ?_
        refine r_aload hw dX7_join_53 0 rfl ?_
        obtain ⟨h19, m69⟩ := h_ck m68
        clear m68
        refine r_getI hw fO_X7_193 h19 dX7_join_55 ?_
        refine r_aload hw dX7_join_58 0 rfl ?_
        refine r_getI hw fO_X7_196 h19 dX7_join_60 ?_
        refine r_aload hw dX7_join_63 0 rfl ?_
        refine r_getI hw fO_X7_199 h19 dX7_join_65 ?_
        obtain ⟨h21, m70⟩ := h_ck m69
        clear m69
        obtain ⟨i20, g20, m71⟩ := h_bd m70
        clear m70
        refine r_callV1 hw (tX3_hasMove l G b0 g20) lB_X3_hasMove lI_X3_hasMove mL_X7_212 (c := 3) rfl h21 rfl (Nat.le_of_ble_eq_true rfl) (Nat.le_of_ble_eq_true rfl) rfl (Nat.le_of_ble_eq_true rfl) dX7_join_68 ?_
        refine r_if_eq (tgt := 107) hw dX7_join_71 (by decide) (fun c22 => ?_) (fun c22 => ?_)
        · have m72 := h_if_t c22 m71
          clear m71
          refine r_ldc2 (v := (-9000000000000000002)) hw dX7_join_107 kW_X7_118 ?_
          cases h_ret m72
          exact r_lreturn hq rfl rfl dX7_join_110
        · have m73 := h_if_f c22 m71
          clear m71
          refine r_aload_n hw dX7_join_74 2 rfl ?_
          obtain ⟨q23, bq23, m74⟩ := h_bd m73
          clear m73
          refine r_getR hw fO_X7_68 h1 bq23 dX7_join_75 ?_
          refine r_aload_n hw dX7_join_78 1 rfl ?_
          obtain ⟨q24, bq24, m75⟩ := h_bd m74
          clear m74
          refine r_getR hw fO_X7_206 h21 bq24 dX7_join_79 ?_
          refine r_aload hw dX7_join_82 0 rfl ?_
          obtain ⟨q25, bq25, m76⟩ := h_bd m75
          clear m75
          refine r_getR hw fO_X7_206 h19 bq25 dX7_join_84 ?_
          obtain ⟨h28, m77⟩ := h_ck m76
          clear m76
          obtain ⟨i26, M27, g27, m78⟩ := h_bd2 m77
          clear m77
          refine r_callV1 hw (tX5_takeJoined l G b0 g27) lB_X5_takeJoined lI_X5_takeJoined mL_X7_216 (c := 5) rfl h28 rfl (Nat.le_of_ble_eq_true rfl) (Nat.le_of_ble_eq_true rfl) rfl (Nat.le_of_ble_eq_true rfl) dX7_join_87 ?_
          refine r_if_eq (tgt := 107) hw dX7_join_90 (by decide) (fun c29 => ?_) (fun c29 => ?_)
          · have m79 := h_if_t c29 m78
            clear m78
            refine r_ldc2 (v := (-9000000000000000002)) hw dX7_join_107 kW_X7_118 ?_
            cases h_ret m79
            exact r_lreturn hq rfl rfl dX7_join_110
          · have m80 := h_if_f c29 m78
            clear m78
            refine r_aload_n hw dX7_join_93 2 rfl ?_
            obtain ⟨q30, bq30, m81⟩ := h_bd m80
            clear m80
            refine r_getR hw fO_X7_71 h1 bq30 dX7_join_94 ?_
            refine r_aload_n hw dX7_join_97 2 rfl ?_
            refine r_getR hw fO_X7_68 h1 bq23 dX7_join_98 ?_
            obtain ⟨h33, m82⟩ := h_ck m81
            clear m81
            obtain ⟨i31, M32, g32, m83⟩ := h_bd2 m82
            clear m82
            refine r_callV1 hw (tX5_takeUnbent l G b0 g32) lB_X5_takeUnbent lI_X5_takeUnbent mL_X7_220 (c := 5) rfl h33 rfl (Nat.le_of_ble_eq_true rfl) (Nat.le_of_ble_eq_true rfl) rfl (Nat.le_of_ble_eq_true rfl) dX7_join_101 ?_
            refine r_if_ne (tgt := 111) hw dX7_join_104 (by decide) (fun c34 => ?_) (fun c34 => ?_)
            · have m84 := h_if_f c34 m83
              clear m83
              refine r_aload_n hw dX7_join_111 2 rfl ?_
              refine r_getR hw fO_X7_71 h1 bq30 dX7_join_112 ?_
              refine r_getI hw fO_X7_89 h33 dX7_join_115 ?_
              refine r_bipush (v := 16) hw dX7_join_118 rfl ?_
              refine r_icmp_le (tgt := 127) hw dX7_join_120 (by decide) (fun c35 => ?_) (fun c35 => ?_)
              · have m85 := h_if_t c35 m84
                clear m84
                refine r_aload_n hw dX7_join_127 2 rfl ?_
                refine r_getR hw fO_X7_25 h1 bq7 dX7_join_128 ?_
                obtain ⟨q36, M37, g37, m86⟩ := h_bd2 m85
                clear m85
                refine r_callV1 hw (tX1_draft l G b0 g37) lB_X1_draft lI_X1_draft mL_X7_170 (c := 1) rfl h9 rfl (Nat.le_of_ble_eq_true rfl) (Nat.le_of_ble_eq_true rfl) rfl (Nat.le_of_ble_eq_true rfl) dX7_join_131 ?_
                refine r_astore hw dX7_join_134 (by decide) rfl ?_
                refine r_aload hw dX7_join_136 0 rfl ?_
                obtain ⟨h38, m87⟩ := h_ck m86
                clear m86
                obtain ⟨q39, bq39, m88⟩ := h_bd m87
                clear m87
                refine r_getR hw fO_X7_149 h38 bq39 dX7_join_138 ?_
                refine r_iload_n hw dX7_join_141 4 rfl ?_
                obtain ⟨h40, m89⟩ := h_ck m88
                clear m88
                obtain ⟨q41, bq41, m90⟩ := h_bd m89
                clear m89
                refine r_aaload hw 2 (by decide) h40 bq41 dX7_join_142 ?_
                refine r_aload_n hw dX7_join_143 3 rfl ?_
                refine r_getR hw fO_X7_71 h1 bq30 dX7_join_144 ?_
                obtain ⟨h43, m91⟩ := h_ck m90
                clear m90
                obtain ⟨M42, g42, m92⟩ := h_bd m91
                clear m91
                refine r_callV0 hw (tX3_setOrigin l G b0 g42) lB_X3_setOrigin lI_X3_setOrigin mL_X7_128 (c := 3) rfl h43 rfl (Nat.le_of_ble_eq_true rfl) (Nat.le_of_ble_eq_true rfl) rfl (Nat.le_of_ble_eq_true rfl) dX7_join_147 ?_
                refine r_aload hw dX7_join_150 0 rfl ?_
                refine r_iload_n hw dX7_join_152 5 rfl ?_
                obtain ⟨M44, g44, m93⟩ := h_bd m92
                clear m92
                refine r_callV0 hw (tX4_remove l G b0 g44) lB_X4_remove lI_X4_remove mL_X7_224 (c := 4) rfl h38 rfl (Nat.le_of_ble_eq_true rfl) (Nat.le_of_ble_eq_true rfl) rfl (Nat.le_of_ble_eq_true rfl) dX7_join_153 ?_
                refine r_aload_n hw dX7_join_156 3 rfl ?_
                refine r_getR hw fO_X7_25 h1 bq7 dX7_join_157 ?_
                obtain ⟨R45, M46, g46, m94⟩ := h_bd2 m93
                clear m93
                refine r_callV0 hw (tX1_keepDraft l G b0 g46) lB_X1_keepDraft lI_X1_keepDraft mL_X7_138 (c := 1) rfl h9 rfl (Nat.le_of_ble_eq_true rfl) (Nat.le_of_ble_eq_true rfl) rfl (Nat.le_of_ble_eq_true rfl) dX7_join_160 ?_
                refine r_aload_n hw dX7_join_163 3 rfl ?_
                obtain ⟨q47, bq47, m95⟩ := h_bd m94
                clear m94
                refine r_getR hw fO_X7_71 h1 bq47 dX7_join_164 ?_
                obtain ⟨h48, m96⟩ := h_ck m95
                clear m95
                refine r_getI hw fO_X7_89 h48 dX7_join_167 ?_
                refine r_i2l hw dX7_join_170 ?_
                cases h_ret m96
                exact r_lreturn hq rfl rfl dX7_join_171
              · have m97 := h_if_f c35 m84
                clear m84
                refine r_ldc2 (v := (-9000000000000000003)) hw dX7_join_123 kW_X7_93 ?_
                cases h_ret m97
                exact r_lreturn hq rfl rfl dX7_join_126
            · have m98 := h_if_t c34 m83
              clear m83
              refine r_ldc2 (v := (-9000000000000000002)) hw dX7_join_107 kW_X7_118 ?_
              cases h_ret m98
              exact r_lreturn hq rfl rfl dX7_join_110
      · have m99 := h_if_t c6 m55
        clear m55
        refine r_ldc2 (v := (-9000000000000000001)) hw dX7_join_21 kW_X7_87 ?_
        cases h_ret m99
        exact r_lreturn hq rfl rfl dX7_join_24
theorem dX7_aside_0 : decode cX7_aside 0 = .ok (.aload_n 0, 1) := by decide +kernel
theorem dX7_aside_1 : decode cX7_aside 1 = .ok (.iload_n 1, 1) := by decide +kernel
theorem dX7_aside_2 : decode cX7_aside 2 = .ok (.invokevirtual 186, 3) := by decide +kernel
theorem dX7_aside_5 : decode cX7_aside 5 = .ok (.ifCond .eq 12, 3) := by decide +kernel
theorem dX7_aside_8 : decode cX7_aside 8 = .ok (.iload_n 2, 1) := by decide +kernel
theorem dX7_aside_9 : decode cX7_aside 9 = .ok (.ifCond .lt 8, 3) := by decide +kernel
theorem dX7_aside_12 : decode cX7_aside 12 = .ok (.iload_n 2, 1) := by decide +kernel
theorem dX7_aside_13 : decode cX7_aside 13 = .ok (.iconst 1, 1) := by decide +kernel
theorem dX7_aside_14 : decode cX7_aside 14 = .ok (.if_icmp .le 7, 3) := by decide +kernel
theorem dX7_aside_17 : decode cX7_aside 17 = .ok (.ldc2_w 87, 3) := by decide +kernel
theorem dX7_aside_20 : decode cX7_aside 20 = .ok (.lreturn, 1) := by decide +kernel
theorem dX7_aside_21 : decode cX7_aside 21 = .ok (.aload_n 0, 1) := by decide +kernel
theorem dX7_aside_22 : decode cX7_aside 22 = .ok (.getfield 25, 3) := by decide +kernel
theorem dX7_aside_25 : decode cX7_aside 25 = .ok (.invokevirtual 145, 3) := by decide +kernel
theorem dX7_aside_28 : decode cX7_aside 28 = .ok (.getfield 149, 3) := by decide +kernel
theorem dX7_aside_31 : decode cX7_aside 31 = .ok (.iload_n 1, 1) := by decide +kernel
theorem dX7_aside_32 : decode cX7_aside 32 = .ok (.aaload, 1) := by decide +kernel
theorem dX7_aside_33 : decode cX7_aside 33 = .ok (.astore_n 3, 1) := by decide +kernel
theorem dX7_aside_34 : decode cX7_aside 34 = .ok (.iload_n 2, 1) := by decide +kernel
theorem dX7_aside_35 : decode cX7_aside 35 = .ok (.iconst 1, 1) := by decide +kernel
theorem dX7_aside_36 : decode cX7_aside 36 = .ok (.if_icmp .ne 14, 3) := by decide +kernel
theorem dX7_aside_39 : decode cX7_aside 39 = .ok (.aload_n 3, 1) := by decide +kernel
theorem dX7_aside_40 : decode cX7_aside 40 = .ok (.invokevirtual 227, 3) := by decide +kernel
theorem dX7_aside_43 : decode cX7_aside 43 = .ok (.ifCond .ne 7, 3) := by decide +kernel
theorem dX7_aside_46 : decode cX7_aside 46 = .ok (.ldc2_w 118, 3) := by decide +kernel
theorem dX7_aside_49 : decode cX7_aside 49 = .ok (.lreturn, 1) := by decide +kernel
theorem dX7_aside_50 : decode cX7_aside 50 = .ok (.aload_n 3, 1) := by decide +kernel
theorem dX7_aside_51 : decode cX7_aside 51 = .ok (.getfield 230, 3) := by decide +kernel
theorem dX7_aside_54 : decode cX7_aside 54 = .ok (.ifCond .eq 7, 3) := by decide +kernel
theorem dX7_aside_57 : decode cX7_aside 57 = .ok (.lconst 1, 1) := by decide +kernel
theorem dX7_aside_58 : decode cX7_aside 58 = .ok (.goto 4, 3) := by decide +kernel
theorem dX7_aside_61 : decode cX7_aside 61 = .ok (.lconst 0, 1) := by decide +kernel
theorem dX7_aside_62 : decode cX7_aside 62 = .ok (.lstore 4, 2) := by decide +kernel
theorem dX7_aside_64 : decode cX7_aside 64 = .ok (.aload_n 0, 1) := by decide +kernel
theorem dX7_aside_65 : decode cX7_aside 65 = .ok (.getfield 25, 3) := by decide +kernel
theorem dX7_aside_68 : decode cX7_aside 68 = .ok (.invokevirtual 170, 3) := by decide +kernel
theorem dX7_aside_71 : decode cX7_aside 71 = .ok (.getfield 149, 3) := by decide +kernel
theorem dX7_aside_74 : decode cX7_aside 74 = .ok (.iload_n 1, 1) := by decide +kernel
theorem dX7_aside_75 : decode cX7_aside 75 = .ok (.aaload, 1) := by decide +kernel
theorem dX7_aside_76 : decode cX7_aside 76 = .ok (.iload_n 2, 1) := by decide +kernel
theorem dX7_aside_77 : decode cX7_aside 77 = .ok (.iconst 1, 1) := by decide +kernel
theorem dX7_aside_78 : decode cX7_aside 78 = .ok (.if_icmp .ne 7, 3) := by decide +kernel
theorem dX7_aside_81 : decode cX7_aside 81 = .ok (.iconst 1, 1) := by decide +kernel
theorem dX7_aside_82 : decode cX7_aside 82 = .ok (.goto 4, 3) := by decide +kernel
theorem dX7_aside_85 : decode cX7_aside 85 = .ok (.iconst 0, 1) := by decide +kernel
theorem dX7_aside_86 : decode cX7_aside 86 = .ok (.putfield 230, 3) := by decide +kernel
theorem dX7_aside_89 : decode cX7_aside 89 = .ok (.aload_n 0, 1) := by decide +kernel
theorem dX7_aside_90 : decode cX7_aside 90 = .ok (.getfield 25, 3) := by decide +kernel
theorem dX7_aside_93 : decode cX7_aside 93 = .ok (.invokevirtual 138, 3) := by decide +kernel
theorem dX7_aside_96 : decode cX7_aside 96 = .ok (.lload 4, 2) := by decide +kernel
theorem dX7_aside_98 : decode cX7_aside 98 = .ok (.lreturn, 1) := by decide +kernel
set_option maxHeartbeats 4000000 in
set_option maxRecDepth 100000 in
theorem tX7_aside (l : Launch) (G : Gg) (b0 : Nat) {K : Kk} {R : Rr} {M : Mm} {r : Nat} {a0 : Int32} {a1 : Int32} {res : Int64} {R' : Rr} {M' : Mm} (hm : mX7_aside K R M r a0 a1 = some (res, R', M')) : CT l G b0 yX7_aside cX7_aside 6 (some .long) (rmz 6 132) [.ref r, .int a0, .int a1] K R M (some (.long res)) K R' M' := by
  refine ct_of (by decide +kernel) (Nat.le_of_ble_eq_true rfl) (fun w hq => ?_)
  have hw := hq.b
  change w 0 0 0 [(0, .ref r), (1, .int a0), (2, .int a1)] [] K R M
  replace hm := h_start hm
  unfold mX7_aside at hm
  obtain ⟨h1, m46⟩ := h_ck hm
  clear hm
  have J86 : ∀ (R5 : Rr) (M6 : Mm) (l2 : Int64) (s3 : Nat) (s4 : Int32), (mX7_aside_J86 K R5 M6 r l2 s3 s4).bind some = some (res, R', M') → w 0 0 86 [(0, .ref r), (4, .long l2)] [.int s4, .ref s3] K R5 M6 := by
    intro R5 M6 l2 s3 s4 m47
    unfold mX7_aside_J86 at m47
    obtain ⟨h7, m48⟩ := h_ck m47
    clear m47
    obtain ⟨h8, m49⟩ := h_ck m48
    clear m48
    obtain ⟨M9, eM9, m50⟩ := h_nm m49
    clear m49
    refine r_putZ hw fP_X7_230 h7 h8 dX7_aside_86 (r_mem ?_ rfl eM9)
    refine r_aload_n hw dX7_aside_89 0 rfl ?_
    obtain ⟨q10, bq10, m51⟩ := h_bd m50
    clear m50
    refine r_getR hw fO_X7_25 h1 bq10 dX7_aside_90 ?_
    obtain ⟨h13, m52⟩ := h_ck m51
    clear m51
    obtain ⟨R11, M12, g12, m53⟩ := h_bd2 m52
    clear m52
    refine r_callV0 hw (tX1_keepDraft l G b0 g12) lB_X1_keepDraft lI_X1_keepDraft mL_X7_138 (c := 1) rfl h13 rfl (Nat.le_of_ble_eq_true rfl) (Nat.le_of_ble_eq_true rfl) rfl (Nat.le_of_ble_eq_true rfl) dX7_aside_93 ?_
    refine r_lload hw dX7_aside_96 1 rfl ?_
    cases h_ret m53
    exact r_lreturn hq rfl rfl dX7_aside_98
  have J62 : ∀ (R15 : Rr) (M16 : Mm) (s14 : Int64), (mX7_aside_J62 K R15 M16 r a0 a1 s14).bind some = some (res, R', M') → w 0 0 62 [(0, .ref r), (1, .int a0), (2, .int a1)] [.long s14] K R15 M16 := by
    intro R15 M16 s14 m54
    unfold mX7_aside_J62 at m54
    refine r_lstore hw dX7_aside_62 (by decide) rfl ?_
    refine r_aload_n hw dX7_aside_64 1 rfl ?_
    obtain ⟨q17, bq17, m55⟩ := h_bd m54
    clear m54
    refine r_getR hw fO_X7_25 h1 bq17 dX7_aside_65 ?_
    obtain ⟨h20, m56⟩ := h_ck m55
    clear m55
    obtain ⟨q18, M19, g19, m57⟩ := h_bd2 m56
    clear m56
    refine r_callV1 hw (tX1_draft l G b0 g19) lB_X1_draft lI_X1_draft mL_X7_170 (c := 1) rfl h20 rfl (Nat.le_of_ble_eq_true rfl) (Nat.le_of_ble_eq_true rfl) rfl (Nat.le_of_ble_eq_true rfl) dX7_aside_68 ?_
    obtain ⟨h21, m58⟩ := h_ck m57
    clear m57
    obtain ⟨q22, bq22, m59⟩ := h_bd m58
    clear m58
    refine r_getR hw fO_X7_149 h21 bq22 dX7_aside_71 ?_
    refine r_iload_n hw dX7_aside_74 2 rfl ?_
    obtain ⟨h23, m60⟩ := h_ck m59
    clear m59
    obtain ⟨q24, bq24, m61⟩ := h_bd m60
    clear m60
    refine r_aaload hw 2 (by decide) h23 bq24 dX7_aside_75 ?_
    refine r_iload_n hw dX7_aside_76 3 rfl ?_
    refine r_iconst (v := 1) hw dX7_aside_77 rfl ?_
    refine r_icmp_ne (tgt := 85) hw dX7_aside_78 (by decide) (fun c25 => ?_) (fun c25 => ?_)
    · have m62 := h_if_f c25 m61
      clear m61
      refine r_iconst (v := 0) hw dX7_aside_85 rfl ?_
      refine r_sub hw [1, 0] rfl ?_
      exact J86 _ _ _ _ _ m62
    · have m63 := h_if_t c25 m61
      clear m61
      refine r_iconst (v := 1) hw dX7_aside_81 rfl ?_
      refine r_goto (tgt := 86) hw dX7_aside_82 (by decide) ?_
      refine r_sub hw [1, 0] rfl ?_
      exact J86 _ _ _ _ _ m63
  have J50 : ∀ (R27 : Rr) (M28 : Mm) (q26 : Nat), (mX7_aside_J50 K R27 M28 r a0 a1 q26).bind some = some (res, R', M') → w 0 0 50 [(0, .ref r), (1, .int a0), (2, .int a1), (3, .ref q26)] [] K R27 M28 := by
    intro R27 M28 q26 m64
    unfold mX7_aside_J50 at m64
    refine r_aload_n hw dX7_aside_50 3 rfl ?_
    obtain ⟨h29, m65⟩ := h_ck m64
    clear m64
    refine r_getI hw fO_X7_230 h29 dX7_aside_51 ?_
    refine r_if_eq (tgt := 61) hw dX7_aside_54 (by decide) (fun c30 => ?_) (fun c30 => ?_)
    · have m66 := h_if_t c30 m65
      clear m65
      refine r_lconst (v := 0) hw dX7_aside_61 rfl ?_
      refine r_sub hw [0, 1, 2] rfl ?_
      exact J62 _ _ _ m66
    · have m67 := h_if_f c30 m65
      clear m65
      refine r_lconst (v := 1) hw dX7_aside_57 rfl ?_
      refine r_goto (tgt := 62) hw dX7_aside_58 (by decide) ?_
      refine r_sub hw [0, 1, 2] rfl ?_
      exact J62 _ _ _ m67
  refine r_aload_n hw dX7_aside_0 0 rfl ?_
  refine r_iload_n hw dX7_aside_1 1 rfl ?_
  obtain ⟨i31, g31, m68⟩ := h_bd m46
  clear m46
  refine r_callV1 hw (tX7_isPiece l G b0 g31) lB_X7_isPiece lI_X7_isPiece mL_X7_186 (c := 7) rfl h1 rfl (Nat.le_of_ble_eq_true rfl) (Nat.le_of_ble_eq_true rfl) rfl (Nat.le_of_ble_eq_true rfl) dX7_aside_2 ?_
  refine r_if_eq (tgt := 17) hw dX7_aside_5 (by decide) (fun c32 => ?_) (fun c32 => ?_)
  · have m69 := h_if_t c32 m68
    clear m68
    refine r_ldc2 (v := (-9000000000000000001)) hw dX7_aside_17 kW_X7_87 ?_
    cases h_ret m69
    exact r_lreturn hq rfl rfl dX7_aside_20
  · have m70 := h_if_f c32 m68
    clear m68
    refine r_iload_n hw dX7_aside_8 2 rfl ?_
    refine r_if_lt (tgt := 17) hw dX7_aside_9 (by decide) (fun c33 => ?_) (fun c33 => ?_)
    · have m71 := h_if_t c33 m70
      clear m70
      refine r_ldc2 (v := (-9000000000000000001)) hw dX7_aside_17 kW_X7_87 ?_
      cases h_ret m71
      exact r_lreturn hq rfl rfl dX7_aside_20
    · have m72 := h_if_f c33 m70
      clear m70
      refine r_iload_n hw dX7_aside_12 2 rfl ?_
      refine r_iconst (v := 1) hw dX7_aside_13 rfl ?_
      refine r_icmp_le (tgt := 21) hw dX7_aside_14 (by decide) (fun c34 => ?_) (fun c34 => ?_)
      · have m73 := h_if_t c34 m72
        clear m72
        refine r_aload_n hw dX7_aside_21 0 rfl ?_
        obtain ⟨q35, bq35, m74⟩ := h_bd m73
        clear m73
        refine r_getR hw fO_X7_25 h1 bq35 dX7_aside_22 ?_
        obtain ⟨h37, m75⟩ := h_ck m74
        clear m74
        obtain ⟨q36, g36, m76⟩ := h_bd m75
        clear m75
        refine r_callV1 hw (tX1_now l G b0 g36) lB_X1_now lI_X1_now mL_X7_145 (c := 1) rfl h37 rfl (Nat.le_of_ble_eq_true rfl) (Nat.le_of_ble_eq_true rfl) rfl (Nat.le_of_ble_eq_true rfl) dX7_aside_25 ?_
        obtain ⟨h38, m77⟩ := h_ck m76
        clear m76
        obtain ⟨q39, bq39, m78⟩ := h_bd m77
        clear m77
        refine r_getR hw fO_X7_149 h38 bq39 dX7_aside_28 ?_
        refine r_iload_n hw dX7_aside_31 1 rfl ?_
        obtain ⟨h40, m79⟩ := h_ck m78
        clear m78
        obtain ⟨q41, bq41, m80⟩ := h_bd m79
        clear m79
        refine r_aaload hw 2 (by decide) h40 bq41 dX7_aside_32 ?_
        refine r_astore_n hw dX7_aside_33 rfl (by decide) rfl ?_
        refine r_iload_n hw dX7_aside_34 3 rfl ?_
        refine r_iconst (v := 1) hw dX7_aside_35 rfl ?_
        refine r_icmp_ne (tgt := 50) hw dX7_aside_36 (by decide) (fun c42 => ?_) (fun c42 => ?_)
        · have m81 := h_if_f c42 m80
          clear m80
          refine r_sub hw [1, 2, 3, 0] rfl ?_
          exact J50 _ _ _ m81
        · have m82 := h_if_t c42 m80
          clear m80
          refine r_aload_n hw dX7_aside_39 0 rfl ?_
          obtain ⟨h44, m83⟩ := h_ck m82
          clear m82
          obtain ⟨i43, g43, m84⟩ := h_bd m83
          clear m83
          refine r_callV1 hw (tX3_isTriangle l G b0 g43) lB_X3_isTriangle lI_X3_isTriangle mL_X7_227 (c := 3) rfl h44 rfl (Nat.le_of_ble_eq_true rfl) (Nat.le_of_ble_eq_true rfl) rfl (Nat.le_of_ble_eq_true rfl) dX7_aside_40 ?_
          refine r_if_ne (tgt := 50) hw dX7_aside_43 (by decide) (fun c45 => ?_) (fun c45 => ?_)
          · have m85 := h_if_f c45 m84
            clear m84
            refine r_sub hw [1, 2, 3, 0] rfl ?_
            exact J50 _ _ _ m85
          · have m86 := h_if_t c45 m84
            clear m84
            refine r_ldc2 (v := (-9000000000000000002)) hw dX7_aside_46 kW_X7_118 ?_
            cases h_ret m86
            exact r_lreturn hq rfl rfl dX7_aside_49
      · have m87 := h_if_f c34 m72
        clear m72
        refine r_ldc2 (v := (-9000000000000000001)) hw dX7_aside_17 kW_X7_87 ?_
        cases h_ret m87
        exact r_lreturn hq rfl rfl dX7_aside_20
theorem dX7_back_0 : decode cX7_back 0 = .ok (.aload_n 0, 1) := by decide +kernel
theorem dX7_back_1 : decode cX7_back 1 = .ok (.getfield 25, 3) := by decide +kernel
theorem dX7_back_4 : decode cX7_back 4 = .ok (.invokevirtual 170, 3) := by decide +kernel
theorem dX7_back_7 : decode cX7_back 7 = .ok (.astore_n 1, 1) := by decide +kernel
theorem dX7_back_8 : decode cX7_back 8 = .ok (.lconst 0, 1) := by decide +kernel
theorem dX7_back_9 : decode cX7_back 9 = .ok (.lstore_n 2, 1) := by decide +kernel
theorem dX7_back_10 : decode cX7_back 10 = .ok (.iconst 0, 1) := by decide +kernel
theorem dX7_back_11 : decode cX7_back 11 = .ok (.istore 4, 2) := by decide +kernel
theorem dX7_back_13 : decode cX7_back 13 = .ok (.iload 4, 2) := by decide +kernel
theorem dX7_back_15 : decode cX7_back 15 = .ok (.aload_n 1, 1) := by decide +kernel
theorem dX7_back_16 : decode cX7_back 16 = .ok (.getfield 148, 3) := by decide +kernel
theorem dX7_back_19 : decode cX7_back 19 = .ok (.if_icmp .ge 42, 3) := by decide +kernel
theorem dX7_back_22 : decode cX7_back 22 = .ok (.aload_n 1, 1) := by decide +kernel
theorem dX7_back_23 : decode cX7_back 23 = .ok (.getfield 149, 3) := by decide +kernel
theorem dX7_back_26 : decode cX7_back 26 = .ok (.iload 4, 2) := by decide +kernel
theorem dX7_back_28 : decode cX7_back 28 = .ok (.aaload, 1) := by decide +kernel
theorem dX7_back_29 : decode cX7_back 29 = .ok (.iconst 1, 1) := by decide +kernel
theorem dX7_back_30 : decode cX7_back 30 = .ok (.iconst 0, 1) := by decide +kernel
theorem dX7_back_31 : decode cX7_back 31 = .ok (.iconst 0, 1) := by decide +kernel
theorem dX7_back_32 : decode cX7_back 32 = .ok (.invokevirtual 212, 3) := by decide +kernel
theorem dX7_back_35 : decode cX7_back 35 = .ok (.ifCond .ne 7, 3) := by decide +kernel
theorem dX7_back_38 : decode cX7_back 38 = .ok (.lload_n 2, 1) := by decide +kernel
theorem dX7_back_39 : decode cX7_back 39 = .ok (.lconst 1, 1) := by decide +kernel
theorem dX7_back_40 : decode cX7_back 40 = .ok (.ladd, 1) := by decide +kernel
theorem dX7_back_41 : decode cX7_back 41 = .ok (.lstore_n 2, 1) := by decide +kernel
theorem dX7_back_42 : decode cX7_back 42 = .ok (.aload_n 1, 1) := by decide +kernel
theorem dX7_back_43 : decode cX7_back 43 = .ok (.getfield 149, 3) := by decide +kernel
theorem dX7_back_46 : decode cX7_back 46 = .ok (.iload 4, 2) := by decide +kernel
theorem dX7_back_48 : decode cX7_back 48 = .ok (.aaload, 1) := by decide +kernel
theorem dX7_back_49 : decode cX7_back 49 = .ok (.iconst 1, 1) := by decide +kernel
theorem dX7_back_50 : decode cX7_back 50 = .ok (.iconst 0, 1) := by decide +kernel
theorem dX7_back_51 : decode cX7_back 51 = .ok (.iconst 0, 1) := by decide +kernel
theorem dX7_back_52 : decode cX7_back 52 = .ok (.invokevirtual 124, 3) := by decide +kernel
theorem dX7_back_55 : decode cX7_back 55 = .ok (.iinc 4 1, 3) := by decide +kernel
theorem dX7_back_58 : decode cX7_back 58 = .ok (.goto (-45), 3) := by decide +kernel
theorem dX7_back_61 : decode cX7_back 61 = .ok (.aload_n 0, 1) := by decide +kernel
theorem dX7_back_62 : decode cX7_back 62 = .ok (.getfield 25, 3) := by decide +kernel
theorem dX7_back_65 : decode cX7_back 65 = .ok (.invokevirtual 138, 3) := by decide +kernel
theorem dX7_back_68 : decode cX7_back 68 = .ok (.lload_n 2, 1) := by decide +kernel
theorem dX7_back_69 : decode cX7_back 69 = .ok (.lreturn, 1) := by decide +kernel
set_option maxHeartbeats 4000000 in
set_option maxRecDepth 100000 in
theorem tX7_back (l : Launch) (G : Gg) (b0 : Nat) {K : Kk} {R : Rr} {M : Mm} {r : Nat} {res : Int64} {R' : Rr} {M' : Mm} (hm : mX7_back K R M r = some (res, R', M')) : CT l G b0 yX7_back cX7_back 5 (some .long) (rmz 6 132) [.ref r] K R M (some (.long res)) K R' M' := by
  refine ct_of (by decide +kernel) (Nat.le_of_ble_eq_true rfl) (fun w hq => ?_)
  have hw := hq.b
  change w 0 0 0 [(0, .ref r)] [] K R M
  replace hm := h_start hm
  unfold mX7_back at hm
  obtain ⟨h1, m34⟩ := h_ck hm
  clear hm
  refine r_aload_n hw dX7_back_0 0 rfl ?_
  obtain ⟨q2, bq2, m35⟩ := h_bd m34
  clear m34
  refine r_getR hw fO_X7_25 h1 bq2 dX7_back_1 ?_
  obtain ⟨h5, m36⟩ := h_ck m35
  clear m35
  obtain ⟨q3, M4, g4, m37⟩ := h_bd2 m36
  clear m36
  refine r_callV1 hw (tX1_draft l G b0 g4) lB_X1_draft lI_X1_draft mL_X7_170 (c := 1) rfl h5 rfl (Nat.le_of_ble_eq_true rfl) (Nat.le_of_ble_eq_true rfl) rfl (Nat.le_of_ble_eq_true rfl) dX7_back_4 ?_
  refine r_astore_n hw dX7_back_7 rfl (by decide) rfl ?_
  refine r_lconst (v := 0) hw dX7_back_8 rfl ?_
  obtain ⟨l6, el6, m38⟩ := h_nm m37
  clear m37
  refine r_topL (w := w) el6 ?_
  refine r_lstore_n hw dX7_back_9 rfl (by decide) rfl ?_
  refine r_iconst (v := 0) hw dX7_back_10 rfl ?_
  obtain ⟨i7, ei7, m39⟩ := h_nm m38
  clear m38
  refine r_topI (w := w) ei7 ?_
  refine r_istore hw dX7_back_11 (by decide) rfl ?_
  refine r_sub hw [3, 2, 1, 0] rfl ?_
  obtain ⟨v13, n013, hn13, hv13⟩ := h_lp m39
  clear m39
  have L13 : ∀ n : Nat, ∀ (l8 : Int64) (i9 : Int32) (M10 : Mm), it (mX7_back_L13 K R r q3) n (l8, i9, M10) = some v13 → w 0 0 13 [(0, .ref r), (1, .ref q3), (2, .long l8), (4, .int i9)] [] K R M10 := by
    intro n13
    induction n13 with
    | zero => intro l8 i9 M10 hz; exact absurd hz h_it0
    | succ n13 ih13 =>
      intro l8 i9 M10 m40
      replace m40 : (mX7_back_B13 K R r q3 l8 i9 M10).bind (Sum.elim (it (mX7_back_L13 K R r q3) n13) some) = some v13 := m40
      unfold mX7_back_B13 at m40
      have J42 : ∀ (M13 : Mm) (l11 : Int64) (i12 : Int32), (mX7_back_J42 K R M13 r q3 l11 i12).bind (Sum.elim (it (mX7_back_L13 K R r q3) n13) some) = some v13 → w 0 0 42 [(0, .ref r), (1, .ref q3), (2, .long l11), (4, .int i12)] [] K R M13 := by
        intro M13 l11 i12 m41
        unfold mX7_back_J42 at m41
        refine r_aload_n hw dX7_back_42 1 rfl ?_
        obtain ⟨h14, m42⟩ := h_ck m41
        clear m41
        obtain ⟨q15, bq15, m43⟩ := h_bd m42
        clear m42
        refine r_getR hw fO_X7_149 h14 bq15 dX7_back_43 ?_
        refine r_iload hw dX7_back_46 3 rfl ?_
        obtain ⟨h16, m44⟩ := h_ck m43
        clear m43
        obtain ⟨q17, bq17, m45⟩ := h_bd m44
        clear m44
        refine r_aaload hw 2 (by decide) h16 bq17 dX7_back_48 ?_
        refine r_iconst (v := 1) hw dX7_back_49 rfl ?_
        refine r_iconst (v := 0) hw dX7_back_50 rfl ?_
        refine r_iconst (v := 0) hw dX7_back_51 rfl ?_
        obtain ⟨h19, m46⟩ := h_ck m45
        clear m45
        obtain ⟨M18, g18, m47⟩ := h_bd m46
        clear m46
        refine r_callV0 hw (tX3_setMove l G b0 g18) lB_X3_setMove lI_X3_setMove mL_X7_124 (c := 3) rfl h19 rfl (Nat.le_of_ble_eq_true rfl) (Nat.le_of_ble_eq_true rfl) rfl (Nat.le_of_ble_eq_true rfl) dX7_back_52 ?_
        obtain ⟨i20, ei20, m48⟩ := h_nm m47
        clear m47
        refine r_iinc (j := 3) (v := i20) hw dX7_back_55 rfl (by rw [ei20]; rfl) (by decide) rfl ?_
        refine r_goto (tgt := 13) hw dX7_back_58 (by decide) ?_
        refine r_sub hw [1, 2, 3, 0] rfl ?_
        exact ih13 _ _ _ m48
      refine r_iload hw dX7_back_13 3 rfl ?_
      refine r_aload_n hw dX7_back_15 1 rfl ?_
      obtain ⟨h21, m49⟩ := h_ck m40
      clear m40
      refine r_getI hw fO_X7_148 h21 dX7_back_16 ?_
      refine r_icmp_ge (tgt := 61) hw dX7_back_19 (by decide) (fun c22 => ?_) (fun c22 => ?_)
      · have m50 := h_if_f c22 m49
        clear m49
        have m51 := h_ex m50 hv13
        clear m50
        refine r_aload_n hw dX7_back_61 0 rfl ?_
        obtain ⟨q23, bq23, m52⟩ := h_bd m51
        clear m51
        refine r_getR hw fO_X7_25 h1 bq23 dX7_back_62 ?_
        obtain ⟨h26, m53⟩ := h_ck m52
        clear m52
        obtain ⟨R24, M25, g25, m54⟩ := h_bd2 m53
        clear m53
        refine r_callV0 hw (tX1_keepDraft l G b0 g25) lB_X1_keepDraft lI_X1_keepDraft mL_X7_138 (c := 1) rfl h26 rfl (Nat.le_of_ble_eq_true rfl) (Nat.le_of_ble_eq_true rfl) rfl (Nat.le_of_ble_eq_true rfl) dX7_back_65 ?_
        refine r_lload_n hw dX7_back_68 2 rfl ?_
        cases h_ret m54
        exact r_lreturn hq rfl rfl dX7_back_69
      · have m55 := h_if_t c22 m49
        clear m49
        refine r_aload_n hw dX7_back_22 1 rfl ?_
        obtain ⟨q27, bq27, m56⟩ := h_bd m55
        clear m55
        refine r_getR hw fO_X7_149 h21 bq27 dX7_back_23 ?_
        refine r_iload hw dX7_back_26 3 rfl ?_
        obtain ⟨h28, m57⟩ := h_ck m56
        clear m56
        obtain ⟨q29, bq29, m58⟩ := h_bd m57
        clear m57
        refine r_aaload hw 2 (by decide) h28 bq29 dX7_back_28 ?_
        refine r_iconst (v := 1) hw dX7_back_29 rfl ?_
        refine r_iconst (v := 0) hw dX7_back_30 rfl ?_
        refine r_iconst (v := 0) hw dX7_back_31 rfl ?_
        obtain ⟨h31, m59⟩ := h_ck m58
        clear m58
        obtain ⟨i30, g30, m60⟩ := h_bd m59
        clear m59
        refine r_callV1 hw (tX3_hasMove l G b0 g30) lB_X3_hasMove lI_X3_hasMove mL_X7_212 (c := 3) rfl h31 rfl (Nat.le_of_ble_eq_true rfl) (Nat.le_of_ble_eq_true rfl) rfl (Nat.le_of_ble_eq_true rfl) dX7_back_32 ?_
        refine r_if_ne (tgt := 42) hw dX7_back_35 (by decide) (fun c32 => ?_) (fun c32 => ?_)
        · have m61 := h_if_f c32 m60
          clear m60
          exact J42 _ _ _ m61
        · have m62 := h_if_t c32 m60
          clear m60
          refine r_lload_n hw dX7_back_38 2 rfl ?_
          refine r_lconst (v := 1) hw dX7_back_39 rfl ?_
          refine r_ladd hw dX7_back_40 ?_
          obtain ⟨l33, el33, m63⟩ := h_nm m62
          clear m62
          refine r_topL (w := w) el33 ?_
          refine r_lstore_n hw dX7_back_41 rfl (by decide) rfl ?_
          refine r_sub hw [1, 2, 0, 3] rfl ?_
          exact J42 _ _ _ m63
  exact L13 n013 _ _ _ hn13
theorem dX7_undo_0 : decode cX7_undo 0 = .ok (.aload_n 0, 1) := by decide +kernel
theorem dX7_undo_1 : decode cX7_undo 1 = .ok (.getfield 25, 3) := by decide +kernel
theorem dX7_undo_4 : decode cX7_undo 4 = .ok (.invokevirtual 234, 3) := by decide +kernel
theorem dX7_undo_7 : decode cX7_undo 7 = .ok (.ifCond .eq 14, 3) := by decide +kernel
theorem dX7_undo_10 : decode cX7_undo 10 = .ok (.aload_n 0, 1) := by decide +kernel
theorem dX7_undo_11 : decode cX7_undo 11 = .ok (.getfield 25, 3) := by decide +kernel
theorem dX7_undo_14 : decode cX7_undo 14 = .ok (.invokevirtual 237, 3) := by decide +kernel
theorem dX7_undo_17 : decode cX7_undo 17 = .ok (.i2l, 1) := by decide +kernel
theorem dX7_undo_18 : decode cX7_undo 18 = .ok (.goto 6, 3) := by decide +kernel
theorem dX7_undo_21 : decode cX7_undo 21 = .ok (.ldc2_w 118, 3) := by decide +kernel
theorem dX7_undo_24 : decode cX7_undo 24 = .ok (.lreturn, 1) := by decide +kernel
set_option maxHeartbeats 4000000 in
set_option maxRecDepth 100000 in
theorem tX7_undo (l : Launch) (G : Gg) (b0 : Nat) {K : Kk} {R : Rr} {M : Mm} {r : Nat} {res : Int64} {M' : Mm} (hm : mX7_undo K R M r = some (res, M')) : CT l G b0 yX7_undo cX7_undo 1 (some .long) (rmz 2 20) [.ref r] K R M (some (.long res)) K R M' := by
  refine ct_of (by decide +kernel) (Nat.le_of_ble_eq_true rfl) (fun w hq => ?_)
  have hw := hq.b
  change w 0 0 0 [(0, .ref r)] [] K R M
  replace hm := h_start hm
  unfold mX7_undo at hm
  obtain ⟨h1, m8⟩ := h_ck hm
  clear hm
  refine r_aload_n hw dX7_undo_0 0 rfl ?_
  obtain ⟨q2, bq2, m9⟩ := h_bd m8
  clear m8
  refine r_getR hw fO_X7_25 h1 bq2 dX7_undo_1 ?_
  obtain ⟨h5, m10⟩ := h_ck m9
  clear m9
  obtain ⟨i3, M4, g4, m11⟩ := h_bd2 m10
  clear m10
  refine r_callV1 hw (tX1_stepBack l G b0 g4) lB_X1_stepBack lI_X1_stepBack mL_X7_234 (c := 1) rfl h5 rfl (Nat.le_of_ble_eq_true rfl) (Nat.le_of_ble_eq_true rfl) rfl (Nat.le_of_ble_eq_true rfl) dX7_undo_4 ?_
  refine r_if_eq (tgt := 21) hw dX7_undo_7 (by decide) (fun c6 => ?_) (fun c6 => ?_)
  · have m12 := h_if_t c6 m11
    clear m11
    refine r_ldc2 (v := (-9000000000000000002)) hw dX7_undo_21 kW_X7_118 ?_
    cases h_ret m12
    exact r_lreturn hq rfl rfl dX7_undo_24
  · have m13 := h_if_f c6 m11
    clear m11
    refine r_aload_n hw dX7_undo_10 0 rfl ?_
    refine r_getR hw fO_X7_25 h1 bq2 dX7_undo_11 ?_
    obtain ⟨i7, g7, m14⟩ := h_bd m13
    clear m13
    refine r_callV1 hw (tX1_kept l G b0 g7) lB_X1_kept lI_X1_kept mL_X7_237 (c := 1) rfl h5 rfl (Nat.le_of_ble_eq_true rfl) (Nat.le_of_ble_eq_true rfl) rfl (Nat.le_of_ble_eq_true rfl) dX7_undo_14 ?_
    refine r_i2l hw dX7_undo_17 ?_
    refine r_goto (tgt := 24) hw dX7_undo_18 (by decide) ?_
    cases h_ret m14
    exact r_lreturn hq rfl rfl dX7_undo_24
