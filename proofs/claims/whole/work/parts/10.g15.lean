theorem dX8_sum_0 : decode cX8_sum 0 = .ok (.iload_n 1, 1) := by decide +kernel
theorem dX8_sum_1 : decode cX8_sum 1 = .ok (.ifCond .lt 15, 3) := by decide +kernel
theorem dX8_sum_4 : decode cX8_sum 4 = .ok (.iload_n 2, 1) := by decide +kernel
theorem dX8_sum_5 : decode cX8_sum 5 = .ok (.i2l, 1) := by decide +kernel
theorem dX8_sum_6 : decode cX8_sum 6 = .ok (.lconst 0, 1) := by decide +kernel
theorem dX8_sum_7 : decode cX8_sum 7 = .ok (.ldc2_w 315, 3) := by decide +kernel
theorem dX8_sum_10 : decode cX8_sum 10 = .ok (.invokestatic 95, 3) := by decide +kernel
theorem dX8_sum_13 : decode cX8_sum 13 = .ok (.ifCond .ne 7, 3) := by decide +kernel
theorem dX8_sum_16 : decode cX8_sum 16 = .ok (.ldc2_w 160, 3) := by decide +kernel
theorem dX8_sum_19 : decode cX8_sum 19 = .ok (.lreturn, 1) := by decide +kernel
theorem dX8_sum_20 : decode cX8_sum 20 = .ok (.aload_n 0, 1) := by decide +kernel
theorem dX8_sum_21 : decode cX8_sum 21 = .ok (.invokevirtual 312, 3) := by decide +kernel
theorem dX8_sum_24 : decode cX8_sum 24 = .ok (.iconst 0, 1) := by decide +kernel
theorem dX8_sum_25 : decode cX8_sum 25 = .ok (.istore_n 3, 1) := by decide +kernel
theorem dX8_sum_26 : decode cX8_sum 26 = .ok (.iload_n 3, 1) := by decide +kernel
theorem dX8_sum_27 : decode cX8_sum 27 = .ok (.aload_n 0, 1) := by decide +kernel
theorem dX8_sum_28 : decode cX8_sum 28 = .ok (.getfield 306, 3) := by decide +kernel
theorem dX8_sum_31 : decode cX8_sum 31 = .ok (.if_icmp .ge 113, 3) := by decide +kernel
theorem dX8_sum_34 : decode cX8_sum 34 = .ok (.iconst 0, 1) := by decide +kernel
theorem dX8_sum_35 : decode cX8_sum 35 = .ok (.istore 4, 2) := by decide +kernel
theorem dX8_sum_37 : decode cX8_sum 37 = .ok (.iconst 0, 1) := by decide +kernel
theorem dX8_sum_38 : decode cX8_sum 38 = .ok (.istore 5, 2) := by decide +kernel
theorem dX8_sum_40 : decode cX8_sum 40 = .ok (.iload 5, 2) := by decide +kernel
theorem dX8_sum_42 : decode cX8_sum 42 = .ok (.aload_n 0, 1) := by decide +kernel
theorem dX8_sum_43 : decode cX8_sum 43 = .ok (.getfield 306, 3) := by decide +kernel
theorem dX8_sum_46 : decode cX8_sum 46 = .ok (.if_icmp .ge 41, 3) := by decide +kernel
theorem dX8_sum_49 : decode cX8_sum 49 = .ok (.iload 4, 2) := by decide +kernel
theorem dX8_sum_51 : decode cX8_sum 51 = .ok (.aload_n 0, 1) := by decide +kernel
theorem dX8_sum_52 : decode cX8_sum 52 = .ok (.getfield 78, 3) := by decide +kernel
theorem dX8_sum_55 : decode cX8_sum 55 = .ok (.iload 5, 2) := by decide +kernel
theorem dX8_sum_57 : decode cX8_sum 57 = .ok (.laload, 1) := by decide +kernel
theorem dX8_sum_58 : decode cX8_sum 58 = .ok (.lconst 0, 1) := by decide +kernel
theorem dX8_sum_59 : decode cX8_sum 59 = .ok (.lcmp, 1) := by decide +kernel
theorem dX8_sum_60 : decode cX8_sum 60 = .ok (.ifCond .eq 17, 3) := by decide +kernel
theorem dX8_sum_63 : decode cX8_sum 63 = .ok (.aload_n 0, 1) := by decide +kernel
theorem dX8_sum_64 : decode cX8_sum 64 = .ok (.iload 5, 2) := by decide +kernel
theorem dX8_sum_66 : decode cX8_sum 66 = .ok (.iload_n 3, 1) := by decide +kernel
theorem dX8_sum_67 : decode cX8_sum 67 = .ok (.invokevirtual 317, 3) := by decide +kernel
theorem dX8_sum_70 : decode cX8_sum 70 = .ok (.ifCond .eq 7, 3) := by decide +kernel
theorem dX8_sum_73 : decode cX8_sum 73 = .ok (.iconst 1, 1) := by decide +kernel
theorem dX8_sum_74 : decode cX8_sum 74 = .ok (.goto 4, 3) := by decide +kernel
theorem dX8_sum_77 : decode cX8_sum 77 = .ok (.iconst 0, 1) := by decide +kernel
theorem dX8_sum_78 : decode cX8_sum 78 = .ok (.iadd, 1) := by decide +kernel
theorem dX8_sum_79 : decode cX8_sum 79 = .ok (.istore 4, 2) := by decide +kernel
theorem dX8_sum_81 : decode cX8_sum 81 = .ok (.iinc 5 1, 3) := by decide +kernel
theorem dX8_sum_84 : decode cX8_sum 84 = .ok (.goto (-44), 3) := by decide +kernel
theorem dX8_sum_87 : decode cX8_sum 87 = .ok (.aload_n 0, 1) := by decide +kernel
theorem dX8_sum_88 : decode cX8_sum 88 = .ok (.getfield 78, 3) := by decide +kernel
theorem dX8_sum_91 : decode cX8_sum 91 = .ok (.iload_n 3, 1) := by decide +kernel
theorem dX8_sum_92 : decode cX8_sum 92 = .ok (.laload, 1) := by decide +kernel
theorem dX8_sum_93 : decode cX8_sum 93 = .ok (.lconst 0, 1) := by decide +kernel
theorem dX8_sum_94 : decode cX8_sum 94 = .ok (.lcmp, 1) := by decide +kernel
theorem dX8_sum_95 : decode cX8_sum 95 = .ok (.ifCond .eq 43, 3) := by decide +kernel
theorem dX8_sum_98 : decode cX8_sum 98 = .ok (.iload 4, 2) := by decide +kernel
theorem dX8_sum_100 : decode cX8_sum 100 = .ok (.iload_n 1, 1) := by decide +kernel
theorem dX8_sum_101 : decode cX8_sum 101 = .ok (.if_icmp .ne 37, 3) := by decide +kernel
theorem dX8_sum_104 : decode cX8_sum 104 = .ok (.iload_n 2, 1) := by decide +kernel
theorem dX8_sum_105 : decode cX8_sum 105 = .ok (.ifCond .ne 12, 3) := by decide +kernel
theorem dX8_sum_108 : decode cX8_sum 108 = .ok (.aload_n 0, 1) := by decide +kernel
theorem dX8_sum_109 : decode cX8_sum 109 = .ok (.getfield 72, 3) := by decide +kernel
theorem dX8_sum_112 : decode cX8_sum 112 = .ok (.iload_n 3, 1) := by decide +kernel
theorem dX8_sum_113 : decode cX8_sum 113 = .ok (.laload, 1) := by decide +kernel
theorem dX8_sum_114 : decode cX8_sum 114 = .ok (.goto 23, 3) := by decide +kernel
theorem dX8_sum_117 : decode cX8_sum 117 = .ok (.iload_n 2, 1) := by decide +kernel
theorem dX8_sum_118 : decode cX8_sum 118 = .ok (.iconst 1, 1) := by decide +kernel
theorem dX8_sum_119 : decode cX8_sum 119 = .ok (.if_icmp .ne 12, 3) := by decide +kernel
theorem dX8_sum_122 : decode cX8_sum 122 = .ok (.aload_n 0, 1) := by decide +kernel
theorem dX8_sum_123 : decode cX8_sum 123 = .ok (.getfield 75, 3) := by decide +kernel
theorem dX8_sum_126 : decode cX8_sum 126 = .ok (.iload_n 3, 1) := by decide +kernel
theorem dX8_sum_127 : decode cX8_sum 127 = .ok (.laload, 1) := by decide +kernel
theorem dX8_sum_128 : decode cX8_sum 128 = .ok (.goto 9, 3) := by decide +kernel
theorem dX8_sum_131 : decode cX8_sum 131 = .ok (.aload_n 0, 1) := by decide +kernel
theorem dX8_sum_132 : decode cX8_sum 132 = .ok (.getfield 78, 3) := by decide +kernel
theorem dX8_sum_135 : decode cX8_sum 135 = .ok (.iload_n 3, 1) := by decide +kernel
theorem dX8_sum_136 : decode cX8_sum 136 = .ok (.laload, 1) := by decide +kernel
theorem dX8_sum_137 : decode cX8_sum 137 = .ok (.lreturn, 1) := by decide +kernel
theorem dX8_sum_138 : decode cX8_sum 138 = .ok (.iinc 3 1, 3) := by decide +kernel
theorem dX8_sum_141 : decode cX8_sum 141 = .ok (.goto (-115), 3) := by decide +kernel
theorem dX8_sum_144 : decode cX8_sum 144 = .ok (.ldc2_w 272, 3) := by decide +kernel
theorem dX8_sum_147 : decode cX8_sum 147 = .ok (.lreturn, 1) := by decide +kernel
set_option maxHeartbeats 4000000 in
set_option maxRecDepth 100000 in
theorem tX8_sum (l : Launch) (G : Gg) (b0 : Nat) {K : Kk} {R : Rr} {M : Mm} {r : Nat} {a0 : Int32} {a1 : Int32} {res : Int64} {M' : Mm} (hm : mX8_sum K R M r a0 a1 = some (res, M')) : CT l G b0 yX8_sum cX8_sum 6 (some .long) (rmz 6 132) [.ref r, .int a0, .int a1] K R M (some (.long res)) K R M' := by
  refine ct_of (by decide +kernel) (Nat.le_of_ble_eq_true rfl) (fun w hq => ?_)
  have hw := hq.b
  change w 0 0 0 [(0, .ref r), (1, .int a0), (2, .int a1)] [] K R M
  replace hm := h_start hm
  unfold mX8_sum at hm
  obtain ⟨h1, m38⟩ := h_ck hm
  clear hm
  refine r_iload_n hw dX8_sum_0 1 rfl ?_
  refine r_if_lt (tgt := 16) hw dX8_sum_1 (by decide) (fun c2 => ?_) (fun c2 => ?_)
  · have m39 := h_if_t c2 m38
    clear m38
    refine r_ldc2 (v := (-9000000000000000001)) hw dX8_sum_16 kW_X8_160 ?_
    cases h_ret m39
    exact r_lreturn hq rfl rfl dX8_sum_19
  · have m40 := h_if_f c2 m38
    clear m38
    refine r_iload_n hw dX8_sum_4 2 rfl ?_
    refine r_i2l hw dX8_sum_5 ?_
    refine r_lconst (v := 0) hw dX8_sum_6 rfl ?_
    refine r_ldc2 (v := 2) hw dX8_sum_7 kW_X8_315 ?_
    obtain ⟨i3, g3, m41⟩ := h_bd m40
    clear m40
    refine r_callS1 hw (tX8_isIn l G b0 g3) lB_X8_isIn sT_X8_isIn mL_X8_95 rfl rfl (Nat.le_of_ble_eq_true rfl) (Nat.le_of_ble_eq_true rfl) rfl (Nat.le_of_ble_eq_true rfl) dX8_sum_10 ?_
    refine r_if_ne (tgt := 20) hw dX8_sum_13 (by decide) (fun c4 => ?_) (fun c4 => ?_)
    · have m42 := h_if_f c4 m41
      clear m41
      refine r_aload_n hw dX8_sum_20 0 rfl ?_
      obtain ⟨M5, g5, m43⟩ := h_bd m42
      clear m42
      refine r_callV0 hw (tX8_addAll l G b0 g5) lB_X8_addAll lI_X8_addAll mL_X8_312 (c := 8) rfl h1 rfl (Nat.le_of_ble_eq_true rfl) (Nat.le_of_ble_eq_true rfl) rfl (Nat.le_of_ble_eq_true rfl) dX8_sum_21 ?_
      refine r_iconst (v := 0) hw dX8_sum_24 rfl ?_
      obtain ⟨i6, ei6, m44⟩ := h_nm m43
      clear m43
      refine r_topI (w := w) ei6 ?_
      refine r_istore_n hw dX8_sum_25 rfl (by decide) rfl ?_
      refine r_sub hw [1, 2, 3, 0] rfl ?_
      obtain ⟨v26, n026, hn26, hv26⟩ := h_lp m44
      clear m44
      have L26 : ∀ n : Nat, ∀ (i7 : Int32), it (mX8_sum_L26 K R M5 r a0 a1) n (i7) = some v26 → w 0 0 26 [(0, .ref r), (1, .int a0), (2, .int a1), (3, .int i7)] [] K R M5 := by
        intro n26
        induction n26 with
        | zero => intro i7 hz; exact absurd hz h_it0
        | succ n26 ih26 =>
          intro i7 m45
          replace m45 : (mX8_sum_B26 K R M5 r a0 a1 i7).bind (Sum.elim (it (mX8_sum_L26 K R M5 r a0 a1) n26) some) = some v26 := m45
          unfold mX8_sum_B26 at m45
          have J138 : ∀ (i8 : Int32), (mX8_sum_J138 K R M5 r a0 a1 i8).bind (Sum.elim (it (mX8_sum_L26 K R M5 r a0 a1) n26) some) = some v26 → w 0 0 138 [(0, .ref r), (1, .int a0), (2, .int a1), (3, .int i8)] [] K R M5 := by
            intro i8 m46
            unfold mX8_sum_J138 at m46
            obtain ⟨i9, ei9, m47⟩ := h_nm m46
            clear m46
            refine r_iinc (j := 3) (v := i9) hw dX8_sum_138 rfl (by rw [ei9]; rfl) (by decide) rfl ?_
            refine r_goto (tgt := 26) hw dX8_sum_141 (by decide) ?_
            refine r_sub hw [1, 2, 3, 0] rfl ?_
            exact ih26 _ m47
          refine r_iload_n hw dX8_sum_26 3 rfl ?_
          refine r_aload_n hw dX8_sum_27 0 rfl ?_
          refine r_getI hw fO_X8_306 h1 dX8_sum_28 ?_
          refine r_icmp_ge (tgt := 144) hw dX8_sum_31 (by decide) (fun c10 => ?_) (fun c10 => ?_)
          · have m48 := h_if_f c10 m45
            clear m45
            have m49 := h_ex m48 hv26
            clear m48
            refine r_ldc2 (v := (-9000000000000000005)) hw dX8_sum_144 kW_X8_272 ?_
            cases h_ret m49
            exact r_lreturn hq rfl rfl dX8_sum_147
          · have m50 := h_if_t c10 m45
            clear m45
            refine r_iconst (v := 0) hw dX8_sum_34 rfl ?_
            obtain ⟨i11, ei11, m51⟩ := h_nm m50
            clear m50
            refine r_topI (w := w) ei11 ?_
            refine r_istore hw dX8_sum_35 (by decide) rfl ?_
            refine r_iconst (v := 0) hw dX8_sum_37 rfl ?_
            obtain ⟨i12, ei12, m52⟩ := h_nm m51
            clear m51
            refine r_topI (w := w) ei12 ?_
            refine r_istore hw dX8_sum_38 (by decide) rfl ?_
            refine r_sub hw [2, 3, 4, 5, 1, 0] rfl ?_
            obtain ⟨v40, n040, hn40, hv40⟩ := h_lp m52
            clear m52
            have L40 : ∀ n : Nat, ∀ (i13 : Int32) (i14 : Int32), it (mX8_sum_L40 K R M5 r a0 a1 i7) n (i13, i14) = some v40 → w 0 0 40 [(0, .ref r), (1, .int a0), (2, .int a1), (3, .int i7), (4, .int i13), (5, .int i14)] [] K R M5 := by
              intro n40
              induction n40 with
              | zero => intro i13 i14 hz; exact absurd hz h_it0
              | succ n40 ih40 =>
                intro i13 i14 m53
                replace m53 : (mX8_sum_B40 K R M5 r a0 a1 i7 i13 i14).bind (Sum.elim (it (mX8_sum_L40 K R M5 r a0 a1 i7) n40) some) = some v40 := m53
                unfold mX8_sum_B40 at m53
                have J78 : ∀ (i15 : Int32) (s16 : Int32) (s17 : Int32), (mX8_sum_J78 K R M5 r a0 a1 i7 i15 s16 s17).bind (Sum.elim (it (mX8_sum_L40 K R M5 r a0 a1 i7) n40) some) = some v40 → w 0 0 78 [(0, .ref r), (1, .int a0), (2, .int a1), (3, .int i7), (5, .int i15)] [.int s17, .int s16] K R M5 := by
                  intro i15 s16 s17 m54
                  unfold mX8_sum_J78 at m54
                  refine r_iadd hw dX8_sum_78 ?_
                  obtain ⟨i18, ei18, m55⟩ := h_nm m54
                  clear m54
                  refine r_topI (w := w) ei18 ?_
                  refine r_istore hw dX8_sum_79 (by decide) rfl ?_
                  obtain ⟨i19, ei19, m56⟩ := h_nm m55
                  clear m55
                  refine r_iinc (j := 5) (v := i19) hw dX8_sum_81 rfl (by rw [ei19]; rfl) (by decide) rfl ?_
                  refine r_goto (tgt := 40) hw dX8_sum_84 (by decide) ?_
                  refine r_sub hw [2, 3, 4, 5, 1, 0] rfl ?_
                  exact ih40 _ _ m56
                have J77 : ∀ (i20 : Int32) (s21 : Int32), (mX8_sum_J77 K R M5 r a0 a1 i7 i20 s21).bind (Sum.elim (it (mX8_sum_L40 K R M5 r a0 a1 i7) n40) some) = some v40 → w 0 0 77 [(0, .ref r), (1, .int a0), (2, .int a1), (3, .int i7), (5, .int i20)] [.int s21] K R M5 := by
                  intro i20 s21 m57
                  unfold mX8_sum_J77 at m57
                  refine r_iconst (v := 0) hw dX8_sum_77 rfl ?_
                  exact J78 _ _ _ m57
                refine r_iload hw dX8_sum_40 5 rfl ?_
                refine r_aload_n hw dX8_sum_42 0 rfl ?_
                refine r_getI hw fO_X8_306 h1 dX8_sum_43 ?_
                refine r_icmp_ge (tgt := 87) hw dX8_sum_46 (by decide) (fun c22 => ?_) (fun c22 => ?_)
                · have m58 := h_if_f c22 m53
                  clear m53
                  have m59 := h_ex m58 hv40
                  clear m58
                  refine r_aload_n hw dX8_sum_87 0 rfl ?_
                  obtain ⟨q23, bq23, m60⟩ := h_bd m59
                  clear m59
                  refine r_getR hw fO_X8_78 h1 bq23 dX8_sum_88 ?_
                  refine r_iload_n hw dX8_sum_91 3 rfl ?_
                  obtain ⟨h24, m61⟩ := h_ck m60
                  clear m60
                  refine r_laload hw h24 dX8_sum_92 ?_
                  refine r_lconst (v := 0) hw dX8_sum_93 rfl ?_
                  refine r_lcmp_eq (tgt := 138) hw dX8_sum_94 dX8_sum_95 (by decide) (fun c25 => ?_) (fun c25 => ?_)
                  · have m62 := h_if_t c25 m61
                    clear m61
                    refine r_sub hw [0, 1, 2, 3] rfl ?_
                    exact J138 _ m62
                  · have m63 := h_if_f c25 m61
                    clear m61
                    refine r_iload hw dX8_sum_98 4 rfl ?_
                    refine r_iload_n hw dX8_sum_100 1 rfl ?_
                    refine r_icmp_ne (tgt := 138) hw dX8_sum_101 (by decide) (fun c26 => ?_) (fun c26 => ?_)
                    · have m64 := h_if_f c26 m63
                      clear m63
                      refine r_sub hw [0, 1, 2, 3] rfl ?_
                      exact J138 _ m64
                    · have m65 := h_if_t c26 m63
                      clear m63
                      have m66 := h_ex m65 hv26
                      clear m65
                      refine r_iload_n hw dX8_sum_104 2 rfl ?_
                      refine r_if_ne (tgt := 117) hw dX8_sum_105 (by decide) (fun c27 => ?_) (fun c27 => ?_)
                      · have m67 := h_if_f c27 m66
                        clear m66
                        refine r_iload_n hw dX8_sum_117 2 rfl ?_
                        refine r_iconst (v := 1) hw dX8_sum_118 rfl ?_
                        refine r_icmp_ne (tgt := 131) hw dX8_sum_119 (by decide) (fun c28 => ?_) (fun c28 => ?_)
                        · have m68 := h_if_f c28 m67
                          clear m67
                          refine r_aload_n hw dX8_sum_131 0 rfl ?_
                          refine r_getR hw fO_X8_78 h1 bq23 dX8_sum_132 ?_
                          refine r_iload_n hw dX8_sum_135 3 rfl ?_
                          refine r_laload hw h24 dX8_sum_136 ?_
                          cases h_ret m68
                          exact r_lreturn hq rfl rfl dX8_sum_137
                        · have m69 := h_if_t c28 m67
                          clear m67
                          refine r_aload_n hw dX8_sum_122 0 rfl ?_
                          obtain ⟨q29, bq29, m70⟩ := h_bd m69
                          clear m69
                          refine r_getR hw fO_X8_75 h1 bq29 dX8_sum_123 ?_
                          refine r_iload_n hw dX8_sum_126 3 rfl ?_
                          obtain ⟨h30, m71⟩ := h_ck m70
                          clear m70
                          refine r_laload hw h30 dX8_sum_127 ?_
                          refine r_goto (tgt := 137) hw dX8_sum_128 (by decide) ?_
                          cases h_ret m71
                          exact r_lreturn hq rfl rfl dX8_sum_137
                      · have m72 := h_if_t c27 m66
                        clear m66
                        refine r_aload_n hw dX8_sum_108 0 rfl ?_
                        obtain ⟨q31, bq31, m73⟩ := h_bd m72
                        clear m72
                        refine r_getR hw fO_X8_72 h1 bq31 dX8_sum_109 ?_
                        refine r_iload_n hw dX8_sum_112 3 rfl ?_
                        obtain ⟨h32, m74⟩ := h_ck m73
                        clear m73
                        refine r_laload hw h32 dX8_sum_113 ?_
                        refine r_goto (tgt := 137) hw dX8_sum_114 (by decide) ?_
                        cases h_ret m74
                        exact r_lreturn hq rfl rfl dX8_sum_137
                · have m75 := h_if_t c22 m53
                  clear m53
                  refine r_iload hw dX8_sum_49 4 rfl ?_
                  refine r_aload_n hw dX8_sum_51 0 rfl ?_
                  obtain ⟨q33, bq33, m76⟩ := h_bd m75
                  clear m75
                  refine r_getR hw fO_X8_78 h1 bq33 dX8_sum_52 ?_
                  refine r_iload hw dX8_sum_55 5 rfl ?_
                  obtain ⟨h34, m77⟩ := h_ck m76
                  clear m76
                  refine r_laload hw h34 dX8_sum_57 ?_
                  refine r_lconst (v := 0) hw dX8_sum_58 rfl ?_
                  refine r_lcmp_eq (tgt := 77) hw dX8_sum_59 dX8_sum_60 (by decide) (fun c35 => ?_) (fun c35 => ?_)
                  · have m78 := h_if_t c35 m77
                    clear m77
                    refine r_sub hw [0, 1, 2, 3, 5] rfl ?_
                    exact J77 _ _ m78
                  · have m79 := h_if_f c35 m77
                    clear m77
                    refine r_aload_n hw dX8_sum_63 0 rfl ?_
                    refine r_iload hw dX8_sum_64 5 rfl ?_
                    refine r_iload_n hw dX8_sum_66 3 rfl ?_
                    obtain ⟨i36, g36, m80⟩ := h_bd m79
                    clear m79
                    refine r_callV1 hw (tX8_isAhead l G b0 g36) lB_X8_isAhead lI_X8_isAhead mL_X8_317 (c := 8) rfl h1 rfl (Nat.le_of_ble_eq_true rfl) (Nat.le_of_ble_eq_true rfl) rfl (Nat.le_of_ble_eq_true rfl) dX8_sum_67 ?_
                    refine r_if_eq (tgt := 77) hw dX8_sum_70 (by decide) (fun c37 => ?_) (fun c37 => ?_)
                    · have m81 := h_if_t c37 m80
                      clear m80
                      refine r_sub hw [0, 1, 2, 3, 5] rfl ?_
                      exact J77 _ _ m81
                    · have m82 := h_if_f c37 m80
                      clear m80
                      refine r_iconst (v := 1) hw dX8_sum_73 rfl ?_
                      refine r_goto (tgt := 78) hw dX8_sum_74 (by decide) ?_
                      refine r_sub hw [0, 1, 2, 3, 5] rfl ?_
                      exact J78 _ _ _ m82
            exact L40 n040 _ _ hn40
      exact L26 n026 _ hn26
    · have m83 := h_if_t c4 m41
      clear m41
      refine r_ldc2 (v := (-9000000000000000001)) hw dX8_sum_16 kW_X8_160 ?_
      cases h_ret m83
      exact r_lreturn hq rfl rfl dX8_sum_19
theorem dX8_shelve_0 : decode cX8_shelve 0 = .ok (.iload_n 1, 1) := by decide +kernel
theorem dX8_shelve_1 : decode cX8_shelve 1 = .ok (.i2l, 1) := by decide +kernel
theorem dX8_shelve_2 : decode cX8_shelve 2 = .ok (.lconst 0, 1) := by decide +kernel
theorem dX8_shelve_3 : decode cX8_shelve 3 = .ok (.ldc2_w 270, 3) := by decide +kernel
theorem dX8_shelve_6 : decode cX8_shelve 6 = .ok (.invokestatic 95, 3) := by decide +kernel
theorem dX8_shelve_9 : decode cX8_shelve 9 = .ok (.ifCond .ne 7, 3) := by decide +kernel
theorem dX8_shelve_12 : decode cX8_shelve 12 = .ok (.ldc2_w 160, 3) := by decide +kernel
theorem dX8_shelve_15 : decode cX8_shelve 15 = .ok (.lreturn, 1) := by decide +kernel
theorem dX8_shelve_16 : decode cX8_shelve 16 = .ok (.iconst 0, 1) := by decide +kernel
theorem dX8_shelve_17 : decode cX8_shelve 17 = .ok (.istore_n 2, 1) := by decide +kernel
theorem dX8_shelve_18 : decode cX8_shelve 18 = .ok (.iload_n 2, 1) := by decide +kernel
theorem dX8_shelve_19 : decode cX8_shelve 19 = .ok (.sipush 1481, 3) := by decide +kernel
theorem dX8_shelve_22 : decode cX8_shelve 22 = .ok (.if_icmp .ge 27, 3) := by decide +kernel
theorem dX8_shelve_25 : decode cX8_shelve 25 = .ok (.aload_n 0, 1) := by decide +kernel
theorem dX8_shelve_26 : decode cX8_shelve 26 = .ok (.getfield 19, 3) := by decide +kernel
theorem dX8_shelve_29 : decode cX8_shelve 29 = .ok (.sipush 1481, 3) := by decide +kernel
theorem dX8_shelve_32 : decode cX8_shelve 32 = .ok (.iload_n 1, 1) := by decide +kernel
theorem dX8_shelve_33 : decode cX8_shelve 33 = .ok (.imul, 1) := by decide +kernel
theorem dX8_shelve_34 : decode cX8_shelve 34 = .ok (.iload_n 2, 1) := by decide +kernel
theorem dX8_shelve_35 : decode cX8_shelve 35 = .ok (.iadd, 1) := by decide +kernel
theorem dX8_shelve_36 : decode cX8_shelve 36 = .ok (.aload_n 0, 1) := by decide +kernel
theorem dX8_shelve_37 : decode cX8_shelve 37 = .ok (.getfield 7, 3) := by decide +kernel
theorem dX8_shelve_40 : decode cX8_shelve 40 = .ok (.iload_n 2, 1) := by decide +kernel
theorem dX8_shelve_41 : decode cX8_shelve 41 = .ok (.laload, 1) := by decide +kernel
theorem dX8_shelve_42 : decode cX8_shelve 42 = .ok (.lastore, 1) := by decide +kernel
theorem dX8_shelve_43 : decode cX8_shelve 43 = .ok (.iinc 2 1, 3) := by decide +kernel
theorem dX8_shelve_46 : decode cX8_shelve 46 = .ok (.goto (-28), 3) := by decide +kernel
theorem dX8_shelve_49 : decode cX8_shelve 49 = .ok (.aload_n 0, 1) := by decide +kernel
theorem dX8_shelve_50 : decode cX8_shelve 50 = .ok (.getfield 22, 3) := by decide +kernel
theorem dX8_shelve_53 : decode cX8_shelve 53 = .ok (.iload_n 1, 1) := by decide +kernel
theorem dX8_shelve_54 : decode cX8_shelve 54 = .ok (.iconst 1, 1) := by decide +kernel
theorem dX8_shelve_55 : decode cX8_shelve 55 = .ok (.bastore, 1) := by decide +kernel
theorem dX8_shelve_56 : decode cX8_shelve 56 = .ok (.aload_n 0, 1) := by decide +kernel
theorem dX8_shelve_57 : decode cX8_shelve 57 = .ok (.invokevirtual 99, 3) := by decide +kernel
theorem dX8_shelve_60 : decode cX8_shelve 60 = .ok (.i2l, 1) := by decide +kernel
theorem dX8_shelve_61 : decode cX8_shelve 61 = .ok (.lreturn, 1) := by decide +kernel
set_option maxHeartbeats 4000000 in
set_option maxRecDepth 100000 in
theorem tX8_shelve (l : Launch) (G : Gg) (b0 : Nat) {K : Kk} {R : Rr} {M : Mm} {r : Nat} {a0 : Int32} {res : Int64} {M' : Mm} (hm : mX8_shelve K R M r a0 = some (res, M')) : CT l G b0 yX8_shelve cX8_shelve 3 (some .long) (rmz 2 25) [.ref r, .int a0] K R M (some (.long res)) K R M' := by
  refine ct_of (by decide +kernel) (Nat.le_of_ble_eq_true rfl) (fun w hq => ?_)
  have hw := hq.b
  change w 0 0 0 [(0, .ref r), (1, .int a0)] [] K R M
  replace hm := h_start hm
  unfold mX8_shelve at hm
  obtain ⟨h1, m18⟩ := h_ck hm
  clear hm
  refine r_iload_n hw dX8_shelve_0 1 rfl ?_
  refine r_i2l hw dX8_shelve_1 ?_
  refine r_lconst (v := 0) hw dX8_shelve_2 rfl ?_
  refine r_ldc2 (v := 3) hw dX8_shelve_3 kW_X8_270 ?_
  obtain ⟨i2, g2, m19⟩ := h_bd m18
  clear m18
  refine r_callS1 hw (tX8_isIn l G b0 g2) lB_X8_isIn sT_X8_isIn mL_X8_95 rfl rfl (Nat.le_of_ble_eq_true rfl) (Nat.le_of_ble_eq_true rfl) rfl (Nat.le_of_ble_eq_true rfl) dX8_shelve_6 ?_
  refine r_if_ne (tgt := 16) hw dX8_shelve_9 (by decide) (fun c3 => ?_) (fun c3 => ?_)
  · have m20 := h_if_f c3 m19
    clear m19
    refine r_iconst (v := 0) hw dX8_shelve_16 rfl ?_
    obtain ⟨i4, ei4, m21⟩ := h_nm m20
    clear m20
    refine r_topI (w := w) ei4 ?_
    refine r_istore_n hw dX8_shelve_17 rfl (by decide) rfl ?_
    refine r_sub hw [1, 2, 0] rfl ?_
    obtain ⟨v18, n018, hn18, hv18⟩ := h_lp m21
    clear m21
    have L18 : ∀ n : Nat, ∀ (i5 : Int32) (M6 : Mm), it (mX8_shelve_L18 K R r a0) n (i5, M6) = some v18 → w 0 0 18 [(0, .ref r), (1, .int a0), (2, .int i5)] [] K R M6 := by
      intro n18
      induction n18 with
      | zero => intro i5 M6 hz; exact absurd hz h_it0
      | succ n18 ih18 =>
        intro i5 M6 m22
        replace m22 : (mX8_shelve_B18 K R r a0 i5 M6).bind (Sum.elim (it (mX8_shelve_L18 K R r a0) n18) some) = some v18 := m22
        unfold mX8_shelve_B18 at m22
        refine r_iload_n hw dX8_shelve_18 2 rfl ?_
        refine r_sipush (v := 1481) hw dX8_shelve_19 rfl ?_
        refine r_icmp_ge (tgt := 49) hw dX8_shelve_22 (by decide) (fun c7 => ?_) (fun c7 => ?_)
        · have m23 := h_if_f c7 m22
          clear m22
          have m24 := h_ex m23 hv18
          clear m23
          refine r_aload_n hw dX8_shelve_49 0 rfl ?_
          obtain ⟨q8, bq8, m25⟩ := h_bd m24
          clear m24
          refine r_getR hw fO_X8_22 h1 bq8 dX8_shelve_50 ?_
          refine r_iload_n hw dX8_shelve_53 1 rfl ?_
          refine r_iconst (v := 1) hw dX8_shelve_54 rfl ?_
          obtain ⟨h9, m26⟩ := h_ck m25
          clear m25
          obtain ⟨M10, eM10, m27⟩ := h_nm m26
          clear m26
          refine r_bastore hw h9 dX8_shelve_55 (r_mem ?_ rfl eM10)
          refine r_aload_n hw dX8_shelve_56 0 rfl ?_
          obtain ⟨i11, g11, m28⟩ := h_bd m27
          clear m27
          refine r_callV1 hw (tX8_pieces l G b0 g11) lB_X8_pieces lI_X8_pieces mL_X8_99 (c := 8) rfl h1 rfl (Nat.le_of_ble_eq_true rfl) (Nat.le_of_ble_eq_true rfl) rfl (Nat.le_of_ble_eq_true rfl) dX8_shelve_57 ?_
          refine r_i2l hw dX8_shelve_60 ?_
          cases h_ret m28
          exact r_lreturn hq rfl rfl dX8_shelve_61
        · have m29 := h_if_t c7 m22
          clear m22
          refine r_aload_n hw dX8_shelve_25 0 rfl ?_
          obtain ⟨q12, bq12, m30⟩ := h_bd m29
          clear m29
          refine r_getR hw fO_X8_19 h1 bq12 dX8_shelve_26 ?_
          refine r_sipush (v := 1481) hw dX8_shelve_29 rfl ?_
          refine r_iload_n hw dX8_shelve_32 1 rfl ?_
          refine r_imul hw dX8_shelve_33 ?_
          refine r_iload_n hw dX8_shelve_34 2 rfl ?_
          refine r_iadd hw dX8_shelve_35 ?_
          refine r_aload_n hw dX8_shelve_36 0 rfl ?_
          obtain ⟨q13, bq13, m31⟩ := h_bd m30
          clear m30
          refine r_getR hw fO_X8_7 h1 bq13 dX8_shelve_37 ?_
          refine r_iload_n hw dX8_shelve_40 2 rfl ?_
          obtain ⟨h14, m32⟩ := h_ck m31
          clear m31
          refine r_laload hw h14 dX8_shelve_41 ?_
          obtain ⟨h15, m33⟩ := h_ck m32
          clear m32
          obtain ⟨M16, eM16, m34⟩ := h_nm m33
          clear m33
          refine r_lastore hw h15 dX8_shelve_42 (r_mem ?_ rfl eM16)
          obtain ⟨i17, ei17, m35⟩ := h_nm m34
          clear m34
          refine r_iinc (j := 2) (v := i17) hw dX8_shelve_43 rfl (by rw [ei17]; rfl) (by decide) rfl ?_
          refine r_goto (tgt := 18) hw dX8_shelve_46 (by decide) ?_
          refine r_sub hw [1, 2, 0] rfl ?_
          exact ih18 _ _ m35
    exact L18 n018 _ _ hn18
  · have m36 := h_if_t c3 m19
    clear m19
    refine r_ldc2 (v := (-9000000000000000001)) hw dX8_shelve_12 kW_X8_160 ?_
    cases h_ret m36
    exact r_lreturn hq rfl rfl dX8_shelve_15
theorem dX8_fetch_0 : decode cX8_fetch 0 = .ok (.iload_n 1, 1) := by decide +kernel
theorem dX8_fetch_1 : decode cX8_fetch 1 = .ok (.i2l, 1) := by decide +kernel
theorem dX8_fetch_2 : decode cX8_fetch 2 = .ok (.lconst 0, 1) := by decide +kernel
theorem dX8_fetch_3 : decode cX8_fetch 3 = .ok (.ldc2_w 270, 3) := by decide +kernel
theorem dX8_fetch_6 : decode cX8_fetch 6 = .ok (.invokestatic 95, 3) := by decide +kernel
theorem dX8_fetch_9 : decode cX8_fetch 9 = .ok (.ifCond .ne 7, 3) := by decide +kernel
theorem dX8_fetch_12 : decode cX8_fetch 12 = .ok (.ldc2_w 160, 3) := by decide +kernel
theorem dX8_fetch_15 : decode cX8_fetch 15 = .ok (.lreturn, 1) := by decide +kernel
theorem dX8_fetch_16 : decode cX8_fetch 16 = .ok (.aload_n 0, 1) := by decide +kernel
theorem dX8_fetch_17 : decode cX8_fetch 17 = .ok (.getfield 22, 3) := by decide +kernel
theorem dX8_fetch_20 : decode cX8_fetch 20 = .ok (.iload_n 1, 1) := by decide +kernel
theorem dX8_fetch_21 : decode cX8_fetch 21 = .ok (.baload, 1) := by decide +kernel
theorem dX8_fetch_22 : decode cX8_fetch 22 = .ok (.ifCond .ne 7, 3) := by decide +kernel
theorem dX8_fetch_25 : decode cX8_fetch 25 = .ok (.ldc2_w 113, 3) := by decide +kernel
theorem dX8_fetch_28 : decode cX8_fetch 28 = .ok (.lreturn, 1) := by decide +kernel
theorem dX8_fetch_29 : decode cX8_fetch 29 = .ok (.aload_n 0, 1) := by decide +kernel
theorem dX8_fetch_30 : decode cX8_fetch 30 = .ok (.invokevirtual 174, 3) := by decide +kernel
theorem dX8_fetch_33 : decode cX8_fetch 33 = .ok (.iconst 0, 1) := by decide +kernel
theorem dX8_fetch_34 : decode cX8_fetch 34 = .ok (.istore_n 2, 1) := by decide +kernel
theorem dX8_fetch_35 : decode cX8_fetch 35 = .ok (.iload_n 2, 1) := by decide +kernel
theorem dX8_fetch_36 : decode cX8_fetch 36 = .ok (.sipush 1481, 3) := by decide +kernel
theorem dX8_fetch_39 : decode cX8_fetch 39 = .ok (.if_icmp .ge 27, 3) := by decide +kernel
theorem dX8_fetch_42 : decode cX8_fetch 42 = .ok (.aload_n 0, 1) := by decide +kernel
theorem dX8_fetch_43 : decode cX8_fetch 43 = .ok (.getfield 7, 3) := by decide +kernel
theorem dX8_fetch_46 : decode cX8_fetch 46 = .ok (.iload_n 2, 1) := by decide +kernel
theorem dX8_fetch_47 : decode cX8_fetch 47 = .ok (.aload_n 0, 1) := by decide +kernel
theorem dX8_fetch_48 : decode cX8_fetch 48 = .ok (.getfield 19, 3) := by decide +kernel
theorem dX8_fetch_51 : decode cX8_fetch 51 = .ok (.sipush 1481, 3) := by decide +kernel
theorem dX8_fetch_54 : decode cX8_fetch 54 = .ok (.iload_n 1, 1) := by decide +kernel
theorem dX8_fetch_55 : decode cX8_fetch 55 = .ok (.imul, 1) := by decide +kernel
theorem dX8_fetch_56 : decode cX8_fetch 56 = .ok (.iload_n 2, 1) := by decide +kernel
theorem dX8_fetch_57 : decode cX8_fetch 57 = .ok (.iadd, 1) := by decide +kernel
theorem dX8_fetch_58 : decode cX8_fetch 58 = .ok (.laload, 1) := by decide +kernel
theorem dX8_fetch_59 : decode cX8_fetch 59 = .ok (.lastore, 1) := by decide +kernel
theorem dX8_fetch_60 : decode cX8_fetch 60 = .ok (.iinc 2 1, 3) := by decide +kernel
theorem dX8_fetch_63 : decode cX8_fetch 63 = .ok (.goto (-28), 3) := by decide +kernel
theorem dX8_fetch_66 : decode cX8_fetch 66 = .ok (.aload_n 0, 1) := by decide +kernel
theorem dX8_fetch_67 : decode cX8_fetch 67 = .ok (.invokevirtual 99, 3) := by decide +kernel
theorem dX8_fetch_70 : decode cX8_fetch 70 = .ok (.i2l, 1) := by decide +kernel
theorem dX8_fetch_71 : decode cX8_fetch 71 = .ok (.lreturn, 1) := by decide +kernel
set_option maxHeartbeats 4000000 in
set_option maxRecDepth 100000 in
theorem tX8_fetch (l : Launch) (G : Gg) (b0 : Nat) {K : Kk} {R : Rr} {M : Mm} {r : Nat} {a0 : Int32} {res : Int64} {M' : Mm} (hm : mX8_fetch K R M r a0 = some (res, M')) : CT l G b0 yX8_fetch cX8_fetch 3 (some .long) (rmz 2 25) [.ref r, .int a0] K R M (some (.long res)) K R M' := by
  refine ct_of (by decide +kernel) (Nat.le_of_ble_eq_true rfl) (fun w hq => ?_)
  have hw := hq.b
  change w 0 0 0 [(0, .ref r), (1, .int a0)] [] K R M
  replace hm := h_start hm
  unfold mX8_fetch at hm
  obtain ⟨h1, m19⟩ := h_ck hm
  clear hm
  refine r_iload_n hw dX8_fetch_0 1 rfl ?_
  refine r_i2l hw dX8_fetch_1 ?_
  refine r_lconst (v := 0) hw dX8_fetch_2 rfl ?_
  refine r_ldc2 (v := 3) hw dX8_fetch_3 kW_X8_270 ?_
  obtain ⟨i2, g2, m20⟩ := h_bd m19
  clear m19
  refine r_callS1 hw (tX8_isIn l G b0 g2) lB_X8_isIn sT_X8_isIn mL_X8_95 rfl rfl (Nat.le_of_ble_eq_true rfl) (Nat.le_of_ble_eq_true rfl) rfl (Nat.le_of_ble_eq_true rfl) dX8_fetch_6 ?_
  refine r_if_ne (tgt := 16) hw dX8_fetch_9 (by decide) (fun c3 => ?_) (fun c3 => ?_)
  · have m21 := h_if_f c3 m20
    clear m20
    refine r_aload_n hw dX8_fetch_16 0 rfl ?_
    obtain ⟨q4, bq4, m22⟩ := h_bd m21
    clear m21
    refine r_getR hw fO_X8_22 h1 bq4 dX8_fetch_17 ?_
    refine r_iload_n hw dX8_fetch_20 1 rfl ?_
    obtain ⟨h5, m23⟩ := h_ck m22
    clear m22
    refine r_baload hw h5 dX8_fetch_21 ?_
    refine r_if_ne (tgt := 29) hw dX8_fetch_22 (by decide) (fun c6 => ?_) (fun c6 => ?_)
    · have m24 := h_if_f c6 m23
      clear m23
      refine r_aload_n hw dX8_fetch_29 0 rfl ?_
      obtain ⟨M7, g7, m25⟩ := h_bd m24
      clear m24
      refine r_callV0 hw (tX8_keep l G b0 g7) lB_X8_keep lI_X8_keep mL_X8_174 (c := 8) rfl h1 rfl (Nat.le_of_ble_eq_true rfl) (Nat.le_of_ble_eq_true rfl) rfl (Nat.le_of_ble_eq_true rfl) dX8_fetch_30 ?_
      refine r_iconst (v := 0) hw dX8_fetch_33 rfl ?_
      obtain ⟨i8, ei8, m26⟩ := h_nm m25
      clear m25
      refine r_topI (w := w) ei8 ?_
      refine r_istore_n hw dX8_fetch_34 rfl (by decide) rfl ?_
      refine r_sub hw [1, 2, 0] rfl ?_
      obtain ⟨v35, n035, hn35, hv35⟩ := h_lp m26
      clear m26
      have L35 : ∀ n : Nat, ∀ (i9 : Int32) (M10 : Mm), it (mX8_fetch_L35 K R r a0) n (i9, M10) = some v35 → w 0 0 35 [(0, .ref r), (1, .int a0), (2, .int i9)] [] K R M10 := by
        intro n35
        induction n35 with
        | zero => intro i9 M10 hz; exact absurd hz h_it0
        | succ n35 ih35 =>
          intro i9 M10 m27
          replace m27 : (mX8_fetch_B35 K R r a0 i9 M10).bind (Sum.elim (it (mX8_fetch_L35 K R r a0) n35) some) = some v35 := m27
          unfold mX8_fetch_B35 at m27
          refine r_iload_n hw dX8_fetch_35 2 rfl ?_
          refine r_sipush (v := 1481) hw dX8_fetch_36 rfl ?_
          refine r_icmp_ge (tgt := 66) hw dX8_fetch_39 (by decide) (fun c11 => ?_) (fun c11 => ?_)
          · have m28 := h_if_f c11 m27
            clear m27
            have m29 := h_ex m28 hv35
            clear m28
            refine r_aload_n hw dX8_fetch_66 0 rfl ?_
            obtain ⟨i12, g12, m30⟩ := h_bd m29
            clear m29
            refine r_callV1 hw (tX8_pieces l G b0 g12) lB_X8_pieces lI_X8_pieces mL_X8_99 (c := 8) rfl h1 rfl (Nat.le_of_ble_eq_true rfl) (Nat.le_of_ble_eq_true rfl) rfl (Nat.le_of_ble_eq_true rfl) dX8_fetch_67 ?_
            refine r_i2l hw dX8_fetch_70 ?_
            cases h_ret m30
            exact r_lreturn hq rfl rfl dX8_fetch_71
          · have m31 := h_if_t c11 m27
            clear m27
            refine r_aload_n hw dX8_fetch_42 0 rfl ?_
            obtain ⟨q13, bq13, m32⟩ := h_bd m31
            clear m31
            refine r_getR hw fO_X8_7 h1 bq13 dX8_fetch_43 ?_
            refine r_iload_n hw dX8_fetch_46 2 rfl ?_
            refine r_aload_n hw dX8_fetch_47 0 rfl ?_
            obtain ⟨q14, bq14, m33⟩ := h_bd m32
            clear m32
            refine r_getR hw fO_X8_19 h1 bq14 dX8_fetch_48 ?_
            refine r_sipush (v := 1481) hw dX8_fetch_51 rfl ?_
            refine r_iload_n hw dX8_fetch_54 1 rfl ?_
            refine r_imul hw dX8_fetch_55 ?_
            refine r_iload_n hw dX8_fetch_56 2 rfl ?_
            refine r_iadd hw dX8_fetch_57 ?_
            obtain ⟨h15, m34⟩ := h_ck m33
            clear m33
            refine r_laload hw h15 dX8_fetch_58 ?_
            obtain ⟨h16, m35⟩ := h_ck m34
            clear m34
            obtain ⟨M17, eM17, m36⟩ := h_nm m35
            clear m35
            refine r_lastore hw h16 dX8_fetch_59 (r_mem ?_ rfl eM17)
            obtain ⟨i18, ei18, m37⟩ := h_nm m36
            clear m36
            refine r_iinc (j := 2) (v := i18) hw dX8_fetch_60 rfl (by rw [ei18]; rfl) (by decide) rfl ?_
            refine r_goto (tgt := 35) hw dX8_fetch_63 (by decide) ?_
            refine r_sub hw [1, 2, 0] rfl ?_
            exact ih35 _ _ m37
      exact L35 n035 _ _ hn35
    · have m38 := h_if_t c6 m23
      clear m23
      refine r_ldc2 (v := (-9000000000000000002)) hw dX8_fetch_25 kW_X8_113 ?_
      cases h_ret m38
      exact r_lreturn hq rfl rfl dX8_fetch_28
  · have m39 := h_if_t c3 m20
    clear m20
    refine r_ldc2 (v := (-9000000000000000001)) hw dX8_fetch_12 kW_X8_160 ?_
    cases h_ret m39
    exact r_lreturn hq rfl rfl dX8_fetch_15
theorem dX8_meet_0 : decode cX8_meet 0 = .ok (.iload_n 1, 1) := by decide +kernel
theorem dX8_meet_1 : decode cX8_meet 1 = .ok (.iconst 1, 1) := by decide +kernel
theorem dX8_meet_2 : decode cX8_meet 2 = .ok (.iadd, 1) := by decide +kernel
theorem dX8_meet_3 : decode cX8_meet 3 = .ok (.aload_n 0, 1) := by decide +kernel
theorem dX8_meet_4 : decode cX8_meet 4 = .ok (.getfield 146, 3) := by decide +kernel
theorem dX8_meet_7 : decode cX8_meet 7 = .ok (.irem, 1) := by decide +kernel
theorem dX8_meet_8 : decode cX8_meet 8 = .ok (.istore_n 3, 1) := by decide +kernel
theorem dX8_meet_9 : decode cX8_meet 9 = .ok (.iload_n 2, 1) := by decide +kernel
theorem dX8_meet_10 : decode cX8_meet 10 = .ok (.iconst 1, 1) := by decide +kernel
theorem dX8_meet_11 : decode cX8_meet 11 = .ok (.iadd, 1) := by decide +kernel
theorem dX8_meet_12 : decode cX8_meet 12 = .ok (.aload_n 0, 1) := by decide +kernel
theorem dX8_meet_13 : decode cX8_meet 13 = .ok (.getfield 153, 3) := by decide +kernel
theorem dX8_meet_16 : decode cX8_meet 16 = .ok (.irem, 1) := by decide +kernel
theorem dX8_meet_17 : decode cX8_meet 17 = .ok (.istore 4, 2) := by decide +kernel
theorem dX8_meet_19 : decode cX8_meet 19 = .ok (.aload_n 0, 1) := by decide +kernel
theorem dX8_meet_20 : decode cX8_meet 20 = .ok (.getfield 48, 3) := by decide +kernel
theorem dX8_meet_23 : decode cX8_meet 23 = .ok (.iload_n 2, 1) := by decide +kernel
theorem dX8_meet_24 : decode cX8_meet 24 = .ok (.laload, 1) := by decide +kernel
theorem dX8_meet_25 : decode cX8_meet 25 = .ok (.aload_n 0, 1) := by decide +kernel
theorem dX8_meet_26 : decode cX8_meet 26 = .ok (.getfield 51, 3) := by decide +kernel
theorem dX8_meet_29 : decode cX8_meet 29 = .ok (.iload_n 2, 1) := by decide +kernel
theorem dX8_meet_30 : decode cX8_meet 30 = .ok (.laload, 1) := by decide +kernel
theorem dX8_meet_31 : decode cX8_meet 31 = .ok (.aload_n 0, 1) := by decide +kernel
theorem dX8_meet_32 : decode cX8_meet 32 = .ok (.getfield 48, 3) := by decide +kernel
theorem dX8_meet_35 : decode cX8_meet 35 = .ok (.iload 4, 2) := by decide +kernel
theorem dX8_meet_37 : decode cX8_meet 37 = .ok (.laload, 1) := by decide +kernel
theorem dX8_meet_38 : decode cX8_meet 38 = .ok (.aload_n 0, 1) := by decide +kernel
theorem dX8_meet_39 : decode cX8_meet 39 = .ok (.getfield 51, 3) := by decide +kernel
theorem dX8_meet_42 : decode cX8_meet 42 = .ok (.iload 4, 2) := by decide +kernel
theorem dX8_meet_44 : decode cX8_meet 44 = .ok (.laload, 1) := by decide +kernel
theorem dX8_meet_45 : decode cX8_meet 45 = .ok (.aload_n 0, 1) := by decide +kernel
theorem dX8_meet_46 : decode cX8_meet 46 = .ok (.getfield 42, 3) := by decide +kernel
theorem dX8_meet_49 : decode cX8_meet 49 = .ok (.iload_n 1, 1) := by decide +kernel
theorem dX8_meet_50 : decode cX8_meet 50 = .ok (.laload, 1) := by decide +kernel
theorem dX8_meet_51 : decode cX8_meet 51 = .ok (.aload_n 0, 1) := by decide +kernel
theorem dX8_meet_52 : decode cX8_meet 52 = .ok (.getfield 45, 3) := by decide +kernel
theorem dX8_meet_55 : decode cX8_meet 55 = .ok (.iload_n 1, 1) := by decide +kernel
theorem dX8_meet_56 : decode cX8_meet 56 = .ok (.laload, 1) := by decide +kernel
theorem dX8_meet_57 : decode cX8_meet 57 = .ok (.invokestatic 128, 3) := by decide +kernel
theorem dX8_meet_60 : decode cX8_meet 60 = .ok (.lstore 5, 2) := by decide +kernel
theorem dX8_meet_62 : decode cX8_meet 62 = .ok (.aload_n 0, 1) := by decide +kernel
theorem dX8_meet_63 : decode cX8_meet 63 = .ok (.getfield 48, 3) := by decide +kernel
theorem dX8_meet_66 : decode cX8_meet 66 = .ok (.iload_n 2, 1) := by decide +kernel
theorem dX8_meet_67 : decode cX8_meet 67 = .ok (.laload, 1) := by decide +kernel
theorem dX8_meet_68 : decode cX8_meet 68 = .ok (.aload_n 0, 1) := by decide +kernel
theorem dX8_meet_69 : decode cX8_meet 69 = .ok (.getfield 51, 3) := by decide +kernel
theorem dX8_meet_72 : decode cX8_meet 72 = .ok (.iload_n 2, 1) := by decide +kernel
theorem dX8_meet_73 : decode cX8_meet 73 = .ok (.laload, 1) := by decide +kernel
theorem dX8_meet_74 : decode cX8_meet 74 = .ok (.aload_n 0, 1) := by decide +kernel
theorem dX8_meet_75 : decode cX8_meet 75 = .ok (.getfield 48, 3) := by decide +kernel
theorem dX8_meet_78 : decode cX8_meet 78 = .ok (.iload 4, 2) := by decide +kernel
theorem dX8_meet_80 : decode cX8_meet 80 = .ok (.laload, 1) := by decide +kernel
theorem dX8_meet_81 : decode cX8_meet 81 = .ok (.aload_n 0, 1) := by decide +kernel
theorem dX8_meet_82 : decode cX8_meet 82 = .ok (.getfield 51, 3) := by decide +kernel
theorem dX8_meet_85 : decode cX8_meet 85 = .ok (.iload 4, 2) := by decide +kernel
theorem dX8_meet_87 : decode cX8_meet 87 = .ok (.laload, 1) := by decide +kernel
theorem dX8_meet_88 : decode cX8_meet 88 = .ok (.aload_n 0, 1) := by decide +kernel
theorem dX8_meet_89 : decode cX8_meet 89 = .ok (.getfield 42, 3) := by decide +kernel
theorem dX8_meet_92 : decode cX8_meet 92 = .ok (.iload_n 3, 1) := by decide +kernel
theorem dX8_meet_93 : decode cX8_meet 93 = .ok (.laload, 1) := by decide +kernel
theorem dX8_meet_94 : decode cX8_meet 94 = .ok (.aload_n 0, 1) := by decide +kernel
theorem dX8_meet_95 : decode cX8_meet 95 = .ok (.getfield 45, 3) := by decide +kernel
theorem dX8_meet_98 : decode cX8_meet 98 = .ok (.iload_n 3, 1) := by decide +kernel
theorem dX8_meet_99 : decode cX8_meet 99 = .ok (.laload, 1) := by decide +kernel
theorem dX8_meet_100 : decode cX8_meet 100 = .ok (.invokestatic 128, 3) := by decide +kernel
theorem dX8_meet_103 : decode cX8_meet 103 = .ok (.lstore 7, 2) := by decide +kernel
theorem dX8_meet_105 : decode cX8_meet 105 = .ok (.aload_n 0, 1) := by decide +kernel
theorem dX8_meet_106 : decode cX8_meet 106 = .ok (.getfield 42, 3) := by decide +kernel
theorem dX8_meet_109 : decode cX8_meet 109 = .ok (.iload_n 1, 1) := by decide +kernel
theorem dX8_meet_110 : decode cX8_meet 110 = .ok (.laload, 1) := by decide +kernel
theorem dX8_meet_111 : decode cX8_meet 111 = .ok (.aload_n 0, 1) := by decide +kernel
theorem dX8_meet_112 : decode cX8_meet 112 = .ok (.getfield 45, 3) := by decide +kernel
theorem dX8_meet_115 : decode cX8_meet 115 = .ok (.iload_n 1, 1) := by decide +kernel
theorem dX8_meet_116 : decode cX8_meet 116 = .ok (.laload, 1) := by decide +kernel
theorem dX8_meet_117 : decode cX8_meet 117 = .ok (.aload_n 0, 1) := by decide +kernel
theorem dX8_meet_118 : decode cX8_meet 118 = .ok (.getfield 42, 3) := by decide +kernel
theorem dX8_meet_121 : decode cX8_meet 121 = .ok (.iload_n 3, 1) := by decide +kernel
theorem dX8_meet_122 : decode cX8_meet 122 = .ok (.laload, 1) := by decide +kernel
theorem dX8_meet_123 : decode cX8_meet 123 = .ok (.aload_n 0, 1) := by decide +kernel
theorem dX8_meet_124 : decode cX8_meet 124 = .ok (.getfield 45, 3) := by decide +kernel
theorem dX8_meet_127 : decode cX8_meet 127 = .ok (.iload_n 3, 1) := by decide +kernel
theorem dX8_meet_128 : decode cX8_meet 128 = .ok (.laload, 1) := by decide +kernel
theorem dX8_meet_129 : decode cX8_meet 129 = .ok (.aload_n 0, 1) := by decide +kernel
theorem dX8_meet_130 : decode cX8_meet 130 = .ok (.getfield 48, 3) := by decide +kernel
theorem dX8_meet_133 : decode cX8_meet 133 = .ok (.iload_n 2, 1) := by decide +kernel
theorem dX8_meet_134 : decode cX8_meet 134 = .ok (.laload, 1) := by decide +kernel
theorem dX8_meet_135 : decode cX8_meet 135 = .ok (.aload_n 0, 1) := by decide +kernel
theorem dX8_meet_136 : decode cX8_meet 136 = .ok (.getfield 51, 3) := by decide +kernel
theorem dX8_meet_139 : decode cX8_meet 139 = .ok (.iload_n 2, 1) := by decide +kernel
theorem dX8_meet_140 : decode cX8_meet 140 = .ok (.laload, 1) := by decide +kernel
theorem dX8_meet_141 : decode cX8_meet 141 = .ok (.invokestatic 128, 3) := by decide +kernel
theorem dX8_meet_144 : decode cX8_meet 144 = .ok (.lstore 9, 2) := by decide +kernel
theorem dX8_meet_146 : decode cX8_meet 146 = .ok (.aload_n 0, 1) := by decide +kernel
theorem dX8_meet_147 : decode cX8_meet 147 = .ok (.getfield 42, 3) := by decide +kernel
theorem dX8_meet_150 : decode cX8_meet 150 = .ok (.iload_n 1, 1) := by decide +kernel
theorem dX8_meet_151 : decode cX8_meet 151 = .ok (.laload, 1) := by decide +kernel
theorem dX8_meet_152 : decode cX8_meet 152 = .ok (.aload_n 0, 1) := by decide +kernel
theorem dX8_meet_153 : decode cX8_meet 153 = .ok (.getfield 45, 3) := by decide +kernel
theorem dX8_meet_156 : decode cX8_meet 156 = .ok (.iload_n 1, 1) := by decide +kernel
theorem dX8_meet_157 : decode cX8_meet 157 = .ok (.laload, 1) := by decide +kernel
theorem dX8_meet_158 : decode cX8_meet 158 = .ok (.aload_n 0, 1) := by decide +kernel
theorem dX8_meet_159 : decode cX8_meet 159 = .ok (.getfield 42, 3) := by decide +kernel
theorem dX8_meet_162 : decode cX8_meet 162 = .ok (.iload_n 3, 1) := by decide +kernel
theorem dX8_meet_163 : decode cX8_meet 163 = .ok (.laload, 1) := by decide +kernel
theorem dX8_meet_164 : decode cX8_meet 164 = .ok (.aload_n 0, 1) := by decide +kernel
theorem dX8_meet_165 : decode cX8_meet 165 = .ok (.getfield 45, 3) := by decide +kernel
theorem dX8_meet_168 : decode cX8_meet 168 = .ok (.iload_n 3, 1) := by decide +kernel
theorem dX8_meet_169 : decode cX8_meet 169 = .ok (.laload, 1) := by decide +kernel
theorem dX8_meet_170 : decode cX8_meet 170 = .ok (.aload_n 0, 1) := by decide +kernel
theorem dX8_meet_171 : decode cX8_meet 171 = .ok (.getfield 48, 3) := by decide +kernel
theorem dX8_meet_174 : decode cX8_meet 174 = .ok (.iload 4, 2) := by decide +kernel
theorem dX8_meet_176 : decode cX8_meet 176 = .ok (.laload, 1) := by decide +kernel
theorem dX8_meet_177 : decode cX8_meet 177 = .ok (.aload_n 0, 1) := by decide +kernel
theorem dX8_meet_178 : decode cX8_meet 178 = .ok (.getfield 51, 3) := by decide +kernel
theorem dX8_meet_181 : decode cX8_meet 181 = .ok (.iload 4, 2) := by decide +kernel
theorem dX8_meet_183 : decode cX8_meet 183 = .ok (.laload, 1) := by decide +kernel
theorem dX8_meet_184 : decode cX8_meet 184 = .ok (.invokestatic 128, 3) := by decide +kernel
theorem dX8_meet_187 : decode cX8_meet 187 = .ok (.lstore 11, 2) := by decide +kernel
theorem dX8_meet_189 : decode cX8_meet 189 = .ok (.lload 5, 2) := by decide +kernel
theorem dX8_meet_191 : decode cX8_meet 191 = .ok (.lconst 0, 1) := by decide +kernel
theorem dX8_meet_192 : decode cX8_meet 192 = .ok (.lcmp, 1) := by decide +kernel
theorem dX8_meet_193 : decode cX8_meet 193 = .ok (.ifCond .le 10, 3) := by decide +kernel
theorem dX8_meet_196 : decode cX8_meet 196 = .ok (.lload 7, 2) := by decide +kernel
theorem dX8_meet_198 : decode cX8_meet 198 = .ok (.lconst 0, 1) := by decide +kernel
theorem dX8_meet_199 : decode cX8_meet 199 = .ok (.lcmp, 1) := by decide +kernel
theorem dX8_meet_200 : decode cX8_meet 200 = .ok (.ifCond .lt 17, 3) := by decide +kernel
theorem dX8_meet_203 : decode cX8_meet 203 = .ok (.lload 5, 2) := by decide +kernel
theorem dX8_meet_205 : decode cX8_meet 205 = .ok (.lconst 0, 1) := by decide +kernel
theorem dX8_meet_206 : decode cX8_meet 206 = .ok (.lcmp, 1) := by decide +kernel
theorem dX8_meet_207 : decode cX8_meet 207 = .ok (.ifCond .ge 42, 3) := by decide +kernel
theorem dX8_meet_210 : decode cX8_meet 210 = .ok (.lload 7, 2) := by decide +kernel
theorem dX8_meet_212 : decode cX8_meet 212 = .ok (.lconst 0, 1) := by decide +kernel
theorem dX8_meet_213 : decode cX8_meet 213 = .ok (.lcmp, 1) := by decide +kernel
theorem dX8_meet_214 : decode cX8_meet 214 = .ok (.ifCond .le 35, 3) := by decide +kernel
theorem dX8_meet_217 : decode cX8_meet 217 = .ok (.lload 9, 2) := by decide +kernel
theorem dX8_meet_219 : decode cX8_meet 219 = .ok (.lconst 0, 1) := by decide +kernel
theorem dX8_meet_220 : decode cX8_meet 220 = .ok (.lcmp, 1) := by decide +kernel
theorem dX8_meet_221 : decode cX8_meet 221 = .ok (.ifCond .le 10, 3) := by decide +kernel
theorem dX8_meet_224 : decode cX8_meet 224 = .ok (.lload 11, 2) := by decide +kernel
theorem dX8_meet_226 : decode cX8_meet 226 = .ok (.lconst 0, 1) := by decide +kernel
theorem dX8_meet_227 : decode cX8_meet 227 = .ok (.lcmp, 1) := by decide +kernel
theorem dX8_meet_228 : decode cX8_meet 228 = .ok (.ifCond .lt 17, 3) := by decide +kernel
theorem dX8_meet_231 : decode cX8_meet 231 = .ok (.lload 9, 2) := by decide +kernel
theorem dX8_meet_233 : decode cX8_meet 233 = .ok (.lconst 0, 1) := by decide +kernel
theorem dX8_meet_234 : decode cX8_meet 234 = .ok (.lcmp, 1) := by decide +kernel
theorem dX8_meet_235 : decode cX8_meet 235 = .ok (.ifCond .ge 14, 3) := by decide +kernel
theorem dX8_meet_238 : decode cX8_meet 238 = .ok (.lload 11, 2) := by decide +kernel
theorem dX8_meet_240 : decode cX8_meet 240 = .ok (.lconst 0, 1) := by decide +kernel
theorem dX8_meet_241 : decode cX8_meet 241 = .ok (.lcmp, 1) := by decide +kernel
theorem dX8_meet_242 : decode cX8_meet 242 = .ok (.ifCond .le 7, 3) := by decide +kernel
theorem dX8_meet_245 : decode cX8_meet 245 = .ok (.iconst 1, 1) := by decide +kernel
theorem dX8_meet_246 : decode cX8_meet 246 = .ok (.goto 4, 3) := by decide +kernel
theorem dX8_meet_249 : decode cX8_meet 249 = .ok (.iconst 0, 1) := by decide +kernel
theorem dX8_meet_250 : decode cX8_meet 250 = .ok (.istore 13, 2) := by decide +kernel
theorem dX8_meet_252 : decode cX8_meet 252 = .ok (.iload 13, 2) := by decide +kernel
theorem dX8_meet_254 : decode cX8_meet 254 = .ok (.ifCond .ne 4, 3) := by decide +kernel
theorem dX8_meet_257 : decode cX8_meet 257 = .ok (.return_, 1) := by decide +kernel
theorem dX8_meet_258 : decode cX8_meet 258 = .ok (.aload_n 0, 1) := by decide +kernel
theorem dX8_meet_259 : decode cX8_meet 259 = .ok (.getfield 42, 3) := by decide +kernel
theorem dX8_meet_262 : decode cX8_meet 262 = .ok (.iload_n 3, 1) := by decide +kernel
theorem dX8_meet_263 : decode cX8_meet 263 = .ok (.laload, 1) := by decide +kernel
theorem dX8_meet_264 : decode cX8_meet 264 = .ok (.aload_n 0, 1) := by decide +kernel
theorem dX8_meet_265 : decode cX8_meet 265 = .ok (.getfield 42, 3) := by decide +kernel
theorem dX8_meet_268 : decode cX8_meet 268 = .ok (.iload_n 1, 1) := by decide +kernel
theorem dX8_meet_269 : decode cX8_meet 269 = .ok (.laload, 1) := by decide +kernel
theorem dX8_meet_270 : decode cX8_meet 270 = .ok (.lsub, 1) := by decide +kernel
theorem dX8_meet_271 : decode cX8_meet 271 = .ok (.lload 5, 2) := by decide +kernel
theorem dX8_meet_273 : decode cX8_meet 273 = .ok (.lmul, 1) := by decide +kernel
theorem dX8_meet_274 : decode cX8_meet 274 = .ok (.lstore 14, 2) := by decide +kernel
theorem dX8_meet_276 : decode cX8_meet 276 = .ok (.aload_n 0, 1) := by decide +kernel
theorem dX8_meet_277 : decode cX8_meet 277 = .ok (.getfield 45, 3) := by decide +kernel
theorem dX8_meet_280 : decode cX8_meet 280 = .ok (.iload_n 3, 1) := by decide +kernel
theorem dX8_meet_281 : decode cX8_meet 281 = .ok (.laload, 1) := by decide +kernel
theorem dX8_meet_282 : decode cX8_meet 282 = .ok (.aload_n 0, 1) := by decide +kernel
theorem dX8_meet_283 : decode cX8_meet 283 = .ok (.getfield 45, 3) := by decide +kernel
theorem dX8_meet_286 : decode cX8_meet 286 = .ok (.iload_n 1, 1) := by decide +kernel
theorem dX8_meet_287 : decode cX8_meet 287 = .ok (.laload, 1) := by decide +kernel
theorem dX8_meet_288 : decode cX8_meet 288 = .ok (.lsub, 1) := by decide +kernel
theorem dX8_meet_289 : decode cX8_meet 289 = .ok (.lload 5, 2) := by decide +kernel
theorem dX8_meet_291 : decode cX8_meet 291 = .ok (.lmul, 1) := by decide +kernel
theorem dX8_meet_292 : decode cX8_meet 292 = .ok (.lstore 16, 2) := by decide +kernel
theorem dX8_meet_294 : decode cX8_meet 294 = .ok (.aload_n 0, 1) := by decide +kernel
theorem dX8_meet_295 : decode cX8_meet 295 = .ok (.aload_n 0, 1) := by decide +kernel
theorem dX8_meet_296 : decode cX8_meet 296 = .ok (.getfield 320, 3) := by decide +kernel
theorem dX8_meet_299 : decode cX8_meet 299 = .ok (.ifCond .ne 29, 3) := by decide +kernel
theorem dX8_meet_302 : decode cX8_meet 302 = .ok (.lload 14, 2) := by decide +kernel
theorem dX8_meet_304 : decode cX8_meet 304 = .ok (.lload 5, 2) := by decide +kernel
theorem dX8_meet_306 : decode cX8_meet 306 = .ok (.lload 7, 2) := by decide +kernel
theorem dX8_meet_308 : decode cX8_meet 308 = .ok (.lsub, 1) := by decide +kernel
theorem dX8_meet_309 : decode cX8_meet 309 = .ok (.lrem, 1) := by decide +kernel
theorem dX8_meet_310 : decode cX8_meet 310 = .ok (.lconst 0, 1) := by decide +kernel
theorem dX8_meet_311 : decode cX8_meet 311 = .ok (.lcmp, 1) := by decide +kernel
theorem dX8_meet_312 : decode cX8_meet 312 = .ok (.ifCond .ne 16, 3) := by decide +kernel
theorem dX8_meet_315 : decode cX8_meet 315 = .ok (.lload 16, 2) := by decide +kernel
theorem dX8_meet_317 : decode cX8_meet 317 = .ok (.lload 5, 2) := by decide +kernel
theorem dX8_meet_319 : decode cX8_meet 319 = .ok (.lload 7, 2) := by decide +kernel
theorem dX8_meet_321 : decode cX8_meet 321 = .ok (.lsub, 1) := by decide +kernel
theorem dX8_meet_322 : decode cX8_meet 322 = .ok (.lrem, 1) := by decide +kernel
theorem dX8_meet_323 : decode cX8_meet 323 = .ok (.lconst 0, 1) := by decide +kernel
theorem dX8_meet_324 : decode cX8_meet 324 = .ok (.lcmp, 1) := by decide +kernel
theorem dX8_meet_325 : decode cX8_meet 325 = .ok (.ifCond .eq 7, 3) := by decide +kernel
theorem dX8_meet_328 : decode cX8_meet 328 = .ok (.iconst 1, 1) := by decide +kernel
theorem dX8_meet_329 : decode cX8_meet 329 = .ok (.goto 4, 3) := by decide +kernel
theorem dX8_meet_332 : decode cX8_meet 332 = .ok (.iconst 0, 1) := by decide +kernel
theorem dX8_meet_333 : decode cX8_meet 333 = .ok (.putfield 320, 3) := by decide +kernel
theorem dX8_meet_336 : decode cX8_meet 336 = .ok (.aload_n 0, 1) := by decide +kernel
theorem dX8_meet_337 : decode cX8_meet 337 = .ok (.aload_n 0, 1) := by decide +kernel
theorem dX8_meet_338 : decode cX8_meet 338 = .ok (.getfield 42, 3) := by decide +kernel
theorem dX8_meet_341 : decode cX8_meet 341 = .ok (.iload_n 1, 1) := by decide +kernel
theorem dX8_meet_342 : decode cX8_meet 342 = .ok (.laload, 1) := by decide +kernel
theorem dX8_meet_343 : decode cX8_meet 343 = .ok (.lload 14, 2) := by decide +kernel
theorem dX8_meet_345 : decode cX8_meet 345 = .ok (.lload 5, 2) := by decide +kernel
theorem dX8_meet_347 : decode cX8_meet 347 = .ok (.lload 7, 2) := by decide +kernel
theorem dX8_meet_349 : decode cX8_meet 349 = .ok (.lsub, 1) := by decide +kernel
theorem dX8_meet_350 : decode cX8_meet 350 = .ok (.ldiv, 1) := by decide +kernel
theorem dX8_meet_351 : decode cX8_meet 351 = .ok (.ladd, 1) := by decide +kernel
theorem dX8_meet_352 : decode cX8_meet 352 = .ok (.aload_n 0, 1) := by decide +kernel
theorem dX8_meet_353 : decode cX8_meet 353 = .ok (.getfield 45, 3) := by decide +kernel
theorem dX8_meet_356 : decode cX8_meet 356 = .ok (.iload_n 1, 1) := by decide +kernel
theorem dX8_meet_357 : decode cX8_meet 357 = .ok (.laload, 1) := by decide +kernel
theorem dX8_meet_358 : decode cX8_meet 358 = .ok (.lload 16, 2) := by decide +kernel
theorem dX8_meet_360 : decode cX8_meet 360 = .ok (.lload 5, 2) := by decide +kernel
theorem dX8_meet_362 : decode cX8_meet 362 = .ok (.lload 7, 2) := by decide +kernel
theorem dX8_meet_364 : decode cX8_meet 364 = .ok (.lsub, 1) := by decide +kernel
theorem dX8_meet_365 : decode cX8_meet 365 = .ok (.ldiv, 1) := by decide +kernel
theorem dX8_meet_366 : decode cX8_meet 366 = .ok (.ladd, 1) := by decide +kernel
theorem dX8_meet_367 : decode cX8_meet 367 = .ok (.invokevirtual 139, 3) := by decide +kernel
theorem dX8_meet_370 : decode cX8_meet 370 = .ok (.return_, 1) := by decide +kernel
set_option maxHeartbeats 4000000 in
set_option maxRecDepth 100000 in
theorem tX8_meet (l : Launch) (G : Gg) (b0 : Nat) {K : Kk} {R : Rr} {M : Mm} {r : Nat} {a0 : Int32} {a1 : Int32} {M' : Mm} (hm : mX8_meet K R M r a0 a1 = some (M')) : CT l G b0 yX8_meet cX8_meet 18 none (rmz 2 31) [.ref r, .int a0, .int a1] K R M none K R M' := by
  refine ct_of (by decide +kernel) (Nat.le_of_ble_eq_true rfl) (fun w hq => ?_)
  have hw := hq.b
  change w 0 0 0 [(0, .ref r), (1, .int a0), (2, .int a1)] [] K R M
  replace hm := h_start hm
  unfold mX8_meet at hm
  obtain ⟨h1, m96⟩ := h_ck hm
  clear hm
  have J333 : ∀ (M8 : Mm) (l2 : Int64) (l3 : Int64) (l4 : Int64) (l5 : Int64) (s6 : Nat) (s7 : Int32), (mX8_meet_J333 K R M8 r a0 l2 l3 l4 l5 s6 s7).bind some = some (M') → w 0 0 333 [(0, .ref r), (1, .int a0), (5, .long l2), (7, .long l3), (14, .long l4), (16, .long l5)] [.int s7, .ref s6] K R M8 := by
    intro M8 l2 l3 l4 l5 s6 s7 m97
    unfold mX8_meet_J333 at m97
    obtain ⟨h9, m98⟩ := h_ck m97
    clear m97
    obtain ⟨h10, m99⟩ := h_ck m98
    clear m98
    obtain ⟨M11, eM11, m100⟩ := h_nm m99
    clear m99
    refine r_putZ hw fP_X8_320 h9 h10 dX8_meet_333 (r_mem ?_ rfl eM11)
    refine r_aload_n hw dX8_meet_336 0 rfl ?_
    refine r_aload_n hw dX8_meet_337 0 rfl ?_
    obtain ⟨q12, bq12, m101⟩ := h_bd m100
    clear m100
    refine r_getR hw fO_X8_42 h1 bq12 dX8_meet_338 ?_
    refine r_iload_n hw dX8_meet_341 1 rfl ?_
    obtain ⟨h13, m102⟩ := h_ck m101
    clear m101
    refine r_laload hw h13 dX8_meet_342 ?_
    refine r_lload hw dX8_meet_343 4 rfl ?_
    refine r_lload hw dX8_meet_345 2 rfl ?_
    refine r_lload hw dX8_meet_347 3 rfl ?_
    refine r_lsub hw dX8_meet_349 ?_
    obtain ⟨h14, m103⟩ := h_ck m102
    clear m102
    refine r_ldiv hw dX8_meet_350 h14 ?_
    refine r_ladd hw dX8_meet_351 ?_
    refine r_aload_n hw dX8_meet_352 0 rfl ?_
    obtain ⟨q15, bq15, m104⟩ := h_bd m103
    clear m103
    refine r_getR hw fO_X8_45 h1 bq15 dX8_meet_353 ?_
    refine r_iload_n hw dX8_meet_356 1 rfl ?_
    obtain ⟨h16, m105⟩ := h_ck m104
    clear m104
    refine r_laload hw h16 dX8_meet_357 ?_
    refine r_lload hw dX8_meet_358 5 rfl ?_
    refine r_lload hw dX8_meet_360 2 rfl ?_
    refine r_lload hw dX8_meet_362 3 rfl ?_
    refine r_lsub hw dX8_meet_364 ?_
    refine r_ldiv hw dX8_meet_365 h14 ?_
    refine r_ladd hw dX8_meet_366 ?_
    obtain ⟨M17, g17, m106⟩ := h_bd m105
    clear m105
    refine r_callV0 hw (tX8_point l G b0 g17) lB_X8_point lI_X8_point mL_X8_139 (c := 8) rfl h1 rfl (Nat.le_of_ble_eq_true rfl) (Nat.le_of_ble_eq_true rfl) rfl (Nat.le_of_ble_eq_true rfl) dX8_meet_367 ?_
    cases h_ret m106
    exact r_return hq rfl rfl dX8_meet_370
  have J328 : ∀ (M23 : Mm) (l18 : Int64) (l19 : Int64) (l20 : Int64) (l21 : Int64) (s22 : Nat), (mX8_meet_J328 K R M23 r a0 l18 l19 l20 l21 s22).bind some = some (M') → w 0 0 328 [(0, .ref r), (1, .int a0), (5, .long l18), (7, .long l19), (14, .long l20), (16, .long l21)] [.ref s22] K R M23 := by
    intro M23 l18 l19 l20 l21 s22 m107
    unfold mX8_meet_J328 at m107
    refine r_iconst (v := 1) hw dX8_meet_328 rfl ?_
    refine r_goto (tgt := 333) hw dX8_meet_329 (by decide) ?_
    exact J333 _ _ _ _ _ _ _ m107
  have J250 : ∀ (M28 : Mm) (i24 : Int32) (l25 : Int64) (l26 : Int64) (s27 : Int32), (mX8_meet_J250 K R M28 r a0 i24 l25 l26 s27).bind some = some (M') → w 0 0 250 [(0, .ref r), (1, .int a0), (3, .int i24), (5, .long l25), (7, .long l26)] [.int s27] K R M28 := by
    intro M28 i24 l25 l26 s27 m108
    unfold mX8_meet_J250 at m108
    refine r_istore hw dX8_meet_250 (by decide) rfl ?_
    refine r_iload hw dX8_meet_252 0 rfl ?_
    refine r_if_ne (tgt := 258) hw dX8_meet_254 (by decide) (fun c29 => ?_) (fun c29 => ?_)
    · have m109 := h_if_f c29 m108
      clear m108
      refine r_aload_n hw dX8_meet_258 1 rfl ?_
      obtain ⟨q30, bq30, m110⟩ := h_bd m109
      clear m109
      refine r_getR hw fO_X8_42 h1 bq30 dX8_meet_259 ?_
      refine r_iload_n hw dX8_meet_262 3 rfl ?_
      obtain ⟨h31, m111⟩ := h_ck m110
      clear m110
      refine r_laload hw h31 dX8_meet_263 ?_
      refine r_aload_n hw dX8_meet_264 1 rfl ?_
      refine r_getR hw fO_X8_42 h1 bq30 dX8_meet_265 ?_
      refine r_iload_n hw dX8_meet_268 2 rfl ?_
      obtain ⟨h32, m112⟩ := h_ck m111
      clear m111
      refine r_laload hw h32 dX8_meet_269 ?_
      refine r_lsub hw dX8_meet_270 ?_
      refine r_lload hw dX8_meet_271 4 rfl ?_
      refine r_lmul hw dX8_meet_273 ?_
      obtain ⟨l33, el33, m113⟩ := h_nm m112
      clear m112
      refine r_topL (w := w) el33 ?_
      refine r_lstore hw dX8_meet_274 (by decide) rfl ?_
      refine r_aload_n hw dX8_meet_276 2 rfl ?_
      obtain ⟨q34, bq34, m114⟩ := h_bd m113
      clear m113
      refine r_getR hw fO_X8_45 h1 bq34 dX8_meet_277 ?_
      refine r_iload_n hw dX8_meet_280 4 rfl ?_
      obtain ⟨h35, m115⟩ := h_ck m114
      clear m114
      refine r_laload hw h35 dX8_meet_281 ?_
      refine r_aload_n hw dX8_meet_282 2 rfl ?_
      refine r_getR hw fO_X8_45 h1 bq34 dX8_meet_283 ?_
      refine r_iload_n hw dX8_meet_286 3 rfl ?_
      obtain ⟨h36, m116⟩ := h_ck m115
      clear m115
      refine r_laload hw h36 dX8_meet_287 ?_
      refine r_lsub hw dX8_meet_288 ?_
      refine r_lload hw dX8_meet_289 5 rfl ?_
      refine r_lmul hw dX8_meet_291 ?_
      obtain ⟨l37, el37, m117⟩ := h_nm m116
      clear m116
      refine r_topL (w := w) el37 ?_
      refine r_lstore hw dX8_meet_292 (by decide) rfl ?_
      refine r_aload_n hw dX8_meet_294 3 rfl ?_
      refine r_aload_n hw dX8_meet_295 3 rfl ?_
      refine r_getI hw fO_X8_320 h1 dX8_meet_296 ?_
      refine r_if_ne (tgt := 328) hw dX8_meet_299 (by decide) (fun c38 => ?_) (fun c38 => ?_)
      · have m118 := h_if_f c38 m117
        clear m117
        refine r_sub hw [3, 4, 6, 7, 1, 0] rfl ?_
        exact J328 _ _ _ _ _ _ m118
      · have m119 := h_if_t c38 m117
        clear m117
        refine r_lload hw dX8_meet_302 1 rfl ?_
        refine r_lload hw dX8_meet_304 6 rfl ?_
        refine r_lload hw dX8_meet_306 7 rfl ?_
        refine r_lsub hw dX8_meet_308 ?_
        obtain ⟨h39, m120⟩ := h_ck m119
        clear m119
        refine r_lrem hw dX8_meet_309 h39 ?_
        refine r_lconst (v := 0) hw dX8_meet_310 rfl ?_
        refine r_lcmp_ne (tgt := 328) hw dX8_meet_311 dX8_meet_312 (by decide) (fun c40 => ?_) (fun c40 => ?_)
        · have m121 := h_if_f c40 m120
          clear m120
          refine r_sub hw [3, 4, 6, 7, 1, 0] rfl ?_
          exact J328 _ _ _ _ _ _ m121
        · have m122 := h_if_t c40 m120
          clear m120
          refine r_lload hw dX8_meet_315 0 rfl ?_
          refine r_lload hw dX8_meet_317 6 rfl ?_
          refine r_lload hw dX8_meet_319 7 rfl ?_
          refine r_lsub hw dX8_meet_321 ?_
          refine r_lrem hw dX8_meet_322 h39 ?_
          refine r_lconst (v := 0) hw dX8_meet_323 rfl ?_
          refine r_lcmp_eq (tgt := 332) hw dX8_meet_324 dX8_meet_325 (by decide) (fun c41 => ?_) (fun c41 => ?_)
          · have m123 := h_if_t c41 m122
            clear m122
            refine r_iconst (v := 0) hw dX8_meet_332 rfl ?_
            refine r_sub hw [3, 4, 6, 7, 1, 0] rfl ?_
            exact J333 _ _ _ _ _ _ _ m123
          · have m124 := h_if_f c41 m122
            clear m122
            refine r_sub hw [3, 4, 6, 7, 1, 0] rfl ?_
            exact J328 _ _ _ _ _ _ m124
    · have m125 := h_if_t c29 m108
      clear m108
      cases h_ret m125
      exact r_return hq rfl rfl dX8_meet_257
  have J249 : ∀ (M45 : Mm) (i42 : Int32) (l43 : Int64) (l44 : Int64), (mX8_meet_J249 K R M45 r a0 i42 l43 l44).bind some = some (M') → w 0 0 249 [(0, .ref r), (1, .int a0), (3, .int i42), (5, .long l43), (7, .long l44)] [] K R M45 := by
    intro M45 i42 l43 l44 m126
    unfold mX8_meet_J249 at m126
    refine r_iconst (v := 0) hw dX8_meet_249 rfl ?_
    exact J250 _ _ _ _ _ m126
  have J245 : ∀ (M49 : Mm) (i46 : Int32) (l47 : Int64) (l48 : Int64), (mX8_meet_J245 K R M49 r a0 i46 l47 l48).bind some = some (M') → w 0 0 245 [(0, .ref r), (1, .int a0), (3, .int i46), (5, .long l47), (7, .long l48)] [] K R M49 := by
    intro M49 i46 l47 l48 m127
    unfold mX8_meet_J245 at m127
    refine r_iconst (v := 1) hw dX8_meet_245 rfl ?_
    refine r_goto (tgt := 250) hw dX8_meet_246 (by decide) ?_
    exact J250 _ _ _ _ _ m127
  have J231 : ∀ (M55 : Mm) (i50 : Int32) (l51 : Int64) (l52 : Int64) (l53 : Int64) (l54 : Int64), (mX8_meet_J231 K R M55 r a0 i50 l51 l52 l53 l54).bind some = some (M') → w 0 0 231 [(0, .ref r), (1, .int a0), (3, .int i50), (5, .long l51), (7, .long l52), (9, .long l53), (11, .long l54)] [] K R M55 := by
    intro M55 i50 l51 l52 l53 l54 m128
    unfold mX8_meet_J231 at m128
    refine r_lload hw dX8_meet_231 5 rfl ?_
    refine r_lconst (v := 0) hw dX8_meet_233 rfl ?_
    refine r_lcmp_ge (tgt := 249) hw dX8_meet_234 dX8_meet_235 (by decide) (fun c56 => ?_) (fun c56 => ?_)
    · have m129 := h_if_f c56 m128
      clear m128
      refine r_sub hw [0, 1, 2, 3, 4] rfl ?_
      exact J249 _ _ _ _ m129
    · have m130 := h_if_t c56 m128
      clear m128
      refine r_lload hw dX8_meet_238 6 rfl ?_
      refine r_lconst (v := 0) hw dX8_meet_240 rfl ?_
      refine r_lcmp_le (tgt := 249) hw dX8_meet_241 dX8_meet_242 (by decide) (fun c57 => ?_) (fun c57 => ?_)
      · have m131 := h_if_t c57 m130
        clear m130
        refine r_sub hw [0, 1, 2, 3, 4] rfl ?_
        exact J249 _ _ _ _ m131
      · have m132 := h_if_f c57 m130
        clear m130
        refine r_sub hw [0, 1, 2, 3, 4] rfl ?_
        exact J245 _ _ _ _ m132
  have J217 : ∀ (M63 : Mm) (i58 : Int32) (l59 : Int64) (l60 : Int64) (l61 : Int64) (l62 : Int64), (mX8_meet_J217 K R M63 r a0 i58 l59 l60 l61 l62).bind some = some (M') → w 0 0 217 [(0, .ref r), (1, .int a0), (3, .int i58), (5, .long l59), (7, .long l60), (9, .long l61), (11, .long l62)] [] K R M63 := by
    intro M63 i58 l59 l60 l61 l62 m133
    unfold mX8_meet_J217 at m133
    refine r_lload hw dX8_meet_217 5 rfl ?_
    refine r_lconst (v := 0) hw dX8_meet_219 rfl ?_
    refine r_lcmp_le (tgt := 231) hw dX8_meet_220 dX8_meet_221 (by decide) (fun c64 => ?_) (fun c64 => ?_)
    · have m134 := h_if_t c64 m133
      clear m133
      exact J231 _ _ _ _ _ _ m134
    · have m135 := h_if_f c64 m133
      clear m133
      refine r_lload hw dX8_meet_224 6 rfl ?_
      refine r_lconst (v := 0) hw dX8_meet_226 rfl ?_
      refine r_lcmp_lt (tgt := 245) hw dX8_meet_227 dX8_meet_228 (by decide) (fun c65 => ?_) (fun c65 => ?_)
      · have m136 := h_if_t c65 m135
        clear m135
        refine r_sub hw [0, 1, 2, 3, 4] rfl ?_
        exact J245 _ _ _ _ m136
      · have m137 := h_if_f c65 m135
        clear m135
        exact J231 _ _ _ _ _ _ m137
  have J203 : ∀ (M71 : Mm) (i66 : Int32) (l67 : Int64) (l68 : Int64) (l69 : Int64) (l70 : Int64), (mX8_meet_J203 K R M71 r a0 i66 l67 l68 l69 l70).bind some = some (M') → w 0 0 203 [(0, .ref r), (1, .int a0), (3, .int i66), (5, .long l67), (7, .long l68), (9, .long l69), (11, .long l70)] [] K R M71 := by
    intro M71 i66 l67 l68 l69 l70 m138
    unfold mX8_meet_J203 at m138
    refine r_lload hw dX8_meet_203 3 rfl ?_
    refine r_lconst (v := 0) hw dX8_meet_205 rfl ?_
    refine r_lcmp_ge (tgt := 249) hw dX8_meet_206 dX8_meet_207 (by decide) (fun c72 => ?_) (fun c72 => ?_)
    · have m139 := h_if_f c72 m138
      clear m138
      refine r_sub hw [0, 1, 2, 3, 4] rfl ?_
      exact J249 _ _ _ _ m139
    · have m140 := h_if_t c72 m138
      clear m138
      refine r_lload hw dX8_meet_210 4 rfl ?_
      refine r_lconst (v := 0) hw dX8_meet_212 rfl ?_
      refine r_lcmp_le (tgt := 249) hw dX8_meet_213 dX8_meet_214 (by decide) (fun c73 => ?_) (fun c73 => ?_)
      · have m141 := h_if_t c73 m140
        clear m140
        refine r_sub hw [0, 1, 2, 3, 4] rfl ?_
        exact J249 _ _ _ _ m141
      · have m142 := h_if_f c73 m140
        clear m140
        exact J217 _ _ _ _ _ _ m142
  refine r_iload_n hw dX8_meet_0 1 rfl ?_
  refine r_iconst (v := 1) hw dX8_meet_1 rfl ?_
  refine r_iadd hw dX8_meet_2 ?_
  refine r_aload_n hw dX8_meet_3 0 rfl ?_
  refine r_getI hw fO_X8_146 h1 dX8_meet_4 ?_
  obtain ⟨h74, m143⟩ := h_ck m96
  clear m96
  refine r_irem hw dX8_meet_7 h74 ?_
  obtain ⟨i75, ei75, m144⟩ := h_nm m143
  clear m143
  refine r_topI (w := w) ei75 ?_
  refine r_istore_n hw dX8_meet_8 rfl (by decide) rfl ?_
  refine r_iload_n hw dX8_meet_9 3 rfl ?_
  refine r_iconst (v := 1) hw dX8_meet_10 rfl ?_
  refine r_iadd hw dX8_meet_11 ?_
  refine r_aload_n hw dX8_meet_12 1 rfl ?_
  refine r_getI hw fO_X8_153 h1 dX8_meet_13 ?_
  obtain ⟨h76, m145⟩ := h_ck m144
  clear m144
  refine r_irem hw dX8_meet_16 h76 ?_
  obtain ⟨i77, ei77, m146⟩ := h_nm m145
  clear m145
  refine r_topI (w := w) ei77 ?_
  refine r_istore hw dX8_meet_17 (by decide) rfl ?_
  refine r_aload_n hw dX8_meet_19 2 rfl ?_
  obtain ⟨q78, bq78, m147⟩ := h_bd m146
  clear m146
  refine r_getR hw fO_X8_48 h1 bq78 dX8_meet_20 ?_
  refine r_iload_n hw dX8_meet_23 4 rfl ?_
  obtain ⟨h79, m148⟩ := h_ck m147
  clear m147
  refine r_laload hw h79 dX8_meet_24 ?_
  refine r_aload_n hw dX8_meet_25 2 rfl ?_
  obtain ⟨q80, bq80, m149⟩ := h_bd m148
  clear m148
  refine r_getR hw fO_X8_51 h1 bq80 dX8_meet_26 ?_
  refine r_iload_n hw dX8_meet_29 4 rfl ?_
  obtain ⟨h81, m150⟩ := h_ck m149
  clear m149
  refine r_laload hw h81 dX8_meet_30 ?_
  refine r_aload_n hw dX8_meet_31 2 rfl ?_
  refine r_getR hw fO_X8_48 h1 bq78 dX8_meet_32 ?_
  refine r_iload hw dX8_meet_35 0 rfl ?_
  obtain ⟨h82, m151⟩ := h_ck m150
  clear m150
  refine r_laload hw h82 dX8_meet_37 ?_
  refine r_aload_n hw dX8_meet_38 2 rfl ?_
  refine r_getR hw fO_X8_51 h1 bq80 dX8_meet_39 ?_
  refine r_iload hw dX8_meet_42 0 rfl ?_
  obtain ⟨h83, m152⟩ := h_ck m151
  clear m151
  refine r_laload hw h83 dX8_meet_44 ?_
  refine r_aload_n hw dX8_meet_45 2 rfl ?_
  obtain ⟨q84, bq84, m153⟩ := h_bd m152
  clear m152
  refine r_getR hw fO_X8_42 h1 bq84 dX8_meet_46 ?_
  refine r_iload_n hw dX8_meet_49 3 rfl ?_
  obtain ⟨h85, m154⟩ := h_ck m153
  clear m153
  refine r_laload hw h85 dX8_meet_50 ?_
  refine r_aload_n hw dX8_meet_51 2 rfl ?_
  obtain ⟨q86, bq86, m155⟩ := h_bd m154
  clear m154
  refine r_getR hw fO_X8_45 h1 bq86 dX8_meet_52 ?_
  refine r_iload_n hw dX8_meet_55 3 rfl ?_
  obtain ⟨h87, m156⟩ := h_ck m155
  clear m155
  refine r_laload hw h87 dX8_meet_56 ?_
  obtain ⟨l88, g88, m157⟩ := h_bd m156
  clear m156
  refine r_callS1 hw (tX8_side l G b0 g88) lB_X8_side sT_X8_side mL_X8_128 rfl rfl (Nat.le_of_ble_eq_true rfl) (Nat.le_of_ble_eq_true rfl) rfl (Nat.le_of_ble_eq_true rfl) dX8_meet_57 ?_
  refine r_lstore hw dX8_meet_60 (by decide) rfl ?_
  refine r_aload_n hw dX8_meet_62 3 rfl ?_
  refine r_getR hw fO_X8_48 h1 bq78 dX8_meet_63 ?_
  refine r_iload_n hw dX8_meet_66 5 rfl ?_
  refine r_laload hw h79 dX8_meet_67 ?_
  refine r_aload_n hw dX8_meet_68 3 rfl ?_
  refine r_getR hw fO_X8_51 h1 bq80 dX8_meet_69 ?_
  refine r_iload_n hw dX8_meet_72 5 rfl ?_
  refine r_laload hw h81 dX8_meet_73 ?_
  refine r_aload_n hw dX8_meet_74 3 rfl ?_
  refine r_getR hw fO_X8_48 h1 bq78 dX8_meet_75 ?_
  refine r_iload hw dX8_meet_78 1 rfl ?_
  refine r_laload hw h82 dX8_meet_80 ?_
  refine r_aload_n hw dX8_meet_81 3 rfl ?_
  refine r_getR hw fO_X8_51 h1 bq80 dX8_meet_82 ?_
  refine r_iload hw dX8_meet_85 1 rfl ?_
  refine r_laload hw h83 dX8_meet_87 ?_
  refine r_aload_n hw dX8_meet_88 3 rfl ?_
  refine r_getR hw fO_X8_42 h1 bq84 dX8_meet_89 ?_
  refine r_iload_n hw dX8_meet_92 2 rfl ?_
  obtain ⟨h89, m158⟩ := h_ck m157
  clear m157
  refine r_laload hw h89 dX8_meet_93 ?_
  refine r_aload_n hw dX8_meet_94 3 rfl ?_
  refine r_getR hw fO_X8_45 h1 bq86 dX8_meet_95 ?_
  refine r_iload_n hw dX8_meet_98 2 rfl ?_
  obtain ⟨h90, m159⟩ := h_ck m158
  clear m158
  refine r_laload hw h90 dX8_meet_99 ?_
  obtain ⟨l91, g91, m160⟩ := h_bd m159
  clear m159
  refine r_callS1 hw (tX8_side l G b0 g91) lB_X8_side sT_X8_side mL_X8_128 rfl rfl (Nat.le_of_ble_eq_true rfl) (Nat.le_of_ble_eq_true rfl) rfl (Nat.le_of_ble_eq_true rfl) dX8_meet_100 ?_
  refine r_lstore hw dX8_meet_103 (by decide) rfl ?_
  refine r_aload_n hw dX8_meet_105 4 rfl ?_
  refine r_getR hw fO_X8_42 h1 bq84 dX8_meet_106 ?_
  refine r_iload_n hw dX8_meet_109 5 rfl ?_
  refine r_laload hw h85 dX8_meet_110 ?_
  refine r_aload_n hw dX8_meet_111 4 rfl ?_
  refine r_getR hw fO_X8_45 h1 bq86 dX8_meet_112 ?_
  refine r_iload_n hw dX8_meet_115 5 rfl ?_
  refine r_laload hw h87 dX8_meet_116 ?_
  refine r_aload_n hw dX8_meet_117 4 rfl ?_
  refine r_getR hw fO_X8_42 h1 bq84 dX8_meet_118 ?_
  refine r_iload_n hw dX8_meet_121 3 rfl ?_
  refine r_laload hw h89 dX8_meet_122 ?_
  refine r_aload_n hw dX8_meet_123 4 rfl ?_
  refine r_getR hw fO_X8_45 h1 bq86 dX8_meet_124 ?_
  refine r_iload_n hw dX8_meet_127 3 rfl ?_
  refine r_laload hw h90 dX8_meet_128 ?_
  refine r_aload_n hw dX8_meet_129 4 rfl ?_
  refine r_getR hw fO_X8_48 h1 bq78 dX8_meet_130 ?_
  refine r_iload_n hw dX8_meet_133 6 rfl ?_
  refine r_laload hw h79 dX8_meet_134 ?_
  refine r_aload_n hw dX8_meet_135 4 rfl ?_
  refine r_getR hw fO_X8_51 h1 bq80 dX8_meet_136 ?_
  refine r_iload_n hw dX8_meet_139 6 rfl ?_
  refine r_laload hw h81 dX8_meet_140 ?_
  obtain ⟨l92, g92, m161⟩ := h_bd m160
  clear m160
  refine r_callS1 hw (tX8_side l G b0 g92) lB_X8_side sT_X8_side mL_X8_128 rfl rfl (Nat.le_of_ble_eq_true rfl) (Nat.le_of_ble_eq_true rfl) rfl (Nat.le_of_ble_eq_true rfl) dX8_meet_141 ?_
  refine r_lstore hw dX8_meet_144 (by decide) rfl ?_
  refine r_aload_n hw dX8_meet_146 5 rfl ?_
  refine r_getR hw fO_X8_42 h1 bq84 dX8_meet_147 ?_
  refine r_iload_n hw dX8_meet_150 6 rfl ?_
  refine r_laload hw h85 dX8_meet_151 ?_
  refine r_aload_n hw dX8_meet_152 5 rfl ?_
  refine r_getR hw fO_X8_45 h1 bq86 dX8_meet_153 ?_
  refine r_iload_n hw dX8_meet_156 6 rfl ?_
  refine r_laload hw h87 dX8_meet_157 ?_
  refine r_aload_n hw dX8_meet_158 5 rfl ?_
  refine r_getR hw fO_X8_42 h1 bq84 dX8_meet_159 ?_
  refine r_iload_n hw dX8_meet_162 4 rfl ?_
  refine r_laload hw h89 dX8_meet_163 ?_
  refine r_aload_n hw dX8_meet_164 5 rfl ?_
  refine r_getR hw fO_X8_45 h1 bq86 dX8_meet_165 ?_
  refine r_iload_n hw dX8_meet_168 4 rfl ?_
  refine r_laload hw h90 dX8_meet_169 ?_
  refine r_aload_n hw dX8_meet_170 5 rfl ?_
  refine r_getR hw fO_X8_48 h1 bq78 dX8_meet_171 ?_
  refine r_iload hw dX8_meet_174 3 rfl ?_
  refine r_laload hw h82 dX8_meet_176 ?_
  refine r_aload_n hw dX8_meet_177 5 rfl ?_
  refine r_getR hw fO_X8_51 h1 bq80 dX8_meet_178 ?_
  refine r_iload hw dX8_meet_181 3 rfl ?_
  refine r_laload hw h83 dX8_meet_183 ?_
  obtain ⟨l93, g93, m162⟩ := h_bd m161
  clear m161
  refine r_callS1 hw (tX8_side l G b0 g93) lB_X8_side sT_X8_side mL_X8_128 rfl rfl (Nat.le_of_ble_eq_true rfl) (Nat.le_of_ble_eq_true rfl) rfl (Nat.le_of_ble_eq_true rfl) dX8_meet_184 ?_
  refine r_lstore hw dX8_meet_187 (by decide) rfl ?_
  refine r_lload hw dX8_meet_189 3 rfl ?_
  refine r_lconst (v := 0) hw dX8_meet_191 rfl ?_
  refine r_lcmp_le (tgt := 203) hw dX8_meet_192 dX8_meet_193 (by decide) (fun c94 => ?_) (fun c94 => ?_)
  · have m163 := h_if_t c94 m162
    clear m162
    refine r_sub hw [6, 7, 5, 3, 2, 1, 0] rfl ?_
    exact J203 _ _ _ _ _ _ m163
  · have m164 := h_if_f c94 m162
    clear m162
    refine r_lload hw dX8_meet_196 2 rfl ?_
    refine r_lconst (v := 0) hw dX8_meet_198 rfl ?_
    refine r_lcmp_lt (tgt := 217) hw dX8_meet_199 dX8_meet_200 (by decide) (fun c95 => ?_) (fun c95 => ?_)
    · have m165 := h_if_t c95 m164
      clear m164
      refine r_sub hw [6, 7, 5, 3, 2, 1, 0] rfl ?_
      exact J217 _ _ _ _ _ _ m165
    · have m166 := h_if_f c95 m164
      clear m164
      refine r_sub hw [6, 7, 5, 3, 2, 1, 0] rfl ?_
      exact J203 _ _ _ _ _ _ m166
theorem dX8_inBoth_0 : decode cX8_inBoth 0 = .ok (.aload_n 0, 1) := by decide +kernel
theorem dX8_inBoth_1 : decode cX8_inBoth 1 = .ok (.iconst 0, 1) := by decide +kernel
theorem dX8_inBoth_2 : decode cX8_inBoth 2 = .ok (.putfield 320, 3) := by decide +kernel
theorem dX8_inBoth_5 : decode cX8_inBoth 5 = .ok (.aload_n 0, 1) := by decide +kernel
theorem dX8_inBoth_6 : decode cX8_inBoth 6 = .ok (.invokevirtual 132, 3) := by decide +kernel
theorem dX8_inBoth_9 : decode cX8_inBoth 9 = .ok (.iconst 0, 1) := by decide +kernel
theorem dX8_inBoth_10 : decode cX8_inBoth 10 = .ok (.istore_n 1, 1) := by decide +kernel
theorem dX8_inBoth_11 : decode cX8_inBoth 11 = .ok (.iload_n 1, 1) := by decide +kernel
theorem dX8_inBoth_12 : decode cX8_inBoth 12 = .ok (.aload_n 0, 1) := by decide +kernel
theorem dX8_inBoth_13 : decode cX8_inBoth 13 = .ok (.getfield 146, 3) := by decide +kernel
theorem dX8_inBoth_16 : decode cX8_inBoth 16 = .ok (.if_icmp .ge 44, 3) := by decide +kernel
theorem dX8_inBoth_19 : decode cX8_inBoth 19 = .ok (.aload_n 0, 1) := by decide +kernel
theorem dX8_inBoth_20 : decode cX8_inBoth 20 = .ok (.aload_n 0, 1) := by decide +kernel
theorem dX8_inBoth_21 : decode cX8_inBoth 21 = .ok (.getfield 42, 3) := by decide +kernel
theorem dX8_inBoth_24 : decode cX8_inBoth 24 = .ok (.iload_n 1, 1) := by decide +kernel
theorem dX8_inBoth_25 : decode cX8_inBoth 25 = .ok (.laload, 1) := by decide +kernel
theorem dX8_inBoth_26 : decode cX8_inBoth 26 = .ok (.aload_n 0, 1) := by decide +kernel
theorem dX8_inBoth_27 : decode cX8_inBoth 27 = .ok (.getfield 45, 3) := by decide +kernel
theorem dX8_inBoth_30 : decode cX8_inBoth 30 = .ok (.iload_n 1, 1) := by decide +kernel
theorem dX8_inBoth_31 : decode cX8_inBoth 31 = .ok (.laload, 1) := by decide +kernel
theorem dX8_inBoth_32 : decode cX8_inBoth 32 = .ok (.invokevirtual 284, 3) := by decide +kernel
theorem dX8_inBoth_35 : decode cX8_inBoth 35 = .ok (.ifCond .eq 19, 3) := by decide +kernel
theorem dX8_inBoth_38 : decode cX8_inBoth 38 = .ok (.aload_n 0, 1) := by decide +kernel
theorem dX8_inBoth_39 : decode cX8_inBoth 39 = .ok (.aload_n 0, 1) := by decide +kernel
theorem dX8_inBoth_40 : decode cX8_inBoth 40 = .ok (.getfield 42, 3) := by decide +kernel
theorem dX8_inBoth_43 : decode cX8_inBoth 43 = .ok (.iload_n 1, 1) := by decide +kernel
theorem dX8_inBoth_44 : decode cX8_inBoth 44 = .ok (.laload, 1) := by decide +kernel
theorem dX8_inBoth_45 : decode cX8_inBoth 45 = .ok (.aload_n 0, 1) := by decide +kernel
theorem dX8_inBoth_46 : decode cX8_inBoth 46 = .ok (.getfield 45, 3) := by decide +kernel
theorem dX8_inBoth_49 : decode cX8_inBoth 49 = .ok (.iload_n 1, 1) := by decide +kernel
theorem dX8_inBoth_50 : decode cX8_inBoth 50 = .ok (.laload, 1) := by decide +kernel
theorem dX8_inBoth_51 : decode cX8_inBoth 51 = .ok (.invokevirtual 139, 3) := by decide +kernel
theorem dX8_inBoth_54 : decode cX8_inBoth 54 = .ok (.iinc 1 1, 3) := by decide +kernel
theorem dX8_inBoth_57 : decode cX8_inBoth 57 = .ok (.goto (-46), 3) := by decide +kernel
theorem dX8_inBoth_60 : decode cX8_inBoth 60 = .ok (.iconst 0, 1) := by decide +kernel
theorem dX8_inBoth_61 : decode cX8_inBoth 61 = .ok (.istore_n 1, 1) := by decide +kernel
theorem dX8_inBoth_62 : decode cX8_inBoth 62 = .ok (.iload_n 1, 1) := by decide +kernel
theorem dX8_inBoth_63 : decode cX8_inBoth 63 = .ok (.aload_n 0, 1) := by decide +kernel
theorem dX8_inBoth_64 : decode cX8_inBoth 64 = .ok (.getfield 153, 3) := by decide +kernel
theorem dX8_inBoth_67 : decode cX8_inBoth 67 = .ok (.if_icmp .ge 44, 3) := by decide +kernel
theorem dX8_inBoth_70 : decode cX8_inBoth 70 = .ok (.aload_n 0, 1) := by decide +kernel
theorem dX8_inBoth_71 : decode cX8_inBoth 71 = .ok (.aload_n 0, 1) := by decide +kernel
theorem dX8_inBoth_72 : decode cX8_inBoth 72 = .ok (.getfield 48, 3) := by decide +kernel
theorem dX8_inBoth_75 : decode cX8_inBoth 75 = .ok (.iload_n 1, 1) := by decide +kernel
theorem dX8_inBoth_76 : decode cX8_inBoth 76 = .ok (.laload, 1) := by decide +kernel
theorem dX8_inBoth_77 : decode cX8_inBoth 77 = .ok (.aload_n 0, 1) := by decide +kernel
theorem dX8_inBoth_78 : decode cX8_inBoth 78 = .ok (.getfield 51, 3) := by decide +kernel
theorem dX8_inBoth_81 : decode cX8_inBoth 81 = .ok (.iload_n 1, 1) := by decide +kernel
theorem dX8_inBoth_82 : decode cX8_inBoth 82 = .ok (.laload, 1) := by decide +kernel
theorem dX8_inBoth_83 : decode cX8_inBoth 83 = .ok (.invokevirtual 281, 3) := by decide +kernel
theorem dX8_inBoth_86 : decode cX8_inBoth 86 = .ok (.ifCond .eq 19, 3) := by decide +kernel
theorem dX8_inBoth_89 : decode cX8_inBoth 89 = .ok (.aload_n 0, 1) := by decide +kernel
theorem dX8_inBoth_90 : decode cX8_inBoth 90 = .ok (.aload_n 0, 1) := by decide +kernel
theorem dX8_inBoth_91 : decode cX8_inBoth 91 = .ok (.getfield 48, 3) := by decide +kernel
theorem dX8_inBoth_94 : decode cX8_inBoth 94 = .ok (.iload_n 1, 1) := by decide +kernel
theorem dX8_inBoth_95 : decode cX8_inBoth 95 = .ok (.laload, 1) := by decide +kernel
theorem dX8_inBoth_96 : decode cX8_inBoth 96 = .ok (.aload_n 0, 1) := by decide +kernel
theorem dX8_inBoth_97 : decode cX8_inBoth 97 = .ok (.getfield 51, 3) := by decide +kernel
theorem dX8_inBoth_100 : decode cX8_inBoth 100 = .ok (.iload_n 1, 1) := by decide +kernel
theorem dX8_inBoth_101 : decode cX8_inBoth 101 = .ok (.laload, 1) := by decide +kernel
theorem dX8_inBoth_102 : decode cX8_inBoth 102 = .ok (.invokevirtual 139, 3) := by decide +kernel
theorem dX8_inBoth_105 : decode cX8_inBoth 105 = .ok (.iinc 1 1, 3) := by decide +kernel
theorem dX8_inBoth_108 : decode cX8_inBoth 108 = .ok (.goto (-46), 3) := by decide +kernel
theorem dX8_inBoth_111 : decode cX8_inBoth 111 = .ok (.iconst 0, 1) := by decide +kernel
theorem dX8_inBoth_112 : decode cX8_inBoth 112 = .ok (.istore_n 1, 1) := by decide +kernel
theorem dX8_inBoth_113 : decode cX8_inBoth 113 = .ok (.iload_n 1, 1) := by decide +kernel
theorem dX8_inBoth_114 : decode cX8_inBoth 114 = .ok (.aload_n 0, 1) := by decide +kernel
theorem dX8_inBoth_115 : decode cX8_inBoth 115 = .ok (.getfield 146, 3) := by decide +kernel
theorem dX8_inBoth_118 : decode cX8_inBoth 118 = .ok (.if_icmp .ge 31, 3) := by decide +kernel
theorem dX8_inBoth_121 : decode cX8_inBoth 121 = .ok (.iconst 0, 1) := by decide +kernel
theorem dX8_inBoth_122 : decode cX8_inBoth 122 = .ok (.istore_n 2, 1) := by decide +kernel
theorem dX8_inBoth_123 : decode cX8_inBoth 123 = .ok (.iload_n 2, 1) := by decide +kernel
theorem dX8_inBoth_124 : decode cX8_inBoth 124 = .ok (.aload_n 0, 1) := by decide +kernel
theorem dX8_inBoth_125 : decode cX8_inBoth 125 = .ok (.getfield 153, 3) := by decide +kernel
theorem dX8_inBoth_128 : decode cX8_inBoth 128 = .ok (.if_icmp .ge 15, 3) := by decide +kernel
theorem dX8_inBoth_131 : decode cX8_inBoth 131 = .ok (.aload_n 0, 1) := by decide +kernel
theorem dX8_inBoth_132 : decode cX8_inBoth 132 = .ok (.iload_n 1, 1) := by decide +kernel
theorem dX8_inBoth_133 : decode cX8_inBoth 133 = .ok (.iload_n 2, 1) := by decide +kernel
theorem dX8_inBoth_134 : decode cX8_inBoth 134 = .ok (.invokevirtual 324, 3) := by decide +kernel
theorem dX8_inBoth_137 : decode cX8_inBoth 137 = .ok (.iinc 2 1, 3) := by decide +kernel
theorem dX8_inBoth_140 : decode cX8_inBoth 140 = .ok (.goto (-17), 3) := by decide +kernel
theorem dX8_inBoth_143 : decode cX8_inBoth 143 = .ok (.iinc 1 1, 3) := by decide +kernel
theorem dX8_inBoth_146 : decode cX8_inBoth 146 = .ok (.goto (-33), 3) := by decide +kernel
theorem dX8_inBoth_149 : decode cX8_inBoth 149 = .ok (.aload_n 0, 1) := by decide +kernel
theorem dX8_inBoth_150 : decode cX8_inBoth 150 = .ok (.getfield 320, 3) := by decide +kernel
theorem dX8_inBoth_153 : decode cX8_inBoth 153 = .ok (.ifCond .ne 7, 3) := by decide +kernel
theorem dX8_inBoth_156 : decode cX8_inBoth 156 = .ok (.aload_n 0, 1) := by decide +kernel
theorem dX8_inBoth_157 : decode cX8_inBoth 157 = .ok (.invokevirtual 143, 3) := by decide +kernel
theorem dX8_inBoth_160 : decode cX8_inBoth 160 = .ok (.return_, 1) := by decide +kernel
set_option maxHeartbeats 4000000 in
set_option maxRecDepth 100000 in
theorem tX8_inBoth (l : Launch) (G : Gg) (b0 : Nat) {K : Kk} {R : Rr} {M : Mm} {r : Nat} {M' : Mm} (hm : mX8_inBoth K R M r = some (M')) : CT l G b0 yX8_inBoth cX8_inBoth 3 none (rmz 4 87) [.ref r] K R M none K R M' := by
  refine ct_of (by decide +kernel) (Nat.le_of_ble_eq_true rfl) (fun w hq => ?_)
  have hw := hq.b
  change w 0 0 0 [(0, .ref r)] [] K R M
  replace hm := h_start hm
  unfold mX8_inBoth at hm
  obtain ⟨h1, m45⟩ := h_ck hm
  clear hm
  refine r_aload_n hw dX8_inBoth_0 0 rfl ?_
  refine r_iconst (v := 0) hw dX8_inBoth_1 rfl ?_
  obtain ⟨M2, eM2, m46⟩ := h_nm m45
  clear m45
  refine r_putZ hw fP_X8_320 h1 isB_0 dX8_inBoth_2 (r_mem ?_ rfl eM2)
  refine r_aload_n hw dX8_inBoth_5 0 rfl ?_
  obtain ⟨M3, g3, m47⟩ := h_bd m46
  clear m46
  refine r_callV0 hw (tX8_beginPoints l G b0 g3) lB_X8_beginPoints lI_X8_beginPoints mL_X8_132 (c := 8) rfl h1 rfl (Nat.le_of_ble_eq_true rfl) (Nat.le_of_ble_eq_true rfl) rfl (Nat.le_of_ble_eq_true rfl) dX8_inBoth_6 ?_
  refine r_iconst (v := 0) hw dX8_inBoth_9 rfl ?_
  obtain ⟨i4, ei4, m48⟩ := h_nm m47
  clear m47
  refine r_topI (w := w) ei4 ?_
  refine r_istore_n hw dX8_inBoth_10 rfl (by decide) rfl ?_
  refine r_sub hw [1, 0] rfl ?_
  obtain ⟨v11, n011, hn11, hv11⟩ := h_lp m48
  clear m48
  have L11 : ∀ n : Nat, ∀ (i5 : Int32) (M6 : Mm), it (mX8_inBoth_L11 K R r) n (i5, M6) = some v11 → w 0 0 11 [(0, .ref r), (1, .int i5)] [] K R M6 := by
    intro n11
    induction n11 with
    | zero => intro i5 M6 hz; exact absurd hz h_it0
    | succ n11 ih11 =>
      intro i5 M6 m49
      replace m49 : (mX8_inBoth_B11 K R r i5 M6).bind (Sum.elim (it (mX8_inBoth_L11 K R r) n11) some) = some v11 := m49
      unfold mX8_inBoth_B11 at m49
      have J54 : ∀ (M8 : Mm) (i7 : Int32), (mX8_inBoth_J54 K R M8 r i7).bind (Sum.elim (it (mX8_inBoth_L11 K R r) n11) some) = some v11 → w 0 0 54 [(0, .ref r), (1, .int i7)] [] K R M8 := by
        intro M8 i7 m50
        unfold mX8_inBoth_J54 at m50
        obtain ⟨i9, ei9, m51⟩ := h_nm m50
        clear m50
        refine r_iinc (j := 1) (v := i9) hw dX8_inBoth_54 rfl (by rw [ei9]; rfl) (by decide) rfl ?_
        refine r_goto (tgt := 11) hw dX8_inBoth_57 (by decide) ?_
        refine r_sub hw [1, 0] rfl ?_
        exact ih11 _ _ m51
      refine r_iload_n hw dX8_inBoth_11 1 rfl ?_
      refine r_aload_n hw dX8_inBoth_12 0 rfl ?_
      refine r_getI hw fO_X8_146 h1 dX8_inBoth_13 ?_
      refine r_icmp_ge (tgt := 60) hw dX8_inBoth_16 (by decide) (fun c10 => ?_) (fun c10 => ?_)
      · have m52 := h_if_f c10 m49
        clear m49
        have m53 := h_ex m52 hv11
        clear m52
        refine r_iconst (v := 0) hw dX8_inBoth_60 rfl ?_
        obtain ⟨i11, ei11, m54⟩ := h_nm m53
        clear m53
        refine r_topI (w := w) ei11 ?_
        refine r_istore_n hw dX8_inBoth_61 rfl (by decide) rfl ?_
        refine r_sub hw [1, 0] rfl ?_
        obtain ⟨v62, n062, hn62, hv62⟩ := h_lp m54
        clear m54
        have L62 : ∀ n : Nat, ∀ (i12 : Int32) (M13 : Mm), it (mX8_inBoth_L62 K R r) n (i12, M13) = some v62 → w 0 0 62 [(0, .ref r), (1, .int i12)] [] K R M13 := by
          intro n62
          induction n62 with
          | zero => intro i12 M13 hz; exact absurd hz h_it0
          | succ n62 ih62 =>
            intro i12 M13 m55
            replace m55 : (mX8_inBoth_B62 K R r i12 M13).bind (Sum.elim (it (mX8_inBoth_L62 K R r) n62) some) = some v62 := m55
            unfold mX8_inBoth_B62 at m55
            have J105 : ∀ (M15 : Mm) (i14 : Int32), (mX8_inBoth_J105 K R M15 r i14).bind (Sum.elim (it (mX8_inBoth_L62 K R r) n62) some) = some v62 → w 0 0 105 [(0, .ref r), (1, .int i14)] [] K R M15 := by
              intro M15 i14 m56
              unfold mX8_inBoth_J105 at m56
              obtain ⟨i16, ei16, m57⟩ := h_nm m56
              clear m56
              refine r_iinc (j := 1) (v := i16) hw dX8_inBoth_105 rfl (by rw [ei16]; rfl) (by decide) rfl ?_
              refine r_goto (tgt := 62) hw dX8_inBoth_108 (by decide) ?_
              refine r_sub hw [1, 0] rfl ?_
              exact ih62 _ _ m57
            refine r_iload_n hw dX8_inBoth_62 1 rfl ?_
            refine r_aload_n hw dX8_inBoth_63 0 rfl ?_
            refine r_getI hw fO_X8_153 h1 dX8_inBoth_64 ?_
            refine r_icmp_ge (tgt := 111) hw dX8_inBoth_67 (by decide) (fun c17 => ?_) (fun c17 => ?_)
            · have m58 := h_if_f c17 m55
              clear m55
              have m59 := h_ex m58 hv62
              clear m58
              refine r_iconst (v := 0) hw dX8_inBoth_111 rfl ?_
              obtain ⟨i18, ei18, m60⟩ := h_nm m59
              clear m59
              refine r_topI (w := w) ei18 ?_
              refine r_istore_n hw dX8_inBoth_112 rfl (by decide) rfl ?_
              refine r_sub hw [1, 0] rfl ?_
              obtain ⟨v113, n0113, hn113, hv113⟩ := h_lp m60
              clear m60
              have L113 : ∀ n : Nat, ∀ (i19 : Int32) (M20 : Mm), it (mX8_inBoth_L113 K R r) n (i19, M20) = some v113 → w 0 0 113 [(0, .ref r), (1, .int i19)] [] K R M20 := by
                intro n113
                induction n113 with
                | zero => intro i19 M20 hz; exact absurd hz h_it0
                | succ n113 ih113 =>
                  intro i19 M20 m61
                  replace m61 : (mX8_inBoth_B113 K R r i19 M20).bind (Sum.elim (it (mX8_inBoth_L113 K R r) n113) some) = some v113 := m61
                  unfold mX8_inBoth_B113 at m61
                  refine r_iload_n hw dX8_inBoth_113 1 rfl ?_
                  refine r_aload_n hw dX8_inBoth_114 0 rfl ?_
                  refine r_getI hw fO_X8_146 h1 dX8_inBoth_115 ?_
                  refine r_icmp_ge (tgt := 149) hw dX8_inBoth_118 (by decide) (fun c21 => ?_) (fun c21 => ?_)
                  · have m62 := h_if_f c21 m61
                    clear m61
                    have m63 := h_ex m62 hv113
                    clear m62
                    refine r_aload_n hw dX8_inBoth_149 0 rfl ?_
                    refine r_getI hw fO_X8_320 h1 dX8_inBoth_150 ?_
                    refine r_if_ne (tgt := 160) hw dX8_inBoth_153 (by decide) (fun c22 => ?_) (fun c22 => ?_)
                    · have m64 := h_if_f c22 m63
                      clear m63
                      cases h_ret m64
                      exact r_return hq rfl rfl dX8_inBoth_160
                    · have m65 := h_if_t c22 m63
                      clear m63
                      refine r_aload_n hw dX8_inBoth_156 0 rfl ?_
                      obtain ⟨M23, g23, m66⟩ := h_bd m65
                      clear m65
                      refine r_callV0 hw (tX8_outermost l G b0 g23) lB_X8_outermost lI_X8_outermost mL_X8_143 (c := 8) rfl h1 rfl (Nat.le_of_ble_eq_true rfl) (Nat.le_of_ble_eq_true rfl) rfl (Nat.le_of_ble_eq_true rfl) dX8_inBoth_157 ?_
                      cases h_ret m66
                      exact r_return hq rfl rfl dX8_inBoth_160
                  · have m67 := h_if_t c21 m61
                    clear m61
                    refine r_iconst (v := 0) hw dX8_inBoth_121 rfl ?_
                    obtain ⟨i24, ei24, m68⟩ := h_nm m67
                    clear m67
                    refine r_topI (w := w) ei24 ?_
                    refine r_istore_n hw dX8_inBoth_122 rfl (by decide) rfl ?_
                    refine r_sub hw [1, 2, 0] rfl ?_
                    obtain ⟨v123, n0123, hn123, hv123⟩ := h_lp m68
                    clear m68
                    have L123 : ∀ n : Nat, ∀ (i25 : Int32) (M26 : Mm), it (mX8_inBoth_L123 K R r i19) n (i25, M26) = some v123 → w 0 0 123 [(0, .ref r), (1, .int i19), (2, .int i25)] [] K R M26 := by
                      intro n123
                      induction n123 with
                      | zero => intro i25 M26 hz; exact absurd hz h_it0
                      | succ n123 ih123 =>
                        intro i25 M26 m69
                        replace m69 : (mX8_inBoth_B123 K R r i19 i25 M26).bind (Sum.elim (it (mX8_inBoth_L123 K R r i19) n123) some) = some v123 := m69
                        unfold mX8_inBoth_B123 at m69
                        refine r_iload_n hw dX8_inBoth_123 2 rfl ?_
                        refine r_aload_n hw dX8_inBoth_124 0 rfl ?_
                        refine r_getI hw fO_X8_153 h1 dX8_inBoth_125 ?_
                        refine r_icmp_ge (tgt := 143) hw dX8_inBoth_128 (by decide) (fun c27 => ?_) (fun c27 => ?_)
                        · have m70 := h_if_f c27 m69
                          clear m69
                          have m71 := h_ex m70 hv123
                          clear m70
                          obtain ⟨i28, ei28, m72⟩ := h_nm m71
                          clear m71
                          refine r_iinc (j := 1) (v := i28) hw dX8_inBoth_143 rfl (by rw [ei28]; rfl) (by decide) rfl ?_
                          refine r_goto (tgt := 113) hw dX8_inBoth_146 (by decide) ?_
                          refine r_sub hw [1, 0] rfl ?_
                          exact ih113 _ _ m72
                        · have m73 := h_if_t c27 m69
                          clear m69
                          refine r_aload_n hw dX8_inBoth_131 0 rfl ?_
                          refine r_iload_n hw dX8_inBoth_132 1 rfl ?_
                          refine r_iload_n hw dX8_inBoth_133 2 rfl ?_
                          obtain ⟨M29, g29, m74⟩ := h_bd m73
                          clear m73
                          refine r_callV0 hw (tX8_meet l G b0 g29) lB_X8_meet lI_X8_meet mL_X8_324 (c := 8) rfl h1 rfl (Nat.le_of_ble_eq_true rfl) (Nat.le_of_ble_eq_true rfl) rfl (Nat.le_of_ble_eq_true rfl) dX8_inBoth_134 ?_
                          obtain ⟨i30, ei30, m75⟩ := h_nm m74
                          clear m74
                          refine r_iinc (j := 2) (v := i30) hw dX8_inBoth_137 rfl (by rw [ei30]; rfl) (by decide) rfl ?_
                          refine r_goto (tgt := 123) hw dX8_inBoth_140 (by decide) ?_
                          refine r_sub hw [1, 2, 0] rfl ?_
                          exact ih123 _ _ m75
                    exact L123 n0123 _ _ hn123
              exact L113 n0113 _ _ hn113
            · have m76 := h_if_t c17 m55
              clear m55
              refine r_aload_n hw dX8_inBoth_70 0 rfl ?_
              refine r_aload_n hw dX8_inBoth_71 0 rfl ?_
              obtain ⟨q31, bq31, m77⟩ := h_bd m76
              clear m76
              refine r_getR hw fO_X8_48 h1 bq31 dX8_inBoth_72 ?_
              refine r_iload_n hw dX8_inBoth_75 1 rfl ?_
              obtain ⟨h32, m78⟩ := h_ck m77
              clear m77
              refine r_laload hw h32 dX8_inBoth_76 ?_
              refine r_aload_n hw dX8_inBoth_77 0 rfl ?_
              obtain ⟨q33, bq33, m79⟩ := h_bd m78
              clear m78
              refine r_getR hw fO_X8_51 h1 bq33 dX8_inBoth_78 ?_
              refine r_iload_n hw dX8_inBoth_81 1 rfl ?_
              obtain ⟨h34, m80⟩ := h_ck m79
              clear m79
              refine r_laload hw h34 dX8_inBoth_82 ?_
              obtain ⟨i35, g35, m81⟩ := h_bd m80
              clear m80
              refine r_callV1 hw (tX8_hasA l G b0 g35) lB_X8_hasA lI_X8_hasA mL_X8_281 (c := 8) rfl h1 rfl (Nat.le_of_ble_eq_true rfl) (Nat.le_of_ble_eq_true rfl) rfl (Nat.le_of_ble_eq_true rfl) dX8_inBoth_83 ?_
              refine r_if_eq (tgt := 105) hw dX8_inBoth_86 (by decide) (fun c36 => ?_) (fun c36 => ?_)
              · have m82 := h_if_t c36 m81
                clear m81
                exact J105 _ _ m82
              · have m83 := h_if_f c36 m81
                clear m81
                refine r_aload_n hw dX8_inBoth_89 0 rfl ?_
                refine r_aload_n hw dX8_inBoth_90 0 rfl ?_
                refine r_getR hw fO_X8_48 h1 bq31 dX8_inBoth_91 ?_
                refine r_iload_n hw dX8_inBoth_94 1 rfl ?_
                refine r_laload hw h32 dX8_inBoth_95 ?_
                refine r_aload_n hw dX8_inBoth_96 0 rfl ?_
                refine r_getR hw fO_X8_51 h1 bq33 dX8_inBoth_97 ?_
                refine r_iload_n hw dX8_inBoth_100 1 rfl ?_
                refine r_laload hw h34 dX8_inBoth_101 ?_
                obtain ⟨M37, g37, m84⟩ := h_bd m83
                clear m83
                refine r_callV0 hw (tX8_point l G b0 g37) lB_X8_point lI_X8_point mL_X8_139 (c := 8) rfl h1 rfl (Nat.le_of_ble_eq_true rfl) (Nat.le_of_ble_eq_true rfl) rfl (Nat.le_of_ble_eq_true rfl) dX8_inBoth_102 ?_
                exact J105 _ _ m84
        exact L62 n062 _ _ hn62
      · have m85 := h_if_t c10 m49
        clear m49
        refine r_aload_n hw dX8_inBoth_19 0 rfl ?_
        refine r_aload_n hw dX8_inBoth_20 0 rfl ?_
        obtain ⟨q38, bq38, m86⟩ := h_bd m85
        clear m85
        refine r_getR hw fO_X8_42 h1 bq38 dX8_inBoth_21 ?_
        refine r_iload_n hw dX8_inBoth_24 1 rfl ?_
        obtain ⟨h39, m87⟩ := h_ck m86
        clear m86
        refine r_laload hw h39 dX8_inBoth_25 ?_
        refine r_aload_n hw dX8_inBoth_26 0 rfl ?_
        obtain ⟨q40, bq40, m88⟩ := h_bd m87
        clear m87
        refine r_getR hw fO_X8_45 h1 bq40 dX8_inBoth_27 ?_
        refine r_iload_n hw dX8_inBoth_30 1 rfl ?_
        obtain ⟨h41, m89⟩ := h_ck m88
        clear m88
        refine r_laload hw h41 dX8_inBoth_31 ?_
        obtain ⟨i42, g42, m90⟩ := h_bd m89
        clear m89
        refine r_callV1 hw (tX8_hasB l G b0 g42) lB_X8_hasB lI_X8_hasB mL_X8_284 (c := 8) rfl h1 rfl (Nat.le_of_ble_eq_true rfl) (Nat.le_of_ble_eq_true rfl) rfl (Nat.le_of_ble_eq_true rfl) dX8_inBoth_32 ?_
        refine r_if_eq (tgt := 54) hw dX8_inBoth_35 (by decide) (fun c43 => ?_) (fun c43 => ?_)
        · have m91 := h_if_t c43 m90
          clear m90
          exact J54 _ _ m91
        · have m92 := h_if_f c43 m90
          clear m90
          refine r_aload_n hw dX8_inBoth_38 0 rfl ?_
          refine r_aload_n hw dX8_inBoth_39 0 rfl ?_
          refine r_getR hw fO_X8_42 h1 bq38 dX8_inBoth_40 ?_
          refine r_iload_n hw dX8_inBoth_43 1 rfl ?_
          refine r_laload hw h39 dX8_inBoth_44 ?_
          refine r_aload_n hw dX8_inBoth_45 0 rfl ?_
          refine r_getR hw fO_X8_45 h1 bq40 dX8_inBoth_46 ?_
          refine r_iload_n hw dX8_inBoth_49 1 rfl ?_
          refine r_laload hw h41 dX8_inBoth_50 ?_
          obtain ⟨M44, g44, m93⟩ := h_bd m92
          clear m92
          refine r_callV0 hw (tX8_point l G b0 g44) lB_X8_point lI_X8_point mL_X8_139 (c := 8) rfl h1 rfl (Nat.le_of_ble_eq_true rfl) (Nat.le_of_ble_eq_true rfl) rfl (Nat.le_of_ble_eq_true rfl) dX8_inBoth_51 ?_
          exact J54 _ _ m93
  exact L11 n011 _ _ hn11
theorem dX8_lookPlan_0 : decode cX8_lookPlan 0 = .ok (.sipush 1481, 3) := by decide +kernel
theorem dX8_lookPlan_3 : decode cX8_lookPlan 3 = .ok (.iload_n 1, 1) := by decide +kernel
theorem dX8_lookPlan_4 : decode cX8_lookPlan 4 = .ok (.imul, 1) := by decide +kernel
theorem dX8_lookPlan_5 : decode cX8_lookPlan 5 = .ok (.bipush 37, 2) := by decide +kernel
theorem dX8_lookPlan_7 : decode cX8_lookPlan 7 = .ok (.iload_n 2, 1) := by decide +kernel
theorem dX8_lookPlan_8 : decode cX8_lookPlan 8 = .ok (.imul, 1) := by decide +kernel
theorem dX8_lookPlan_9 : decode cX8_lookPlan 9 = .ok (.iadd, 1) := by decide +kernel
theorem dX8_lookPlan_10 : decode cX8_lookPlan 10 = .ok (.istore_n 3, 1) := by decide +kernel
theorem dX8_lookPlan_11 : decode cX8_lookPlan 11 = .ok (.aload_n 0, 1) := by decide +kernel
theorem dX8_lookPlan_12 : decode cX8_lookPlan 12 = .ok (.aload_n 0, 1) := by decide +kernel
theorem dX8_lookPlan_13 : decode cX8_lookPlan 13 = .ok (.getfield 19, 3) := by decide +kernel
theorem dX8_lookPlan_16 : decode cX8_lookPlan 16 = .ok (.iload_n 3, 1) := by decide +kernel
theorem dX8_lookPlan_17 : decode cX8_lookPlan 17 = .ok (.laload, 1) := by decide +kernel
theorem dX8_lookPlan_18 : decode cX8_lookPlan 18 = .ok (.l2i, 1) := by decide +kernel
theorem dX8_lookPlan_19 : decode cX8_lookPlan 19 = .ok (.putfield 153, 3) := by decide +kernel
theorem dX8_lookPlan_22 : decode cX8_lookPlan 22 = .ok (.iconst 0, 1) := by decide +kernel
theorem dX8_lookPlan_23 : decode cX8_lookPlan 23 = .ok (.istore 4, 2) := by decide +kernel
theorem dX8_lookPlan_25 : decode cX8_lookPlan 25 = .ok (.iload 4, 2) := by decide +kernel
theorem dX8_lookPlan_27 : decode cX8_lookPlan 27 = .ok (.aload_n 0, 1) := by decide +kernel
theorem dX8_lookPlan_28 : decode cX8_lookPlan 28 = .ok (.getfield 153, 3) := by decide +kernel
theorem dX8_lookPlan_31 : decode cX8_lookPlan 31 = .ok (.if_icmp .ge 49, 3) := by decide +kernel
theorem dX8_lookPlan_34 : decode cX8_lookPlan 34 = .ok (.aload_n 0, 1) := by decide +kernel
theorem dX8_lookPlan_35 : decode cX8_lookPlan 35 = .ok (.getfield 48, 3) := by decide +kernel
theorem dX8_lookPlan_38 : decode cX8_lookPlan 38 = .ok (.iload 4, 2) := by decide +kernel
theorem dX8_lookPlan_40 : decode cX8_lookPlan 40 = .ok (.aload_n 0, 1) := by decide +kernel
theorem dX8_lookPlan_41 : decode cX8_lookPlan 41 = .ok (.getfield 19, 3) := by decide +kernel
theorem dX8_lookPlan_44 : decode cX8_lookPlan 44 = .ok (.iload_n 3, 1) := by decide +kernel
theorem dX8_lookPlan_45 : decode cX8_lookPlan 45 = .ok (.iconst 1, 1) := by decide +kernel
theorem dX8_lookPlan_46 : decode cX8_lookPlan 46 = .ok (.iadd, 1) := by decide +kernel
theorem dX8_lookPlan_47 : decode cX8_lookPlan 47 = .ok (.iconst 2, 1) := by decide +kernel
theorem dX8_lookPlan_48 : decode cX8_lookPlan 48 = .ok (.iload 4, 2) := by decide +kernel
theorem dX8_lookPlan_50 : decode cX8_lookPlan 50 = .ok (.imul, 1) := by decide +kernel
theorem dX8_lookPlan_51 : decode cX8_lookPlan 51 = .ok (.iadd, 1) := by decide +kernel
theorem dX8_lookPlan_52 : decode cX8_lookPlan 52 = .ok (.laload, 1) := by decide +kernel
theorem dX8_lookPlan_53 : decode cX8_lookPlan 53 = .ok (.lastore, 1) := by decide +kernel
theorem dX8_lookPlan_54 : decode cX8_lookPlan 54 = .ok (.aload_n 0, 1) := by decide +kernel
theorem dX8_lookPlan_55 : decode cX8_lookPlan 55 = .ok (.getfield 51, 3) := by decide +kernel
theorem dX8_lookPlan_58 : decode cX8_lookPlan 58 = .ok (.iload 4, 2) := by decide +kernel
theorem dX8_lookPlan_60 : decode cX8_lookPlan 60 = .ok (.aload_n 0, 1) := by decide +kernel
theorem dX8_lookPlan_61 : decode cX8_lookPlan 61 = .ok (.getfield 19, 3) := by decide +kernel
theorem dX8_lookPlan_64 : decode cX8_lookPlan 64 = .ok (.iload_n 3, 1) := by decide +kernel
theorem dX8_lookPlan_65 : decode cX8_lookPlan 65 = .ok (.iconst 2, 1) := by decide +kernel
theorem dX8_lookPlan_66 : decode cX8_lookPlan 66 = .ok (.iadd, 1) := by decide +kernel
theorem dX8_lookPlan_67 : decode cX8_lookPlan 67 = .ok (.iconst 2, 1) := by decide +kernel
theorem dX8_lookPlan_68 : decode cX8_lookPlan 68 = .ok (.iload 4, 2) := by decide +kernel
theorem dX8_lookPlan_70 : decode cX8_lookPlan 70 = .ok (.imul, 1) := by decide +kernel
theorem dX8_lookPlan_71 : decode cX8_lookPlan 71 = .ok (.iadd, 1) := by decide +kernel
theorem dX8_lookPlan_72 : decode cX8_lookPlan 72 = .ok (.laload, 1) := by decide +kernel
theorem dX8_lookPlan_73 : decode cX8_lookPlan 73 = .ok (.lastore, 1) := by decide +kernel
theorem dX8_lookPlan_74 : decode cX8_lookPlan 74 = .ok (.iinc 4 1, 3) := by decide +kernel
theorem dX8_lookPlan_77 : decode cX8_lookPlan 77 = .ok (.goto (-52), 3) := by decide +kernel
theorem dX8_lookPlan_80 : decode cX8_lookPlan 80 = .ok (.return_, 1) := by decide +kernel
set_option maxHeartbeats 4000000 in
set_option maxRecDepth 100000 in
theorem tX8_lookPlan (l : Launch) (G : Gg) (b0 : Nat) {K : Kk} {R : Rr} {M : Mm} {r : Nat} {a0 : Int32} {a1 : Int32} {M' : Mm} (hm : mX8_lookPlan K R M r a0 a1 = some (M')) : CT l G b0 yX8_lookPlan cX8_lookPlan 5 none (rmz 1 0) [.ref r, .int a0, .int a1] K R M none K R M' := by
  refine ct_of (by decide +kernel) (Nat.le_of_ble_eq_true rfl) (fun w hq => ?_)
  have hw := hq.b
  change w 0 0 0 [(0, .ref r), (1, .int a0), (2, .int a1)] [] K R M
  replace hm := h_start hm
  unfold mX8_lookPlan at hm
  obtain ⟨h1, m20⟩ := h_ck hm
  clear hm
  refine r_sipush (v := 1481) hw dX8_lookPlan_0 rfl ?_
  refine r_iload_n hw dX8_lookPlan_3 1 rfl ?_
  refine r_imul hw dX8_lookPlan_4 ?_
  refine r_bipush (v := 37) hw dX8_lookPlan_5 rfl ?_
  refine r_iload_n hw dX8_lookPlan_7 2 rfl ?_
  refine r_imul hw dX8_lookPlan_8 ?_
  refine r_iadd hw dX8_lookPlan_9 ?_
  obtain ⟨i2, ei2, m21⟩ := h_nm m20
  clear m20
  refine r_topI (w := w) ei2 ?_
  refine r_istore_n hw dX8_lookPlan_10 rfl (by decide) rfl ?_
  refine r_aload_n hw dX8_lookPlan_11 1 rfl ?_
  refine r_aload_n hw dX8_lookPlan_12 1 rfl ?_
  obtain ⟨q3, bq3, m22⟩ := h_bd m21
  clear m21
  refine r_getR hw fO_X8_19 h1 bq3 dX8_lookPlan_13 ?_
  refine r_iload_n hw dX8_lookPlan_16 0 rfl ?_
  obtain ⟨h4, m23⟩ := h_ck m22
  clear m22
  refine r_laload hw h4 dX8_lookPlan_17 ?_
  refine r_l2i hw dX8_lookPlan_18 ?_
  obtain ⟨M5, eM5, m24⟩ := h_nm m23
  clear m23
  refine r_putI hw fP_X8_153 h1 dX8_lookPlan_19 (r_mem ?_ rfl eM5)
  refine r_iconst (v := 0) hw dX8_lookPlan_22 rfl ?_
  obtain ⟨i6, ei6, m25⟩ := h_nm m24
  clear m24
  refine r_topI (w := w) ei6 ?_
  refine r_istore hw dX8_lookPlan_23 (by decide) rfl ?_
  refine r_sub hw [2, 1, 0] rfl ?_
  obtain ⟨v25, n025, hn25, hv25⟩ := h_lp m25
  clear m25
  have L25 : ∀ n : Nat, ∀ (i7 : Int32) (M8 : Mm), it (mX8_lookPlan_L25 K R r i2) n (i7, M8) = some v25 → w 0 0 25 [(0, .ref r), (3, .int i2), (4, .int i7)] [] K R M8 := by
    intro n25
    induction n25 with
    | zero => intro i7 M8 hz; exact absurd hz h_it0
    | succ n25 ih25 =>
      intro i7 M8 m26
      replace m26 : (mX8_lookPlan_B25 K R r i2 i7 M8).bind (Sum.elim (it (mX8_lookPlan_L25 K R r i2) n25) some) = some v25 := m26
      unfold mX8_lookPlan_B25 at m26
      refine r_iload hw dX8_lookPlan_25 2 rfl ?_
      refine r_aload_n hw dX8_lookPlan_27 0 rfl ?_
      refine r_getI hw fO_X8_153 h1 dX8_lookPlan_28 ?_
      refine r_icmp_ge (tgt := 80) hw dX8_lookPlan_31 (by decide) (fun c9 => ?_) (fun c9 => ?_)
      · have m27 := h_if_f c9 m26
        clear m26
        have m28 := h_ex m27 hv25
        clear m27
        cases h_ret m28
        exact r_return hq rfl rfl dX8_lookPlan_80
      · have m29 := h_if_t c9 m26
        clear m26
        refine r_aload_n hw dX8_lookPlan_34 0 rfl ?_
        obtain ⟨q10, bq10, m30⟩ := h_bd m29
        clear m29
        refine r_getR hw fO_X8_48 h1 bq10 dX8_lookPlan_35 ?_
        refine r_iload hw dX8_lookPlan_38 2 rfl ?_
        refine r_aload_n hw dX8_lookPlan_40 0 rfl ?_
        obtain ⟨q11, bq11, m31⟩ := h_bd m30
        clear m30
        refine r_getR hw fO_X8_19 h1 bq11 dX8_lookPlan_41 ?_
        refine r_iload_n hw dX8_lookPlan_44 1 rfl ?_
        refine r_iconst (v := 1) hw dX8_lookPlan_45 rfl ?_
        refine r_iadd hw dX8_lookPlan_46 ?_
        refine r_iconst (v := 2) hw dX8_lookPlan_47 rfl ?_
        refine r_iload hw dX8_lookPlan_48 2 rfl ?_
        refine r_imul hw dX8_lookPlan_50 ?_
        refine r_iadd hw dX8_lookPlan_51 ?_
        obtain ⟨h12, m32⟩ := h_ck m31
        clear m31
        refine r_laload hw h12 dX8_lookPlan_52 ?_
        obtain ⟨h13, m33⟩ := h_ck m32
        clear m32
        obtain ⟨M14, eM14, m34⟩ := h_nm m33
        clear m33
        refine r_lastore hw h13 dX8_lookPlan_53 (r_mem ?_ rfl eM14)
        refine r_aload_n hw dX8_lookPlan_54 0 rfl ?_
        obtain ⟨q15, bq15, m35⟩ := h_bd m34
        clear m34
        refine r_getR hw fO_X8_51 h1 bq15 dX8_lookPlan_55 ?_
        refine r_iload hw dX8_lookPlan_58 2 rfl ?_
        refine r_aload_n hw dX8_lookPlan_60 0 rfl ?_
        refine r_getR hw fO_X8_19 h1 bq11 dX8_lookPlan_61 ?_
        refine r_iload_n hw dX8_lookPlan_64 1 rfl ?_
        refine r_iconst (v := 2) hw dX8_lookPlan_65 rfl ?_
        refine r_iadd hw dX8_lookPlan_66 ?_
        refine r_iconst (v := 2) hw dX8_lookPlan_67 rfl ?_
        refine r_iload hw dX8_lookPlan_68 2 rfl ?_
        refine r_imul hw dX8_lookPlan_70 ?_
        refine r_iadd hw dX8_lookPlan_71 ?_
        obtain ⟨h16, m36⟩ := h_ck m35
        clear m35
        refine r_laload hw h16 dX8_lookPlan_72 ?_
        obtain ⟨h17, m37⟩ := h_ck m36
        clear m36
        obtain ⟨M18, eM18, m38⟩ := h_nm m37
        clear m37
        refine r_lastore hw h17 dX8_lookPlan_73 (r_mem ?_ rfl eM18)
        obtain ⟨i19, ei19, m39⟩ := h_nm m38
        clear m38
        refine r_iinc (j := 2) (v := i19) hw dX8_lookPlan_74 rfl (by rw [ei19]; rfl) (by decide) rfl ?_
        refine r_goto (tgt := 25) hw dX8_lookPlan_77 (by decide) ?_
        refine r_sub hw [1, 2, 0] rfl ?_
        exact ih25 _ _ m39
  exact L25 n025 _ _ hn25
