theorem dX8_isOf_0 : decode cX8_isOf 0 = .ok (.aload_n 0, 1) := by decide +kernel
theorem dX8_isOf_1 : decode cX8_isOf 1 = .ok (.iload_n 1, 1) := by decide +kernel
theorem dX8_isOf_2 : decode cX8_isOf 2 = .ok (.invokevirtual 226, 3) := by decide +kernel
theorem dX8_isOf_5 : decode cX8_isOf 5 = .ok (.ifCond .eq 15, 3) := by decide +kernel
theorem dX8_isOf_8 : decode cX8_isOf 8 = .ok (.iload_n 2, 1) := by decide +kernel
theorem dX8_isOf_9 : decode cX8_isOf 9 = .ok (.i2l, 1) := by decide +kernel
theorem dX8_isOf_10 : decode cX8_isOf 10 = .ok (.lconst 0, 1) := by decide +kernel
theorem dX8_isOf_11 : decode cX8_isOf 11 = .ok (.ldc2_w 164, 3) := by decide +kernel
theorem dX8_isOf_14 : decode cX8_isOf 14 = .ok (.invokestatic 95, 3) := by decide +kernel
theorem dX8_isOf_17 : decode cX8_isOf 17 = .ok (.ifCond .ne 7, 3) := by decide +kernel
theorem dX8_isOf_20 : decode cX8_isOf 20 = .ok (.ldc2_w 160, 3) := by decide +kernel
theorem dX8_isOf_23 : decode cX8_isOf 23 = .ok (.lreturn, 1) := by decide +kernel
theorem dX8_isOf_24 : decode cX8_isOf 24 = .ok (.aload_n 0, 1) := by decide +kernel
theorem dX8_isOf_25 : decode cX8_isOf 25 = .ok (.iload_n 1, 1) := by decide +kernel
theorem dX8_isOf_26 : decode cX8_isOf 26 = .ok (.invokevirtual 149, 3) := by decide +kernel
theorem dX8_isOf_29 : decode cX8_isOf 29 = .ok (.iload_n 2, 1) := by decide +kernel
theorem dX8_isOf_30 : decode cX8_isOf 30 = .ok (.ifCond .eq 76, 3) := by decide +kernel
theorem dX8_isOf_33 : decode cX8_isOf 33 = .ok (.iload_n 2, 1) := by decide +kernel
theorem dX8_isOf_34 : decode cX8_isOf 34 = .ok (.iconst 1, 1) := by decide +kernel
theorem dX8_isOf_35 : decode cX8_isOf 35 = .ok (.if_icmp .ne 14, 3) := by decide +kernel
theorem dX8_isOf_38 : decode cX8_isOf 38 = .ok (.aload_n 0, 1) := by decide +kernel
theorem dX8_isOf_39 : decode cX8_isOf 39 = .ok (.getfield 146, 3) := by decide +kernel
theorem dX8_isOf_42 : decode cX8_isOf 42 = .ok (.iconst 3, 1) := by decide +kernel
theorem dX8_isOf_43 : decode cX8_isOf 43 = .ok (.if_icmp .ne 67, 3) := by decide +kernel
theorem dX8_isOf_46 : decode cX8_isOf 46 = .ok (.goto 60, 3) := by decide +kernel
theorem dX8_isOf_49 : decode cX8_isOf 49 = .ok (.iload_n 2, 1) := by decide +kernel
theorem dX8_isOf_50 : decode cX8_isOf 50 = .ok (.iconst 2, 1) := by decide +kernel
theorem dX8_isOf_51 : decode cX8_isOf 51 = .ok (.if_icmp .ne 13, 3) := by decide +kernel
theorem dX8_isOf_54 : decode cX8_isOf 54 = .ok (.aload_n 0, 1) := by decide +kernel
theorem dX8_isOf_55 : decode cX8_isOf 55 = .ok (.invokevirtual 259, 3) := by decide +kernel
theorem dX8_isOf_58 : decode cX8_isOf 58 = .ok (.ifCond .eq 52, 3) := by decide +kernel
theorem dX8_isOf_61 : decode cX8_isOf 61 = .ok (.goto 45, 3) := by decide +kernel
theorem dX8_isOf_64 : decode cX8_isOf 64 = .ok (.iload_n 2, 1) := by decide +kernel
theorem dX8_isOf_65 : decode cX8_isOf 65 = .ok (.iconst 3, 1) := by decide +kernel
theorem dX8_isOf_66 : decode cX8_isOf 66 = .ok (.if_icmp .ne 20, 3) := by decide +kernel
theorem dX8_isOf_69 : decode cX8_isOf 69 = .ok (.aload_n 0, 1) := by decide +kernel
theorem dX8_isOf_70 : decode cX8_isOf 70 = .ok (.invokevirtual 259, 3) := by decide +kernel
theorem dX8_isOf_73 : decode cX8_isOf 73 = .ok (.ifCond .eq 37, 3) := by decide +kernel
theorem dX8_isOf_76 : decode cX8_isOf 76 = .ok (.aload_n 0, 1) := by decide +kernel
theorem dX8_isOf_77 : decode cX8_isOf 77 = .ok (.invokevirtual 262, 3) := by decide +kernel
theorem dX8_isOf_80 : decode cX8_isOf 80 = .ok (.ifCond .eq 30, 3) := by decide +kernel
theorem dX8_isOf_83 : decode cX8_isOf 83 = .ok (.goto 23, 3) := by decide +kernel
theorem dX8_isOf_86 : decode cX8_isOf 86 = .ok (.aload_n 0, 1) := by decide +kernel
theorem dX8_isOf_87 : decode cX8_isOf 87 = .ok (.getfield 146, 3) := by decide +kernel
theorem dX8_isOf_90 : decode cX8_isOf 90 = .ok (.iconst 3, 1) := by decide +kernel
theorem dX8_isOf_91 : decode cX8_isOf 91 = .ok (.if_icmp .ne 19, 3) := by decide +kernel
theorem dX8_isOf_94 : decode cX8_isOf 94 = .ok (.aload_n 0, 1) := by decide +kernel
theorem dX8_isOf_95 : decode cX8_isOf 95 = .ok (.iload_n 1, 1) := by decide +kernel
theorem dX8_isOf_96 : decode cX8_isOf 96 = .ok (.bipush 36, 2) := by decide +kernel
theorem dX8_isOf_98 : decode cX8_isOf 98 = .ok (.invokevirtual 103, 3) := by decide +kernel
theorem dX8_isOf_101 : decode cX8_isOf 101 = .ok (.lconst 1, 1) := by decide +kernel
theorem dX8_isOf_102 : decode cX8_isOf 102 = .ok (.lcmp, 1) := by decide +kernel
theorem dX8_isOf_103 : decode cX8_isOf 103 = .ok (.ifCond .ne 7, 3) := by decide +kernel
theorem dX8_isOf_106 : decode cX8_isOf 106 = .ok (.iconst 1, 1) := by decide +kernel
theorem dX8_isOf_107 : decode cX8_isOf 107 = .ok (.goto 4, 3) := by decide +kernel
theorem dX8_isOf_110 : decode cX8_isOf 110 = .ok (.iconst 0, 1) := by decide +kernel
theorem dX8_isOf_111 : decode cX8_isOf 111 = .ok (.istore_n 3, 1) := by decide +kernel
theorem dX8_isOf_112 : decode cX8_isOf 112 = .ok (.iload_n 3, 1) := by decide +kernel
theorem dX8_isOf_113 : decode cX8_isOf 113 = .ok (.ifCond .eq 7, 3) := by decide +kernel
theorem dX8_isOf_116 : decode cX8_isOf 116 = .ok (.lconst 1, 1) := by decide +kernel
theorem dX8_isOf_117 : decode cX8_isOf 117 = .ok (.goto 4, 3) := by decide +kernel
theorem dX8_isOf_120 : decode cX8_isOf 120 = .ok (.lconst 0, 1) := by decide +kernel
theorem dX8_isOf_121 : decode cX8_isOf 121 = .ok (.lreturn, 1) := by decide +kernel
set_option maxHeartbeats 4000000 in
set_option maxRecDepth 100000 in
theorem tX8_isOf (l : Launch) (G : Gg) (b0 : Nat) {K : Kk} {R : Rr} {M : Mm} {r : Nat} {a0 : Int32} {a1 : Int32} {res : Int64} {M' : Mm} (hm : mX8_isOf K R M r a0 a1 = some (res, M')) : CT l G b0 yX8_isOf cX8_isOf 4 (some .long) (rmz 5 109) [.ref r, .int a0, .int a1] K R M (some (.long res)) K R M' := by
  refine ct_of (by decide +kernel) (Nat.le_of_ble_eq_true rfl) (fun w hq => ?_)
  have hw := hq.b
  change w 0 0 0 [(0, .ref r), (1, .int a0), (2, .int a1)] [] K R M
  replace hm := h_start hm
  unfold mX8_isOf at hm
  obtain ⟨h1, m26⟩ := h_ck hm
  clear hm
  have J111 : ∀ (M3 : Mm) (s2 : Int32), (mX8_isOf_J111 K R M3 s2).bind some = some (res, M') → w 0 0 111 [] [.int s2] K R M3 := by
    intro M3 s2 m27
    unfold mX8_isOf_J111 at m27
    refine r_istore_n hw dX8_isOf_111 rfl (by decide) rfl ?_
    refine r_iload_n hw dX8_isOf_112 0 rfl ?_
    refine r_if_eq (tgt := 120) hw dX8_isOf_113 (by decide) (fun c4 => ?_) (fun c4 => ?_)
    · have m28 := h_if_t c4 m27
      clear m27
      refine r_lconst (v := 0) hw dX8_isOf_120 rfl ?_
      cases h_ret m28
      exact r_lreturn hq rfl rfl dX8_isOf_121
    · have m29 := h_if_f c4 m27
      clear m27
      refine r_lconst (v := 1) hw dX8_isOf_116 rfl ?_
      refine r_goto (tgt := 121) hw dX8_isOf_117 (by decide) ?_
      cases h_ret m29
      exact r_lreturn hq rfl rfl dX8_isOf_121
  have J110 : ∀ (M5 : Mm), (mX8_isOf_J110 K R M5 ).bind some = some (res, M') → w 0 0 110 [] [] K R M5 := by
    intro M5  m30
    unfold mX8_isOf_J110 at m30
    refine r_iconst (v := 0) hw dX8_isOf_110 rfl ?_
    exact J111 _ _ m30
  have J106 : ∀ (M6 : Mm), (mX8_isOf_J106 K R M6 ).bind some = some (res, M') → w 0 0 106 [] [] K R M6 := by
    intro M6  m31
    unfold mX8_isOf_J106 at m31
    refine r_iconst (v := 1) hw dX8_isOf_106 rfl ?_
    refine r_goto (tgt := 111) hw dX8_isOf_107 (by decide) ?_
    exact J111 _ _ m31
  refine r_aload_n hw dX8_isOf_0 0 rfl ?_
  refine r_iload_n hw dX8_isOf_1 1 rfl ?_
  obtain ⟨i7, g7, m32⟩ := h_bd m26
  clear m26
  refine r_callV1 hw (tX8_isPiece l G b0 g7) lB_X8_isPiece lI_X8_isPiece mL_X8_226 (c := 8) rfl h1 rfl (Nat.le_of_ble_eq_true rfl) (Nat.le_of_ble_eq_true rfl) rfl (Nat.le_of_ble_eq_true rfl) dX8_isOf_2 ?_
  refine r_if_eq (tgt := 20) hw dX8_isOf_5 (by decide) (fun c8 => ?_) (fun c8 => ?_)
  · have m33 := h_if_t c8 m32
    clear m32
    refine r_ldc2 (v := (-9000000000000000001)) hw dX8_isOf_20 kW_X8_160 ?_
    cases h_ret m33
    exact r_lreturn hq rfl rfl dX8_isOf_23
  · have m34 := h_if_f c8 m32
    clear m32
    refine r_iload_n hw dX8_isOf_8 2 rfl ?_
    refine r_i2l hw dX8_isOf_9 ?_
    refine r_lconst (v := 0) hw dX8_isOf_10 rfl ?_
    refine r_ldc2 (v := 4) hw dX8_isOf_11 kW_X8_164 ?_
    obtain ⟨i9, g9, m35⟩ := h_bd m34
    clear m34
    refine r_callS1 hw (tX8_isIn l G b0 g9) lB_X8_isIn sT_X8_isIn mL_X8_95 rfl rfl (Nat.le_of_ble_eq_true rfl) (Nat.le_of_ble_eq_true rfl) rfl (Nat.le_of_ble_eq_true rfl) dX8_isOf_14 ?_
    refine r_if_ne (tgt := 24) hw dX8_isOf_17 (by decide) (fun c10 => ?_) (fun c10 => ?_)
    · have m36 := h_if_f c10 m35
      clear m35
      refine r_aload_n hw dX8_isOf_24 0 rfl ?_
      refine r_iload_n hw dX8_isOf_25 1 rfl ?_
      obtain ⟨M11, g11, m37⟩ := h_bd m36
      clear m36
      refine r_callV0 hw (tX8_lookA l G b0 g11) lB_X8_lookA lI_X8_lookA mL_X8_149 (c := 8) rfl h1 rfl (Nat.le_of_ble_eq_true rfl) (Nat.le_of_ble_eq_true rfl) rfl (Nat.le_of_ble_eq_true rfl) dX8_isOf_26 ?_
      refine r_iload_n hw dX8_isOf_29 2 rfl ?_
      refine r_if_eq (tgt := 106) hw dX8_isOf_30 (by decide) (fun c12 => ?_) (fun c12 => ?_)
      · have m38 := h_if_t c12 m37
        clear m37
        refine r_sub hw [] rfl ?_
        exact J106 _ m38
      · have m39 := h_if_f c12 m37
        clear m37
        refine r_iload_n hw dX8_isOf_33 2 rfl ?_
        refine r_iconst (v := 1) hw dX8_isOf_34 rfl ?_
        refine r_icmp_ne (tgt := 49) hw dX8_isOf_35 (by decide) (fun c13 => ?_) (fun c13 => ?_)
        · have m40 := h_if_f c13 m39
          clear m39
          refine r_iload_n hw dX8_isOf_49 2 rfl ?_
          refine r_iconst (v := 2) hw dX8_isOf_50 rfl ?_
          refine r_icmp_ne (tgt := 64) hw dX8_isOf_51 (by decide) (fun c14 => ?_) (fun c14 => ?_)
          · have m41 := h_if_f c14 m40
            clear m40
            refine r_iload_n hw dX8_isOf_64 2 rfl ?_
            refine r_iconst (v := 3) hw dX8_isOf_65 rfl ?_
            refine r_icmp_ne (tgt := 86) hw dX8_isOf_66 (by decide) (fun c15 => ?_) (fun c15 => ?_)
            · have m42 := h_if_f c15 m41
              clear m41
              refine r_aload_n hw dX8_isOf_86 0 rfl ?_
              refine r_getI hw fO_X8_146 h1 dX8_isOf_87 ?_
              refine r_iconst (v := 3) hw dX8_isOf_90 rfl ?_
              refine r_icmp_ne (tgt := 110) hw dX8_isOf_91 (by decide) (fun c16 => ?_) (fun c16 => ?_)
              · have m43 := h_if_f c16 m42
                clear m42
                refine r_sub hw [] rfl ?_
                exact J110 _ m43
              · have m44 := h_if_t c16 m42
                clear m42
                refine r_aload_n hw dX8_isOf_94 0 rfl ?_
                refine r_iload_n hw dX8_isOf_95 1 rfl ?_
                refine r_bipush (v := 36) hw dX8_isOf_96 rfl ?_
                obtain ⟨l17, g17, m45⟩ := h_bd m44
                clear m44
                refine r_callV1 hw (tX8_get l G b0 g17) lB_X8_get lI_X8_get mL_X8_103 (c := 8) rfl h1 rfl (Nat.le_of_ble_eq_true rfl) (Nat.le_of_ble_eq_true rfl) rfl (Nat.le_of_ble_eq_true rfl) dX8_isOf_98 ?_
                refine r_lconst (v := 1) hw dX8_isOf_101 rfl ?_
                refine r_lcmp_ne (tgt := 110) hw dX8_isOf_102 dX8_isOf_103 (by decide) (fun c18 => ?_) (fun c18 => ?_)
                · have m46 := h_if_f c18 m45
                  clear m45
                  refine r_sub hw [] rfl ?_
                  exact J110 _ m46
                · have m47 := h_if_t c18 m45
                  clear m45
                  refine r_sub hw [] rfl ?_
                  exact J106 _ m47
            · have m48 := h_if_t c15 m41
              clear m41
              refine r_aload_n hw dX8_isOf_69 0 rfl ?_
              obtain ⟨i19, g19, m49⟩ := h_bd m48
              clear m48
              refine r_callV1 hw (tX8_isSlab l G b0 g19) lB_X8_isSlab lI_X8_isSlab mL_X8_259 (c := 8) rfl h1 rfl (Nat.le_of_ble_eq_true rfl) (Nat.le_of_ble_eq_true rfl) rfl (Nat.le_of_ble_eq_true rfl) dX8_isOf_70 ?_
              refine r_if_eq (tgt := 110) hw dX8_isOf_73 (by decide) (fun c20 => ?_) (fun c20 => ?_)
              · have m50 := h_if_t c20 m49
                clear m49
                refine r_sub hw [] rfl ?_
                exact J110 _ m50
              · have m51 := h_if_f c20 m49
                clear m49
                refine r_aload_n hw dX8_isOf_76 0 rfl ?_
                obtain ⟨i21, g21, m52⟩ := h_bd m51
                clear m51
                refine r_callV1 hw (tX8_isUpright l G b0 g21) lB_X8_isUpright lI_X8_isUpright mL_X8_262 (c := 8) rfl h1 rfl (Nat.le_of_ble_eq_true rfl) (Nat.le_of_ble_eq_true rfl) rfl (Nat.le_of_ble_eq_true rfl) dX8_isOf_77 ?_
                refine r_if_eq (tgt := 110) hw dX8_isOf_80 (by decide) (fun c22 => ?_) (fun c22 => ?_)
                · have m53 := h_if_t c22 m52
                  clear m52
                  refine r_sub hw [] rfl ?_
                  exact J110 _ m53
                · have m54 := h_if_f c22 m52
                  clear m52
                  refine r_goto (tgt := 106) hw dX8_isOf_83 (by decide) ?_
                  refine r_sub hw [] rfl ?_
                  exact J106 _ m54
          · have m55 := h_if_t c14 m40
            clear m40
            refine r_aload_n hw dX8_isOf_54 0 rfl ?_
            obtain ⟨i23, g23, m56⟩ := h_bd m55
            clear m55
            refine r_callV1 hw (tX8_isSlab l G b0 g23) lB_X8_isSlab lI_X8_isSlab mL_X8_259 (c := 8) rfl h1 rfl (Nat.le_of_ble_eq_true rfl) (Nat.le_of_ble_eq_true rfl) rfl (Nat.le_of_ble_eq_true rfl) dX8_isOf_55 ?_
            refine r_if_eq (tgt := 110) hw dX8_isOf_58 (by decide) (fun c24 => ?_) (fun c24 => ?_)
            · have m57 := h_if_t c24 m56
              clear m56
              refine r_sub hw [] rfl ?_
              exact J110 _ m57
            · have m58 := h_if_f c24 m56
              clear m56
              refine r_goto (tgt := 106) hw dX8_isOf_61 (by decide) ?_
              refine r_sub hw [] rfl ?_
              exact J106 _ m58
        · have m59 := h_if_t c13 m39
          clear m39
          refine r_aload_n hw dX8_isOf_38 0 rfl ?_
          refine r_getI hw fO_X8_146 h1 dX8_isOf_39 ?_
          refine r_iconst (v := 3) hw dX8_isOf_42 rfl ?_
          refine r_icmp_ne (tgt := 110) hw dX8_isOf_43 (by decide) (fun c25 => ?_) (fun c25 => ?_)
          · have m60 := h_if_f c25 m59
            clear m59
            refine r_sub hw [] rfl ?_
            exact J110 _ m60
          · have m61 := h_if_t c25 m59
            clear m59
            refine r_goto (tgt := 106) hw dX8_isOf_46 (by decide) ?_
            refine r_sub hw [] rfl ?_
            exact J106 _ m61
    · have m62 := h_if_t c10 m35
      clear m35
      refine r_ldc2 (v := (-9000000000000000001)) hw dX8_isOf_20 kW_X8_160 ?_
      cases h_ret m62
      exact r_lreturn hq rfl rfl dX8_isOf_23
theorem dX8_areaOf_0 : decode cX8_areaOf 0 = .ok (.aload_n 0, 1) := by decide +kernel
theorem dX8_areaOf_1 : decode cX8_areaOf 1 = .ok (.iload_n 1, 1) := by decide +kernel
theorem dX8_areaOf_2 : decode cX8_areaOf 2 = .ok (.invokevirtual 149, 3) := by decide +kernel
theorem dX8_areaOf_5 : decode cX8_areaOf 5 = .ok (.lconst 0, 1) := by decide +kernel
theorem dX8_areaOf_6 : decode cX8_areaOf 6 = .ok (.lstore_n 2, 1) := by decide +kernel
theorem dX8_areaOf_7 : decode cX8_areaOf 7 = .ok (.iconst 0, 1) := by decide +kernel
theorem dX8_areaOf_8 : decode cX8_areaOf 8 = .ok (.istore 4, 2) := by decide +kernel
theorem dX8_areaOf_10 : decode cX8_areaOf 10 = .ok (.iload 4, 2) := by decide +kernel
theorem dX8_areaOf_12 : decode cX8_areaOf 12 = .ok (.aload_n 0, 1) := by decide +kernel
theorem dX8_areaOf_13 : decode cX8_areaOf 13 = .ok (.getfield 146, 3) := by decide +kernel
theorem dX8_areaOf_16 : decode cX8_areaOf 16 = .ok (.if_icmp .ge 54, 3) := by decide +kernel
theorem dX8_areaOf_19 : decode cX8_areaOf 19 = .ok (.iload 4, 2) := by decide +kernel
theorem dX8_areaOf_21 : decode cX8_areaOf 21 = .ok (.iconst 1, 1) := by decide +kernel
theorem dX8_areaOf_22 : decode cX8_areaOf 22 = .ok (.iadd, 1) := by decide +kernel
theorem dX8_areaOf_23 : decode cX8_areaOf 23 = .ok (.aload_n 0, 1) := by decide +kernel
theorem dX8_areaOf_24 : decode cX8_areaOf 24 = .ok (.getfield 146, 3) := by decide +kernel
theorem dX8_areaOf_27 : decode cX8_areaOf 27 = .ok (.irem, 1) := by decide +kernel
theorem dX8_areaOf_28 : decode cX8_areaOf 28 = .ok (.istore 5, 2) := by decide +kernel
theorem dX8_areaOf_30 : decode cX8_areaOf 30 = .ok (.lload_n 2, 1) := by decide +kernel
theorem dX8_areaOf_31 : decode cX8_areaOf 31 = .ok (.aload_n 0, 1) := by decide +kernel
theorem dX8_areaOf_32 : decode cX8_areaOf 32 = .ok (.getfield 42, 3) := by decide +kernel
theorem dX8_areaOf_35 : decode cX8_areaOf 35 = .ok (.iload 4, 2) := by decide +kernel
theorem dX8_areaOf_37 : decode cX8_areaOf 37 = .ok (.laload, 1) := by decide +kernel
theorem dX8_areaOf_38 : decode cX8_areaOf 38 = .ok (.aload_n 0, 1) := by decide +kernel
theorem dX8_areaOf_39 : decode cX8_areaOf 39 = .ok (.getfield 45, 3) := by decide +kernel
theorem dX8_areaOf_42 : decode cX8_areaOf 42 = .ok (.iload 5, 2) := by decide +kernel
theorem dX8_areaOf_44 : decode cX8_areaOf 44 = .ok (.laload, 1) := by decide +kernel
theorem dX8_areaOf_45 : decode cX8_areaOf 45 = .ok (.lmul, 1) := by decide +kernel
theorem dX8_areaOf_46 : decode cX8_areaOf 46 = .ok (.aload_n 0, 1) := by decide +kernel
theorem dX8_areaOf_47 : decode cX8_areaOf 47 = .ok (.getfield 42, 3) := by decide +kernel
theorem dX8_areaOf_50 : decode cX8_areaOf 50 = .ok (.iload 5, 2) := by decide +kernel
theorem dX8_areaOf_52 : decode cX8_areaOf 52 = .ok (.laload, 1) := by decide +kernel
theorem dX8_areaOf_53 : decode cX8_areaOf 53 = .ok (.aload_n 0, 1) := by decide +kernel
theorem dX8_areaOf_54 : decode cX8_areaOf 54 = .ok (.getfield 45, 3) := by decide +kernel
theorem dX8_areaOf_57 : decode cX8_areaOf 57 = .ok (.iload 4, 2) := by decide +kernel
theorem dX8_areaOf_59 : decode cX8_areaOf 59 = .ok (.laload, 1) := by decide +kernel
theorem dX8_areaOf_60 : decode cX8_areaOf 60 = .ok (.lmul, 1) := by decide +kernel
theorem dX8_areaOf_61 : decode cX8_areaOf 61 = .ok (.lsub, 1) := by decide +kernel
theorem dX8_areaOf_62 : decode cX8_areaOf 62 = .ok (.ladd, 1) := by decide +kernel
theorem dX8_areaOf_63 : decode cX8_areaOf 63 = .ok (.lstore_n 2, 1) := by decide +kernel
theorem dX8_areaOf_64 : decode cX8_areaOf 64 = .ok (.iinc 4 1, 3) := by decide +kernel
theorem dX8_areaOf_67 : decode cX8_areaOf 67 = .ok (.goto (-57), 3) := by decide +kernel
theorem dX8_areaOf_70 : decode cX8_areaOf 70 = .ok (.lload_n 2, 1) := by decide +kernel
theorem dX8_areaOf_71 : decode cX8_areaOf 71 = .ok (.lreturn, 1) := by decide +kernel
set_option maxHeartbeats 4000000 in
set_option maxRecDepth 100000 in
theorem tX8_areaOf (l : Launch) (G : Gg) (b0 : Nat) {K : Kk} {R : Rr} {M : Mm} {r : Nat} {a0 : Int32} {res : Int64} {M' : Mm} (hm : mX8_areaOf K R M r a0 = some (res, M')) : CT l G b0 yX8_areaOf cX8_areaOf 6 (some .long) (rmz 5 109) [.ref r, .int a0] K R M (some (.long res)) K R M' := by
  refine ct_of (by decide +kernel) (Nat.le_of_ble_eq_true rfl) (fun w hq => ?_)
  have hw := hq.b
  change w 0 0 0 [(0, .ref r), (1, .int a0)] [] K R M
  replace hm := h_start hm
  unfold mX8_areaOf at hm
  obtain ⟨h1, m18⟩ := h_ck hm
  clear hm
  refine r_aload_n hw dX8_areaOf_0 0 rfl ?_
  refine r_iload_n hw dX8_areaOf_1 1 rfl ?_
  obtain ⟨M2, g2, m19⟩ := h_bd m18
  clear m18
  refine r_callV0 hw (tX8_lookA l G b0 g2) lB_X8_lookA lI_X8_lookA mL_X8_149 (c := 8) rfl h1 rfl (Nat.le_of_ble_eq_true rfl) (Nat.le_of_ble_eq_true rfl) rfl (Nat.le_of_ble_eq_true rfl) dX8_areaOf_2 ?_
  refine r_lconst (v := 0) hw dX8_areaOf_5 rfl ?_
  obtain ⟨l3, el3, m20⟩ := h_nm m19
  clear m19
  refine r_topL (w := w) el3 ?_
  refine r_lstore_n hw dX8_areaOf_6 rfl (by decide) rfl ?_
  refine r_iconst (v := 0) hw dX8_areaOf_7 rfl ?_
  obtain ⟨i4, ei4, m21⟩ := h_nm m20
  clear m20
  refine r_topI (w := w) ei4 ?_
  refine r_istore hw dX8_areaOf_8 (by decide) rfl ?_
  refine r_sub hw [2, 1, 0] rfl ?_
  obtain ⟨v10, n010, hn10, hv10⟩ := h_lp m21
  clear m21
  have L10 : ∀ n : Nat, ∀ (l5 : Int64) (i6 : Int32), it (mX8_areaOf_L10 K R M2 r) n (l5, i6) = some v10 → w 0 0 10 [(0, .ref r), (2, .long l5), (4, .int i6)] [] K R M2 := by
    intro n10
    induction n10 with
    | zero => intro l5 i6 hz; exact absurd hz h_it0
    | succ n10 ih10 =>
      intro l5 i6 m22
      replace m22 : (mX8_areaOf_B10 K R M2 r l5 i6).bind (Sum.elim (it (mX8_areaOf_L10 K R M2 r) n10) some) = some v10 := m22
      unfold mX8_areaOf_B10 at m22
      refine r_iload hw dX8_areaOf_10 2 rfl ?_
      refine r_aload_n hw dX8_areaOf_12 0 rfl ?_
      refine r_getI hw fO_X8_146 h1 dX8_areaOf_13 ?_
      refine r_icmp_ge (tgt := 70) hw dX8_areaOf_16 (by decide) (fun c7 => ?_) (fun c7 => ?_)
      · have m23 := h_if_f c7 m22
        clear m22
        have m24 := h_ex m23 hv10
        clear m23
        refine r_lload_n hw dX8_areaOf_70 1 rfl ?_
        cases h_ret m24
        exact r_lreturn hq rfl rfl dX8_areaOf_71
      · have m25 := h_if_t c7 m22
        clear m22
        refine r_iload hw dX8_areaOf_19 2 rfl ?_
        refine r_iconst (v := 1) hw dX8_areaOf_21 rfl ?_
        refine r_iadd hw dX8_areaOf_22 ?_
        refine r_aload_n hw dX8_areaOf_23 0 rfl ?_
        refine r_getI hw fO_X8_146 h1 dX8_areaOf_24 ?_
        obtain ⟨h8, m26⟩ := h_ck m25
        clear m25
        refine r_irem hw dX8_areaOf_27 h8 ?_
        obtain ⟨i9, ei9, m27⟩ := h_nm m26
        clear m26
        refine r_topI (w := w) ei9 ?_
        refine r_istore hw dX8_areaOf_28 (by decide) rfl ?_
        refine r_lload_n hw dX8_areaOf_30 2 rfl ?_
        refine r_aload_n hw dX8_areaOf_31 1 rfl ?_
        obtain ⟨q10, bq10, m28⟩ := h_bd m27
        clear m27
        refine r_getR hw fO_X8_42 h1 bq10 dX8_areaOf_32 ?_
        refine r_iload hw dX8_areaOf_35 3 rfl ?_
        obtain ⟨h11, m29⟩ := h_ck m28
        clear m28
        refine r_laload hw h11 dX8_areaOf_37 ?_
        refine r_aload_n hw dX8_areaOf_38 1 rfl ?_
        obtain ⟨q12, bq12, m30⟩ := h_bd m29
        clear m29
        refine r_getR hw fO_X8_45 h1 bq12 dX8_areaOf_39 ?_
        refine r_iload hw dX8_areaOf_42 0 rfl ?_
        obtain ⟨h13, m31⟩ := h_ck m30
        clear m30
        refine r_laload hw h13 dX8_areaOf_44 ?_
        refine r_lmul hw dX8_areaOf_45 ?_
        refine r_aload_n hw dX8_areaOf_46 1 rfl ?_
        refine r_getR hw fO_X8_42 h1 bq10 dX8_areaOf_47 ?_
        refine r_iload hw dX8_areaOf_50 0 rfl ?_
        obtain ⟨h14, m32⟩ := h_ck m31
        clear m31
        refine r_laload hw h14 dX8_areaOf_52 ?_
        refine r_aload_n hw dX8_areaOf_53 1 rfl ?_
        refine r_getR hw fO_X8_45 h1 bq12 dX8_areaOf_54 ?_
        refine r_iload hw dX8_areaOf_57 3 rfl ?_
        obtain ⟨h15, m33⟩ := h_ck m32
        clear m32
        refine r_laload hw h15 dX8_areaOf_59 ?_
        refine r_lmul hw dX8_areaOf_60 ?_
        refine r_lsub hw dX8_areaOf_61 ?_
        refine r_ladd hw dX8_areaOf_62 ?_
        obtain ⟨l16, el16, m34⟩ := h_nm m33
        clear m33
        refine r_topL (w := w) el16 ?_
        refine r_lstore_n hw dX8_areaOf_63 rfl (by decide) rfl ?_
        obtain ⟨i17, ei17, m35⟩ := h_nm m34
        clear m34
        refine r_iinc (j := 3) (v := i17) hw dX8_areaOf_64 rfl (by rw [ei17]; rfl) (by decide) rfl ?_
        refine r_goto (tgt := 10) hw dX8_areaOf_67 (by decide) ?_
        refine r_sub hw [3, 1, 0] rfl ?_
        exact ih10 _ _ m35
  exact L10 n010 _ _ hn10
theorem dX8_about_0 : decode cX8_about 0 = .ok (.aload_n 0, 1) := by decide +kernel
theorem dX8_about_1 : decode cX8_about 1 = .ok (.iload_n 1, 1) := by decide +kernel
theorem dX8_about_2 : decode cX8_about 2 = .ok (.invokevirtual 226, 3) := by decide +kernel
theorem dX8_about_5 : decode cX8_about 5 = .ok (.ifCond .eq 15, 3) := by decide +kernel
theorem dX8_about_8 : decode cX8_about 8 = .ok (.iload_n 2, 1) := by decide +kernel
theorem dX8_about_9 : decode cX8_about 9 = .ok (.i2l, 1) := by decide +kernel
theorem dX8_about_10 : decode cX8_about 10 = .ok (.lconst 0, 1) := by decide +kernel
theorem dX8_about_11 : decode cX8_about 11 = .ok (.ldc2_w 265, 3) := by decide +kernel
theorem dX8_about_14 : decode cX8_about 14 = .ok (.invokestatic 95, 3) := by decide +kernel
theorem dX8_about_17 : decode cX8_about 17 = .ok (.ifCond .ne 7, 3) := by decide +kernel
theorem dX8_about_20 : decode cX8_about 20 = .ok (.ldc2_w 160, 3) := by decide +kernel
theorem dX8_about_23 : decode cX8_about 23 = .ok (.lreturn, 1) := by decide +kernel
theorem dX8_about_24 : decode cX8_about 24 = .ok (.iload_n 2, 1) := by decide +kernel
theorem dX8_about_25 : decode cX8_about 25 = .ok (.ifCond .ne 12, 3) := by decide +kernel
theorem dX8_about_28 : decode cX8_about 28 = .ok (.aload_n 0, 1) := by decide +kernel
theorem dX8_about_29 : decode cX8_about 29 = .ok (.iload_n 1, 1) := by decide +kernel
theorem dX8_about_30 : decode cX8_about 30 = .ok (.invokevirtual 135, 3) := by decide +kernel
theorem dX8_about_33 : decode cX8_about 33 = .ok (.i2l, 1) := by decide +kernel
theorem dX8_about_34 : decode cX8_about 34 = .ok (.goto 68, 3) := by decide +kernel
theorem dX8_about_37 : decode cX8_about 37 = .ok (.iload_n 2, 1) := by decide +kernel
theorem dX8_about_38 : decode cX8_about 38 = .ok (.iconst 1, 1) := by decide +kernel
theorem dX8_about_39 : decode cX8_about 39 = .ok (.if_icmp .ne 11, 3) := by decide +kernel
theorem dX8_about_42 : decode cX8_about 42 = .ok (.aload_n 0, 1) := by decide +kernel
theorem dX8_about_43 : decode cX8_about 43 = .ok (.iload_n 1, 1) := by decide +kernel
theorem dX8_about_44 : decode cX8_about 44 = .ok (.invokevirtual 267, 3) := by decide +kernel
theorem dX8_about_47 : decode cX8_about 47 = .ok (.goto 55, 3) := by decide +kernel
theorem dX8_about_50 : decode cX8_about 50 = .ok (.iload_n 2, 1) := by decide +kernel
theorem dX8_about_51 : decode cX8_about 51 = .ok (.iconst 2, 1) := by decide +kernel
theorem dX8_about_52 : decode cX8_about 52 = .ok (.if_icmp .ne 13, 3) := by decide +kernel
theorem dX8_about_55 : decode cX8_about 55 = .ok (.aload_n 0, 1) := by decide +kernel
theorem dX8_about_56 : decode cX8_about 56 = .ok (.iload_n 1, 1) := by decide +kernel
theorem dX8_about_57 : decode cX8_about 57 = .ok (.bipush 33, 2) := by decide +kernel
theorem dX8_about_59 : decode cX8_about 59 = .ok (.invokevirtual 103, 3) := by decide +kernel
theorem dX8_about_62 : decode cX8_about 62 = .ok (.goto 40, 3) := by decide +kernel
theorem dX8_about_65 : decode cX8_about 65 = .ok (.iload_n 2, 1) := by decide +kernel
theorem dX8_about_66 : decode cX8_about 66 = .ok (.iconst 3, 1) := by decide +kernel
theorem dX8_about_67 : decode cX8_about 67 = .ok (.if_icmp .ne 13, 3) := by decide +kernel
theorem dX8_about_70 : decode cX8_about 70 = .ok (.aload_n 0, 1) := by decide +kernel
theorem dX8_about_71 : decode cX8_about 71 = .ok (.iload_n 1, 1) := by decide +kernel
theorem dX8_about_72 : decode cX8_about 72 = .ok (.bipush 34, 2) := by decide +kernel
theorem dX8_about_74 : decode cX8_about 74 = .ok (.invokevirtual 103, 3) := by decide +kernel
theorem dX8_about_77 : decode cX8_about 77 = .ok (.goto 25, 3) := by decide +kernel
theorem dX8_about_80 : decode cX8_about 80 = .ok (.iload_n 2, 1) := by decide +kernel
theorem dX8_about_81 : decode cX8_about 81 = .ok (.iconst 4, 1) := by decide +kernel
theorem dX8_about_82 : decode cX8_about 82 = .ok (.if_icmp .ne 13, 3) := by decide +kernel
theorem dX8_about_85 : decode cX8_about 85 = .ok (.aload_n 0, 1) := by decide +kernel
theorem dX8_about_86 : decode cX8_about 86 = .ok (.iload_n 1, 1) := by decide +kernel
theorem dX8_about_87 : decode cX8_about 87 = .ok (.bipush 35, 2) := by decide +kernel
theorem dX8_about_89 : decode cX8_about 89 = .ok (.invokevirtual 103, 3) := by decide +kernel
theorem dX8_about_92 : decode cX8_about 92 = .ok (.goto 10, 3) := by decide +kernel
theorem dX8_about_95 : decode cX8_about 95 = .ok (.aload_n 0, 1) := by decide +kernel
theorem dX8_about_96 : decode cX8_about 96 = .ok (.iload_n 1, 1) := by decide +kernel
theorem dX8_about_97 : decode cX8_about 97 = .ok (.bipush 36, 2) := by decide +kernel
theorem dX8_about_99 : decode cX8_about 99 = .ok (.invokevirtual 103, 3) := by decide +kernel
theorem dX8_about_102 : decode cX8_about 102 = .ok (.lreturn, 1) := by decide +kernel
set_option maxHeartbeats 4000000 in
set_option maxRecDepth 100000 in
theorem tX8_about (l : Launch) (G : Gg) (b0 : Nat) {K : Kk} {R : Rr} {M : Mm} {r : Nat} {a0 : Int32} {a1 : Int32} {res : Int64} {M' : Mm} (hm : mX8_about K R M r a0 a1 = some (res, M')) : CT l G b0 yX8_about cX8_about 3 (some .long) (rmz 6 134) [.ref r, .int a0, .int a1] K R M (some (.long res)) K R M' := by
  refine ct_of (by decide +kernel) (Nat.le_of_ble_eq_true rfl) (fun w hq => ?_)
  have hw := hq.b
  change w 0 0 0 [(0, .ref r), (1, .int a0), (2, .int a1)] [] K R M
  replace hm := h_start hm
  unfold mX8_about at hm
  obtain ⟨h1, m18⟩ := h_ck hm
  clear hm
  refine r_aload_n hw dX8_about_0 0 rfl ?_
  refine r_iload_n hw dX8_about_1 1 rfl ?_
  obtain ⟨i2, g2, m19⟩ := h_bd m18
  clear m18
  refine r_callV1 hw (tX8_isPiece l G b0 g2) lB_X8_isPiece lI_X8_isPiece mL_X8_226 (c := 8) rfl h1 rfl (Nat.le_of_ble_eq_true rfl) (Nat.le_of_ble_eq_true rfl) rfl (Nat.le_of_ble_eq_true rfl) dX8_about_2 ?_
  refine r_if_eq (tgt := 20) hw dX8_about_5 (by decide) (fun c3 => ?_) (fun c3 => ?_)
  · have m20 := h_if_t c3 m19
    clear m19
    refine r_ldc2 (v := (-9000000000000000001)) hw dX8_about_20 kW_X8_160 ?_
    cases h_ret m20
    exact r_lreturn hq rfl rfl dX8_about_23
  · have m21 := h_if_f c3 m19
    clear m19
    refine r_iload_n hw dX8_about_8 2 rfl ?_
    refine r_i2l hw dX8_about_9 ?_
    refine r_lconst (v := 0) hw dX8_about_10 rfl ?_
    refine r_ldc2 (v := 5) hw dX8_about_11 kW_X8_265 ?_
    obtain ⟨i4, g4, m22⟩ := h_bd m21
    clear m21
    refine r_callS1 hw (tX8_isIn l G b0 g4) lB_X8_isIn sT_X8_isIn mL_X8_95 rfl rfl (Nat.le_of_ble_eq_true rfl) (Nat.le_of_ble_eq_true rfl) rfl (Nat.le_of_ble_eq_true rfl) dX8_about_14 ?_
    refine r_if_ne (tgt := 24) hw dX8_about_17 (by decide) (fun c5 => ?_) (fun c5 => ?_)
    · have m23 := h_if_f c5 m22
      clear m22
      refine r_iload_n hw dX8_about_24 2 rfl ?_
      refine r_if_ne (tgt := 37) hw dX8_about_25 (by decide) (fun c6 => ?_) (fun c6 => ?_)
      · have m24 := h_if_f c6 m23
        clear m23
        refine r_iload_n hw dX8_about_37 2 rfl ?_
        refine r_iconst (v := 1) hw dX8_about_38 rfl ?_
        refine r_icmp_ne (tgt := 50) hw dX8_about_39 (by decide) (fun c7 => ?_) (fun c7 => ?_)
        · have m25 := h_if_f c7 m24
          clear m24
          refine r_iload_n hw dX8_about_50 2 rfl ?_
          refine r_iconst (v := 2) hw dX8_about_51 rfl ?_
          refine r_icmp_ne (tgt := 65) hw dX8_about_52 (by decide) (fun c8 => ?_) (fun c8 => ?_)
          · have m26 := h_if_f c8 m25
            clear m25
            refine r_iload_n hw dX8_about_65 2 rfl ?_
            refine r_iconst (v := 3) hw dX8_about_66 rfl ?_
            refine r_icmp_ne (tgt := 80) hw dX8_about_67 (by decide) (fun c9 => ?_) (fun c9 => ?_)
            · have m27 := h_if_f c9 m26
              clear m26
              refine r_iload_n hw dX8_about_80 2 rfl ?_
              refine r_iconst (v := 4) hw dX8_about_81 rfl ?_
              refine r_icmp_ne (tgt := 95) hw dX8_about_82 (by decide) (fun c10 => ?_) (fun c10 => ?_)
              · have m28 := h_if_f c10 m27
                clear m27
                refine r_aload_n hw dX8_about_95 0 rfl ?_
                refine r_iload_n hw dX8_about_96 1 rfl ?_
                refine r_bipush (v := 36) hw dX8_about_97 rfl ?_
                obtain ⟨l11, g11, m29⟩ := h_bd m28
                clear m28
                refine r_callV1 hw (tX8_get l G b0 g11) lB_X8_get lI_X8_get mL_X8_103 (c := 8) rfl h1 rfl (Nat.le_of_ble_eq_true rfl) (Nat.le_of_ble_eq_true rfl) rfl (Nat.le_of_ble_eq_true rfl) dX8_about_99 ?_
                cases h_ret m29
                exact r_lreturn hq rfl rfl dX8_about_102
              · have m30 := h_if_t c10 m27
                clear m27
                refine r_aload_n hw dX8_about_85 0 rfl ?_
                refine r_iload_n hw dX8_about_86 1 rfl ?_
                refine r_bipush (v := 35) hw dX8_about_87 rfl ?_
                obtain ⟨l12, g12, m31⟩ := h_bd m30
                clear m30
                refine r_callV1 hw (tX8_get l G b0 g12) lB_X8_get lI_X8_get mL_X8_103 (c := 8) rfl h1 rfl (Nat.le_of_ble_eq_true rfl) (Nat.le_of_ble_eq_true rfl) rfl (Nat.le_of_ble_eq_true rfl) dX8_about_89 ?_
                refine r_goto (tgt := 102) hw dX8_about_92 (by decide) ?_
                cases h_ret m31
                exact r_lreturn hq rfl rfl dX8_about_102
            · have m32 := h_if_t c9 m26
              clear m26
              refine r_aload_n hw dX8_about_70 0 rfl ?_
              refine r_iload_n hw dX8_about_71 1 rfl ?_
              refine r_bipush (v := 34) hw dX8_about_72 rfl ?_
              obtain ⟨l13, g13, m33⟩ := h_bd m32
              clear m32
              refine r_callV1 hw (tX8_get l G b0 g13) lB_X8_get lI_X8_get mL_X8_103 (c := 8) rfl h1 rfl (Nat.le_of_ble_eq_true rfl) (Nat.le_of_ble_eq_true rfl) rfl (Nat.le_of_ble_eq_true rfl) dX8_about_74 ?_
              refine r_goto (tgt := 102) hw dX8_about_77 (by decide) ?_
              cases h_ret m33
              exact r_lreturn hq rfl rfl dX8_about_102
          · have m34 := h_if_t c8 m25
            clear m25
            refine r_aload_n hw dX8_about_55 0 rfl ?_
            refine r_iload_n hw dX8_about_56 1 rfl ?_
            refine r_bipush (v := 33) hw dX8_about_57 rfl ?_
            obtain ⟨l14, g14, m35⟩ := h_bd m34
            clear m34
            refine r_callV1 hw (tX8_get l G b0 g14) lB_X8_get lI_X8_get mL_X8_103 (c := 8) rfl h1 rfl (Nat.le_of_ble_eq_true rfl) (Nat.le_of_ble_eq_true rfl) rfl (Nat.le_of_ble_eq_true rfl) dX8_about_59 ?_
            refine r_goto (tgt := 102) hw dX8_about_62 (by decide) ?_
            cases h_ret m35
            exact r_lreturn hq rfl rfl dX8_about_102
        · have m36 := h_if_t c7 m24
          clear m24
          refine r_aload_n hw dX8_about_42 0 rfl ?_
          refine r_iload_n hw dX8_about_43 1 rfl ?_
          obtain ⟨l15, M16, g16, m37⟩ := h_bd2 m36
          clear m36
          refine r_callV1 hw (tX8_areaOf l G b0 g16) lB_X8_areaOf lI_X8_areaOf mL_X8_267 (c := 8) rfl h1 rfl (Nat.le_of_ble_eq_true rfl) (Nat.le_of_ble_eq_true rfl) rfl (Nat.le_of_ble_eq_true rfl) dX8_about_44 ?_
          refine r_goto (tgt := 102) hw dX8_about_47 (by decide) ?_
          cases h_ret m37
          exact r_lreturn hq rfl rfl dX8_about_102
      · have m38 := h_if_t c6 m23
        clear m23
        refine r_aload_n hw dX8_about_28 0 rfl ?_
        refine r_iload_n hw dX8_about_29 1 rfl ?_
        obtain ⟨i17, g17, m39⟩ := h_bd m38
        clear m38
        refine r_callV1 hw (tX8_size l G b0 g17) lB_X8_size lI_X8_size mL_X8_135 (c := 8) rfl h1 rfl (Nat.le_of_ble_eq_true rfl) (Nat.le_of_ble_eq_true rfl) rfl (Nat.le_of_ble_eq_true rfl) dX8_about_30 ?_
        refine r_i2l hw dX8_about_33 ?_
        refine r_goto (tgt := 102) hw dX8_about_34 (by decide) ?_
        cases h_ret m39
        exact r_lreturn hq rfl rfl dX8_about_102
    · have m40 := h_if_t c5 m22
      clear m22
      refine r_ldc2 (v := (-9000000000000000001)) hw dX8_about_20 kW_X8_160 ?_
      cases h_ret m40
      exact r_lreturn hq rfl rfl dX8_about_23
theorem dX8_at_0 : decode cX8_at 0 = .ok (.aload_n 0, 1) := by decide +kernel
theorem dX8_at_1 : decode cX8_at 1 = .ok (.iload_n 1, 1) := by decide +kernel
theorem dX8_at_2 : decode cX8_at 2 = .ok (.invokevirtual 226, 3) := by decide +kernel
theorem dX8_at_5 : decode cX8_at 5 = .ok (.ifCond .eq 19, 3) := by decide +kernel
theorem dX8_at_8 : decode cX8_at 8 = .ok (.iload_n 2, 1) := by decide +kernel
theorem dX8_at_9 : decode cX8_at 9 = .ok (.ifCond .lt 15, 3) := by decide +kernel
theorem dX8_at_12 : decode cX8_at 12 = .ok (.iload_n 3, 1) := by decide +kernel
theorem dX8_at_13 : decode cX8_at 13 = .ok (.i2l, 1) := by decide +kernel
theorem dX8_at_14 : decode cX8_at 14 = .ok (.lconst 0, 1) := by decide +kernel
theorem dX8_at_15 : decode cX8_at 15 = .ok (.ldc2_w 270, 3) := by decide +kernel
theorem dX8_at_18 : decode cX8_at 18 = .ok (.invokestatic 95, 3) := by decide +kernel
theorem dX8_at_21 : decode cX8_at 21 = .ok (.ifCond .ne 7, 3) := by decide +kernel
theorem dX8_at_24 : decode cX8_at 24 = .ok (.ldc2_w 160, 3) := by decide +kernel
theorem dX8_at_27 : decode cX8_at 27 = .ok (.lreturn, 1) := by decide +kernel
theorem dX8_at_28 : decode cX8_at 28 = .ok (.iload_n 2, 1) := by decide +kernel
theorem dX8_at_29 : decode cX8_at 29 = .ok (.aload_n 0, 1) := by decide +kernel
theorem dX8_at_30 : decode cX8_at 30 = .ok (.iload_n 1, 1) := by decide +kernel
theorem dX8_at_31 : decode cX8_at 31 = .ok (.invokevirtual 135, 3) := by decide +kernel
theorem dX8_at_34 : decode cX8_at 34 = .ok (.if_icmp .lt 7, 3) := by decide +kernel
theorem dX8_at_37 : decode cX8_at 37 = .ok (.ldc2_w 272, 3) := by decide +kernel
theorem dX8_at_40 : decode cX8_at 40 = .ok (.lreturn, 1) := by decide +kernel
theorem dX8_at_41 : decode cX8_at 41 = .ok (.iload_n 3, 1) := by decide +kernel
theorem dX8_at_42 : decode cX8_at 42 = .ok (.iconst 1, 1) := by decide +kernel
theorem dX8_at_43 : decode cX8_at 43 = .ok (.if_icmp .le 16, 3) := by decide +kernel
theorem dX8_at_46 : decode cX8_at 46 = .ok (.aload_n 0, 1) := by decide +kernel
theorem dX8_at_47 : decode cX8_at 47 = .ok (.iload_n 1, 1) := by decide +kernel
theorem dX8_at_48 : decode cX8_at 48 = .ok (.iload_n 3, 1) := by decide +kernel
theorem dX8_at_49 : decode cX8_at 49 = .ok (.iconst 1, 1) := by decide +kernel
theorem dX8_at_50 : decode cX8_at 50 = .ok (.isub, 1) := by decide +kernel
theorem dX8_at_51 : decode cX8_at 51 = .ok (.iconst 2, 1) := by decide +kernel
theorem dX8_at_52 : decode cX8_at 52 = .ok (.iload_n 2, 1) := by decide +kernel
theorem dX8_at_53 : decode cX8_at 53 = .ok (.imul, 1) := by decide +kernel
theorem dX8_at_54 : decode cX8_at 54 = .ok (.iadd, 1) := by decide +kernel
theorem dX8_at_55 : decode cX8_at 55 = .ok (.invokevirtual 103, 3) := by decide +kernel
theorem dX8_at_58 : decode cX8_at 58 = .ok (.lreturn, 1) := by decide +kernel
theorem dX8_at_59 : decode cX8_at 59 = .ok (.aload_n 0, 1) := by decide +kernel
theorem dX8_at_60 : decode cX8_at 60 = .ok (.iload_n 1, 1) := by decide +kernel
theorem dX8_at_61 : decode cX8_at 61 = .ok (.invokevirtual 149, 3) := by decide +kernel
theorem dX8_at_64 : decode cX8_at 64 = .ok (.iload_n 3, 1) := by decide +kernel
theorem dX8_at_65 : decode cX8_at 65 = .ok (.ifCond .ne 12, 3) := by decide +kernel
theorem dX8_at_68 : decode cX8_at 68 = .ok (.aload_n 0, 1) := by decide +kernel
theorem dX8_at_69 : decode cX8_at 69 = .ok (.getfield 42, 3) := by decide +kernel
theorem dX8_at_72 : decode cX8_at 72 = .ok (.iload_n 2, 1) := by decide +kernel
theorem dX8_at_73 : decode cX8_at 73 = .ok (.laload, 1) := by decide +kernel
theorem dX8_at_74 : decode cX8_at 74 = .ok (.goto 9, 3) := by decide +kernel
theorem dX8_at_77 : decode cX8_at 77 = .ok (.aload_n 0, 1) := by decide +kernel
theorem dX8_at_78 : decode cX8_at 78 = .ok (.getfield 45, 3) := by decide +kernel
theorem dX8_at_81 : decode cX8_at 81 = .ok (.iload_n 2, 1) := by decide +kernel
theorem dX8_at_82 : decode cX8_at 82 = .ok (.laload, 1) := by decide +kernel
theorem dX8_at_83 : decode cX8_at 83 = .ok (.lreturn, 1) := by decide +kernel
set_option maxHeartbeats 4000000 in
set_option maxRecDepth 100000 in
theorem tX8_at (l : Launch) (G : Gg) (b0 : Nat) {K : Kk} {R : Rr} {M : Mm} {r : Nat} {a0 : Int32} {a1 : Int32} {a2 : Int32} {res : Int64} {M' : Mm} (hm : mX8_at K R M r a0 a1 a2 = some (res, M')) : CT l G b0 yX8_at cX8_at 4 (some .long) (rmz 5 109) [.ref r, .int a0, .int a1, .int a2] K R M (some (.long res)) K R M' := by
  refine ct_of (by decide +kernel) (Nat.le_of_ble_eq_true rfl) (fun w hq => ?_)
  have hw := hq.b
  change w 0 0 0 [(0, .ref r), (1, .int a0), (2, .int a1), (3, .int a2)] [] K R M
  replace hm := h_start hm
  unfold mX8_at at hm
  obtain ⟨h1, m17⟩ := h_ck hm
  clear hm
  refine r_aload_n hw dX8_at_0 0 rfl ?_
  refine r_iload_n hw dX8_at_1 1 rfl ?_
  obtain ⟨i2, g2, m18⟩ := h_bd m17
  clear m17
  refine r_callV1 hw (tX8_isPiece l G b0 g2) lB_X8_isPiece lI_X8_isPiece mL_X8_226 (c := 8) rfl h1 rfl (Nat.le_of_ble_eq_true rfl) (Nat.le_of_ble_eq_true rfl) rfl (Nat.le_of_ble_eq_true rfl) dX8_at_2 ?_
  refine r_if_eq (tgt := 24) hw dX8_at_5 (by decide) (fun c3 => ?_) (fun c3 => ?_)
  · have m19 := h_if_t c3 m18
    clear m18
    refine r_ldc2 (v := (-9000000000000000001)) hw dX8_at_24 kW_X8_160 ?_
    cases h_ret m19
    exact r_lreturn hq rfl rfl dX8_at_27
  · have m20 := h_if_f c3 m18
    clear m18
    refine r_iload_n hw dX8_at_8 2 rfl ?_
    refine r_if_lt (tgt := 24) hw dX8_at_9 (by decide) (fun c4 => ?_) (fun c4 => ?_)
    · have m21 := h_if_t c4 m20
      clear m20
      refine r_ldc2 (v := (-9000000000000000001)) hw dX8_at_24 kW_X8_160 ?_
      cases h_ret m21
      exact r_lreturn hq rfl rfl dX8_at_27
    · have m22 := h_if_f c4 m20
      clear m20
      refine r_iload_n hw dX8_at_12 3 rfl ?_
      refine r_i2l hw dX8_at_13 ?_
      refine r_lconst (v := 0) hw dX8_at_14 rfl ?_
      refine r_ldc2 (v := 3) hw dX8_at_15 kW_X8_270 ?_
      obtain ⟨i5, g5, m23⟩ := h_bd m22
      clear m22
      refine r_callS1 hw (tX8_isIn l G b0 g5) lB_X8_isIn sT_X8_isIn mL_X8_95 rfl rfl (Nat.le_of_ble_eq_true rfl) (Nat.le_of_ble_eq_true rfl) rfl (Nat.le_of_ble_eq_true rfl) dX8_at_18 ?_
      refine r_if_ne (tgt := 28) hw dX8_at_21 (by decide) (fun c6 => ?_) (fun c6 => ?_)
      · have m24 := h_if_f c6 m23
        clear m23
        refine r_iload_n hw dX8_at_28 2 rfl ?_
        refine r_aload_n hw dX8_at_29 0 rfl ?_
        refine r_iload_n hw dX8_at_30 1 rfl ?_
        obtain ⟨i7, g7, m25⟩ := h_bd m24
        clear m24
        refine r_callV1 hw (tX8_size l G b0 g7) lB_X8_size lI_X8_size mL_X8_135 (c := 8) rfl h1 rfl (Nat.le_of_ble_eq_true rfl) (Nat.le_of_ble_eq_true rfl) rfl (Nat.le_of_ble_eq_true rfl) dX8_at_31 ?_
        refine r_icmp_lt (tgt := 41) hw dX8_at_34 (by decide) (fun c8 => ?_) (fun c8 => ?_)
        · have m26 := h_if_t c8 m25
          clear m25
          refine r_iload_n hw dX8_at_41 3 rfl ?_
          refine r_iconst (v := 1) hw dX8_at_42 rfl ?_
          refine r_icmp_le (tgt := 59) hw dX8_at_43 (by decide) (fun c9 => ?_) (fun c9 => ?_)
          · have m27 := h_if_t c9 m26
            clear m26
            refine r_aload_n hw dX8_at_59 0 rfl ?_
            refine r_iload_n hw dX8_at_60 1 rfl ?_
            obtain ⟨M10, g10, m28⟩ := h_bd m27
            clear m27
            refine r_callV0 hw (tX8_lookA l G b0 g10) lB_X8_lookA lI_X8_lookA mL_X8_149 (c := 8) rfl h1 rfl (Nat.le_of_ble_eq_true rfl) (Nat.le_of_ble_eq_true rfl) rfl (Nat.le_of_ble_eq_true rfl) dX8_at_61 ?_
            refine r_iload_n hw dX8_at_64 3 rfl ?_
            refine r_if_ne (tgt := 77) hw dX8_at_65 (by decide) (fun c11 => ?_) (fun c11 => ?_)
            · have m29 := h_if_f c11 m28
              clear m28
              refine r_aload_n hw dX8_at_77 0 rfl ?_
              obtain ⟨q12, bq12, m30⟩ := h_bd m29
              clear m29
              refine r_getR hw fO_X8_45 h1 bq12 dX8_at_78 ?_
              refine r_iload_n hw dX8_at_81 2 rfl ?_
              obtain ⟨h13, m31⟩ := h_ck m30
              clear m30
              refine r_laload hw h13 dX8_at_82 ?_
              cases h_ret m31
              exact r_lreturn hq rfl rfl dX8_at_83
            · have m32 := h_if_t c11 m28
              clear m28
              refine r_aload_n hw dX8_at_68 0 rfl ?_
              obtain ⟨q14, bq14, m33⟩ := h_bd m32
              clear m32
              refine r_getR hw fO_X8_42 h1 bq14 dX8_at_69 ?_
              refine r_iload_n hw dX8_at_72 2 rfl ?_
              obtain ⟨h15, m34⟩ := h_ck m33
              clear m33
              refine r_laload hw h15 dX8_at_73 ?_
              refine r_goto (tgt := 83) hw dX8_at_74 (by decide) ?_
              cases h_ret m34
              exact r_lreturn hq rfl rfl dX8_at_83
          · have m35 := h_if_f c9 m26
            clear m26
            refine r_aload_n hw dX8_at_46 0 rfl ?_
            refine r_iload_n hw dX8_at_47 1 rfl ?_
            refine r_iload_n hw dX8_at_48 3 rfl ?_
            refine r_iconst (v := 1) hw dX8_at_49 rfl ?_
            refine r_isub hw dX8_at_50 ?_
            refine r_iconst (v := 2) hw dX8_at_51 rfl ?_
            refine r_iload_n hw dX8_at_52 2 rfl ?_
            refine r_imul hw dX8_at_53 ?_
            refine r_iadd hw dX8_at_54 ?_
            obtain ⟨l16, g16, m36⟩ := h_bd m35
            clear m35
            refine r_callV1 hw (tX8_get l G b0 g16) lB_X8_get lI_X8_get mL_X8_103 (c := 8) rfl h1 rfl (Nat.le_of_ble_eq_true rfl) (Nat.le_of_ble_eq_true rfl) rfl (Nat.le_of_ble_eq_true rfl) dX8_at_55 ?_
            cases h_ret m36
            exact r_lreturn hq rfl rfl dX8_at_58
        · have m37 := h_if_f c8 m25
          clear m25
          refine r_ldc2 (v := (-9000000000000000005)) hw dX8_at_37 kW_X8_272 ?_
          cases h_ret m37
          exact r_lreturn hq rfl rfl dX8_at_40
      · have m38 := h_if_t c6 m23
        clear m23
        refine r_ldc2 (v := (-9000000000000000001)) hw dX8_at_24 kW_X8_160 ?_
        cases h_ret m38
        exact r_lreturn hq rfl rfl dX8_at_27
theorem dX8_parts_0 : decode cX8_parts 0 = .ok (.iconst 0, 1) := by decide +kernel
theorem dX8_parts_1 : decode cX8_parts 1 = .ok (.istore_n 1, 1) := by decide +kernel
theorem dX8_parts_2 : decode cX8_parts 2 = .ok (.iload_n 1, 1) := by decide +kernel
theorem dX8_parts_3 : decode cX8_parts 3 = .ok (.aload_n 0, 1) := by decide +kernel
theorem dX8_parts_4 : decode cX8_parts 4 = .ok (.getfield 146, 3) := by decide +kernel
theorem dX8_parts_7 : decode cX8_parts 7 = .ok (.if_icmp .ge 100, 3) := by decide +kernel
theorem dX8_parts_10 : decode cX8_parts 10 = .ok (.iload_n 1, 1) := by decide +kernel
theorem dX8_parts_11 : decode cX8_parts 11 = .ok (.iconst 1, 1) := by decide +kernel
theorem dX8_parts_12 : decode cX8_parts 12 = .ok (.iadd, 1) := by decide +kernel
theorem dX8_parts_13 : decode cX8_parts 13 = .ok (.aload_n 0, 1) := by decide +kernel
theorem dX8_parts_14 : decode cX8_parts 14 = .ok (.getfield 146, 3) := by decide +kernel
theorem dX8_parts_17 : decode cX8_parts 17 = .ok (.irem, 1) := by decide +kernel
theorem dX8_parts_18 : decode cX8_parts 18 = .ok (.istore_n 2, 1) := by decide +kernel
theorem dX8_parts_19 : decode cX8_parts 19 = .ok (.iconst 1, 1) := by decide +kernel
theorem dX8_parts_20 : decode cX8_parts 20 = .ok (.istore_n 3, 1) := by decide +kernel
theorem dX8_parts_21 : decode cX8_parts 21 = .ok (.iconst 0, 1) := by decide +kernel
theorem dX8_parts_22 : decode cX8_parts 22 = .ok (.istore 4, 2) := by decide +kernel
theorem dX8_parts_24 : decode cX8_parts 24 = .ok (.iload 4, 2) := by decide +kernel
theorem dX8_parts_26 : decode cX8_parts 26 = .ok (.aload_n 0, 1) := by decide +kernel
theorem dX8_parts_27 : decode cX8_parts 27 = .ok (.getfield 153, 3) := by decide +kernel
theorem dX8_parts_30 : decode cX8_parts 30 = .ok (.if_icmp .ge 65, 3) := by decide +kernel
theorem dX8_parts_33 : decode cX8_parts 33 = .ok (.iload_n 3, 1) := by decide +kernel
theorem dX8_parts_34 : decode cX8_parts 34 = .ok (.ifCond .eq 53, 3) := by decide +kernel
theorem dX8_parts_37 : decode cX8_parts 37 = .ok (.aload_n 0, 1) := by decide +kernel
theorem dX8_parts_38 : decode cX8_parts 38 = .ok (.getfield 42, 3) := by decide +kernel
theorem dX8_parts_41 : decode cX8_parts 41 = .ok (.iload_n 1, 1) := by decide +kernel
theorem dX8_parts_42 : decode cX8_parts 42 = .ok (.laload, 1) := by decide +kernel
theorem dX8_parts_43 : decode cX8_parts 43 = .ok (.aload_n 0, 1) := by decide +kernel
theorem dX8_parts_44 : decode cX8_parts 44 = .ok (.getfield 45, 3) := by decide +kernel
theorem dX8_parts_47 : decode cX8_parts 47 = .ok (.iload_n 1, 1) := by decide +kernel
theorem dX8_parts_48 : decode cX8_parts 48 = .ok (.laload, 1) := by decide +kernel
theorem dX8_parts_49 : decode cX8_parts 49 = .ok (.aload_n 0, 1) := by decide +kernel
theorem dX8_parts_50 : decode cX8_parts 50 = .ok (.getfield 42, 3) := by decide +kernel
theorem dX8_parts_53 : decode cX8_parts 53 = .ok (.iload_n 2, 1) := by decide +kernel
theorem dX8_parts_54 : decode cX8_parts 54 = .ok (.laload, 1) := by decide +kernel
theorem dX8_parts_55 : decode cX8_parts 55 = .ok (.aload_n 0, 1) := by decide +kernel
theorem dX8_parts_56 : decode cX8_parts 56 = .ok (.getfield 45, 3) := by decide +kernel
theorem dX8_parts_59 : decode cX8_parts 59 = .ok (.iload_n 2, 1) := by decide +kernel
theorem dX8_parts_60 : decode cX8_parts 60 = .ok (.laload, 1) := by decide +kernel
theorem dX8_parts_61 : decode cX8_parts 61 = .ok (.aload_n 0, 1) := by decide +kernel
theorem dX8_parts_62 : decode cX8_parts 62 = .ok (.getfield 48, 3) := by decide +kernel
theorem dX8_parts_65 : decode cX8_parts 65 = .ok (.iload 4, 2) := by decide +kernel
theorem dX8_parts_67 : decode cX8_parts 67 = .ok (.laload, 1) := by decide +kernel
theorem dX8_parts_68 : decode cX8_parts 68 = .ok (.aload_n 0, 1) := by decide +kernel
theorem dX8_parts_69 : decode cX8_parts 69 = .ok (.getfield 51, 3) := by decide +kernel
theorem dX8_parts_72 : decode cX8_parts 72 = .ok (.iload 4, 2) := by decide +kernel
theorem dX8_parts_74 : decode cX8_parts 74 = .ok (.laload, 1) := by decide +kernel
theorem dX8_parts_75 : decode cX8_parts 75 = .ok (.invokestatic 128, 3) := by decide +kernel
theorem dX8_parts_78 : decode cX8_parts 78 = .ok (.lconst 0, 1) := by decide +kernel
theorem dX8_parts_79 : decode cX8_parts 79 = .ok (.lcmp, 1) := by decide +kernel
theorem dX8_parts_80 : decode cX8_parts 80 = .ok (.ifCond .gt 7, 3) := by decide +kernel
theorem dX8_parts_83 : decode cX8_parts 83 = .ok (.iconst 1, 1) := by decide +kernel
theorem dX8_parts_84 : decode cX8_parts 84 = .ok (.goto 4, 3) := by decide +kernel
theorem dX8_parts_87 : decode cX8_parts 87 = .ok (.iconst 0, 1) := by decide +kernel
theorem dX8_parts_88 : decode cX8_parts 88 = .ok (.istore_n 3, 1) := by decide +kernel
theorem dX8_parts_89 : decode cX8_parts 89 = .ok (.iinc 4 1, 3) := by decide +kernel
theorem dX8_parts_92 : decode cX8_parts 92 = .ok (.goto (-68), 3) := by decide +kernel
theorem dX8_parts_95 : decode cX8_parts 95 = .ok (.iload_n 3, 1) := by decide +kernel
theorem dX8_parts_96 : decode cX8_parts 96 = .ok (.ifCond .eq 5, 3) := by decide +kernel
theorem dX8_parts_99 : decode cX8_parts 99 = .ok (.iconst 1, 1) := by decide +kernel
theorem dX8_parts_100 : decode cX8_parts 100 = .ok (.ireturn, 1) := by decide +kernel
theorem dX8_parts_101 : decode cX8_parts 101 = .ok (.iinc 1 1, 3) := by decide +kernel
theorem dX8_parts_104 : decode cX8_parts 104 = .ok (.goto (-102), 3) := by decide +kernel
theorem dX8_parts_107 : decode cX8_parts 107 = .ok (.iconst 0, 1) := by decide +kernel
theorem dX8_parts_108 : decode cX8_parts 108 = .ok (.ireturn, 1) := by decide +kernel
set_option maxHeartbeats 4000000 in
set_option maxRecDepth 100000 in
theorem tX8_parts (l : Launch) (G : Gg) (b0 : Nat) {K : Kk} {R : Rr} {M : Mm} {r : Nat} {res : Int32} (hm : mX8_parts K R M r = some (res)) : CT l G b0 yX8_parts cX8_parts 5 (some .boolean) (rmz 2 31) [.ref r] K R M (some (.int res)) K R M := by
  refine ct_of (by decide +kernel) (Nat.le_of_ble_eq_true rfl) (fun w hq => ?_)
  have hw := hq.b
  change w 0 0 0 [(0, .ref r)] [] K R M
  replace hm := h_start hm
  unfold mX8_parts at hm
  obtain ⟨h1, m31⟩ := h_ck hm
  clear hm
  refine r_iconst (v := 0) hw dX8_parts_0 rfl ?_
  obtain ⟨i2, ei2, m32⟩ := h_nm m31
  clear m31
  refine r_topI (w := w) ei2 ?_
  refine r_istore_n hw dX8_parts_1 rfl (by decide) rfl ?_
  refine r_sub hw [1, 0] rfl ?_
  obtain ⟨v2, n02, hn2, hv2⟩ := h_lp m32
  clear m32
  have L2 : ∀ n : Nat, ∀ (i3 : Int32), it (mX8_parts_L2 K R M r) n (i3) = some v2 → w 0 0 2 [(0, .ref r), (1, .int i3)] [] K R M := by
    intro n2
    induction n2 with
    | zero => intro i3 hz; exact absurd hz h_it0
    | succ n2 ih2 =>
      intro i3 m33
      replace m33 : (mX8_parts_B2 K R M r i3).bind (Sum.elim (it (mX8_parts_L2 K R M r) n2) some) = some v2 := m33
      unfold mX8_parts_B2 at m33
      refine r_iload_n hw dX8_parts_2 1 rfl ?_
      refine r_aload_n hw dX8_parts_3 0 rfl ?_
      refine r_getI hw fO_X8_146 h1 dX8_parts_4 ?_
      refine r_icmp_ge (tgt := 107) hw dX8_parts_7 (by decide) (fun c4 => ?_) (fun c4 => ?_)
      · have m34 := h_if_f c4 m33
        clear m33
        have m35 := h_ex m34 hv2
        clear m34
        refine r_iconst (v := 0) hw dX8_parts_107 rfl ?_
        cases h_ret m35
        exact r_zreturn hq isB_0 rfl rfl dX8_parts_108
      · have m36 := h_if_t c4 m33
        clear m33
        refine r_iload_n hw dX8_parts_10 1 rfl ?_
        refine r_iconst (v := 1) hw dX8_parts_11 rfl ?_
        refine r_iadd hw dX8_parts_12 ?_
        refine r_aload_n hw dX8_parts_13 0 rfl ?_
        refine r_getI hw fO_X8_146 h1 dX8_parts_14 ?_
        obtain ⟨h5, m37⟩ := h_ck m36
        clear m36
        refine r_irem hw dX8_parts_17 h5 ?_
        obtain ⟨i6, ei6, m38⟩ := h_nm m37
        clear m37
        refine r_topI (w := w) ei6 ?_
        refine r_istore_n hw dX8_parts_18 rfl (by decide) rfl ?_
        refine r_iconst (v := 1) hw dX8_parts_19 rfl ?_
        obtain ⟨i7, ei7, m39⟩ := h_nm m38
        clear m38
        refine r_topI (w := w) ei7 ?_
        refine r_istore_n hw dX8_parts_20 rfl (by decide) rfl ?_
        refine r_iconst (v := 0) hw dX8_parts_21 rfl ?_
        obtain ⟨i8, ei8, m40⟩ := h_nm m39
        clear m39
        refine r_topI (w := w) ei8 ?_
        refine r_istore hw dX8_parts_22 (by decide) rfl ?_
        refine r_sub hw [3, 4, 2, 1, 0] rfl ?_
        obtain ⟨v24, n024, hn24, hv24⟩ := h_lp m40
        clear m40
        have L24 : ∀ n : Nat, ∀ (i9 : Int32) (i10 : Int32), it (mX8_parts_L24 K R M r i3 i6) n (i9, i10) = some v24 → w 0 0 24 [(0, .ref r), (1, .int i3), (2, .int i6), (3, .int i9), (4, .int i10)] [] K R M := by
          intro n24
          induction n24 with
          | zero => intro i9 i10 hz; exact absurd hz h_it0
          | succ n24 ih24 =>
            intro i9 i10 m41
            replace m41 : (mX8_parts_B24 K R M r i3 i6 i9 i10).bind (Sum.elim (it (mX8_parts_L24 K R M r i3 i6) n24) some) = some v24 := m41
            unfold mX8_parts_B24 at m41
            have J88 : ∀ (i11 : Int32) (s12 : Int32), (mX8_parts_J88 K R M r i3 i6 i11 s12).bind (Sum.elim (it (mX8_parts_L24 K R M r i3 i6) n24) some) = some v24 → w 0 0 88 [(0, .ref r), (1, .int i3), (2, .int i6), (4, .int i11)] [.int s12] K R M := by
              intro i11 s12 m42
              unfold mX8_parts_J88 at m42
              refine r_istore_n hw dX8_parts_88 rfl (by decide) rfl ?_
              obtain ⟨i13, ei13, m43⟩ := h_nm m42
              clear m42
              refine r_iinc (j := 4) (v := i13) hw dX8_parts_89 rfl (by rw [ei13]; rfl) (by decide) rfl ?_
              refine r_goto (tgt := 24) hw dX8_parts_92 (by decide) ?_
              refine r_sub hw [2, 3, 4, 1, 0] rfl ?_
              exact ih24 _ _ m43
            have J87 : ∀ (i14 : Int32), (mX8_parts_J87 K R M r i3 i6 i14).bind (Sum.elim (it (mX8_parts_L24 K R M r i3 i6) n24) some) = some v24 → w 0 0 87 [(0, .ref r), (1, .int i3), (2, .int i6), (4, .int i14)] [] K R M := by
              intro i14 m44
              unfold mX8_parts_J87 at m44
              refine r_iconst (v := 0) hw dX8_parts_87 rfl ?_
              exact J88 _ _ m44
            refine r_iload hw dX8_parts_24 4 rfl ?_
            refine r_aload_n hw dX8_parts_26 0 rfl ?_
            refine r_getI hw fO_X8_153 h1 dX8_parts_27 ?_
            refine r_icmp_ge (tgt := 95) hw dX8_parts_30 (by decide) (fun c15 => ?_) (fun c15 => ?_)
            · have m45 := h_if_f c15 m41
              clear m41
              have m46 := h_ex m45 hv24
              clear m45
              refine r_iload_n hw dX8_parts_95 3 rfl ?_
              refine r_if_eq (tgt := 101) hw dX8_parts_96 (by decide) (fun c16 => ?_) (fun c16 => ?_)
              · have m47 := h_if_t c16 m46
                clear m46
                obtain ⟨i17, ei17, m48⟩ := h_nm m47
                clear m47
                refine r_iinc (j := 1) (v := i17) hw dX8_parts_101 rfl (by rw [ei17]; rfl) (by decide) rfl ?_
                refine r_goto (tgt := 2) hw dX8_parts_104 (by decide) ?_
                refine r_sub hw [1, 0] rfl ?_
                exact ih2 _ m48
              · have m49 := h_if_f c16 m46
                clear m46
                have m50 := h_ex m49 hv2
                clear m49
                refine r_iconst (v := 1) hw dX8_parts_99 rfl ?_
                cases h_ret m50
                exact r_zreturn hq isB_1 rfl rfl dX8_parts_100
            · have m51 := h_if_t c15 m41
              clear m41
              refine r_iload_n hw dX8_parts_33 3 rfl ?_
              refine r_if_eq (tgt := 87) hw dX8_parts_34 (by decide) (fun c18 => ?_) (fun c18 => ?_)
              · have m52 := h_if_t c18 m51
                clear m51
                refine r_sub hw [0, 1, 2, 4] rfl ?_
                exact J87 _ m52
              · have m53 := h_if_f c18 m51
                clear m51
                refine r_aload_n hw dX8_parts_37 0 rfl ?_
                obtain ⟨q19, bq19, m54⟩ := h_bd m53
                clear m53
                refine r_getR hw fO_X8_42 h1 bq19 dX8_parts_38 ?_
                refine r_iload_n hw dX8_parts_41 1 rfl ?_
                obtain ⟨h20, m55⟩ := h_ck m54
                clear m54
                refine r_laload hw h20 dX8_parts_42 ?_
                refine r_aload_n hw dX8_parts_43 0 rfl ?_
                obtain ⟨q21, bq21, m56⟩ := h_bd m55
                clear m55
                refine r_getR hw fO_X8_45 h1 bq21 dX8_parts_44 ?_
                refine r_iload_n hw dX8_parts_47 1 rfl ?_
                obtain ⟨h22, m57⟩ := h_ck m56
                clear m56
                refine r_laload hw h22 dX8_parts_48 ?_
                refine r_aload_n hw dX8_parts_49 0 rfl ?_
                refine r_getR hw fO_X8_42 h1 bq19 dX8_parts_50 ?_
                refine r_iload_n hw dX8_parts_53 2 rfl ?_
                obtain ⟨h23, m58⟩ := h_ck m57
                clear m57
                refine r_laload hw h23 dX8_parts_54 ?_
                refine r_aload_n hw dX8_parts_55 0 rfl ?_
                refine r_getR hw fO_X8_45 h1 bq21 dX8_parts_56 ?_
                refine r_iload_n hw dX8_parts_59 2 rfl ?_
                obtain ⟨h24, m59⟩ := h_ck m58
                clear m58
                refine r_laload hw h24 dX8_parts_60 ?_
                refine r_aload_n hw dX8_parts_61 0 rfl ?_
                obtain ⟨q25, bq25, m60⟩ := h_bd m59
                clear m59
                refine r_getR hw fO_X8_48 h1 bq25 dX8_parts_62 ?_
                refine r_iload hw dX8_parts_65 4 rfl ?_
                obtain ⟨h26, m61⟩ := h_ck m60
                clear m60
                refine r_laload hw h26 dX8_parts_67 ?_
                refine r_aload_n hw dX8_parts_68 0 rfl ?_
                obtain ⟨q27, bq27, m62⟩ := h_bd m61
                clear m61
                refine r_getR hw fO_X8_51 h1 bq27 dX8_parts_69 ?_
                refine r_iload hw dX8_parts_72 4 rfl ?_
                obtain ⟨h28, m63⟩ := h_ck m62
                clear m62
                refine r_laload hw h28 dX8_parts_74 ?_
                obtain ⟨l29, g29, m64⟩ := h_bd m63
                clear m63
                refine r_callS1 hw (tX8_side l G b0 g29) lB_X8_side sT_X8_side mL_X8_128 rfl rfl (Nat.le_of_ble_eq_true rfl) (Nat.le_of_ble_eq_true rfl) rfl (Nat.le_of_ble_eq_true rfl) dX8_parts_75 ?_
                refine r_lconst (v := 0) hw dX8_parts_78 rfl ?_
                refine r_lcmp_gt (tgt := 87) hw dX8_parts_79 dX8_parts_80 (by decide) (fun c30 => ?_) (fun c30 => ?_)
                · have m65 := h_if_f c30 m64
                  clear m64
                  refine r_sub hw [0, 1, 2, 4] rfl ?_
                  exact J87 _ m65
                · have m66 := h_if_t c30 m64
                  clear m64
                  refine r_iconst (v := 1) hw dX8_parts_83 rfl ?_
                  refine r_goto (tgt := 88) hw dX8_parts_84 (by decide) ?_
                  refine r_sub hw [0, 1, 2, 4] rfl ?_
                  exact J88 _ _ m66
        exact L24 n024 _ _ hn24
  exact L2 n02 _ hn2
theorem dX8_isOver_0 : decode cX8_isOver 0 = .ok (.aload_n 0, 1) := by decide +kernel
theorem dX8_isOver_1 : decode cX8_isOver 1 = .ok (.iload_n 2, 1) := by decide +kernel
theorem dX8_isOver_2 : decode cX8_isOver 2 = .ok (.invokevirtual 244, 3) := by decide +kernel
theorem dX8_isOver_5 : decode cX8_isOver 5 = .ok (.aload_n 0, 1) := by decide +kernel
theorem dX8_isOver_6 : decode cX8_isOver 6 = .ok (.iload_n 1, 1) := by decide +kernel
theorem dX8_isOver_7 : decode cX8_isOver 7 = .ok (.invokevirtual 149, 3) := by decide +kernel
theorem dX8_isOver_10 : decode cX8_isOver 10 = .ok (.aload_n 0, 1) := by decide +kernel
theorem dX8_isOver_11 : decode cX8_isOver 11 = .ok (.invokevirtual 274, 3) := by decide +kernel
theorem dX8_isOver_14 : decode cX8_isOver 14 = .ok (.istore_n 3, 1) := by decide +kernel
theorem dX8_isOver_15 : decode cX8_isOver 15 = .ok (.aload_n 0, 1) := by decide +kernel
theorem dX8_isOver_16 : decode cX8_isOver 16 = .ok (.iload_n 1, 1) := by decide +kernel
theorem dX8_isOver_17 : decode cX8_isOver 17 = .ok (.invokevirtual 244, 3) := by decide +kernel
theorem dX8_isOver_20 : decode cX8_isOver 20 = .ok (.aload_n 0, 1) := by decide +kernel
theorem dX8_isOver_21 : decode cX8_isOver 21 = .ok (.iload_n 2, 1) := by decide +kernel
theorem dX8_isOver_22 : decode cX8_isOver 22 = .ok (.invokevirtual 149, 3) := by decide +kernel
theorem dX8_isOver_25 : decode cX8_isOver 25 = .ok (.iload_n 3, 1) := by decide +kernel
theorem dX8_isOver_26 : decode cX8_isOver 26 = .ok (.ifCond .ne 14, 3) := by decide +kernel
theorem dX8_isOver_29 : decode cX8_isOver 29 = .ok (.aload_n 0, 1) := by decide +kernel
theorem dX8_isOver_30 : decode cX8_isOver 30 = .ok (.invokevirtual 274, 3) := by decide +kernel
theorem dX8_isOver_33 : decode cX8_isOver 33 = .ok (.ifCond .ne 7, 3) := by decide +kernel
theorem dX8_isOver_36 : decode cX8_isOver 36 = .ok (.iconst 1, 1) := by decide +kernel
theorem dX8_isOver_37 : decode cX8_isOver 37 = .ok (.goto 4, 3) := by decide +kernel
theorem dX8_isOver_40 : decode cX8_isOver 40 = .ok (.iconst 0, 1) := by decide +kernel
theorem dX8_isOver_41 : decode cX8_isOver 41 = .ok (.ireturn, 1) := by decide +kernel
set_option maxHeartbeats 4000000 in
set_option maxRecDepth 100000 in
theorem tX8_isOver (l : Launch) (G : Gg) (b0 : Nat) {K : Kk} {R : Rr} {M : Mm} {r : Nat} {a0 : Int32} {a1 : Int32} {res : Int32} {M' : Mm} (hm : mX8_isOver K R M r a0 a1 = some (res, M')) : CT l G b0 yX8_isOver cX8_isOver 4 (some .boolean) (rmz 6 131) [.ref r, .int a0, .int a1] K R M (some (.int res)) K R M' := by
  refine ct_of (by decide +kernel) (Nat.le_of_ble_eq_true rfl) (fun w hq => ?_)
  have hw := hq.b
  change w 0 0 0 [(0, .ref r), (1, .int a0), (2, .int a1)] [] K R M
  replace hm := h_start hm
  unfold mX8_isOver at hm
  obtain ⟨h1, m10⟩ := h_ck hm
  clear hm
  refine r_aload_n hw dX8_isOver_0 0 rfl ?_
  refine r_iload_n hw dX8_isOver_1 2 rfl ?_
  obtain ⟨M2, g2, m11⟩ := h_bd m10
  clear m10
  refine r_callV0 hw (tX8_lookB l G b0 g2) lB_X8_lookB lI_X8_lookB mL_X8_244 (c := 8) rfl h1 rfl (Nat.le_of_ble_eq_true rfl) (Nat.le_of_ble_eq_true rfl) rfl (Nat.le_of_ble_eq_true rfl) dX8_isOver_2 ?_
  refine r_aload_n hw dX8_isOver_5 0 rfl ?_
  refine r_iload_n hw dX8_isOver_6 1 rfl ?_
  obtain ⟨M3, g3, m12⟩ := h_bd m11
  clear m11
  refine r_callV0 hw (tX8_lookA l G b0 g3) lB_X8_lookA lI_X8_lookA mL_X8_149 (c := 8) rfl h1 rfl (Nat.le_of_ble_eq_true rfl) (Nat.le_of_ble_eq_true rfl) rfl (Nat.le_of_ble_eq_true rfl) dX8_isOver_7 ?_
  refine r_aload_n hw dX8_isOver_10 0 rfl ?_
  obtain ⟨i4, g4, m13⟩ := h_bd m12
  clear m12
  refine r_callV1 hw (tX8_parts l G b0 g4) lB_X8_parts lI_X8_parts mL_X8_274 (c := 8) rfl h1 rfl (Nat.le_of_ble_eq_true rfl) (Nat.le_of_ble_eq_true rfl) rfl (Nat.le_of_ble_eq_true rfl) dX8_isOver_11 ?_
  refine r_istore_n hw dX8_isOver_14 rfl (by decide) rfl ?_
  refine r_aload_n hw dX8_isOver_15 1 rfl ?_
  refine r_iload_n hw dX8_isOver_16 2 rfl ?_
  obtain ⟨M5, g5, m14⟩ := h_bd m13
  clear m13
  refine r_callV0 hw (tX8_lookB l G b0 g5) lB_X8_lookB lI_X8_lookB mL_X8_244 (c := 8) rfl h1 rfl (Nat.le_of_ble_eq_true rfl) (Nat.le_of_ble_eq_true rfl) rfl (Nat.le_of_ble_eq_true rfl) dX8_isOver_17 ?_
  refine r_aload_n hw dX8_isOver_20 1 rfl ?_
  refine r_iload_n hw dX8_isOver_21 3 rfl ?_
  obtain ⟨M6, g6, m15⟩ := h_bd m14
  clear m14
  refine r_callV0 hw (tX8_lookA l G b0 g6) lB_X8_lookA lI_X8_lookA mL_X8_149 (c := 8) rfl h1 rfl (Nat.le_of_ble_eq_true rfl) (Nat.le_of_ble_eq_true rfl) rfl (Nat.le_of_ble_eq_true rfl) dX8_isOver_22 ?_
  refine r_iload_n hw dX8_isOver_25 0 rfl ?_
  refine r_if_ne (tgt := 40) hw dX8_isOver_26 (by decide) (fun c7 => ?_) (fun c7 => ?_)
  · have m16 := h_if_f c7 m15
    clear m15
    refine r_iconst (v := 0) hw dX8_isOver_40 rfl ?_
    cases h_ret m16
    exact r_zreturn hq isB_0 rfl rfl dX8_isOver_41
  · have m17 := h_if_t c7 m15
    clear m15
    refine r_aload_n hw dX8_isOver_29 1 rfl ?_
    obtain ⟨i8, g8, m18⟩ := h_bd m17
    clear m17
    refine r_callV1 hw (tX8_parts l G b0 g8) lB_X8_parts lI_X8_parts mL_X8_274 (c := 8) rfl h1 rfl (Nat.le_of_ble_eq_true rfl) (Nat.le_of_ble_eq_true rfl) rfl (Nat.le_of_ble_eq_true rfl) dX8_isOver_30 ?_
    refine r_if_ne (tgt := 40) hw dX8_isOver_33 (by decide) (fun c9 => ?_) (fun c9 => ?_)
    · have m19 := h_if_f c9 m18
      clear m18
      refine r_iconst (v := 0) hw dX8_isOver_40 rfl ?_
      cases h_ret m19
      exact r_zreturn hq isB_0 rfl rfl dX8_isOver_41
    · have m20 := h_if_t c9 m18
      clear m18
      refine r_iconst (v := 1) hw dX8_isOver_36 rfl ?_
      refine r_goto (tgt := 41) hw dX8_isOver_37 (by decide) ?_
      cases h_ret m20
      exact r_zreturn hq isB_1 rfl rfl dX8_isOver_41
theorem dX8_over_0 : decode cX8_over 0 = .ok (.aload_n 0, 1) := by decide +kernel
theorem dX8_over_1 : decode cX8_over 1 = .ok (.iload_n 1, 1) := by decide +kernel
theorem dX8_over_2 : decode cX8_over 2 = .ok (.invokevirtual 226, 3) := by decide +kernel
theorem dX8_over_5 : decode cX8_over 5 = .ok (.ifCond .eq 16, 3) := by decide +kernel
theorem dX8_over_8 : decode cX8_over 8 = .ok (.aload_n 0, 1) := by decide +kernel
theorem dX8_over_9 : decode cX8_over 9 = .ok (.iload_n 2, 1) := by decide +kernel
theorem dX8_over_10 : decode cX8_over 10 = .ok (.invokevirtual 226, 3) := by decide +kernel
theorem dX8_over_13 : decode cX8_over 13 = .ok (.ifCond .eq 8, 3) := by decide +kernel
theorem dX8_over_16 : decode cX8_over 16 = .ok (.iload_n 1, 1) := by decide +kernel
theorem dX8_over_17 : decode cX8_over 17 = .ok (.iload_n 2, 1) := by decide +kernel
theorem dX8_over_18 : decode cX8_over 18 = .ok (.if_icmp .ne 7, 3) := by decide +kernel
theorem dX8_over_21 : decode cX8_over 21 = .ok (.ldc2_w 160, 3) := by decide +kernel
theorem dX8_over_24 : decode cX8_over 24 = .ok (.lreturn, 1) := by decide +kernel
theorem dX8_over_25 : decode cX8_over 25 = .ok (.aload_n 0, 1) := by decide +kernel
theorem dX8_over_26 : decode cX8_over 26 = .ok (.iload_n 1, 1) := by decide +kernel
theorem dX8_over_27 : decode cX8_over 27 = .ok (.iload_n 2, 1) := by decide +kernel
theorem dX8_over_28 : decode cX8_over 28 = .ok (.invokevirtual 277, 3) := by decide +kernel
theorem dX8_over_31 : decode cX8_over 31 = .ok (.ifCond .eq 7, 3) := by decide +kernel
theorem dX8_over_34 : decode cX8_over 34 = .ok (.lconst 1, 1) := by decide +kernel
theorem dX8_over_35 : decode cX8_over 35 = .ok (.goto 4, 3) := by decide +kernel
theorem dX8_over_38 : decode cX8_over 38 = .ok (.lconst 0, 1) := by decide +kernel
theorem dX8_over_39 : decode cX8_over 39 = .ok (.lreturn, 1) := by decide +kernel
set_option maxHeartbeats 4000000 in
set_option maxRecDepth 100000 in
theorem tX8_over (l : Launch) (G : Gg) (b0 : Nat) {K : Kk} {R : Rr} {M : Mm} {r : Nat} {a0 : Int32} {a1 : Int32} {res : Int64} {M' : Mm} (hm : mX8_over K R M r a0 a1 = some (res, M')) : CT l G b0 yX8_over cX8_over 3 (some .long) (rmz 7 154) [.ref r, .int a0, .int a1] K R M (some (.long res)) K R M' := by
  refine ct_of (by decide +kernel) (Nat.le_of_ble_eq_true rfl) (fun w hq => ?_)
  have hw := hq.b
  change w 0 0 0 [(0, .ref r), (1, .int a0), (2, .int a1)] [] K R M
  replace hm := h_start hm
  unfold mX8_over at hm
  obtain ⟨h1, m10⟩ := h_ck hm
  clear hm
  refine r_aload_n hw dX8_over_0 0 rfl ?_
  refine r_iload_n hw dX8_over_1 1 rfl ?_
  obtain ⟨i2, g2, m11⟩ := h_bd m10
  clear m10
  refine r_callV1 hw (tX8_isPiece l G b0 g2) lB_X8_isPiece lI_X8_isPiece mL_X8_226 (c := 8) rfl h1 rfl (Nat.le_of_ble_eq_true rfl) (Nat.le_of_ble_eq_true rfl) rfl (Nat.le_of_ble_eq_true rfl) dX8_over_2 ?_
  refine r_if_eq (tgt := 21) hw dX8_over_5 (by decide) (fun c3 => ?_) (fun c3 => ?_)
  · have m12 := h_if_t c3 m11
    clear m11
    refine r_ldc2 (v := (-9000000000000000001)) hw dX8_over_21 kW_X8_160 ?_
    cases h_ret m12
    exact r_lreturn hq rfl rfl dX8_over_24
  · have m13 := h_if_f c3 m11
    clear m11
    refine r_aload_n hw dX8_over_8 0 rfl ?_
    refine r_iload_n hw dX8_over_9 2 rfl ?_
    obtain ⟨i4, g4, m14⟩ := h_bd m13
    clear m13
    refine r_callV1 hw (tX8_isPiece l G b0 g4) lB_X8_isPiece lI_X8_isPiece mL_X8_226 (c := 8) rfl h1 rfl (Nat.le_of_ble_eq_true rfl) (Nat.le_of_ble_eq_true rfl) rfl (Nat.le_of_ble_eq_true rfl) dX8_over_10 ?_
    refine r_if_eq (tgt := 21) hw dX8_over_13 (by decide) (fun c5 => ?_) (fun c5 => ?_)
    · have m15 := h_if_t c5 m14
      clear m14
      refine r_ldc2 (v := (-9000000000000000001)) hw dX8_over_21 kW_X8_160 ?_
      cases h_ret m15
      exact r_lreturn hq rfl rfl dX8_over_24
    · have m16 := h_if_f c5 m14
      clear m14
      refine r_iload_n hw dX8_over_16 1 rfl ?_
      refine r_iload_n hw dX8_over_17 2 rfl ?_
      refine r_icmp_ne (tgt := 25) hw dX8_over_18 (by decide) (fun c6 => ?_) (fun c6 => ?_)
      · have m17 := h_if_f c6 m16
        clear m16
        refine r_aload_n hw dX8_over_25 0 rfl ?_
        refine r_iload_n hw dX8_over_26 1 rfl ?_
        refine r_iload_n hw dX8_over_27 2 rfl ?_
        obtain ⟨i7, M8, g8, m18⟩ := h_bd2 m17
        clear m17
        refine r_callV1 hw (tX8_isOver l G b0 g8) lB_X8_isOver lI_X8_isOver mL_X8_277 (c := 8) rfl h1 rfl (Nat.le_of_ble_eq_true rfl) (Nat.le_of_ble_eq_true rfl) rfl (Nat.le_of_ble_eq_true rfl) dX8_over_28 ?_
        refine r_if_eq (tgt := 38) hw dX8_over_31 (by decide) (fun c9 => ?_) (fun c9 => ?_)
        · have m19 := h_if_t c9 m18
          clear m18
          refine r_lconst (v := 0) hw dX8_over_38 rfl ?_
          cases h_ret m19
          exact r_lreturn hq rfl rfl dX8_over_39
        · have m20 := h_if_f c9 m18
          clear m18
          refine r_lconst (v := 1) hw dX8_over_34 rfl ?_
          refine r_goto (tgt := 39) hw dX8_over_35 (by decide) ?_
          cases h_ret m20
          exact r_lreturn hq rfl rfl dX8_over_39
      · have m21 := h_if_t c6 m16
        clear m16
        refine r_ldc2 (v := (-9000000000000000001)) hw dX8_over_21 kW_X8_160 ?_
        cases h_ret m21
        exact r_lreturn hq rfl rfl dX8_over_24
theorem dX8_hasA_0 : decode cX8_hasA 0 = .ok (.iconst 1, 1) := by decide +kernel
theorem dX8_hasA_1 : decode cX8_hasA 1 = .ok (.istore 5, 2) := by decide +kernel
theorem dX8_hasA_3 : decode cX8_hasA 3 = .ok (.iconst 0, 1) := by decide +kernel
theorem dX8_hasA_4 : decode cX8_hasA 4 = .ok (.istore 6, 2) := by decide +kernel
theorem dX8_hasA_6 : decode cX8_hasA 6 = .ok (.iload 6, 2) := by decide +kernel
theorem dX8_hasA_8 : decode cX8_hasA 8 = .ok (.aload_n 0, 1) := by decide +kernel
theorem dX8_hasA_9 : decode cX8_hasA 9 = .ok (.getfield 146, 3) := by decide +kernel
theorem dX8_hasA_12 : decode cX8_hasA 12 = .ok (.if_icmp .ge 70, 3) := by decide +kernel
theorem dX8_hasA_15 : decode cX8_hasA 15 = .ok (.iload 6, 2) := by decide +kernel
theorem dX8_hasA_17 : decode cX8_hasA 17 = .ok (.iconst 1, 1) := by decide +kernel
theorem dX8_hasA_18 : decode cX8_hasA 18 = .ok (.iadd, 1) := by decide +kernel
theorem dX8_hasA_19 : decode cX8_hasA 19 = .ok (.aload_n 0, 1) := by decide +kernel
theorem dX8_hasA_20 : decode cX8_hasA 20 = .ok (.getfield 146, 3) := by decide +kernel
theorem dX8_hasA_23 : decode cX8_hasA 23 = .ok (.irem, 1) := by decide +kernel
theorem dX8_hasA_24 : decode cX8_hasA 24 = .ok (.istore 7, 2) := by decide +kernel
theorem dX8_hasA_26 : decode cX8_hasA 26 = .ok (.iload 5, 2) := by decide +kernel
theorem dX8_hasA_28 : decode cX8_hasA 28 = .ok (.ifCond .eq 45, 3) := by decide +kernel
theorem dX8_hasA_31 : decode cX8_hasA 31 = .ok (.aload_n 0, 1) := by decide +kernel
theorem dX8_hasA_32 : decode cX8_hasA 32 = .ok (.getfield 42, 3) := by decide +kernel
theorem dX8_hasA_35 : decode cX8_hasA 35 = .ok (.iload 6, 2) := by decide +kernel
theorem dX8_hasA_37 : decode cX8_hasA 37 = .ok (.laload, 1) := by decide +kernel
theorem dX8_hasA_38 : decode cX8_hasA 38 = .ok (.aload_n 0, 1) := by decide +kernel
theorem dX8_hasA_39 : decode cX8_hasA 39 = .ok (.getfield 45, 3) := by decide +kernel
theorem dX8_hasA_42 : decode cX8_hasA 42 = .ok (.iload 6, 2) := by decide +kernel
theorem dX8_hasA_44 : decode cX8_hasA 44 = .ok (.laload, 1) := by decide +kernel
theorem dX8_hasA_45 : decode cX8_hasA 45 = .ok (.aload_n 0, 1) := by decide +kernel
theorem dX8_hasA_46 : decode cX8_hasA 46 = .ok (.getfield 42, 3) := by decide +kernel
theorem dX8_hasA_49 : decode cX8_hasA 49 = .ok (.iload 7, 2) := by decide +kernel
theorem dX8_hasA_51 : decode cX8_hasA 51 = .ok (.laload, 1) := by decide +kernel
theorem dX8_hasA_52 : decode cX8_hasA 52 = .ok (.aload_n 0, 1) := by decide +kernel
theorem dX8_hasA_53 : decode cX8_hasA 53 = .ok (.getfield 45, 3) := by decide +kernel
theorem dX8_hasA_56 : decode cX8_hasA 56 = .ok (.iload 7, 2) := by decide +kernel
theorem dX8_hasA_58 : decode cX8_hasA 58 = .ok (.laload, 1) := by decide +kernel
theorem dX8_hasA_59 : decode cX8_hasA 59 = .ok (.lload_n 1, 1) := by decide +kernel
theorem dX8_hasA_60 : decode cX8_hasA 60 = .ok (.lload_n 3, 1) := by decide +kernel
theorem dX8_hasA_61 : decode cX8_hasA 61 = .ok (.invokestatic 128, 3) := by decide +kernel
theorem dX8_hasA_64 : decode cX8_hasA 64 = .ok (.lconst 0, 1) := by decide +kernel
theorem dX8_hasA_65 : decode cX8_hasA 65 = .ok (.lcmp, 1) := by decide +kernel
theorem dX8_hasA_66 : decode cX8_hasA 66 = .ok (.ifCond .lt 7, 3) := by decide +kernel
theorem dX8_hasA_69 : decode cX8_hasA 69 = .ok (.iconst 1, 1) := by decide +kernel
theorem dX8_hasA_70 : decode cX8_hasA 70 = .ok (.goto 4, 3) := by decide +kernel
theorem dX8_hasA_73 : decode cX8_hasA 73 = .ok (.iconst 0, 1) := by decide +kernel
theorem dX8_hasA_74 : decode cX8_hasA 74 = .ok (.istore 5, 2) := by decide +kernel
theorem dX8_hasA_76 : decode cX8_hasA 76 = .ok (.iinc 6 1, 3) := by decide +kernel
theorem dX8_hasA_79 : decode cX8_hasA 79 = .ok (.goto (-73), 3) := by decide +kernel
theorem dX8_hasA_82 : decode cX8_hasA 82 = .ok (.iload 5, 2) := by decide +kernel
theorem dX8_hasA_84 : decode cX8_hasA 84 = .ok (.ireturn, 1) := by decide +kernel
set_option maxHeartbeats 4000000 in
set_option maxRecDepth 100000 in
theorem tX8_hasA (l : Launch) (G : Gg) (b0 : Nat) {K : Kk} {R : Rr} {M : Mm} {r : Nat} {a0 : Int64} {a1 : Int64} {res : Int32} (hm : mX8_hasA K R M r a0 a1 = some (res)) : CT l G b0 yX8_hasA cX8_hasA 8 (some .boolean) (rmz 2 31) [.ref r, .long a0, .long a1] K R M (some (.int res)) K R M := by
  refine ct_of (by decide +kernel) (Nat.le_of_ble_eq_true rfl) (fun w hq => ?_)
  have hw := hq.b
  change w 0 0 0 [(0, .ref r), (1, .long a0), (3, .long a1)] [] K R M
  replace hm := h_start hm
  unfold mX8_hasA at hm
  obtain ⟨h1, m23⟩ := h_ck hm
  clear hm
  refine r_iconst (v := 1) hw dX8_hasA_0 rfl ?_
  obtain ⟨i2, ei2, m24⟩ := h_nm m23
  clear m23
  refine r_topI (w := w) ei2 ?_
  refine r_istore hw dX8_hasA_1 (by decide) rfl ?_
  refine r_iconst (v := 0) hw dX8_hasA_3 rfl ?_
  obtain ⟨i3, ei3, m25⟩ := h_nm m24
  clear m24
  refine r_topI (w := w) ei3 ?_
  refine r_istore hw dX8_hasA_4 (by decide) rfl ?_
  refine r_sub hw [2, 3, 4, 1, 0] rfl ?_
  obtain ⟨v6, n06, hn6, hv6⟩ := h_lp m25
  clear m25
  have L6 : ∀ n : Nat, ∀ (i4 : Int32) (i5 : Int32), it (mX8_hasA_L6 K R M r a0 a1) n (i4, i5) = some v6 → w 0 0 6 [(0, .ref r), (1, .long a0), (3, .long a1), (5, .int i4), (6, .int i5)] [] K R M := by
    intro n6
    induction n6 with
    | zero => intro i4 i5 hz; exact absurd hz h_it0
    | succ n6 ih6 =>
      intro i4 i5 m26
      replace m26 : (mX8_hasA_B6 K R M r a0 a1 i4 i5).bind (Sum.elim (it (mX8_hasA_L6 K R M r a0 a1) n6) some) = some v6 := m26
      unfold mX8_hasA_B6 at m26
      have J74 : ∀ (i6 : Int32) (s7 : Int32), (mX8_hasA_J74 K R M r a0 a1 i6 s7).bind (Sum.elim (it (mX8_hasA_L6 K R M r a0 a1) n6) some) = some v6 → w 0 0 74 [(0, .ref r), (1, .long a0), (3, .long a1), (6, .int i6)] [.int s7] K R M := by
        intro i6 s7 m27
        unfold mX8_hasA_J74 at m27
        refine r_istore hw dX8_hasA_74 (by decide) rfl ?_
        obtain ⟨i8, ei8, m28⟩ := h_nm m27
        clear m27
        refine r_iinc (j := 4) (v := i8) hw dX8_hasA_76 rfl (by rw [ei8]; rfl) (by decide) rfl ?_
        refine r_goto (tgt := 6) hw dX8_hasA_79 (by decide) ?_
        refine r_sub hw [2, 3, 4, 1, 0] rfl ?_
        exact ih6 _ _ m28
      have J73 : ∀ (i9 : Int32), (mX8_hasA_J73 K R M r a0 a1 i9).bind (Sum.elim (it (mX8_hasA_L6 K R M r a0 a1) n6) some) = some v6 → w 0 0 73 [(0, .ref r), (1, .long a0), (3, .long a1), (6, .int i9)] [] K R M := by
        intro i9 m29
        unfold mX8_hasA_J73 at m29
        refine r_iconst (v := 0) hw dX8_hasA_73 rfl ?_
        exact J74 _ _ m29
      refine r_iload hw dX8_hasA_6 4 rfl ?_
      refine r_aload_n hw dX8_hasA_8 0 rfl ?_
      refine r_getI hw fO_X8_146 h1 dX8_hasA_9 ?_
      refine r_icmp_ge (tgt := 82) hw dX8_hasA_12 (by decide) (fun c10 => ?_) (fun c10 => ?_)
      · have m30 := h_if_f c10 m26
        clear m26
        have m31 := h_ex m30 hv6
        clear m30
        refine r_iload hw dX8_hasA_82 3 rfl ?_
        obtain ⟨h11, m32⟩ := h_ck m31
        clear m31
        cases h_ret m32
        exact r_zreturn hq h11 rfl rfl dX8_hasA_84
      · have m33 := h_if_t c10 m26
        clear m26
        refine r_iload hw dX8_hasA_15 4 rfl ?_
        refine r_iconst (v := 1) hw dX8_hasA_17 rfl ?_
        refine r_iadd hw dX8_hasA_18 ?_
        refine r_aload_n hw dX8_hasA_19 0 rfl ?_
        refine r_getI hw fO_X8_146 h1 dX8_hasA_20 ?_
        obtain ⟨h12, m34⟩ := h_ck m33
        clear m33
        refine r_irem hw dX8_hasA_23 h12 ?_
        obtain ⟨i13, ei13, m35⟩ := h_nm m34
        clear m34
        refine r_topI (w := w) ei13 ?_
        refine r_istore hw dX8_hasA_24 (by decide) rfl ?_
        refine r_iload hw dX8_hasA_26 4 rfl ?_
        refine r_if_eq (tgt := 73) hw dX8_hasA_28 (by decide) (fun c14 => ?_) (fun c14 => ?_)
        · have m36 := h_if_t c14 m35
          clear m35
          refine r_sub hw [1, 2, 3, 5] rfl ?_
          exact J73 _ m36
        · have m37 := h_if_f c14 m35
          clear m35
          refine r_aload_n hw dX8_hasA_31 1 rfl ?_
          obtain ⟨q15, bq15, m38⟩ := h_bd m37
          clear m37
          refine r_getR hw fO_X8_42 h1 bq15 dX8_hasA_32 ?_
          refine r_iload hw dX8_hasA_35 5 rfl ?_
          obtain ⟨h16, m39⟩ := h_ck m38
          clear m38
          refine r_laload hw h16 dX8_hasA_37 ?_
          refine r_aload_n hw dX8_hasA_38 1 rfl ?_
          obtain ⟨q17, bq17, m40⟩ := h_bd m39
          clear m39
          refine r_getR hw fO_X8_45 h1 bq17 dX8_hasA_39 ?_
          refine r_iload hw dX8_hasA_42 5 rfl ?_
          obtain ⟨h18, m41⟩ := h_ck m40
          clear m40
          refine r_laload hw h18 dX8_hasA_44 ?_
          refine r_aload_n hw dX8_hasA_45 1 rfl ?_
          refine r_getR hw fO_X8_42 h1 bq15 dX8_hasA_46 ?_
          refine r_iload hw dX8_hasA_49 0 rfl ?_
          obtain ⟨h19, m42⟩ := h_ck m41
          clear m41
          refine r_laload hw h19 dX8_hasA_51 ?_
          refine r_aload_n hw dX8_hasA_52 1 rfl ?_
          refine r_getR hw fO_X8_45 h1 bq17 dX8_hasA_53 ?_
          refine r_iload hw dX8_hasA_56 0 rfl ?_
          obtain ⟨h20, m43⟩ := h_ck m42
          clear m42
          refine r_laload hw h20 dX8_hasA_58 ?_
          refine r_lload_n hw dX8_hasA_59 2 rfl ?_
          refine r_lload_n hw dX8_hasA_60 3 rfl ?_
          obtain ⟨l21, g21, m44⟩ := h_bd m43
          clear m43
          refine r_callS1 hw (tX8_side l G b0 g21) lB_X8_side sT_X8_side mL_X8_128 rfl rfl (Nat.le_of_ble_eq_true rfl) (Nat.le_of_ble_eq_true rfl) rfl (Nat.le_of_ble_eq_true rfl) dX8_hasA_61 ?_
          refine r_lconst (v := 0) hw dX8_hasA_64 rfl ?_
          refine r_lcmp_lt (tgt := 73) hw dX8_hasA_65 dX8_hasA_66 (by decide) (fun c22 => ?_) (fun c22 => ?_)
          · have m45 := h_if_t c22 m44
            clear m44
            refine r_sub hw [1, 2, 3, 5] rfl ?_
            exact J73 _ m45
          · have m46 := h_if_f c22 m44
            clear m44
            refine r_iconst (v := 1) hw dX8_hasA_69 rfl ?_
            refine r_goto (tgt := 74) hw dX8_hasA_70 (by decide) ?_
            refine r_sub hw [1, 2, 3, 5] rfl ?_
            exact J74 _ _ m46
  exact L6 n06 _ _ hn6
theorem dX8_hasB_0 : decode cX8_hasB 0 = .ok (.iconst 1, 1) := by decide +kernel
theorem dX8_hasB_1 : decode cX8_hasB 1 = .ok (.istore 5, 2) := by decide +kernel
theorem dX8_hasB_3 : decode cX8_hasB 3 = .ok (.iconst 0, 1) := by decide +kernel
theorem dX8_hasB_4 : decode cX8_hasB 4 = .ok (.istore 6, 2) := by decide +kernel
theorem dX8_hasB_6 : decode cX8_hasB 6 = .ok (.iload 6, 2) := by decide +kernel
theorem dX8_hasB_8 : decode cX8_hasB 8 = .ok (.aload_n 0, 1) := by decide +kernel
theorem dX8_hasB_9 : decode cX8_hasB 9 = .ok (.getfield 153, 3) := by decide +kernel
theorem dX8_hasB_12 : decode cX8_hasB 12 = .ok (.if_icmp .ge 70, 3) := by decide +kernel
theorem dX8_hasB_15 : decode cX8_hasB 15 = .ok (.iload 6, 2) := by decide +kernel
theorem dX8_hasB_17 : decode cX8_hasB 17 = .ok (.iconst 1, 1) := by decide +kernel
theorem dX8_hasB_18 : decode cX8_hasB 18 = .ok (.iadd, 1) := by decide +kernel
theorem dX8_hasB_19 : decode cX8_hasB 19 = .ok (.aload_n 0, 1) := by decide +kernel
theorem dX8_hasB_20 : decode cX8_hasB 20 = .ok (.getfield 153, 3) := by decide +kernel
theorem dX8_hasB_23 : decode cX8_hasB 23 = .ok (.irem, 1) := by decide +kernel
theorem dX8_hasB_24 : decode cX8_hasB 24 = .ok (.istore 7, 2) := by decide +kernel
theorem dX8_hasB_26 : decode cX8_hasB 26 = .ok (.iload 5, 2) := by decide +kernel
theorem dX8_hasB_28 : decode cX8_hasB 28 = .ok (.ifCond .eq 45, 3) := by decide +kernel
theorem dX8_hasB_31 : decode cX8_hasB 31 = .ok (.aload_n 0, 1) := by decide +kernel
theorem dX8_hasB_32 : decode cX8_hasB 32 = .ok (.getfield 48, 3) := by decide +kernel
theorem dX8_hasB_35 : decode cX8_hasB 35 = .ok (.iload 6, 2) := by decide +kernel
theorem dX8_hasB_37 : decode cX8_hasB 37 = .ok (.laload, 1) := by decide +kernel
theorem dX8_hasB_38 : decode cX8_hasB 38 = .ok (.aload_n 0, 1) := by decide +kernel
theorem dX8_hasB_39 : decode cX8_hasB 39 = .ok (.getfield 51, 3) := by decide +kernel
theorem dX8_hasB_42 : decode cX8_hasB 42 = .ok (.iload 6, 2) := by decide +kernel
theorem dX8_hasB_44 : decode cX8_hasB 44 = .ok (.laload, 1) := by decide +kernel
theorem dX8_hasB_45 : decode cX8_hasB 45 = .ok (.aload_n 0, 1) := by decide +kernel
theorem dX8_hasB_46 : decode cX8_hasB 46 = .ok (.getfield 48, 3) := by decide +kernel
theorem dX8_hasB_49 : decode cX8_hasB 49 = .ok (.iload 7, 2) := by decide +kernel
theorem dX8_hasB_51 : decode cX8_hasB 51 = .ok (.laload, 1) := by decide +kernel
theorem dX8_hasB_52 : decode cX8_hasB 52 = .ok (.aload_n 0, 1) := by decide +kernel
theorem dX8_hasB_53 : decode cX8_hasB 53 = .ok (.getfield 51, 3) := by decide +kernel
theorem dX8_hasB_56 : decode cX8_hasB 56 = .ok (.iload 7, 2) := by decide +kernel
theorem dX8_hasB_58 : decode cX8_hasB 58 = .ok (.laload, 1) := by decide +kernel
theorem dX8_hasB_59 : decode cX8_hasB 59 = .ok (.lload_n 1, 1) := by decide +kernel
theorem dX8_hasB_60 : decode cX8_hasB 60 = .ok (.lload_n 3, 1) := by decide +kernel
theorem dX8_hasB_61 : decode cX8_hasB 61 = .ok (.invokestatic 128, 3) := by decide +kernel
theorem dX8_hasB_64 : decode cX8_hasB 64 = .ok (.lconst 0, 1) := by decide +kernel
theorem dX8_hasB_65 : decode cX8_hasB 65 = .ok (.lcmp, 1) := by decide +kernel
theorem dX8_hasB_66 : decode cX8_hasB 66 = .ok (.ifCond .lt 7, 3) := by decide +kernel
theorem dX8_hasB_69 : decode cX8_hasB 69 = .ok (.iconst 1, 1) := by decide +kernel
theorem dX8_hasB_70 : decode cX8_hasB 70 = .ok (.goto 4, 3) := by decide +kernel
theorem dX8_hasB_73 : decode cX8_hasB 73 = .ok (.iconst 0, 1) := by decide +kernel
theorem dX8_hasB_74 : decode cX8_hasB 74 = .ok (.istore 5, 2) := by decide +kernel
theorem dX8_hasB_76 : decode cX8_hasB 76 = .ok (.iinc 6 1, 3) := by decide +kernel
theorem dX8_hasB_79 : decode cX8_hasB 79 = .ok (.goto (-73), 3) := by decide +kernel
theorem dX8_hasB_82 : decode cX8_hasB 82 = .ok (.iload 5, 2) := by decide +kernel
theorem dX8_hasB_84 : decode cX8_hasB 84 = .ok (.ireturn, 1) := by decide +kernel
set_option maxHeartbeats 4000000 in
set_option maxRecDepth 100000 in
theorem tX8_hasB (l : Launch) (G : Gg) (b0 : Nat) {K : Kk} {R : Rr} {M : Mm} {r : Nat} {a0 : Int64} {a1 : Int64} {res : Int32} (hm : mX8_hasB K R M r a0 a1 = some (res)) : CT l G b0 yX8_hasB cX8_hasB 8 (some .boolean) (rmz 2 31) [.ref r, .long a0, .long a1] K R M (some (.int res)) K R M := by
  refine ct_of (by decide +kernel) (Nat.le_of_ble_eq_true rfl) (fun w hq => ?_)
  have hw := hq.b
  change w 0 0 0 [(0, .ref r), (1, .long a0), (3, .long a1)] [] K R M
  replace hm := h_start hm
  unfold mX8_hasB at hm
  obtain ⟨h1, m23⟩ := h_ck hm
  clear hm
  refine r_iconst (v := 1) hw dX8_hasB_0 rfl ?_
  obtain ⟨i2, ei2, m24⟩ := h_nm m23
  clear m23
  refine r_topI (w := w) ei2 ?_
  refine r_istore hw dX8_hasB_1 (by decide) rfl ?_
  refine r_iconst (v := 0) hw dX8_hasB_3 rfl ?_
  obtain ⟨i3, ei3, m25⟩ := h_nm m24
  clear m24
  refine r_topI (w := w) ei3 ?_
  refine r_istore hw dX8_hasB_4 (by decide) rfl ?_
  refine r_sub hw [2, 3, 4, 1, 0] rfl ?_
  obtain ⟨v6, n06, hn6, hv6⟩ := h_lp m25
  clear m25
  have L6 : ∀ n : Nat, ∀ (i4 : Int32) (i5 : Int32), it (mX8_hasB_L6 K R M r a0 a1) n (i4, i5) = some v6 → w 0 0 6 [(0, .ref r), (1, .long a0), (3, .long a1), (5, .int i4), (6, .int i5)] [] K R M := by
    intro n6
    induction n6 with
    | zero => intro i4 i5 hz; exact absurd hz h_it0
    | succ n6 ih6 =>
      intro i4 i5 m26
      replace m26 : (mX8_hasB_B6 K R M r a0 a1 i4 i5).bind (Sum.elim (it (mX8_hasB_L6 K R M r a0 a1) n6) some) = some v6 := m26
      unfold mX8_hasB_B6 at m26
      have J74 : ∀ (i6 : Int32) (s7 : Int32), (mX8_hasB_J74 K R M r a0 a1 i6 s7).bind (Sum.elim (it (mX8_hasB_L6 K R M r a0 a1) n6) some) = some v6 → w 0 0 74 [(0, .ref r), (1, .long a0), (3, .long a1), (6, .int i6)] [.int s7] K R M := by
        intro i6 s7 m27
        unfold mX8_hasB_J74 at m27
        refine r_istore hw dX8_hasB_74 (by decide) rfl ?_
        obtain ⟨i8, ei8, m28⟩ := h_nm m27
        clear m27
        refine r_iinc (j := 4) (v := i8) hw dX8_hasB_76 rfl (by rw [ei8]; rfl) (by decide) rfl ?_
        refine r_goto (tgt := 6) hw dX8_hasB_79 (by decide) ?_
        refine r_sub hw [2, 3, 4, 1, 0] rfl ?_
        exact ih6 _ _ m28
      have J73 : ∀ (i9 : Int32), (mX8_hasB_J73 K R M r a0 a1 i9).bind (Sum.elim (it (mX8_hasB_L6 K R M r a0 a1) n6) some) = some v6 → w 0 0 73 [(0, .ref r), (1, .long a0), (3, .long a1), (6, .int i9)] [] K R M := by
        intro i9 m29
        unfold mX8_hasB_J73 at m29
        refine r_iconst (v := 0) hw dX8_hasB_73 rfl ?_
        exact J74 _ _ m29
      refine r_iload hw dX8_hasB_6 4 rfl ?_
      refine r_aload_n hw dX8_hasB_8 0 rfl ?_
      refine r_getI hw fO_X8_153 h1 dX8_hasB_9 ?_
      refine r_icmp_ge (tgt := 82) hw dX8_hasB_12 (by decide) (fun c10 => ?_) (fun c10 => ?_)
      · have m30 := h_if_f c10 m26
        clear m26
        have m31 := h_ex m30 hv6
        clear m30
        refine r_iload hw dX8_hasB_82 3 rfl ?_
        obtain ⟨h11, m32⟩ := h_ck m31
        clear m31
        cases h_ret m32
        exact r_zreturn hq h11 rfl rfl dX8_hasB_84
      · have m33 := h_if_t c10 m26
        clear m26
        refine r_iload hw dX8_hasB_15 4 rfl ?_
        refine r_iconst (v := 1) hw dX8_hasB_17 rfl ?_
        refine r_iadd hw dX8_hasB_18 ?_
        refine r_aload_n hw dX8_hasB_19 0 rfl ?_
        refine r_getI hw fO_X8_153 h1 dX8_hasB_20 ?_
        obtain ⟨h12, m34⟩ := h_ck m33
        clear m33
        refine r_irem hw dX8_hasB_23 h12 ?_
        obtain ⟨i13, ei13, m35⟩ := h_nm m34
        clear m34
        refine r_topI (w := w) ei13 ?_
        refine r_istore hw dX8_hasB_24 (by decide) rfl ?_
        refine r_iload hw dX8_hasB_26 4 rfl ?_
        refine r_if_eq (tgt := 73) hw dX8_hasB_28 (by decide) (fun c14 => ?_) (fun c14 => ?_)
        · have m36 := h_if_t c14 m35
          clear m35
          refine r_sub hw [1, 2, 3, 5] rfl ?_
          exact J73 _ m36
        · have m37 := h_if_f c14 m35
          clear m35
          refine r_aload_n hw dX8_hasB_31 1 rfl ?_
          obtain ⟨q15, bq15, m38⟩ := h_bd m37
          clear m37
          refine r_getR hw fO_X8_48 h1 bq15 dX8_hasB_32 ?_
          refine r_iload hw dX8_hasB_35 5 rfl ?_
          obtain ⟨h16, m39⟩ := h_ck m38
          clear m38
          refine r_laload hw h16 dX8_hasB_37 ?_
          refine r_aload_n hw dX8_hasB_38 1 rfl ?_
          obtain ⟨q17, bq17, m40⟩ := h_bd m39
          clear m39
          refine r_getR hw fO_X8_51 h1 bq17 dX8_hasB_39 ?_
          refine r_iload hw dX8_hasB_42 5 rfl ?_
          obtain ⟨h18, m41⟩ := h_ck m40
          clear m40
          refine r_laload hw h18 dX8_hasB_44 ?_
          refine r_aload_n hw dX8_hasB_45 1 rfl ?_
          refine r_getR hw fO_X8_48 h1 bq15 dX8_hasB_46 ?_
          refine r_iload hw dX8_hasB_49 0 rfl ?_
          obtain ⟨h19, m42⟩ := h_ck m41
          clear m41
          refine r_laload hw h19 dX8_hasB_51 ?_
          refine r_aload_n hw dX8_hasB_52 1 rfl ?_
          refine r_getR hw fO_X8_51 h1 bq17 dX8_hasB_53 ?_
          refine r_iload hw dX8_hasB_56 0 rfl ?_
          obtain ⟨h20, m43⟩ := h_ck m42
          clear m42
          refine r_laload hw h20 dX8_hasB_58 ?_
          refine r_lload_n hw dX8_hasB_59 2 rfl ?_
          refine r_lload_n hw dX8_hasB_60 3 rfl ?_
          obtain ⟨l21, g21, m44⟩ := h_bd m43
          clear m43
          refine r_callS1 hw (tX8_side l G b0 g21) lB_X8_side sT_X8_side mL_X8_128 rfl rfl (Nat.le_of_ble_eq_true rfl) (Nat.le_of_ble_eq_true rfl) rfl (Nat.le_of_ble_eq_true rfl) dX8_hasB_61 ?_
          refine r_lconst (v := 0) hw dX8_hasB_64 rfl ?_
          refine r_lcmp_lt (tgt := 73) hw dX8_hasB_65 dX8_hasB_66 (by decide) (fun c22 => ?_) (fun c22 => ?_)
          · have m45 := h_if_t c22 m44
            clear m44
            refine r_sub hw [1, 2, 3, 5] rfl ?_
            exact J73 _ m45
          · have m46 := h_if_f c22 m44
            clear m44
            refine r_iconst (v := 1) hw dX8_hasB_69 rfl ?_
            refine r_goto (tgt := 74) hw dX8_hasB_70 (by decide) ?_
            refine r_sub hw [1, 2, 3, 5] rfl ?_
            exact J74 _ _ m46
  exact L6 n06 _ _ hn6
theorem dX8_find_0 : decode cX8_find 0 = .ok (.iload_n 1, 1) := by decide +kernel
theorem dX8_find_1 : decode cX8_find 1 = .ok (.i2l, 1) := by decide +kernel
theorem dX8_find_2 : decode cX8_find 2 = .ok (.iload_n 2, 1) := by decide +kernel
theorem dX8_find_3 : decode cX8_find 3 = .ok (.i2l, 1) := by decide +kernel
theorem dX8_find_4 : decode cX8_find 4 = .ok (.invokestatic 156, 3) := by decide +kernel
theorem dX8_find_7 : decode cX8_find 7 = .ok (.ifCond .ne 7, 3) := by decide +kernel
theorem dX8_find_10 : decode cX8_find 10 = .ok (.ldc2_w 160, 3) := by decide +kernel
theorem dX8_find_13 : decode cX8_find 13 = .ok (.lreturn, 1) := by decide +kernel
theorem dX8_find_14 : decode cX8_find 14 = .ok (.iconst 0, 1) := by decide +kernel
theorem dX8_find_15 : decode cX8_find 15 = .ok (.istore_n 3, 1) := by decide +kernel
theorem dX8_find_16 : decode cX8_find 16 = .ok (.iload_n 3, 1) := by decide +kernel
theorem dX8_find_17 : decode cX8_find 17 = .ok (.aload_n 0, 1) := by decide +kernel
theorem dX8_find_18 : decode cX8_find 18 = .ok (.invokevirtual 99, 3) := by decide +kernel
theorem dX8_find_21 : decode cX8_find 21 = .ok (.if_icmp .ge 28, 3) := by decide +kernel
theorem dX8_find_24 : decode cX8_find 24 = .ok (.aload_n 0, 1) := by decide +kernel
theorem dX8_find_25 : decode cX8_find 25 = .ok (.iload_n 3, 1) := by decide +kernel
theorem dX8_find_26 : decode cX8_find 26 = .ok (.invokevirtual 149, 3) := by decide +kernel
theorem dX8_find_29 : decode cX8_find 29 = .ok (.aload_n 0, 1) := by decide +kernel
theorem dX8_find_30 : decode cX8_find 30 = .ok (.iload_n 1, 1) := by decide +kernel
theorem dX8_find_31 : decode cX8_find 31 = .ok (.i2l, 1) := by decide +kernel
theorem dX8_find_32 : decode cX8_find 32 = .ok (.iload_n 2, 1) := by decide +kernel
theorem dX8_find_33 : decode cX8_find 33 = .ok (.i2l, 1) := by decide +kernel
theorem dX8_find_34 : decode cX8_find 34 = .ok (.invokevirtual 281, 3) := by decide +kernel
theorem dX8_find_37 : decode cX8_find 37 = .ok (.ifCond .eq 6, 3) := by decide +kernel
theorem dX8_find_40 : decode cX8_find 40 = .ok (.iload_n 3, 1) := by decide +kernel
theorem dX8_find_41 : decode cX8_find 41 = .ok (.i2l, 1) := by decide +kernel
theorem dX8_find_42 : decode cX8_find 42 = .ok (.lreturn, 1) := by decide +kernel
theorem dX8_find_43 : decode cX8_find 43 = .ok (.iinc 3 1, 3) := by decide +kernel
theorem dX8_find_46 : decode cX8_find 46 = .ok (.goto (-30), 3) := by decide +kernel
theorem dX8_find_49 : decode cX8_find 49 = .ok (.ldc2_w 272, 3) := by decide +kernel
theorem dX8_find_52 : decode cX8_find 52 = .ok (.lreturn, 1) := by decide +kernel
set_option maxHeartbeats 4000000 in
set_option maxRecDepth 100000 in
theorem tX8_find (l : Launch) (G : Gg) (b0 : Nat) {K : Kk} {R : Rr} {M : Mm} {r : Nat} {a0 : Int32} {a1 : Int32} {res : Int64} {M' : Mm} (hm : mX8_find K R M r a0 a1 = some (res, M')) : CT l G b0 yX8_find cX8_find 4 (some .long) (rmz 5 109) [.ref r, .int a0, .int a1] K R M (some (.long res)) K R M' := by
  refine ct_of (by decide +kernel) (Nat.le_of_ble_eq_true rfl) (fun w hq => ?_)
  have hw := hq.b
  change w 0 0 0 [(0, .ref r), (1, .int a0), (2, .int a1)] [] K R M
  replace hm := h_start hm
  unfold mX8_find at hm
  obtain ⟨h1, m13⟩ := h_ck hm
  clear hm
  refine r_iload_n hw dX8_find_0 1 rfl ?_
  refine r_i2l hw dX8_find_1 ?_
  refine r_iload_n hw dX8_find_2 2 rfl ?_
  refine r_i2l hw dX8_find_3 ?_
  obtain ⟨i2, g2, m14⟩ := h_bd m13
  clear m13
  refine r_callS1 hw (tX8_isPlace l G b0 g2) lB_X8_isPlace sT_X8_isPlace mL_X8_156 rfl rfl (Nat.le_of_ble_eq_true rfl) (Nat.le_of_ble_eq_true rfl) rfl (Nat.le_of_ble_eq_true rfl) dX8_find_4 ?_
  refine r_if_ne (tgt := 14) hw dX8_find_7 (by decide) (fun c3 => ?_) (fun c3 => ?_)
  · have m15 := h_if_f c3 m14
    clear m14
    refine r_iconst (v := 0) hw dX8_find_14 rfl ?_
    obtain ⟨i4, ei4, m16⟩ := h_nm m15
    clear m15
    refine r_topI (w := w) ei4 ?_
    refine r_istore_n hw dX8_find_15 rfl (by decide) rfl ?_
    refine r_sub hw [1, 2, 3, 0] rfl ?_
    obtain ⟨v16, n016, hn16, hv16⟩ := h_lp m16
    clear m16
    have L16 : ∀ n : Nat, ∀ (i5 : Int32) (M6 : Mm), it (mX8_find_L16 K R r a0 a1) n (i5, M6) = some v16 → w 0 0 16 [(0, .ref r), (1, .int a0), (2, .int a1), (3, .int i5)] [] K R M6 := by
      intro n16
      induction n16 with
      | zero => intro i5 M6 hz; exact absurd hz h_it0
      | succ n16 ih16 =>
        intro i5 M6 m17
        replace m17 : (mX8_find_B16 K R r a0 a1 i5 M6).bind (Sum.elim (it (mX8_find_L16 K R r a0 a1) n16) some) = some v16 := m17
        unfold mX8_find_B16 at m17
        refine r_iload_n hw dX8_find_16 3 rfl ?_
        refine r_aload_n hw dX8_find_17 0 rfl ?_
        obtain ⟨i7, g7, m18⟩ := h_bd m17
        clear m17
        refine r_callV1 hw (tX8_pieces l G b0 g7) lB_X8_pieces lI_X8_pieces mL_X8_99 (c := 8) rfl h1 rfl (Nat.le_of_ble_eq_true rfl) (Nat.le_of_ble_eq_true rfl) rfl (Nat.le_of_ble_eq_true rfl) dX8_find_18 ?_
        refine r_icmp_ge (tgt := 49) hw dX8_find_21 (by decide) (fun c8 => ?_) (fun c8 => ?_)
        · have m19 := h_if_f c8 m18
          clear m18
          have m20 := h_ex m19 hv16
          clear m19
          refine r_ldc2 (v := (-9000000000000000005)) hw dX8_find_49 kW_X8_272 ?_
          cases h_ret m20
          exact r_lreturn hq rfl rfl dX8_find_52
        · have m21 := h_if_t c8 m18
          clear m18
          refine r_aload_n hw dX8_find_24 0 rfl ?_
          refine r_iload_n hw dX8_find_25 3 rfl ?_
          obtain ⟨M9, g9, m22⟩ := h_bd m21
          clear m21
          refine r_callV0 hw (tX8_lookA l G b0 g9) lB_X8_lookA lI_X8_lookA mL_X8_149 (c := 8) rfl h1 rfl (Nat.le_of_ble_eq_true rfl) (Nat.le_of_ble_eq_true rfl) rfl (Nat.le_of_ble_eq_true rfl) dX8_find_26 ?_
          refine r_aload_n hw dX8_find_29 0 rfl ?_
          refine r_iload_n hw dX8_find_30 1 rfl ?_
          refine r_i2l hw dX8_find_31 ?_
          refine r_iload_n hw dX8_find_32 2 rfl ?_
          refine r_i2l hw dX8_find_33 ?_
          obtain ⟨i10, g10, m23⟩ := h_bd m22
          clear m22
          refine r_callV1 hw (tX8_hasA l G b0 g10) lB_X8_hasA lI_X8_hasA mL_X8_281 (c := 8) rfl h1 rfl (Nat.le_of_ble_eq_true rfl) (Nat.le_of_ble_eq_true rfl) rfl (Nat.le_of_ble_eq_true rfl) dX8_find_34 ?_
          refine r_if_eq (tgt := 43) hw dX8_find_37 (by decide) (fun c11 => ?_) (fun c11 => ?_)
          · have m24 := h_if_t c11 m23
            clear m23
            obtain ⟨i12, ei12, m25⟩ := h_nm m24
            clear m24
            refine r_iinc (j := 3) (v := i12) hw dX8_find_43 rfl (by rw [ei12]; rfl) (by decide) rfl ?_
            refine r_goto (tgt := 16) hw dX8_find_46 (by decide) ?_
            refine r_sub hw [1, 2, 3, 0] rfl ?_
            exact ih16 _ _ m25
          · have m26 := h_if_f c11 m23
            clear m23
            have m27 := h_ex m26 hv16
            clear m26
            refine r_iload_n hw dX8_find_40 3 rfl ?_
            refine r_i2l hw dX8_find_41 ?_
            cases h_ret m27
            exact r_lreturn hq rfl rfl dX8_find_42
    exact L16 n016 _ _ hn16
  · have m28 := h_if_t c3 m14
    clear m14
    refine r_ldc2 (v := (-9000000000000000001)) hw dX8_find_10 kW_X8_160 ?_
    cases h_ret m28
    exact r_lreturn hq rfl rfl dX8_find_13
