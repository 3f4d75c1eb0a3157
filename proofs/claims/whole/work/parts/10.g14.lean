theorem dX8_isWithin_0 : decode cX8_isWithin 0 = .ok (.aload_n 0, 1) := by decide +kernel
theorem dX8_isWithin_1 : decode cX8_isWithin 1 = .ok (.iload_n 1, 1) := by decide +kernel
theorem dX8_isWithin_2 : decode cX8_isWithin 2 = .ok (.invokevirtual 149, 3) := by decide +kernel
theorem dX8_isWithin_5 : decode cX8_isWithin 5 = .ok (.aload_n 0, 1) := by decide +kernel
theorem dX8_isWithin_6 : decode cX8_isWithin 6 = .ok (.aload_n 0, 1) := by decide +kernel
theorem dX8_isWithin_7 : decode cX8_isWithin 7 = .ok (.getfield 32, 3) := by decide +kernel
theorem dX8_isWithin_10 : decode cX8_isWithin 10 = .ok (.iload_n 2, 1) := by decide +kernel
theorem dX8_isWithin_11 : decode cX8_isWithin 11 = .ok (.iaload, 1) := by decide +kernel
theorem dX8_isWithin_12 : decode cX8_isWithin 12 = .ok (.putfield 153, 3) := by decide +kernel
theorem dX8_isWithin_15 : decode cX8_isWithin 15 = .ok (.iconst 0, 1) := by decide +kernel
theorem dX8_isWithin_16 : decode cX8_isWithin 16 = .ok (.istore_n 3, 1) := by decide +kernel
theorem dX8_isWithin_17 : decode cX8_isWithin 17 = .ok (.iload_n 3, 1) := by decide +kernel
theorem dX8_isWithin_18 : decode cX8_isWithin 18 = .ok (.aload_n 0, 1) := by decide +kernel
theorem dX8_isWithin_19 : decode cX8_isWithin 19 = .ok (.getfield 153, 3) := by decide +kernel
theorem dX8_isWithin_22 : decode cX8_isWithin 22 = .ok (.if_icmp .ge 43, 3) := by decide +kernel
theorem dX8_isWithin_25 : decode cX8_isWithin 25 = .ok (.aload_n 0, 1) := by decide +kernel
theorem dX8_isWithin_26 : decode cX8_isWithin 26 = .ok (.getfield 48, 3) := by decide +kernel
theorem dX8_isWithin_29 : decode cX8_isWithin 29 = .ok (.iload_n 3, 1) := by decide +kernel
theorem dX8_isWithin_30 : decode cX8_isWithin 30 = .ok (.aload_n 0, 1) := by decide +kernel
theorem dX8_isWithin_31 : decode cX8_isWithin 31 = .ok (.getfield 26, 3) := by decide +kernel
theorem dX8_isWithin_34 : decode cX8_isWithin 34 = .ok (.bipush 16, 2) := by decide +kernel
theorem dX8_isWithin_36 : decode cX8_isWithin 36 = .ok (.iload_n 2, 1) := by decide +kernel
theorem dX8_isWithin_37 : decode cX8_isWithin 37 = .ok (.imul, 1) := by decide +kernel
theorem dX8_isWithin_38 : decode cX8_isWithin 38 = .ok (.iload_n 3, 1) := by decide +kernel
theorem dX8_isWithin_39 : decode cX8_isWithin 39 = .ok (.iadd, 1) := by decide +kernel
theorem dX8_isWithin_40 : decode cX8_isWithin 40 = .ok (.laload, 1) := by decide +kernel
theorem dX8_isWithin_41 : decode cX8_isWithin 41 = .ok (.lastore, 1) := by decide +kernel
theorem dX8_isWithin_42 : decode cX8_isWithin 42 = .ok (.aload_n 0, 1) := by decide +kernel
theorem dX8_isWithin_43 : decode cX8_isWithin 43 = .ok (.getfield 51, 3) := by decide +kernel
theorem dX8_isWithin_46 : decode cX8_isWithin 46 = .ok (.iload_n 3, 1) := by decide +kernel
theorem dX8_isWithin_47 : decode cX8_isWithin 47 = .ok (.aload_n 0, 1) := by decide +kernel
theorem dX8_isWithin_48 : decode cX8_isWithin 48 = .ok (.getfield 29, 3) := by decide +kernel
theorem dX8_isWithin_51 : decode cX8_isWithin 51 = .ok (.bipush 16, 2) := by decide +kernel
theorem dX8_isWithin_53 : decode cX8_isWithin 53 = .ok (.iload_n 2, 1) := by decide +kernel
theorem dX8_isWithin_54 : decode cX8_isWithin 54 = .ok (.imul, 1) := by decide +kernel
theorem dX8_isWithin_55 : decode cX8_isWithin 55 = .ok (.iload_n 3, 1) := by decide +kernel
theorem dX8_isWithin_56 : decode cX8_isWithin 56 = .ok (.iadd, 1) := by decide +kernel
theorem dX8_isWithin_57 : decode cX8_isWithin 57 = .ok (.laload, 1) := by decide +kernel
theorem dX8_isWithin_58 : decode cX8_isWithin 58 = .ok (.lastore, 1) := by decide +kernel
theorem dX8_isWithin_59 : decode cX8_isWithin 59 = .ok (.iinc 3 1, 3) := by decide +kernel
theorem dX8_isWithin_62 : decode cX8_isWithin 62 = .ok (.goto (-45), 3) := by decide +kernel
theorem dX8_isWithin_65 : decode cX8_isWithin 65 = .ok (.iconst 1, 1) := by decide +kernel
theorem dX8_isWithin_66 : decode cX8_isWithin 66 = .ok (.istore_n 3, 1) := by decide +kernel
theorem dX8_isWithin_67 : decode cX8_isWithin 67 = .ok (.iconst 0, 1) := by decide +kernel
theorem dX8_isWithin_68 : decode cX8_isWithin 68 = .ok (.istore 4, 2) := by decide +kernel
theorem dX8_isWithin_70 : decode cX8_isWithin 70 = .ok (.iload 4, 2) := by decide +kernel
theorem dX8_isWithin_72 : decode cX8_isWithin 72 = .ok (.aload_n 0, 1) := by decide +kernel
theorem dX8_isWithin_73 : decode cX8_isWithin 73 = .ok (.getfield 146, 3) := by decide +kernel
theorem dX8_isWithin_76 : decode cX8_isWithin 76 = .ok (.if_icmp .ge 40, 3) := by decide +kernel
theorem dX8_isWithin_79 : decode cX8_isWithin 79 = .ok (.iload_n 3, 1) := by decide +kernel
theorem dX8_isWithin_80 : decode cX8_isWithin 80 = .ok (.ifCond .eq 28, 3) := by decide +kernel
theorem dX8_isWithin_83 : decode cX8_isWithin 83 = .ok (.aload_n 0, 1) := by decide +kernel
theorem dX8_isWithin_84 : decode cX8_isWithin 84 = .ok (.aload_n 0, 1) := by decide +kernel
theorem dX8_isWithin_85 : decode cX8_isWithin 85 = .ok (.getfield 42, 3) := by decide +kernel
theorem dX8_isWithin_88 : decode cX8_isWithin 88 = .ok (.iload 4, 2) := by decide +kernel
theorem dX8_isWithin_90 : decode cX8_isWithin 90 = .ok (.laload, 1) := by decide +kernel
theorem dX8_isWithin_91 : decode cX8_isWithin 91 = .ok (.aload_n 0, 1) := by decide +kernel
theorem dX8_isWithin_92 : decode cX8_isWithin 92 = .ok (.getfield 45, 3) := by decide +kernel
theorem dX8_isWithin_95 : decode cX8_isWithin 95 = .ok (.iload 4, 2) := by decide +kernel
theorem dX8_isWithin_97 : decode cX8_isWithin 97 = .ok (.laload, 1) := by decide +kernel
theorem dX8_isWithin_98 : decode cX8_isWithin 98 = .ok (.invokevirtual 284, 3) := by decide +kernel
theorem dX8_isWithin_101 : decode cX8_isWithin 101 = .ok (.ifCond .eq 7, 3) := by decide +kernel
theorem dX8_isWithin_104 : decode cX8_isWithin 104 = .ok (.iconst 1, 1) := by decide +kernel
theorem dX8_isWithin_105 : decode cX8_isWithin 105 = .ok (.goto 4, 3) := by decide +kernel
theorem dX8_isWithin_108 : decode cX8_isWithin 108 = .ok (.iconst 0, 1) := by decide +kernel
theorem dX8_isWithin_109 : decode cX8_isWithin 109 = .ok (.istore_n 3, 1) := by decide +kernel
theorem dX8_isWithin_110 : decode cX8_isWithin 110 = .ok (.iinc 4 1, 3) := by decide +kernel
theorem dX8_isWithin_113 : decode cX8_isWithin 113 = .ok (.goto (-43), 3) := by decide +kernel
theorem dX8_isWithin_116 : decode cX8_isWithin 116 = .ok (.iload_n 3, 1) := by decide +kernel
theorem dX8_isWithin_117 : decode cX8_isWithin 117 = .ok (.ireturn, 1) := by decide +kernel
set_option maxHeartbeats 4000000 in
set_option maxRecDepth 100000 in
theorem tX8_isWithin (l : Launch) (G : Gg) (b0 : Nat) {K : Kk} {R : Rr} {M : Mm} {r : Nat} {a0 : Int32} {a1 : Int32} {res : Int32} {M' : Mm} (hm : mX8_isWithin K R M r a0 a1 = some (res, M')) : CT l G b0 yX8_isWithin cX8_isWithin 5 (some .boolean) (rmz 5 109) [.ref r, .int a0, .int a1] K R M (some (.int res)) K R M' := by
  refine ct_of (by decide +kernel) (Nat.le_of_ble_eq_true rfl) (fun w hq => ?_)
  have hw := hq.b
  change w 0 0 0 [(0, .ref r), (1, .int a0), (2, .int a1)] [] K R M
  replace hm := h_start hm
  unfold mX8_isWithin at hm
  obtain ⟨h1, m38⟩ := h_ck hm
  clear hm
  refine r_aload_n hw dX8_isWithin_0 0 rfl ?_
  refine r_iload_n hw dX8_isWithin_1 1 rfl ?_
  obtain ⟨M2, g2, m39⟩ := h_bd m38
  clear m38
  refine r_callV0 hw (tX8_lookA l G b0 g2) lB_X8_lookA lI_X8_lookA mL_X8_149 (c := 8) rfl h1 rfl (Nat.le_of_ble_eq_true rfl) (Nat.le_of_ble_eq_true rfl) rfl (Nat.le_of_ble_eq_true rfl) dX8_isWithin_2 ?_
  refine r_aload_n hw dX8_isWithin_5 0 rfl ?_
  refine r_aload_n hw dX8_isWithin_6 0 rfl ?_
  obtain ⟨q3, bq3, m40⟩ := h_bd m39
  clear m39
  refine r_getR hw fO_X8_32 h1 bq3 dX8_isWithin_7 ?_
  refine r_iload_n hw dX8_isWithin_10 2 rfl ?_
  obtain ⟨h4, m41⟩ := h_ck m40
  clear m40
  refine r_iaload hw h4 dX8_isWithin_11 ?_
  obtain ⟨M5, eM5, m42⟩ := h_nm m41
  clear m41
  refine r_putI hw fP_X8_153 h1 dX8_isWithin_12 (r_mem ?_ rfl eM5)
  refine r_iconst (v := 0) hw dX8_isWithin_15 rfl ?_
  obtain ⟨i6, ei6, m43⟩ := h_nm m42
  clear m42
  refine r_topI (w := w) ei6 ?_
  refine r_istore_n hw dX8_isWithin_16 rfl (by decide) rfl ?_
  refine r_sub hw [1, 3, 0] rfl ?_
  obtain ⟨v17, n017, hn17, hv17⟩ := h_lp m43
  clear m43
  have L17 : ∀ n : Nat, ∀ (i7 : Int32) (M8 : Mm), it (mX8_isWithin_L17 K R r a1) n (i7, M8) = some v17 → w 0 0 17 [(0, .ref r), (2, .int a1), (3, .int i7)] [] K R M8 := by
    intro n17
    induction n17 with
    | zero => intro i7 M8 hz; exact absurd hz h_it0
    | succ n17 ih17 =>
      intro i7 M8 m44
      replace m44 : (mX8_isWithin_B17 K R r a1 i7 M8).bind (Sum.elim (it (mX8_isWithin_L17 K R r a1) n17) some) = some v17 := m44
      unfold mX8_isWithin_B17 at m44
      refine r_iload_n hw dX8_isWithin_17 2 rfl ?_
      refine r_aload_n hw dX8_isWithin_18 0 rfl ?_
      refine r_getI hw fO_X8_153 h1 dX8_isWithin_19 ?_
      refine r_icmp_ge (tgt := 65) hw dX8_isWithin_22 (by decide) (fun c9 => ?_) (fun c9 => ?_)
      · have m45 := h_if_f c9 m44
        clear m44
        have m46 := h_ex m45 hv17
        clear m45
        refine r_iconst (v := 1) hw dX8_isWithin_65 rfl ?_
        obtain ⟨i10, ei10, m47⟩ := h_nm m46
        clear m46
        refine r_topI (w := w) ei10 ?_
        refine r_istore_n hw dX8_isWithin_66 rfl (by decide) rfl ?_
        refine r_iconst (v := 0) hw dX8_isWithin_67 rfl ?_
        obtain ⟨i11, ei11, m48⟩ := h_nm m47
        clear m47
        refine r_topI (w := w) ei11 ?_
        refine r_istore hw dX8_isWithin_68 (by decide) rfl ?_
        refine r_sub hw [2, 1, 0] rfl ?_
        obtain ⟨v70, n070, hn70, hv70⟩ := h_lp m48
        clear m48
        have L70 : ∀ n : Nat, ∀ (i12 : Int32) (i13 : Int32), it (mX8_isWithin_L70 K R M8 r) n (i12, i13) = some v70 → w 0 0 70 [(0, .ref r), (3, .int i12), (4, .int i13)] [] K R M8 := by
          intro n70
          induction n70 with
          | zero => intro i12 i13 hz; exact absurd hz h_it0
          | succ n70 ih70 =>
            intro i12 i13 m49
            replace m49 : (mX8_isWithin_B70 K R M8 r i12 i13).bind (Sum.elim (it (mX8_isWithin_L70 K R M8 r) n70) some) = some v70 := m49
            unfold mX8_isWithin_B70 at m49
            have J109 : ∀ (i14 : Int32) (s15 : Int32), (mX8_isWithin_J109 K R M8 r i14 s15).bind (Sum.elim (it (mX8_isWithin_L70 K R M8 r) n70) some) = some v70 → w 0 0 109 [(0, .ref r), (4, .int i14)] [.int s15] K R M8 := by
              intro i14 s15 m50
              unfold mX8_isWithin_J109 at m50
              refine r_istore_n hw dX8_isWithin_109 rfl (by decide) rfl ?_
              obtain ⟨i16, ei16, m51⟩ := h_nm m50
              clear m50
              refine r_iinc (j := 2) (v := i16) hw dX8_isWithin_110 rfl (by rw [ei16]; rfl) (by decide) rfl ?_
              refine r_goto (tgt := 70) hw dX8_isWithin_113 (by decide) ?_
              refine r_sub hw [2, 1, 0] rfl ?_
              exact ih70 _ _ m51
            have J108 : ∀ (i17 : Int32), (mX8_isWithin_J108 K R M8 r i17).bind (Sum.elim (it (mX8_isWithin_L70 K R M8 r) n70) some) = some v70 → w 0 0 108 [(0, .ref r), (4, .int i17)] [] K R M8 := by
              intro i17 m52
              unfold mX8_isWithin_J108 at m52
              refine r_iconst (v := 0) hw dX8_isWithin_108 rfl ?_
              exact J109 _ _ m52
            refine r_iload hw dX8_isWithin_70 2 rfl ?_
            refine r_aload_n hw dX8_isWithin_72 0 rfl ?_
            refine r_getI hw fO_X8_146 h1 dX8_isWithin_73 ?_
            refine r_icmp_ge (tgt := 116) hw dX8_isWithin_76 (by decide) (fun c18 => ?_) (fun c18 => ?_)
            · have m53 := h_if_f c18 m49
              clear m49
              have m54 := h_ex m53 hv70
              clear m53
              refine r_iload_n hw dX8_isWithin_116 1 rfl ?_
              obtain ⟨h19, m55⟩ := h_ck m54
              clear m54
              cases h_ret m55
              exact r_zreturn hq h19 rfl rfl dX8_isWithin_117
            · have m56 := h_if_t c18 m49
              clear m49
              refine r_iload_n hw dX8_isWithin_79 1 rfl ?_
              refine r_if_eq (tgt := 108) hw dX8_isWithin_80 (by decide) (fun c20 => ?_) (fun c20 => ?_)
              · have m57 := h_if_t c20 m56
                clear m56
                refine r_sub hw [0, 2] rfl ?_
                exact J108 _ m57
              · have m58 := h_if_f c20 m56
                clear m56
                refine r_aload_n hw dX8_isWithin_83 0 rfl ?_
                refine r_aload_n hw dX8_isWithin_84 0 rfl ?_
                obtain ⟨q21, bq21, m59⟩ := h_bd m58
                clear m58
                refine r_getR hw fO_X8_42 h1 bq21 dX8_isWithin_85 ?_
                refine r_iload hw dX8_isWithin_88 2 rfl ?_
                obtain ⟨h22, m60⟩ := h_ck m59
                clear m59
                refine r_laload hw h22 dX8_isWithin_90 ?_
                refine r_aload_n hw dX8_isWithin_91 0 rfl ?_
                obtain ⟨q23, bq23, m61⟩ := h_bd m60
                clear m60
                refine r_getR hw fO_X8_45 h1 bq23 dX8_isWithin_92 ?_
                refine r_iload hw dX8_isWithin_95 2 rfl ?_
                obtain ⟨h24, m62⟩ := h_ck m61
                clear m61
                refine r_laload hw h24 dX8_isWithin_97 ?_
                obtain ⟨i25, g25, m63⟩ := h_bd m62
                clear m62
                refine r_callV1 hw (tX8_hasB l G b0 g25) lB_X8_hasB lI_X8_hasB mL_X8_284 (c := 8) rfl h1 rfl (Nat.le_of_ble_eq_true rfl) (Nat.le_of_ble_eq_true rfl) rfl (Nat.le_of_ble_eq_true rfl) dX8_isWithin_98 ?_
                refine r_if_eq (tgt := 108) hw dX8_isWithin_101 (by decide) (fun c26 => ?_) (fun c26 => ?_)
                · have m64 := h_if_t c26 m63
                  clear m63
                  refine r_sub hw [0, 2] rfl ?_
                  exact J108 _ m64
                · have m65 := h_if_f c26 m63
                  clear m63
                  refine r_iconst (v := 1) hw dX8_isWithin_104 rfl ?_
                  refine r_goto (tgt := 109) hw dX8_isWithin_105 (by decide) ?_
                  refine r_sub hw [0, 2] rfl ?_
                  exact J109 _ _ m65
        exact L70 n070 _ _ hn70
      · have m66 := h_if_t c9 m44
        clear m44
        refine r_aload_n hw dX8_isWithin_25 0 rfl ?_
        obtain ⟨q27, bq27, m67⟩ := h_bd m66
        clear m66
        refine r_getR hw fO_X8_48 h1 bq27 dX8_isWithin_26 ?_
        refine r_iload_n hw dX8_isWithin_29 2 rfl ?_
        refine r_aload_n hw dX8_isWithin_30 0 rfl ?_
        obtain ⟨q28, bq28, m68⟩ := h_bd m67
        clear m67
        refine r_getR hw fO_X8_26 h1 bq28 dX8_isWithin_31 ?_
        refine r_bipush (v := 16) hw dX8_isWithin_34 rfl ?_
        refine r_iload_n hw dX8_isWithin_36 1 rfl ?_
        refine r_imul hw dX8_isWithin_37 ?_
        refine r_iload_n hw dX8_isWithin_38 2 rfl ?_
        refine r_iadd hw dX8_isWithin_39 ?_
        obtain ⟨h29, m69⟩ := h_ck m68
        clear m68
        refine r_laload hw h29 dX8_isWithin_40 ?_
        obtain ⟨h30, m70⟩ := h_ck m69
        clear m69
        obtain ⟨M31, eM31, m71⟩ := h_nm m70
        clear m70
        refine r_lastore hw h30 dX8_isWithin_41 (r_mem ?_ rfl eM31)
        refine r_aload_n hw dX8_isWithin_42 0 rfl ?_
        obtain ⟨q32, bq32, m72⟩ := h_bd m71
        clear m71
        refine r_getR hw fO_X8_51 h1 bq32 dX8_isWithin_43 ?_
        refine r_iload_n hw dX8_isWithin_46 2 rfl ?_
        refine r_aload_n hw dX8_isWithin_47 0 rfl ?_
        obtain ⟨q33, bq33, m73⟩ := h_bd m72
        clear m72
        refine r_getR hw fO_X8_29 h1 bq33 dX8_isWithin_48 ?_
        refine r_bipush (v := 16) hw dX8_isWithin_51 rfl ?_
        refine r_iload_n hw dX8_isWithin_53 1 rfl ?_
        refine r_imul hw dX8_isWithin_54 ?_
        refine r_iload_n hw dX8_isWithin_55 2 rfl ?_
        refine r_iadd hw dX8_isWithin_56 ?_
        obtain ⟨h34, m74⟩ := h_ck m73
        clear m73
        refine r_laload hw h34 dX8_isWithin_57 ?_
        obtain ⟨h35, m75⟩ := h_ck m74
        clear m74
        obtain ⟨M36, eM36, m76⟩ := h_nm m75
        clear m75
        refine r_lastore hw h35 dX8_isWithin_58 (r_mem ?_ rfl eM36)
        obtain ⟨i37, ei37, m77⟩ := h_nm m76
        clear m76
        refine r_iinc (j := 2) (v := i37) hw dX8_isWithin_59 rfl (by rw [ei37]; rfl) (by decide) rfl ?_
        refine r_goto (tgt := 17) hw dX8_isWithin_62 (by decide) ?_
        refine r_sub hw [1, 2, 0] rfl ?_
        exact ih17 _ _ m77
  exact L17 n017 _ _ hn17
theorem dX8_isLaid_0 : decode cX8_isLaid 0 = .ok (.aload_n 0, 1) := by decide +kernel
theorem dX8_isLaid_1 : decode cX8_isLaid 1 = .ok (.iload_n 1, 1) := by decide +kernel
theorem dX8_isLaid_2 : decode cX8_isLaid 2 = .ok (.bipush 36, 2) := by decide +kernel
theorem dX8_isLaid_4 : decode cX8_isLaid 4 = .ok (.invokevirtual 103, 3) := by decide +kernel
theorem dX8_isLaid_7 : decode cX8_isLaid 7 = .ok (.lconst 0, 1) := by decide +kernel
theorem dX8_isLaid_8 : decode cX8_isLaid 8 = .ok (.lcmp, 1) := by decide +kernel
theorem dX8_isLaid_9 : decode cX8_isLaid 9 = .ok (.ifCond .ne 7, 3) := by decide +kernel
theorem dX8_isLaid_12 : decode cX8_isLaid 12 = .ok (.iconst 1, 1) := by decide +kernel
theorem dX8_isLaid_13 : decode cX8_isLaid 13 = .ok (.goto 4, 3) := by decide +kernel
theorem dX8_isLaid_16 : decode cX8_isLaid 16 = .ok (.iconst 0, 1) := by decide +kernel
theorem dX8_isLaid_17 : decode cX8_isLaid 17 = .ok (.ireturn, 1) := by decide +kernel
set_option maxHeartbeats 4000000 in
set_option maxRecDepth 100000 in
theorem tX8_isLaid (l : Launch) (G : Gg) (b0 : Nat) {K : Kk} {R : Rr} {M : Mm} {r : Nat} {a0 : Int32} {res : Int32} (hm : mX8_isLaid K R M r a0 = some (res)) : CT l G b0 yX8_isLaid cX8_isLaid 2 (some .boolean) (rmz 2 22) [.ref r, .int a0] K R M (some (.int res)) K R M := by
  refine ct_of (by decide +kernel) (Nat.le_of_ble_eq_true rfl) (fun w hq => ?_)
  have hw := hq.b
  change w 0 0 0 [(0, .ref r), (1, .int a0)] [] K R M
  replace hm := h_start hm
  unfold mX8_isLaid at hm
  obtain ⟨h1, m4⟩ := h_ck hm
  clear hm
  refine r_aload_n hw dX8_isLaid_0 0 rfl ?_
  refine r_iload_n hw dX8_isLaid_1 1 rfl ?_
  refine r_bipush (v := 36) hw dX8_isLaid_2 rfl ?_
  obtain ⟨l2, g2, m5⟩ := h_bd m4
  clear m4
  refine r_callV1 hw (tX8_get l G b0 g2) lB_X8_get lI_X8_get mL_X8_103 (c := 8) rfl h1 rfl (Nat.le_of_ble_eq_true rfl) (Nat.le_of_ble_eq_true rfl) rfl (Nat.le_of_ble_eq_true rfl) dX8_isLaid_4 ?_
  refine r_lconst (v := 0) hw dX8_isLaid_7 rfl ?_
  refine r_lcmp_ne (tgt := 16) hw dX8_isLaid_8 dX8_isLaid_9 (by decide) (fun c3 => ?_) (fun c3 => ?_)
  · have m6 := h_if_f c3 m5
    clear m5
    refine r_iconst (v := 0) hw dX8_isLaid_16 rfl ?_
    cases h_ret m6
    exact r_zreturn hq isB_0 rfl rfl dX8_isLaid_17
  · have m7 := h_if_t c3 m5
    clear m5
    refine r_iconst (v := 1) hw dX8_isLaid_12 rfl ?_
    refine r_goto (tgt := 17) hw dX8_isLaid_13 (by decide) ?_
    cases h_ret m7
    exact r_zreturn hq isB_1 rfl rfl dX8_isLaid_17
theorem dX8_allAreas_0 : decode cX8_allAreas 0 = .ok (.lconst 0, 1) := by decide +kernel
theorem dX8_allAreas_1 : decode cX8_allAreas 1 = .ok (.lstore_n 1, 1) := by decide +kernel
theorem dX8_allAreas_2 : decode cX8_allAreas 2 = .ok (.iconst 0, 1) := by decide +kernel
theorem dX8_allAreas_3 : decode cX8_allAreas 3 = .ok (.istore_n 3, 1) := by decide +kernel
theorem dX8_allAreas_4 : decode cX8_allAreas 4 = .ok (.iload_n 3, 1) := by decide +kernel
theorem dX8_allAreas_5 : decode cX8_allAreas 5 = .ok (.aload_n 0, 1) := by decide +kernel
theorem dX8_allAreas_6 : decode cX8_allAreas 6 = .ok (.invokevirtual 99, 3) := by decide +kernel
theorem dX8_allAreas_9 : decode cX8_allAreas 9 = .ok (.if_icmp .ge 29, 3) := by decide +kernel
theorem dX8_allAreas_12 : decode cX8_allAreas 12 = .ok (.lload_n 1, 1) := by decide +kernel
theorem dX8_allAreas_13 : decode cX8_allAreas 13 = .ok (.aload_n 0, 1) := by decide +kernel
theorem dX8_allAreas_14 : decode cX8_allAreas 14 = .ok (.iload_n 3, 1) := by decide +kernel
theorem dX8_allAreas_15 : decode cX8_allAreas 15 = .ok (.invokevirtual 287, 3) := by decide +kernel
theorem dX8_allAreas_18 : decode cX8_allAreas 18 = .ok (.ifCond .eq 11, 3) := by decide +kernel
theorem dX8_allAreas_21 : decode cX8_allAreas 21 = .ok (.aload_n 0, 1) := by decide +kernel
theorem dX8_allAreas_22 : decode cX8_allAreas 22 = .ok (.iload_n 3, 1) := by decide +kernel
theorem dX8_allAreas_23 : decode cX8_allAreas 23 = .ok (.invokevirtual 267, 3) := by decide +kernel
theorem dX8_allAreas_26 : decode cX8_allAreas 26 = .ok (.goto 4, 3) := by decide +kernel
theorem dX8_allAreas_29 : decode cX8_allAreas 29 = .ok (.lconst 0, 1) := by decide +kernel
theorem dX8_allAreas_30 : decode cX8_allAreas 30 = .ok (.ladd, 1) := by decide +kernel
theorem dX8_allAreas_31 : decode cX8_allAreas 31 = .ok (.lstore_n 1, 1) := by decide +kernel
theorem dX8_allAreas_32 : decode cX8_allAreas 32 = .ok (.iinc 3 1, 3) := by decide +kernel
theorem dX8_allAreas_35 : decode cX8_allAreas 35 = .ok (.goto (-31), 3) := by decide +kernel
theorem dX8_allAreas_38 : decode cX8_allAreas 38 = .ok (.lload_n 1, 1) := by decide +kernel
theorem dX8_allAreas_39 : decode cX8_allAreas 39 = .ok (.lreturn, 1) := by decide +kernel
set_option maxHeartbeats 4000000 in
set_option maxRecDepth 100000 in
theorem tX8_allAreas (l : Launch) (G : Gg) (b0 : Nat) {K : Kk} {R : Rr} {M : Mm} {r : Nat} {res : Int64} {M' : Mm} (hm : mX8_allAreas K R M r = some (res, M')) : CT l G b0 yX8_allAreas cX8_allAreas 4 (some .long) (rmz 6 134) [.ref r] K R M (some (.long res)) K R M' := by
  refine ct_of (by decide +kernel) (Nat.le_of_ble_eq_true rfl) (fun w hq => ?_)
  have hw := hq.b
  change w 0 0 0 [(0, .ref r)] [] K R M
  replace hm := h_start hm
  unfold mX8_allAreas at hm
  obtain ⟨h1, m19⟩ := h_ck hm
  clear hm
  refine r_lconst (v := 0) hw dX8_allAreas_0 rfl ?_
  obtain ⟨l2, el2, m20⟩ := h_nm m19
  clear m19
  refine r_topL (w := w) el2 ?_
  refine r_lstore_n hw dX8_allAreas_1 rfl (by decide) rfl ?_
  refine r_iconst (v := 0) hw dX8_allAreas_2 rfl ?_
  obtain ⟨i3, ei3, m21⟩ := h_nm m20
  clear m20
  refine r_topI (w := w) ei3 ?_
  refine r_istore_n hw dX8_allAreas_3 rfl (by decide) rfl ?_
  refine r_sub hw [2, 1, 0] rfl ?_
  obtain ⟨v4, n04, hn4, hv4⟩ := h_lp m21
  clear m21
  have L4 : ∀ n : Nat, ∀ (l4 : Int64) (i5 : Int32) (M6 : Mm), it (mX8_allAreas_L4 K R r) n (l4, i5, M6) = some v4 → w 0 0 4 [(0, .ref r), (1, .long l4), (3, .int i5)] [] K R M6 := by
    intro n4
    induction n4 with
    | zero => intro l4 i5 M6 hz; exact absurd hz h_it0
    | succ n4 ih4 =>
      intro l4 i5 M6 m22
      replace m22 : (mX8_allAreas_B4 K R r l4 i5 M6).bind (Sum.elim (it (mX8_allAreas_L4 K R r) n4) some) = some v4 := m22
      unfold mX8_allAreas_B4 at m22
      have J30 : ∀ (M10 : Mm) (i7 : Int32) (s8 : Int64) (s9 : Int64), (mX8_allAreas_J30 K R M10 r i7 s8 s9).bind (Sum.elim (it (mX8_allAreas_L4 K R r) n4) some) = some v4 → w 0 0 30 [(0, .ref r), (3, .int i7)] [.long s9, .long s8] K R M10 := by
        intro M10 i7 s8 s9 m23
        unfold mX8_allAreas_J30 at m23
        refine r_ladd hw dX8_allAreas_30 ?_
        obtain ⟨l11, el11, m24⟩ := h_nm m23
        clear m23
        refine r_topL (w := w) el11 ?_
        refine r_lstore_n hw dX8_allAreas_31 rfl (by decide) rfl ?_
        obtain ⟨i12, ei12, m25⟩ := h_nm m24
        clear m24
        refine r_iinc (j := 2) (v := i12) hw dX8_allAreas_32 rfl (by rw [ei12]; rfl) (by decide) rfl ?_
        refine r_goto (tgt := 4) hw dX8_allAreas_35 (by decide) ?_
        refine r_sub hw [2, 1, 0] rfl ?_
        exact ih4 _ _ _ m25
      refine r_iload_n hw dX8_allAreas_4 2 rfl ?_
      refine r_aload_n hw dX8_allAreas_5 0 rfl ?_
      obtain ⟨i13, g13, m26⟩ := h_bd m22
      clear m22
      refine r_callV1 hw (tX8_pieces l G b0 g13) lB_X8_pieces lI_X8_pieces mL_X8_99 (c := 8) rfl h1 rfl (Nat.le_of_ble_eq_true rfl) (Nat.le_of_ble_eq_true rfl) rfl (Nat.le_of_ble_eq_true rfl) dX8_allAreas_6 ?_
      refine r_icmp_ge (tgt := 38) hw dX8_allAreas_9 (by decide) (fun c14 => ?_) (fun c14 => ?_)
      · have m27 := h_if_f c14 m26
        clear m26
        have m28 := h_ex m27 hv4
        clear m27
        refine r_lload_n hw dX8_allAreas_38 1 rfl ?_
        cases h_ret m28
        exact r_lreturn hq rfl rfl dX8_allAreas_39
      · have m29 := h_if_t c14 m26
        clear m26
        refine r_lload_n hw dX8_allAreas_12 1 rfl ?_
        refine r_aload_n hw dX8_allAreas_13 0 rfl ?_
        refine r_iload_n hw dX8_allAreas_14 2 rfl ?_
        obtain ⟨i15, g15, m30⟩ := h_bd m29
        clear m29
        refine r_callV1 hw (tX8_isLaid l G b0 g15) lB_X8_isLaid lI_X8_isLaid mL_X8_287 (c := 8) rfl h1 rfl (Nat.le_of_ble_eq_true rfl) (Nat.le_of_ble_eq_true rfl) rfl (Nat.le_of_ble_eq_true rfl) dX8_allAreas_15 ?_
        refine r_if_eq (tgt := 29) hw dX8_allAreas_18 (by decide) (fun c16 => ?_) (fun c16 => ?_)
        · have m31 := h_if_t c16 m30
          clear m30
          refine r_lconst (v := 0) hw dX8_allAreas_29 rfl ?_
          refine r_sub hw [0, 2] rfl ?_
          exact J30 _ _ _ _ m31
        · have m32 := h_if_f c16 m30
          clear m30
          refine r_aload_n hw dX8_allAreas_21 0 rfl ?_
          refine r_iload_n hw dX8_allAreas_22 2 rfl ?_
          obtain ⟨l17, M18, g18, m33⟩ := h_bd2 m32
          clear m32
          refine r_callV1 hw (tX8_areaOf l G b0 g18) lB_X8_areaOf lI_X8_areaOf mL_X8_267 (c := 8) rfl h1 rfl (Nat.le_of_ble_eq_true rfl) (Nat.le_of_ble_eq_true rfl) rfl (Nat.le_of_ble_eq_true rfl) dX8_allAreas_23 ?_
          refine r_goto (tgt := 30) hw dX8_allAreas_26 (by decide) ?_
          refine r_sub hw [0, 2] rfl ?_
          exact J30 _ _ _ _ m33
  exact L4 n04 _ _ _ hn4
theorem dX8_covers_0 : decode cX8_covers 0 = .ok (.iload_n 1, 1) := by decide +kernel
theorem dX8_covers_1 : decode cX8_covers 1 = .ok (.i2l, 1) := by decide +kernel
theorem dX8_covers_2 : decode cX8_covers 2 = .ok (.lconst 0, 1) := by decide +kernel
theorem dX8_covers_3 : decode cX8_covers 3 = .ok (.ldc2_w 164, 3) := by decide +kernel
theorem dX8_covers_6 : decode cX8_covers 6 = .ok (.invokestatic 95, 3) := by decide +kernel
theorem dX8_covers_9 : decode cX8_covers 9 = .ok (.ifCond .ne 7, 3) := by decide +kernel
theorem dX8_covers_12 : decode cX8_covers 12 = .ok (.ldc2_w 160, 3) := by decide +kernel
theorem dX8_covers_15 : decode cX8_covers 15 = .ok (.lreturn, 1) := by decide +kernel
theorem dX8_covers_16 : decode cX8_covers 16 = .ok (.aload_n 0, 1) := by decide +kernel
theorem dX8_covers_17 : decode cX8_covers 17 = .ok (.getfield 32, 3) := by decide +kernel
theorem dX8_covers_20 : decode cX8_covers 20 = .ok (.iload_n 1, 1) := by decide +kernel
theorem dX8_covers_21 : decode cX8_covers 21 = .ok (.iaload, 1) := by decide +kernel
theorem dX8_covers_22 : decode cX8_covers 22 = .ok (.ifCond .ne 7, 3) := by decide +kernel
theorem dX8_covers_25 : decode cX8_covers 25 = .ok (.ldc2_w 113, 3) := by decide +kernel
theorem dX8_covers_28 : decode cX8_covers 28 = .ok (.lreturn, 1) := by decide +kernel
theorem dX8_covers_29 : decode cX8_covers 29 = .ok (.iconst 0, 1) := by decide +kernel
theorem dX8_covers_30 : decode cX8_covers 30 = .ok (.istore_n 2, 1) := by decide +kernel
theorem dX8_covers_31 : decode cX8_covers 31 = .ok (.iload_n 2, 1) := by decide +kernel
theorem dX8_covers_32 : decode cX8_covers 32 = .ok (.aload_n 0, 1) := by decide +kernel
theorem dX8_covers_33 : decode cX8_covers 33 = .ok (.invokevirtual 99, 3) := by decide +kernel
theorem dX8_covers_36 : decode cX8_covers 36 = .ok (.if_icmp .ge 31, 3) := by decide +kernel
theorem dX8_covers_39 : decode cX8_covers 39 = .ok (.aload_n 0, 1) := by decide +kernel
theorem dX8_covers_40 : decode cX8_covers 40 = .ok (.iload_n 2, 1) := by decide +kernel
theorem dX8_covers_41 : decode cX8_covers 41 = .ok (.invokevirtual 287, 3) := by decide +kernel
theorem dX8_covers_44 : decode cX8_covers 44 = .ok (.ifCond .eq 17, 3) := by decide +kernel
theorem dX8_covers_47 : decode cX8_covers 47 = .ok (.aload_n 0, 1) := by decide +kernel
theorem dX8_covers_48 : decode cX8_covers 48 = .ok (.iload_n 2, 1) := by decide +kernel
theorem dX8_covers_49 : decode cX8_covers 49 = .ok (.iload_n 1, 1) := by decide +kernel
theorem dX8_covers_50 : decode cX8_covers 50 = .ok (.invokevirtual 290, 3) := by decide +kernel
theorem dX8_covers_53 : decode cX8_covers 53 = .ok (.ifCond .ne 8, 3) := by decide +kernel
theorem dX8_covers_56 : decode cX8_covers 56 = .ok (.lconst 1, 1) := by decide +kernel
theorem dX8_covers_57 : decode cX8_covers 57 = .ok (.iload_n 2, 1) := by decide +kernel
theorem dX8_covers_58 : decode cX8_covers 58 = .ok (.i2l, 1) := by decide +kernel
theorem dX8_covers_59 : decode cX8_covers 59 = .ok (.ladd, 1) := by decide +kernel
theorem dX8_covers_60 : decode cX8_covers 60 = .ok (.lreturn, 1) := by decide +kernel
theorem dX8_covers_61 : decode cX8_covers 61 = .ok (.iinc 2 1, 3) := by decide +kernel
theorem dX8_covers_64 : decode cX8_covers 64 = .ok (.goto (-33), 3) := by decide +kernel
theorem dX8_covers_67 : decode cX8_covers 67 = .ok (.iconst 0, 1) := by decide +kernel
theorem dX8_covers_68 : decode cX8_covers 68 = .ok (.istore_n 2, 1) := by decide +kernel
theorem dX8_covers_69 : decode cX8_covers 69 = .ok (.iload_n 2, 1) := by decide +kernel
theorem dX8_covers_70 : decode cX8_covers 70 = .ok (.aload_n 0, 1) := by decide +kernel
theorem dX8_covers_71 : decode cX8_covers 71 = .ok (.invokevirtual 99, 3) := by decide +kernel
theorem dX8_covers_74 : decode cX8_covers 74 = .ok (.if_icmp .ge 66, 3) := by decide +kernel
theorem dX8_covers_77 : decode cX8_covers 77 = .ok (.iload_n 2, 1) := by decide +kernel
theorem dX8_covers_78 : decode cX8_covers 78 = .ok (.iconst 1, 1) := by decide +kernel
theorem dX8_covers_79 : decode cX8_covers 79 = .ok (.iadd, 1) := by decide +kernel
theorem dX8_covers_80 : decode cX8_covers 80 = .ok (.istore_n 3, 1) := by decide +kernel
theorem dX8_covers_81 : decode cX8_covers 81 = .ok (.iload_n 3, 1) := by decide +kernel
theorem dX8_covers_82 : decode cX8_covers 82 = .ok (.aload_n 0, 1) := by decide +kernel
theorem dX8_covers_83 : decode cX8_covers 83 = .ok (.invokevirtual 99, 3) := by decide +kernel
theorem dX8_covers_86 : decode cX8_covers 86 = .ok (.if_icmp .ge 48, 3) := by decide +kernel
theorem dX8_covers_89 : decode cX8_covers 89 = .ok (.aload_n 0, 1) := by decide +kernel
theorem dX8_covers_90 : decode cX8_covers 90 = .ok (.iload_n 2, 1) := by decide +kernel
theorem dX8_covers_91 : decode cX8_covers 91 = .ok (.invokevirtual 287, 3) := by decide +kernel
theorem dX8_covers_94 : decode cX8_covers 94 = .ok (.ifCond .eq 34, 3) := by decide +kernel
theorem dX8_covers_97 : decode cX8_covers 97 = .ok (.aload_n 0, 1) := by decide +kernel
theorem dX8_covers_98 : decode cX8_covers 98 = .ok (.iload_n 3, 1) := by decide +kernel
theorem dX8_covers_99 : decode cX8_covers 99 = .ok (.invokevirtual 287, 3) := by decide +kernel
theorem dX8_covers_102 : decode cX8_covers 102 = .ok (.ifCond .eq 26, 3) := by decide +kernel
theorem dX8_covers_105 : decode cX8_covers 105 = .ok (.aload_n 0, 1) := by decide +kernel
theorem dX8_covers_106 : decode cX8_covers 106 = .ok (.iload_n 2, 1) := by decide +kernel
theorem dX8_covers_107 : decode cX8_covers 107 = .ok (.iload_n 3, 1) := by decide +kernel
theorem dX8_covers_108 : decode cX8_covers 108 = .ok (.invokevirtual 277, 3) := by decide +kernel
theorem dX8_covers_111 : decode cX8_covers 111 = .ok (.ifCond .eq 17, 3) := by decide +kernel
theorem dX8_covers_114 : decode cX8_covers 114 = .ok (.ldc2_w 293, 3) := by decide +kernel
theorem dX8_covers_117 : decode cX8_covers 117 = .ok (.ldc2_w 295, 3) := by decide +kernel
theorem dX8_covers_120 : decode cX8_covers 120 = .ok (.iload_n 2, 1) := by decide +kernel
theorem dX8_covers_121 : decode cX8_covers 121 = .ok (.i2l, 1) := by decide +kernel
theorem dX8_covers_122 : decode cX8_covers 122 = .ok (.lmul, 1) := by decide +kernel
theorem dX8_covers_123 : decode cX8_covers 123 = .ok (.ladd, 1) := by decide +kernel
theorem dX8_covers_124 : decode cX8_covers 124 = .ok (.iload_n 3, 1) := by decide +kernel
theorem dX8_covers_125 : decode cX8_covers 125 = .ok (.i2l, 1) := by decide +kernel
theorem dX8_covers_126 : decode cX8_covers 126 = .ok (.ladd, 1) := by decide +kernel
theorem dX8_covers_127 : decode cX8_covers 127 = .ok (.lreturn, 1) := by decide +kernel
theorem dX8_covers_128 : decode cX8_covers 128 = .ok (.iinc 3 1, 3) := by decide +kernel
theorem dX8_covers_131 : decode cX8_covers 131 = .ok (.goto (-50), 3) := by decide +kernel
theorem dX8_covers_134 : decode cX8_covers 134 = .ok (.iinc 2 1, 3) := by decide +kernel
theorem dX8_covers_137 : decode cX8_covers 137 = .ok (.goto (-68), 3) := by decide +kernel
theorem dX8_covers_140 : decode cX8_covers 140 = .ok (.aload_n 0, 1) := by decide +kernel
theorem dX8_covers_141 : decode cX8_covers 141 = .ok (.invokevirtual 297, 3) := by decide +kernel
theorem dX8_covers_144 : decode cX8_covers 144 = .ok (.aload_n 0, 1) := by decide +kernel
theorem dX8_covers_145 : decode cX8_covers 145 = .ok (.iload_n 1, 1) := by decide +kernel
theorem dX8_covers_146 : decode cX8_covers 146 = .ok (.invokevirtual 170, 3) := by decide +kernel
theorem dX8_covers_149 : decode cX8_covers 149 = .ok (.lcmp, 1) := by decide +kernel
theorem dX8_covers_150 : decode cX8_covers 150 = .ok (.ifCond .ne 7, 3) := by decide +kernel
theorem dX8_covers_153 : decode cX8_covers 153 = .ok (.lconst 0, 1) := by decide +kernel
theorem dX8_covers_154 : decode cX8_covers 154 = .ok (.goto 6, 3) := by decide +kernel
theorem dX8_covers_157 : decode cX8_covers 157 = .ok (.ldc2_w 301, 3) := by decide +kernel
theorem dX8_covers_160 : decode cX8_covers 160 = .ok (.lreturn, 1) := by decide +kernel
set_option maxHeartbeats 4000000 in
set_option maxRecDepth 100000 in
theorem tX8_covers (l : Launch) (G : Gg) (b0 : Nat) {K : Kk} {R : Rr} {M : Mm} {r : Nat} {a0 : Int32} {res : Int64} {M' : Mm} (hm : mX8_covers K R M r a0 = some (res, M')) : CT l G b0 yX8_covers cX8_covers 4 (some .long) (rmz 7 157) [.ref r, .int a0] K R M (some (.long res)) K R M' := by
  refine ct_of (by decide +kernel) (Nat.le_of_ble_eq_true rfl) (fun w hq => ?_)
  have hw := hq.b
  change w 0 0 0 [(0, .ref r), (1, .int a0)] [] K R M
  replace hm := h_start hm
  unfold mX8_covers at hm
  obtain ⟨h1, m45⟩ := h_ck hm
  clear hm
  refine r_iload_n hw dX8_covers_0 1 rfl ?_
  refine r_i2l hw dX8_covers_1 ?_
  refine r_lconst (v := 0) hw dX8_covers_2 rfl ?_
  refine r_ldc2 (v := 4) hw dX8_covers_3 kW_X8_164 ?_
  obtain ⟨i2, g2, m46⟩ := h_bd m45
  clear m45
  refine r_callS1 hw (tX8_isIn l G b0 g2) lB_X8_isIn sT_X8_isIn mL_X8_95 rfl rfl (Nat.le_of_ble_eq_true rfl) (Nat.le_of_ble_eq_true rfl) rfl (Nat.le_of_ble_eq_true rfl) dX8_covers_6 ?_
  refine r_if_ne (tgt := 16) hw dX8_covers_9 (by decide) (fun c3 => ?_) (fun c3 => ?_)
  · have m47 := h_if_f c3 m46
    clear m46
    refine r_aload_n hw dX8_covers_16 0 rfl ?_
    obtain ⟨q4, bq4, m48⟩ := h_bd m47
    clear m47
    refine r_getR hw fO_X8_32 h1 bq4 dX8_covers_17 ?_
    refine r_iload_n hw dX8_covers_20 1 rfl ?_
    obtain ⟨h5, m49⟩ := h_ck m48
    clear m48
    refine r_iaload hw h5 dX8_covers_21 ?_
    refine r_if_ne (tgt := 29) hw dX8_covers_22 (by decide) (fun c6 => ?_) (fun c6 => ?_)
    · have m50 := h_if_f c6 m49
      clear m49
      refine r_iconst (v := 0) hw dX8_covers_29 rfl ?_
      obtain ⟨i7, ei7, m51⟩ := h_nm m50
      clear m50
      refine r_topI (w := w) ei7 ?_
      refine r_istore_n hw dX8_covers_30 rfl (by decide) rfl ?_
      refine r_sub hw [1, 2, 0] rfl ?_
      obtain ⟨v31, n031, hn31, hv31⟩ := h_lp m51
      clear m51
      have L31 : ∀ n : Nat, ∀ (i8 : Int32) (M9 : Mm), it (mX8_covers_L31 K R r a0) n (i8, M9) = some v31 → w 0 0 31 [(0, .ref r), (1, .int a0), (2, .int i8)] [] K R M9 := by
        intro n31
        induction n31 with
        | zero => intro i8 M9 hz; exact absurd hz h_it0
        | succ n31 ih31 =>
          intro i8 M9 m52
          replace m52 : (mX8_covers_B31 K R r a0 i8 M9).bind (Sum.elim (it (mX8_covers_L31 K R r a0) n31) some) = some v31 := m52
          unfold mX8_covers_B31 at m52
          have J61 : ∀ (M11 : Mm) (i10 : Int32), (mX8_covers_J61 K R M11 r a0 i10).bind (Sum.elim (it (mX8_covers_L31 K R r a0) n31) some) = some v31 → w 0 0 61 [(0, .ref r), (1, .int a0), (2, .int i10)] [] K R M11 := by
            intro M11 i10 m53
            unfold mX8_covers_J61 at m53
            obtain ⟨i12, ei12, m54⟩ := h_nm m53
            clear m53
            refine r_iinc (j := 2) (v := i12) hw dX8_covers_61 rfl (by rw [ei12]; rfl) (by decide) rfl ?_
            refine r_goto (tgt := 31) hw dX8_covers_64 (by decide) ?_
            refine r_sub hw [1, 2, 0] rfl ?_
            exact ih31 _ _ m54
          refine r_iload_n hw dX8_covers_31 2 rfl ?_
          refine r_aload_n hw dX8_covers_32 0 rfl ?_
          obtain ⟨i13, g13, m55⟩ := h_bd m52
          clear m52
          refine r_callV1 hw (tX8_pieces l G b0 g13) lB_X8_pieces lI_X8_pieces mL_X8_99 (c := 8) rfl h1 rfl (Nat.le_of_ble_eq_true rfl) (Nat.le_of_ble_eq_true rfl) rfl (Nat.le_of_ble_eq_true rfl) dX8_covers_33 ?_
          refine r_icmp_ge (tgt := 67) hw dX8_covers_36 (by decide) (fun c14 => ?_) (fun c14 => ?_)
          · have m56 := h_if_f c14 m55
            clear m55
            have m57 := h_ex m56 hv31
            clear m56
            refine r_iconst (v := 0) hw dX8_covers_67 rfl ?_
            obtain ⟨i15, ei15, m58⟩ := h_nm m57
            clear m57
            refine r_topI (w := w) ei15 ?_
            refine r_istore_n hw dX8_covers_68 rfl (by decide) rfl ?_
            refine r_sub hw [1, 2, 0] rfl ?_
            obtain ⟨v69, n069, hn69, hv69⟩ := h_lp m58
            clear m58
            have L69 : ∀ n : Nat, ∀ (i16 : Int32) (M17 : Mm), it (mX8_covers_L69 K R r a0) n (i16, M17) = some v69 → w 0 0 69 [(0, .ref r), (1, .int a0), (2, .int i16)] [] K R M17 := by
              intro n69
              induction n69 with
              | zero => intro i16 M17 hz; exact absurd hz h_it0
              | succ n69 ih69 =>
                intro i16 M17 m59
                replace m59 : (mX8_covers_B69 K R r a0 i16 M17).bind (Sum.elim (it (mX8_covers_L69 K R r a0) n69) some) = some v69 := m59
                unfold mX8_covers_B69 at m59
                refine r_iload_n hw dX8_covers_69 2 rfl ?_
                refine r_aload_n hw dX8_covers_70 0 rfl ?_
                obtain ⟨i18, g18, m60⟩ := h_bd m59
                clear m59
                refine r_callV1 hw (tX8_pieces l G b0 g18) lB_X8_pieces lI_X8_pieces mL_X8_99 (c := 8) rfl h1 rfl (Nat.le_of_ble_eq_true rfl) (Nat.le_of_ble_eq_true rfl) rfl (Nat.le_of_ble_eq_true rfl) dX8_covers_71 ?_
                refine r_icmp_ge (tgt := 140) hw dX8_covers_74 (by decide) (fun c19 => ?_) (fun c19 => ?_)
                · have m61 := h_if_f c19 m60
                  clear m60
                  have m62 := h_ex m61 hv69
                  clear m61
                  refine r_aload_n hw dX8_covers_140 0 rfl ?_
                  obtain ⟨l20, M21, g21, m63⟩ := h_bd2 m62
                  clear m62
                  refine r_callV1 hw (tX8_allAreas l G b0 g21) lB_X8_allAreas lI_X8_allAreas mL_X8_297 (c := 8) rfl h1 rfl (Nat.le_of_ble_eq_true rfl) (Nat.le_of_ble_eq_true rfl) rfl (Nat.le_of_ble_eq_true rfl) dX8_covers_141 ?_
                  refine r_aload_n hw dX8_covers_144 0 rfl ?_
                  refine r_iload_n hw dX8_covers_145 1 rfl ?_
                  obtain ⟨l22, g22, m64⟩ := h_bd m63
                  clear m63
                  refine r_callV1 hw (tX8_figureArea l G b0 g22) lB_X8_figureArea lI_X8_figureArea mL_X8_170 (c := 8) rfl h1 rfl (Nat.le_of_ble_eq_true rfl) (Nat.le_of_ble_eq_true rfl) rfl (Nat.le_of_ble_eq_true rfl) dX8_covers_146 ?_
                  refine r_lcmp_ne (tgt := 157) hw dX8_covers_149 dX8_covers_150 (by decide) (fun c23 => ?_) (fun c23 => ?_)
                  · have m65 := h_if_f c23 m64
                    clear m64
                    refine r_ldc2 (v := 2000) hw dX8_covers_157 kW_X8_301 ?_
                    cases h_ret m65
                    exact r_lreturn hq rfl rfl dX8_covers_160
                  · have m66 := h_if_t c23 m64
                    clear m64
                    refine r_lconst (v := 0) hw dX8_covers_153 rfl ?_
                    refine r_goto (tgt := 160) hw dX8_covers_154 (by decide) ?_
                    cases h_ret m66
                    exact r_lreturn hq rfl rfl dX8_covers_160
                · have m67 := h_if_t c19 m60
                  clear m60
                  refine r_iload_n hw dX8_covers_77 2 rfl ?_
                  refine r_iconst (v := 1) hw dX8_covers_78 rfl ?_
                  refine r_iadd hw dX8_covers_79 ?_
                  obtain ⟨i24, ei24, m68⟩ := h_nm m67
                  clear m67
                  refine r_topI (w := w) ei24 ?_
                  refine r_istore_n hw dX8_covers_80 rfl (by decide) rfl ?_
                  refine r_sub hw [1, 2, 3, 0] rfl ?_
                  obtain ⟨v81, n081, hn81, hv81⟩ := h_lp m68
                  clear m68
                  have L81 : ∀ n : Nat, ∀ (i25 : Int32) (M26 : Mm), it (mX8_covers_L81 K R r a0 i16) n (i25, M26) = some v81 → w 0 0 81 [(0, .ref r), (1, .int a0), (2, .int i16), (3, .int i25)] [] K R M26 := by
                    intro n81
                    induction n81 with
                    | zero => intro i25 M26 hz; exact absurd hz h_it0
                    | succ n81 ih81 =>
                      intro i25 M26 m69
                      replace m69 : (mX8_covers_B81 K R r a0 i16 i25 M26).bind (Sum.elim (it (mX8_covers_L81 K R r a0 i16) n81) some) = some v81 := m69
                      unfold mX8_covers_B81 at m69
                      have J128 : ∀ (M28 : Mm) (i27 : Int32), (mX8_covers_J128 K R M28 r a0 i16 i27).bind (Sum.elim (it (mX8_covers_L81 K R r a0 i16) n81) some) = some v81 → w 0 0 128 [(0, .ref r), (1, .int a0), (2, .int i16), (3, .int i27)] [] K R M28 := by
                        intro M28 i27 m70
                        unfold mX8_covers_J128 at m70
                        obtain ⟨i29, ei29, m71⟩ := h_nm m70
                        clear m70
                        refine r_iinc (j := 3) (v := i29) hw dX8_covers_128 rfl (by rw [ei29]; rfl) (by decide) rfl ?_
                        refine r_goto (tgt := 81) hw dX8_covers_131 (by decide) ?_
                        refine r_sub hw [1, 2, 3, 0] rfl ?_
                        exact ih81 _ _ m71
                      refine r_iload_n hw dX8_covers_81 3 rfl ?_
                      refine r_aload_n hw dX8_covers_82 0 rfl ?_
                      obtain ⟨i30, g30, m72⟩ := h_bd m69
                      clear m69
                      refine r_callV1 hw (tX8_pieces l G b0 g30) lB_X8_pieces lI_X8_pieces mL_X8_99 (c := 8) rfl h1 rfl (Nat.le_of_ble_eq_true rfl) (Nat.le_of_ble_eq_true rfl) rfl (Nat.le_of_ble_eq_true rfl) dX8_covers_83 ?_
                      refine r_icmp_ge (tgt := 134) hw dX8_covers_86 (by decide) (fun c31 => ?_) (fun c31 => ?_)
                      · have m73 := h_if_f c31 m72
                        clear m72
                        have m74 := h_ex m73 hv81
                        clear m73
                        obtain ⟨i32, ei32, m75⟩ := h_nm m74
                        clear m74
                        refine r_iinc (j := 2) (v := i32) hw dX8_covers_134 rfl (by rw [ei32]; rfl) (by decide) rfl ?_
                        refine r_goto (tgt := 69) hw dX8_covers_137 (by decide) ?_
                        refine r_sub hw [1, 2, 0] rfl ?_
                        exact ih69 _ _ m75
                      · have m76 := h_if_t c31 m72
                        clear m72
                        refine r_aload_n hw dX8_covers_89 0 rfl ?_
                        refine r_iload_n hw dX8_covers_90 2 rfl ?_
                        obtain ⟨i33, g33, m77⟩ := h_bd m76
                        clear m76
                        refine r_callV1 hw (tX8_isLaid l G b0 g33) lB_X8_isLaid lI_X8_isLaid mL_X8_287 (c := 8) rfl h1 rfl (Nat.le_of_ble_eq_true rfl) (Nat.le_of_ble_eq_true rfl) rfl (Nat.le_of_ble_eq_true rfl) dX8_covers_91 ?_
                        refine r_if_eq (tgt := 128) hw dX8_covers_94 (by decide) (fun c34 => ?_) (fun c34 => ?_)
                        · have m78 := h_if_t c34 m77
                          clear m77
                          exact J128 _ _ m78
                        · have m79 := h_if_f c34 m77
                          clear m77
                          refine r_aload_n hw dX8_covers_97 0 rfl ?_
                          refine r_iload_n hw dX8_covers_98 3 rfl ?_
                          obtain ⟨i35, g35, m80⟩ := h_bd m79
                          clear m79
                          refine r_callV1 hw (tX8_isLaid l G b0 g35) lB_X8_isLaid lI_X8_isLaid mL_X8_287 (c := 8) rfl h1 rfl (Nat.le_of_ble_eq_true rfl) (Nat.le_of_ble_eq_true rfl) rfl (Nat.le_of_ble_eq_true rfl) dX8_covers_99 ?_
                          refine r_if_eq (tgt := 128) hw dX8_covers_102 (by decide) (fun c36 => ?_) (fun c36 => ?_)
                          · have m81 := h_if_t c36 m80
                            clear m80
                            exact J128 _ _ m81
                          · have m82 := h_if_f c36 m80
                            clear m80
                            refine r_aload_n hw dX8_covers_105 0 rfl ?_
                            refine r_iload_n hw dX8_covers_106 2 rfl ?_
                            refine r_iload_n hw dX8_covers_107 3 rfl ?_
                            obtain ⟨i37, M38, g38, m83⟩ := h_bd2 m82
                            clear m82
                            refine r_callV1 hw (tX8_isOver l G b0 g38) lB_X8_isOver lI_X8_isOver mL_X8_277 (c := 8) rfl h1 rfl (Nat.le_of_ble_eq_true rfl) (Nat.le_of_ble_eq_true rfl) rfl (Nat.le_of_ble_eq_true rfl) dX8_covers_108 ?_
                            refine r_if_eq (tgt := 128) hw dX8_covers_111 (by decide) (fun c39 => ?_) (fun c39 => ?_)
                            · have m84 := h_if_t c39 m83
                              clear m83
                              exact J128 _ _ m84
                            · have m85 := h_if_f c39 m83
                              clear m83
                              have m86 := h_ex m85 hv81
                              clear m85
                              have m87 := h_ex m86 hv69
                              clear m86
                              refine r_ldc2 (v := 100) hw dX8_covers_114 kW_X8_293 ?_
                              refine r_ldc2 (v := 40) hw dX8_covers_117 kW_X8_295 ?_
                              refine r_iload_n hw dX8_covers_120 2 rfl ?_
                              refine r_i2l hw dX8_covers_121 ?_
                              refine r_lmul hw dX8_covers_122 ?_
                              refine r_ladd hw dX8_covers_123 ?_
                              refine r_iload_n hw dX8_covers_124 3 rfl ?_
                              refine r_i2l hw dX8_covers_125 ?_
                              refine r_ladd hw dX8_covers_126 ?_
                              cases h_ret m87
                              exact r_lreturn hq rfl rfl dX8_covers_127
                  exact L81 n081 _ _ hn81
            exact L69 n069 _ _ hn69
          · have m88 := h_if_t c14 m55
            clear m55
            refine r_aload_n hw dX8_covers_39 0 rfl ?_
            refine r_iload_n hw dX8_covers_40 2 rfl ?_
            obtain ⟨i40, g40, m89⟩ := h_bd m88
            clear m88
            refine r_callV1 hw (tX8_isLaid l G b0 g40) lB_X8_isLaid lI_X8_isLaid mL_X8_287 (c := 8) rfl h1 rfl (Nat.le_of_ble_eq_true rfl) (Nat.le_of_ble_eq_true rfl) rfl (Nat.le_of_ble_eq_true rfl) dX8_covers_41 ?_
            refine r_if_eq (tgt := 61) hw dX8_covers_44 (by decide) (fun c41 => ?_) (fun c41 => ?_)
            · have m90 := h_if_t c41 m89
              clear m89
              exact J61 _ _ m90
            · have m91 := h_if_f c41 m89
              clear m89
              refine r_aload_n hw dX8_covers_47 0 rfl ?_
              refine r_iload_n hw dX8_covers_48 2 rfl ?_
              refine r_iload_n hw dX8_covers_49 1 rfl ?_
              obtain ⟨i42, M43, g43, m92⟩ := h_bd2 m91
              clear m91
              refine r_callV1 hw (tX8_isWithin l G b0 g43) lB_X8_isWithin lI_X8_isWithin mL_X8_290 (c := 8) rfl h1 rfl (Nat.le_of_ble_eq_true rfl) (Nat.le_of_ble_eq_true rfl) rfl (Nat.le_of_ble_eq_true rfl) dX8_covers_50 ?_
              refine r_if_ne (tgt := 61) hw dX8_covers_53 (by decide) (fun c44 => ?_) (fun c44 => ?_)
              · have m93 := h_if_f c44 m92
                clear m92
                exact J61 _ _ m93
              · have m94 := h_if_t c44 m92
                clear m92
                have m95 := h_ex m94 hv31
                clear m94
                refine r_lconst (v := 1) hw dX8_covers_56 rfl ?_
                refine r_iload_n hw dX8_covers_57 2 rfl ?_
                refine r_i2l hw dX8_covers_58 ?_
                refine r_ladd hw dX8_covers_59 ?_
                cases h_ret m95
                exact r_lreturn hq rfl rfl dX8_covers_60
      exact L31 n031 _ _ hn31
    · have m96 := h_if_t c6 m49
      clear m49
      refine r_ldc2 (v := (-9000000000000000002)) hw dX8_covers_25 kW_X8_113 ?_
      cases h_ret m96
      exact r_lreturn hq rfl rfl dX8_covers_28
  · have m97 := h_if_t c3 m46
    clear m46
    refine r_ldc2 (v := (-9000000000000000001)) hw dX8_covers_12 kW_X8_160 ?_
    cases h_ret m97
    exact r_lreturn hq rfl rfl dX8_covers_15
theorem dX8_common_0 : decode cX8_common 0 = .ok (.lload_n 0, 1) := by decide +kernel
theorem dX8_common_1 : decode cX8_common 1 = .ok (.lconst 0, 1) := by decide +kernel
theorem dX8_common_2 : decode cX8_common 2 = .ok (.lcmp, 1) := by decide +kernel
theorem dX8_common_3 : decode cX8_common 3 = .ok (.ifCond .ge 8, 3) := by decide +kernel
theorem dX8_common_6 : decode cX8_common 6 = .ok (.lload_n 0, 1) := by decide +kernel
theorem dX8_common_7 : decode cX8_common 7 = .ok (.lneg, 1) := by decide +kernel
theorem dX8_common_8 : decode cX8_common 8 = .ok (.goto 4, 3) := by decide +kernel
theorem dX8_common_11 : decode cX8_common 11 = .ok (.lload_n 0, 1) := by decide +kernel
theorem dX8_common_12 : decode cX8_common 12 = .ok (.lstore 4, 2) := by decide +kernel
theorem dX8_common_14 : decode cX8_common 14 = .ok (.lload_n 2, 1) := by decide +kernel
theorem dX8_common_15 : decode cX8_common 15 = .ok (.lconst 0, 1) := by decide +kernel
theorem dX8_common_16 : decode cX8_common 16 = .ok (.lcmp, 1) := by decide +kernel
theorem dX8_common_17 : decode cX8_common 17 = .ok (.ifCond .ge 8, 3) := by decide +kernel
theorem dX8_common_20 : decode cX8_common 20 = .ok (.lload_n 2, 1) := by decide +kernel
theorem dX8_common_21 : decode cX8_common 21 = .ok (.lneg, 1) := by decide +kernel
theorem dX8_common_22 : decode cX8_common 22 = .ok (.goto 4, 3) := by decide +kernel
theorem dX8_common_25 : decode cX8_common 25 = .ok (.lload_n 2, 1) := by decide +kernel
theorem dX8_common_26 : decode cX8_common 26 = .ok (.lstore 6, 2) := by decide +kernel
theorem dX8_common_28 : decode cX8_common 28 = .ok (.lload 6, 2) := by decide +kernel
theorem dX8_common_30 : decode cX8_common 30 = .ok (.lconst 0, 1) := by decide +kernel
theorem dX8_common_31 : decode cX8_common 31 = .ok (.lcmp, 1) := by decide +kernel
theorem dX8_common_32 : decode cX8_common 32 = .ok (.ifCond .eq 21, 3) := by decide +kernel
theorem dX8_common_35 : decode cX8_common 35 = .ok (.lload 4, 2) := by decide +kernel
theorem dX8_common_37 : decode cX8_common 37 = .ok (.lload 6, 2) := by decide +kernel
theorem dX8_common_39 : decode cX8_common 39 = .ok (.lrem, 1) := by decide +kernel
theorem dX8_common_40 : decode cX8_common 40 = .ok (.lstore 8, 2) := by decide +kernel
theorem dX8_common_42 : decode cX8_common 42 = .ok (.lload 6, 2) := by decide +kernel
theorem dX8_common_44 : decode cX8_common 44 = .ok (.lstore 4, 2) := by decide +kernel
theorem dX8_common_46 : decode cX8_common 46 = .ok (.lload 8, 2) := by decide +kernel
theorem dX8_common_48 : decode cX8_common 48 = .ok (.lstore 6, 2) := by decide +kernel
theorem dX8_common_50 : decode cX8_common 50 = .ok (.goto (-22), 3) := by decide +kernel
theorem dX8_common_53 : decode cX8_common 53 = .ok (.lload 4, 2) := by decide +kernel
theorem dX8_common_55 : decode cX8_common 55 = .ok (.lreturn, 1) := by decide +kernel
set_option maxHeartbeats 4000000 in
set_option maxRecDepth 100000 in
theorem tX8_common (l : Launch) (G : Gg) (b0 : Nat) {K : Kk} {R : Rr} {M : Mm} {a0 : Int64} {a1 : Int64} {res : Int64} (hm : mX8_common K R M a0 a1 = some (res)) : CT l G b0 yX8_common cX8_common 10 (some .long) (rmz 1 0) [.long a0, .long a1] K R M (some (.long res)) K R M := by
  refine ct_of (by decide +kernel) (Nat.le_of_ble_eq_true rfl) (fun w hq => ?_)
  have hw := hq.b
  change w 0 0 0 [(0, .long a0), (2, .long a1)] [] K R M
  replace hm := h_start hm
  unfold mX8_common at hm
  have J26 : ∀ (l1 : Int64) (s2 : Int64), (mX8_common_J26 K R M l1 s2).bind some = some (res) → w 0 0 26 [(4, .long l1)] [.long s2] K R M := by
    intro l1 s2 m11
    unfold mX8_common_J26 at m11
    refine r_lstore hw dX8_common_26 (by decide) rfl ?_
    refine r_sub hw [1, 0] rfl ?_
    obtain ⟨v28, n028, hn28, hv28⟩ := h_lp m11
    clear m11
    have L28 : ∀ n : Nat, ∀ (l3 : Int64) (l4 : Int64), it (mX8_common_L28 K R M) n (l3, l4) = some v28 → w 0 0 28 [(4, .long l3), (6, .long l4)] [] K R M := by
      intro n28
      induction n28 with
      | zero => intro l3 l4 hz; exact absurd hz h_it0
      | succ n28 ih28 =>
        intro l3 l4 m12
        replace m12 : (mX8_common_B28 K R M l3 l4).bind (Sum.elim (it (mX8_common_L28 K R M) n28) some) = some v28 := m12
        unfold mX8_common_B28 at m12
        refine r_lload hw dX8_common_28 1 rfl ?_
        refine r_lconst (v := 0) hw dX8_common_30 rfl ?_
        refine r_lcmp_eq (tgt := 53) hw dX8_common_31 dX8_common_32 (by decide) (fun c5 => ?_) (fun c5 => ?_)
        · have m13 := h_if_t c5 m12
          clear m12
          have m14 := h_ex m13 hv28
          clear m13
          refine r_lload hw dX8_common_53 0 rfl ?_
          cases h_ret m14
          exact r_lreturn hq rfl rfl dX8_common_55
        · have m15 := h_if_f c5 m12
          clear m12
          refine r_lload hw dX8_common_35 0 rfl ?_
          refine r_lload hw dX8_common_37 1 rfl ?_
          obtain ⟨h6, m16⟩ := h_ck m15
          clear m15
          refine r_lrem hw dX8_common_39 h6 ?_
          obtain ⟨l7, el7, m17⟩ := h_nm m16
          clear m16
          refine r_topL (w := w) el7 ?_
          refine r_lstore hw dX8_common_40 (by decide) rfl ?_
          refine r_lload hw dX8_common_42 2 rfl ?_
          refine r_lstore hw dX8_common_44 (by decide) rfl ?_
          refine r_lload hw dX8_common_46 1 rfl ?_
          refine r_lstore hw dX8_common_48 (by decide) rfl ?_
          refine r_goto (tgt := 28) hw dX8_common_50 (by decide) ?_
          refine r_sub hw [1, 0] rfl ?_
          exact ih28 _ _ m17
    exact L28 n028 _ _ hn28
  have J12 : ∀ (s8 : Int64), (mX8_common_J12 K R M a1 s8).bind some = some (res) → w 0 0 12 [(2, .long a1)] [.long s8] K R M := by
    intro s8 m18
    unfold mX8_common_J12 at m18
    refine r_lstore hw dX8_common_12 (by decide) rfl ?_
    refine r_lload_n hw dX8_common_14 1 rfl ?_
    refine r_lconst (v := 0) hw dX8_common_15 rfl ?_
    refine r_lcmp_ge (tgt := 25) hw dX8_common_16 dX8_common_17 (by decide) (fun c9 => ?_) (fun c9 => ?_)
    · have m19 := h_if_f c9 m18
      clear m18
      refine r_lload_n hw dX8_common_25 1 rfl ?_
      refine r_sub hw [0] rfl ?_
      exact J26 _ _ m19
    · have m20 := h_if_t c9 m18
      clear m18
      refine r_lload_n hw dX8_common_20 1 rfl ?_
      refine r_lneg hw dX8_common_21 ?_
      refine r_goto (tgt := 26) hw dX8_common_22 (by decide) ?_
      refine r_sub hw [0] rfl ?_
      exact J26 _ _ m20
  refine r_lload_n hw dX8_common_0 0 rfl ?_
  refine r_lconst (v := 0) hw dX8_common_1 rfl ?_
  refine r_lcmp_ge (tgt := 11) hw dX8_common_2 dX8_common_3 (by decide) (fun c10 => ?_) (fun c10 => ?_)
  · have m21 := h_if_f c10 hm
    clear hm
    refine r_lload_n hw dX8_common_11 0 rfl ?_
    refine r_sub hw [1] rfl ?_
    exact J12 _ m21
  · have m22 := h_if_t c10 hm
    clear hm
    refine r_lload_n hw dX8_common_6 0 rfl ?_
    refine r_lneg hw dX8_common_7 ?_
    refine r_goto (tgt := 12) hw dX8_common_8 (by decide) ?_
    refine r_sub hw [1] rfl ?_
    exact J12 _ m22
theorem dX8_addStep_0 : decode cX8_addStep 0 = .ok (.lload_n 1, 1) := by decide +kernel
theorem dX8_addStep_1 : decode cX8_addStep 1 = .ok (.lload_n 3, 1) := by decide +kernel
theorem dX8_addStep_2 : decode cX8_addStep 2 = .ok (.invokestatic 303, 3) := by decide +kernel
theorem dX8_addStep_5 : decode cX8_addStep 5 = .ok (.lstore 5, 2) := by decide +kernel
theorem dX8_addStep_7 : decode cX8_addStep 7 = .ok (.lload_n 1, 1) := by decide +kernel
theorem dX8_addStep_8 : decode cX8_addStep 8 = .ok (.lload 5, 2) := by decide +kernel
theorem dX8_addStep_10 : decode cX8_addStep 10 = .ok (.ldiv, 1) := by decide +kernel
theorem dX8_addStep_11 : decode cX8_addStep 11 = .ok (.lstore 7, 2) := by decide +kernel
theorem dX8_addStep_13 : decode cX8_addStep 13 = .ok (.lload_n 3, 1) := by decide +kernel
theorem dX8_addStep_14 : decode cX8_addStep 14 = .ok (.lload 5, 2) := by decide +kernel
theorem dX8_addStep_16 : decode cX8_addStep 16 = .ok (.ldiv, 1) := by decide +kernel
theorem dX8_addStep_17 : decode cX8_addStep 17 = .ok (.lstore 9, 2) := by decide +kernel
theorem dX8_addStep_19 : decode cX8_addStep 19 = .ok (.lload 7, 2) := by decide +kernel
theorem dX8_addStep_21 : decode cX8_addStep 21 = .ok (.lconst 0, 1) := by decide +kernel
theorem dX8_addStep_22 : decode cX8_addStep 22 = .ok (.lcmp, 1) := by decide +kernel
theorem dX8_addStep_23 : decode cX8_addStep 23 = .ok (.ifCond .gt 17, 3) := by decide +kernel
theorem dX8_addStep_26 : decode cX8_addStep 26 = .ok (.lload 7, 2) := by decide +kernel
theorem dX8_addStep_28 : decode cX8_addStep 28 = .ok (.lconst 0, 1) := by decide +kernel
theorem dX8_addStep_29 : decode cX8_addStep 29 = .ok (.lcmp, 1) := by decide +kernel
theorem dX8_addStep_30 : decode cX8_addStep 30 = .ok (.ifCond .ne 14, 3) := by decide +kernel
theorem dX8_addStep_33 : decode cX8_addStep 33 = .ok (.lload 9, 2) := by decide +kernel
theorem dX8_addStep_35 : decode cX8_addStep 35 = .ok (.lconst 0, 1) := by decide +kernel
theorem dX8_addStep_36 : decode cX8_addStep 36 = .ok (.lcmp, 1) := by decide +kernel
theorem dX8_addStep_37 : decode cX8_addStep 37 = .ok (.ifCond .le 7, 3) := by decide +kernel
theorem dX8_addStep_40 : decode cX8_addStep 40 = .ok (.iconst 1, 1) := by decide +kernel
theorem dX8_addStep_41 : decode cX8_addStep 41 = .ok (.goto 4, 3) := by decide +kernel
theorem dX8_addStep_44 : decode cX8_addStep 44 = .ok (.iconst 0, 1) := by decide +kernel
theorem dX8_addStep_45 : decode cX8_addStep 45 = .ok (.istore 11, 2) := by decide +kernel
theorem dX8_addStep_47 : decode cX8_addStep 47 = .ok (.iload 11, 2) := by decide +kernel
theorem dX8_addStep_49 : decode cX8_addStep 49 = .ok (.ifCond .eq 8, 3) := by decide +kernel
theorem dX8_addStep_52 : decode cX8_addStep 52 = .ok (.lload 7, 2) := by decide +kernel
theorem dX8_addStep_54 : decode cX8_addStep 54 = .ok (.goto 6, 3) := by decide +kernel
theorem dX8_addStep_57 : decode cX8_addStep 57 = .ok (.lload 7, 2) := by decide +kernel
theorem dX8_addStep_59 : decode cX8_addStep 59 = .ok (.lneg, 1) := by decide +kernel
theorem dX8_addStep_60 : decode cX8_addStep 60 = .ok (.lstore 12, 2) := by decide +kernel
theorem dX8_addStep_62 : decode cX8_addStep 62 = .ok (.iload 11, 2) := by decide +kernel
theorem dX8_addStep_64 : decode cX8_addStep 64 = .ok (.ifCond .eq 8, 3) := by decide +kernel
theorem dX8_addStep_67 : decode cX8_addStep 67 = .ok (.lload 9, 2) := by decide +kernel
theorem dX8_addStep_69 : decode cX8_addStep 69 = .ok (.goto 6, 3) := by decide +kernel
theorem dX8_addStep_72 : decode cX8_addStep 72 = .ok (.lload 9, 2) := by decide +kernel
theorem dX8_addStep_74 : decode cX8_addStep 74 = .ok (.lneg, 1) := by decide +kernel
theorem dX8_addStep_75 : decode cX8_addStep 75 = .ok (.lstore 14, 2) := by decide +kernel
theorem dX8_addStep_77 : decode cX8_addStep 77 = .ok (.iconst 0, 1) := by decide +kernel
theorem dX8_addStep_78 : decode cX8_addStep 78 = .ok (.istore 16, 2) := by decide +kernel
theorem dX8_addStep_80 : decode cX8_addStep 80 = .ok (.iload 16, 2) := by decide +kernel
theorem dX8_addStep_82 : decode cX8_addStep 82 = .ok (.aload_n 0, 1) := by decide +kernel
theorem dX8_addStep_83 : decode cX8_addStep 83 = .ok (.getfield 306, 3) := by decide +kernel
theorem dX8_addStep_86 : decode cX8_addStep 86 = .ok (.if_icmp .ge 35, 3) := by decide +kernel
theorem dX8_addStep_89 : decode cX8_addStep 89 = .ok (.aload_n 0, 1) := by decide +kernel
theorem dX8_addStep_90 : decode cX8_addStep 90 = .ok (.getfield 72, 3) := by decide +kernel
theorem dX8_addStep_93 : decode cX8_addStep 93 = .ok (.iload 16, 2) := by decide +kernel
theorem dX8_addStep_95 : decode cX8_addStep 95 = .ok (.laload, 1) := by decide +kernel
theorem dX8_addStep_96 : decode cX8_addStep 96 = .ok (.lload 12, 2) := by decide +kernel
theorem dX8_addStep_98 : decode cX8_addStep 98 = .ok (.lcmp, 1) := by decide +kernel
theorem dX8_addStep_99 : decode cX8_addStep 99 = .ok (.ifCond .ne 16, 3) := by decide +kernel
theorem dX8_addStep_102 : decode cX8_addStep 102 = .ok (.aload_n 0, 1) := by decide +kernel
theorem dX8_addStep_103 : decode cX8_addStep 103 = .ok (.getfield 75, 3) := by decide +kernel
theorem dX8_addStep_106 : decode cX8_addStep 106 = .ok (.iload 16, 2) := by decide +kernel
theorem dX8_addStep_108 : decode cX8_addStep 108 = .ok (.laload, 1) := by decide +kernel
theorem dX8_addStep_109 : decode cX8_addStep 109 = .ok (.lload 14, 2) := by decide +kernel
theorem dX8_addStep_111 : decode cX8_addStep 111 = .ok (.lcmp, 1) := by decide +kernel
theorem dX8_addStep_112 : decode cX8_addStep 112 = .ok (.ifCond .eq 9, 3) := by decide +kernel
theorem dX8_addStep_115 : decode cX8_addStep 115 = .ok (.iinc 16 1, 3) := by decide +kernel
theorem dX8_addStep_118 : decode cX8_addStep 118 = .ok (.goto (-38), 3) := by decide +kernel
theorem dX8_addStep_121 : decode cX8_addStep 121 = .ok (.iload 16, 2) := by decide +kernel
theorem dX8_addStep_123 : decode cX8_addStep 123 = .ok (.aload_n 0, 1) := by decide +kernel
theorem dX8_addStep_124 : decode cX8_addStep 124 = .ok (.getfield 306, 3) := by decide +kernel
theorem dX8_addStep_127 : decode cX8_addStep 127 = .ok (.if_icmp .ne 39, 3) := by decide +kernel
theorem dX8_addStep_130 : decode cX8_addStep 130 = .ok (.aload_n 0, 1) := by decide +kernel
theorem dX8_addStep_131 : decode cX8_addStep 131 = .ok (.getfield 72, 3) := by decide +kernel
theorem dX8_addStep_134 : decode cX8_addStep 134 = .ok (.iload 16, 2) := by decide +kernel
theorem dX8_addStep_136 : decode cX8_addStep 136 = .ok (.lload 12, 2) := by decide +kernel
theorem dX8_addStep_138 : decode cX8_addStep 138 = .ok (.lastore, 1) := by decide +kernel
theorem dX8_addStep_139 : decode cX8_addStep 139 = .ok (.aload_n 0, 1) := by decide +kernel
theorem dX8_addStep_140 : decode cX8_addStep 140 = .ok (.getfield 75, 3) := by decide +kernel
theorem dX8_addStep_143 : decode cX8_addStep 143 = .ok (.iload 16, 2) := by decide +kernel
theorem dX8_addStep_145 : decode cX8_addStep 145 = .ok (.lload 14, 2) := by decide +kernel
theorem dX8_addStep_147 : decode cX8_addStep 147 = .ok (.lastore, 1) := by decide +kernel
theorem dX8_addStep_148 : decode cX8_addStep 148 = .ok (.aload_n 0, 1) := by decide +kernel
theorem dX8_addStep_149 : decode cX8_addStep 149 = .ok (.getfield 78, 3) := by decide +kernel
theorem dX8_addStep_152 : decode cX8_addStep 152 = .ok (.iload 16, 2) := by decide +kernel
theorem dX8_addStep_154 : decode cX8_addStep 154 = .ok (.lconst 0, 1) := by decide +kernel
theorem dX8_addStep_155 : decode cX8_addStep 155 = .ok (.lastore, 1) := by decide +kernel
theorem dX8_addStep_156 : decode cX8_addStep 156 = .ok (.aload_n 0, 1) := by decide +kernel
theorem dX8_addStep_157 : decode cX8_addStep 157 = .ok (.dup, 1) := by decide +kernel
theorem dX8_addStep_158 : decode cX8_addStep 158 = .ok (.getfield 306, 3) := by decide +kernel
theorem dX8_addStep_161 : decode cX8_addStep 161 = .ok (.iconst 1, 1) := by decide +kernel
theorem dX8_addStep_162 : decode cX8_addStep 162 = .ok (.iadd, 1) := by decide +kernel
theorem dX8_addStep_163 : decode cX8_addStep 163 = .ok (.putfield 306, 3) := by decide +kernel
theorem dX8_addStep_166 : decode cX8_addStep 166 = .ok (.aload_n 0, 1) := by decide +kernel
theorem dX8_addStep_167 : decode cX8_addStep 167 = .ok (.getfield 78, 3) := by decide +kernel
theorem dX8_addStep_170 : decode cX8_addStep 170 = .ok (.iload 16, 2) := by decide +kernel
theorem dX8_addStep_172 : decode cX8_addStep 172 = .ok (.dup2, 1) := by decide +kernel
theorem dX8_addStep_173 : decode cX8_addStep 173 = .ok (.laload, 1) := by decide +kernel
theorem dX8_addStep_174 : decode cX8_addStep 174 = .ok (.iload 11, 2) := by decide +kernel
theorem dX8_addStep_176 : decode cX8_addStep 176 = .ok (.ifCond .eq 8, 3) := by decide +kernel
theorem dX8_addStep_179 : decode cX8_addStep 179 = .ok (.lload 5, 2) := by decide +kernel
theorem dX8_addStep_181 : decode cX8_addStep 181 = .ok (.goto 6, 3) := by decide +kernel
theorem dX8_addStep_184 : decode cX8_addStep 184 = .ok (.lload 5, 2) := by decide +kernel
theorem dX8_addStep_186 : decode cX8_addStep 186 = .ok (.lneg, 1) := by decide +kernel
theorem dX8_addStep_187 : decode cX8_addStep 187 = .ok (.ladd, 1) := by decide +kernel
theorem dX8_addStep_188 : decode cX8_addStep 188 = .ok (.lastore, 1) := by decide +kernel
theorem dX8_addStep_189 : decode cX8_addStep 189 = .ok (.return_, 1) := by decide +kernel
set_option maxHeartbeats 4000000 in
set_option maxRecDepth 100000 in
theorem tX8_addStep (l : Launch) (G : Gg) (b0 : Nat) {K : Kk} {R : Rr} {M : Mm} {r : Nat} {a0 : Int64} {a1 : Int64} {M' : Mm} (hm : mX8_addStep K R M r a0 a1 = some (M')) : CT l G b0 yX8_addStep cX8_addStep 17 none (rmz 2 29) [.ref r, .long a0, .long a1] K R M none K R M' := by
  refine ct_of (by decide +kernel) (Nat.le_of_ble_eq_true rfl) (fun w hq => ?_)
  have hw := hq.b
  change w 0 0 0 [(0, .ref r), (1, .long a0), (3, .long a1)] [] K R M
  replace hm := h_start hm
  unfold mX8_addStep at hm
  obtain ⟨h1, m76⟩ := h_ck hm
  clear hm
  have J187 : ∀ (M6 : Mm) (s2 : Nat) (s3 : Int32) (s4 : Int64) (s5 : Int64), (mX8_addStep_J187 K R M6 s2 s3 s4 s5).bind some = some (M') → w 0 0 187 [] [.long s5, .long s4, .int s3, .ref s2] K R M6 := by
    intro M6 s2 s3 s4 s5 m77
    unfold mX8_addStep_J187 at m77
    refine r_ladd hw dX8_addStep_187 ?_
    obtain ⟨h7, m78⟩ := h_ck m77
    clear m77
    obtain ⟨M8, eM8, m79⟩ := h_nm m78
    clear m78
    refine r_lastore hw h7 dX8_addStep_188 (r_mem ?_ rfl eM8)
    cases h_ret m79
    exact r_return hq rfl rfl dX8_addStep_189
  have J166 : ∀ (M12 : Mm) (l9 : Int64) (i10 : Int32) (i11 : Int32), (mX8_addStep_J166 K R M12 r l9 i10 i11).bind some = some (M') → w 0 0 166 [(0, .ref r), (5, .long l9), (11, .int i10), (16, .int i11)] [] K R M12 := by
    intro M12 l9 i10 i11 m80
    unfold mX8_addStep_J166 at m80
    refine r_aload_n hw dX8_addStep_166 0 rfl ?_
    obtain ⟨q13, bq13, m81⟩ := h_bd m80
    clear m80
    refine r_getR hw fO_X8_78 h1 bq13 dX8_addStep_167 ?_
    refine r_iload hw dX8_addStep_170 3 rfl ?_
    refine r_dup2 hw dX8_addStep_172 rfl rfl ?_
    obtain ⟨h14, m82⟩ := h_ck m81
    clear m81
    refine r_laload hw h14 dX8_addStep_173 ?_
    refine r_iload hw dX8_addStep_174 2 rfl ?_
    refine r_if_eq (tgt := 184) hw dX8_addStep_176 (by decide) (fun c15 => ?_) (fun c15 => ?_)
    · have m83 := h_if_t c15 m82
      clear m82
      refine r_lload hw dX8_addStep_184 1 rfl ?_
      refine r_lneg hw dX8_addStep_186 ?_
      refine r_sub hw [] rfl ?_
      exact J187 _ _ _ _ _ m83
    · have m84 := h_if_f c15 m82
      clear m82
      refine r_lload hw dX8_addStep_179 1 rfl ?_
      refine r_goto (tgt := 187) hw dX8_addStep_181 (by decide) ?_
      refine r_sub hw [] rfl ?_
      exact J187 _ _ _ _ _ m84
  have J121 : ∀ (M21 : Mm) (l16 : Int64) (i17 : Int32) (l18 : Int64) (l19 : Int64) (i20 : Int32), (mX8_addStep_J121 K R M21 r l16 i17 l18 l19 i20).bind some = some (M') → w 0 0 121 [(0, .ref r), (5, .long l16), (11, .int i17), (12, .long l18), (14, .long l19), (16, .int i20)] [] K R M21 := by
    intro M21 l16 i17 l18 l19 i20 m85
    unfold mX8_addStep_J121 at m85
    refine r_iload hw dX8_addStep_121 5 rfl ?_
    refine r_aload_n hw dX8_addStep_123 0 rfl ?_
    refine r_getI hw fO_X8_306 h1 dX8_addStep_124 ?_
    refine r_icmp_ne (tgt := 166) hw dX8_addStep_127 (by decide) (fun c22 => ?_) (fun c22 => ?_)
    · have m86 := h_if_f c22 m85
      clear m85
      refine r_sub hw [0, 1, 2, 5] rfl ?_
      exact J166 _ _ _ _ m86
    · have m87 := h_if_t c22 m85
      clear m85
      refine r_aload_n hw dX8_addStep_130 0 rfl ?_
      obtain ⟨q23, bq23, m88⟩ := h_bd m87
      clear m87
      refine r_getR hw fO_X8_72 h1 bq23 dX8_addStep_131 ?_
      refine r_iload hw dX8_addStep_134 5 rfl ?_
      refine r_lload hw dX8_addStep_136 3 rfl ?_
      obtain ⟨h24, m89⟩ := h_ck m88
      clear m88
      obtain ⟨M25, eM25, m90⟩ := h_nm m89
      clear m89
      refine r_lastore hw h24 dX8_addStep_138 (r_mem ?_ rfl eM25)
      refine r_aload_n hw dX8_addStep_139 0 rfl ?_
      obtain ⟨q26, bq26, m91⟩ := h_bd m90
      clear m90
      refine r_getR hw fO_X8_75 h1 bq26 dX8_addStep_140 ?_
      refine r_iload hw dX8_addStep_143 5 rfl ?_
      refine r_lload hw dX8_addStep_145 4 rfl ?_
      obtain ⟨h27, m92⟩ := h_ck m91
      clear m91
      obtain ⟨M28, eM28, m93⟩ := h_nm m92
      clear m92
      refine r_lastore hw h27 dX8_addStep_147 (r_mem ?_ rfl eM28)
      refine r_aload_n hw dX8_addStep_148 0 rfl ?_
      obtain ⟨q29, bq29, m94⟩ := h_bd m93
      clear m93
      refine r_getR hw fO_X8_78 h1 bq29 dX8_addStep_149 ?_
      refine r_iload hw dX8_addStep_152 5 rfl ?_
      refine r_lconst (v := 0) hw dX8_addStep_154 rfl ?_
      obtain ⟨h30, m95⟩ := h_ck m94
      clear m94
      obtain ⟨M31, eM31, m96⟩ := h_nm m95
      clear m95
      refine r_lastore hw h30 dX8_addStep_155 (r_mem ?_ rfl eM31)
      refine r_aload_n hw dX8_addStep_156 0 rfl ?_
      refine r_dup hw dX8_addStep_157 rfl ?_
      refine r_getI hw fO_X8_306 h1 dX8_addStep_158 ?_
      refine r_iconst (v := 1) hw dX8_addStep_161 rfl ?_
      refine r_iadd hw dX8_addStep_162 ?_
      obtain ⟨M32, eM32, m97⟩ := h_nm m96
      clear m96
      refine r_putI hw fP_X8_306 h1 dX8_addStep_163 (r_mem ?_ rfl eM32)
      refine r_sub hw [0, 1, 2, 5] rfl ?_
      exact J166 _ _ _ _ m97
  have J75 : ∀ (M37 : Mm) (l33 : Int64) (i34 : Int32) (l35 : Int64) (s36 : Int64), (mX8_addStep_J75 K R M37 r l33 i34 l35 s36).bind some = some (M') → w 0 0 75 [(0, .ref r), (5, .long l33), (11, .int i34), (12, .long l35)] [.long s36] K R M37 := by
    intro M37 l33 i34 l35 s36 m98
    unfold mX8_addStep_J75 at m98
    refine r_lstore hw dX8_addStep_75 (by decide) rfl ?_
    refine r_iconst (v := 0) hw dX8_addStep_77 rfl ?_
    obtain ⟨i38, ei38, m99⟩ := h_nm m98
    clear m98
    refine r_topI (w := w) ei38 ?_
    refine r_istore hw dX8_addStep_78 (by decide) rfl ?_
    refine r_sub hw [2, 3, 4, 5, 1, 0] rfl ?_
    obtain ⟨v80, n080, hn80, hv80⟩ := h_lp m99
    clear m99
    have L80 : ∀ n : Nat, ∀ (i39 : Int32), it (mX8_addStep_L80 K R M37 r l33 i34 l35 s36) n (i39) = some v80 → w 0 0 80 [(0, .ref r), (5, .long l33), (11, .int i34), (12, .long l35), (14, .long s36), (16, .int i39)] [] K R M37 := by
      intro n80
      induction n80 with
      | zero => intro i39 hz; exact absurd hz h_it0
      | succ n80 ih80 =>
        intro i39 m100
        replace m100 : (mX8_addStep_B80 K R M37 r l33 i34 l35 s36 i39).bind (Sum.elim (it (mX8_addStep_L80 K R M37 r l33 i34 l35 s36) n80) some) = some v80 := m100
        unfold mX8_addStep_B80 at m100
        have J115 : ∀ (i40 : Int32), (mX8_addStep_J115 K R M37 r l33 i34 l35 s36 i40).bind (Sum.elim (it (mX8_addStep_L80 K R M37 r l33 i34 l35 s36) n80) some) = some v80 → w 0 0 115 [(0, .ref r), (5, .long l33), (11, .int i34), (12, .long l35), (14, .long s36), (16, .int i40)] [] K R M37 := by
          intro i40 m101
          unfold mX8_addStep_J115 at m101
          obtain ⟨i41, ei41, m102⟩ := h_nm m101
          clear m101
          refine r_iinc (j := 5) (v := i41) hw dX8_addStep_115 rfl (by rw [ei41]; rfl) (by decide) rfl ?_
          refine r_goto (tgt := 80) hw dX8_addStep_118 (by decide) ?_
          refine r_sub hw [1, 2, 3, 4, 5, 0] rfl ?_
          exact ih80 _ m102
        refine r_iload hw dX8_addStep_80 5 rfl ?_
        refine r_aload_n hw dX8_addStep_82 0 rfl ?_
        refine r_getI hw fO_X8_306 h1 dX8_addStep_83 ?_
        refine r_icmp_ge (tgt := 121) hw dX8_addStep_86 (by decide) (fun c42 => ?_) (fun c42 => ?_)
        · have m103 := h_if_f c42 m100
          clear m100
          have m104 := h_ex m103 hv80
          clear m103
          exact J121 _ _ _ _ _ _ m104
        · have m105 := h_if_t c42 m100
          clear m100
          refine r_aload_n hw dX8_addStep_89 0 rfl ?_
          obtain ⟨q43, bq43, m106⟩ := h_bd m105
          clear m105
          refine r_getR hw fO_X8_72 h1 bq43 dX8_addStep_90 ?_
          refine r_iload hw dX8_addStep_93 5 rfl ?_
          obtain ⟨h44, m107⟩ := h_ck m106
          clear m106
          refine r_laload hw h44 dX8_addStep_95 ?_
          refine r_lload hw dX8_addStep_96 3 rfl ?_
          refine r_lcmp_ne (tgt := 115) hw dX8_addStep_98 dX8_addStep_99 (by decide) (fun c45 => ?_) (fun c45 => ?_)
          · have m108 := h_if_f c45 m107
            clear m107
            exact J115 _ m108
          · have m109 := h_if_t c45 m107
            clear m107
            refine r_aload_n hw dX8_addStep_102 0 rfl ?_
            obtain ⟨q46, bq46, m110⟩ := h_bd m109
            clear m109
            refine r_getR hw fO_X8_75 h1 bq46 dX8_addStep_103 ?_
            refine r_iload hw dX8_addStep_106 5 rfl ?_
            obtain ⟨h47, m111⟩ := h_ck m110
            clear m110
            refine r_laload hw h47 dX8_addStep_108 ?_
            refine r_lload hw dX8_addStep_109 4 rfl ?_
            refine r_lcmp_eq (tgt := 121) hw dX8_addStep_111 dX8_addStep_112 (by decide) (fun c48 => ?_) (fun c48 => ?_)
            · have m112 := h_if_t c48 m111
              clear m111
              have m113 := h_ex m112 hv80
              clear m112
              exact J121 _ _ _ _ _ _ m113
            · have m114 := h_if_f c48 m111
              clear m111
              exact J115 _ m114
    exact L80 n080 _ hn80
  have J60 : ∀ (M53 : Mm) (l49 : Int64) (l50 : Int64) (i51 : Int32) (s52 : Int64), (mX8_addStep_J60 K R M53 r l49 l50 i51 s52).bind some = some (M') → w 0 0 60 [(0, .ref r), (5, .long l49), (9, .long l50), (11, .int i51)] [.long s52] K R M53 := by
    intro M53 l49 l50 i51 s52 m115
    unfold mX8_addStep_J60 at m115
    refine r_lstore hw dX8_addStep_60 (by decide) rfl ?_
    refine r_iload hw dX8_addStep_62 4 rfl ?_
    refine r_if_eq (tgt := 72) hw dX8_addStep_64 (by decide) (fun c54 => ?_) (fun c54 => ?_)
    · have m116 := h_if_t c54 m115
      clear m115
      refine r_lload hw dX8_addStep_72 3 rfl ?_
      refine r_lneg hw dX8_addStep_74 ?_
      refine r_sub hw [1, 2, 4, 0] rfl ?_
      exact J75 _ _ _ _ _ m116
    · have m117 := h_if_f c54 m115
      clear m115
      refine r_lload hw dX8_addStep_67 3 rfl ?_
      refine r_goto (tgt := 75) hw dX8_addStep_69 (by decide) ?_
      refine r_sub hw [1, 2, 4, 0] rfl ?_
      exact J75 _ _ _ _ _ m117
  have J45 : ∀ (M59 : Mm) (l55 : Int64) (l56 : Int64) (l57 : Int64) (s58 : Int32), (mX8_addStep_J45 K R M59 r l55 l56 l57 s58).bind some = some (M') → w 0 0 45 [(0, .ref r), (5, .long l55), (7, .long l56), (9, .long l57)] [.int s58] K R M59 := by
    intro M59 l55 l56 l57 s58 m118
    unfold mX8_addStep_J45 at m118
    refine r_istore hw dX8_addStep_45 (by decide) rfl ?_
    refine r_iload hw dX8_addStep_47 0 rfl ?_
    refine r_if_eq (tgt := 57) hw dX8_addStep_49 (by decide) (fun c60 => ?_) (fun c60 => ?_)
    · have m119 := h_if_t c60 m118
      clear m118
      refine r_lload hw dX8_addStep_57 3 rfl ?_
      refine r_lneg hw dX8_addStep_59 ?_
      refine r_sub hw [1, 2, 4, 0] rfl ?_
      exact J60 _ _ _ _ _ m119
    · have m120 := h_if_f c60 m118
      clear m118
      refine r_lload hw dX8_addStep_52 3 rfl ?_
      refine r_goto (tgt := 60) hw dX8_addStep_54 (by decide) ?_
      refine r_sub hw [1, 2, 4, 0] rfl ?_
      exact J60 _ _ _ _ _ m120
  have J44 : ∀ (M64 : Mm) (l61 : Int64) (l62 : Int64) (l63 : Int64), (mX8_addStep_J44 K R M64 r l61 l62 l63).bind some = some (M') → w 0 0 44 [(0, .ref r), (5, .long l61), (7, .long l62), (9, .long l63)] [] K R M64 := by
    intro M64 l61 l62 l63 m121
    unfold mX8_addStep_J44 at m121
    refine r_iconst (v := 0) hw dX8_addStep_44 rfl ?_
    exact J45 _ _ _ _ _ m121
  have J40 : ∀ (M68 : Mm) (l65 : Int64) (l66 : Int64) (l67 : Int64), (mX8_addStep_J40 K R M68 r l65 l66 l67).bind some = some (M') → w 0 0 40 [(0, .ref r), (5, .long l65), (7, .long l66), (9, .long l67)] [] K R M68 := by
    intro M68 l65 l66 l67 m122
    unfold mX8_addStep_J40 at m122
    refine r_iconst (v := 1) hw dX8_addStep_40 rfl ?_
    refine r_goto (tgt := 45) hw dX8_addStep_41 (by decide) ?_
    exact J45 _ _ _ _ _ m122
  refine r_lload_n hw dX8_addStep_0 1 rfl ?_
  refine r_lload_n hw dX8_addStep_1 2 rfl ?_
  obtain ⟨l69, g69, m123⟩ := h_bd m76
  clear m76
  refine r_callS1 hw (tX8_common l G b0 g69) lB_X8_common sT_X8_common mL_X8_303 rfl rfl (Nat.le_of_ble_eq_true rfl) (Nat.le_of_ble_eq_true rfl) rfl (Nat.le_of_ble_eq_true rfl) dX8_addStep_2 ?_
  refine r_lstore hw dX8_addStep_5 (by decide) rfl ?_
  refine r_lload_n hw dX8_addStep_7 2 rfl ?_
  refine r_lload hw dX8_addStep_8 0 rfl ?_
  obtain ⟨h70, m124⟩ := h_ck m123
  clear m123
  refine r_ldiv hw dX8_addStep_10 h70 ?_
  obtain ⟨l71, el71, m125⟩ := h_nm m124
  clear m124
  refine r_topL (w := w) el71 ?_
  refine r_lstore hw dX8_addStep_11 (by decide) rfl ?_
  refine r_lload_n hw dX8_addStep_13 4 rfl ?_
  refine r_lload hw dX8_addStep_14 1 rfl ?_
  refine r_ldiv hw dX8_addStep_16 h70 ?_
  obtain ⟨l72, el72, m126⟩ := h_nm m125
  clear m125
  refine r_topL (w := w) el72 ?_
  refine r_lstore hw dX8_addStep_17 (by decide) rfl ?_
  refine r_lload hw dX8_addStep_19 1 rfl ?_
  refine r_lconst (v := 0) hw dX8_addStep_21 rfl ?_
  refine r_lcmp_gt (tgt := 40) hw dX8_addStep_22 dX8_addStep_23 (by decide) (fun c73 => ?_) (fun c73 => ?_)
  · have m127 := h_if_f c73 m126
    clear m126
    refine r_sub hw [3, 2, 1, 0] rfl ?_
    exact J40 _ _ _ _ m127
  · have m128 := h_if_t c73 m126
    clear m126
    refine r_lload hw dX8_addStep_26 1 rfl ?_
    refine r_lconst (v := 0) hw dX8_addStep_28 rfl ?_
    refine r_lcmp_ne (tgt := 44) hw dX8_addStep_29 dX8_addStep_30 (by decide) (fun c74 => ?_) (fun c74 => ?_)
    · have m129 := h_if_f c74 m128
      clear m128
      refine r_sub hw [3, 2, 1, 0] rfl ?_
      exact J44 _ _ _ _ m129
    · have m130 := h_if_t c74 m128
      clear m128
      refine r_lload hw dX8_addStep_33 0 rfl ?_
      refine r_lconst (v := 0) hw dX8_addStep_35 rfl ?_
      refine r_lcmp_le (tgt := 44) hw dX8_addStep_36 dX8_addStep_37 (by decide) (fun c75 => ?_) (fun c75 => ?_)
      · have m131 := h_if_t c75 m130
        clear m130
        refine r_sub hw [3, 2, 1, 0] rfl ?_
        exact J44 _ _ _ _ m131
      · have m132 := h_if_f c75 m130
        clear m130
        refine r_sub hw [3, 2, 1, 0] rfl ?_
        exact J40 _ _ _ _ m132
theorem dX8_addAll_0 : decode cX8_addAll 0 = .ok (.aload_n 0, 1) := by decide +kernel
theorem dX8_addAll_1 : decode cX8_addAll 1 = .ok (.iconst 0, 1) := by decide +kernel
theorem dX8_addAll_2 : decode cX8_addAll 2 = .ok (.putfield 306, 3) := by decide +kernel
theorem dX8_addAll_5 : decode cX8_addAll 5 = .ok (.iconst 0, 1) := by decide +kernel
theorem dX8_addAll_6 : decode cX8_addAll 6 = .ok (.istore_n 1, 1) := by decide +kernel
theorem dX8_addAll_7 : decode cX8_addAll 7 = .ok (.iload_n 1, 1) := by decide +kernel
theorem dX8_addAll_8 : decode cX8_addAll 8 = .ok (.aload_n 0, 1) := by decide +kernel
theorem dX8_addAll_9 : decode cX8_addAll 9 = .ok (.invokevirtual 99, 3) := by decide +kernel
theorem dX8_addAll_12 : decode cX8_addAll 12 = .ok (.if_icmp .ge 77, 3) := by decide +kernel
theorem dX8_addAll_15 : decode cX8_addAll 15 = .ok (.aload_n 0, 1) := by decide +kernel
theorem dX8_addAll_16 : decode cX8_addAll 16 = .ok (.iload_n 1, 1) := by decide +kernel
theorem dX8_addAll_17 : decode cX8_addAll 17 = .ok (.invokevirtual 287, 3) := by decide +kernel
theorem dX8_addAll_20 : decode cX8_addAll 20 = .ok (.ifCond .eq 63, 3) := by decide +kernel
theorem dX8_addAll_23 : decode cX8_addAll 23 = .ok (.aload_n 0, 1) := by decide +kernel
theorem dX8_addAll_24 : decode cX8_addAll 24 = .ok (.iload_n 1, 1) := by decide +kernel
theorem dX8_addAll_25 : decode cX8_addAll 25 = .ok (.invokevirtual 149, 3) := by decide +kernel
theorem dX8_addAll_28 : decode cX8_addAll 28 = .ok (.iconst 0, 1) := by decide +kernel
theorem dX8_addAll_29 : decode cX8_addAll 29 = .ok (.istore_n 2, 1) := by decide +kernel
theorem dX8_addAll_30 : decode cX8_addAll 30 = .ok (.iload_n 2, 1) := by decide +kernel
theorem dX8_addAll_31 : decode cX8_addAll 31 = .ok (.aload_n 0, 1) := by decide +kernel
theorem dX8_addAll_32 : decode cX8_addAll 32 = .ok (.getfield 146, 3) := by decide +kernel
theorem dX8_addAll_35 : decode cX8_addAll 35 = .ok (.if_icmp .ge 48, 3) := by decide +kernel
theorem dX8_addAll_38 : decode cX8_addAll 38 = .ok (.iload_n 2, 1) := by decide +kernel
theorem dX8_addAll_39 : decode cX8_addAll 39 = .ok (.iconst 1, 1) := by decide +kernel
theorem dX8_addAll_40 : decode cX8_addAll 40 = .ok (.iadd, 1) := by decide +kernel
theorem dX8_addAll_41 : decode cX8_addAll 41 = .ok (.aload_n 0, 1) := by decide +kernel
theorem dX8_addAll_42 : decode cX8_addAll 42 = .ok (.getfield 146, 3) := by decide +kernel
theorem dX8_addAll_45 : decode cX8_addAll 45 = .ok (.irem, 1) := by decide +kernel
theorem dX8_addAll_46 : decode cX8_addAll 46 = .ok (.istore_n 3, 1) := by decide +kernel
theorem dX8_addAll_47 : decode cX8_addAll 47 = .ok (.aload_n 0, 1) := by decide +kernel
theorem dX8_addAll_48 : decode cX8_addAll 48 = .ok (.aload_n 0, 1) := by decide +kernel
theorem dX8_addAll_49 : decode cX8_addAll 49 = .ok (.getfield 42, 3) := by decide +kernel
theorem dX8_addAll_52 : decode cX8_addAll 52 = .ok (.iload_n 3, 1) := by decide +kernel
theorem dX8_addAll_53 : decode cX8_addAll 53 = .ok (.laload, 1) := by decide +kernel
theorem dX8_addAll_54 : decode cX8_addAll 54 = .ok (.aload_n 0, 1) := by decide +kernel
theorem dX8_addAll_55 : decode cX8_addAll 55 = .ok (.getfield 42, 3) := by decide +kernel
theorem dX8_addAll_58 : decode cX8_addAll 58 = .ok (.iload_n 2, 1) := by decide +kernel
theorem dX8_addAll_59 : decode cX8_addAll 59 = .ok (.laload, 1) := by decide +kernel
theorem dX8_addAll_60 : decode cX8_addAll 60 = .ok (.lsub, 1) := by decide +kernel
theorem dX8_addAll_61 : decode cX8_addAll 61 = .ok (.aload_n 0, 1) := by decide +kernel
theorem dX8_addAll_62 : decode cX8_addAll 62 = .ok (.getfield 45, 3) := by decide +kernel
theorem dX8_addAll_65 : decode cX8_addAll 65 = .ok (.iload_n 3, 1) := by decide +kernel
theorem dX8_addAll_66 : decode cX8_addAll 66 = .ok (.laload, 1) := by decide +kernel
theorem dX8_addAll_67 : decode cX8_addAll 67 = .ok (.aload_n 0, 1) := by decide +kernel
theorem dX8_addAll_68 : decode cX8_addAll 68 = .ok (.getfield 45, 3) := by decide +kernel
theorem dX8_addAll_71 : decode cX8_addAll 71 = .ok (.iload_n 2, 1) := by decide +kernel
theorem dX8_addAll_72 : decode cX8_addAll 72 = .ok (.laload, 1) := by decide +kernel
theorem dX8_addAll_73 : decode cX8_addAll 73 = .ok (.lsub, 1) := by decide +kernel
theorem dX8_addAll_74 : decode cX8_addAll 74 = .ok (.invokevirtual 309, 3) := by decide +kernel
theorem dX8_addAll_77 : decode cX8_addAll 77 = .ok (.iinc 2 1, 3) := by decide +kernel
theorem dX8_addAll_80 : decode cX8_addAll 80 = .ok (.goto (-50), 3) := by decide +kernel
theorem dX8_addAll_83 : decode cX8_addAll 83 = .ok (.iinc 1 1, 3) := by decide +kernel
theorem dX8_addAll_86 : decode cX8_addAll 86 = .ok (.goto (-79), 3) := by decide +kernel
theorem dX8_addAll_89 : decode cX8_addAll 89 = .ok (.return_, 1) := by decide +kernel
set_option maxHeartbeats 4000000 in
set_option maxRecDepth 100000 in
theorem tX8_addAll (l : Launch) (G : Gg) (b0 : Nat) {K : Kk} {R : Rr} {M : Mm} {r : Nat} {M' : Mm} (hm : mX8_addAll K R M r = some (M')) : CT l G b0 yX8_addAll cX8_addAll 4 none (rmz 5 109) [.ref r] K R M none K R M' := by
  refine ct_of (by decide +kernel) (Nat.le_of_ble_eq_true rfl) (fun w hq => ?_)
  have hw := hq.b
  change w 0 0 0 [(0, .ref r)] [] K R M
  replace hm := h_start hm
  unfold mX8_addAll at hm
  obtain ⟨h1, m28⟩ := h_ck hm
  clear hm
  refine r_aload_n hw dX8_addAll_0 0 rfl ?_
  refine r_iconst (v := 0) hw dX8_addAll_1 rfl ?_
  obtain ⟨M2, eM2, m29⟩ := h_nm m28
  clear m28
  refine r_putI hw fP_X8_306 h1 dX8_addAll_2 (r_mem ?_ rfl eM2)
  refine r_iconst (v := 0) hw dX8_addAll_5 rfl ?_
  obtain ⟨i3, ei3, m30⟩ := h_nm m29
  clear m29
  refine r_topI (w := w) ei3 ?_
  refine r_istore_n hw dX8_addAll_6 rfl (by decide) rfl ?_
  refine r_sub hw [1, 0] rfl ?_
  obtain ⟨v7, n07, hn7, hv7⟩ := h_lp m30
  clear m30
  have L7 : ∀ n : Nat, ∀ (i4 : Int32) (M5 : Mm), it (mX8_addAll_L7 K R r) n (i4, M5) = some v7 → w 0 0 7 [(0, .ref r), (1, .int i4)] [] K R M5 := by
    intro n7
    induction n7 with
    | zero => intro i4 M5 hz; exact absurd hz h_it0
    | succ n7 ih7 =>
      intro i4 M5 m31
      replace m31 : (mX8_addAll_B7 K R r i4 M5).bind (Sum.elim (it (mX8_addAll_L7 K R r) n7) some) = some v7 := m31
      unfold mX8_addAll_B7 at m31
      have J83 : ∀ (M7 : Mm) (i6 : Int32), (mX8_addAll_J83 K R M7 r i6).bind (Sum.elim (it (mX8_addAll_L7 K R r) n7) some) = some v7 → w 0 0 83 [(0, .ref r), (1, .int i6)] [] K R M7 := by
        intro M7 i6 m32
        unfold mX8_addAll_J83 at m32
        obtain ⟨i8, ei8, m33⟩ := h_nm m32
        clear m32
        refine r_iinc (j := 1) (v := i8) hw dX8_addAll_83 rfl (by rw [ei8]; rfl) (by decide) rfl ?_
        refine r_goto (tgt := 7) hw dX8_addAll_86 (by decide) ?_
        refine r_sub hw [1, 0] rfl ?_
        exact ih7 _ _ m33
      refine r_iload_n hw dX8_addAll_7 1 rfl ?_
      refine r_aload_n hw dX8_addAll_8 0 rfl ?_
      obtain ⟨i9, g9, m34⟩ := h_bd m31
      clear m31
      refine r_callV1 hw (tX8_pieces l G b0 g9) lB_X8_pieces lI_X8_pieces mL_X8_99 (c := 8) rfl h1 rfl (Nat.le_of_ble_eq_true rfl) (Nat.le_of_ble_eq_true rfl) rfl (Nat.le_of_ble_eq_true rfl) dX8_addAll_9 ?_
      refine r_icmp_ge (tgt := 89) hw dX8_addAll_12 (by decide) (fun c10 => ?_) (fun c10 => ?_)
      · have m35 := h_if_f c10 m34
        clear m34
        have m36 := h_ex m35 hv7
        clear m35
        cases h_ret m36
        exact r_return hq rfl rfl dX8_addAll_89
      · have m37 := h_if_t c10 m34
        clear m34
        refine r_aload_n hw dX8_addAll_15 0 rfl ?_
        refine r_iload_n hw dX8_addAll_16 1 rfl ?_
        obtain ⟨i11, g11, m38⟩ := h_bd m37
        clear m37
        refine r_callV1 hw (tX8_isLaid l G b0 g11) lB_X8_isLaid lI_X8_isLaid mL_X8_287 (c := 8) rfl h1 rfl (Nat.le_of_ble_eq_true rfl) (Nat.le_of_ble_eq_true rfl) rfl (Nat.le_of_ble_eq_true rfl) dX8_addAll_17 ?_
        refine r_if_eq (tgt := 83) hw dX8_addAll_20 (by decide) (fun c12 => ?_) (fun c12 => ?_)
        · have m39 := h_if_t c12 m38
          clear m38
          exact J83 _ _ m39
        · have m40 := h_if_f c12 m38
          clear m38
          refine r_aload_n hw dX8_addAll_23 0 rfl ?_
          refine r_iload_n hw dX8_addAll_24 1 rfl ?_
          obtain ⟨M13, g13, m41⟩ := h_bd m40
          clear m40
          refine r_callV0 hw (tX8_lookA l G b0 g13) lB_X8_lookA lI_X8_lookA mL_X8_149 (c := 8) rfl h1 rfl (Nat.le_of_ble_eq_true rfl) (Nat.le_of_ble_eq_true rfl) rfl (Nat.le_of_ble_eq_true rfl) dX8_addAll_25 ?_
          refine r_iconst (v := 0) hw dX8_addAll_28 rfl ?_
          obtain ⟨i14, ei14, m42⟩ := h_nm m41
          clear m41
          refine r_topI (w := w) ei14 ?_
          refine r_istore_n hw dX8_addAll_29 rfl (by decide) rfl ?_
          refine r_sub hw [1, 2, 0] rfl ?_
          obtain ⟨v30, n030, hn30, hv30⟩ := h_lp m42
          clear m42
          have L30 : ∀ n : Nat, ∀ (i15 : Int32) (M16 : Mm), it (mX8_addAll_L30 K R r i4) n (i15, M16) = some v30 → w 0 0 30 [(0, .ref r), (1, .int i4), (2, .int i15)] [] K R M16 := by
            intro n30
            induction n30 with
            | zero => intro i15 M16 hz; exact absurd hz h_it0
            | succ n30 ih30 =>
              intro i15 M16 m43
              replace m43 : (mX8_addAll_B30 K R r i4 i15 M16).bind (Sum.elim (it (mX8_addAll_L30 K R r i4) n30) some) = some v30 := m43
              unfold mX8_addAll_B30 at m43
              refine r_iload_n hw dX8_addAll_30 2 rfl ?_
              refine r_aload_n hw dX8_addAll_31 0 rfl ?_
              refine r_getI hw fO_X8_146 h1 dX8_addAll_32 ?_
              refine r_icmp_ge (tgt := 83) hw dX8_addAll_35 (by decide) (fun c17 => ?_) (fun c17 => ?_)
              · have m44 := h_if_f c17 m43
                clear m43
                have m45 := h_ex m44 hv30
                clear m44
                refine r_sub hw [0, 1] rfl ?_
                exact J83 _ _ m45
              · have m46 := h_if_t c17 m43
                clear m43
                refine r_iload_n hw dX8_addAll_38 2 rfl ?_
                refine r_iconst (v := 1) hw dX8_addAll_39 rfl ?_
                refine r_iadd hw dX8_addAll_40 ?_
                refine r_aload_n hw dX8_addAll_41 0 rfl ?_
                refine r_getI hw fO_X8_146 h1 dX8_addAll_42 ?_
                obtain ⟨h18, m47⟩ := h_ck m46
                clear m46
                refine r_irem hw dX8_addAll_45 h18 ?_
                obtain ⟨i19, ei19, m48⟩ := h_nm m47
                clear m47
                refine r_topI (w := w) ei19 ?_
                refine r_istore_n hw dX8_addAll_46 rfl (by decide) rfl ?_
                refine r_aload_n hw dX8_addAll_47 1 rfl ?_
                refine r_aload_n hw dX8_addAll_48 1 rfl ?_
                obtain ⟨q20, bq20, m49⟩ := h_bd m48
                clear m48
                refine r_getR hw fO_X8_42 h1 bq20 dX8_addAll_49 ?_
                refine r_iload_n hw dX8_addAll_52 0 rfl ?_
                obtain ⟨h21, m50⟩ := h_ck m49
                clear m49
                refine r_laload hw h21 dX8_addAll_53 ?_
                refine r_aload_n hw dX8_addAll_54 1 rfl ?_
                refine r_getR hw fO_X8_42 h1 bq20 dX8_addAll_55 ?_
                refine r_iload_n hw dX8_addAll_58 3 rfl ?_
                obtain ⟨h22, m51⟩ := h_ck m50
                clear m50
                refine r_laload hw h22 dX8_addAll_59 ?_
                refine r_lsub hw dX8_addAll_60 ?_
                refine r_aload_n hw dX8_addAll_61 1 rfl ?_
                obtain ⟨q23, bq23, m52⟩ := h_bd m51
                clear m51
                refine r_getR hw fO_X8_45 h1 bq23 dX8_addAll_62 ?_
                refine r_iload_n hw dX8_addAll_65 0 rfl ?_
                obtain ⟨h24, m53⟩ := h_ck m52
                clear m52
                refine r_laload hw h24 dX8_addAll_66 ?_
                refine r_aload_n hw dX8_addAll_67 1 rfl ?_
                refine r_getR hw fO_X8_45 h1 bq23 dX8_addAll_68 ?_
                refine r_iload_n hw dX8_addAll_71 3 rfl ?_
                obtain ⟨h25, m54⟩ := h_ck m53
                clear m53
                refine r_laload hw h25 dX8_addAll_72 ?_
                refine r_lsub hw dX8_addAll_73 ?_
                obtain ⟨M26, g26, m55⟩ := h_bd m54
                clear m54
                refine r_callV0 hw (tX8_addStep l G b0 g26) lB_X8_addStep lI_X8_addStep mL_X8_309 (c := 8) rfl h1 rfl (Nat.le_of_ble_eq_true rfl) (Nat.le_of_ble_eq_true rfl) rfl (Nat.le_of_ble_eq_true rfl) dX8_addAll_74 ?_
                obtain ⟨i27, ei27, m56⟩ := h_nm m55
                clear m55
                refine r_iinc (j := 3) (v := i27) hw dX8_addAll_77 rfl (by rw [ei27]; rfl) (by decide) rfl ?_
                refine r_goto (tgt := 30) hw dX8_addAll_80 (by decide) ?_
                refine r_sub hw [2, 3, 0] rfl ?_
                exact ih30 _ _ m56
          exact L30 n030 _ _ hn30
  exact L7 n07 _ _ hn7
theorem dX8_sums_0 : decode cX8_sums 0 = .ok (.aload_n 0, 1) := by decide +kernel
theorem dX8_sums_1 : decode cX8_sums 1 = .ok (.invokevirtual 312, 3) := by decide +kernel
theorem dX8_sums_4 : decode cX8_sums 4 = .ok (.iconst 0, 1) := by decide +kernel
theorem dX8_sums_5 : decode cX8_sums 5 = .ok (.istore_n 1, 1) := by decide +kernel
theorem dX8_sums_6 : decode cX8_sums 6 = .ok (.iconst 0, 1) := by decide +kernel
theorem dX8_sums_7 : decode cX8_sums 7 = .ok (.istore_n 2, 1) := by decide +kernel
theorem dX8_sums_8 : decode cX8_sums 8 = .ok (.iload_n 2, 1) := by decide +kernel
theorem dX8_sums_9 : decode cX8_sums 9 = .ok (.aload_n 0, 1) := by decide +kernel
theorem dX8_sums_10 : decode cX8_sums 10 = .ok (.getfield 306, 3) := by decide +kernel
theorem dX8_sums_13 : decode cX8_sums 13 = .ok (.if_icmp .ge 28, 3) := by decide +kernel
theorem dX8_sums_16 : decode cX8_sums 16 = .ok (.iload_n 1, 1) := by decide +kernel
theorem dX8_sums_17 : decode cX8_sums 17 = .ok (.aload_n 0, 1) := by decide +kernel
theorem dX8_sums_18 : decode cX8_sums 18 = .ok (.getfield 78, 3) := by decide +kernel
theorem dX8_sums_21 : decode cX8_sums 21 = .ok (.iload_n 2, 1) := by decide +kernel
theorem dX8_sums_22 : decode cX8_sums 22 = .ok (.laload, 1) := by decide +kernel
theorem dX8_sums_23 : decode cX8_sums 23 = .ok (.lconst 0, 1) := by decide +kernel
theorem dX8_sums_24 : decode cX8_sums 24 = .ok (.lcmp, 1) := by decide +kernel
theorem dX8_sums_25 : decode cX8_sums 25 = .ok (.ifCond .eq 7, 3) := by decide +kernel
theorem dX8_sums_28 : decode cX8_sums 28 = .ok (.iconst 1, 1) := by decide +kernel
theorem dX8_sums_29 : decode cX8_sums 29 = .ok (.goto 4, 3) := by decide +kernel
theorem dX8_sums_32 : decode cX8_sums 32 = .ok (.iconst 0, 1) := by decide +kernel
theorem dX8_sums_33 : decode cX8_sums 33 = .ok (.iadd, 1) := by decide +kernel
theorem dX8_sums_34 : decode cX8_sums 34 = .ok (.istore_n 1, 1) := by decide +kernel
theorem dX8_sums_35 : decode cX8_sums 35 = .ok (.iinc 2 1, 3) := by decide +kernel
theorem dX8_sums_38 : decode cX8_sums 38 = .ok (.goto (-30), 3) := by decide +kernel
theorem dX8_sums_41 : decode cX8_sums 41 = .ok (.iload_n 1, 1) := by decide +kernel
theorem dX8_sums_42 : decode cX8_sums 42 = .ok (.i2l, 1) := by decide +kernel
theorem dX8_sums_43 : decode cX8_sums 43 = .ok (.lreturn, 1) := by decide +kernel
set_option maxHeartbeats 4000000 in
set_option maxRecDepth 100000 in
theorem tX8_sums (l : Launch) (G : Gg) (b0 : Nat) {K : Kk} {R : Rr} {M : Mm} {r : Nat} {res : Int64} {M' : Mm} (hm : mX8_sums K R M r = some (res, M')) : CT l G b0 yX8_sums cX8_sums 3 (some .long) (rmz 6 132) [.ref r] K R M (some (.long res)) K R M' := by
  refine ct_of (by decide +kernel) (Nat.le_of_ble_eq_true rfl) (fun w hq => ?_)
  have hw := hq.b
  change w 0 0 0 [(0, .ref r)] [] K R M
  replace hm := h_start hm
  unfold mX8_sums at hm
  obtain ⟨h1, m16⟩ := h_ck hm
  clear hm
  refine r_aload_n hw dX8_sums_0 0 rfl ?_
  obtain ⟨M2, g2, m17⟩ := h_bd m16
  clear m16
  refine r_callV0 hw (tX8_addAll l G b0 g2) lB_X8_addAll lI_X8_addAll mL_X8_312 (c := 8) rfl h1 rfl (Nat.le_of_ble_eq_true rfl) (Nat.le_of_ble_eq_true rfl) rfl (Nat.le_of_ble_eq_true rfl) dX8_sums_1 ?_
  refine r_iconst (v := 0) hw dX8_sums_4 rfl ?_
  obtain ⟨i3, ei3, m18⟩ := h_nm m17
  clear m17
  refine r_topI (w := w) ei3 ?_
  refine r_istore_n hw dX8_sums_5 rfl (by decide) rfl ?_
  refine r_iconst (v := 0) hw dX8_sums_6 rfl ?_
  obtain ⟨i4, ei4, m19⟩ := h_nm m18
  clear m18
  refine r_topI (w := w) ei4 ?_
  refine r_istore_n hw dX8_sums_7 rfl (by decide) rfl ?_
  refine r_sub hw [2, 1, 0] rfl ?_
  obtain ⟨v8, n08, hn8, hv8⟩ := h_lp m19
  clear m19
  have L8 : ∀ n : Nat, ∀ (i5 : Int32) (i6 : Int32), it (mX8_sums_L8 K R M2 r) n (i5, i6) = some v8 → w 0 0 8 [(0, .ref r), (1, .int i5), (2, .int i6)] [] K R M2 := by
    intro n8
    induction n8 with
    | zero => intro i5 i6 hz; exact absurd hz h_it0
    | succ n8 ih8 =>
      intro i5 i6 m20
      replace m20 : (mX8_sums_B8 K R M2 r i5 i6).bind (Sum.elim (it (mX8_sums_L8 K R M2 r) n8) some) = some v8 := m20
      unfold mX8_sums_B8 at m20
      have J33 : ∀ (i7 : Int32) (s8 : Int32) (s9 : Int32), (mX8_sums_J33 K R M2 r i7 s8 s9).bind (Sum.elim (it (mX8_sums_L8 K R M2 r) n8) some) = some v8 → w 0 0 33 [(0, .ref r), (2, .int i7)] [.int s9, .int s8] K R M2 := by
        intro i7 s8 s9 m21
        unfold mX8_sums_J33 at m21
        refine r_iadd hw dX8_sums_33 ?_
        obtain ⟨i10, ei10, m22⟩ := h_nm m21
        clear m21
        refine r_topI (w := w) ei10 ?_
        refine r_istore_n hw dX8_sums_34 rfl (by decide) rfl ?_
        obtain ⟨i11, ei11, m23⟩ := h_nm m22
        clear m22
        refine r_iinc (j := 2) (v := i11) hw dX8_sums_35 rfl (by rw [ei11]; rfl) (by decide) rfl ?_
        refine r_goto (tgt := 8) hw dX8_sums_38 (by decide) ?_
        refine r_sub hw [2, 1, 0] rfl ?_
        exact ih8 _ _ m23
      refine r_iload_n hw dX8_sums_8 2 rfl ?_
      refine r_aload_n hw dX8_sums_9 0 rfl ?_
      refine r_getI hw fO_X8_306 h1 dX8_sums_10 ?_
      refine r_icmp_ge (tgt := 41) hw dX8_sums_13 (by decide) (fun c12 => ?_) (fun c12 => ?_)
      · have m24 := h_if_f c12 m20
        clear m20
        have m25 := h_ex m24 hv8
        clear m24
        refine r_iload_n hw dX8_sums_41 1 rfl ?_
        refine r_i2l hw dX8_sums_42 ?_
        cases h_ret m25
        exact r_lreturn hq rfl rfl dX8_sums_43
      · have m26 := h_if_t c12 m20
        clear m20
        refine r_iload_n hw dX8_sums_16 1 rfl ?_
        refine r_aload_n hw dX8_sums_17 0 rfl ?_
        obtain ⟨q13, bq13, m27⟩ := h_bd m26
        clear m26
        refine r_getR hw fO_X8_78 h1 bq13 dX8_sums_18 ?_
        refine r_iload_n hw dX8_sums_21 2 rfl ?_
        obtain ⟨h14, m28⟩ := h_ck m27
        clear m27
        refine r_laload hw h14 dX8_sums_22 ?_
        refine r_lconst (v := 0) hw dX8_sums_23 rfl ?_
        refine r_lcmp_eq (tgt := 32) hw dX8_sums_24 dX8_sums_25 (by decide) (fun c15 => ?_) (fun c15 => ?_)
        · have m29 := h_if_t c15 m28
          clear m28
          refine r_iconst (v := 0) hw dX8_sums_32 rfl ?_
          refine r_sub hw [0, 2] rfl ?_
          exact J33 _ _ _ m29
        · have m30 := h_if_f c15 m28
          clear m28
          refine r_iconst (v := 1) hw dX8_sums_28 rfl ?_
          refine r_goto (tgt := 33) hw dX8_sums_29 (by decide) ?_
          refine r_sub hw [0, 2] rfl ?_
          exact J33 _ _ _ m30
  exact L8 n08 _ _ hn8
theorem dX8_isAhead_0 : decode cX8_isAhead 0 = .ok (.aload_n 0, 1) := by decide +kernel
theorem dX8_isAhead_1 : decode cX8_isAhead 1 = .ok (.getfield 72, 3) := by decide +kernel
theorem dX8_isAhead_4 : decode cX8_isAhead 4 = .ok (.iload_n 1, 1) := by decide +kernel
theorem dX8_isAhead_5 : decode cX8_isAhead 5 = .ok (.laload, 1) := by decide +kernel
theorem dX8_isAhead_6 : decode cX8_isAhead 6 = .ok (.aload_n 0, 1) := by decide +kernel
theorem dX8_isAhead_7 : decode cX8_isAhead 7 = .ok (.getfield 72, 3) := by decide +kernel
theorem dX8_isAhead_10 : decode cX8_isAhead 10 = .ok (.iload_n 2, 1) := by decide +kernel
theorem dX8_isAhead_11 : decode cX8_isAhead 11 = .ok (.laload, 1) := by decide +kernel
theorem dX8_isAhead_12 : decode cX8_isAhead 12 = .ok (.lcmp, 1) := by decide +kernel
theorem dX8_isAhead_13 : decode cX8_isAhead 13 = .ok (.ifCond .lt 35, 3) := by decide +kernel
theorem dX8_isAhead_16 : decode cX8_isAhead 16 = .ok (.aload_n 0, 1) := by decide +kernel
theorem dX8_isAhead_17 : decode cX8_isAhead 17 = .ok (.getfield 72, 3) := by decide +kernel
theorem dX8_isAhead_20 : decode cX8_isAhead 20 = .ok (.iload_n 1, 1) := by decide +kernel
theorem dX8_isAhead_21 : decode cX8_isAhead 21 = .ok (.laload, 1) := by decide +kernel
theorem dX8_isAhead_22 : decode cX8_isAhead 22 = .ok (.aload_n 0, 1) := by decide +kernel
theorem dX8_isAhead_23 : decode cX8_isAhead 23 = .ok (.getfield 72, 3) := by decide +kernel
theorem dX8_isAhead_26 : decode cX8_isAhead 26 = .ok (.iload_n 2, 1) := by decide +kernel
theorem dX8_isAhead_27 : decode cX8_isAhead 27 = .ok (.laload, 1) := by decide +kernel
theorem dX8_isAhead_28 : decode cX8_isAhead 28 = .ok (.lcmp, 1) := by decide +kernel
theorem dX8_isAhead_29 : decode cX8_isAhead 29 = .ok (.ifCond .ne 23, 3) := by decide +kernel
theorem dX8_isAhead_32 : decode cX8_isAhead 32 = .ok (.aload_n 0, 1) := by decide +kernel
theorem dX8_isAhead_33 : decode cX8_isAhead 33 = .ok (.getfield 75, 3) := by decide +kernel
theorem dX8_isAhead_36 : decode cX8_isAhead 36 = .ok (.iload_n 1, 1) := by decide +kernel
theorem dX8_isAhead_37 : decode cX8_isAhead 37 = .ok (.laload, 1) := by decide +kernel
theorem dX8_isAhead_38 : decode cX8_isAhead 38 = .ok (.aload_n 0, 1) := by decide +kernel
theorem dX8_isAhead_39 : decode cX8_isAhead 39 = .ok (.getfield 75, 3) := by decide +kernel
theorem dX8_isAhead_42 : decode cX8_isAhead 42 = .ok (.iload_n 2, 1) := by decide +kernel
theorem dX8_isAhead_43 : decode cX8_isAhead 43 = .ok (.laload, 1) := by decide +kernel
theorem dX8_isAhead_44 : decode cX8_isAhead 44 = .ok (.lcmp, 1) := by decide +kernel
theorem dX8_isAhead_45 : decode cX8_isAhead 45 = .ok (.ifCond .ge 7, 3) := by decide +kernel
theorem dX8_isAhead_48 : decode cX8_isAhead 48 = .ok (.iconst 1, 1) := by decide +kernel
theorem dX8_isAhead_49 : decode cX8_isAhead 49 = .ok (.goto 4, 3) := by decide +kernel
theorem dX8_isAhead_52 : decode cX8_isAhead 52 = .ok (.iconst 0, 1) := by decide +kernel
theorem dX8_isAhead_53 : decode cX8_isAhead 53 = .ok (.ireturn, 1) := by decide +kernel
set_option maxHeartbeats 4000000 in
set_option maxRecDepth 100000 in
theorem tX8_isAhead (l : Launch) (G : Gg) (b0 : Nat) {K : Kk} {R : Rr} {M : Mm} {r : Nat} {a0 : Int32} {a1 : Int32} {res : Int32} (hm : mX8_isAhead K R M r a0 a1 = some (res)) : CT l G b0 yX8_isAhead cX8_isAhead 3 (some .boolean) (rmz 1 0) [.ref r, .int a0, .int a1] K R M (some (.int res)) K R M := by
  refine ct_of (by decide +kernel) (Nat.le_of_ble_eq_true rfl) (fun w hq => ?_)
  have hw := hq.b
  change w 0 0 0 [(0, .ref r), (1, .int a0), (2, .int a1)] [] K R M
  replace hm := h_start hm
  unfold mX8_isAhead at hm
  obtain ⟨h1, m11⟩ := h_ck hm
  clear hm
  have J48 : (mX8_isAhead_J48 K R M ).bind some = some (res) → w 0 0 48 [] [] K R M := by
    intro  m12
    unfold mX8_isAhead_J48 at m12
    refine r_iconst (v := 1) hw dX8_isAhead_48 rfl ?_
    refine r_goto (tgt := 53) hw dX8_isAhead_49 (by decide) ?_
    cases h_ret m12
    exact r_zreturn hq isB_1 rfl rfl dX8_isAhead_53
  refine r_aload_n hw dX8_isAhead_0 0 rfl ?_
  obtain ⟨q2, bq2, m13⟩ := h_bd m11
  clear m11
  refine r_getR hw fO_X8_72 h1 bq2 dX8_isAhead_1 ?_
  refine r_iload_n hw dX8_isAhead_4 1 rfl ?_
  obtain ⟨h3, m14⟩ := h_ck m13
  clear m13
  refine r_laload hw h3 dX8_isAhead_5 ?_
  refine r_aload_n hw dX8_isAhead_6 0 rfl ?_
  refine r_getR hw fO_X8_72 h1 bq2 dX8_isAhead_7 ?_
  refine r_iload_n hw dX8_isAhead_10 2 rfl ?_
  obtain ⟨h4, m15⟩ := h_ck m14
  clear m14
  refine r_laload hw h4 dX8_isAhead_11 ?_
  refine r_lcmp_lt (tgt := 48) hw dX8_isAhead_12 dX8_isAhead_13 (by decide) (fun c5 => ?_) (fun c5 => ?_)
  · have m16 := h_if_t c5 m15
    clear m15
    refine r_sub hw [] rfl ?_
    exact J48  m16
  · have m17 := h_if_f c5 m15
    clear m15
    refine r_aload_n hw dX8_isAhead_16 0 rfl ?_
    refine r_getR hw fO_X8_72 h1 bq2 dX8_isAhead_17 ?_
    refine r_iload_n hw dX8_isAhead_20 1 rfl ?_
    refine r_laload hw h3 dX8_isAhead_21 ?_
    refine r_aload_n hw dX8_isAhead_22 0 rfl ?_
    refine r_getR hw fO_X8_72 h1 bq2 dX8_isAhead_23 ?_
    refine r_iload_n hw dX8_isAhead_26 2 rfl ?_
    refine r_laload hw h4 dX8_isAhead_27 ?_
    refine r_lcmp_ne (tgt := 52) hw dX8_isAhead_28 dX8_isAhead_29 (by decide) (fun c6 => ?_) (fun c6 => ?_)
    · have m18 := h_if_f c6 m17
      clear m17
      refine r_iconst (v := 0) hw dX8_isAhead_52 rfl ?_
      cases h_ret m18
      exact r_zreturn hq isB_0 rfl rfl dX8_isAhead_53
    · have m19 := h_if_t c6 m17
      clear m17
      refine r_aload_n hw dX8_isAhead_32 0 rfl ?_
      obtain ⟨q7, bq7, m20⟩ := h_bd m19
      clear m19
      refine r_getR hw fO_X8_75 h1 bq7 dX8_isAhead_33 ?_
      refine r_iload_n hw dX8_isAhead_36 1 rfl ?_
      obtain ⟨h8, m21⟩ := h_ck m20
      clear m20
      refine r_laload hw h8 dX8_isAhead_37 ?_
      refine r_aload_n hw dX8_isAhead_38 0 rfl ?_
      refine r_getR hw fO_X8_75 h1 bq7 dX8_isAhead_39 ?_
      refine r_iload_n hw dX8_isAhead_42 2 rfl ?_
      obtain ⟨h9, m22⟩ := h_ck m21
      clear m21
      refine r_laload hw h9 dX8_isAhead_43 ?_
      refine r_lcmp_ge (tgt := 52) hw dX8_isAhead_44 dX8_isAhead_45 (by decide) (fun c10 => ?_) (fun c10 => ?_)
      · have m23 := h_if_f c10 m22
        clear m22
        refine r_iconst (v := 0) hw dX8_isAhead_52 rfl ?_
        cases h_ret m23
        exact r_zreturn hq isB_0 rfl rfl dX8_isAhead_53
      · have m24 := h_if_t c10 m22
        clear m22
        refine r_sub hw [] rfl ?_
        exact J48  m24
