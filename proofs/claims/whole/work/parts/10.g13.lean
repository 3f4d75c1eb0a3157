theorem dX8_parts_0 : decode cX8_parts 0 = .ok (.iconst 0, 1) := by decide +kernel
theorem dX8_parts_1 : decode cX8_parts 1 = .ok (.istore_n 1, 1) := by decide +kernel
theorem dX8_parts_2 : decode cX8_parts 2 = .ok (.iload_n 1, 1) := by decide +kernel
theorem dX8_parts_3 : decode cX8_parts 3 = .ok (.aload_n 0, 1) := by decide +kernel
theorem dX8_parts_4 : decode cX8_parts 4 = .ok (.getfield 146, 3) := by decide +kernel
theorem dX8_parts_7 : decode cX8_parts 7 = .ok (.if_icmp .ge 100, 3) := by decide +kernel
theorem dX8_parts_10 : decode cX8_parts 10 = .ok (.iload_n 1, 1) := by decide +kernel
theorem dX8_parts_11 : decode cX8_parts 11 = .ok (.iconst 1, 1) := by decide +kernel
theorem dX8_parts_12 : decode cX8_parts 12 = .ok (.iadd, 1) := by decide +kernel
theorem dX8_parts_13 : decode cX8_parts 13 = .ok (.aload_n 0, 1) := by decide +kernel
theorem dX8_parts_14 : decode cX8_parts 14 = .ok (.getfield 146, 3) := by decide +kernel
theorem dX8_parts_17 : decode cX8_parts 17 = .ok (.irem, 1) := by decide +kernel
theorem dX8_parts_18 : decode cX8_parts 18 = .ok (.istore_n 2, 1) := by decide +kernel
theorem dX8_parts_19 : decode cX8_parts 19 = .ok (.iconst 1, 1) := by decide +kernel
theorem dX8_parts_20 : decode cX8_parts 20 = .ok (.istore_n 3, 1) := by decide +kernel
theorem dX8_parts_21 : decode cX8_parts 21 = .ok (.iconst 0, 1) := by decide +kernel
theorem dX8_parts_22 : decode cX8_parts 22 = .ok (.istore 4, 2) := by decide +kernel
theorem dX8_parts_24 : decode cX8_parts 24 = .ok (.iload 4, 2) := by decide +kernel
theorem dX8_parts_26 : decode cX8_parts 26 = .ok (.aload_n 0, 1) := by decide +kernel
theorem dX8_parts_27 : decode cX8_parts 27 = .ok (.getfield 153, 3) := by decide +kernel
theorem dX8_parts_30 : decode cX8_parts 30 = .ok (.if_icmp .ge 65, 3) := by decide +kernel
theorem dX8_parts_33 : decode cX8_parts 33 = .ok (.iload_n 3, 1) := by decide +kernel
theorem dX8_parts_34 : decode cX8_parts 34 = .ok (.ifCond .eq 53, 3) := by decide +kernel
theorem dX8_parts_37 : decode cX8_parts 37 = .ok (.aload_n 0, 1) := by decide +kernel
theorem dX8_parts_38 : decode cX8_parts 38 = .ok (.getfield 42, 3) := by decide +kernel
theorem dX8_parts_41 : decode cX8_parts 41 = .ok (.iload_n 1, 1) := by decide +kernel
theorem dX8_parts_42 : decode cX8_parts 42 = .ok (.laload, 1) := by decide +kernel
theorem dX8_parts_43 : decode cX8_parts 43 = .ok (.aload_n 0, 1) := by decide +kernel
theorem dX8_parts_44 : decode cX8_parts 44 = .ok (.getfield 45, 3) := by decide +kernel
theorem dX8_parts_47 : decode cX8_parts 47 = .ok (.iload_n 1, 1) := by decide +kernel
theorem dX8_parts_48 : decode cX8_parts 48 = .ok (.laload, 1) := by decide +kernel
theorem dX8_parts_49 : decode cX8_parts 49 = .ok (.aload_n 0, 1) := by decide +kernel
theorem dX8_parts_50 : decode cX8_parts 50 = .ok (.getfield 42, 3) := by decide +kernel
theorem dX8_parts_53 : decode cX8_parts 53 = .ok (.iload_n 2, 1) := by decide +kernel
theorem dX8_parts_54 : decode cX8_parts 54 = .ok (.laload, 1) := by decide +kernel
theorem dX8_parts_55 : decode cX8_parts 55 = .ok (.aload_n 0, 1) := by decide +kernel
theorem dX8_parts_56 : decode cX8_parts 56 = .ok (.getfield 45, 3) := by decide +kernel
theorem dX8_parts_59 : decode cX8_parts 59 = .ok (.iload_n 2, 1) := by decide +kernel
theorem dX8_parts_60 : decode cX8_parts 60 = .ok (.laload, 1) := by decide +kernel
theorem dX8_parts_61 : decode cX8_parts 61 = .ok (.aload_n 0, 1) := by decide +kernel
theorem dX8_parts_62 : decode cX8_parts 62 = .ok (.getfield 48, 3) := by decide +kernel
theorem dX8_parts_65 : decode cX8_parts 65 = .ok (.iload 4, 2) := by decide +kernel
theorem dX8_parts_67 : decode cX8_parts 67 = .ok (.laload, 1) := by decide +kernel
theorem dX8_parts_68 : decode cX8_parts 68 = .ok (.aload_n 0, 1) := by decide +kernel
theorem dX8_parts_69 : decode cX8_parts 69 = .ok (.getfield 51, 3) := by decide +kernel
theorem dX8_parts_72 : decode cX8_parts 72 = .ok (.iload 4, 2) := by decide +kernel
theorem dX8_parts_74 : decode cX8_parts 74 = .ok (.laload, 1) := by decide +kernel
theorem dX8_parts_75 : decode cX8_parts 75 = .ok (.invokestatic 128, 3) := by decide +kernel
theorem dX8_parts_78 : decode cX8_parts 78 = .ok (.lconst 0, 1) := by decide +kernel
theorem dX8_parts_79 : decode cX8_parts 79 = .ok (.lcmp, 1) := by decide +kernel
theorem dX8_parts_80 : decode cX8_parts 80 = .ok (.ifCond .gt 7, 3) := by decide +kernel
theorem dX8_parts_83 : decode cX8_parts 83 = .ok (.iconst 1, 1) := by decide +kernel
theorem dX8_parts_84 : decode cX8_parts 84 = .ok (.goto 4, 3) := by decide +kernel
theorem dX8_parts_87 : decode cX8_parts 87 = .ok (.iconst 0, 1) := by decide +kernel
theorem dX8_parts_88 : decode cX8_parts 88 = .ok (.istore_n 3, 1) := by decide +kernel
theorem dX8_parts_89 : decode cX8_parts 89 = .ok (.iinc 4 1, 3) := by decide +kernel
theorem dX8_parts_92 : decode cX8_parts 92 = .ok (.goto (-68), 3) := by decide +kernel
theorem dX8_parts_95 : decode cX8_parts 95 = .ok (.iload_n 3, 1) := by decide +kernel
theorem dX8_parts_96 : decode cX8_parts 96 = .ok (.ifCond .eq 5, 3) := by decide +kernel
theorem dX8_parts_99 : decode cX8_parts 99 = .ok (.iconst 1, 1) := by decide +kernel
theorem dX8_parts_100 : decode cX8_parts 100 = .ok (.ireturn, 1) := by decide +kernel
theorem dX8_parts_101 : decode cX8_parts 101 = .ok (.iinc 1 1, 3) := by decide +kernel
theorem dX8_parts_104 : decode cX8_parts 104 = .ok (.goto (-102), 3) := by decide +kernel
theorem dX8_parts_107 : decode cX8_parts 107 = .ok (.iconst 0, 1) := by decide +kernel
theorem dX8_parts_108 : decode cX8_parts 108 = .ok (.ireturn, 1) := by decide +kernel
set_option maxHeartbeats 4000000 in
set_option maxRecDepth 100000 in
theorem tX8_parts (l : Launch) (G : Gg) (b0 : Nat) {K : Kk} {R : Rr} {M : Mm} {r : Nat} {res : Int32} (hm : mX8_parts K R M r = some (res)) : CT l G b0 yX8_parts cX8_parts 5 (some .boolean) (rmz 2 31) [.ref r] K R M (some (.int res)) K R M := by
  refine ct_of (by decide +kernel) (Nat.le_of_ble_eq_true rfl) (fun w hw => ?_)
  change w 0 0 0 [(0, .ref r)] [] K R M
  replace hm := h_start hm
  unfold mX8_parts at hm
  obtain ⟨h1, m31⟩ := h_ck hm
  clear hm
  refine r_iconst (v := 0) hw dX8_parts_0 rfl ?_
  obtain ⟨i2, ei2, m32⟩ := h_nm m31
  clear m31
  refine r_topI (w := w) ei2 ?_
  refine r_istore_n hw dX8_parts_1 rfl (by decide) rfl ?_
  refine r_sub hw [1, 0] rfl ?_
  obtain ⟨v2, n02, hn2, hv2⟩ := h_lp m32
  clear m32
  have L2 : ∀ n : Nat, ∀ (i3 : Int32), it (mX8_parts_L2 K R M r) n (i3) = some v2 → w 0 0 2 [(0, .ref r), (1, .int i3)] [] K R M := by
    intro n2
    induction n2 with
    | zero => intro i3 hz; exact absurd hz h_it0
    | succ n2 ih2 =>
      intro i3 m33
      replace m33 : (mX8_parts_B2 K R M r i3).bind (Sum.elim (it (mX8_parts_L2 K R M r) n2) some) = some v2 := m33
      unfold mX8_parts_B2 at m33
      refine r_iload_n hw dX8_parts_2 1 rfl ?_
      refine r_aload_n hw dX8_parts_3 0 rfl ?_
      refine r_getI hw fO_X8_146 h1 dX8_parts_4 ?_
      refine r_icmp_ge (tgt := 107) hw dX8_parts_7 (by decide) (fun c4 => ?_) (fun c4 => ?_)
      · have m34 := h_if_f c4 m33
        clear m33
        have m35 := h_ex m34 hv2
        clear m34
        refine r_iconst (v := 0) hw dX8_parts_107 rfl ?_
        cases h_ret m35
        exact r_zreturn hw isB_0 rfl rfl dX8_parts_108
      · have m36 := h_if_t c4 m33
        clear m33
        refine r_iload_n hw dX8_parts_10 1 rfl ?_
        refine r_iconst (v := 1) hw dX8_parts_11 rfl ?_
        refine r_iadd hw dX8_parts_12 ?_
        refine r_aload_n hw dX8_parts_13 0 rfl ?_
        refine r_getI hw fO_X8_146 h1 dX8_parts_14 ?_
        obtain ⟨h5, m37⟩ := h_ck m36
        clear m36
        refine r_irem hw dX8_parts_17 h5 ?_
        obtain ⟨i6, ei6, m38⟩ := h_nm m37
        clear m37
        refine r_topI (w := w) ei6 ?_
        refine r_istore_n hw dX8_parts_18 rfl (by decide) rfl ?_
        refine r_iconst (v := 1) hw dX8_parts_19 rfl ?_
        obtain ⟨i7, ei7, m39⟩ := h_nm m38
        clear m38
        refine r_topI (w := w) ei7 ?_
        refine r_istore_n hw dX8_parts_20 rfl (by decide) rfl ?_
        refine r_iconst (v := 0) hw dX8_parts_21 rfl ?_
        obtain ⟨i8, ei8, m40⟩ := h_nm m39
        clear m39
        refine r_topI (w := w) ei8 ?_
        refine r_istore hw dX8_parts_22 (by decide) rfl ?_
        refine r_sub hw [3, 4, 2, 1, 0] rfl ?_
        obtain ⟨v24, n024, hn24, hv24⟩ := h_lp m40
        clear m40
        have L24 : ∀ n : Nat, ∀ (i9 : Int32) (i10 : Int32), it (mX8_parts_L24 K R M r i3 i6) n (i9, i10) = some v24 → w 0 0 24 [(0, .ref r), (1, .int i3), (2, .int i6), (3, .int i9), (4, .int i10)] [] K R M := by
          intro n24
          induction n24 with
          | zero => intro i9 i10 hz; exact absurd hz h_it0
          | succ n24 ih24 =>
            intro i9 i10 m41
            replace m41 : (mX8_parts_B24 K R M r i3 i6 i9 i10).bind (Sum.elim (it (mX8_parts_L24 K R M r i3 i6) n24) some) = some v24 := m41
            unfold mX8_parts_B24 at m41
            have J88 : ∀ (i11 : Int32) (s12 : Int32), (mX8_parts_J88 K R M r i3 i6 i11 s12).bind (Sum.elim (it (mX8_parts_L24 K R M r i3 i6) n24) some) = some v24 → w 0 0 88 [(0, .ref r), (1, .int i3), (2, .int i6), (4, .int i11)] [.int s12] K R M := by
              intro i11 s12 m42
              unfold mX8_parts_J88 at m42
              refine r_istore_n hw dX8_parts_88 rfl (by decide) rfl ?_
              obtain ⟨i13, ei13, m43⟩ := h_nm m42
              clear m42
              refine r_iinc (j := 4) (v := i13) hw dX8_parts_89 rfl (by rw [ei13]; rfl) (by decide) rfl ?_
              refine r_goto (tgt := 24) hw dX8_parts_92 (by decide) ?_
              refine r_sub hw [2, 3, 4, 1, 0] rfl ?_
              exact ih24 _ _ m43
            have J87 : ∀ (i14 : Int32), (mX8_parts_J87 K R M r i3 i6 i14).bind (Sum.elim (it (mX8_parts_L24 K R M r i3 i6) n24) some) = some v24 → w 0 0 87 [(0, .ref r), (1, .int i3), (2, .int i6), (4, .int i14)] [] K R M := by
              intro i14 m44
              unfold mX8_parts_J87 at m44
              refine r_iconst (v := 0) hw dX8_parts_87 rfl ?_
              exact J88 _ _ m44
            refine r_iload hw dX8_parts_24 4 rfl ?_
            refine r_aload_n hw dX8_parts_26 0 rfl ?_
            refine r_getI hw fO_X8_153 h1 dX8_parts_27 ?_
            refine r_icmp_ge (tgt := 95) hw dX8_parts_30 (by decide) (fun c15 => ?_) (fun c15 => ?_)
            · have m45 := h_if_f c15 m41
              clear m41
              have m46 := h_ex m45 hv24
              clear m45
              refine r_iload_n hw dX8_parts_95 3 rfl ?_
              refine r_if_eq (tgt := 101) hw dX8_parts_96 (by decide) (fun c16 => ?_) (fun c16 => ?_)
              · have m47 := h_if_t c16 m46
                clear m46
                obtain ⟨i17, ei17, m48⟩ := h_nm m47
                clear m47
                refine r_iinc (j := 1) (v := i17) hw dX8_parts_101 rfl (by rw [ei17]; rfl) (by decide) rfl ?_
                refine r_goto (tgt := 2) hw dX8_parts_104 (by decide) ?_
                refine r_sub hw [1, 0] rfl ?_
                exact ih2 _ m48
              · have m49 := h_if_f c16 m46
                clear m46
                have m50 := h_ex m49 hv2
                clear m49
                refine r_iconst (v := 1) hw dX8_parts_99 rfl ?_
                cases h_ret m50
                exact r_zreturn hw isB_1 rfl rfl dX8_parts_100
            · have m51 := h_if_t c15 m41
              clear m41
              refine r_iload_n hw dX8_parts_33 3 rfl ?_
              refine r_if_eq (tgt := 87) hw dX8_parts_34 (by decide) (fun c18 => ?_) (fun c18 => ?_)
              · have m52 := h_if_t c18 m51
                clear m51
                refine r_sub hw [0, 1, 2, 4] rfl ?_
                exact J87 _ m52
              · have m53 := h_if_f c18 m51
                clear m51
                refine r_aload_n hw dX8_parts_37 0 rfl ?_
                obtain ⟨q19, bq19, m54⟩ := h_bd m53
                clear m53
                refine r_getR hw fO_X8_42 h1 bq19 dX8_parts_38 ?_
                refine r_iload_n hw dX8_parts_41 1 rfl ?_
                obtain ⟨h20, m55⟩ := h_ck m54
                clear m54
                refine r_laload hw h20 dX8_parts_42 ?_
                refine r_aload_n hw dX8_parts_43 0 rfl ?_
                obtain ⟨q21, bq21, m56⟩ := h_bd m55
                clear m55
                refine r_getR hw fO_X8_45 h1 bq21 dX8_parts_44 ?_
                refine r_iload_n hw dX8_parts_47 1 rfl ?_
                obtain ⟨h22, m57⟩ := h_ck m56
                clear m56
                refine r_laload hw h22 dX8_parts_48 ?_
                refine r_aload_n hw dX8_parts_49 0 rfl ?_
                refine r_getR hw fO_X8_42 h1 bq19 dX8_parts_50 ?_
                refine r_iload_n hw dX8_parts_53 2 rfl ?_
                obtain ⟨h23, m58⟩ := h_ck m57
                clear m57
                refine r_laload hw h23 dX8_parts_54 ?_
                refine r_aload_n hw dX8_parts_55 0 rfl ?_
                refine r_getR hw fO_X8_45 h1 bq21 dX8_parts_56 ?_
                refine r_iload_n hw dX8_parts_59 2 rfl ?_
                obtain ⟨h24, m59⟩ := h_ck m58
                clear m58
                refine r_laload hw h24 dX8_parts_60 ?_
                refine r_aload_n hw dX8_parts_61 0 rfl ?_
                obtain ⟨q25, bq25, m60⟩ := h_bd m59
                clear m59
                refine r_getR hw fO_X8_48 h1 bq25 dX8_parts_62 ?_
                refine r_iload hw dX8_parts_65 4 rfl ?_
                obtain ⟨h26, m61⟩ := h_ck m60
                clear m60
                refine r_laload hw h26 dX8_parts_67 ?_
                refine r_aload_n hw dX8_parts_68 0 rfl ?_
                obtain ⟨q27, bq27, m62⟩ := h_bd m61
                clear m61
                refine r_getR hw fO_X8_51 h1 bq27 dX8_parts_69 ?_
                refine r_iload hw dX8_parts_72 4 rfl ?_
                obtain ⟨h28, m63⟩ := h_ck m62
                clear m62
                refine r_laload hw h28 dX8_parts_74 ?_
                obtain ⟨l29, g29, m64⟩ := h_bd m63
                clear m63
                refine r_callS1 hw (tX8_side l G b0 g29) lB_X8_side sT_X8_side mL_X8_128 rfl rfl (Nat.le_of_ble_eq_true rfl) (Nat.le_of_ble_eq_true rfl) rfl (Nat.le_of_ble_eq_true rfl) dX8_parts_75 ?_
                refine r_lconst (v := 0) hw dX8_parts_78 rfl ?_
                refine r_lcmp_gt (tgt := 87) hw dX8_parts_79 dX8_parts_80 (by decide) (fun c30 => ?_) (fun c30 => ?_)
                · have m65 := h_if_f c30 m64
                  clear m64
                  refine r_sub hw [0, 1, 2, 4] rfl ?_
                  exact J87 _ m65
                · have m66 := h_if_t c30 m64
                  clear m64
                  refine r_iconst (v := 1) hw dX8_parts_83 rfl ?_
                  refine r_goto (tgt := 88) hw dX8_parts_84 (by decide) ?_
                  refine r_sub hw [0, 1, 2, 4] rfl ?_
                  exact J88 _ _ m66
        exact L24 n024 _ _ hn24
  exact L2 n02 _ hn2
theorem dX8_isOver_0 : decode cX8_isOver 0 = .ok (.aload_n 0, 1) := by decide +kernel
theorem dX8_isOver_1 : decode cX8_isOver 1 = .ok (.iload_n 2, 1) := by decide +kernel
theorem dX8_isOver_2 : decode cX8_isOver 2 = .ok (.invokevirtual 244, 3) := by decide +kernel
theorem dX8_isOver_5 : decode cX8_isOver 5 = .ok (.aload_n 0, 1) := by decide +kernel
theorem dX8_isOver_6 : decode cX8_isOver 6 = .ok (.iload_n 1, 1) := by decide +kernel
theorem dX8_isOver_7 : decode cX8_isOver 7 = .ok (.invokevirtual 149, 3) := by decide +kernel
theorem dX8_isOver_10 : decode cX8_isOver 10 = .ok (.aload_n 0, 1) := by decide +kernel
theorem dX8_isOver_11 : decode cX8_isOver 11 = .ok (.invokevirtual 274, 3) := by decide +kernel
theorem dX8_isOver_14 : decode cX8_isOver 14 = .ok (.istore_n 3, 1) := by decide +kernel
theorem dX8_isOver_15 : decode cX8_isOver 15 = .ok (.aload_n 0, 1) := by decide +kernel
theorem dX8_isOver_16 : decode cX8_isOver 16 = .ok (.iload_n 1, 1) := by decide +kernel
theorem dX8_isOver_17 : decode cX8_isOver 17 = .ok (.invokevirtual 244, 3) := by decide +kernel
theorem dX8_isOver_20 : decode cX8_isOver 20 = .ok (.aload_n 0, 1) := by decide +kernel
theorem dX8_isOver_21 : decode cX8_isOver 21 = .ok (.iload_n 2, 1) := by decide +kernel
theorem dX8_isOver_22 : decode cX8_isOver 22 = .ok (.invokevirtual 149, 3) := by decide +kernel
theorem dX8_isOver_25 : decode cX8_isOver 25 = .ok (.iload_n 3, 1) := by decide +kernel
theorem dX8_isOver_26 : decode cX8_isOver 26 = .ok (.ifCond .ne 14, 3) := by decide +kernel
theorem dX8_isOver_29 : decode cX8_isOver 29 = .ok (.aload_n 0, 1) := by decide +kernel
theorem dX8_isOver_30 : decode cX8_isOver 30 = .ok (.invokevirtual 274, 3) := by decide +kernel
theorem dX8_isOver_33 : decode cX8_isOver 33 = .ok (.ifCond .ne 7, 3) := by decide +kernel
theorem dX8_isOver_36 : decode cX8_isOver 36 = .ok (.iconst 1, 1) := by decide +kernel
theorem dX8_isOver_37 : decode cX8_isOver 37 = .ok (.goto 4, 3) := by decide +kernel
theorem dX8_isOver_40 : decode cX8_isOver 40 = .ok (.iconst 0, 1) := by decide +kernel
theorem dX8_isOver_41 : decode cX8_isOver 41 = .ok (.ireturn, 1) := by decide +kernel
set_option maxHeartbeats 4000000 in
set_option maxRecDepth 100000 in
theorem tX8_isOver (l : Launch) (G : Gg) (b0 : Nat) {K : Kk} {R : Rr} {M : Mm} {r : Nat} {a0 : Int32} {a1 : Int32} {res : Int32} {M' : Mm} (hm : mX8_isOver K R M r a0 a1 = some (res, M')) : CT l G b0 yX8_isOver cX8_isOver 4 (some .boolean) (rmz 6 131) [.ref r, .int a0, .int a1] K R M (some (.int res)) K R M' := by
  refine ct_of (by decide +kernel) (Nat.le_of_ble_eq_true rfl) (fun w hw => ?_)
  change w 0 0 0 [(0, .ref r), (1, .int a0), (2, .int a1)] [] K R M
  replace hm := h_start hm
  unfold mX8_isOver at hm
  obtain ⟨h1, m10⟩ := h_ck hm
  clear hm
  refine r_aload_n hw dX8_isOver_0 0 rfl ?_
  refine r_iload_n hw dX8_isOver_1 2 rfl ?_
  obtain ⟨M2, g2, m11⟩ := h_bd m10
  clear m10
  refine r_callV0 hw (tX8_lookB l G b0 g2) lB_X8_lookB lI_X8_lookB mL_X8_244 (c := 8) rfl h1 rfl (Nat.le_of_ble_eq_true rfl) (Nat.le_of_ble_eq_true rfl) rfl (Nat.le_of_ble_eq_true rfl) dX8_isOver_2 ?_
  refine r_aload_n hw dX8_isOver_5 0 rfl ?_
  refine r_iload_n hw dX8_isOver_6 1 rfl ?_
  obtain ⟨M3, g3, m12⟩ := h_bd m11
  clear m11
  refine r_callV0 hw (tX8_lookA l G b0 g3) lB_X8_lookA lI_X8_lookA mL_X8_149 (c := 8) rfl h1 rfl (Nat.le_of_ble_eq_true rfl) (Nat.le_of_ble_eq_true rfl) rfl (Nat.le_of_ble_eq_true rfl) dX8_isOver_7 ?_
  refine r_aload_n hw dX8_isOver_10 0 rfl ?_
  obtain ⟨i4, g4, m13⟩ := h_bd m12
  clear m12
  refine r_callV1 hw (tX8_parts l G b0 g4) lB_X8_parts lI_X8_parts mL_X8_274 (c := 8) rfl h1 rfl (Nat.le_of_ble_eq_true rfl) (Nat.le_of_ble_eq_true rfl) rfl (Nat.le_of_ble_eq_true rfl) dX8_isOver_11 ?_
  refine r_istore_n hw dX8_isOver_14 rfl (by decide) rfl ?_
  refine r_aload_n hw dX8_isOver_15 1 rfl ?_
  refine r_iload_n hw dX8_isOver_16 2 rfl ?_
  obtain ⟨M5, g5, m14⟩ := h_bd m13
  clear m13
  refine r_callV0 hw (tX8_lookB l G b0 g5) lB_X8_lookB lI_X8_lookB mL_X8_244 (c := 8) rfl h1 rfl (Nat.le_of_ble_eq_true rfl) (Nat.le_of_ble_eq_true rfl) rfl (Nat.le_of_ble_eq_true rfl) dX8_isOver_17 ?_
  refine r_aload_n hw dX8_isOver_20 1 rfl ?_
  refine r_iload_n hw dX8_isOver_21 3 rfl ?_
  obtain ⟨M6, g6, m15⟩ := h_bd m14
  clear m14
  refine r_callV0 hw (tX8_lookA l G b0 g6) lB_X8_lookA lI_X8_lookA mL_X8_149 (c := 8) rfl h1 rfl (Nat.le_of_ble_eq_true rfl) (Nat.le_of_ble_eq_true rfl) rfl (Nat.le_of_ble_eq_true rfl) dX8_isOver_22 ?_
  refine r_iload_n hw dX8_isOver_25 0 rfl ?_
  refine r_if_ne (tgt := 40) hw dX8_isOver_26 (by decide) (fun c7 => ?_) (fun c7 => ?_)
  · have m16 := h_if_f c7 m15
    clear m15
    refine r_iconst (v := 0) hw dX8_isOver_40 rfl ?_
    cases h_ret m16
    exact r_zreturn hw isB_0 rfl rfl dX8_isOver_41
  · have m17 := h_if_t c7 m15
    clear m15
    refine r_aload_n hw dX8_isOver_29 1 rfl ?_
    obtain ⟨i8, g8, m18⟩ := h_bd m17
    clear m17
    refine r_callV1 hw (tX8_parts l G b0 g8) lB_X8_parts lI_X8_parts mL_X8_274 (c := 8) rfl h1 rfl (Nat.le_of_ble_eq_true rfl) (Nat.le_of_ble_eq_true rfl) rfl (Nat.le_of_ble_eq_true rfl) dX8_isOver_30 ?_
    refine r_if_ne (tgt := 40) hw dX8_isOver_33 (by decide) (fun c9 => ?_) (fun c9 => ?_)
    · have m19 := h_if_f c9 m18
      clear m18
      refine r_iconst (v := 0) hw dX8_isOver_40 rfl ?_
      cases h_ret m19
      exact r_zreturn hw isB_0 rfl rfl dX8_isOver_41
    · have m20 := h_if_t c9 m18
      clear m18
      refine r_iconst (v := 1) hw dX8_isOver_36 rfl ?_
      refine r_goto (tgt := 41) hw dX8_isOver_37 (by decide) ?_
      cases h_ret m20
      exact r_zreturn hw isB_1 rfl rfl dX8_isOver_41
theorem dX8_over_0 : decode cX8_over 0 = .ok (.aload_n 0, 1) := by decide +kernel
theorem dX8_over_1 : decode cX8_over 1 = .ok (.iload_n 1, 1) := by decide +kernel
theorem dX8_over_2 : decode cX8_over 2 = .ok (.invokevirtual 226, 3) := by decide +kernel
theorem dX8_over_5 : decode cX8_over 5 = .ok (.ifCond .eq 16, 3) := by decide +kernel
theorem dX8_over_8 : decode cX8_over 8 = .ok (.aload_n 0, 1) := by decide +kernel
theorem dX8_over_9 : decode cX8_over 9 = .ok (.iload_n 2, 1) := by decide +kernel
theorem dX8_over_10 : decode cX8_over 10 = .ok (.invokevirtual 226, 3) := by decide +kernel
theorem dX8_over_13 : decode cX8_over 13 = .ok (.ifCond .eq 8, 3) := by decide +kernel
theorem dX8_over_16 : decode cX8_over 16 = .ok (.iload_n 1, 1) := by decide +kernel
theorem dX8_over_17 : decode cX8_over 17 = .ok (.iload_n 2, 1) := by decide +kernel
theorem dX8_over_18 : decode cX8_over 18 = .ok (.if_icmp .ne 7, 3) := by decide +kernel
theorem dX8_over_21 : decode cX8_over 21 = .ok (.ldc2_w 160, 3) := by decide +kernel
theorem dX8_over_24 : decode cX8_over 24 = .ok (.lreturn, 1) := by decide +kernel
theorem dX8_over_25 : decode cX8_over 25 = .ok (.aload_n 0, 1) := by decide +kernel
theorem dX8_over_26 : decode cX8_over 26 = .ok (.iload_n 1, 1) := by decide +kernel
theorem dX8_over_27 : decode cX8_over 27 = .ok (.iload_n 2, 1) := by decide +kernel
theorem dX8_over_28 : decode cX8_over 28 = .ok (.invokevirtual 277, 3) := by decide +kernel
theorem dX8_over_31 : decode cX8_over 31 = .ok (.ifCond .eq 7, 3) := by decide +kernel
theorem dX8_over_34 : decode cX8_over 34 = .ok (.lconst 1, 1) := by decide +kernel
theorem dX8_over_35 : decode cX8_over 35 = .ok (.goto 4, 3) := by decide +kernel
theorem dX8_over_38 : decode cX8_over 38 = .ok (.lconst 0, 1) := by decide +kernel
theorem dX8_over_39 : decode cX8_over 39 = .ok (.lreturn, 1) := by decide +kernel
set_option maxHeartbeats 4000000 in
set_option maxRecDepth 100000 in
theorem tX8_over (l : Launch) (G : Gg) (b0 : Nat) {K : Kk} {R : Rr} {M : Mm} {r : Nat} {a0 : Int32} {a1 : Int32} {res : Int64} {M' : Mm} (hm : mX8_over K R M r a0 a1 = some (res, M')) : CT l G b0 yX8_over cX8_over 3 (some .long) (rmz 7 154) [.ref r, .int a0, .int a1] K R M (some (.long res)) K R M' := by
  refine ct_of (by decide +kernel) (Nat.le_of_ble_eq_true rfl) (fun w hw => ?_)
  change w 0 0 0 [(0, .ref r), (1, .int a0), (2, .int a1)] [] K R M
  replace hm := h_start hm
  unfold mX8_over at hm
  obtain ⟨h1, m10⟩ := h_ck hm
  clear hm
  refine r_aload_n hw dX8_over_0 0 rfl ?_
  refine r_iload_n hw dX8_over_1 1 rfl ?_
  obtain ⟨i2, g2, m11⟩ := h_bd m10
  clear m10
  refine r_callV1 hw (tX8_isPiece l G b0 g2) lB_X8_isPiece lI_X8_isPiece mL_X8_226 (c := 8) rfl h1 rfl (Nat.le_of_ble_eq_true rfl) (Nat.le_of_ble_eq_true rfl) rfl (Nat.le_of_ble_eq_true rfl) dX8_over_2 ?_
  refine r_if_eq (tgt := 21) hw dX8_over_5 (by decide) (fun c3 => ?_) (fun c3 => ?_)
  · have m12 := h_if_t c3 m11
    clear m11
    refine r_ldc2 (v := (-9000000000000000001)) hw dX8_over_21 kW_X8_160 ?_
    cases h_ret m12
    exact r_lreturn hw rfl rfl dX8_over_24
  · have m13 := h_if_f c3 m11
    clear m11
    refine r_aload_n hw dX8_over_8 0 rfl ?_
    refine r_iload_n hw dX8_over_9 2 rfl ?_
    obtain ⟨i4, g4, m14⟩ := h_bd m13
    clear m13
    refine r_callV1 hw (tX8_isPiece l G b0 g4) lB_X8_isPiece lI_X8_isPiece mL_X8_226 (c := 8) rfl h1 rfl (Nat.le_of_ble_eq_true rfl) (Nat.le_of_ble_eq_true rfl) rfl (Nat.le_of_ble_eq_true rfl) dX8_over_10 ?_
    refine r_if_eq (tgt := 21) hw dX8_over_13 (by decide) (fun c5 => ?_) (fun c5 => ?_)
    · have m15 := h_if_t c5 m14
      clear m14
      refine r_ldc2 (v := (-9000000000000000001)) hw dX8_over_21 kW_X8_160 ?_
      cases h_ret m15
      exact r_lreturn hw rfl rfl dX8_over_24
    · have m16 := h_if_f c5 m14
      clear m14
      refine r_iload_n hw dX8_over_16 1 rfl ?_
      refine r_iload_n hw dX8_over_17 2 rfl ?_
      refine r_icmp_ne (tgt := 25) hw dX8_over_18 (by decide) (fun c6 => ?_) (fun c6 => ?_)
      · have m17 := h_if_f c6 m16
        clear m16
        refine r_aload_n hw dX8_over_25 0 rfl ?_
        refine r_iload_n hw dX8_over_26 1 rfl ?_
        refine r_iload_n hw dX8_over_27 2 rfl ?_
        obtain ⟨i7, M8, g8, m18⟩ := h_bd2 m17
        clear m17
        refine r_callV1 hw (tX8_isOver l G b0 g8) lB_X8_isOver lI_X8_isOver mL_X8_277 (c := 8) rfl h1 rfl (Nat.le_of_ble_eq_true rfl) (Nat.le_of_ble_eq_true rfl) rfl (Nat.le_of_ble_eq_true rfl) dX8_over_28 ?_
        refine r_if_eq (tgt := 38) hw dX8_over_31 (by decide) (fun c9 => ?_) (fun c9 => ?_)
        · have m19 := h_if_t c9 m18
          clear m18
          refine r_lconst (v := 0) hw dX8_over_38 rfl ?_
          cases h_ret m19
          exact r_lreturn hw rfl rfl dX8_over_39
        · have m20 := h_if_f c9 m18
          clear m18
          refine r_lconst (v := 1) hw dX8_over_34 rfl ?_
          refine r_goto (tgt := 39) hw dX8_over_35 (by decide) ?_
          cases h_ret m20
          exact r_lreturn hw rfl rfl dX8_over_39
      · have m21 := h_if_t c6 m16
        clear m16
        refine r_ldc2 (v := (-9000000000000000001)) hw dX8_over_21 kW_X8_160 ?_
        cases h_ret m21
        exact r_lreturn hw rfl rfl dX8_over_24
theorem dX8_hasA_0 : decode cX8_hasA 0 = .ok (.iconst 1, 1) := by decide +kernel
theorem dX8_hasA_1 : decode cX8_hasA 1 = .ok (.istore 5, 2) := by decide +kernel
theorem dX8_hasA_3 : decode cX8_hasA 3 = .ok (.iconst 0, 1) := by decide +kernel
theorem dX8_hasA_4 : decode cX8_hasA 4 = .ok (.istore 6, 2) := by decide +kernel
theorem dX8_hasA_6 : decode cX8_hasA 6 = .ok (.iload 6, 2) := by decide +kernel
theorem dX8_hasA_8 : decode cX8_hasA 8 = .ok (.aload_n 0, 1) := by decide +kernel
theorem dX8_hasA_9 : decode cX8_hasA 9 = .ok (.getfield 146, 3) := by decide +kernel
theorem dX8_hasA_12 : decode cX8_hasA 12 = .ok (.if_icmp .ge 70, 3) := by decide +kernel
theorem dX8_hasA_15 : decode cX8_hasA 15 = .ok (.iload 6, 2) := by decide +kernel
theorem dX8_hasA_17 : decode cX8_hasA 17 = .ok (.iconst 1, 1) := by decide +kernel
theorem dX8_hasA_18 : decode cX8_hasA 18 = .ok (.iadd, 1) := by decide +kernel
theorem dX8_hasA_19 : decode cX8_hasA 19 = .ok (.aload_n 0, 1) := by decide +kernel
theorem dX8_hasA_20 : decode cX8_hasA 20 = .ok (.getfield 146, 3) := by decide +kernel
theorem dX8_hasA_23 : decode cX8_hasA 23 = .ok (.irem, 1) := by decide +kernel
theorem dX8_hasA_24 : decode cX8_hasA 24 = .ok (.istore 7, 2) := by decide +kernel
theorem dX8_hasA_26 : decode cX8_hasA 26 = .ok (.iload 5, 2) := by decide +kernel
theorem dX8_hasA_28 : decode cX8_hasA 28 = .ok (.ifCond .eq 45, 3) := by decide +kernel
theorem dX8_hasA_31 : decode cX8_hasA 31 = .ok (.aload_n 0, 1) := by decide +kernel
theorem dX8_hasA_32 : decode cX8_hasA 32 = .ok (.getfield 42, 3) := by decide +kernel
theorem dX8_hasA_35 : decode cX8_hasA 35 = .ok (.iload 6, 2) := by decide +kernel
theorem dX8_hasA_37 : decode cX8_hasA 37 = .ok (.laload, 1) := by decide +kernel
theorem dX8_hasA_38 : decode cX8_hasA 38 = .ok (.aload_n 0, 1) := by decide +kernel
theorem dX8_hasA_39 : decode cX8_hasA 39 = .ok (.getfield 45, 3) := by decide +kernel
theorem dX8_hasA_42 : decode cX8_hasA 42 = .ok (.iload 6, 2) := by decide +kernel
theorem dX8_hasA_44 : decode cX8_hasA 44 = .ok (.laload, 1) := by decide +kernel
theorem dX8_hasA_45 : decode cX8_hasA 45 = .ok (.aload_n 0, 1) := by decide +kernel
theorem dX8_hasA_46 : decode cX8_hasA 46 = .ok (.getfield 42, 3) := by decide +kernel
theorem dX8_hasA_49 : decode cX8_hasA 49 = .ok (.iload 7, 2) := by decide +kernel
theorem dX8_hasA_51 : decode cX8_hasA 51 = .ok (.laload, 1) := by decide +kernel
theorem dX8_hasA_52 : decode cX8_hasA 52 = .ok (.aload_n 0, 1) := by decide +kernel
theorem dX8_hasA_53 : decode cX8_hasA 53 = .ok (.getfield 45, 3) := by decide +kernel
theorem dX8_hasA_56 : decode cX8_hasA 56 = .ok (.iload 7, 2) := by decide +kernel
theorem dX8_hasA_58 : decode cX8_hasA 58 = .ok (.laload, 1) := by decide +kernel
theorem dX8_hasA_59 : decode cX8_hasA 59 = .ok (.lload_n 1, 1) := by decide +kernel
theorem dX8_hasA_60 : decode cX8_hasA 60 = .ok (.lload_n 3, 1) := by decide +kernel
theorem dX8_hasA_61 : decode cX8_hasA 61 = .ok (.invokestatic 128, 3) := by decide +kernel
theorem dX8_hasA_64 : decode cX8_hasA 64 = .ok (.lconst 0, 1) := by decide +kernel
theorem dX8_hasA_65 : decode cX8_hasA 65 = .ok (.lcmp, 1) := by decide +kernel
theorem dX8_hasA_66 : decode cX8_hasA 66 = .ok (.ifCond .lt 7, 3) := by decide +kernel
theorem dX8_hasA_69 : decode cX8_hasA 69 = .ok (.iconst 1, 1) := by decide +kernel
theorem dX8_hasA_70 : decode cX8_hasA 70 = .ok (.goto 4, 3) := by decide +kernel
theorem dX8_hasA_73 : decode cX8_hasA 73 = .ok (.iconst 0, 1) := by decide +kernel
theorem dX8_hasA_74 : decode cX8_hasA 74 = .ok (.istore 5, 2) := by decide +kernel
theorem dX8_hasA_76 : decode cX8_hasA 76 = .ok (.iinc 6 1, 3) := by decide +kernel
theorem dX8_hasA_79 : decode cX8_hasA 79 = .ok (.goto (-73), 3) := by decide +kernel
theorem dX8_hasA_82 : decode cX8_hasA 82 = .ok (.iload 5, 2) := by decide +kernel
theorem dX8_hasA_84 : decode cX8_hasA 84 = .ok (.ireturn, 1) := by decide +kernel
set_option maxHeartbeats 4000000 in
set_option maxRecDepth 100000 in
theorem tX8_hasA (l : Launch) (G : Gg) (b0 : Nat) {K : Kk} {R : Rr} {M : Mm} {r : Nat} {a0 : Int64} {a1 : Int64} {res : Int32} (hm : mX8_hasA K R M r a0 a1 = some (res)) : CT l G b0 yX8_hasA cX8_hasA 8 (some .boolean) (rmz 2 31) [.ref r, .long a0, .long a1] K R M (some (.int res)) K R M := by
  refine ct_of (by decide +kernel) (Nat.le_of_ble_eq_true rfl) (fun w hw => ?_)
  change w 0 0 0 [(0, .ref r), (1, .long a0), (3, .long a1)] [] K R M
  replace hm := h_start hm
  unfold mX8_hasA at hm
  obtain ⟨h1, m23⟩ := h_ck hm
  clear hm
  refine r_iconst (v := 1) hw dX8_hasA_0 rfl ?_
  obtain ⟨i2, ei2, m24⟩ := h_nm m23
  clear m23
  refine r_topI (w := w) ei2 ?_
  refine r_istore hw dX8_hasA_1 (by decide) rfl ?_
  refine r_iconst (v := 0) hw dX8_hasA_3 rfl ?_
  obtain ⟨i3, ei3, m25⟩ := h_nm m24
  clear m24
  refine r_topI (w := w) ei3 ?_
  refine r_istore hw dX8_hasA_4 (by decide) rfl ?_
  refine r_sub hw [2, 3, 4, 1, 0] rfl ?_
  obtain ⟨v6, n06, hn6, hv6⟩ := h_lp m25
  clear m25
  have L6 : ∀ n : Nat, ∀ (i4 : Int32) (i5 : Int32), it (mX8_hasA_L6 K R M r a0 a1) n (i4, i5) = some v6 → w 0 0 6 [(0, .ref r), (1, .long a0), (3, .long a1), (5, .int i4), (6, .int i5)] [] K R M := by
    intro n6
    induction n6 with
    | zero => intro i4 i5 hz; exact absurd hz h_it0
    | succ n6 ih6 =>
      intro i4 i5 m26
      replace m26 : (mX8_hasA_B6 K R M r a0 a1 i4 i5).bind (Sum.elim (it (mX8_hasA_L6 K R M r a0 a1) n6) some) = some v6 := m26
      unfold mX8_hasA_B6 at m26
      have J74 : ∀ (i6 : Int32) (s7 : Int32), (mX8_hasA_J74 K R M r a0 a1 i6 s7).bind (Sum.elim (it (mX8_hasA_L6 K R M r a0 a1) n6) some) = some v6 → w 0 0 74 [(0, .ref r), (1, .long a0), (3, .long a1), (6, .int i6)] [.int s7] K R M := by
        intro i6 s7 m27
        unfold mX8_hasA_J74 at m27
        refine r_istore hw dX8_hasA_74 (by decide) rfl ?_
        obtain ⟨i8, ei8, m28⟩ := h_nm m27
        clear m27
        refine r_iinc (j := 4) (v := i8) hw dX8_hasA_76 rfl (by rw [ei8]; rfl) (by decide) rfl ?_
        refine r_goto (tgt := 6) hw dX8_hasA_79 (by decide) ?_
        refine r_sub hw [2, 3, 4, 1, 0] rfl ?_
        exact ih6 _ _ m28
      have J73 : ∀ (i9 : Int32), (mX8_hasA_J73 K R M r a0 a1 i9).bind (Sum.elim (it (mX8_hasA_L6 K R M r a0 a1) n6) some) = some v6 → w 0 0 73 [(0, .ref r), (1, .long a0), (3, .long a1), (6, .int i9)] [] K R M := by
        intro i9 m29
        unfold mX8_hasA_J73 at m29
        refine r_iconst (v := 0) hw dX8_hasA_73 rfl ?_
        exact J74 _ _ m29
      refine r_iload hw dX8_hasA_6 4 rfl ?_
      refine r_aload_n hw dX8_hasA_8 0 rfl ?_
      refine r_getI hw fO_X8_146 h1 dX8_hasA_9 ?_
      refine r_icmp_ge (tgt := 82) hw dX8_hasA_12 (by decide) (fun c10 => ?_) (fun c10 => ?_)
      · have m30 := h_if_f c10 m26
        clear m26
        have m31 := h_ex m30 hv6
        clear m30
        refine r_iload hw dX8_hasA_82 3 rfl ?_
        obtain ⟨h11, m32⟩ := h_ck m31
        clear m31
        cases h_ret m32
        exact r_zreturn hw h11 rfl rfl dX8_hasA_84
      · have m33 := h_if_t c10 m26
        clear m26
        refine r_iload hw dX8_hasA_15 4 rfl ?_
        refine r_iconst (v := 1) hw dX8_hasA_17 rfl ?_
        refine r_iadd hw dX8_hasA_18 ?_
        refine r_aload_n hw dX8_hasA_19 0 rfl ?_
        refine r_getI hw fO_X8_146 h1 dX8_hasA_20 ?_
        obtain ⟨h12, m34⟩ := h_ck m33
        clear m33
        refine r_irem hw dX8_hasA_23 h12 ?_
        obtain ⟨i13, ei13, m35⟩ := h_nm m34
        clear m34
        refine r_topI (w := w) ei13 ?_
        refine r_istore hw dX8_hasA_24 (by decide) rfl ?_
        refine r_iload hw dX8_hasA_26 4 rfl ?_
        refine r_if_eq (tgt := 73) hw dX8_hasA_28 (by decide) (fun c14 => ?_) (fun c14 => ?_)
        · have m36 := h_if_t c14 m35
          clear m35
          refine r_sub hw [1, 2, 3, 5] rfl ?_
          exact J73 _ m36
        · have m37 := h_if_f c14 m35
          clear m35
          refine r_aload_n hw dX8_hasA_31 1 rfl ?_
          obtain ⟨q15, bq15, m38⟩ := h_bd m37
          clear m37
          refine r_getR hw fO_X8_42 h1 bq15 dX8_hasA_32 ?_
          refine r_iload hw dX8_hasA_35 5 rfl ?_
          obtain ⟨h16, m39⟩ := h_ck m38
          clear m38
          refine r_laload hw h16 dX8_hasA_37 ?_
          refine r_aload_n hw dX8_hasA_38 1 rfl ?_
          obtain ⟨q17, bq17, m40⟩ := h_bd m39
          clear m39
          refine r_getR hw fO_X8_45 h1 bq17 dX8_hasA_39 ?_
          refine r_iload hw dX8_hasA_42 5 rfl ?_
          obtain ⟨h18, m41⟩ := h_ck m40
          clear m40
          refine r_laload hw h18 dX8_hasA_44 ?_
          refine r_aload_n hw dX8_hasA_45 1 rfl ?_
          refine r_getR hw fO_X8_42 h1 bq15 dX8_hasA_46 ?_
          refine r_iload hw dX8_hasA_49 0 rfl ?_
          obtain ⟨h19, m42⟩ := h_ck m41
          clear m41
          refine r_laload hw h19 dX8_hasA_51 ?_
          refine r_aload_n hw dX8_hasA_52 1 rfl ?_
          refine r_getR hw fO_X8_45 h1 bq17 dX8_hasA_53 ?_
          refine r_iload hw dX8_hasA_56 0 rfl ?_
          obtain ⟨h20, m43⟩ := h_ck m42
          clear m42
          refine r_laload hw h20 dX8_hasA_58 ?_
          refine r_lload_n hw dX8_hasA_59 2 rfl ?_
          refine r_lload_n hw dX8_hasA_60 3 rfl ?_
          obtain ⟨l21, g21, m44⟩ := h_bd m43
          clear m43
          refine r_callS1 hw (tX8_side l G b0 g21) lB_X8_side sT_X8_side mL_X8_128 rfl rfl (Nat.le_of_ble_eq_true rfl) (Nat.le_of_ble_eq_true rfl) rfl (Nat.le_of_ble_eq_true rfl) dX8_hasA_61 ?_
          refine r_lconst (v := 0) hw dX8_hasA_64 rfl ?_
          refine r_lcmp_lt (tgt := 73) hw dX8_hasA_65 dX8_hasA_66 (by decide) (fun c22 => ?_) (fun c22 => ?_)
          · have m45 := h_if_t c22 m44
            clear m44
            refine r_sub hw [1, 2, 3, 5] rfl ?_
            exact J73 _ m45
          · have m46 := h_if_f c22 m44
            clear m44
            refine r_iconst (v := 1) hw dX8_hasA_69 rfl ?_
            refine r_goto (tgt := 74) hw dX8_hasA_70 (by decide) ?_
            refine r_sub hw [1, 2, 3, 5] rfl ?_
            exact J74 _ _ m46
  exact L6 n06 _ _ hn6
theorem dX8_hasB_0 : decode cX8_hasB 0 = .ok (.iconst 1, 1) := by decide +kernel
theorem dX8_hasB_1 : decode cX8_hasB 1 = .ok (.istore 5, 2) := by decide +kernel
theorem dX8_hasB_3 : decode cX8_hasB 3 = .ok (.iconst 0, 1) := by decide +kernel
theorem dX8_hasB_4 : decode cX8_hasB 4 = .ok (.istore 6, 2) := by decide +kernel
theorem dX8_hasB_6 : decode cX8_hasB 6 = .ok (.iload 6, 2) := by decide +kernel
theorem dX8_hasB_8 : decode cX8_hasB 8 = .ok (.aload_n 0, 1) := by decide +kernel
theorem dX8_hasB_9 : decode cX8_hasB 9 = .ok (.getfield 153, 3) := by decide +kernel
theorem dX8_hasB_12 : decode cX8_hasB 12 = .ok (.if_icmp .ge 70, 3) := by decide +kernel
theorem dX8_hasB_15 : decode cX8_hasB 15 = .ok (.iload 6, 2) := by decide +kernel
theorem dX8_hasB_17 : decode cX8_hasB 17 = .ok (.iconst 1, 1) := by decide +kernel
theorem dX8_hasB_18 : decode cX8_hasB 18 = .ok (.iadd, 1) := by decide +kernel
theorem dX8_hasB_19 : decode cX8_hasB 19 = .ok (.aload_n 0, 1) := by decide +kernel
theorem dX8_hasB_20 : decode cX8_hasB 20 = .ok (.getfield 153, 3) := by decide +kernel
theorem dX8_hasB_23 : decode cX8_hasB 23 = .ok (.irem, 1) := by decide +kernel
theorem dX8_hasB_24 : decode cX8_hasB 24 = .ok (.istore 7, 2) := by decide +kernel
theorem dX8_hasB_26 : decode cX8_hasB 26 = .ok (.iload 5, 2) := by decide +kernel
theorem dX8_hasB_28 : decode cX8_hasB 28 = .ok (.ifCond .eq 45, 3) := by decide +kernel
theorem dX8_hasB_31 : decode cX8_hasB 31 = .ok (.aload_n 0, 1) := by decide +kernel
theorem dX8_hasB_32 : decode cX8_hasB 32 = .ok (.getfield 48, 3) := by decide +kernel
theorem dX8_hasB_35 : decode cX8_hasB 35 = .ok (.iload 6, 2) := by decide +kernel
theorem dX8_hasB_37 : decode cX8_hasB 37 = .ok (.laload, 1) := by decide +kernel
theorem dX8_hasB_38 : decode cX8_hasB 38 = .ok (.aload_n 0, 1) := by decide +kernel
theorem dX8_hasB_39 : decode cX8_hasB 39 = .ok (.getfield 51, 3) := by decide +kernel
theorem dX8_hasB_42 : decode cX8_hasB 42 = .ok (.iload 6, 2) := by decide +kernel
theorem dX8_hasB_44 : decode cX8_hasB 44 = .ok (.laload, 1) := by decide +kernel
theorem dX8_hasB_45 : decode cX8_hasB 45 = .ok (.aload_n 0, 1) := by decide +kernel
theorem dX8_hasB_46 : decode cX8_hasB 46 = .ok (.getfield 48, 3) := by decide +kernel
theorem dX8_hasB_49 : decode cX8_hasB 49 = .ok (.iload 7, 2) := by decide +kernel
theorem dX8_hasB_51 : decode cX8_hasB 51 = .ok (.laload, 1) := by decide +kernel
theorem dX8_hasB_52 : decode cX8_hasB 52 = .ok (.aload_n 0, 1) := by decide +kernel
theorem dX8_hasB_53 : decode cX8_hasB 53 = .ok (.getfield 51, 3) := by decide +kernel
theorem dX8_hasB_56 : decode cX8_hasB 56 = .ok (.iload 7, 2) := by decide +kernel
theorem dX8_hasB_58 : decode cX8_hasB 58 = .ok (.laload, 1) := by decide +kernel
theorem dX8_hasB_59 : decode cX8_hasB 59 = .ok (.lload_n 1, 1) := by decide +kernel
theorem dX8_hasB_60 : decode cX8_hasB 60 = .ok (.lload_n 3, 1) := by decide +kernel
theorem dX8_hasB_61 : decode cX8_hasB 61 = .ok (.invokestatic 128, 3) := by decide +kernel
theorem dX8_hasB_64 : decode cX8_hasB 64 = .ok (.lconst 0, 1) := by decide +kernel
theorem dX8_hasB_65 : decode cX8_hasB 65 = .ok (.lcmp, 1) := by decide +kernel
theorem dX8_hasB_66 : decode cX8_hasB 66 = .ok (.ifCond .lt 7, 3) := by decide +kernel
theorem dX8_hasB_69 : decode cX8_hasB 69 = .ok (.iconst 1, 1) := by decide +kernel
theorem dX8_hasB_70 : decode cX8_hasB 70 = .ok (.goto 4, 3) := by decide +kernel
theorem dX8_hasB_73 : decode cX8_hasB 73 = .ok (.iconst 0, 1) := by decide +kernel
theorem dX8_hasB_74 : decode cX8_hasB 74 = .ok (.istore 5, 2) := by decide +kernel
theorem dX8_hasB_76 : decode cX8_hasB 76 = .ok (.iinc 6 1, 3) := by decide +kernel
theorem dX8_hasB_79 : decode cX8_hasB 79 = .ok (.goto (-73), 3) := by decide +kernel
theorem dX8_hasB_82 : decode cX8_hasB 82 = .ok (.iload 5, 2) := by decide +kernel
theorem dX8_hasB_84 : decode cX8_hasB 84 = .ok (.ireturn, 1) := by decide +kernel
set_option maxHeartbeats 4000000 in
set_option maxRecDepth 100000 in
theorem tX8_hasB (l : Launch) (G : Gg) (b0 : Nat) {K : Kk} {R : Rr} {M : Mm} {r : Nat} {a0 : Int64} {a1 : Int64} {res : Int32} (hm : mX8_hasB K R M r a0 a1 = some (res)) : CT l G b0 yX8_hasB cX8_hasB 8 (some .boolean) (rmz 2 31) [.ref r, .long a0, .long a1] K R M (some (.int res)) K R M := by
  refine ct_of (by decide +kernel) (Nat.le_of_ble_eq_true rfl) (fun w hw => ?_)
  change w 0 0 0 [(0, .ref r), (1, .long a0), (3, .long a1)] [] K R M
  replace hm := h_start hm
  unfold mX8_hasB at hm
  obtain ⟨h1, m23⟩ := h_ck hm
  clear hm
  refine r_iconst (v := 1) hw dX8_hasB_0 rfl ?_
  obtain ⟨i2, ei2, m24⟩ := h_nm m23
  clear m23
  refine r_topI (w := w) ei2 ?_
  refine r_istore hw dX8_hasB_1 (by decide) rfl ?_
  refine r_iconst (v := 0) hw dX8_hasB_3 rfl ?_
  obtain ⟨i3, ei3, m25⟩ := h_nm m24
  clear m24
  refine r_topI (w := w) ei3 ?_
  refine r_istore hw dX8_hasB_4 (by decide) rfl ?_
  refine r_sub hw [2, 3, 4, 1, 0] rfl ?_
  obtain ⟨v6, n06, hn6, hv6⟩ := h_lp m25
  clear m25
  have L6 : ∀ n : Nat, ∀ (i4 : Int32) (i5 : Int32), it (mX8_hasB_L6 K R M r a0 a1) n (i4, i5) = some v6 → w 0 0 6 [(0, .ref r), (1, .long a0), (3, .long a1), (5, .int i4), (6, .int i5)] [] K R M := by
    intro n6
    induction n6 with
    | zero => intro i4 i5 hz; exact absurd hz h_it0
    | succ n6 ih6 =>
      intro i4 i5 m26
      replace m26 : (mX8_hasB_B6 K R M r a0 a1 i4 i5).bind (Sum.elim (it (mX8_hasB_L6 K R M r a0 a1) n6) some) = some v6 := m26
      unfold mX8_hasB_B6 at m26
      have J74 : ∀ (i6 : Int32) (s7 : Int32), (mX8_hasB_J74 K R M r a0 a1 i6 s7).bind (Sum.elim (it (mX8_hasB_L6 K R M r a0 a1) n6) some) = some v6 → w 0 0 74 [(0, .ref r), (1, .long a0), (3, .long a1), (6, .int i6)] [.int s7] K R M := by
        intro i6 s7 m27
        unfold mX8_hasB_J74 at m27
        refine r_istore hw dX8_hasB_74 (by decide) rfl ?_
        obtain ⟨i8, ei8, m28⟩ := h_nm m27
        clear m27
        refine r_iinc (j := 4) (v := i8) hw dX8_hasB_76 rfl (by rw [ei8]; rfl) (by decide) rfl ?_
        refine r_goto (tgt := 6) hw dX8_hasB_79 (by decide) ?_
        refine r_sub hw [2, 3, 4, 1, 0] rfl ?_
        exact ih6 _ _ m28
      have J73 : ∀ (i9 : Int32), (mX8_hasB_J73 K R M r a0 a1 i9).bind (Sum.elim (it (mX8_hasB_L6 K R M r a0 a1) n6) some) = some v6 → w 0 0 73 [(0, .ref r), (1, .long a0), (3, .long a1), (6, .int i9)] [] K R M := by
        intro i9 m29
        unfold mX8_hasB_J73 at m29
        refine r_iconst (v := 0) hw dX8_hasB_73 rfl ?_
        exact J74 _ _ m29
      refine r_iload hw dX8_hasB_6 4 rfl ?_
      refine r_aload_n hw dX8_hasB_8 0 rfl ?_
      refine r_getI hw fO_X8_153 h1 dX8_hasB_9 ?_
      refine r_icmp_ge (tgt := 82) hw dX8_hasB_12 (by decide) (fun c10 => ?_) (fun c10 => ?_)
      · have m30 := h_if_f c10 m26
        clear m26
        have m31 := h_ex m30 hv6
        clear m30
        refine r_iload hw dX8_hasB_82 3 rfl ?_
        obtain ⟨h11, m32⟩ := h_ck m31
        clear m31
        cases h_ret m32
        exact r_zreturn hw h11 rfl rfl dX8_hasB_84
      · have m33 := h_if_t c10 m26
        clear m26
        refine r_iload hw dX8_hasB_15 4 rfl ?_
        refine r_iconst (v := 1) hw dX8_hasB_17 rfl ?_
        refine r_iadd hw dX8_hasB_18 ?_
        refine r_aload_n hw dX8_hasB_19 0 rfl ?_
        refine r_getI hw fO_X8_153 h1 dX8_hasB_20 ?_
        obtain ⟨h12, m34⟩ := h_ck m33
        clear m33
        refine r_irem hw dX8_hasB_23 h12 ?_
        obtain ⟨i13, ei13, m35⟩ := h_nm m34
        clear m34
        refine r_topI (w := w) ei13 ?_
        refine r_istore hw dX8_hasB_24 (by decide) rfl ?_
        refine r_iload hw dX8_hasB_26 4 rfl ?_
        refine r_if_eq (tgt := 73) hw dX8_hasB_28 (by decide) (fun c14 => ?_) (fun c14 => ?_)
        · have m36 := h_if_t c14 m35
          clear m35
          refine r_sub hw [1, 2, 3, 5] rfl ?_
          exact J73 _ m36
        · have m37 := h_if_f c14 m35
          clear m35
          refine r_aload_n hw dX8_hasB_31 1 rfl ?_
          obtain ⟨q15, bq15, m38⟩ := h_bd m37
          clear m37
          refine r_getR hw fO_X8_48 h1 bq15 dX8_hasB_32 ?_
          refine r_iload hw dX8_hasB_35 5 rfl ?_
          obtain ⟨h16, m39⟩ := h_ck m38
          clear m38
          refine r_laload hw h16 dX8_hasB_37 ?_
          refine r_aload_n hw dX8_hasB_38 1 rfl ?_
          obtain ⟨q17, bq17, m40⟩ := h_bd m39
          clear m39
          refine r_getR hw fO_X8_51 h1 bq17 dX8_hasB_39 ?_
          refine r_iload hw dX8_hasB_42 5 rfl ?_
          obtain ⟨h18, m41⟩ := h_ck m40
          clear m40
          refine r_laload hw h18 dX8_hasB_44 ?_
          refine r_aload_n hw dX8_hasB_45 1 rfl ?_
          refine r_getR hw fO_X8_48 h1 bq15 dX8_hasB_46 ?_
          refine r_iload hw dX8_hasB_49 0 rfl ?_
          obtain ⟨h19, m42⟩ := h_ck m41
          clear m41
          refine r_laload hw h19 dX8_hasB_51 ?_
          refine r_aload_n hw dX8_hasB_52 1 rfl ?_
          refine r_getR hw fO_X8_51 h1 bq17 dX8_hasB_53 ?_
          refine r_iload hw dX8_hasB_56 0 rfl ?_
          obtain ⟨h20, m43⟩ := h_ck m42
          clear m42
          refine r_laload hw h20 dX8_hasB_58 ?_
          refine r_lload_n hw dX8_hasB_59 2 rfl ?_
          refine r_lload_n hw dX8_hasB_60 3 rfl ?_
          obtain ⟨l21, g21, m44⟩ := h_bd m43
          clear m43
          refine r_callS1 hw (tX8_side l G b0 g21) lB_X8_side sT_X8_side mL_X8_128 rfl rfl (Nat.le_of_ble_eq_true rfl) (Nat.le_of_ble_eq_true rfl) rfl (Nat.le_of_ble_eq_true rfl) dX8_hasB_61 ?_
          refine r_lconst (v := 0) hw dX8_hasB_64 rfl ?_
          refine r_lcmp_lt (tgt := 73) hw dX8_hasB_65 dX8_hasB_66 (by decide) (fun c22 => ?_) (fun c22 => ?_)
          · have m45 := h_if_t c22 m44
            clear m44
            refine r_sub hw [1, 2, 3, 5] rfl ?_
            exact J73 _ m45
          · have m46 := h_if_f c22 m44
            clear m44
            refine r_iconst (v := 1) hw dX8_hasB_69 rfl ?_
            refine r_goto (tgt := 74) hw dX8_hasB_70 (by decide) ?_
            refine r_sub hw [1, 2, 3, 5] rfl ?_
            exact J74 _ _ m46
  exact L6 n06 _ _ hn6
theorem dX8_find_0 : decode cX8_find 0 = .ok (.iload_n 1, 1) := by decide +kernel
theorem dX8_find_1 : decode cX8_find 1 = .ok (.i2l, 1) := by decide +kernel
theorem dX8_find_2 : decode cX8_find 2 = .ok (.iload_n 2, 1) := by decide +kernel
theorem dX8_find_3 : decode cX8_find 3 = .ok (.i2l, 1) := by decide +kernel
theorem dX8_find_4 : decode cX8_find 4 = .ok (.invokestatic 156, 3) := by decide +kernel
theorem dX8_find_7 : decode cX8_find 7 = .ok (.ifCond .ne 7, 3) := by decide +kernel
theorem dX8_find_10 : decode cX8_find 10 = .ok (.ldc2_w 160, 3) := by decide +kernel
theorem dX8_find_13 : decode cX8_find 13 = .ok (.lreturn, 1) := by decide +kernel
theorem dX8_find_14 : decode cX8_find 14 = .ok (.iconst 0, 1) := by decide +kernel
theorem dX8_find_15 : decode cX8_find 15 = .ok (.istore_n 3, 1) := by decide +kernel
theorem dX8_find_16 : decode cX8_find 16 = .ok (.iload_n 3, 1) := by decide +kernel
theorem dX8_find_17 : decode cX8_find 17 = .ok (.aload_n 0, 1) := by decide +kernel
theorem dX8_find_18 : decode cX8_find 18 = .ok (.invokevirtual 99, 3) := by decide +kernel
theorem dX8_find_21 : decode cX8_find 21 = .ok (.if_icmp .ge 28, 3) := by decide +kernel
theorem dX8_find_24 : decode cX8_find 24 = .ok (.aload_n 0, 1) := by decide +kernel
theorem dX8_find_25 : decode cX8_find 25 = .ok (.iload_n 3, 1) := by decide +kernel
theorem dX8_find_26 : decode cX8_find 26 = .ok (.invokevirtual 149, 3) := by decide +kernel
theorem dX8_find_29 : decode cX8_find 29 = .ok (.aload_n 0, 1) := by decide +kernel
theorem dX8_find_30 : decode cX8_find 30 = .ok (.iload_n 1, 1) := by decide +kernel
theorem dX8_find_31 : decode cX8_find 31 = .ok (.i2l, 1) := by decide +kernel
theorem dX8_find_32 : decode cX8_find 32 = .ok (.iload_n 2, 1) := by decide +kernel
theorem dX8_find_33 : decode cX8_find 33 = .ok (.i2l, 1) := by decide +kernel
theorem dX8_find_34 : decode cX8_find 34 = .ok (.invokevirtual 281, 3) := by decide +kernel
theorem dX8_find_37 : decode cX8_find 37 = .ok (.ifCond .eq 6, 3) := by decide +kernel
theorem dX8_find_40 : decode cX8_find 40 = .ok (.iload_n 3, 1) := by decide +kernel
theorem dX8_find_41 : decode cX8_find 41 = .ok (.i2l, 1) := by decide +kernel
theorem dX8_find_42 : decode cX8_find 42 = .ok (.lreturn, 1) := by decide +kernel
theorem dX8_find_43 : decode cX8_find 43 = .ok (.iinc 3 1, 3) := by decide +kernel
theorem dX8_find_46 : decode cX8_find 46 = .ok (.goto (-30), 3) := by decide +kernel
theorem dX8_find_49 : decode cX8_find 49 = .ok (.ldc2_w 272, 3) := by decide +kernel
theorem dX8_find_52 : decode cX8_find 52 = .ok (.lreturn, 1) := by decide +kernel
set_option maxHeartbeats 4000000 in
set_option maxRecDepth 100000 in
theorem tX8_find (l : Launch) (G : Gg) (b0 : Nat) {K : Kk} {R : Rr} {M : Mm} {r : Nat} {a0 : Int32} {a1 : Int32} {res : Int64} {M' : Mm} (hm : mX8_find K R M r a0 a1 = some (res, M')) : CT l G b0 yX8_find cX8_find 4 (some .long) (rmz 5 109) [.ref r, .int a0, .int a1] K R M (some (.long res)) K R M' := by
  refine ct_of (by decide +kernel) (Nat.le_of_ble_eq_true rfl) (fun w hw => ?_)
  change w 0 0 0 [(0, .ref r), (1, .int a0), (2, .int a1)] [] K R M
  replace hm := h_start hm
  unfold mX8_find at hm
  obtain ⟨h1, m13⟩ := h_ck hm
  clear hm
  refine r_iload_n hw dX8_find_0 1 rfl ?_
  refine r_i2l hw dX8_find_1 ?_
  refine r_iload_n hw dX8_find_2 2 rfl ?_
  refine r_i2l hw dX8_find_3 ?_
  obtain ⟨i2, g2, m14⟩ := h_bd m13
  clear m13
  refine r_callS1 hw (tX8_isPlace l G b0 g2) lB_X8_isPlace sT_X8_isPlace mL_X8_156 rfl rfl (Nat.le_of_ble_eq_true rfl) (Nat.le_of_ble_eq_true rfl) rfl (Nat.le_of_ble_eq_true rfl) dX8_find_4 ?_
  refine r_if_ne (tgt := 14) hw dX8_find_7 (by decide) (fun c3 => ?_) (fun c3 => ?_)
  · have m15 := h_if_f c3 m14
    clear m14
    refine r_iconst (v := 0) hw dX8_find_14 rfl ?_
    obtain ⟨i4, ei4, m16⟩ := h_nm m15
    clear m15
    refine r_topI (w := w) ei4 ?_
    refine r_istore_n hw dX8_find_15 rfl (by decide) rfl ?_
    refine r_sub hw [1, 2, 3, 0] rfl ?_
    obtain ⟨v16, n016, hn16, hv16⟩ := h_lp m16
    clear m16
    have L16 : ∀ n : Nat, ∀ (i5 : Int32) (M6 : Mm), it (mX8_find_L16 K R r a0 a1) n (i5, M6) = some v16 → w 0 0 16 [(0, .ref r), (1, .int a0), (2, .int a1), (3, .int i5)] [] K R M6 := by
      intro n16
      induction n16 with
      | zero => intro i5 M6 hz; exact absurd hz h_it0
      | succ n16 ih16 =>
        intro i5 M6 m17
        replace m17 : (mX8_find_B16 K R r a0 a1 i5 M6).bind (Sum.elim (it (mX8_find_L16 K R r a0 a1) n16) some) = some v16 := m17
        unfold mX8_find_B16 at m17
        refine r_iload_n hw dX8_find_16 3 rfl ?_
        refine r_aload_n hw dX8_find_17 0 rfl ?_
        obtain ⟨i7, g7, m18⟩ := h_bd m17
        clear m17
        refine r_callV1 hw (tX8_pieces l G b0 g7) lB_X8_pieces lI_X8_pieces mL_X8_99 (c := 8) rfl h1 rfl (Nat.le_of_ble_eq_true rfl) (Nat.le_of_ble_eq_true rfl) rfl (Nat.le_of_ble_eq_true rfl) dX8_find_18 ?_
        refine r_icmp_ge (tgt := 49) hw dX8_find_21 (by decide) (fun c8 => ?_) (fun c8 => ?_)
        · have m19 := h_if_f c8 m18
          clear m18
          have m20 := h_ex m19 hv16
          clear m19
          refine r_ldc2 (v := (-9000000000000000005)) hw dX8_find_49 kW_X8_272 ?_
          cases h_ret m20
          exact r_lreturn hw rfl rfl dX8_find_52
        · have m21 := h_if_t c8 m18
          clear m18
          refine r_aload_n hw dX8_find_24 0 rfl ?_
          refine r_iload_n hw dX8_find_25 3 rfl ?_
          obtain ⟨M9, g9, m22⟩ := h_bd m21
          clear m21
          refine r_callV0 hw (tX8_lookA l G b0 g9) lB_X8_lookA lI_X8_lookA mL_X8_149 (c := 8) rfl h1 rfl (Nat.le_of_ble_eq_true rfl) (Nat.le_of_ble_eq_true rfl) rfl (Nat.le_of_ble_eq_true rfl) dX8_find_26 ?_
          refine r_aload_n hw dX8_find_29 0 rfl ?_
          refine r_iload_n hw dX8_find_30 1 rfl ?_
          refine r_i2l hw dX8_find_31 ?_
          refine r_iload_n hw dX8_find_32 2 rfl ?_
          refine r_i2l hw dX8_find_33 ?_
          obtain ⟨i10, g10, m23⟩ := h_bd m22
          clear m22
          refine r_callV1 hw (tX8_hasA l G b0 g10) lB_X8_hasA lI_X8_hasA mL_X8_281 (c := 8) rfl h1 rfl (Nat.le_of_ble_eq_true rfl) (Nat.le_of_ble_eq_true rfl) rfl (Nat.le_of_ble_eq_true rfl) dX8_find_34 ?_
          refine r_if_eq (tgt := 43) hw dX8_find_37 (by decide) (fun c11 => ?_) (fun c11 => ?_)
          · have m24 := h_if_t c11 m23
            clear m23
            obtain ⟨i12, ei12, m25⟩ := h_nm m24
            clear m24
            refine r_iinc (j := 3) (v := i12) hw dX8_find_43 rfl (by rw [ei12]; rfl) (by decide) rfl ?_
            refine r_goto (tgt := 16) hw dX8_find_46 (by decide) ?_
            refine r_sub hw [1, 2, 3, 0] rfl ?_
            exact ih16 _ _ m25
          · have m26 := h_if_f c11 m23
            clear m23
            have m27 := h_ex m26 hv16
            clear m26
            refine r_iload_n hw dX8_find_40 3 rfl ?_
            refine r_i2l hw dX8_find_41 ?_
            cases h_ret m27
            exact r_lreturn hw rfl rfl dX8_find_42
    exact L16 n016 _ _ hn16
  · have m28 := h_if_t c3 m14
    clear m14
    refine r_ldc2 (v := (-9000000000000000001)) hw dX8_find_10 kW_X8_160 ?_
    cases h_ret m28
    exact r_lreturn hw rfl rfl dX8_find_13
theorem dX8_isWithin_0 : decode cX8_isWithin 0 = .ok (.aload_n 0, 1) := by decide +kernel
theorem dX8_isWithin_1 : decode cX8_isWithin 1 = .ok (.iload_n 1, 1) := by decide +kernel
theorem dX8_isWithin_2 : decode cX8_isWithin 2 = .ok (.invokevirtual 149, 3) := by decide +kernel
theorem dX8_isWithin_5 : decode cX8_isWithin 5 = .ok (.aload_n 0, 1) := by decide +kernel
theorem dX8_isWithin_6 : decode cX8_isWithin 6 = .ok (.aload_n 0, 1) := by decide +kernel
theorem dX8_isWithin_7 : decode cX8_isWithin 7 = .ok (.getfield 32, 3) := by decide +kernel
theorem dX8_isWithin_10 : decode cX8_isWithin 10 = .ok (.iload_n 2, 1) := by decide +kernel
theorem dX8_isWithin_11 : decode cX8_isWithin 11 = .ok (.iaload, 1) := by decide +kernel
theorem dX8_isWithin_12 : decode cX8_isWithin 12 = .ok (.putfield 153, 3) := by decide +kernel
theorem dX8_isWithin_15 : decode cX8_isWithin 15 = .ok (.iconst 0, 1) := by decide +kernel
theorem dX8_isWithin_16 : decode cX8_isWithin 16 = .ok (.istore_n 3, 1) := by decide +kernel
theorem dX8_isWithin_17 : decode cX8_isWithin 17 = .ok (.iload_n 3, 1) := by decide +kernel
theorem dX8_isWithin_18 : decode cX8_isWithin 18 = .ok (.aload_n 0, 1) := by decide +kernel
theorem dX8_isWithin_19 : decode cX8_isWithin 19 = .ok (.getfield 153, 3) := by decide +kernel
theorem dX8_isWithin_22 : decode cX8_isWithin 22 = .ok (.if_icmp .ge 43, 3) := by decide +kernel
theorem dX8_isWithin_25 : decode cX8_isWithin 25 = .ok (.aload_n 0, 1) := by decide +kernel
theorem dX8_isWithin_26 : decode cX8_isWithin 26 = .ok (.getfield 48, 3) := by decide +kernel
theorem dX8_isWithin_29 : decode cX8_isWithin 29 = .ok (.iload_n 3, 1) := by decide +kernel
theorem dX8_isWithin_30 : decode cX8_isWithin 30 = .ok (.aload_n 0, 1) := by decide +kernel
theorem dX8_isWithin_31 : decode cX8_isWithin 31 = .ok (.getfield 26, 3) := by decide +kernel
theorem dX8_isWithin_34 : decode cX8_isWithin 34 = .ok (.bipush 16, 2) := by decide +kernel
theorem dX8_isWithin_36 : decode cX8_isWithin 36 = .ok (.iload_n 2, 1) := by decide +kernel
theorem dX8_isWithin_37 : decode cX8_isWithin 37 = .ok (.imul, 1) := by decide +kernel
theorem dX8_isWithin_38 : decode cX8_isWithin 38 = .ok (.iload_n 3, 1) := by decide +kernel
theorem dX8_isWithin_39 : decode cX8_isWithin 39 = .ok (.iadd, 1) := by decide +kernel
theorem dX8_isWithin_40 : decode cX8_isWithin 40 = .ok (.laload, 1) := by decide +kernel
theorem dX8_isWithin_41 : decode cX8_isWithin 41 = .ok (.lastore, 1) := by decide +kernel
theorem dX8_isWithin_42 : decode cX8_isWithin 42 = .ok (.aload_n 0, 1) := by decide +kernel
theorem dX8_isWithin_43 : decode cX8_isWithin 43 = .ok (.getfield 51, 3) := by decide +kernel
theorem dX8_isWithin_46 : decode cX8_isWithin 46 = .ok (.iload_n 3, 1) := by decide +kernel
theorem dX8_isWithin_47 : decode cX8_isWithin 47 = .ok (.aload_n 0, 1) := by decide +kernel
theorem dX8_isWithin_48 : decode cX8_isWithin 48 = .ok (.getfield 29, 3) := by decide +kernel
theorem dX8_isWithin_51 : decode cX8_isWithin 51 = .ok (.bipush 16, 2) := by decide +kernel
theorem dX8_isWithin_53 : decode cX8_isWithin 53 = .ok (.iload_n 2, 1) := by decide +kernel
theorem dX8_isWithin_54 : decode cX8_isWithin 54 = .ok (.imul, 1) := by decide +kernel
theorem dX8_isWithin_55 : decode cX8_isWithin 55 = .ok (.iload_n 3, 1) := by decide +kernel
theorem dX8_isWithin_56 : decode cX8_isWithin 56 = .ok (.iadd, 1) := by decide +kernel
theorem dX8_isWithin_57 : decode cX8_isWithin 57 = .ok (.laload, 1) := by decide +kernel
theorem dX8_isWithin_58 : decode cX8_isWithin 58 = .ok (.lastore, 1) := by decide +kernel
theorem dX8_isWithin_59 : decode cX8_isWithin 59 = .ok (.iinc 3 1, 3) := by decide +kernel
theorem dX8_isWithin_62 : decode cX8_isWithin 62 = .ok (.goto (-45), 3) := by decide +kernel
theorem dX8_isWithin_65 : decode cX8_isWithin 65 = .ok (.iconst 1, 1) := by decide +kernel
theorem dX8_isWithin_66 : decode cX8_isWithin 66 = .ok (.istore_n 3, 1) := by decide +kernel
theorem dX8_isWithin_67 : decode cX8_isWithin 67 = .ok (.iconst 0, 1) := by decide +kernel
theorem dX8_isWithin_68 : decode cX8_isWithin 68 = .ok (.istore 4, 2) := by decide +kernel
theorem dX8_isWithin_70 : decode cX8_isWithin 70 = .ok (.iload 4, 2) := by decide +kernel
theorem dX8_isWithin_72 : decode cX8_isWithin 72 = .ok (.aload_n 0, 1) := by decide +kernel
theorem dX8_isWithin_73 : decode cX8_isWithin 73 = .ok (.getfield 146, 3) := by decide +kernel
theorem dX8_isWithin_76 : decode cX8_isWithin 76 = .ok (.if_icmp .ge 40, 3) := by decide +kernel
theorem dX8_isWithin_79 : decode cX8_isWithin 79 = .ok (.iload_n 3, 1) := by decide +kernel
theorem dX8_isWithin_80 : decode cX8_isWithin 80 = .ok (.ifCond .eq 28, 3) := by decide +kernel
theorem dX8_isWithin_83 : decode cX8_isWithin 83 = .ok (.aload_n 0, 1) := by decide +kernel
theorem dX8_isWithin_84 : decode cX8_isWithin 84 = .ok (.aload_n 0, 1) := by decide +kernel
theorem dX8_isWithin_85 : decode cX8_isWithin 85 = .ok (.getfield 42, 3) := by decide +kernel
theorem dX8_isWithin_88 : decode cX8_isWithin 88 = .ok (.iload 4, 2) := by decide +kernel
theorem dX8_isWithin_90 : decode cX8_isWithin 90 = .ok (.laload, 1) := by decide +kernel
theorem dX8_isWithin_91 : decode cX8_isWithin 91 = .ok (.aload_n 0, 1) := by decide +kernel
theorem dX8_isWithin_92 : decode cX8_isWithin 92 = .ok (.getfield 45, 3) := by decide +kernel
theorem dX8_isWithin_95 : decode cX8_isWithin 95 = .ok (.iload 4, 2) := by decide +kernel
theorem dX8_isWithin_97 : decode cX8_isWithin 97 = .ok (.laload, 1) := by decide +kernel
theorem dX8_isWithin_98 : decode cX8_isWithin 98 = .ok (.invokevirtual 284, 3) := by decide +kernel
theorem dX8_isWithin_101 : decode cX8_isWithin 101 = .ok (.ifCond .eq 7, 3) := by decide +kernel
theorem dX8_isWithin_104 : decode cX8_isWithin 104 = .ok (.iconst 1, 1) := by decide +kernel
theorem dX8_isWithin_105 : decode cX8_isWithin 105 = .ok (.goto 4, 3) := by decide +kernel
theorem dX8_isWithin_108 : decode cX8_isWithin 108 = .ok (.iconst 0, 1) := by decide +kernel
theorem dX8_isWithin_109 : decode cX8_isWithin 109 = .ok (.istore_n 3, 1) := by decide +kernel
theorem dX8_isWithin_110 : decode cX8_isWithin 110 = .ok (.iinc 4 1, 3) := by decide +kernel
theorem dX8_isWithin_113 : decode cX8_isWithin 113 = .ok (.goto (-43), 3) := by decide +kernel
theorem dX8_isWithin_116 : decode cX8_isWithin 116 = .ok (.iload_n 3, 1) := by decide +kernel
theorem dX8_isWithin_117 : decode cX8_isWithin 117 = .ok (.ireturn, 1) := by decide +kernel
set_option maxHeartbeats 4000000 in
set_option maxRecDepth 100000 in
theorem tX8_isWithin (l : Launch) (G : Gg) (b0 : Nat) {K : Kk} {R : Rr} {M : Mm} {r : Nat} {a0 : Int32} {a1 : Int32} {res : Int32} {M' : Mm} (hm : mX8_isWithin K R M r a0 a1 = some (res, M')) : CT l G b0 yX8_isWithin cX8_isWithin 5 (some .boolean) (rmz 5 109) [.ref r, .int a0, .int a1] K R M (some (.int res)) K R M' := by
  refine ct_of (by decide +kernel) (Nat.le_of_ble_eq_true rfl) (fun w hw => ?_)
  change w 0 0 0 [(0, .ref r), (1, .int a0), (2, .int a1)] [] K R M
  replace hm := h_start hm
  unfold mX8_isWithin at hm
  obtain ⟨h1, m38⟩ := h_ck hm
  clear hm
  refine r_aload_n hw dX8_isWithin_0 0 rfl ?_
  refine r_iload_n hw dX8_isWithin_1 1 rfl ?_
  obtain ⟨M2, g2, m39⟩ := h_bd m38
  clear m38
  refine r_callV0 hw (tX8_lookA l G b0 g2) lB_X8_lookA lI_X8_lookA mL_X8_149 (c := 8) rfl h1 rfl (Nat.le_of_ble_eq_true rfl) (Nat.le_of_ble_eq_true rfl) rfl (Nat.le_of_ble_eq_true rfl) dX8_isWithin_2 ?_
  refine r_aload_n hw dX8_isWithin_5 0 rfl ?_
  refine r_aload_n hw dX8_isWithin_6 0 rfl ?_
  obtain ⟨q3, bq3, m40⟩ := h_bd m39
  clear m39
  refine r_getR hw fO_X8_32 h1 bq3 dX8_isWithin_7 ?_
  refine r_iload_n hw dX8_isWithin_10 2 rfl ?_
  obtain ⟨h4, m41⟩ := h_ck m40
  clear m40
  refine r_iaload hw h4 dX8_isWithin_11 ?_
  obtain ⟨M5, eM5, m42⟩ := h_nm m41
  clear m41
  refine r_putI hw fP_X8_153 h1 dX8_isWithin_12 (r_mem ?_ rfl eM5)
  refine r_iconst (v := 0) hw dX8_isWithin_15 rfl ?_
  obtain ⟨i6, ei6, m43⟩ := h_nm m42
  clear m42
  refine r_topI (w := w) ei6 ?_
  refine r_istore_n hw dX8_isWithin_16 rfl (by decide) rfl ?_
  refine r_sub hw [1, 3, 0] rfl ?_
  obtain ⟨v17, n017, hn17, hv17⟩ := h_lp m43
  clear m43
  have L17 : ∀ n : Nat, ∀ (i7 : Int32) (M8 : Mm), it (mX8_isWithin_L17 K R r a1) n (i7, M8) = some v17 → w 0 0 17 [(0, .ref r), (2, .int a1), (3, .int i7)] [] K R M8 := by
    intro n17
    induction n17 with
    | zero => intro i7 M8 hz; exact absurd hz h_it0
    | succ n17 ih17 =>
      intro i7 M8 m44
      replace m44 : (mX8_isWithin_B17 K R r a1 i7 M8).bind (Sum.elim (it (mX8_isWithin_L17 K R r a1) n17) some) = some v17 := m44
      unfold mX8_isWithin_B17 at m44
      refine r_iload_n hw dX8_isWithin_17 2 rfl ?_
      refine r_aload_n hw dX8_isWithin_18 0 rfl ?_
      refine r_getI hw fO_X8_153 h1 dX8_isWithin_19 ?_
      refine r_icmp_ge (tgt := 65) hw dX8_isWithin_22 (by decide) (fun c9 => ?_) (fun c9 => ?_)
      · have m45 := h_if_f c9 m44
        clear m44
        have m46 := h_ex m45 hv17
        clear m45
        refine r_iconst (v := 1) hw dX8_isWithin_65 rfl ?_
        obtain ⟨i10, ei10, m47⟩ := h_nm m46
        clear m46
        refine r_topI (w := w) ei10 ?_
        refine r_istore_n hw dX8_isWithin_66 rfl (by decide) rfl ?_
        refine r_iconst (v := 0) hw dX8_isWithin_67 rfl ?_
        obtain ⟨i11, ei11, m48⟩ := h_nm m47
        clear m47
        refine r_topI (w := w) ei11 ?_
        refine r_istore hw dX8_isWithin_68 (by decide) rfl ?_
        refine r_sub hw [2, 1, 0] rfl ?_
        obtain ⟨v70, n070, hn70, hv70⟩ := h_lp m48
        clear m48
        have L70 : ∀ n : Nat, ∀ (i12 : Int32) (i13 : Int32), it (mX8_isWithin_L70 K R M8 r) n (i12, i13) = some v70 → w 0 0 70 [(0, .ref r), (3, .int i12), (4, .int i13)] [] K R M8 := by
          intro n70
          induction n70 with
          | zero => intro i12 i13 hz; exact absurd hz h_it0
          | succ n70 ih70 =>
            intro i12 i13 m49
            replace m49 : (mX8_isWithin_B70 K R M8 r i12 i13).bind (Sum.elim (it (mX8_isWithin_L70 K R M8 r) n70) some) = some v70 := m49
            unfold mX8_isWithin_B70 at m49
            have J109 : ∀ (i14 : Int32) (s15 : Int32), (mX8_isWithin_J109 K R M8 r i14 s15).bind (Sum.elim (it (mX8_isWithin_L70 K R M8 r) n70) some) = some v70 → w 0 0 109 [(0, .ref r), (4, .int i14)] [.int s15] K R M8 := by
              intro i14 s15 m50
              unfold mX8_isWithin_J109 at m50
              refine r_istore_n hw dX8_isWithin_109 rfl (by decide) rfl ?_
              obtain ⟨i16, ei16, m51⟩ := h_nm m50
              clear m50
              refine r_iinc (j := 2) (v := i16) hw dX8_isWithin_110 rfl (by rw [ei16]; rfl) (by decide) rfl ?_
              refine r_goto (tgt := 70) hw dX8_isWithin_113 (by decide) ?_
              refine r_sub hw [2, 1, 0] rfl ?_
              exact ih70 _ _ m51
            have J108 : ∀ (i17 : Int32), (mX8_isWithin_J108 K R M8 r i17).bind (Sum.elim (it (mX8_isWithin_L70 K R M8 r) n70) some) = some v70 → w 0 0 108 [(0, .ref r), (4, .int i17)] [] K R M8 := by
              intro i17 m52
              unfold mX8_isWithin_J108 at m52
              refine r_iconst (v := 0) hw dX8_isWithin_108 rfl ?_
              exact J109 _ _ m52
            refine r_iload hw dX8_isWithin_70 2 rfl ?_
            refine r_aload_n hw dX8_isWithin_72 0 rfl ?_
            refine r_getI hw fO_X8_146 h1 dX8_isWithin_73 ?_
            refine r_icmp_ge (tgt := 116) hw dX8_isWithin_76 (by decide) (fun c18 => ?_) (fun c18 => ?_)
            · have m53 := h_if_f c18 m49
              clear m49
              have m54 := h_ex m53 hv70
              clear m53
              refine r_iload_n hw dX8_isWithin_116 1 rfl ?_
              obtain ⟨h19, m55⟩ := h_ck m54
              clear m54
              cases h_ret m55
              exact r_zreturn hw h19 rfl rfl dX8_isWithin_117
            · have m56 := h_if_t c18 m49
              clear m49
              refine r_iload_n hw dX8_isWithin_79 1 rfl ?_
              refine r_if_eq (tgt := 108) hw dX8_isWithin_80 (by decide) (fun c20 => ?_) (fun c20 => ?_)
              · have m57 := h_if_t c20 m56
                clear m56
                refine r_sub hw [0, 2] rfl ?_
                exact J108 _ m57
              · have m58 := h_if_f c20 m56
                clear m56
                refine r_aload_n hw dX8_isWithin_83 0 rfl ?_
                refine r_aload_n hw dX8_isWithin_84 0 rfl ?_
                obtain ⟨q21, bq21, m59⟩ := h_bd m58
                clear m58
                refine r_getR hw fO_X8_42 h1 bq21 dX8_isWithin_85 ?_
                refine r_iload hw dX8_isWithin_88 2 rfl ?_
                obtain ⟨h22, m60⟩ := h_ck m59
                clear m59
                refine r_laload hw h22 dX8_isWithin_90 ?_
                refine r_aload_n hw dX8_isWithin_91 0 rfl ?_
                obtain ⟨q23, bq23, m61⟩ := h_bd m60
                clear m60
                refine r_getR hw fO_X8_45 h1 bq23 dX8_isWithin_92 ?_
                refine r_iload hw dX8_isWithin_95 2 rfl ?_
                obtain ⟨h24, m62⟩ := h_ck m61
                clear m61
                refine r_laload hw h24 dX8_isWithin_97 ?_
                obtain ⟨i25, g25, m63⟩ := h_bd m62
                clear m62
                refine r_callV1 hw (tX8_hasB l G b0 g25) lB_X8_hasB lI_X8_hasB mL_X8_284 (c := 8) rfl h1 rfl (Nat.le_of_ble_eq_true rfl) (Nat.le_of_ble_eq_true rfl) rfl (Nat.le_of_ble_eq_true rfl) dX8_isWithin_98 ?_
                refine r_if_eq (tgt := 108) hw dX8_isWithin_101 (by decide) (fun c26 => ?_) (fun c26 => ?_)
                · have m64 := h_if_t c26 m63
                  clear m63
                  refine r_sub hw [0, 2] rfl ?_
                  exact J108 _ m64
                · have m65 := h_if_f c26 m63
                  clear m63
                  refine r_iconst (v := 1) hw dX8_isWithin_104 rfl ?_
                  refine r_goto (tgt := 109) hw dX8_isWithin_105 (by decide) ?_
                  refine r_sub hw [0, 2] rfl ?_
                  exact J109 _ _ m65
        exact L70 n070 _ _ hn70
      · have m66 := h_if_t c9 m44
        clear m44
        refine r_aload_n hw dX8_isWithin_25 0 rfl ?_
        obtain ⟨q27, bq27, m67⟩ := h_bd m66
        clear m66
        refine r_getR hw fO_X8_48 h1 bq27 dX8_isWithin_26 ?_
        refine r_iload_n hw dX8_isWithin_29 2 rfl ?_
        refine r_aload_n hw dX8_isWithin_30 0 rfl ?_
        obtain ⟨q28, bq28, m68⟩ := h_bd m67
        clear m67
        refine r_getR hw fO_X8_26 h1 bq28 dX8_isWithin_31 ?_
        refine r_bipush (v := 16) hw dX8_isWithin_34 rfl ?_
        refine r_iload_n hw dX8_isWithin_36 1 rfl ?_
        refine r_imul hw dX8_isWithin_37 ?_
        refine r_iload_n hw dX8_isWithin_38 2 rfl ?_
        refine r_iadd hw dX8_isWithin_39 ?_
        obtain ⟨h29, m69⟩ := h_ck m68
        clear m68
        refine r_laload hw h29 dX8_isWithin_40 ?_
        obtain ⟨h30, m70⟩ := h_ck m69
        clear m69
        obtain ⟨M31, eM31, m71⟩ := h_nm m70
        clear m70
        refine r_lastore hw h30 dX8_isWithin_41 (r_mem ?_ rfl eM31)
        refine r_aload_n hw dX8_isWithin_42 0 rfl ?_
        obtain ⟨q32, bq32, m72⟩ := h_bd m71
        clear m71
        refine r_getR hw fO_X8_51 h1 bq32 dX8_isWithin_43 ?_
        refine r_iload_n hw dX8_isWithin_46 2 rfl ?_
        refine r_aload_n hw dX8_isWithin_47 0 rfl ?_
        obtain ⟨q33, bq33, m73⟩ := h_bd m72
        clear m72
        refine r_getR hw fO_X8_29 h1 bq33 dX8_isWithin_48 ?_
        refine r_bipush (v := 16) hw dX8_isWithin_51 rfl ?_
        refine r_iload_n hw dX8_isWithin_53 1 rfl ?_
        refine r_imul hw dX8_isWithin_54 ?_
        refine r_iload_n hw dX8_isWithin_55 2 rfl ?_
        refine r_iadd hw dX8_isWithin_56 ?_
        obtain ⟨h34, m74⟩ := h_ck m73
        clear m73
        refine r_laload hw h34 dX8_isWithin_57 ?_
        obtain ⟨h35, m75⟩ := h_ck m74
        clear m74
        obtain ⟨M36, eM36, m76⟩ := h_nm m75
        clear m75
        refine r_lastore hw h35 dX8_isWithin_58 (r_mem ?_ rfl eM36)
        obtain ⟨i37, ei37, m77⟩ := h_nm m76
        clear m76
        refine r_iinc (j := 2) (v := i37) hw dX8_isWithin_59 rfl (by rw [ei37]; rfl) (by decide) rfl ?_
        refine r_goto (tgt := 17) hw dX8_isWithin_62 (by decide) ?_
        refine r_sub hw [1, 2, 0] rfl ?_
        exact ih17 _ _ m77
  exact L17 n017 _ _ hn17
theorem dX8_isLaid_0 : decode cX8_isLaid 0 = .ok (.aload_n 0, 1) := by decide +kernel
theorem dX8_isLaid_1 : decode cX8_isLaid 1 = .ok (.iload_n 1, 1) := by decide +kernel
theorem dX8_isLaid_2 : decode cX8_isLaid 2 = .ok (.bipush 36, 2) := by decide +kernel
theorem dX8_isLaid_4 : decode cX8_isLaid 4 = .ok (.invokevirtual 103, 3) := by decide +kernel
theorem dX8_isLaid_7 : decode cX8_isLaid 7 = .ok (.lconst 0, 1) := by decide +kernel
theorem dX8_isLaid_8 : decode cX8_isLaid 8 = .ok (.lcmp, 1) := by decide +kernel
theorem dX8_isLaid_9 : decode cX8_isLaid 9 = .ok (.ifCond .ne 7, 3) := by decide +kernel
theorem dX8_isLaid_12 : decode cX8_isLaid 12 = .ok (.iconst 1, 1) := by decide +kernel
theorem dX8_isLaid_13 : decode cX8_isLaid 13 = .ok (.goto 4, 3) := by decide +kernel
theorem dX8_isLaid_16 : decode cX8_isLaid 16 = .ok (.iconst 0, 1) := by decide +kernel
theorem dX8_isLaid_17 : decode cX8_isLaid 17 = .ok (.ireturn, 1) := by decide +kernel
set_option maxHeartbeats 4000000 in
set_option maxRecDepth 100000 in
theorem tX8_isLaid (l : Launch) (G : Gg) (b0 : Nat) {K : Kk} {R : Rr} {M : Mm} {r : Nat} {a0 : Int32} {res : Int32} (hm : mX8_isLaid K R M r a0 = some (res)) : CT l G b0 yX8_isLaid cX8_isLaid 2 (some .boolean) (rmz 2 22) [.ref r, .int a0] K R M (some (.int res)) K R M := by
  refine ct_of (by decide +kernel) (Nat.le_of_ble_eq_true rfl) (fun w hw => ?_)
  change w 0 0 0 [(0, .ref r), (1, .int a0)] [] K R M
  replace hm := h_start hm
  unfold mX8_isLaid at hm
  obtain ⟨h1, m4⟩ := h_ck hm
  clear hm
  refine r_aload_n hw dX8_isLaid_0 0 rfl ?_
  refine r_iload_n hw dX8_isLaid_1 1 rfl ?_
  refine r_bipush (v := 36) hw dX8_isLaid_2 rfl ?_
  obtain ⟨l2, g2, m5⟩ := h_bd m4
  clear m4
  refine r_callV1 hw (tX8_get l G b0 g2) lB_X8_get lI_X8_get mL_X8_103 (c := 8) rfl h1 rfl (Nat.le_of_ble_eq_true rfl) (Nat.le_of_ble_eq_true rfl) rfl (Nat.le_of_ble_eq_true rfl) dX8_isLaid_4 ?_
  refine r_lconst (v := 0) hw dX8_isLaid_7 rfl ?_
  refine r_lcmp_ne (tgt := 16) hw dX8_isLaid_8 dX8_isLaid_9 (by decide) (fun c3 => ?_) (fun c3 => ?_)
  · have m6 := h_if_f c3 m5
    clear m5
    refine r_iconst (v := 0) hw dX8_isLaid_16 rfl ?_
    cases h_ret m6
    exact r_zreturn hw isB_0 rfl rfl dX8_isLaid_17
  · have m7 := h_if_t c3 m5
    clear m5
    refine r_iconst (v := 1) hw dX8_isLaid_12 rfl ?_
    refine r_goto (tgt := 17) hw dX8_isLaid_13 (by decide) ?_
    cases h_ret m7
    exact r_zreturn hw isB_1 rfl rfl dX8_isLaid_17
theorem dX8_allAreas_0 : decode cX8_allAreas 0 = .ok (.lconst 0, 1) := by decide +kernel
theorem dX8_allAreas_1 : decode cX8_allAreas 1 = .ok (.lstore_n 1, 1) := by decide +kernel
theorem dX8_allAreas_2 : decode cX8_allAreas 2 = .ok (.iconst 0, 1) := by decide +kernel
theorem dX8_allAreas_3 : decode cX8_allAreas 3 = .ok (.istore_n 3, 1) := by decide +kernel
theorem dX8_allAreas_4 : decode cX8_allAreas 4 = .ok (.iload_n 3, 1) := by decide +kernel
theorem dX8_allAreas_5 : decode cX8_allAreas 5 = .ok (.aload_n 0, 1) := by decide +kernel
theorem dX8_allAreas_6 : decode cX8_allAreas 6 = .ok (.invokevirtual 99, 3) := by decide +kernel
theorem dX8_allAreas_9 : decode cX8_allAreas 9 = .ok (.if_icmp .ge 29, 3) := by decide +kernel
theorem dX8_allAreas_12 : decode cX8_allAreas 12 = .ok (.lload_n 1, 1) := by decide +kernel
theorem dX8_allAreas_13 : decode cX8_allAreas 13 = .ok (.aload_n 0, 1) := by decide +kernel
theorem dX8_allAreas_14 : decode cX8_allAreas 14 = .ok (.iload_n 3, 1) := by decide +kernel
theorem dX8_allAreas_15 : decode cX8_allAreas 15 = .ok (.invokevirtual 287, 3) := by decide +kernel
theorem dX8_allAreas_18 : decode cX8_allAreas 18 = .ok (.ifCond .eq 11, 3) := by decide +kernel
theorem dX8_allAreas_21 : decode cX8_allAreas 21 = .ok (.aload_n 0, 1) := by decide +kernel
theorem dX8_allAreas_22 : decode cX8_allAreas 22 = .ok (.iload_n 3, 1) := by decide +kernel
theorem dX8_allAreas_23 : decode cX8_allAreas 23 = .ok (.invokevirtual 267, 3) := by decide +kernel
theorem dX8_allAreas_26 : decode cX8_allAreas 26 = .ok (.goto 4, 3) := by decide +kernel
theorem dX8_allAreas_29 : decode cX8_allAreas 29 = .ok (.lconst 0, 1) := by decide +kernel
theorem dX8_allAreas_30 : decode cX8_allAreas 30 = .ok (.ladd, 1) := by decide +kernel
theorem dX8_allAreas_31 : decode cX8_allAreas 31 = .ok (.lstore_n 1, 1) := by decide +kernel
theorem dX8_allAreas_32 : decode cX8_allAreas 32 = .ok (.iinc 3 1, 3) := by decide +kernel
theorem dX8_allAreas_35 : decode cX8_allAreas 35 = .ok (.goto (-31), 3) := by decide +kernel
theorem dX8_allAreas_38 : decode cX8_allAreas 38 = .ok (.lload_n 1, 1) := by decide +kernel
theorem dX8_allAreas_39 : decode cX8_allAreas 39 = .ok (.lreturn, 1) := by decide +kernel
set_option maxHeartbeats 4000000 in
set_option maxRecDepth 100000 in
theorem tX8_allAreas (l : Launch) (G : Gg) (b0 : Nat) {K : Kk} {R : Rr} {M : Mm} {r : Nat} {res : Int64} {M' : Mm} (hm : mX8_allAreas K R M r = some (res, M')) : CT l G b0 yX8_allAreas cX8_allAreas 4 (some .long) (rmz 6 134) [.ref r] K R M (some (.long res)) K R M' := by
  refine ct_of (by decide +kernel) (Nat.le_of_ble_eq_true rfl) (fun w hw => ?_)
  change w 0 0 0 [(0, .ref r)] [] K R M
  replace hm := h_start hm
  unfold mX8_allAreas at hm
  obtain ⟨h1, m19⟩ := h_ck hm
  clear hm
  refine r_lconst (v := 0) hw dX8_allAreas_0 rfl ?_
  obtain ⟨l2, el2, m20⟩ := h_nm m19
  clear m19
  refine r_topL (w := w) el2 ?_
  refine r_lstore_n hw dX8_allAreas_1 rfl (by decide) rfl ?_
  refine r_iconst (v := 0) hw dX8_allAreas_2 rfl ?_
  obtain ⟨i3, ei3, m21⟩ := h_nm m20
  clear m20
  refine r_topI (w := w) ei3 ?_
  refine r_istore_n hw dX8_allAreas_3 rfl (by decide) rfl ?_
  refine r_sub hw [2, 1, 0] rfl ?_
  obtain ⟨v4, n04, hn4, hv4⟩ := h_lp m21
  clear m21
  have L4 : ∀ n : Nat, ∀ (l4 : Int64) (i5 : Int32) (M6 : Mm), it (mX8_allAreas_L4 K R r) n (l4, i5, M6) = some v4 → w 0 0 4 [(0, .ref r), (1, .long l4), (3, .int i5)] [] K R M6 := by
    intro n4
    induction n4 with
    | zero => intro l4 i5 M6 hz; exact absurd hz h_it0
    | succ n4 ih4 =>
      intro l4 i5 M6 m22
      replace m22 : (mX8_allAreas_B4 K R r l4 i5 M6).bind (Sum.elim (it (mX8_allAreas_L4 K R r) n4) some) = some v4 := m22
      unfold mX8_allAreas_B4 at m22
      have J30 : ∀ (M10 : Mm) (i7 : Int32) (s8 : Int64) (s9 : Int64), (mX8_allAreas_J30 K R M10 r i7 s8 s9).bind (Sum.elim (it (mX8_allAreas_L4 K R r) n4) some) = some v4 → w 0 0 30 [(0, .ref r), (3, .int i7)] [.long s9, .long s8] K R M10 := by
        intro M10 i7 s8 s9 m23
        unfold mX8_allAreas_J30 at m23
        refine r_ladd hw dX8_allAreas_30 ?_
        obtain ⟨l11, el11, m24⟩ := h_nm m23
        clear m23
        refine r_topL (w := w) el11 ?_
        refine r_lstore_n hw dX8_allAreas_31 rfl (by decide) rfl ?_
        obtain ⟨i12, ei12, m25⟩ := h_nm m24
        clear m24
        refine r_iinc (j := 2) (v := i12) hw dX8_allAreas_32 rfl (by rw [ei12]; rfl) (by decide) rfl ?_
        refine r_goto (tgt := 4) hw dX8_allAreas_35 (by decide) ?_
        refine r_sub hw [2, 1, 0] rfl ?_
        exact ih4 _ _ _ m25
      refine r_iload_n hw dX8_allAreas_4 2 rfl ?_
      refine r_aload_n hw dX8_allAreas_5 0 rfl ?_
      obtain ⟨i13, g13, m26⟩ := h_bd m22
      clear m22
      refine r_callV1 hw (tX8_pieces l G b0 g13) lB_X8_pieces lI_X8_pieces mL_X8_99 (c := 8) rfl h1 rfl (Nat.le_of_ble_eq_true rfl) (Nat.le_of_ble_eq_true rfl) rfl (Nat.le_of_ble_eq_true rfl) dX8_allAreas_6 ?_
      refine r_icmp_ge (tgt := 38) hw dX8_allAreas_9 (by decide) (fun c14 => ?_) (fun c14 => ?_)
      · have m27 := h_if_f c14 m26
        clear m26
        have m28 := h_ex m27 hv4
        clear m27
        refine r_lload_n hw dX8_allAreas_38 1 rfl ?_
        cases h_ret m28
        exact r_lreturn hw rfl rfl dX8_allAreas_39
      · have m29 := h_if_t c14 m26
        clear m26
        refine r_lload_n hw dX8_allAreas_12 1 rfl ?_
        refine r_aload_n hw dX8_allAreas_13 0 rfl ?_
        refine r_iload_n hw dX8_allAreas_14 2 rfl ?_
        obtain ⟨i15, g15, m30⟩ := h_bd m29
        clear m29
        refine r_callV1 hw (tX8_isLaid l G b0 g15) lB_X8_isLaid lI_X8_isLaid mL_X8_287 (c := 8) rfl h1 rfl (Nat.le_of_ble_eq_true rfl) (Nat.le_of_ble_eq_true rfl) rfl (Nat.le_of_ble_eq_true rfl) dX8_allAreas_15 ?_
        refine r_if_eq (tgt := 29) hw dX8_allAreas_18 (by decide) (fun c16 => ?_) (fun c16 => ?_)
        · have m31 := h_if_t c16 m30
          clear m30
          refine r_lconst (v := 0) hw dX8_allAreas_29 rfl ?_
          refine r_sub hw [0, 2] rfl ?_
          exact J30 _ _ _ _ m31
        · have m32 := h_if_f c16 m30
          clear m30
          refine r_aload_n hw dX8_allAreas_21 0 rfl ?_
          refine r_iload_n hw dX8_allAreas_22 2 rfl ?_
          obtain ⟨l17, M18, g18, m33⟩ := h_bd2 m32
          clear m32
          refine r_callV1 hw (tX8_areaOf l G b0 g18) lB_X8_areaOf lI_X8_areaOf mL_X8_267 (c := 8) rfl h1 rfl (Nat.le_of_ble_eq_true rfl) (Nat.le_of_ble_eq_true rfl) rfl (Nat.le_of_ble_eq_true rfl) dX8_allAreas_23 ?_
          refine r_goto (tgt := 30) hw dX8_allAreas_26 (by decide) ?_
          refine r_sub hw [0, 2] rfl ?_
          exact J30 _ _ _ _ m33
  exact L4 n04 _ _ _ hn4
theorem dX8_covers_0 : decode cX8_covers 0 = .ok (.iload_n 1, 1) := by decide +kernel
theorem dX8_covers_1 : decode cX8_covers 1 = .ok (.i2l, 1) := by decide +kernel
theorem dX8_covers_2 : decode cX8_covers 2 = .ok (.lconst 0, 1) := by decide +kernel
theorem dX8_covers_3 : decode cX8_covers 3 = .ok (.ldc2_w 164, 3) := by decide +kernel
theorem dX8_covers_6 : decode cX8_covers 6 = .ok (.invokestatic 95, 3) := by decide +kernel
theorem dX8_covers_9 : decode cX8_covers 9 = .ok (.ifCond .ne 7, 3) := by decide +kernel
theorem dX8_covers_12 : decode cX8_covers 12 = .ok (.ldc2_w 160, 3) := by decide +kernel
theorem dX8_covers_15 : decode cX8_covers 15 = .ok (.lreturn, 1) := by decide +kernel
theorem dX8_covers_16 : decode cX8_covers 16 = .ok (.aload_n 0, 1) := by decide +kernel
theorem dX8_covers_17 : decode cX8_covers 17 = .ok (.getfield 32, 3) := by decide +kernel
theorem dX8_covers_20 : decode cX8_covers 20 = .ok (.iload_n 1, 1) := by decide +kernel
theorem dX8_covers_21 : decode cX8_covers 21 = .ok (.iaload, 1) := by decide +kernel
theorem dX8_covers_22 : decode cX8_covers 22 = .ok (.ifCond .ne 7, 3) := by decide +kernel
theorem dX8_covers_25 : decode cX8_covers 25 = .ok (.ldc2_w 113, 3) := by decide +kernel
theorem dX8_covers_28 : decode cX8_covers 28 = .ok (.lreturn, 1) := by decide +kernel
theorem dX8_covers_29 : decode cX8_covers 29 = .ok (.iconst 0, 1) := by decide +kernel
theorem dX8_covers_30 : decode cX8_covers 30 = .ok (.istore_n 2, 1) := by decide +kernel
theorem dX8_covers_31 : decode cX8_covers 31 = .ok (.iload_n 2, 1) := by decide +kernel
theorem dX8_covers_32 : decode cX8_covers 32 = .ok (.aload_n 0, 1) := by decide +kernel
theorem dX8_covers_33 : decode cX8_covers 33 = .ok (.invokevirtual 99, 3) := by decide +kernel
theorem dX8_covers_36 : decode cX8_covers 36 = .ok (.if_icmp .ge 31, 3) := by decide +kernel
theorem dX8_covers_39 : decode cX8_covers 39 = .ok (.aload_n 0, 1) := by decide +kernel
theorem dX8_covers_40 : decode cX8_covers 40 = .ok (.iload_n 2, 1) := by decide +kernel
theorem dX8_covers_41 : decode cX8_covers 41 = .ok (.invokevirtual 287, 3) := by decide +kernel
theorem dX8_covers_44 : decode cX8_covers 44 = .ok (.ifCond .eq 17, 3) := by decide +kernel
theorem dX8_covers_47 : decode cX8_covers 47 = .ok (.aload_n 0, 1) := by decide +kernel
theorem dX8_covers_48 : decode cX8_covers 48 = .ok (.iload_n 2, 1) := by decide +kernel
theorem dX8_covers_49 : decode cX8_covers 49 = .ok (.iload_n 1, 1) := by decide +kernel
theorem dX8_covers_50 : decode cX8_covers 50 = .ok (.invokevirtual 290, 3) := by decide +kernel
theorem dX8_covers_53 : decode cX8_covers 53 = .ok (.ifCond .ne 8, 3) := by decide +kernel
theorem dX8_covers_56 : decode cX8_covers 56 = .ok (.lconst 1, 1) := by decide +kernel
theorem dX8_covers_57 : decode cX8_covers 57 = .ok (.iload_n 2, 1) := by decide +kernel
theorem dX8_covers_58 : decode cX8_covers 58 = .ok (.i2l, 1) := by decide +kernel
theorem dX8_covers_59 : decode cX8_covers 59 = .ok (.ladd, 1) := by decide +kernel
theorem dX8_covers_60 : decode cX8_covers 60 = .ok (.lreturn, 1) := by decide +kernel
theorem dX8_covers_61 : decode cX8_covers 61 = .ok (.iinc 2 1, 3) := by decide +kernel
theorem dX8_covers_64 : decode cX8_covers 64 = .ok (.goto (-33), 3) := by decide +kernel
theorem dX8_covers_67 : decode cX8_covers 67 = .ok (.iconst 0, 1) := by decide +kernel
theorem dX8_covers_68 : decode cX8_covers 68 = .ok (.istore_n 2, 1) := by decide +kernel
theorem dX8_covers_69 : decode cX8_covers 69 = .ok (.iload_n 2, 1) := by decide +kernel
theorem dX8_covers_70 : decode cX8_covers 70 = .ok (.aload_n 0, 1) := by decide +kernel
theorem dX8_covers_71 : decode cX8_covers 71 = .ok (.invokevirtual 99, 3) := by decide +kernel
theorem dX8_covers_74 : decode cX8_covers 74 = .ok (.if_icmp .ge 66, 3) := by decide +kernel
theorem dX8_covers_77 : decode cX8_covers 77 = .ok (.iload_n 2, 1) := by decide +kernel
theorem dX8_covers_78 : decode cX8_covers 78 = .ok (.iconst 1, 1) := by decide +kernel
theorem dX8_covers_79 : decode cX8_covers 79 = .ok (.iadd, 1) := by decide +kernel
theorem dX8_covers_80 : decode cX8_covers 80 = .ok (.istore_n 3, 1) := by decide +kernel
theorem dX8_covers_81 : decode cX8_covers 81 = .ok (.iload_n 3, 1) := by decide +kernel
theorem dX8_covers_82 : decode cX8_covers 82 = .ok (.aload_n 0, 1) := by decide +kernel
theorem dX8_covers_83 : decode cX8_covers 83 = .ok (.invokevirtual 99, 3) := by decide +kernel
theorem dX8_covers_86 : decode cX8_covers 86 = .ok (.if_icmp .ge 48, 3) := by decide +kernel
theorem dX8_covers_89 : decode cX8_covers 89 = .ok (.aload_n 0, 1) := by decide +kernel
theorem dX8_covers_90 : decode cX8_covers 90 = .ok (.iload_n 2, 1) := by decide +kernel
theorem dX8_covers_91 : decode cX8_covers 91 = .ok (.invokevirtual 287, 3) := by decide +kernel
theorem dX8_covers_94 : decode cX8_covers 94 = .ok (.ifCond .eq 34, 3) := by decide +kernel
theorem dX8_covers_97 : decode cX8_covers 97 = .ok (.aload_n 0, 1) := by decide +kernel
theorem dX8_covers_98 : decode cX8_covers 98 = .ok (.iload_n 3, 1) := by decide +kernel
theorem dX8_covers_99 : decode cX8_covers 99 = .ok (.invokevirtual 287, 3) := by decide +kernel
theorem dX8_covers_102 : decode cX8_covers 102 = .ok (.ifCond .eq 26, 3) := by decide +kernel
theorem dX8_covers_105 : decode cX8_covers 105 = .ok (.aload_n 0, 1) := by decide +kernel
theorem dX8_covers_106 : decode cX8_covers 106 = .ok (.iload_n 2, 1) := by decide +kernel
theorem dX8_covers_107 : decode cX8_covers 107 = .ok (.iload_n 3, 1) := by decide +kernel
theorem dX8_covers_108 : decode cX8_covers 108 = .ok (.invokevirtual 277, 3) := by decide +kernel
theorem dX8_covers_111 : decode cX8_covers 111 = .ok (.ifCond .eq 17, 3) := by decide +kernel
theorem dX8_covers_114 : decode cX8_covers 114 = .ok (.ldc2_w 293, 3) := by decide +kernel
theorem dX8_covers_117 : decode cX8_covers 117 = .ok (.ldc2_w 295, 3) := by decide +kernel
theorem dX8_covers_120 : decode cX8_covers 120 = .ok (.iload_n 2, 1) := by decide +kernel
theorem dX8_covers_121 : decode cX8_covers 121 = .ok (.i2l, 1) := by decide +kernel
theorem dX8_covers_122 : decode cX8_covers 122 = .ok (.lmul, 1) := by decide +kernel
theorem dX8_covers_123 : decode cX8_covers 123 = .ok (.ladd, 1) := by decide +kernel
theorem dX8_covers_124 : decode cX8_covers 124 = .ok (.iload_n 3, 1) := by decide +kernel
theorem dX8_covers_125 : decode cX8_covers 125 = .ok (.i2l, 1) := by decide +kernel
theorem dX8_covers_126 : decode cX8_covers 126 = .ok (.ladd, 1) := by decide +kernel
theorem dX8_covers_127 : decode cX8_covers 127 = .ok (.lreturn, 1) := by decide +kernel
theorem dX8_covers_128 : decode cX8_covers 128 = .ok (.iinc 3 1, 3) := by decide +kernel
theorem dX8_covers_131 : decode cX8_covers 131 = .ok (.goto (-50), 3) := by decide +kernel
theorem dX8_covers_134 : decode cX8_covers 134 = .ok (.iinc 2 1, 3) := by decide +kernel
theorem dX8_covers_137 : decode cX8_covers 137 = .ok (.goto (-68), 3) := by decide +kernel
theorem dX8_covers_140 : decode cX8_covers 140 = .ok (.aload_n 0, 1) := by decide +kernel
theorem dX8_covers_141 : decode cX8_covers 141 = .ok (.invokevirtual 297, 3) := by decide +kernel
theorem dX8_covers_144 : decode cX8_covers 144 = .ok (.aload_n 0, 1) := by decide +kernel
theorem dX8_covers_145 : decode cX8_covers 145 = .ok (.iload_n 1, 1) := by decide +kernel
theorem dX8_covers_146 : decode cX8_covers 146 = .ok (.invokevirtual 170, 3) := by decide +kernel
theorem dX8_covers_149 : decode cX8_covers 149 = .ok (.lcmp, 1) := by decide +kernel
theorem dX8_covers_150 : decode cX8_covers 150 = .ok (.ifCond .ne 7, 3) := by decide +kernel
theorem dX8_covers_153 : decode cX8_covers 153 = .ok (.lconst 0, 1) := by decide +kernel
theorem dX8_covers_154 : decode cX8_covers 154 = .ok (.goto 6, 3) := by decide +kernel
theorem dX8_covers_157 : decode cX8_covers 157 = .ok (.ldc2_w 301, 3) := by decide +kernel
theorem dX8_covers_160 : decode cX8_covers 160 = .ok (.lreturn, 1) := by decide +kernel
set_option maxHeartbeats 4000000 in
set_option maxRecDepth 100000 in
theorem tX8_covers (l : Launch) (G : Gg) (b0 : Nat) {K : Kk} {R : Rr} {M : Mm} {r : Nat} {a0 : Int32} {res : Int64} {M' : Mm} (hm : mX8_covers K R M r a0 = some (res, M')) : CT l G b0 yX8_covers cX8_covers 4 (some .long) (rmz 7 157) [.ref r, .int a0] K R M (some (.long res)) K R M' := by
  refine ct_of (by decide +kernel) (Nat.le_of_ble_eq_true rfl) (fun w hw => ?_)
  change w 0 0 0 [(0, .ref r), (1, .int a0)] [] K R M
  replace hm := h_start hm
  unfold mX8_covers at hm
  obtain ⟨h1, m45⟩ := h_ck hm
  clear hm
  refine r_iload_n hw dX8_covers_0 1 rfl ?_
  refine r_i2l hw dX8_covers_1 ?_
  refine r_lconst (v := 0) hw dX8_covers_2 rfl ?_
  refine r_ldc2 (v := 4) hw dX8_covers_3 kW_X8_164 ?_
  obtain ⟨i2, g2, m46⟩ := h_bd m45
  clear m45
  refine r_callS1 hw (tX8_isIn l G b0 g2) lB_X8_isIn sT_X8_isIn mL_X8_95 rfl rfl (Nat.le_of_ble_eq_true rfl) (Nat.le_of_ble_eq_true rfl) rfl (Nat.le_of_ble_eq_true rfl) dX8_covers_6 ?_
  refine r_if_ne (tgt := 16) hw dX8_covers_9 (by decide) (fun c3 => ?_) (fun c3 => ?_)
  · have m47 := h_if_f c3 m46
    clear m46
    refine r_aload_n hw dX8_covers_16 0 rfl ?_
    obtain ⟨q4, bq4, m48⟩ := h_bd m47
    clear m47
    refine r_getR hw fO_X8_32 h1 bq4 dX8_covers_17 ?_
    refine r_iload_n hw dX8_covers_20 1 rfl ?_
    obtain ⟨h5, m49⟩ := h_ck m48
    clear m48
    refine r_iaload hw h5 dX8_covers_21 ?_
    refine r_if_ne (tgt := 29) hw dX8_covers_22 (by decide) (fun c6 => ?_) (fun c6 => ?_)
    · have m50 := h_if_f c6 m49
      clear m49
      refine r_iconst (v := 0) hw dX8_covers_29 rfl ?_
      obtain ⟨i7, ei7, m51⟩ := h_nm m50
      clear m50
      refine r_topI (w := w) ei7 ?_
      refine r_istore_n hw dX8_covers_30 rfl (by decide) rfl ?_
      refine r_sub hw [1, 2, 0] rfl ?_
      obtain ⟨v31, n031, hn31, hv31⟩ := h_lp m51
      clear m51
      have L31 : ∀ n : Nat, ∀ (i8 : Int32) (M9 : Mm), it (mX8_covers_L31 K R r a0) n (i8, M9) = some v31 → w 0 0 31 [(0, .ref r), (1, .int a0), (2, .int i8)] [] K R M9 := by
        intro n31
        induction n31 with
        | zero => intro i8 M9 hz; exact absurd hz h_it0
        | succ n31 ih31 =>
          intro i8 M9 m52
          replace m52 : (mX8_covers_B31 K R r a0 i8 M9).bind (Sum.elim (it (mX8_covers_L31 K R r a0) n31) some) = some v31 := m52
          unfold mX8_covers_B31 at m52
          have J61 : ∀ (M11 : Mm) (i10 : Int32), (mX8_covers_J61 K R M11 r a0 i10).bind (Sum.elim (it (mX8_covers_L31 K R r a0) n31) some) = some v31 → w 0 0 61 [(0, .ref r), (1, .int a0), (2, .int i10)] [] K R M11 := by
            intro M11 i10 m53
            unfold mX8_covers_J61 at m53
            obtain ⟨i12, ei12, m54⟩ := h_nm m53
            clear m53
            refine r_iinc (j := 2) (v := i12) hw dX8_covers_61 rfl (by rw [ei12]; rfl) (by decide) rfl ?_
            refine r_goto (tgt := 31) hw dX8_covers_64 (by decide) ?_
            refine r_sub hw [1, 2, 0] rfl ?_
            exact ih31 _ _ m54
          refine r_iload_n hw dX8_covers_31 2 rfl ?_
          refine r_aload_n hw dX8_covers_32 0 rfl ?_
          obtain ⟨i13, g13, m55⟩ := h_bd m52
          clear m52
          refine r_callV1 hw (tX8_pieces l G b0 g13) lB_X8_pieces lI_X8_pieces mL_X8_99 (c := 8) rfl h1 rfl (Nat.le_of_ble_eq_true rfl) (Nat.le_of_ble_eq_true rfl) rfl (Nat.le_of_ble_eq_true rfl) dX8_covers_33 ?_
          refine r_icmp_ge (tgt := 67) hw dX8_covers_36 (by decide) (fun c14 => ?_) (fun c14 => ?_)
          · have m56 := h_if_f c14 m55
            clear m55
            have m57 := h_ex m56 hv31
            clear m56
            refine r_iconst (v := 0) hw dX8_covers_67 rfl ?_
            obtain ⟨i15, ei15, m58⟩ := h_nm m57
            clear m57
            refine r_topI (w := w) ei15 ?_
            refine r_istore_n hw dX8_covers_68 rfl (by decide) rfl ?_
            refine r_sub hw [1, 2, 0] rfl ?_
            obtain ⟨v69, n069, hn69, hv69⟩ := h_lp m58
            clear m58
            have L69 : ∀ n : Nat, ∀ (i16 : Int32) (M17 : Mm), it (mX8_covers_L69 K R r a0) n (i16, M17) = some v69 → w 0 0 69 [(0, .ref r), (1, .int a0), (2, .int i16)] [] K R M17 := by
              intro n69
              induction n69 with
              | zero => intro i16 M17 hz; exact absurd hz h_it0
              | succ n69 ih69 =>
                intro i16 M17 m59
                replace m59 : (mX8_covers_B69 K R r a0 i16 M17).bind (Sum.elim (it (mX8_covers_L69 K R r a0) n69) some) = some v69 := m59
                unfold mX8_covers_B69 at m59
                refine r_iload_n hw dX8_covers_69 2 rfl ?_
                refine r_aload_n hw dX8_covers_70 0 rfl ?_
                obtain ⟨i18, g18, m60⟩ := h_bd m59
                clear m59
                refine r_callV1 hw (tX8_pieces l G b0 g18) lB_X8_pieces lI_X8_pieces mL_X8_99 (c := 8) rfl h1 rfl (Nat.le_of_ble_eq_true rfl) (Nat.le_of_ble_eq_true rfl) rfl (Nat.le_of_ble_eq_true rfl) dX8_covers_71 ?_
                refine r_icmp_ge (tgt := 140) hw dX8_covers_74 (by decide) (fun c19 => ?_) (fun c19 => ?_)
                · have m61 := h_if_f c19 m60
                  clear m60
                  have m62 := h_ex m61 hv69
                  clear m61
                  refine r_aload_n hw dX8_covers_140 0 rfl ?_
                  obtain ⟨l20, M21, g21, m63⟩ := h_bd2 m62
                  clear m62
                  refine r_callV1 hw (tX8_allAreas l G b0 g21) lB_X8_allAreas lI_X8_allAreas mL_X8_297 (c := 8) rfl h1 rfl (Nat.le_of_ble_eq_true rfl) (Nat.le_of_ble_eq_true rfl) rfl (Nat.le_of_ble_eq_true rfl) dX8_covers_141 ?_
                  refine r_aload_n hw dX8_covers_144 0 rfl ?_
                  refine r_iload_n hw dX8_covers_145 1 rfl ?_
                  obtain ⟨l22, g22, m64⟩ := h_bd m63
                  clear m63
                  refine r_callV1 hw (tX8_figureArea l G b0 g22) lB_X8_figureArea lI_X8_figureArea mL_X8_170 (c := 8) rfl h1 rfl (Nat.le_of_ble_eq_true rfl) (Nat.le_of_ble_eq_true rfl) rfl (Nat.le_of_ble_eq_true rfl) dX8_covers_146 ?_
                  refine r_lcmp_ne (tgt := 157) hw dX8_covers_149 dX8_covers_150 (by decide) (fun c23 => ?_) (fun c23 => ?_)
                  · have m65 := h_if_f c23 m64
                    clear m64
                    refine r_ldc2 (v := 2000) hw dX8_covers_157 kW_X8_301 ?_
                    cases h_ret m65
                    exact r_lreturn hw rfl rfl dX8_covers_160
                  · have m66 := h_if_t c23 m64
                    clear m64
                    refine r_lconst (v := 0) hw dX8_covers_153 rfl ?_
                    refine r_goto (tgt := 160) hw dX8_covers_154 (by decide) ?_
                    cases h_ret m66
                    exact r_lreturn hw rfl rfl dX8_covers_160
                · have m67 := h_if_t c19 m60
                  clear m60
                  refine r_iload_n hw dX8_covers_77 2 rfl ?_
                  refine r_iconst (v := 1) hw dX8_covers_78 rfl ?_
                  refine r_iadd hw dX8_covers_79 ?_
                  obtain ⟨i24, ei24, m68⟩ := h_nm m67
                  clear m67
                  refine r_topI (w := w) ei24 ?_
                  refine r_istore_n hw dX8_covers_80 rfl (by decide) rfl ?_
                  refine r_sub hw [1, 2, 3, 0] rfl ?_
                  obtain ⟨v81, n081, hn81, hv81⟩ := h_lp m68
                  clear m68
                  have L81 : ∀ n : Nat, ∀ (i25 : Int32) (M26 : Mm), it (mX8_covers_L81 K R r a0 i16) n (i25, M26) = some v81 → w 0 0 81 [(0, .ref r), (1, .int a0), (2, .int i16), (3, .int i25)] [] K R M26 := by
                    intro n81
                    induction n81 with
                    | zero => intro i25 M26 hz; exact absurd hz h_it0
                    | succ n81 ih81 =>
                      intro i25 M26 m69
                      replace m69 : (mX8_covers_B81 K R r a0 i16 i25 M26).bind (Sum.elim (it (mX8_covers_L81 K R r a0 i16) n81) some) = some v81 := m69
                      unfold mX8_covers_B81 at m69
                      have J128 : ∀ (M28 : Mm) (i27 : Int32), (mX8_covers_J128 K R M28 r a0 i16 i27).bind (Sum.elim (it (mX8_covers_L81 K R r a0 i16) n81) some) = some v81 → w 0 0 128 [(0, .ref r), (1, .int a0), (2, .int i16), (3, .int i27)] [] K R M28 := by
                        intro M28 i27 m70
                        unfold mX8_covers_J128 at m70
                        obtain ⟨i29, ei29, m71⟩ := h_nm m70
                        clear m70
                        refine r_iinc (j := 3) (v := i29) hw dX8_covers_128 rfl (by rw [ei29]; rfl) (by decide) rfl ?_
                        refine r_goto (tgt := 81) hw dX8_covers_131 (by decide) ?_
                        refine r_sub hw [1, 2, 3, 0] rfl ?_
                        exact ih81 _ _ m71
                      refine r_iload_n hw dX8_covers_81 3 rfl ?_
                      refine r_aload_n hw dX8_covers_82 0 rfl ?_
                      obtain ⟨i30, g30, m72⟩ := h_bd m69
                      clear m69
                      refine r_callV1 hw (tX8_pieces l G b0 g30) lB_X8_pieces lI_X8_pieces mL_X8_99 (c := 8) rfl h1 rfl (Nat.le_of_ble_eq_true rfl) (Nat.le_of_ble_eq_true rfl) rfl (Nat.le_of_ble_eq_true rfl) dX8_covers_83 ?_
                      refine r_icmp_ge (tgt := 134) hw dX8_covers_86 (by decide) (fun c31 => ?_) (fun c31 => ?_)
                      · have m73 := h_if_f c31 m72
                        clear m72
                        have m74 := h_ex m73 hv81
                        clear m73
                        obtain ⟨i32, ei32, m75⟩ := h_nm m74
                        clear m74
                        refine r_iinc (j := 2) (v := i32) hw dX8_covers_134 rfl (by rw [ei32]; rfl) (by decide) rfl ?_
                        refine r_goto (tgt := 69) hw dX8_covers_137 (by decide) ?_
                        refine r_sub hw [1, 2, 0] rfl ?_
                        exact ih69 _ _ m75
                      · have m76 := h_if_t c31 m72
                        clear m72
                        refine r_aload_n hw dX8_covers_89 0 rfl ?_
                        refine r_iload_n hw dX8_covers_90 2 rfl ?_
                        obtain ⟨i33, g33, m77⟩ := h_bd m76
                        clear m76
                        refine r_callV1 hw (tX8_isLaid l G b0 g33) lB_X8_isLaid lI_X8_isLaid mL_X8_287 (c := 8) rfl h1 rfl (Nat.le_of_ble_eq_true rfl) (Nat.le_of_ble_eq_true rfl) rfl (Nat.le_of_ble_eq_true rfl) dX8_covers_91 ?_
                        refine r_if_eq (tgt := 128) hw dX8_covers_94 (by decide) (fun c34 => ?_) (fun c34 => ?_)
                        · have m78 := h_if_t c34 m77
                          clear m77
                          exact J128 _ _ m78
                        · have m79 := h_if_f c34 m77
                          clear m77
                          refine r_aload_n hw dX8_covers_97 0 rfl ?_
                          refine r_iload_n hw dX8_covers_98 3 rfl ?_
                          obtain ⟨i35, g35, m80⟩ := h_bd m79
                          clear m79
                          refine r_callV1 hw (tX8_isLaid l G b0 g35) lB_X8_isLaid lI_X8_isLaid mL_X8_287 (c := 8) rfl h1 rfl (Nat.le_of_ble_eq_true rfl) (Nat.le_of_ble_eq_true rfl) rfl (Nat.le_of_ble_eq_true rfl) dX8_covers_99 ?_
                          refine r_if_eq (tgt := 128) hw dX8_covers_102 (by decide) (fun c36 => ?_) (fun c36 => ?_)
                          · have m81 := h_if_t c36 m80
                            clear m80
                            exact J128 _ _ m81
                          · have m82 := h_if_f c36 m80
                            clear m80
                            refine r_aload_n hw dX8_covers_105 0 rfl ?_
                            refine r_iload_n hw dX8_covers_106 2 rfl ?_
                            refine r_iload_n hw dX8_covers_107 3 rfl ?_
                            obtain ⟨i37, M38, g38, m83⟩ := h_bd2 m82
                            clear m82
                            refine r_callV1 hw (tX8_isOver l G b0 g38) lB_X8_isOver lI_X8_isOver mL_X8_277 (c := 8) rfl h1 rfl (Nat.le_of_ble_eq_true rfl) (Nat.le_of_ble_eq_true rfl) rfl (Nat.le_of_ble_eq_true rfl) dX8_covers_108 ?_
                            refine r_if_eq (tgt := 128) hw dX8_covers_111 (by decide) (fun c39 => ?_) (fun c39 => ?_)
                            · have m84 := h_if_t c39 m83
                              clear m83
                              exact J128 _ _ m84
                            · have m85 := h_if_f c39 m83
                              clear m83
                              have m86 := h_ex m85 hv81
                              clear m85
                              have m87 := h_ex m86 hv69
                              clear m86
                              refine r_ldc2 (v := 100) hw dX8_covers_114 kW_X8_293 ?_
                              refine r_ldc2 (v := 40) hw dX8_covers_117 kW_X8_295 ?_
                              refine r_iload_n hw dX8_covers_120 2 rfl ?_
                              refine r_i2l hw dX8_covers_121 ?_
                              refine r_lmul hw dX8_covers_122 ?_
                              refine r_ladd hw dX8_covers_123 ?_
                              refine r_iload_n hw dX8_covers_124 3 rfl ?_
                              refine r_i2l hw dX8_covers_125 ?_
                              refine r_ladd hw dX8_covers_126 ?_
                              cases h_ret m87
                              exact r_lreturn hw rfl rfl dX8_covers_127
                  exact L81 n081 _ _ hn81
            exact L69 n069 _ _ hn69
          · have m88 := h_if_t c14 m55
            clear m55
            refine r_aload_n hw dX8_covers_39 0 rfl ?_
            refine r_iload_n hw dX8_covers_40 2 rfl ?_
            obtain ⟨i40, g40, m89⟩ := h_bd m88
            clear m88
            refine r_callV1 hw (tX8_isLaid l G b0 g40) lB_X8_isLaid lI_X8_isLaid mL_X8_287 (c := 8) rfl h1 rfl (Nat.le_of_ble_eq_true rfl) (Nat.le_of_ble_eq_true rfl) rfl (Nat.le_of_ble_eq_true rfl) dX8_covers_41 ?_
            refine r_if_eq (tgt := 61) hw dX8_covers_44 (by decide) (fun c41 => ?_) (fun c41 => ?_)
            · have m90 := h_if_t c41 m89
              clear m89
              exact J61 _ _ m90
            · have m91 := h_if_f c41 m89
              clear m89
              refine r_aload_n hw dX8_covers_47 0 rfl ?_
              refine r_iload_n hw dX8_covers_48 2 rfl ?_
              refine r_iload_n hw dX8_covers_49 1 rfl ?_
              obtain ⟨i42, M43, g43, m92⟩ := h_bd2 m91
              clear m91
              refine r_callV1 hw (tX8_isWithin l G b0 g43) lB_X8_isWithin lI_X8_isWithin mL_X8_290 (c := 8) rfl h1 rfl (Nat.le_of_ble_eq_true rfl) (Nat.le_of_ble_eq_true rfl) rfl (Nat.le_of_ble_eq_true rfl) dX8_covers_50 ?_
              refine r_if_ne (tgt := 61) hw dX8_covers_53 (by decide) (fun c44 => ?_) (fun c44 => ?_)
              · have m93 := h_if_f c44 m92
                clear m92
                exact J61 _ _ m93
              · have m94 := h_if_t c44 m92
                clear m92
                have m95 := h_ex m94 hv31
                clear m94
                refine r_lconst (v := 1) hw dX8_covers_56 rfl ?_
                refine r_iload_n hw dX8_covers_57 2 rfl ?_
                refine r_i2l hw dX8_covers_58 ?_
                refine r_ladd hw dX8_covers_59 ?_
                cases h_ret m95
                exact r_lreturn hw rfl rfl dX8_covers_60
      exact L31 n031 _ _ hn31
    · have m96 := h_if_t c6 m49
      clear m49
      refine r_ldc2 (v := (-9000000000000000002)) hw dX8_covers_25 kW_X8_113 ?_
      cases h_ret m96
      exact r_lreturn hw rfl rfl dX8_covers_28
  · have m97 := h_if_t c3 m46
    clear m46
    refine r_ldc2 (v := (-9000000000000000001)) hw dX8_covers_12 kW_X8_160 ?_
    cases h_ret m97
    exact r_lreturn hw rfl rfl dX8_covers_15
theorem dX8_common_0 : decode cX8_common 0 = .ok (.lload_n 0, 1) := by decide +kernel
theorem dX8_common_1 : decode cX8_common 1 = .ok (.lconst 0, 1) := by decide +kernel
theorem dX8_common_2 : decode cX8_common 2 = .ok (.lcmp, 1) := by decide +kernel
theorem dX8_common_3 : decode cX8_common 3 = .ok (.ifCond .ge 8, 3) := by decide +kernel
theorem dX8_common_6 : decode cX8_common 6 = .ok (.lload_n 0, 1) := by decide +kernel
theorem dX8_common_7 : decode cX8_common 7 = .ok (.lneg, 1) := by decide +kernel
theorem dX8_common_8 : decode cX8_common 8 = .ok (.goto 4, 3) := by decide +kernel
theorem dX8_common_11 : decode cX8_common 11 = .ok (.lload_n 0, 1) := by decide +kernel
theorem dX8_common_12 : decode cX8_common 12 = .ok (.lstore 4, 2) := by decide +kernel
theorem dX8_common_14 : decode cX8_common 14 = .ok (.lload_n 2, 1) := by decide +kernel
theorem dX8_common_15 : decode cX8_common 15 = .ok (.lconst 0, 1) := by decide +kernel
theorem dX8_common_16 : decode cX8_common 16 = .ok (.lcmp, 1) := by decide +kernel
theorem dX8_common_17 : decode cX8_common 17 = .ok (.ifCond .ge 8, 3) := by decide +kernel
theorem dX8_common_20 : decode cX8_common 20 = .ok (.lload_n 2, 1) := by decide +kernel
theorem dX8_common_21 : decode cX8_common 21 = .ok (.lneg, 1) := by decide +kernel
theorem dX8_common_22 : decode cX8_common 22 = .ok (.goto 4, 3) := by decide +kernel
theorem dX8_common_25 : decode cX8_common 25 = .ok (.lload_n 2, 1) := by decide +kernel
theorem dX8_common_26 : decode cX8_common 26 = .ok (.lstore 6, 2) := by decide +kernel
theorem dX8_common_28 : decode cX8_common 28 = .ok (.lload 6, 2) := by decide +kernel
theorem dX8_common_30 : decode cX8_common 30 = .ok (.lconst 0, 1) := by decide +kernel
theorem dX8_common_31 : decode cX8_common 31 = .ok (.lcmp, 1) := by decide +kernel
theorem dX8_common_32 : decode cX8_common 32 = .ok (.ifCond .eq 21, 3) := by decide +kernel
theorem dX8_common_35 : decode cX8_common 35 = .ok (.lload 4, 2) := by decide +kernel
theorem dX8_common_37 : decode cX8_common 37 = .ok (.lload 6, 2) := by decide +kernel
theorem dX8_common_39 : decode cX8_common 39 = .ok (.lrem, 1) := by decide +kernel
theorem dX8_common_40 : decode cX8_common 40 = .ok (.lstore 8, 2) := by decide +kernel
theorem dX8_common_42 : decode cX8_common 42 = .ok (.lload 6, 2) := by decide +kernel
theorem dX8_common_44 : decode cX8_common 44 = .ok (.lstore 4, 2) := by decide +kernel
theorem dX8_common_46 : decode cX8_common 46 = .ok (.lload 8, 2) := by decide +kernel
theorem dX8_common_48 : decode cX8_common 48 = .ok (.lstore 6, 2) := by decide +kernel
theorem dX8_common_50 : decode cX8_common 50 = .ok (.goto (-22), 3) := by decide +kernel
theorem dX8_common_53 : decode cX8_common 53 = .ok (.lload 4, 2) := by decide +kernel
theorem dX8_common_55 : decode cX8_common 55 = .ok (.lreturn, 1) := by decide +kernel
set_option maxHeartbeats 4000000 in
set_option maxRecDepth 100000 in
theorem tX8_common (l : Launch) (G : Gg) (b0 : Nat) {K : Kk} {R : Rr} {M : Mm} {a0 : Int64} {a1 : Int64} {res : Int64} (hm : mX8_common K R M a0 a1 = some (res)) : CT l G b0 yX8_common cX8_common 10 (some .long) (rmz 1 0) [.long a0, .long a1] K R M (some (.long res)) K R M := by
  refine ct_of (by decide +kernel) (Nat.le_of_ble_eq_true rfl) (fun w hw => ?_)
  change w 0 0 0 [(0, .long a0), (2, .long a1)] [] K R M
  replace hm := h_start hm
  unfold mX8_common at hm
  have J26 : ∀ (l1 : Int64) (s2 : Int64), (mX8_common_J26 K R M l1 s2).bind some = some (res) → w 0 0 26 [(4, .long l1)] [.long s2] K R M := by
    intro l1 s2 m11
    unfold mX8_common_J26 at m11
    refine r_lstore hw dX8_common_26 (by decide) rfl ?_
    refine r_sub hw [1, 0] rfl ?_
    obtain ⟨v28, n028, hn28, hv28⟩ := h_lp m11
    clear m11
    have L28 : ∀ n : Nat, ∀ (l3 : Int64) (l4 : Int64), it (mX8_common_L28 K R M) n (l3, l4) = some v28 → w 0 0 28 [(4, .long l3), (6, .long l4)] [] K R M := by
      intro n28
      induction n28 with
      | zero => intro l3 l4 hz; exact absurd hz h_it0
      | succ n28 ih28 =>
        intro l3 l4 m12
        replace m12 : (mX8_common_B28 K R M l3 l4).bind (Sum.elim (it (mX8_common_L28 K R M) n28) some) = some v28 := m12
        unfold mX8_common_B28 at m12
        refine r_lload hw dX8_common_28 1 rfl ?_
        refine r_lconst (v := 0) hw dX8_common_30 rfl ?_
        refine r_lcmp_eq (tgt := 53) hw dX8_common_31 dX8_common_32 (by decide) (fun c5 => ?_) (fun c5 => ?_)
        · have m13 := h_if_t c5 m12
          clear m12
          have m14 := h_ex m13 hv28
          clear m13
          refine r_lload hw dX8_common_53 0 rfl ?_
          cases h_ret m14
          exact r_lreturn hw rfl rfl dX8_common_55
        · have m15 := h_if_f c5 m12
          clear m12
          refine r_lload hw dX8_common_35 0 rfl ?_
          refine r_lload hw dX8_common_37 1 rfl ?_
          obtain ⟨h6, m16⟩ := h_ck m15
          clear m15
          refine r_lrem hw dX8_common_39 h6 ?_
          obtain ⟨l7, el7, m17⟩ := h_nm m16
          clear m16
          refine r_topL (w := w) el7 ?_
          refine r_lstore hw dX8_common_40 (by decide) rfl ?_
          refine r_lload hw dX8_common_42 2 rfl ?_
          refine r_lstore hw dX8_common_44 (by decide) rfl ?_
          refine r_lload hw dX8_common_46 1 rfl ?_
          refine r_lstore hw dX8_common_48 (by decide) rfl ?_
          refine r_goto (tgt := 28) hw dX8_common_50 (by decide) ?_
          refine r_sub hw [1, 0] rfl ?_
          exact ih28 _ _ m17
    exact L28 n028 _ _ hn28
  have J12 : ∀ (s8 : Int64), (mX8_common_J12 K R M a1 s8).bind some = some (res) → w 0 0 12 [(2, .long a1)] [.long s8] K R M := by
    intro s8 m18
    unfold mX8_common_J12 at m18
    refine r_lstore hw dX8_common_12 (by decide) rfl ?_
    refine r_lload_n hw dX8_common_14 1 rfl ?_
    refine r_lconst (v := 0) hw dX8_common_15 rfl ?_
    refine r_lcmp_ge (tgt := 25) hw dX8_common_16 dX8_common_17 (by decide) (fun c9 => ?_) (fun c9 => ?_)
    · have m19 := h_if_f c9 m18
      clear m18
      refine r_lload_n hw dX8_common_25 1 rfl ?_
      refine r_sub hw [0] rfl ?_
      exact J26 _ _ m19
    · have m20 := h_if_t c9 m18
      clear m18
      refine r_lload_n hw dX8_common_20 1 rfl ?_
      refine r_lneg hw dX8_common_21 ?_
      refine r_goto (tgt := 26) hw dX8_common_22 (by decide) ?_
      refine r_sub hw [0] rfl ?_
      exact J26 _ _ m20
  refine r_lload_n hw dX8_common_0 0 rfl ?_
  refine r_lconst (v := 0) hw dX8_common_1 rfl ?_
  refine r_lcmp_ge (tgt := 11) hw dX8_common_2 dX8_common_3 (by decide) (fun c10 => ?_) (fun c10 => ?_)
  · have m21 := h_if_f c10 hm
    clear hm
    refine r_lload_n hw dX8_common_11 0 rfl ?_
    refine r_sub hw [1] rfl ?_
    exact J12 _ m21
  · have m22 := h_if_t c10 hm
    clear hm
    refine r_lload_n hw dX8_common_6 0 rfl ?_
    refine r_lneg hw dX8_common_7 ?_
    refine r_goto (tgt := 12) hw dX8_common_8 (by decide) ?_
    refine r_sub hw [1] rfl ?_
    exact J12 _ m22
