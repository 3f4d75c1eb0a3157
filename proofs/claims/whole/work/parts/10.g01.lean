theorem dX0_goTo_0 : decode cX0_goTo 0 = .ok (.aload_n 0, 1) := by decide +kernel
theorem dX0_goTo_1 : decode cX0_goTo 1 = .ok (.getfield 14, 3) := by decide +kernel
theorem dX0_goTo_4 : decode cX0_goTo 4 = .ok (.getfield 30, 3) := by decide +kernel
theorem dX0_goTo_7 : decode cX0_goTo 7 = .ok (.iconst 1, 1) := by decide +kernel
theorem dX0_goTo_8 : decode cX0_goTo 8 = .ok (.isub, 1) := by decide +kernel
theorem dX0_goTo_9 : decode cX0_goTo 9 = .ok (.istore 4, 2) := by decide +kernel
theorem dX0_goTo_11 : decode cX0_goTo 11 = .ok (.iload 4, 2) := by decide +kernel
theorem dX0_goTo_13 : decode cX0_goTo 13 = .ok (.iload_n 1, 1) := by decide +kernel
theorem dX0_goTo_14 : decode cX0_goTo 14 = .ok (.if_icmp .le 46, 3) := by decide +kernel
theorem dX0_goTo_17 : decode cX0_goTo 17 = .ok (.iload 4, 2) := by decide +kernel
theorem dX0_goTo_19 : decode cX0_goTo 19 = .ok (.ifCond .le 41, 3) := by decide +kernel
theorem dX0_goTo_22 : decode cX0_goTo 22 = .ok (.aload_n 0, 1) := by decide +kernel
theorem dX0_goTo_23 : decode cX0_goTo 23 = .ok (.getfield 14, 3) := by decide +kernel
theorem dX0_goTo_26 : decode cX0_goTo 26 = .ok (.iload 4, 2) := by decide +kernel
theorem dX0_goTo_28 : decode cX0_goTo 28 = .ok (.iconst 1, 1) := by decide +kernel
theorem dX0_goTo_29 : decode cX0_goTo 29 = .ok (.isub, 1) := by decide +kernel
theorem dX0_goTo_30 : decode cX0_goTo 30 = .ok (.iload 4, 2) := by decide +kernel
theorem dX0_goTo_32 : decode cX0_goTo 32 = .ok (.iload_n 2, 1) := by decide +kernel
theorem dX0_goTo_33 : decode cX0_goTo 33 = .ok (.iload_n 3, 1) := by decide +kernel
theorem dX0_goTo_34 : decode cX0_goTo 34 = .ok (.invokevirtual 85, 3) := by decide +kernel
theorem dX0_goTo_37 : decode cX0_goTo 37 = .ok (.lconst 0, 1) := by decide +kernel
theorem dX0_goTo_38 : decode cX0_goTo 38 = .ok (.lcmp, 1) := by decide +kernel
theorem dX0_goTo_39 : decode cX0_goTo 39 = .ok (.ifCond .le 6, 3) := by decide +kernel
theorem dX0_goTo_42 : decode cX0_goTo 42 = .ok (.goto 18, 3) := by decide +kernel
theorem dX0_goTo_45 : decode cX0_goTo 45 = .ok (.aload_n 0, 1) := by decide +kernel
theorem dX0_goTo_46 : decode cX0_goTo 46 = .ok (.getfield 14, 3) := by decide +kernel
theorem dX0_goTo_49 : decode cX0_goTo 49 = .ok (.iload 4, 2) := by decide +kernel
theorem dX0_goTo_51 : decode cX0_goTo 51 = .ok (.putfield 30, 3) := by decide +kernel
theorem dX0_goTo_54 : decode cX0_goTo 54 = .ok (.iinc 4 (-1), 3) := by decide +kernel
theorem dX0_goTo_57 : decode cX0_goTo 57 = .ok (.goto (-46), 3) := by decide +kernel
theorem dX0_goTo_60 : decode cX0_goTo 60 = .ok (.aload_n 0, 1) := by decide +kernel
theorem dX0_goTo_61 : decode cX0_goTo 61 = .ok (.getfield 14, 3) := by decide +kernel
theorem dX0_goTo_64 : decode cX0_goTo 64 = .ok (.iload_n 2, 1) := by decide +kernel
theorem dX0_goTo_65 : decode cX0_goTo 65 = .ok (.iload_n 3, 1) := by decide +kernel
theorem dX0_goTo_66 : decode cX0_goTo 66 = .ok (.invokevirtual 89, 3) := by decide +kernel
theorem dX0_goTo_69 : decode cX0_goTo 69 = .ok (.return_, 1) := by decide +kernel
set_option maxHeartbeats 4000000 in
set_option maxRecDepth 100000 in
theorem tX0_goTo (l : Launch) (G : Gg) (b0 : Nat) {K : Kk} {R : Rr} {M : Mm} {r : Nat} {a0 : Int32} {a1 : Int32} {a2 : Int32} {M' : Mm} (hm : mX0_goTo K R M r a0 a1 a2 = some (M')) : CT l G b0 yX0_goTo cX0_goTo 5 none (rmz 3 49) [.ref r, .int a0, .int a1, .int a2] K R M none K R M' := by
  refine ct_of (by decide +kernel) (Nat.le_of_ble_eq_true rfl) (fun w hq => ?_)
  have hw := hq.b
  change w 0 0 0 [(0, .ref r), (1, .int a0), (2, .int a1), (3, .int a2)] [] K R M
  replace hm := h_start hm
  unfold mX0_goTo at hm
  obtain ⟨h1, m19⟩ := h_ck hm
  clear hm
  have J60 : ∀ (M2 : Mm), (mX0_goTo_J60 K R M2 r a1 a2).bind some = some (M') → w 0 0 60 [(0, .ref r), (2, .int a1), (3, .int a2)] [] K R M2 := by
    intro M2  m20
    unfold mX0_goTo_J60 at m20
    refine r_aload_n hw dX0_goTo_60 0 rfl ?_
    obtain ⟨q3, bq3, m21⟩ := h_bd m20
    clear m20
    refine r_getR hw fO_X0_14 h1 bq3 dX0_goTo_61 ?_
    refine r_iload_n hw dX0_goTo_64 1 rfl ?_
    refine r_iload_n hw dX0_goTo_65 2 rfl ?_
    obtain ⟨h5, m22⟩ := h_ck m21
    clear m21
    obtain ⟨M4, g4, m23⟩ := h_bd m22
    clear m22
    refine r_callV0 hw (tX5_add l G b0 g4) lB_X5_add lI_X5_add mL_X0_89 (c := 5) rfl h5 rfl (Nat.le_of_ble_eq_true rfl) (Nat.le_of_ble_eq_true rfl) rfl (Nat.le_of_ble_eq_true rfl) dX0_goTo_66 ?_
    cases h_ret m23
    exact r_return hq rfl rfl dX0_goTo_69
  refine r_aload_n hw dX0_goTo_0 0 rfl ?_
  obtain ⟨q6, bq6, m24⟩ := h_bd m19
  clear m19
  refine r_getR hw fO_X0_14 h1 bq6 dX0_goTo_1 ?_
  obtain ⟨h7, m25⟩ := h_ck m24
  clear m24
  refine r_getI hw fO_X0_30 h7 dX0_goTo_4 ?_
  refine r_iconst (v := 1) hw dX0_goTo_7 rfl ?_
  refine r_isub hw dX0_goTo_8 ?_
  obtain ⟨i8, ei8, m26⟩ := h_nm m25
  clear m25
  refine r_topI (w := w) ei8 ?_
  refine r_istore hw dX0_goTo_9 (by decide) rfl ?_
  refine r_sub hw [1, 2, 3, 4, 0] rfl ?_
  obtain ⟨v11, n011, hn11, hv11⟩ := h_lp m26
  clear m26
  have L11 : ∀ n : Nat, ∀ (i9 : Int32) (M10 : Mm), it (mX0_goTo_L11 K R r a0 a1 a2) n (i9, M10) = some v11 → w 0 0 11 [(0, .ref r), (1, .int a0), (2, .int a1), (3, .int a2), (4, .int i9)] [] K R M10 := by
    intro n11
    induction n11 with
    | zero => intro i9 M10 hz; exact absurd hz h_it0
    | succ n11 ih11 =>
      intro i9 M10 m27
      replace m27 : (mX0_goTo_B11 K R r a0 a1 a2 i9 M10).bind (Sum.elim (it (mX0_goTo_L11 K R r a0 a1 a2) n11) some) = some v11 := m27
      unfold mX0_goTo_B11 at m27
      refine r_iload hw dX0_goTo_11 4 rfl ?_
      refine r_iload_n hw dX0_goTo_13 1 rfl ?_
      refine r_icmp_le (tgt := 60) hw dX0_goTo_14 (by decide) (fun c11 => ?_) (fun c11 => ?_)
      · have m28 := h_if_t c11 m27
        clear m27
        have m29 := h_ex m28 hv11
        clear m28
        refine r_sub hw [0, 2, 3] rfl ?_
        exact J60 _ m29
      · have m30 := h_if_f c11 m27
        clear m27
        refine r_iload hw dX0_goTo_17 4 rfl ?_
        refine r_if_le (tgt := 60) hw dX0_goTo_19 (by decide) (fun c12 => ?_) (fun c12 => ?_)
        · have m31 := h_if_t c12 m30
          clear m30
          have m32 := h_ex m31 hv11
          clear m31
          refine r_sub hw [0, 2, 3] rfl ?_
          exact J60 _ m32
        · have m33 := h_if_f c12 m30
          clear m30
          refine r_aload_n hw dX0_goTo_22 0 rfl ?_
          obtain ⟨q13, bq13, m34⟩ := h_bd m33
          clear m33
          refine r_getR hw fO_X0_14 h1 bq13 dX0_goTo_23 ?_
          refine r_iload hw dX0_goTo_26 4 rfl ?_
          refine r_iconst (v := 1) hw dX0_goTo_28 rfl ?_
          refine r_isub hw dX0_goTo_29 ?_
          refine r_iload hw dX0_goTo_30 4 rfl ?_
          refine r_iload_n hw dX0_goTo_32 2 rfl ?_
          refine r_iload_n hw dX0_goTo_33 3 rfl ?_
          obtain ⟨h15, m35⟩ := h_ck m34
          clear m34
          obtain ⟨l14, g14, m36⟩ := h_bd m35
          clear m35
          refine r_callV1 hw (tX5_sideAt l G b0 g14) lB_X5_sideAt lI_X5_sideAt mL_X0_85 (c := 5) rfl h15 rfl (Nat.le_of_ble_eq_true rfl) (Nat.le_of_ble_eq_true rfl) rfl (Nat.le_of_ble_eq_true rfl) dX0_goTo_34 ?_
          refine r_lconst (v := 0) hw dX0_goTo_37 rfl ?_
          refine r_lcmp_le (tgt := 45) hw dX0_goTo_38 dX0_goTo_39 (by decide) (fun c16 => ?_) (fun c16 => ?_)
          · have m37 := h_if_t c16 m36
            clear m36
            refine r_aload_n hw dX0_goTo_45 0 rfl ?_
            refine r_getR hw fO_X0_14 h1 bq13 dX0_goTo_46 ?_
            refine r_iload hw dX0_goTo_49 4 rfl ?_
            obtain ⟨M17, eM17, m38⟩ := h_nm m37
            clear m37
            refine r_putI hw fP_X0_30 h15 dX0_goTo_51 (r_mem ?_ rfl eM17)
            obtain ⟨i18, ei18, m39⟩ := h_nm m38
            clear m38
            refine r_iinc (j := 4) (v := i18) hw dX0_goTo_54 rfl (by rw [ei18]; rfl) (by decide) rfl ?_
            refine r_goto (tgt := 11) hw dX0_goTo_57 (by decide) ?_
            refine r_sub hw [1, 2, 3, 4, 0] rfl ?_
            exact ih11 _ _ m39
          · have m40 := h_if_f c16 m36
            clear m36
            have m41 := h_ex m40 hv11
            clear m40
            refine r_goto (tgt := 60) hw dX0_goTo_42 (by decide) ?_
            refine r_sub hw [0, 2, 3] rfl ?_
            exact J60 _ m41
  exact L11 n011 _ _ hn11
theorem dX0_goRound_0 : decode cX0_goRound 0 = .ok (.aload_n 0, 1) := by decide +kernel
theorem dX0_goRound_1 : decode cX0_goRound 1 = .ok (.getfield 14, 3) := by decide +kernel
theorem dX0_goRound_4 : decode cX0_goRound 4 = .ok (.iconst 0, 1) := by decide +kernel
theorem dX0_goRound_5 : decode cX0_goRound 5 = .ok (.putfield 30, 3) := by decide +kernel
theorem dX0_goRound_8 : decode cX0_goRound 8 = .ok (.iconst 0, 1) := by decide +kernel
theorem dX0_goRound_9 : decode cX0_goRound 9 = .ok (.istore_n 1, 1) := by decide +kernel
theorem dX0_goRound_10 : decode cX0_goRound 10 = .ok (.iload_n 1, 1) := by decide +kernel
theorem dX0_goRound_11 : decode cX0_goRound 11 = .ok (.aload_n 0, 1) := by decide +kernel
theorem dX0_goRound_12 : decode cX0_goRound 12 = .ok (.getfield 20, 3) := by decide +kernel
theorem dX0_goRound_15 : decode cX0_goRound 15 = .ok (.getfield 30, 3) := by decide +kernel
theorem dX0_goRound_18 : decode cX0_goRound 18 = .ok (.if_icmp .ge 32, 3) := by decide +kernel
theorem dX0_goRound_21 : decode cX0_goRound 21 = .ok (.aload_n 0, 1) := by decide +kernel
theorem dX0_goRound_22 : decode cX0_goRound 22 = .ok (.iconst 0, 1) := by decide +kernel
theorem dX0_goRound_23 : decode cX0_goRound 23 = .ok (.aload_n 0, 1) := by decide +kernel
theorem dX0_goRound_24 : decode cX0_goRound 24 = .ok (.getfield 20, 3) := by decide +kernel
theorem dX0_goRound_27 : decode cX0_goRound 27 = .ok (.getfield 45, 3) := by decide +kernel
theorem dX0_goRound_30 : decode cX0_goRound 30 = .ok (.iload_n 1, 1) := by decide +kernel
theorem dX0_goRound_31 : decode cX0_goRound 31 = .ok (.iaload, 1) := by decide +kernel
theorem dX0_goRound_32 : decode cX0_goRound 32 = .ok (.aload_n 0, 1) := by decide +kernel
theorem dX0_goRound_33 : decode cX0_goRound 33 = .ok (.getfield 20, 3) := by decide +kernel
theorem dX0_goRound_36 : decode cX0_goRound 36 = .ok (.getfield 49, 3) := by decide +kernel
theorem dX0_goRound_39 : decode cX0_goRound 39 = .ok (.iload_n 1, 1) := by decide +kernel
theorem dX0_goRound_40 : decode cX0_goRound 40 = .ok (.iaload, 1) := by decide +kernel
theorem dX0_goRound_41 : decode cX0_goRound 41 = .ok (.invokevirtual 92, 3) := by decide +kernel
theorem dX0_goRound_44 : decode cX0_goRound 44 = .ok (.iinc 1 1, 3) := by decide +kernel
theorem dX0_goRound_47 : decode cX0_goRound 47 = .ok (.goto (-37), 3) := by decide +kernel
theorem dX0_goRound_50 : decode cX0_goRound 50 = .ok (.aload_n 0, 1) := by decide +kernel
theorem dX0_goRound_51 : decode cX0_goRound 51 = .ok (.getfield 14, 3) := by decide +kernel
theorem dX0_goRound_54 : decode cX0_goRound 54 = .ok (.getfield 30, 3) := by decide +kernel
theorem dX0_goRound_57 : decode cX0_goRound 57 = .ok (.iconst 1, 1) := by decide +kernel
theorem dX0_goRound_58 : decode cX0_goRound 58 = .ok (.isub, 1) := by decide +kernel
theorem dX0_goRound_59 : decode cX0_goRound 59 = .ok (.istore_n 1, 1) := by decide +kernel
theorem dX0_goRound_60 : decode cX0_goRound 60 = .ok (.aload_n 0, 1) := by decide +kernel
theorem dX0_goRound_61 : decode cX0_goRound 61 = .ok (.getfield 20, 3) := by decide +kernel
theorem dX0_goRound_64 : decode cX0_goRound 64 = .ok (.getfield 30, 3) := by decide +kernel
theorem dX0_goRound_67 : decode cX0_goRound 67 = .ok (.iconst 2, 1) := by decide +kernel
theorem dX0_goRound_68 : decode cX0_goRound 68 = .ok (.isub, 1) := by decide +kernel
theorem dX0_goRound_69 : decode cX0_goRound 69 = .ok (.istore_n 2, 1) := by decide +kernel
theorem dX0_goRound_70 : decode cX0_goRound 70 = .ok (.iload_n 2, 1) := by decide +kernel
theorem dX0_goRound_71 : decode cX0_goRound 71 = .ok (.ifCond .lt 32, 3) := by decide +kernel
theorem dX0_goRound_74 : decode cX0_goRound 74 = .ok (.aload_n 0, 1) := by decide +kernel
theorem dX0_goRound_75 : decode cX0_goRound 75 = .ok (.iload_n 1, 1) := by decide +kernel
theorem dX0_goRound_76 : decode cX0_goRound 76 = .ok (.aload_n 0, 1) := by decide +kernel
theorem dX0_goRound_77 : decode cX0_goRound 77 = .ok (.getfield 20, 3) := by decide +kernel
theorem dX0_goRound_80 : decode cX0_goRound 80 = .ok (.getfield 45, 3) := by decide +kernel
theorem dX0_goRound_83 : decode cX0_goRound 83 = .ok (.iload_n 2, 1) := by decide +kernel
theorem dX0_goRound_84 : decode cX0_goRound 84 = .ok (.iaload, 1) := by decide +kernel
theorem dX0_goRound_85 : decode cX0_goRound 85 = .ok (.aload_n 0, 1) := by decide +kernel
theorem dX0_goRound_86 : decode cX0_goRound 86 = .ok (.getfield 20, 3) := by decide +kernel
theorem dX0_goRound_89 : decode cX0_goRound 89 = .ok (.getfield 49, 3) := by decide +kernel
theorem dX0_goRound_92 : decode cX0_goRound 92 = .ok (.iload_n 2, 1) := by decide +kernel
theorem dX0_goRound_93 : decode cX0_goRound 93 = .ok (.iaload, 1) := by decide +kernel
theorem dX0_goRound_94 : decode cX0_goRound 94 = .ok (.invokevirtual 92, 3) := by decide +kernel
theorem dX0_goRound_97 : decode cX0_goRound 97 = .ok (.iinc 2 (-1), 3) := by decide +kernel
theorem dX0_goRound_100 : decode cX0_goRound 100 = .ok (.goto (-30), 3) := by decide +kernel
theorem dX0_goRound_103 : decode cX0_goRound 103 = .ok (.aload_n 0, 1) := by decide +kernel
theorem dX0_goRound_104 : decode cX0_goRound 104 = .ok (.getfield 14, 3) := by decide +kernel
theorem dX0_goRound_107 : decode cX0_goRound 107 = .ok (.aload_n 0, 1) := by decide +kernel
theorem dX0_goRound_108 : decode cX0_goRound 108 = .ok (.getfield 14, 3) := by decide +kernel
theorem dX0_goRound_111 : decode cX0_goRound 111 = .ok (.getfield 30, 3) := by decide +kernel
theorem dX0_goRound_114 : decode cX0_goRound 114 = .ok (.iconst 1, 1) := by decide +kernel
theorem dX0_goRound_115 : decode cX0_goRound 115 = .ok (.isub, 1) := by decide +kernel
theorem dX0_goRound_116 : decode cX0_goRound 116 = .ok (.iconst 0, 1) := by decide +kernel
theorem dX0_goRound_117 : decode cX0_goRound 117 = .ok (.invokestatic 96, 3) := by decide +kernel
theorem dX0_goRound_120 : decode cX0_goRound 120 = .ok (.putfield 30, 3) := by decide +kernel
theorem dX0_goRound_123 : decode cX0_goRound 123 = .ok (.return_, 1) := by decide +kernel
set_option maxHeartbeats 4000000 in
set_option maxRecDepth 100000 in
theorem tX0_goRound (l : Launch) (G : Gg) (b0 : Nat) {K : Kk} {R : Rr} {M : Mm} {r : Nat} {M' : Mm} (hm : mX0_goRound K R M r = some (M')) : CT l G b0 yX0_goRound cX0_goRound 3 none (rmz 4 73) [.ref r] K R M none K R M' := by
  refine ct_of (by decide +kernel) (Nat.le_of_ble_eq_true rfl) (fun w hq => ?_)
  have hw := hq.b
  change w 0 0 0 [(0, .ref r)] [] K R M
  replace hm := h_start hm
  unfold mX0_goRound at hm
  obtain ⟨h1, m35⟩ := h_ck hm
  clear hm
  refine r_aload_n hw dX0_goRound_0 0 rfl ?_
  obtain ⟨q2, bq2, m36⟩ := h_bd m35
  clear m35
  refine r_getR hw fO_X0_14 h1 bq2 dX0_goRound_1 ?_
  refine r_iconst (v := 0) hw dX0_goRound_4 rfl ?_
  obtain ⟨h3, m37⟩ := h_ck m36
  clear m36
  obtain ⟨M4, eM4, m38⟩ := h_nm m37
  clear m37
  refine r_putI hw fP_X0_30 h3 dX0_goRound_5 (r_mem ?_ rfl eM4)
  refine r_iconst (v := 0) hw dX0_goRound_8 rfl ?_
  obtain ⟨i5, ei5, m39⟩ := h_nm m38
  clear m38
  refine r_topI (w := w) ei5 ?_
  refine r_istore_n hw dX0_goRound_9 rfl (by decide) rfl ?_
  refine r_sub hw [1, 0] rfl ?_
  obtain ⟨v10, n010, hn10, hv10⟩ := h_lp m39
  clear m39
  have L10 : ∀ n : Nat, ∀ (i6 : Int32) (M7 : Mm), it (mX0_goRound_L10 K R r) n (i6, M7) = some v10 → w 0 0 10 [(0, .ref r), (1, .int i6)] [] K R M7 := by
    intro n10
    induction n10 with
    | zero => intro i6 M7 hz; exact absurd hz h_it0
    | succ n10 ih10 =>
      intro i6 M7 m40
      replace m40 : (mX0_goRound_B10 K R r i6 M7).bind (Sum.elim (it (mX0_goRound_L10 K R r) n10) some) = some v10 := m40
      unfold mX0_goRound_B10 at m40
      refine r_iload_n hw dX0_goRound_10 1 rfl ?_
      refine r_aload_n hw dX0_goRound_11 0 rfl ?_
      obtain ⟨q8, bq8, m41⟩ := h_bd m40
      clear m40
      refine r_getR hw fO_X0_20 h1 bq8 dX0_goRound_12 ?_
      obtain ⟨h9, m42⟩ := h_ck m41
      clear m41
      refine r_getI hw fO_X0_30 h9 dX0_goRound_15 ?_
      refine r_icmp_ge (tgt := 50) hw dX0_goRound_18 (by decide) (fun c10 => ?_) (fun c10 => ?_)
      · have m43 := h_if_f c10 m42
        clear m42
        have m44 := h_ex m43 hv10
        clear m43
        refine r_aload_n hw dX0_goRound_50 0 rfl ?_
        obtain ⟨q11, bq11, m45⟩ := h_bd m44
        clear m44
        refine r_getR hw fO_X0_14 h1 bq11 dX0_goRound_51 ?_
        obtain ⟨h12, m46⟩ := h_ck m45
        clear m45
        refine r_getI hw fO_X0_30 h12 dX0_goRound_54 ?_
        refine r_iconst (v := 1) hw dX0_goRound_57 rfl ?_
        refine r_isub hw dX0_goRound_58 ?_
        obtain ⟨i13, ei13, m47⟩ := h_nm m46
        clear m46
        refine r_topI (w := w) ei13 ?_
        refine r_istore_n hw dX0_goRound_59 rfl (by decide) rfl ?_
        refine r_aload_n hw dX0_goRound_60 1 rfl ?_
        refine r_getR hw fO_X0_20 h1 bq8 dX0_goRound_61 ?_
        refine r_getI hw fO_X0_30 h9 dX0_goRound_64 ?_
        refine r_iconst (v := 2) hw dX0_goRound_67 rfl ?_
        refine r_isub hw dX0_goRound_68 ?_
        obtain ⟨i14, ei14, m48⟩ := h_nm m47
        clear m47
        refine r_topI (w := w) ei14 ?_
        refine r_istore_n hw dX0_goRound_69 rfl (by decide) rfl ?_
        refine r_sub hw [2, 1, 0] rfl ?_
        obtain ⟨v70, n070, hn70, hv70⟩ := h_lp m48
        clear m48
        have L70 : ∀ n : Nat, ∀ (i15 : Int32) (M16 : Mm), it (mX0_goRound_L70 K R r i13) n (i15, M16) = some v70 → w 0 0 70 [(0, .ref r), (1, .int i13), (2, .int i15)] [] K R M16 := by
          intro n70
          induction n70 with
          | zero => intro i15 M16 hz; exact absurd hz h_it0
          | succ n70 ih70 =>
            intro i15 M16 m49
            replace m49 : (mX0_goRound_B70 K R r i13 i15 M16).bind (Sum.elim (it (mX0_goRound_L70 K R r i13) n70) some) = some v70 := m49
            unfold mX0_goRound_B70 at m49
            refine r_iload_n hw dX0_goRound_70 2 rfl ?_
            refine r_if_lt (tgt := 103) hw dX0_goRound_71 (by decide) (fun c17 => ?_) (fun c17 => ?_)
            · have m50 := h_if_t c17 m49
              clear m49
              have m51 := h_ex m50 hv70
              clear m50
              refine r_aload_n hw dX0_goRound_103 0 rfl ?_
              obtain ⟨q18, bq18, m52⟩ := h_bd m51
              clear m51
              refine r_getR hw fO_X0_14 h1 bq18 dX0_goRound_104 ?_
              refine r_aload_n hw dX0_goRound_107 0 rfl ?_
              refine r_getR hw fO_X0_14 h1 bq18 dX0_goRound_108 ?_
              obtain ⟨h19, m53⟩ := h_ck m52
              clear m52
              refine r_getI hw fO_X0_30 h19 dX0_goRound_111 ?_
              refine r_iconst (v := 1) hw dX0_goRound_114 rfl ?_
              refine r_isub hw dX0_goRound_115 ?_
              refine r_iconst (v := 0) hw dX0_goRound_116 rfl ?_
              refine r_mmax hw mL_X0_96 zM_max zM_in zM_maxc (Nat.le_of_ble_eq_true rfl) (Nat.le_of_ble_eq_true rfl) (Nat.zero_le _) (Nat.zero_le _) dX0_goRound_117 ?_
              obtain ⟨M20, eM20, m54⟩ := h_nm m53
              clear m53
              refine r_putI hw fP_X0_30 h19 dX0_goRound_120 (r_mem ?_ rfl eM20)
              cases h_ret m54
              exact r_return hq rfl rfl dX0_goRound_123
            · have m55 := h_if_f c17 m49
              clear m49
              refine r_aload_n hw dX0_goRound_74 0 rfl ?_
              refine r_iload_n hw dX0_goRound_75 1 rfl ?_
              refine r_aload_n hw dX0_goRound_76 0 rfl ?_
              obtain ⟨q21, bq21, m56⟩ := h_bd m55
              clear m55
              refine r_getR hw fO_X0_20 h1 bq21 dX0_goRound_77 ?_
              obtain ⟨h22, m57⟩ := h_ck m56
              clear m56
              obtain ⟨q23, bq23, m58⟩ := h_bd m57
              clear m57
              refine r_getR hw fO_X0_45 h22 bq23 dX0_goRound_80 ?_
              refine r_iload_n hw dX0_goRound_83 2 rfl ?_
              obtain ⟨h24, m59⟩ := h_ck m58
              clear m58
              refine r_iaload hw h24 dX0_goRound_84 ?_
              refine r_aload_n hw dX0_goRound_85 0 rfl ?_
              refine r_getR hw fO_X0_20 h1 bq21 dX0_goRound_86 ?_
              obtain ⟨q25, bq25, m60⟩ := h_bd m59
              clear m59
              refine r_getR hw fO_X0_49 h22 bq25 dX0_goRound_89 ?_
              refine r_iload_n hw dX0_goRound_92 2 rfl ?_
              obtain ⟨h26, m61⟩ := h_ck m60
              clear m60
              refine r_iaload hw h26 dX0_goRound_93 ?_
              obtain ⟨M27, g27, m62⟩ := h_bd m61
              clear m61
              refine r_callV0 hw (tX0_goTo l G b0 g27) lB_X0_goTo lI_X0_goTo mL_X0_92 (c := 0) rfl h1 rfl (Nat.le_of_ble_eq_true rfl) (Nat.le_of_ble_eq_true rfl) rfl (Nat.le_of_ble_eq_true rfl) dX0_goRound_94 ?_
              obtain ⟨i28, ei28, m63⟩ := h_nm m62
              clear m62
              refine r_iinc (j := 2) (v := i28) hw dX0_goRound_97 rfl (by rw [ei28]; rfl) (by decide) rfl ?_
              refine r_goto (tgt := 70) hw dX0_goRound_100 (by decide) ?_
              refine r_sub hw [1, 2, 0] rfl ?_
              exact ih70 _ _ m63
        exact L70 n070 _ _ hn70
      · have m64 := h_if_t c10 m42
        clear m42
        refine r_aload_n hw dX0_goRound_21 0 rfl ?_
        refine r_iconst (v := 0) hw dX0_goRound_22 rfl ?_
        refine r_aload_n hw dX0_goRound_23 0 rfl ?_
        refine r_getR hw fO_X0_20 h1 bq8 dX0_goRound_24 ?_
        obtain ⟨q29, bq29, m65⟩ := h_bd m64
        clear m64
        refine r_getR hw fO_X0_45 h9 bq29 dX0_goRound_27 ?_
        refine r_iload_n hw dX0_goRound_30 1 rfl ?_
        obtain ⟨h30, m66⟩ := h_ck m65
        clear m65
        refine r_iaload hw h30 dX0_goRound_31 ?_
        refine r_aload_n hw dX0_goRound_32 0 rfl ?_
        refine r_getR hw fO_X0_20 h1 bq8 dX0_goRound_33 ?_
        obtain ⟨q31, bq31, m67⟩ := h_bd m66
        clear m66
        refine r_getR hw fO_X0_49 h9 bq31 dX0_goRound_36 ?_
        refine r_iload_n hw dX0_goRound_39 1 rfl ?_
        obtain ⟨h32, m68⟩ := h_ck m67
        clear m67
        refine r_iaload hw h32 dX0_goRound_40 ?_
        obtain ⟨M33, g33, m69⟩ := h_bd m68
        clear m68
        refine r_callV0 hw (tX0_goTo l G b0 g33) lB_X0_goTo lI_X0_goTo mL_X0_92 (c := 0) rfl h1 rfl (Nat.le_of_ble_eq_true rfl) (Nat.le_of_ble_eq_true rfl) rfl (Nat.le_of_ble_eq_true rfl) dX0_goRound_41 ?_
        obtain ⟨i34, ei34, m70⟩ := h_nm m69
        clear m69
        refine r_iinc (j := 1) (v := i34) hw dX0_goRound_44 rfl (by rw [ei34]; rfl) (by decide) rfl ?_
        refine r_goto (tgt := 10) hw dX0_goRound_47 (by decide) ?_
        refine r_sub hw [1, 0] rfl ?_
        exact ih10 _ _ m70
  exact L10 n010 _ _ hn10
theorem dX0_trace_0 : decode cX0_trace 0 = .ok (.aload_n 0, 1) := by decide +kernel
theorem dX0_trace_1 : decode cX0_trace 1 = .ok (.getfield 20, 3) := by decide +kernel
theorem dX0_trace_4 : decode cX0_trace 4 = .ok (.iconst 0, 1) := by decide +kernel
theorem dX0_trace_5 : decode cX0_trace 5 = .ok (.putfield 30, 3) := by decide +kernel
theorem dX0_trace_8 : decode cX0_trace 8 = .ok (.aload_n 0, 1) := by decide +kernel
theorem dX0_trace_9 : decode cX0_trace 9 = .ok (.aload_n 1, 1) := by decide +kernel
theorem dX0_trace_10 : decode cX0_trace 10 = .ok (.aload_n 2, 1) := by decide +kernel
theorem dX0_trace_11 : decode cX0_trace 11 = .ok (.invokevirtual 34, 3) := by decide +kernel
theorem dX0_trace_14 : decode cX0_trace 14 = .ok (.aload_n 0, 1) := by decide +kernel
theorem dX0_trace_15 : decode cX0_trace 15 = .ok (.aload_n 2, 1) := by decide +kernel
theorem dX0_trace_16 : decode cX0_trace 16 = .ok (.aload_n 1, 1) := by decide +kernel
theorem dX0_trace_17 : decode cX0_trace 17 = .ok (.invokevirtual 34, 3) := by decide +kernel
theorem dX0_trace_20 : decode cX0_trace 20 = .ok (.aload_n 0, 1) := by decide +kernel
theorem dX0_trace_21 : decode cX0_trace 21 = .ok (.aload_n 1, 1) := by decide +kernel
theorem dX0_trace_22 : decode cX0_trace 22 = .ok (.aload_n 2, 1) := by decide +kernel
theorem dX0_trace_23 : decode cX0_trace 23 = .ok (.invokevirtual 38, 3) := by decide +kernel
theorem dX0_trace_26 : decode cX0_trace 26 = .ok (.ifCond .ne 5, 3) := by decide +kernel
theorem dX0_trace_29 : decode cX0_trace 29 = .ok (.iconst 0, 1) := by decide +kernel
theorem dX0_trace_30 : decode cX0_trace 30 = .ok (.ireturn, 1) := by decide +kernel
theorem dX0_trace_31 : decode cX0_trace 31 = .ok (.aload_n 0, 1) := by decide +kernel
theorem dX0_trace_32 : decode cX0_trace 32 = .ok (.invokevirtual 42, 3) := by decide +kernel
theorem dX0_trace_35 : decode cX0_trace 35 = .ok (.iconst 1, 1) := by decide +kernel
theorem dX0_trace_36 : decode cX0_trace 36 = .ok (.ireturn, 1) := by decide +kernel
set_option maxHeartbeats 4000000 in
set_option maxRecDepth 100000 in
theorem tX0_trace (l : Launch) (G : Gg) (b0 : Nat) {K : Kk} {R : Rr} {M : Mm} {r : Nat} {a0 : Nat} {a1 : Nat} {res : Int32} {M' : Mm} (hm : mX0_trace K R M r a0 a1 = some (res, M')) : CT l G b0 yX0_trace cX0_trace 3 (some .boolean) (rmz 5 104) [.ref r, .ref a0, .ref a1] K R M (some (.int res)) K R M' := by
  refine ct_of (by decide +kernel) (Nat.le_of_ble_eq_true rfl) (fun w hq => ?_)
  have hw := hq.b
  change w 0 0 0 [(0, .ref r), (1, .ref a0), (2, .ref a1)] [] K R M
  replace hm := h_start hm
  unfold mX0_trace at hm
  obtain ⟨h1, m13⟩ := h_ck hm
  clear hm
  obtain ⟨h2, m14⟩ := h_ck m13
  clear m13
  obtain ⟨h3, m15⟩ := h_ck m14
  clear m14
  refine r_aload_n hw dX0_trace_0 0 rfl ?_
  obtain ⟨q4, bq4, m16⟩ := h_bd m15
  clear m15
  refine r_getR hw fO_X0_20 h1 bq4 dX0_trace_1 ?_
  refine r_iconst (v := 0) hw dX0_trace_4 rfl ?_
  obtain ⟨h5, m17⟩ := h_ck m16
  clear m16
  obtain ⟨M6, eM6, m18⟩ := h_nm m17
  clear m17
  refine r_putI hw fP_X0_30 h5 dX0_trace_5 (r_mem ?_ rfl eM6)
  refine r_aload_n hw dX0_trace_8 0 rfl ?_
  refine r_aload_n hw dX0_trace_9 1 rfl ?_
  refine r_aload_n hw dX0_trace_10 2 rfl ?_
  obtain ⟨M7, g7, m19⟩ := h_bd m18
  clear m18
  refine r_callV0 hw (tX0_sortInHeld l G b0 g7) lB_X0_sortInHeld lI_X0_sortInHeld mL_X0_34 (c := 0) rfl h1 rfl (Nat.le_of_ble_eq_true rfl) (Nat.le_of_ble_eq_true rfl) rfl (Nat.le_of_ble_eq_true rfl) dX0_trace_11 ?_
  refine r_aload_n hw dX0_trace_14 0 rfl ?_
  refine r_aload_n hw dX0_trace_15 2 rfl ?_
  refine r_aload_n hw dX0_trace_16 1 rfl ?_
  obtain ⟨M8, g8, m20⟩ := h_bd m19
  clear m19
  refine r_callV0 hw (tX0_sortInHeld l G b0 g8) lB_X0_sortInHeld lI_X0_sortInHeld mL_X0_34 (c := 0) rfl h1 rfl (Nat.le_of_ble_eq_true rfl) (Nat.le_of_ble_eq_true rfl) rfl (Nat.le_of_ble_eq_true rfl) dX0_trace_17 ?_
  refine r_aload_n hw dX0_trace_20 0 rfl ?_
  refine r_aload_n hw dX0_trace_21 1 rfl ?_
  refine r_aload_n hw dX0_trace_22 2 rfl ?_
  obtain ⟨i9, M10, g10, m21⟩ := h_bd2 m20
  clear m20
  refine r_callV1 hw (tX0_sortInCrossings l G b0 g10) lB_X0_sortInCrossings lI_X0_sortInCrossings mL_X0_38 (c := 0) rfl h1 rfl (Nat.le_of_ble_eq_true rfl) (Nat.le_of_ble_eq_true rfl) rfl (Nat.le_of_ble_eq_true rfl) dX0_trace_23 ?_
  refine r_if_ne (tgt := 31) hw dX0_trace_26 (by decide) (fun c11 => ?_) (fun c11 => ?_)
  · have m22 := h_if_f c11 m21
    clear m21
    refine r_aload_n hw dX0_trace_31 0 rfl ?_
    obtain ⟨M12, g12, m23⟩ := h_bd m22
    clear m22
    refine r_callV0 hw (tX0_goRound l G b0 g12) lB_X0_goRound lI_X0_goRound mL_X0_42 (c := 0) rfl h1 rfl (Nat.le_of_ble_eq_true rfl) (Nat.le_of_ble_eq_true rfl) rfl (Nat.le_of_ble_eq_true rfl) dX0_trace_32 ?_
    refine r_iconst (v := 1) hw dX0_trace_35 rfl ?_
    cases h_ret m23
    exact r_zreturn hq isB_1 rfl rfl dX0_trace_36
  · have m24 := h_if_t c11 m21
    clear m21
    refine r_iconst (v := 0) hw dX0_trace_29 rfl ?_
    cases h_ret m24
    exact r_zreturn hq isB_0 rfl rfl dX0_trace_30
theorem dX1_now_0 : decode cX1_now 0 = .ok (.aload_n 0, 1) := by decide +kernel
theorem dX1_now_1 : decode cX1_now 1 = .ok (.getfield 11, 3) := by decide +kernel
theorem dX1_now_4 : decode cX1_now 4 = .ok (.aload_n 0, 1) := by decide +kernel
theorem dX1_now_5 : decode cX1_now 5 = .ok (.getfield 22, 3) := by decide +kernel
theorem dX1_now_8 : decode cX1_now 8 = .ok (.aaload, 1) := by decide +kernel
theorem dX1_now_9 : decode cX1_now 9 = .ok (.areturn, 1) := by decide +kernel
set_option maxHeartbeats 4000000 in
set_option maxRecDepth 100000 in
theorem tX1_now (l : Launch) (G : Gg) (b0 : Nat) {K : Kk} {R : Rr} {M : Mm} {r : Nat} {res : Nat} (hm : mX1_now K R M r = some (res)) : CT l G b0 yX1_now cX1_now 1 (some (.object "ScissorsBench$Pieces")) (rmz 1 0) [.ref r] K R M (some (.ref res)) K R M := by
  refine ct_of (by decide +kernel) (Nat.le_of_ble_eq_true rfl) (fun w hq => ?_)
  have hw := hq.b
  change w 0 0 0 [(0, .ref r)] [] K R M
  replace hm := h_start hm
  unfold mX1_now at hm
  obtain ⟨h1, m5⟩ := h_ck hm
  clear hm
  refine r_aload_n hw dX1_now_0 0 rfl ?_
  obtain ⟨q2, bq2, m6⟩ := h_bd m5
  clear m5
  refine r_getR hw fO_X1_11 h1 bq2 dX1_now_1 ?_
  refine r_aload_n hw dX1_now_4 0 rfl ?_
  refine r_getI hw fO_X1_22 h1 dX1_now_5 ?_
  obtain ⟨h3, m7⟩ := h_ck m6
  clear m6
  obtain ⟨q4, bq4, m8⟩ := h_bd m7
  clear m7
  refine r_aaload hw 1 (by decide) h3 bq4 dX1_now_8 ?_
  cases h_ret m8
  exact r_areturn hq rfl rfl dX1_now_9
theorem dX1_kept_0 : decode cX1_kept 0 = .ok (.aload_n 0, 1) := by decide +kernel
theorem dX1_kept_1 : decode cX1_kept 1 = .ok (.getfield 22, 3) := by decide +kernel
theorem dX1_kept_4 : decode cX1_kept 4 = .ok (.ireturn, 1) := by decide +kernel
set_option maxHeartbeats 4000000 in
set_option maxRecDepth 100000 in
theorem tX1_kept (l : Launch) (G : Gg) (b0 : Nat) {K : Kk} {R : Rr} {M : Mm} {r : Nat} {res : Int32} (hm : mX1_kept K R M r = some (res)) : CT l G b0 yX1_kept cX1_kept 1 (some .int) (rmz 1 0) [.ref r] K R M (some (.int res)) K R M := by
  refine ct_of (by decide +kernel) (Nat.le_of_ble_eq_true rfl) (fun w hq => ?_)
  have hw := hq.b
  change w 0 0 0 [(0, .ref r)] [] K R M
  replace hm := h_start hm
  unfold mX1_kept at hm
  obtain ⟨h1, m2⟩ := h_ck hm
  clear hm
  refine r_aload_n hw dX1_kept_0 0 rfl ?_
  refine r_getI hw fO_X1_22 h1 dX1_kept_1 ?_
  cases h_ret m2
  exact r_ireturn hq rfl rfl dX1_kept_4
theorem dX1_undone_0 : decode cX1_undone 0 = .ok (.aload_n 0, 1) := by decide +kernel
theorem dX1_undone_1 : decode cX1_undone 1 = .ok (.getfield 26, 3) := by decide +kernel
theorem dX1_undone_4 : decode cX1_undone 4 = .ok (.aload_n 0, 1) := by decide +kernel
theorem dX1_undone_5 : decode cX1_undone 5 = .ok (.getfield 22, 3) := by decide +kernel
theorem dX1_undone_8 : decode cX1_undone 8 = .ok (.isub, 1) := by decide +kernel
theorem dX1_undone_9 : decode cX1_undone 9 = .ok (.ireturn, 1) := by decide +kernel
set_option maxHeartbeats 4000000 in
set_option maxRecDepth 100000 in
theorem tX1_undone (l : Launch) (G : Gg) (b0 : Nat) {K : Kk} {R : Rr} {M : Mm} {r : Nat} {res : Int32} (hm : mX1_undone K R M r = some (res)) : CT l G b0 yX1_undone cX1_undone 1 (some .int) (rmz 1 0) [.ref r] K R M (some (.int res)) K R M := by
  refine ct_of (by decide +kernel) (Nat.le_of_ble_eq_true rfl) (fun w hq => ?_)
  have hw := hq.b
  change w 0 0 0 [(0, .ref r)] [] K R M
  replace hm := h_start hm
  unfold mX1_undone at hm
  obtain ⟨h1, m2⟩ := h_ck hm
  clear hm
  refine r_aload_n hw dX1_undone_0 0 rfl ?_
  refine r_getI hw fO_X1_26 h1 dX1_undone_1 ?_
  refine r_aload_n hw dX1_undone_4 0 rfl ?_
  refine r_getI hw fO_X1_22 h1 dX1_undone_5 ?_
  refine r_isub hw dX1_undone_8 ?_
  cases h_ret m2
  exact r_ireturn hq rfl rfl dX1_undone_9
theorem dX5_take_0 : decode cX5_take 0 = .ok (.aload_n 0, 1) := by decide +kernel
theorem dX5_take_1 : decode cX5_take 1 = .ok (.aload_n 1, 1) := by decide +kernel
theorem dX5_take_2 : decode cX5_take 2 = .ok (.getfield 16, 3) := by decide +kernel
theorem dX5_take_5 : decode cX5_take 5 = .ok (.aload_n 0, 1) := by decide +kernel
theorem dX5_take_6 : decode cX5_take 6 = .ok (.getfield 7, 3) := by decide +kernel
theorem dX5_take_9 : decode cX5_take 9 = .ok (.arraylength, 1) := by decide +kernel
theorem dX5_take_10 : decode cX5_take 10 = .ok (.invokestatic 20, 3) := by decide +kernel
theorem dX5_take_13 : decode cX5_take 13 = .ok (.putfield 16, 3) := by decide +kernel
theorem dX5_take_16 : decode cX5_take 16 = .ok (.aload_n 1, 1) := by decide +kernel
theorem dX5_take_17 : decode cX5_take 17 = .ok (.getfield 7, 3) := by decide +kernel
theorem dX5_take_20 : decode cX5_take 20 = .ok (.iconst 0, 1) := by decide +kernel
theorem dX5_take_21 : decode cX5_take 21 = .ok (.aload_n 0, 1) := by decide +kernel
theorem dX5_take_22 : decode cX5_take 22 = .ok (.getfield 7, 3) := by decide +kernel
theorem dX5_take_25 : decode cX5_take 25 = .ok (.iconst 0, 1) := by decide +kernel
theorem dX5_take_26 : decode cX5_take 26 = .ok (.aload_n 0, 1) := by decide +kernel
theorem dX5_take_27 : decode cX5_take 27 = .ok (.getfield 16, 3) := by decide +kernel
theorem dX5_take_30 : decode cX5_take 30 = .ok (.invokestatic 26, 3) := by decide +kernel
theorem dX5_take_33 : decode cX5_take 33 = .ok (.aload_n 1, 1) := by decide +kernel
theorem dX5_take_34 : decode cX5_take 34 = .ok (.getfield 13, 3) := by decide +kernel
theorem dX5_take_37 : decode cX5_take 37 = .ok (.iconst 0, 1) := by decide +kernel
theorem dX5_take_38 : decode cX5_take 38 = .ok (.aload_n 0, 1) := by decide +kernel
theorem dX5_take_39 : decode cX5_take 39 = .ok (.getfield 13, 3) := by decide +kernel
theorem dX5_take_42 : decode cX5_take 42 = .ok (.iconst 0, 1) := by decide +kernel
theorem dX5_take_43 : decode cX5_take 43 = .ok (.aload_n 0, 1) := by decide +kernel
theorem dX5_take_44 : decode cX5_take 44 = .ok (.getfield 16, 3) := by decide +kernel
theorem dX5_take_47 : decode cX5_take 47 = .ok (.invokestatic 26, 3) := by decide +kernel
theorem dX5_take_50 : decode cX5_take 50 = .ok (.return_, 1) := by decide +kernel
set_option maxHeartbeats 4000000 in
set_option maxRecDepth 100000 in
theorem tX5_take (l : Launch) (G : Gg) (b0 : Nat) {K : Kk} {R : Rr} {M : Mm} {r : Nat} {a0 : Nat} {M' : Mm} (hm : mX5_take K R M r a0 = some (M')) : CT l G b0 yX5_take cX5_take 2 none (rmz 2 48) [.ref r, .ref a0] K R M none K R M' := by
  refine ct_of (by decide +kernel) (Nat.le_of_ble_eq_true rfl) (fun w hq => ?_)
  have hw := hq.b
  change w 0 0 0 [(0, .ref r), (1, .ref a0)] [] K R M
  replace hm := h_start hm
  unfold mX5_take at hm
  obtain ⟨h1, m13⟩ := h_ck hm
  clear hm
  obtain ⟨h2, m14⟩ := h_ck m13
  clear m13
  refine r_aload_n hw dX5_take_0 0 rfl ?_
  refine r_aload_n hw dX5_take_1 1 rfl ?_
  refine r_getI hw fO_X5_16 h2 dX5_take_2 ?_
  refine r_aload_n hw dX5_take_5 0 rfl ?_
  obtain ⟨q3, bq3, m15⟩ := h_bd m14
  clear m14
  refine r_getR hw fO_X5_7 h1 bq3 dX5_take_6 ?_
  obtain ⟨h4, m16⟩ := h_ck m15
  clear m15
  refine r_alen hw h4 dX5_take_9 ?_
  refine r_mmin hw mL_X5_20 zM_min zM_in zM_minc (Nat.le_of_ble_eq_true rfl) (Nat.le_of_ble_eq_true rfl) (Nat.zero_le _) (Nat.zero_le _) dX5_take_10 ?_
  obtain ⟨M5, eM5, m17⟩ := h_nm m16
  clear m16
  refine r_putI hw fP_X5_16 h1 dX5_take_13 (r_mem ?_ rfl eM5)
  refine r_aload_n hw dX5_take_16 1 rfl ?_
  obtain ⟨q6, bq6, m18⟩ := h_bd m17
  clear m17
  refine r_getR hw fO_X5_7 h2 bq6 dX5_take_17 ?_
  refine r_iconst (v := 0) hw dX5_take_20 rfl ?_
  refine r_aload_n hw dX5_take_21 0 rfl ?_
  refine r_getR hw fO_X5_7 h1 bq3 dX5_take_22 ?_
  refine r_iconst (v := 0) hw dX5_take_25 rfl ?_
  refine r_aload_n hw dX5_take_26 0 rfl ?_
  refine r_getI hw fO_X5_16 h1 dX5_take_27 ?_
  obtain ⟨h7, m19⟩ := h_ck m18
  clear m18
  obtain ⟨M8, eM8, m20⟩ := h_nm m19
  clear m19
  refine r_copyI hw mL_X5_26 zC_nat zC_st zC_in h7 (Nat.le_of_ble_eq_true rfl) (Nat.le_of_ble_eq_true rfl) dX5_take_30 (r_mem ?_ rfl eM8)
  refine r_aload_n hw dX5_take_33 1 rfl ?_
  obtain ⟨q9, bq9, m21⟩ := h_bd m20
  clear m20
  refine r_getR hw fO_X5_13 h2 bq9 dX5_take_34 ?_
  refine r_iconst (v := 0) hw dX5_take_37 rfl ?_
  refine r_aload_n hw dX5_take_38 0 rfl ?_
  obtain ⟨q10, bq10, m22⟩ := h_bd m21
  clear m21
  refine r_getR hw fO_X5_13 h1 bq10 dX5_take_39 ?_
  refine r_iconst (v := 0) hw dX5_take_42 rfl ?_
  refine r_aload_n hw dX5_take_43 0 rfl ?_
  refine r_getI hw fO_X5_16 h1 dX5_take_44 ?_
  obtain ⟨h11, m23⟩ := h_ck m22
  clear m22
  obtain ⟨M12, eM12, m24⟩ := h_nm m23
  clear m23
  refine r_copyI hw mL_X5_26 zC_nat zC_st zC_in h11 (Nat.le_of_ble_eq_true rfl) (Nat.le_of_ble_eq_true rfl) dX5_take_47 (r_mem ?_ rfl eM12)
  cases h_ret m24
  exact r_return hq rfl rfl dX5_take_50
theorem dX3_setMove_0 : decode cX3_setMove 0 = .ok (.aload_n 0, 1) := by decide +kernel
theorem dX3_setMove_1 : decode cX3_setMove 1 = .ok (.iload_n 1, 1) := by decide +kernel
theorem dX3_setMove_2 : decode cX3_setMove 2 = .ok (.putfield 20, 3) := by decide +kernel
theorem dX3_setMove_5 : decode cX3_setMove 5 = .ok (.aload_n 0, 1) := by decide +kernel
theorem dX3_setMove_6 : decode cX3_setMove 6 = .ok (.iload_n 2, 1) := by decide +kernel
theorem dX3_setMove_7 : decode cX3_setMove 7 = .ok (.putfield 28, 3) := by decide +kernel
theorem dX3_setMove_10 : decode cX3_setMove 10 = .ok (.aload_n 0, 1) := by decide +kernel
theorem dX3_setMove_11 : decode cX3_setMove 11 = .ok (.iload_n 3, 1) := by decide +kernel
theorem dX3_setMove_12 : decode cX3_setMove 12 = .ok (.putfield 31, 3) := by decide +kernel
theorem dX3_setMove_15 : decode cX3_setMove 15 = .ok (.return_, 1) := by decide +kernel
set_option maxHeartbeats 4000000 in
set_option maxRecDepth 100000 in
theorem tX3_setMove (l : Launch) (G : Gg) (b0 : Nat) {K : Kk} {R : Rr} {M : Mm} {r : Nat} {a0 : Int32} {a1 : Int32} {a2 : Int32} {M' : Mm} (hm : mX3_setMove K R M r a0 a1 a2 = some (M')) : CT l G b0 yX3_setMove cX3_setMove 4 none (rmz 1 0) [.ref r, .int a0, .int a1, .int a2] K R M none K R M' := by
  refine ct_of (by decide +kernel) (Nat.le_of_ble_eq_true rfl) (fun w hq => ?_)
  have hw := hq.b
  change w 0 0 0 [(0, .ref r), (1, .int a0), (2, .int a1), (3, .int a2)] [] K R M
  replace hm := h_start hm
  unfold mX3_setMove at hm
  obtain ⟨h1, m5⟩ := h_ck hm
  clear hm
  refine r_aload_n hw dX3_setMove_0 0 rfl ?_
  refine r_iload_n hw dX3_setMove_1 1 rfl ?_
  obtain ⟨M2, eM2, m6⟩ := h_nm m5
  clear m5
  refine r_putI hw fP_X3_20 h1 dX3_setMove_2 (r_mem ?_ rfl eM2)
  refine r_aload_n hw dX3_setMove_5 0 rfl ?_
  refine r_iload_n hw dX3_setMove_6 2 rfl ?_
  obtain ⟨M3, eM3, m7⟩ := h_nm m6
  clear m6
  refine r_putI hw fP_X3_28 h1 dX3_setMove_7 (r_mem ?_ rfl eM3)
  refine r_aload_n hw dX3_setMove_10 0 rfl ?_
  refine r_iload_n hw dX3_setMove_11 3 rfl ?_
  obtain ⟨M4, eM4, m8⟩ := h_nm m7
  clear m7
  refine r_putI hw fP_X3_31 h1 dX3_setMove_12 (r_mem ?_ rfl eM4)
  cases h_ret m8
  exact r_return hq rfl rfl dX3_setMove_15
theorem dX3_take_0 : decode cX3_take 0 = .ok (.aload_n 0, 1) := by decide +kernel
theorem dX3_take_1 : decode cX3_take 1 = .ok (.getfield 14, 3) := by decide +kernel
theorem dX3_take_4 : decode cX3_take 4 = .ok (.aload_n 1, 1) := by decide +kernel
theorem dX3_take_5 : decode cX3_take 5 = .ok (.getfield 14, 3) := by decide +kernel
theorem dX3_take_8 : decode cX3_take 8 = .ok (.invokevirtual 24, 3) := by decide +kernel
theorem dX3_take_11 : decode cX3_take 11 = .ok (.aload_n 0, 1) := by decide +kernel
theorem dX3_take_12 : decode cX3_take 12 = .ok (.aload_n 1, 1) := by decide +kernel
theorem dX3_take_13 : decode cX3_take 13 = .ok (.getfield 20, 3) := by decide +kernel
theorem dX3_take_16 : decode cX3_take 16 = .ok (.aload_n 1, 1) := by decide +kernel
theorem dX3_take_17 : decode cX3_take 17 = .ok (.getfield 28, 3) := by decide +kernel
theorem dX3_take_20 : decode cX3_take 20 = .ok (.aload_n 1, 1) := by decide +kernel
theorem dX3_take_21 : decode cX3_take 21 = .ok (.getfield 31, 3) := by decide +kernel
theorem dX3_take_24 : decode cX3_take 24 = .ok (.invokevirtual 34, 3) := by decide +kernel
theorem dX3_take_27 : decode cX3_take 27 = .ok (.aload_n 0, 1) := by decide +kernel
theorem dX3_take_28 : decode cX3_take 28 = .ok (.aload_n 1, 1) := by decide +kernel
theorem dX3_take_29 : decode cX3_take 29 = .ok (.getfield 38, 3) := by decide +kernel
theorem dX3_take_32 : decode cX3_take 32 = .ok (.putfield 38, 3) := by decide +kernel
theorem dX3_take_35 : decode cX3_take 35 = .ok (.return_, 1) := by decide +kernel
set_option maxHeartbeats 4000000 in
set_option maxRecDepth 100000 in
theorem tX3_take (l : Launch) (G : Gg) (b0 : Nat) {K : Kk} {R : Rr} {M : Mm} {r : Nat} {a0 : Nat} {M' : Mm} (hm : mX3_take K R M r a0 = some (M')) : CT l G b0 yX3_take cX3_take 2 none (rmz 3 69) [.ref r, .ref a0] K R M none K R M' := by
  refine ct_of (by decide +kernel) (Nat.le_of_ble_eq_true rfl) (fun w hq => ?_)
  have hw := hq.b
  change w 0 0 0 [(0, .ref r), (1, .ref a0)] [] K R M
  replace hm := h_start hm
  unfold mX3_take at hm
  obtain ⟨h1, m10⟩ := h_ck hm
  clear hm
  obtain ⟨h2, m11⟩ := h_ck m10
  clear m10
  refine r_aload_n hw dX3_take_0 0 rfl ?_
  obtain ⟨q3, bq3, m12⟩ := h_bd m11
  clear m11
  refine r_getR hw fO_X3_14 h1 bq3 dX3_take_1 ?_
  refine r_aload_n hw dX3_take_4 1 rfl ?_
  obtain ⟨q4, bq4, m13⟩ := h_bd m12
  clear m12
  refine r_getR hw fO_X3_14 h2 bq4 dX3_take_5 ?_
  obtain ⟨h6, m14⟩ := h_ck m13
  clear m13
  obtain ⟨M5, g5, m15⟩ := h_bd m14
  clear m14
  refine r_callV0 hw (tX5_take l G b0 g5) lB_X5_take lI_X5_take mL_X3_24 (c := 5) rfl h6 rfl (Nat.le_of_ble_eq_true rfl) (Nat.le_of_ble_eq_true rfl) rfl (Nat.le_of_ble_eq_true rfl) dX3_take_8 ?_
  refine r_aload_n hw dX3_take_11 0 rfl ?_
  refine r_aload_n hw dX3_take_12 1 rfl ?_
  refine r_getI hw fO_X3_20 h2 dX3_take_13 ?_
  refine r_aload_n hw dX3_take_16 1 rfl ?_
  refine r_getI hw fO_X3_28 h2 dX3_take_17 ?_
  refine r_aload_n hw dX3_take_20 1 rfl ?_
  refine r_getI hw fO_X3_31 h2 dX3_take_21 ?_
  obtain ⟨M7, g7, m16⟩ := h_bd m15
  clear m15
  refine r_callV0 hw (tX3_setMove l G b0 g7) lB_X3_setMove lI_X3_setMove mL_X3_34 (c := 3) rfl h1 rfl (Nat.le_of_ble_eq_true rfl) (Nat.le_of_ble_eq_true rfl) rfl (Nat.le_of_ble_eq_true rfl) dX3_take_24 ?_
  refine r_aload_n hw dX3_take_27 0 rfl ?_
  refine r_aload_n hw dX3_take_28 1 rfl ?_
  refine r_getI hw fO_X3_38 h2 dX3_take_29 ?_
  obtain ⟨h8, m17⟩ := h_ck m16
  clear m16
  obtain ⟨M9, eM9, m18⟩ := h_nm m17
  clear m17
  refine r_putZ hw fP_X3_38 h1 h8 dX3_take_32 (r_mem ?_ rfl eM9)
  cases h_ret m18
  exact r_return hq rfl rfl dX3_take_35
theorem dX4_take_0 : decode cX4_take 0 = .ok (.aload_n 0, 1) := by decide +kernel
theorem dX4_take_1 : decode cX4_take 1 = .ok (.aload_n 1, 1) := by decide +kernel
theorem dX4_take_2 : decode cX4_take 2 = .ok (.getfield 18, 3) := by decide +kernel
theorem dX4_take_5 : decode cX4_take 5 = .ok (.putfield 18, 3) := by decide +kernel
theorem dX4_take_8 : decode cX4_take 8 = .ok (.iconst 0, 1) := by decide +kernel
theorem dX4_take_9 : decode cX4_take 9 = .ok (.istore_n 2, 1) := by decide +kernel
theorem dX4_take_10 : decode cX4_take 10 = .ok (.iload_n 2, 1) := by decide +kernel
theorem dX4_take_11 : decode cX4_take 11 = .ok (.aload_n 0, 1) := by decide +kernel
theorem dX4_take_12 : decode cX4_take 12 = .ok (.getfield 18, 3) := by decide +kernel
theorem dX4_take_15 : decode cX4_take 15 = .ok (.if_icmp .ge 24, 3) := by decide +kernel
theorem dX4_take_18 : decode cX4_take 18 = .ok (.aload_n 0, 1) := by decide +kernel
theorem dX4_take_19 : decode cX4_take 19 = .ok (.getfield 11, 3) := by decide +kernel
theorem dX4_take_22 : decode cX4_take 22 = .ok (.iload_n 2, 1) := by decide +kernel
theorem dX4_take_23 : decode cX4_take 23 = .ok (.aaload, 1) := by decide +kernel
theorem dX4_take_24 : decode cX4_take 24 = .ok (.aload_n 1, 1) := by decide +kernel
theorem dX4_take_25 : decode cX4_take 25 = .ok (.getfield 11, 3) := by decide +kernel
theorem dX4_take_28 : decode cX4_take 28 = .ok (.iload_n 2, 1) := by decide +kernel
theorem dX4_take_29 : decode cX4_take 29 = .ok (.aaload, 1) := by decide +kernel
theorem dX4_take_30 : decode cX4_take 30 = .ok (.invokevirtual 22, 3) := by decide +kernel
theorem dX4_take_33 : decode cX4_take 33 = .ok (.iinc 2 1, 3) := by decide +kernel
theorem dX4_take_36 : decode cX4_take 36 = .ok (.goto (-26), 3) := by decide +kernel
theorem dX4_take_39 : decode cX4_take 39 = .ok (.return_, 1) := by decide +kernel
set_option maxHeartbeats 4000000 in
set_option maxRecDepth 100000 in
theorem tX4_take (l : Launch) (G : Gg) (b0 : Nat) {K : Kk} {R : Rr} {M : Mm} {r : Nat} {a0 : Nat} {M' : Mm} (hm : mX4_take K R M r a0 = some (M')) : CT l G b0 yX4_take cX4_take 3 none (rmz 4 90) [.ref r, .ref a0] K R M none K R M' := by
  refine ct_of (by decide +kernel) (Nat.le_of_ble_eq_true rfl) (fun w hq => ?_)
  have hw := hq.b
  change w 0 0 0 [(0, .ref r), (1, .ref a0)] [] K R M
  replace hm := h_start hm
  unfold mX4_take at hm
  obtain ⟨h1, m17⟩ := h_ck hm
  clear hm
  obtain ⟨h2, m18⟩ := h_ck m17
  clear m17
  refine r_aload_n hw dX4_take_0 0 rfl ?_
  refine r_aload_n hw dX4_take_1 1 rfl ?_
  refine r_getI hw fO_X4_18 h2 dX4_take_2 ?_
  obtain ⟨M3, eM3, m19⟩ := h_nm m18
  clear m18
  refine r_putI hw fP_X4_18 h1 dX4_take_5 (r_mem ?_ rfl eM3)
  refine r_iconst (v := 0) hw dX4_take_8 rfl ?_
  obtain ⟨i4, ei4, m20⟩ := h_nm m19
  clear m19
  refine r_topI (w := w) ei4 ?_
  refine r_istore_n hw dX4_take_9 rfl (by decide) rfl ?_
  refine r_sub hw [1, 2, 0] rfl ?_
  obtain ⟨v10, n010, hn10, hv10⟩ := h_lp m20
  clear m20
  have L10 : ∀ n : Nat, ∀ (i5 : Int32) (M6 : Mm), it (mX4_take_L10 K R r a0) n (i5, M6) = some v10 → w 0 0 10 [(0, .ref r), (1, .ref a0), (2, .int i5)] [] K R M6 := by
    intro n10
    induction n10 with
    | zero => intro i5 M6 hz; exact absurd hz h_it0
    | succ n10 ih10 =>
      intro i5 M6 m21
      replace m21 : (mX4_take_B10 K R r a0 i5 M6).bind (Sum.elim (it (mX4_take_L10 K R r a0) n10) some) = some v10 := m21
      unfold mX4_take_B10 at m21
      refine r_iload_n hw dX4_take_10 2 rfl ?_
      refine r_aload_n hw dX4_take_11 0 rfl ?_
      refine r_getI hw fO_X4_18 h1 dX4_take_12 ?_
      refine r_icmp_ge (tgt := 39) hw dX4_take_15 (by decide) (fun c7 => ?_) (fun c7 => ?_)
      · have m22 := h_if_f c7 m21
        clear m21
        have m23 := h_ex m22 hv10
        clear m22
        cases h_ret m23
        exact r_return hq rfl rfl dX4_take_39
      · have m24 := h_if_t c7 m21
        clear m21
        refine r_aload_n hw dX4_take_18 0 rfl ?_
        obtain ⟨q8, bq8, m25⟩ := h_bd m24
        clear m24
        refine r_getR hw fO_X4_11 h1 bq8 dX4_take_19 ?_
        refine r_iload_n hw dX4_take_22 2 rfl ?_
        obtain ⟨h9, m26⟩ := h_ck m25
        clear m25
        obtain ⟨q10, bq10, m27⟩ := h_bd m26
        clear m26
        refine r_aaload hw 2 (by decide) h9 bq10 dX4_take_23 ?_
        refine r_aload_n hw dX4_take_24 1 rfl ?_
        obtain ⟨q11, bq11, m28⟩ := h_bd m27
        clear m27
        refine r_getR hw fO_X4_11 h2 bq11 dX4_take_25 ?_
        refine r_iload_n hw dX4_take_28 2 rfl ?_
        obtain ⟨h12, m29⟩ := h_ck m28
        clear m28
        obtain ⟨q13, bq13, m30⟩ := h_bd m29
        clear m29
        refine r_aaload hw 2 (by decide) h12 bq13 dX4_take_29 ?_
        obtain ⟨h15, m31⟩ := h_ck m30
        clear m30
        obtain ⟨M14, g14, m32⟩ := h_bd m31
        clear m31
        refine r_callV0 hw (tX3_take l G b0 g14) lB_X3_take lI_X3_take mL_X4_22 (c := 3) rfl h15 rfl (Nat.le_of_ble_eq_true rfl) (Nat.le_of_ble_eq_true rfl) rfl (Nat.le_of_ble_eq_true rfl) dX4_take_30 ?_
        obtain ⟨i16, ei16, m33⟩ := h_nm m32
        clear m32
        refine r_iinc (j := 2) (v := i16) hw dX4_take_33 rfl (by rw [ei16]; rfl) (by decide) rfl ?_
        refine r_goto (tgt := 10) hw dX4_take_36 (by decide) ?_
        refine r_sub hw [1, 2, 0] rfl ?_
        exact ih10 _ _ m33
  exact L10 n010 _ _ hn10
theorem dX1_draft_0 : decode cX1_draft 0 = .ok (.aload_n 0, 1) := by decide +kernel
theorem dX1_draft_1 : decode cX1_draft 1 = .ok (.getfield 18, 3) := by decide +kernel
theorem dX1_draft_4 : decode cX1_draft 4 = .ok (.aload_n 0, 1) := by decide +kernel
theorem dX1_draft_5 : decode cX1_draft 5 = .ok (.getfield 11, 3) := by decide +kernel
theorem dX1_draft_8 : decode cX1_draft 8 = .ok (.aload_n 0, 1) := by decide +kernel
theorem dX1_draft_9 : decode cX1_draft 9 = .ok (.getfield 22, 3) := by decide +kernel
theorem dX1_draft_12 : decode cX1_draft 12 = .ok (.aaload, 1) := by decide +kernel
theorem dX1_draft_13 : decode cX1_draft 13 = .ok (.invokevirtual 29, 3) := by decide +kernel
theorem dX1_draft_16 : decode cX1_draft 16 = .ok (.aload_n 0, 1) := by decide +kernel
theorem dX1_draft_17 : decode cX1_draft 17 = .ok (.getfield 18, 3) := by decide +kernel
theorem dX1_draft_20 : decode cX1_draft 20 = .ok (.areturn, 1) := by decide +kernel
set_option maxHeartbeats 4000000 in
set_option maxRecDepth 100000 in
theorem tX1_draft (l : Launch) (G : Gg) (b0 : Nat) {K : Kk} {R : Rr} {M : Mm} {r : Nat} {res : Nat} {M' : Mm} (hm : mX1_draft K R M r = some (res, M')) : CT l G b0 yX1_draft cX1_draft 1 (some (.object "ScissorsBench$Pieces")) (rmz 5 112) [.ref r] K R M (some (.ref res)) K R M' := by
  refine ct_of (by decide +kernel) (Nat.le_of_ble_eq_true rfl) (fun w hq => ?_)
  have hw := hq.b
  change w 0 0 0 [(0, .ref r)] [] K R M
  replace hm := h_start hm
  unfold mX1_draft at hm
  obtain ⟨h1, m8⟩ := h_ck hm
  clear hm
  refine r_aload_n hw dX1_draft_0 0 rfl ?_
  obtain ⟨q2, bq2, m9⟩ := h_bd m8
  clear m8
  refine r_getR hw fO_X1_18 h1 bq2 dX1_draft_1 ?_
  refine r_aload_n hw dX1_draft_4 0 rfl ?_
  obtain ⟨q3, bq3, m10⟩ := h_bd m9
  clear m9
  refine r_getR hw fO_X1_11 h1 bq3 dX1_draft_5 ?_
  refine r_aload_n hw dX1_draft_8 0 rfl ?_
  refine r_getI hw fO_X1_22 h1 dX1_draft_9 ?_
  obtain ⟨h4, m11⟩ := h_ck m10
  clear m10
  obtain ⟨q5, bq5, m12⟩ := h_bd m11
  clear m11
  refine r_aaload hw 1 (by decide) h4 bq5 dX1_draft_12 ?_
  obtain ⟨h7, m13⟩ := h_ck m12
  clear m12
  obtain ⟨M6, g6, m14⟩ := h_bd m13
  clear m13
  refine r_callV0 hw (tX4_take l G b0 g6) lB_X4_take lI_X4_take mL_X1_29 (c := 4) rfl h7 rfl (Nat.le_of_ble_eq_true rfl) (Nat.le_of_ble_eq_true rfl) rfl (Nat.le_of_ble_eq_true rfl) dX1_draft_13 ?_
  refine r_aload_n hw dX1_draft_16 0 rfl ?_
  refine r_getR hw fO_X1_18 h1 bq2 dX1_draft_17 ?_
  cases h_ret m14
  exact r_areturn hq rfl rfl dX1_draft_20
theorem dX1_emptyDraft_0 : decode cX1_emptyDraft 0 = .ok (.aload_n 0, 1) := by decide +kernel
theorem dX1_emptyDraft_1 : decode cX1_emptyDraft 1 = .ok (.getfield 18, 3) := by decide +kernel
theorem dX1_emptyDraft_4 : decode cX1_emptyDraft 4 = .ok (.iconst 0, 1) := by decide +kernel
theorem dX1_emptyDraft_5 : decode cX1_emptyDraft 5 = .ok (.putfield 33, 3) := by decide +kernel
theorem dX1_emptyDraft_8 : decode cX1_emptyDraft 8 = .ok (.aload_n 0, 1) := by decide +kernel
theorem dX1_emptyDraft_9 : decode cX1_emptyDraft 9 = .ok (.getfield 18, 3) := by decide +kernel
theorem dX1_emptyDraft_12 : decode cX1_emptyDraft 12 = .ok (.areturn, 1) := by decide +kernel
set_option maxHeartbeats 4000000 in
set_option maxRecDepth 100000 in
theorem tX1_emptyDraft (l : Launch) (G : Gg) (b0 : Nat) {K : Kk} {R : Rr} {M : Mm} {r : Nat} {res : Nat} {M' : Mm} (hm : mX1_emptyDraft K R M r = some (res, M')) : CT l G b0 yX1_emptyDraft cX1_emptyDraft 1 (some (.object "ScissorsBench$Pieces")) (rmz 1 0) [.ref r] K R M (some (.ref res)) K R M' := by
  refine ct_of (by decide +kernel) (Nat.le_of_ble_eq_true rfl) (fun w hq => ?_)
  have hw := hq.b
  change w 0 0 0 [(0, .ref r)] [] K R M
  replace hm := h_start hm
  unfold mX1_emptyDraft at hm
  obtain ⟨h1, m5⟩ := h_ck hm
  clear hm
  refine r_aload_n hw dX1_emptyDraft_0 0 rfl ?_
  obtain ⟨q2, bq2, m6⟩ := h_bd m5
  clear m5
  refine r_getR hw fO_X1_18 h1 bq2 dX1_emptyDraft_1 ?_
  refine r_iconst (v := 0) hw dX1_emptyDraft_4 rfl ?_
  obtain ⟨h3, m7⟩ := h_ck m6
  clear m6
  obtain ⟨M4, eM4, m8⟩ := h_nm m7
  clear m7
  refine r_putI hw fP_X1_33 h3 dX1_emptyDraft_5 (r_mem ?_ rfl eM4)
  refine r_aload_n hw dX1_emptyDraft_8 0 rfl ?_
  refine r_getR hw fO_X1_18 h1 bq2 dX1_emptyDraft_9 ?_
  cases h_ret m8
  exact r_areturn hq rfl rfl dX1_emptyDraft_12
theorem dX1_keepDraft_0 : decode cX1_keepDraft 0 = .ok (.aload_n 0, 1) := by decide +kernel
theorem dX1_keepDraft_1 : decode cX1_keepDraft 1 = .ok (.getfield 22, 3) := by decide +kernel
theorem dX1_keepDraft_4 : decode cX1_keepDraft 4 = .ok (.bipush 6, 2) := by decide +kernel
theorem dX1_keepDraft_6 : decode cX1_keepDraft 6 = .ok (.if_icmp .ne 49, 3) := by decide +kernel
theorem dX1_keepDraft_9 : decode cX1_keepDraft 9 = .ok (.aload_n 0, 1) := by decide +kernel
theorem dX1_keepDraft_10 : decode cX1_keepDraft 10 = .ok (.getfield 11, 3) := by decide +kernel
theorem dX1_keepDraft_13 : decode cX1_keepDraft 13 = .ok (.iconst 0, 1) := by decide +kernel
theorem dX1_keepDraft_14 : decode cX1_keepDraft 14 = .ok (.aaload, 1) := by decide +kernel
theorem dX1_keepDraft_15 : decode cX1_keepDraft 15 = .ok (.astore_n 1, 1) := by decide +kernel
theorem dX1_keepDraft_16 : decode cX1_keepDraft 16 = .ok (.iconst 0, 1) := by decide +kernel
theorem dX1_keepDraft_17 : decode cX1_keepDraft 17 = .ok (.istore_n 2, 1) := by decide +kernel
theorem dX1_keepDraft_18 : decode cX1_keepDraft 18 = .ok (.iload_n 2, 1) := by decide +kernel
theorem dX1_keepDraft_19 : decode cX1_keepDraft 19 = .ok (.bipush 6, 2) := by decide +kernel
theorem dX1_keepDraft_21 : decode cX1_keepDraft 21 = .ok (.if_icmp .ge 23, 3) := by decide +kernel
theorem dX1_keepDraft_24 : decode cX1_keepDraft 24 = .ok (.aload_n 0, 1) := by decide +kernel
theorem dX1_keepDraft_25 : decode cX1_keepDraft 25 = .ok (.getfield 11, 3) := by decide +kernel
theorem dX1_keepDraft_28 : decode cX1_keepDraft 28 = .ok (.iload_n 2, 1) := by decide +kernel
theorem dX1_keepDraft_29 : decode cX1_keepDraft 29 = .ok (.aload_n 0, 1) := by decide +kernel
theorem dX1_keepDraft_30 : decode cX1_keepDraft 30 = .ok (.getfield 11, 3) := by decide +kernel
theorem dX1_keepDraft_33 : decode cX1_keepDraft 33 = .ok (.iload_n 2, 1) := by decide +kernel
theorem dX1_keepDraft_34 : decode cX1_keepDraft 34 = .ok (.iconst 1, 1) := by decide +kernel
theorem dX1_keepDraft_35 : decode cX1_keepDraft 35 = .ok (.iadd, 1) := by decide +kernel
theorem dX1_keepDraft_36 : decode cX1_keepDraft 36 = .ok (.aaload, 1) := by decide +kernel
theorem dX1_keepDraft_37 : decode cX1_keepDraft 37 = .ok (.aastore, 1) := by decide +kernel
theorem dX1_keepDraft_38 : decode cX1_keepDraft 38 = .ok (.iinc 2 1, 3) := by decide +kernel
theorem dX1_keepDraft_41 : decode cX1_keepDraft 41 = .ok (.goto (-23), 3) := by decide +kernel
theorem dX1_keepDraft_44 : decode cX1_keepDraft 44 = .ok (.aload_n 0, 1) := by decide +kernel
theorem dX1_keepDraft_45 : decode cX1_keepDraft 45 = .ok (.getfield 11, 3) := by decide +kernel
theorem dX1_keepDraft_48 : decode cX1_keepDraft 48 = .ok (.bipush 6, 2) := by decide +kernel
theorem dX1_keepDraft_50 : decode cX1_keepDraft 50 = .ok (.aload_n 1, 1) := by decide +kernel
theorem dX1_keepDraft_51 : decode cX1_keepDraft 51 = .ok (.aastore, 1) := by decide +kernel
theorem dX1_keepDraft_52 : decode cX1_keepDraft 52 = .ok (.goto 13, 3) := by decide +kernel
theorem dX1_keepDraft_55 : decode cX1_keepDraft 55 = .ok (.aload_n 0, 1) := by decide +kernel
theorem dX1_keepDraft_56 : decode cX1_keepDraft 56 = .ok (.dup, 1) := by decide +kernel
theorem dX1_keepDraft_57 : decode cX1_keepDraft 57 = .ok (.getfield 22, 3) := by decide +kernel
theorem dX1_keepDraft_60 : decode cX1_keepDraft 60 = .ok (.iconst 1, 1) := by decide +kernel
theorem dX1_keepDraft_61 : decode cX1_keepDraft 61 = .ok (.iadd, 1) := by decide +kernel
theorem dX1_keepDraft_62 : decode cX1_keepDraft 62 = .ok (.putfield 22, 3) := by decide +kernel
theorem dX1_keepDraft_65 : decode cX1_keepDraft 65 = .ok (.aload_n 0, 1) := by decide +kernel
theorem dX1_keepDraft_66 : decode cX1_keepDraft 66 = .ok (.getfield 11, 3) := by decide +kernel
theorem dX1_keepDraft_69 : decode cX1_keepDraft 69 = .ok (.aload_n 0, 1) := by decide +kernel
theorem dX1_keepDraft_70 : decode cX1_keepDraft 70 = .ok (.getfield 22, 3) := by decide +kernel
theorem dX1_keepDraft_73 : decode cX1_keepDraft 73 = .ok (.aaload, 1) := by decide +kernel
theorem dX1_keepDraft_74 : decode cX1_keepDraft 74 = .ok (.astore_n 1, 1) := by decide +kernel
theorem dX1_keepDraft_75 : decode cX1_keepDraft 75 = .ok (.aload_n 0, 1) := by decide +kernel
theorem dX1_keepDraft_76 : decode cX1_keepDraft 76 = .ok (.getfield 11, 3) := by decide +kernel
theorem dX1_keepDraft_79 : decode cX1_keepDraft 79 = .ok (.aload_n 0, 1) := by decide +kernel
theorem dX1_keepDraft_80 : decode cX1_keepDraft 80 = .ok (.getfield 22, 3) := by decide +kernel
theorem dX1_keepDraft_83 : decode cX1_keepDraft 83 = .ok (.aload_n 0, 1) := by decide +kernel
theorem dX1_keepDraft_84 : decode cX1_keepDraft 84 = .ok (.getfield 18, 3) := by decide +kernel
theorem dX1_keepDraft_87 : decode cX1_keepDraft 87 = .ok (.aastore, 1) := by decide +kernel
theorem dX1_keepDraft_88 : decode cX1_keepDraft 88 = .ok (.aload_n 0, 1) := by decide +kernel
theorem dX1_keepDraft_89 : decode cX1_keepDraft 89 = .ok (.aload_n 1, 1) := by decide +kernel
theorem dX1_keepDraft_90 : decode cX1_keepDraft 90 = .ok (.putfield 18, 3) := by decide +kernel
theorem dX1_keepDraft_93 : decode cX1_keepDraft 93 = .ok (.aload_n 0, 1) := by decide +kernel
theorem dX1_keepDraft_94 : decode cX1_keepDraft 94 = .ok (.aload_n 0, 1) := by decide +kernel
theorem dX1_keepDraft_95 : decode cX1_keepDraft 95 = .ok (.getfield 22, 3) := by decide +kernel
theorem dX1_keepDraft_98 : decode cX1_keepDraft 98 = .ok (.putfield 26, 3) := by decide +kernel
theorem dX1_keepDraft_101 : decode cX1_keepDraft 101 = .ok (.return_, 1) := by decide +kernel
set_option maxHeartbeats 4000000 in
set_option maxRecDepth 100000 in
theorem tX1_keepDraft (l : Launch) (G : Gg) (b0 : Nat) {K : Kk} {R : Rr} {M : Mm} {r : Nat} {R' : Rr} {M' : Mm} (hm : mX1_keepDraft K R M r = some (R', M')) : CT l G b0 yX1_keepDraft cX1_keepDraft 3 none (rmz 1 0) [.ref r] K R M none K R' M' := by
  refine ct_of (by decide +kernel) (Nat.le_of_ble_eq_true rfl) (fun w hq => ?_)
  have hw := hq.b
  change w 0 0 0 [(0, .ref r)] [] K R M
  replace hm := h_start hm
  unfold mX1_keepDraft at hm
  obtain ⟨h1, m33⟩ := h_ck hm
  clear hm
  have J65 : ∀ (R2 : Rr) (M3 : Mm), (mX1_keepDraft_J65 K R2 M3 r).bind some = some (R', M') → w 0 0 65 [(0, .ref r)] [] K R2 M3 := by
    intro R2 M3  m34
    unfold mX1_keepDraft_J65 at m34
    refine r_aload_n hw dX1_keepDraft_65 0 rfl ?_
    obtain ⟨q4, bq4, m35⟩ := h_bd m34
    clear m34
    refine r_getR hw fO_X1_11 h1 bq4 dX1_keepDraft_66 ?_
    refine r_aload_n hw dX1_keepDraft_69 0 rfl ?_
    refine r_getI hw fO_X1_22 h1 dX1_keepDraft_70 ?_
    obtain ⟨h5, m36⟩ := h_ck m35
    clear m35
    obtain ⟨q6, bq6, m37⟩ := h_bd m36
    clear m36
    refine r_aaload hw 1 (by decide) h5 bq6 dX1_keepDraft_73 ?_
    refine r_astore_n hw dX1_keepDraft_74 rfl (by decide) rfl ?_
    refine r_aload_n hw dX1_keepDraft_75 1 rfl ?_
    refine r_getR hw fO_X1_11 h1 bq4 dX1_keepDraft_76 ?_
    refine r_aload_n hw dX1_keepDraft_79 1 rfl ?_
    refine r_getI hw fO_X1_22 h1 dX1_keepDraft_80 ?_
    refine r_aload_n hw dX1_keepDraft_83 1 rfl ?_
    obtain ⟨q7, bq7, m38⟩ := h_bd m37
    clear m37
    refine r_getR hw fO_X1_18 h1 bq7 dX1_keepDraft_84 ?_
    obtain ⟨h8, m39⟩ := h_ck m38
    clear m38
    obtain ⟨R9, eR9, m40⟩ := h_nm m39
    clear m39
    refine r_aastore hw 1 (by decide) (c := 4) rfl rfl h5 h8 dX1_keepDraft_87 (r_mem ?_ eR9 rfl)
    refine r_aload_n hw dX1_keepDraft_88 1 rfl ?_
    refine r_aload_n hw dX1_keepDraft_89 0 rfl ?_
    obtain ⟨R10, eR10, m41⟩ := h_nm m40
    clear m40
    refine r_putR hw fP_X1_18 h1 dX1_keepDraft_90 (r_mem ?_ eR10 rfl)
    refine r_aload_n hw dX1_keepDraft_93 1 rfl ?_
    refine r_aload_n hw dX1_keepDraft_94 1 rfl ?_
    refine r_getI hw fO_X1_22 h1 dX1_keepDraft_95 ?_
    obtain ⟨M11, eM11, m42⟩ := h_nm m41
    clear m41
    refine r_putI hw fP_X1_26 h1 dX1_keepDraft_98 (r_mem ?_ rfl eM11)
    cases h_ret m42
    exact r_return hq rfl rfl dX1_keepDraft_101
  refine r_aload_n hw dX1_keepDraft_0 0 rfl ?_
  refine r_getI hw fO_X1_22 h1 dX1_keepDraft_1 ?_
  refine r_bipush (v := 6) hw dX1_keepDraft_4 rfl ?_
  refine r_icmp_ne (tgt := 55) hw dX1_keepDraft_6 (by decide) (fun c12 => ?_) (fun c12 => ?_)
  · have m43 := h_if_f c12 m33
    clear m33
    refine r_aload_n hw dX1_keepDraft_55 0 rfl ?_
    refine r_dup hw dX1_keepDraft_56 rfl ?_
    refine r_getI hw fO_X1_22 h1 dX1_keepDraft_57 ?_
    refine r_iconst (v := 1) hw dX1_keepDraft_60 rfl ?_
    refine r_iadd hw dX1_keepDraft_61 ?_
    obtain ⟨M13, eM13, m44⟩ := h_nm m43
    clear m43
    refine r_putI hw fP_X1_22 h1 dX1_keepDraft_62 (r_mem ?_ rfl eM13)
    exact J65 _ _ m44
  · have m45 := h_if_t c12 m33
    clear m33
    refine r_aload_n hw dX1_keepDraft_9 0 rfl ?_
    obtain ⟨q14, bq14, m46⟩ := h_bd m45
    clear m45
    refine r_getR hw fO_X1_11 h1 bq14 dX1_keepDraft_10 ?_
    refine r_iconst (v := 0) hw dX1_keepDraft_13 rfl ?_
    obtain ⟨h15, m47⟩ := h_ck m46
    clear m46
    obtain ⟨q16, bq16, m48⟩ := h_bd m47
    clear m47
    refine r_aaload hw 1 (by decide) h15 bq16 dX1_keepDraft_14 ?_
    refine r_astore_n hw dX1_keepDraft_15 rfl (by decide) rfl ?_
    refine r_iconst (v := 0) hw dX1_keepDraft_16 rfl ?_
    obtain ⟨i17, ei17, m49⟩ := h_nm m48
    clear m48
    refine r_topI (w := w) ei17 ?_
    refine r_istore_n hw dX1_keepDraft_17 rfl (by decide) rfl ?_
    refine r_sub hw [2, 1, 0] rfl ?_
    obtain ⟨v18, n018, hn18, hv18⟩ := h_lp m49
    clear m49
    have L18 : ∀ n : Nat, ∀ (i18 : Int32) (R19 : Rr) (M20 : Mm), it (mX1_keepDraft_L18 K r q16) n (i18, R19, M20) = some v18 → w 0 0 18 [(0, .ref r), (1, .ref q16), (2, .int i18)] [] K R19 M20 := by
      intro n18
      induction n18 with
      | zero => intro i18 R19 M20 hz; exact absurd hz h_it0
      | succ n18 ih18 =>
        intro i18 R19 M20 m50
        replace m50 : (mX1_keepDraft_B18 K r q16 i18 R19 M20).bind (Sum.elim (it (mX1_keepDraft_L18 K r q16) n18) some) = some v18 := m50
        unfold mX1_keepDraft_B18 at m50
        refine r_iload_n hw dX1_keepDraft_18 2 rfl ?_
        refine r_bipush (v := 6) hw dX1_keepDraft_19 rfl ?_
        refine r_icmp_ge (tgt := 44) hw dX1_keepDraft_21 (by decide) (fun c21 => ?_) (fun c21 => ?_)
        · have m51 := h_if_f c21 m50
          clear m50
          have m52 := h_ex m51 hv18
          clear m51
          refine r_aload_n hw dX1_keepDraft_44 0 rfl ?_
          obtain ⟨q22, bq22, m53⟩ := h_bd m52
          clear m52
          refine r_getR hw fO_X1_11 h1 bq22 dX1_keepDraft_45 ?_
          refine r_bipush (v := 6) hw dX1_keepDraft_48 rfl ?_
          refine r_aload_n hw dX1_keepDraft_50 1 rfl ?_
          obtain ⟨h23, m54⟩ := h_ck m53
          clear m53
          obtain ⟨h24, m55⟩ := h_ck m54
          clear m54
          obtain ⟨R25, eR25, m56⟩ := h_nm m55
          clear m55
          refine r_aastore hw 1 (by decide) (c := 4) rfl rfl h23 h24 dX1_keepDraft_51 (r_mem ?_ eR25 rfl)
          refine r_goto (tgt := 65) hw dX1_keepDraft_52 (by decide) ?_
          refine r_sub hw [0] rfl ?_
          exact J65 _ _ m56
        · have m57 := h_if_t c21 m50
          clear m50
          refine r_aload_n hw dX1_keepDraft_24 0 rfl ?_
          obtain ⟨q26, bq26, m58⟩ := h_bd m57
          clear m57
          refine r_getR hw fO_X1_11 h1 bq26 dX1_keepDraft_25 ?_
          refine r_iload_n hw dX1_keepDraft_28 2 rfl ?_
          refine r_aload_n hw dX1_keepDraft_29 0 rfl ?_
          refine r_getR hw fO_X1_11 h1 bq26 dX1_keepDraft_30 ?_
          refine r_iload_n hw dX1_keepDraft_33 2 rfl ?_
          refine r_iconst (v := 1) hw dX1_keepDraft_34 rfl ?_
          refine r_iadd hw dX1_keepDraft_35 ?_
          obtain ⟨h27, m59⟩ := h_ck m58
          clear m58
          obtain ⟨q28, bq28, m60⟩ := h_bd m59
          clear m59
          refine r_aaload hw 1 (by decide) h27 bq28 dX1_keepDraft_36 ?_
          obtain ⟨h29, m61⟩ := h_ck m60
          clear m60
          obtain ⟨h30, m62⟩ := h_ck m61
          clear m61
          obtain ⟨R31, eR31, m63⟩ := h_nm m62
          clear m62
          refine r_aastore hw 1 (by decide) (c := 4) rfl rfl h29 h30 dX1_keepDraft_37 (r_mem ?_ eR31 rfl)
          obtain ⟨i32, ei32, m64⟩ := h_nm m63
          clear m63
          refine r_iinc (j := 2) (v := i32) hw dX1_keepDraft_38 rfl (by rw [ei32]; rfl) (by decide) rfl ?_
          refine r_goto (tgt := 18) hw dX1_keepDraft_41 (by decide) ?_
          refine r_sub hw [1, 2, 0] rfl ?_
          exact ih18 _ _ _ m64
    exact L18 n018 _ _ _ hn18
theorem dX1_stepBack_0 : decode cX1_stepBack 0 = .ok (.aload_n 0, 1) := by decide +kernel
theorem dX1_stepBack_1 : decode cX1_stepBack 1 = .ok (.getfield 22, 3) := by decide +kernel
theorem dX1_stepBack_4 : decode cX1_stepBack 4 = .ok (.ifCond .ne 5, 3) := by decide +kernel
theorem dX1_stepBack_7 : decode cX1_stepBack 7 = .ok (.iconst 0, 1) := by decide +kernel
theorem dX1_stepBack_8 : decode cX1_stepBack 8 = .ok (.ireturn, 1) := by decide +kernel
theorem dX1_stepBack_9 : decode cX1_stepBack 9 = .ok (.aload_n 0, 1) := by decide +kernel
theorem dX1_stepBack_10 : decode cX1_stepBack 10 = .ok (.dup, 1) := by decide +kernel
theorem dX1_stepBack_11 : decode cX1_stepBack 11 = .ok (.getfield 22, 3) := by decide +kernel
theorem dX1_stepBack_14 : decode cX1_stepBack 14 = .ok (.iconst 1, 1) := by decide +kernel
theorem dX1_stepBack_15 : decode cX1_stepBack 15 = .ok (.isub, 1) := by decide +kernel
theorem dX1_stepBack_16 : decode cX1_stepBack 16 = .ok (.putfield 22, 3) := by decide +kernel
theorem dX1_stepBack_19 : decode cX1_stepBack 19 = .ok (.iconst 1, 1) := by decide +kernel
theorem dX1_stepBack_20 : decode cX1_stepBack 20 = .ok (.ireturn, 1) := by decide +kernel
set_option maxHeartbeats 4000000 in
set_option maxRecDepth 100000 in
theorem tX1_stepBack (l : Launch) (G : Gg) (b0 : Nat) {K : Kk} {R : Rr} {M : Mm} {r : Nat} {res : Int32} {M' : Mm} (hm : mX1_stepBack K R M r = some (res, M')) : CT l G b0 yX1_stepBack cX1_stepBack 1 (some .boolean) (rmz 1 0) [.ref r] K R M (some (.int res)) K R M' := by
  refine ct_of (by decide +kernel) (Nat.le_of_ble_eq_true rfl) (fun w hq => ?_)
  have hw := hq.b
  change w 0 0 0 [(0, .ref r)] [] K R M
  replace hm := h_start hm
  unfold mX1_stepBack at hm
  obtain ⟨h1, m4⟩ := h_ck hm
  clear hm
  refine r_aload_n hw dX1_stepBack_0 0 rfl ?_
  refine r_getI hw fO_X1_22 h1 dX1_stepBack_1 ?_
  refine r_if_ne (tgt := 9) hw dX1_stepBack_4 (by decide) (fun c2 => ?_) (fun c2 => ?_)
  · have m5 := h_if_f c2 m4
    clear m4
    refine r_aload_n hw dX1_stepBack_9 0 rfl ?_
    refine r_dup hw dX1_stepBack_10 rfl ?_
    refine r_getI hw fO_X1_22 h1 dX1_stepBack_11 ?_
    refine r_iconst (v := 1) hw dX1_stepBack_14 rfl ?_
    refine r_isub hw dX1_stepBack_15 ?_
    obtain ⟨M3, eM3, m6⟩ := h_nm m5
    clear m5
    refine r_putI hw fP_X1_22 h1 dX1_stepBack_16 (r_mem ?_ rfl eM3)
    refine r_iconst (v := 1) hw dX1_stepBack_19 rfl ?_
    cases h_ret m6
    exact r_zreturn hq isB_1 rfl rfl dX1_stepBack_20
  · have m7 := h_if_t c2 m4
    clear m4
    refine r_iconst (v := 0) hw dX1_stepBack_7 rfl ?_
    cases h_ret m7
    exact r_zreturn hq isB_0 rfl rfl dX1_stepBack_8
theorem dX1_stepOn_0 : decode cX1_stepOn 0 = .ok (.aload_n 0, 1) := by decide +kernel
theorem dX1_stepOn_1 : decode cX1_stepOn 1 = .ok (.getfield 22, 3) := by decide +kernel
theorem dX1_stepOn_4 : decode cX1_stepOn 4 = .ok (.aload_n 0, 1) := by decide +kernel
theorem dX1_stepOn_5 : decode cX1_stepOn 5 = .ok (.getfield 26, 3) := by decide +kernel
theorem dX1_stepOn_8 : decode cX1_stepOn 8 = .ok (.if_icmp .lt 5, 3) := by decide +kernel
theorem dX1_stepOn_11 : decode cX1_stepOn 11 = .ok (.iconst 0, 1) := by decide +kernel
theorem dX1_stepOn_12 : decode cX1_stepOn 12 = .ok (.ireturn, 1) := by decide +kernel
theorem dX1_stepOn_13 : decode cX1_stepOn 13 = .ok (.aload_n 0, 1) := by decide +kernel
theorem dX1_stepOn_14 : decode cX1_stepOn 14 = .ok (.dup, 1) := by decide +kernel
theorem dX1_stepOn_15 : decode cX1_stepOn 15 = .ok (.getfield 22, 3) := by decide +kernel
theorem dX1_stepOn_18 : decode cX1_stepOn 18 = .ok (.iconst 1, 1) := by decide +kernel
theorem dX1_stepOn_19 : decode cX1_stepOn 19 = .ok (.iadd, 1) := by decide +kernel
theorem dX1_stepOn_20 : decode cX1_stepOn 20 = .ok (.putfield 22, 3) := by decide +kernel
theorem dX1_stepOn_23 : decode cX1_stepOn 23 = .ok (.iconst 1, 1) := by decide +kernel
theorem dX1_stepOn_24 : decode cX1_stepOn 24 = .ok (.ireturn, 1) := by decide +kernel
set_option maxHeartbeats 4000000 in
set_option maxRecDepth 100000 in
theorem tX1_stepOn (l : Launch) (G : Gg) (b0 : Nat) {K : Kk} {R : Rr} {M : Mm} {r : Nat} {res : Int32} {M' : Mm} (hm : mX1_stepOn K R M r = some (res, M')) : CT l G b0 yX1_stepOn cX1_stepOn 1 (some .boolean) (rmz 1 0) [.ref r] K R M (some (.int res)) K R M' := by
  refine ct_of (by decide +kernel) (Nat.le_of_ble_eq_true rfl) (fun w hq => ?_)
  have hw := hq.b
  change w 0 0 0 [(0, .ref r)] [] K R M
  replace hm := h_start hm
  unfold mX1_stepOn at hm
  obtain ⟨h1, m4⟩ := h_ck hm
  clear hm
  refine r_aload_n hw dX1_stepOn_0 0 rfl ?_
  refine r_getI hw fO_X1_22 h1 dX1_stepOn_1 ?_
  refine r_aload_n hw dX1_stepOn_4 0 rfl ?_
  refine r_getI hw fO_X1_26 h1 dX1_stepOn_5 ?_
  refine r_icmp_lt (tgt := 13) hw dX1_stepOn_8 (by decide) (fun c2 => ?_) (fun c2 => ?_)
  · have m5 := h_if_t c2 m4
    clear m4
    refine r_aload_n hw dX1_stepOn_13 0 rfl ?_
    refine r_dup hw dX1_stepOn_14 rfl ?_
    refine r_getI hw fO_X1_22 h1 dX1_stepOn_15 ?_
    refine r_iconst (v := 1) hw dX1_stepOn_18 rfl ?_
    refine r_iadd hw dX1_stepOn_19 ?_
    obtain ⟨M3, eM3, m6⟩ := h_nm m5
    clear m5
    refine r_putI hw fP_X1_22 h1 dX1_stepOn_20 (r_mem ?_ rfl eM3)
    refine r_iconst (v := 1) hw dX1_stepOn_23 rfl ?_
    cases h_ret m6
    exact r_zreturn hq isB_1 rfl rfl dX1_stepOn_24
  · have m7 := h_if_f c2 m4
    clear m4
    refine r_iconst (v := 0) hw dX1_stepOn_11 rfl ?_
    cases h_ret m7
    exact r_zreturn hq isB_0 rfl rfl dX1_stepOn_12
theorem dX2_weigh_0 : decode cX2_weigh 0 = .ok (.aload_n 0, 1) := by decide +kernel
theorem dX2_weigh_1 : decode cX2_weigh 1 = .ok (.iconst 0, 1) := by decide +kernel
theorem dX2_weigh_2 : decode cX2_weigh 2 = .ok (.putfield 24, 3) := by decide +kernel
theorem dX2_weigh_5 : decode cX2_weigh 5 = .ok (.aload_n 0, 1) := by decide +kernel
theorem dX2_weigh_6 : decode cX2_weigh 6 = .ok (.iconst 0, 1) := by decide +kernel
theorem dX2_weigh_7 : decode cX2_weigh 7 = .ok (.putfield 27, 3) := by decide +kernel
theorem dX2_weigh_10 : decode cX2_weigh 10 = .ok (.iconst 0, 1) := by decide +kernel
theorem dX2_weigh_11 : decode cX2_weigh 11 = .ok (.istore_n 2, 1) := by decide +kernel
theorem dX2_weigh_12 : decode cX2_weigh 12 = .ok (.iload_n 2, 1) := by decide +kernel
theorem dX2_weigh_13 : decode cX2_weigh 13 = .ok (.aload_n 1, 1) := by decide +kernel
theorem dX2_weigh_14 : decode cX2_weigh 14 = .ok (.getfield 30, 3) := by decide +kernel
theorem dX2_weigh_17 : decode cX2_weigh 17 = .ok (.if_icmp .ge 66, 3) := by decide +kernel
theorem dX2_weigh_20 : decode cX2_weigh 20 = .ok (.aload_n 0, 1) := by decide +kernel
theorem dX2_weigh_21 : decode cX2_weigh 21 = .ok (.aload_n 1, 1) := by decide +kernel
theorem dX2_weigh_22 : decode cX2_weigh 22 = .ok (.getfield 35, 3) := by decide +kernel
theorem dX2_weigh_25 : decode cX2_weigh 25 = .ok (.iload_n 2, 1) := by decide +kernel
theorem dX2_weigh_26 : decode cX2_weigh 26 = .ok (.iaload, 1) := by decide +kernel
theorem dX2_weigh_27 : decode cX2_weigh 27 = .ok (.aload_n 1, 1) := by decide +kernel
theorem dX2_weigh_28 : decode cX2_weigh 28 = .ok (.getfield 39, 3) := by decide +kernel
theorem dX2_weigh_31 : decode cX2_weigh 31 = .ok (.iload_n 2, 1) := by decide +kernel
theorem dX2_weigh_32 : decode cX2_weigh 32 = .ok (.iaload, 1) := by decide +kernel
theorem dX2_weigh_33 : decode cX2_weigh 33 = .ok (.invokevirtual 42, 3) := by decide +kernel
theorem dX2_weigh_36 : decode cX2_weigh 36 = .ok (.lstore_n 3, 1) := by decide +kernel
theorem dX2_weigh_37 : decode cX2_weigh 37 = .ok (.aload_n 0, 1) := by decide +kernel
theorem dX2_weigh_38 : decode cX2_weigh 38 = .ok (.dup, 1) := by decide +kernel
theorem dX2_weigh_39 : decode cX2_weigh 39 = .ok (.getfield 24, 3) := by decide +kernel
theorem dX2_weigh_42 : decode cX2_weigh 42 = .ok (.lload_n 3, 1) := by decide +kernel
theorem dX2_weigh_43 : decode cX2_weigh 43 = .ok (.lconst 0, 1) := by decide +kernel
theorem dX2_weigh_44 : decode cX2_weigh 44 = .ok (.lcmp, 1) := by decide +kernel
theorem dX2_weigh_45 : decode cX2_weigh 45 = .ok (.ifCond .le 7, 3) := by decide +kernel
theorem dX2_weigh_48 : decode cX2_weigh 48 = .ok (.iconst 1, 1) := by decide +kernel
theorem dX2_weigh_49 : decode cX2_weigh 49 = .ok (.goto 4, 3) := by decide +kernel
theorem dX2_weigh_52 : decode cX2_weigh 52 = .ok (.iconst 0, 1) := by decide +kernel
theorem dX2_weigh_53 : decode cX2_weigh 53 = .ok (.iadd, 1) := by decide +kernel
theorem dX2_weigh_54 : decode cX2_weigh 54 = .ok (.putfield 24, 3) := by decide +kernel
theorem dX2_weigh_57 : decode cX2_weigh 57 = .ok (.aload_n 0, 1) := by decide +kernel
theorem dX2_weigh_58 : decode cX2_weigh 58 = .ok (.dup, 1) := by decide +kernel
theorem dX2_weigh_59 : decode cX2_weigh 59 = .ok (.getfield 27, 3) := by decide +kernel
theorem dX2_weigh_62 : decode cX2_weigh 62 = .ok (.lload_n 3, 1) := by decide +kernel
theorem dX2_weigh_63 : decode cX2_weigh 63 = .ok (.lconst 0, 1) := by decide +kernel
theorem dX2_weigh_64 : decode cX2_weigh 64 = .ok (.lcmp, 1) := by decide +kernel
theorem dX2_weigh_65 : decode cX2_weigh 65 = .ok (.ifCond .ge 7, 3) := by decide +kernel
theorem dX2_weigh_68 : decode cX2_weigh 68 = .ok (.iconst 1, 1) := by decide +kernel
theorem dX2_weigh_69 : decode cX2_weigh 69 = .ok (.goto 4, 3) := by decide +kernel
theorem dX2_weigh_72 : decode cX2_weigh 72 = .ok (.iconst 0, 1) := by decide +kernel
theorem dX2_weigh_73 : decode cX2_weigh 73 = .ok (.iadd, 1) := by decide +kernel
theorem dX2_weigh_74 : decode cX2_weigh 74 = .ok (.putfield 27, 3) := by decide +kernel
theorem dX2_weigh_77 : decode cX2_weigh 77 = .ok (.iinc 2 1, 3) := by decide +kernel
theorem dX2_weigh_80 : decode cX2_weigh 80 = .ok (.goto (-68), 3) := by decide +kernel
theorem dX2_weigh_83 : decode cX2_weigh 83 = .ok (.return_, 1) := by decide +kernel
set_option maxHeartbeats 4000000 in
set_option maxRecDepth 100000 in
theorem tX2_weigh (l : Launch) (G : Gg) (b0 : Nat) {K : Kk} {R : Rr} {M : Mm} {r : Nat} {a0 : Nat} {M' : Mm} (hm : mX2_weigh K R M r a0 = some (M')) : CT l G b0 yX2_weigh cX2_weigh 5 none (rmz 2 22) [.ref r, .ref a0] K R M none K R M' := by
  refine ct_of (by decide +kernel) (Nat.le_of_ble_eq_true rfl) (fun w hq => ?_)
  have hw := hq.b
  change w 0 0 0 [(0, .ref r), (1, .ref a0)] [] K R M
  replace hm := h_start hm
  unfold mX2_weigh at hm
  obtain ⟨h1, m32⟩ := h_ck hm
  clear hm
  obtain ⟨h2, m33⟩ := h_ck m32
  clear m32
  refine r_aload_n hw dX2_weigh_0 0 rfl ?_
  refine r_iconst (v := 0) hw dX2_weigh_1 rfl ?_
  obtain ⟨M3, eM3, m34⟩ := h_nm m33
  clear m33
  refine r_putI hw fP_X2_24 h1 dX2_weigh_2 (r_mem ?_ rfl eM3)
  refine r_aload_n hw dX2_weigh_5 0 rfl ?_
  refine r_iconst (v := 0) hw dX2_weigh_6 rfl ?_
  obtain ⟨M4, eM4, m35⟩ := h_nm m34
  clear m34
  refine r_putI hw fP_X2_27 h1 dX2_weigh_7 (r_mem ?_ rfl eM4)
  refine r_iconst (v := 0) hw dX2_weigh_10 rfl ?_
  obtain ⟨i5, ei5, m36⟩ := h_nm m35
  clear m35
  refine r_topI (w := w) ei5 ?_
  refine r_istore_n hw dX2_weigh_11 rfl (by decide) rfl ?_
  refine r_sub hw [1, 2, 0] rfl ?_
  obtain ⟨v12, n012, hn12, hv12⟩ := h_lp m36
  clear m36
  have L12 : ∀ n : Nat, ∀ (i6 : Int32) (M7 : Mm), it (mX2_weigh_L12 K R r a0) n (i6, M7) = some v12 → w 0 0 12 [(0, .ref r), (1, .ref a0), (2, .int i6)] [] K R M7 := by
    intro n12
    induction n12 with
    | zero => intro i6 M7 hz; exact absurd hz h_it0
    | succ n12 ih12 =>
      intro i6 M7 m37
      replace m37 : (mX2_weigh_B12 K R r a0 i6 M7).bind (Sum.elim (it (mX2_weigh_L12 K R r a0) n12) some) = some v12 := m37
      unfold mX2_weigh_B12 at m37
      have J73 : ∀ (M12 : Mm) (i8 : Int32) (s9 : Nat) (s10 : Int32) (s11 : Int32), (mX2_weigh_J73 K R M12 r a0 i8 s9 s10 s11).bind (Sum.elim (it (mX2_weigh_L12 K R r a0) n12) some) = some v12 → w 0 0 73 [(0, .ref r), (1, .ref a0), (2, .int i8)] [.int s11, .int s10, .ref s9] K R M12 := by
        intro M12 i8 s9 s10 s11 m38
        unfold mX2_weigh_J73 at m38
        refine r_iadd hw dX2_weigh_73 ?_
        obtain ⟨h13, m39⟩ := h_ck m38
        clear m38
        obtain ⟨M14, eM14, m40⟩ := h_nm m39
        clear m39
        refine r_putI hw fP_X2_27 h13 dX2_weigh_74 (r_mem ?_ rfl eM14)
        obtain ⟨i15, ei15, m41⟩ := h_nm m40
        clear m40
        refine r_iinc (j := 2) (v := i15) hw dX2_weigh_77 rfl (by rw [ei15]; rfl) (by decide) rfl ?_
        refine r_goto (tgt := 12) hw dX2_weigh_80 (by decide) ?_
        refine r_sub hw [1, 2, 0] rfl ?_
        exact ih12 _ _ m41
      have J53 : ∀ (M21 : Mm) (i16 : Int32) (l17 : Int64) (s18 : Nat) (s19 : Int32) (s20 : Int32), (mX2_weigh_J53 K R M21 r a0 i16 l17 s18 s19 s20).bind (Sum.elim (it (mX2_weigh_L12 K R r a0) n12) some) = some v12 → w 0 0 53 [(0, .ref r), (1, .ref a0), (2, .int i16), (3, .long l17)] [.int s20, .int s19, .ref s18] K R M21 := by
        intro M21 i16 l17 s18 s19 s20 m42
        unfold mX2_weigh_J53 at m42
        refine r_iadd hw dX2_weigh_53 ?_
        obtain ⟨h22, m43⟩ := h_ck m42
        clear m42
        obtain ⟨M23, eM23, m44⟩ := h_nm m43
        clear m43
        refine r_putI hw fP_X2_24 h22 dX2_weigh_54 (r_mem ?_ rfl eM23)
        refine r_aload_n hw dX2_weigh_57 0 rfl ?_
        refine r_dup hw dX2_weigh_58 rfl ?_
        refine r_getI hw fO_X2_27 h1 dX2_weigh_59 ?_
        refine r_lload_n hw dX2_weigh_62 3 rfl ?_
        refine r_lconst (v := 0) hw dX2_weigh_63 rfl ?_
        refine r_lcmp_ge (tgt := 72) hw dX2_weigh_64 dX2_weigh_65 (by decide) (fun c24 => ?_) (fun c24 => ?_)
        · have m45 := h_if_f c24 m44
          clear m44
          refine r_iconst (v := 0) hw dX2_weigh_72 rfl ?_
          refine r_sub hw [0, 1, 2] rfl ?_
          exact J73 _ _ _ _ _ m45
        · have m46 := h_if_t c24 m44
          clear m44
          refine r_iconst (v := 1) hw dX2_weigh_68 rfl ?_
          refine r_goto (tgt := 73) hw dX2_weigh_69 (by decide) ?_
          refine r_sub hw [0, 1, 2] rfl ?_
          exact J73 _ _ _ _ _ m46
      refine r_iload_n hw dX2_weigh_12 2 rfl ?_
      refine r_aload_n hw dX2_weigh_13 1 rfl ?_
      refine r_getI hw fO_X2_30 h2 dX2_weigh_14 ?_
      refine r_icmp_ge (tgt := 83) hw dX2_weigh_17 (by decide) (fun c25 => ?_) (fun c25 => ?_)
      · have m47 := h_if_f c25 m37
        clear m37
        have m48 := h_ex m47 hv12
        clear m47
        cases h_ret m48
        exact r_return hq rfl rfl dX2_weigh_83
      · have m49 := h_if_t c25 m37
        clear m37
        refine r_aload_n hw dX2_weigh_20 0 rfl ?_
        refine r_aload_n hw dX2_weigh_21 1 rfl ?_
        obtain ⟨q26, bq26, m50⟩ := h_bd m49
        clear m49
        refine r_getR hw fO_X2_35 h2 bq26 dX2_weigh_22 ?_
        refine r_iload_n hw dX2_weigh_25 2 rfl ?_
        obtain ⟨h27, m51⟩ := h_ck m50
        clear m50
        refine r_iaload hw h27 dX2_weigh_26 ?_
        refine r_aload_n hw dX2_weigh_27 1 rfl ?_
        obtain ⟨q28, bq28, m52⟩ := h_bd m51
        clear m51
        refine r_getR hw fO_X2_39 h2 bq28 dX2_weigh_28 ?_
        refine r_iload_n hw dX2_weigh_31 2 rfl ?_
        obtain ⟨h29, m53⟩ := h_ck m52
        clear m52
        refine r_iaload hw h29 dX2_weigh_32 ?_
        obtain ⟨l30, g30, m54⟩ := h_bd m53
        clear m53
        refine r_callV1 hw (tX2_side l G b0 g30) lB_X2_side lI_X2_side mL_X2_42 (c := 2) rfl h1 rfl (Nat.le_of_ble_eq_true rfl) (Nat.le_of_ble_eq_true rfl) rfl (Nat.le_of_ble_eq_true rfl) dX2_weigh_33 ?_
        refine r_lstore_n hw dX2_weigh_36 rfl (by decide) rfl ?_
        refine r_aload_n hw dX2_weigh_37 1 rfl ?_
        refine r_dup hw dX2_weigh_38 rfl ?_
        refine r_getI hw fO_X2_24 h1 dX2_weigh_39 ?_
        refine r_lload_n hw dX2_weigh_42 0 rfl ?_
        refine r_lconst (v := 0) hw dX2_weigh_43 rfl ?_
        refine r_lcmp_le (tgt := 52) hw dX2_weigh_44 dX2_weigh_45 (by decide) (fun c31 => ?_) (fun c31 => ?_)
        · have m55 := h_if_t c31 m54
          clear m54
          refine r_iconst (v := 0) hw dX2_weigh_52 rfl ?_
          refine r_sub hw [1, 2, 3, 0] rfl ?_
          exact J53 _ _ _ _ _ _ m55
        · have m56 := h_if_f c31 m54
          clear m54
          refine r_iconst (v := 1) hw dX2_weigh_48 rfl ?_
          refine r_goto (tgt := 53) hw dX2_weigh_49 (by decide) ?_
          refine r_sub hw [1, 2, 3, 0] rfl ?_
          exact J53 _ _ _ _ _ _ m56
  exact L12 n012 _ _ hn12
theorem dX2_crosses_0 : decode cX2_crosses 0 = .ok (.aload_n 0, 1) := by decide +kernel
theorem dX2_crosses_1 : decode cX2_crosses 1 = .ok (.getfield 24, 3) := by decide +kernel
theorem dX2_crosses_4 : decode cX2_crosses 4 = .ok (.ifCond .le 14, 3) := by decide +kernel
theorem dX2_crosses_7 : decode cX2_crosses 7 = .ok (.aload_n 0, 1) := by decide +kernel
theorem dX2_crosses_8 : decode cX2_crosses 8 = .ok (.getfield 27, 3) := by decide +kernel
theorem dX2_crosses_11 : decode cX2_crosses 11 = .ok (.ifCond .le 7, 3) := by decide +kernel
theorem dX2_crosses_14 : decode cX2_crosses 14 = .ok (.iconst 1, 1) := by decide +kernel
theorem dX2_crosses_15 : decode cX2_crosses 15 = .ok (.goto 4, 3) := by decide +kernel
theorem dX2_crosses_18 : decode cX2_crosses 18 = .ok (.iconst 0, 1) := by decide +kernel
theorem dX2_crosses_19 : decode cX2_crosses 19 = .ok (.ireturn, 1) := by decide +kernel
set_option maxHeartbeats 4000000 in
set_option maxRecDepth 100000 in
theorem tX2_crosses (l : Launch) (G : Gg) (b0 : Nat) {K : Kk} {R : Rr} {M : Mm} {r : Nat} {res : Int32} (hm : mX2_crosses K R M r = some (res)) : CT l G b0 yX2_crosses cX2_crosses 1 (some .boolean) (rmz 1 0) [.ref r] K R M (some (.int res)) K R M := by
  refine ct_of (by decide +kernel) (Nat.le_of_ble_eq_true rfl) (fun w hq => ?_)
  have hw := hq.b
  change w 0 0 0 [(0, .ref r)] [] K R M
  replace hm := h_start hm
  unfold mX2_crosses at hm
  obtain ⟨h1, m4⟩ := h_ck hm
  clear hm
  refine r_aload_n hw dX2_crosses_0 0 rfl ?_
  refine r_getI hw fO_X2_24 h1 dX2_crosses_1 ?_
  refine r_if_le (tgt := 18) hw dX2_crosses_4 (by decide) (fun c2 => ?_) (fun c2 => ?_)
  · have m5 := h_if_t c2 m4
    clear m4
    refine r_iconst (v := 0) hw dX2_crosses_18 rfl ?_
    cases h_ret m5
    exact r_zreturn hq isB_0 rfl rfl dX2_crosses_19
  · have m6 := h_if_f c2 m4
    clear m4
    refine r_aload_n hw dX2_crosses_7 0 rfl ?_
    refine r_getI hw fO_X2_27 h1 dX2_crosses_8 ?_
    refine r_if_le (tgt := 18) hw dX2_crosses_11 (by decide) (fun c3 => ?_) (fun c3 => ?_)
    · have m7 := h_if_t c3 m6
      clear m6
      refine r_iconst (v := 0) hw dX2_crosses_18 rfl ?_
      cases h_ret m7
      exact r_zreturn hq isB_0 rfl rfl dX2_crosses_19
    · have m8 := h_if_f c3 m6
      clear m6
      refine r_iconst (v := 1) hw dX2_crosses_14 rfl ?_
      refine r_goto (tgt := 19) hw dX2_crosses_15 (by decide) ?_
      cases h_ret m8
      exact r_zreturn hq isB_1 rfl rfl dX2_crosses_19
theorem dX2_overfills_0 : decode cX2_overfills 0 = .ok (.aload_n 0, 1) := by decide +kernel
theorem dX2_overfills_1 : decode cX2_overfills 1 = .ok (.getfield 24, 3) := by decide +kernel
theorem dX2_overfills_4 : decode cX2_overfills 4 = .ok (.aload_n 0, 1) := by decide +kernel
theorem dX2_overfills_5 : decode cX2_overfills 5 = .ok (.getfield 27, 3) := by decide +kernel
theorem dX2_overfills_8 : decode cX2_overfills 8 = .ok (.invokestatic 46, 3) := by decide +kernel
theorem dX2_overfills_11 : decode cX2_overfills 11 = .ok (.iconst 2, 1) := by decide +kernel
theorem dX2_overfills_12 : decode cX2_overfills 12 = .ok (.iadd, 1) := by decide +kernel
theorem dX2_overfills_13 : decode cX2_overfills 13 = .ok (.bipush 16, 2) := by decide +kernel
theorem dX2_overfills_15 : decode cX2_overfills 15 = .ok (.if_icmp .le 7, 3) := by decide +kernel
theorem dX2_overfills_18 : decode cX2_overfills 18 = .ok (.iconst 1, 1) := by decide +kernel
theorem dX2_overfills_19 : decode cX2_overfills 19 = .ok (.goto 4, 3) := by decide +kernel
theorem dX2_overfills_22 : decode cX2_overfills 22 = .ok (.iconst 0, 1) := by decide +kernel
theorem dX2_overfills_23 : decode cX2_overfills 23 = .ok (.ireturn, 1) := by decide +kernel
set_option maxHeartbeats 4000000 in
set_option maxRecDepth 100000 in
theorem tX2_overfills (l : Launch) (G : Gg) (b0 : Nat) {K : Kk} {R : Rr} {M : Mm} {r : Nat} {res : Int32} (hm : mX2_overfills K R M r = some (res)) : CT l G b0 yX2_overfills cX2_overfills 1 (some .boolean) (rmz 2 21) [.ref r] K R M (some (.int res)) K R M := by
  refine ct_of (by decide +kernel) (Nat.le_of_ble_eq_true rfl) (fun w hq => ?_)
  have hw := hq.b
  change w 0 0 0 [(0, .ref r)] [] K R M
  replace hm := h_start hm
  unfold mX2_overfills at hm
  obtain ⟨h1, m3⟩ := h_ck hm
  clear hm
  refine r_aload_n hw dX2_overfills_0 0 rfl ?_
  refine r_getI hw fO_X2_24 h1 dX2_overfills_1 ?_
  refine r_aload_n hw dX2_overfills_4 0 rfl ?_
  refine r_getI hw fO_X2_27 h1 dX2_overfills_5 ?_
  refine r_mmax hw mL_X2_46 zM_max zM_in zM_maxc (Nat.le_of_ble_eq_true rfl) (Nat.le_of_ble_eq_true rfl) (Nat.zero_le _) (Nat.zero_le _) dX2_overfills_8 ?_
  refine r_iconst (v := 2) hw dX2_overfills_11 rfl ?_
  refine r_iadd hw dX2_overfills_12 ?_
  refine r_bipush (v := 16) hw dX2_overfills_13 rfl ?_
  refine r_icmp_le (tgt := 22) hw dX2_overfills_15 (by decide) (fun c2 => ?_) (fun c2 => ?_)
  · have m4 := h_if_t c2 m3
    clear m3
    refine r_iconst (v := 0) hw dX2_overfills_22 rfl ?_
    cases h_ret m4
    exact r_zreturn hq isB_0 rfl rfl dX2_overfills_23
  · have m5 := h_if_f c2 m3
    clear m3
    refine r_iconst (v := 1) hw dX2_overfills_18 rfl ?_
    refine r_goto (tgt := 23) hw dX2_overfills_19 (by decide) ?_
    cases h_ret m5
    exact r_zreturn hq isB_1 rfl rfl dX2_overfills_23
