theorem dX6_addSteps_0 : decode cX6_addSteps 0 = .ok (.aload_n 0, 1) := by decide +kernel
theorem dX6_addSteps_1 : decode cX6_addSteps 1 = .ok (.iload_n 1, 1) := by decide +kernel
theorem dX6_addSteps_2 : decode cX6_addSteps 2 = .ok (.iload_n 2, 1) := by decide +kernel
theorem dX6_addSteps_3 : decode cX6_addSteps 3 = .ok (.invokevirtual 55, 3) := by decide +kernel
theorem dX6_addSteps_6 : decode cX6_addSteps 6 = .ok (.istore 4, 2) := by decide +kernel
theorem dX6_addSteps_8 : decode cX6_addSteps 8 = .ok (.iload 4, 2) := by decide +kernel
theorem dX6_addSteps_10 : decode cX6_addSteps 10 = .ok (.aload_n 0, 1) := by decide +kernel
theorem dX6_addSteps_11 : decode cX6_addSteps 11 = .ok (.getfield 58, 3) := by decide +kernel
theorem dX6_addSteps_14 : decode cX6_addSteps 14 = .ok (.if_icmp .ge 40, 3) := by decide +kernel
theorem dX6_addSteps_17 : decode cX6_addSteps 17 = .ok (.aload_n 0, 1) := by decide +kernel
theorem dX6_addSteps_18 : decode cX6_addSteps 18 = .ok (.getfield 9, 3) := by decide +kernel
theorem dX6_addSteps_21 : decode cX6_addSteps 21 = .ok (.iload 4, 2) := by decide +kernel
theorem dX6_addSteps_23 : decode cX6_addSteps 23 = .ok (.iaload, 1) := by decide +kernel
theorem dX6_addSteps_24 : decode cX6_addSteps 24 = .ok (.iload_n 1, 1) := by decide +kernel
theorem dX6_addSteps_25 : decode cX6_addSteps 25 = .ok (.if_icmp .ne 29, 3) := by decide +kernel
theorem dX6_addSteps_28 : decode cX6_addSteps 28 = .ok (.aload_n 0, 1) := by decide +kernel
theorem dX6_addSteps_29 : decode cX6_addSteps 29 = .ok (.getfield 15, 3) := by decide +kernel
theorem dX6_addSteps_32 : decode cX6_addSteps 32 = .ok (.iload 4, 2) := by decide +kernel
theorem dX6_addSteps_34 : decode cX6_addSteps 34 = .ok (.iaload, 1) := by decide +kernel
theorem dX6_addSteps_35 : decode cX6_addSteps 35 = .ok (.iload_n 2, 1) := by decide +kernel
theorem dX6_addSteps_36 : decode cX6_addSteps 36 = .ok (.if_icmp .ne 18, 3) := by decide +kernel
theorem dX6_addSteps_39 : decode cX6_addSteps 39 = .ok (.aload_n 0, 1) := by decide +kernel
theorem dX6_addSteps_40 : decode cX6_addSteps 40 = .ok (.getfield 18, 3) := by decide +kernel
theorem dX6_addSteps_43 : decode cX6_addSteps 43 = .ok (.iload 4, 2) := by decide +kernel
theorem dX6_addSteps_45 : decode cX6_addSteps 45 = .ok (.dup2, 1) := by decide +kernel
theorem dX6_addSteps_46 : decode cX6_addSteps 46 = .ok (.laload, 1) := by decide +kernel
theorem dX6_addSteps_47 : decode cX6_addSteps 47 = .ok (.iload_n 3, 1) := by decide +kernel
theorem dX6_addSteps_48 : decode cX6_addSteps 48 = .ok (.i2l, 1) := by decide +kernel
theorem dX6_addSteps_49 : decode cX6_addSteps 49 = .ok (.ladd, 1) := by decide +kernel
theorem dX6_addSteps_50 : decode cX6_addSteps 50 = .ok (.lastore, 1) := by decide +kernel
theorem dX6_addSteps_51 : decode cX6_addSteps 51 = .ok (.goto 122, 3) := by decide +kernel
theorem dX6_addSteps_54 : decode cX6_addSteps 54 = .ok (.aload_n 0, 1) := by decide +kernel
theorem dX6_addSteps_55 : decode cX6_addSteps 55 = .ok (.getfield 58, 3) := by decide +kernel
theorem dX6_addSteps_58 : decode cX6_addSteps 58 = .ok (.aload_n 0, 1) := by decide +kernel
theorem dX6_addSteps_59 : decode cX6_addSteps 59 = .ok (.getfield 9, 3) := by decide +kernel
theorem dX6_addSteps_62 : decode cX6_addSteps 62 = .ok (.arraylength, 1) := by decide +kernel
theorem dX6_addSteps_63 : decode cX6_addSteps 63 = .ok (.if_icmp .ge 110, 3) := by decide +kernel
theorem dX6_addSteps_66 : decode cX6_addSteps 66 = .ok (.aload_n 0, 1) := by decide +kernel
theorem dX6_addSteps_67 : decode cX6_addSteps 67 = .ok (.getfield 9, 3) := by decide +kernel
theorem dX6_addSteps_70 : decode cX6_addSteps 70 = .ok (.iload 4, 2) := by decide +kernel
theorem dX6_addSteps_72 : decode cX6_addSteps 72 = .ok (.aload_n 0, 1) := by decide +kernel
theorem dX6_addSteps_73 : decode cX6_addSteps 73 = .ok (.getfield 9, 3) := by decide +kernel
theorem dX6_addSteps_76 : decode cX6_addSteps 76 = .ok (.iload 4, 2) := by decide +kernel
theorem dX6_addSteps_78 : decode cX6_addSteps 78 = .ok (.iconst 1, 1) := by decide +kernel
theorem dX6_addSteps_79 : decode cX6_addSteps 79 = .ok (.iadd, 1) := by decide +kernel
theorem dX6_addSteps_80 : decode cX6_addSteps 80 = .ok (.aload_n 0, 1) := by decide +kernel
theorem dX6_addSteps_81 : decode cX6_addSteps 81 = .ok (.getfield 58, 3) := by decide +kernel
theorem dX6_addSteps_84 : decode cX6_addSteps 84 = .ok (.iload 4, 2) := by decide +kernel
theorem dX6_addSteps_86 : decode cX6_addSteps 86 = .ok (.isub, 1) := by decide +kernel
theorem dX6_addSteps_87 : decode cX6_addSteps 87 = .ok (.invokestatic 59, 3) := by decide +kernel
theorem dX6_addSteps_90 : decode cX6_addSteps 90 = .ok (.aload_n 0, 1) := by decide +kernel
theorem dX6_addSteps_91 : decode cX6_addSteps 91 = .ok (.getfield 15, 3) := by decide +kernel
theorem dX6_addSteps_94 : decode cX6_addSteps 94 = .ok (.iload 4, 2) := by decide +kernel
theorem dX6_addSteps_96 : decode cX6_addSteps 96 = .ok (.aload_n 0, 1) := by decide +kernel
theorem dX6_addSteps_97 : decode cX6_addSteps 97 = .ok (.getfield 15, 3) := by decide +kernel
theorem dX6_addSteps_100 : decode cX6_addSteps 100 = .ok (.iload 4, 2) := by decide +kernel
theorem dX6_addSteps_102 : decode cX6_addSteps 102 = .ok (.iconst 1, 1) := by decide +kernel
theorem dX6_addSteps_103 : decode cX6_addSteps 103 = .ok (.iadd, 1) := by decide +kernel
theorem dX6_addSteps_104 : decode cX6_addSteps 104 = .ok (.aload_n 0, 1) := by decide +kernel
theorem dX6_addSteps_105 : decode cX6_addSteps 105 = .ok (.getfield 58, 3) := by decide +kernel
theorem dX6_addSteps_108 : decode cX6_addSteps 108 = .ok (.iload 4, 2) := by decide +kernel
theorem dX6_addSteps_110 : decode cX6_addSteps 110 = .ok (.isub, 1) := by decide +kernel
theorem dX6_addSteps_111 : decode cX6_addSteps 111 = .ok (.invokestatic 59, 3) := by decide +kernel
theorem dX6_addSteps_114 : decode cX6_addSteps 114 = .ok (.aload_n 0, 1) := by decide +kernel
theorem dX6_addSteps_115 : decode cX6_addSteps 115 = .ok (.getfield 18, 3) := by decide +kernel
theorem dX6_addSteps_118 : decode cX6_addSteps 118 = .ok (.iload 4, 2) := by decide +kernel
theorem dX6_addSteps_120 : decode cX6_addSteps 120 = .ok (.aload_n 0, 1) := by decide +kernel
theorem dX6_addSteps_121 : decode cX6_addSteps 121 = .ok (.getfield 18, 3) := by decide +kernel
theorem dX6_addSteps_124 : decode cX6_addSteps 124 = .ok (.iload 4, 2) := by decide +kernel
theorem dX6_addSteps_126 : decode cX6_addSteps 126 = .ok (.iconst 1, 1) := by decide +kernel
theorem dX6_addSteps_127 : decode cX6_addSteps 127 = .ok (.iadd, 1) := by decide +kernel
theorem dX6_addSteps_128 : decode cX6_addSteps 128 = .ok (.aload_n 0, 1) := by decide +kernel
theorem dX6_addSteps_129 : decode cX6_addSteps 129 = .ok (.getfield 58, 3) := by decide +kernel
theorem dX6_addSteps_132 : decode cX6_addSteps 132 = .ok (.iload 4, 2) := by decide +kernel
theorem dX6_addSteps_134 : decode cX6_addSteps 134 = .ok (.isub, 1) := by decide +kernel
theorem dX6_addSteps_135 : decode cX6_addSteps 135 = .ok (.invokestatic 59, 3) := by decide +kernel
theorem dX6_addSteps_138 : decode cX6_addSteps 138 = .ok (.aload_n 0, 1) := by decide +kernel
theorem dX6_addSteps_139 : decode cX6_addSteps 139 = .ok (.getfield 9, 3) := by decide +kernel
theorem dX6_addSteps_142 : decode cX6_addSteps 142 = .ok (.iload 4, 2) := by decide +kernel
theorem dX6_addSteps_144 : decode cX6_addSteps 144 = .ok (.iload_n 1, 1) := by decide +kernel
theorem dX6_addSteps_145 : decode cX6_addSteps 145 = .ok (.iastore, 1) := by decide +kernel
theorem dX6_addSteps_146 : decode cX6_addSteps 146 = .ok (.aload_n 0, 1) := by decide +kernel
theorem dX6_addSteps_147 : decode cX6_addSteps 147 = .ok (.getfield 15, 3) := by decide +kernel
theorem dX6_addSteps_150 : decode cX6_addSteps 150 = .ok (.iload 4, 2) := by decide +kernel
theorem dX6_addSteps_152 : decode cX6_addSteps 152 = .ok (.iload_n 2, 1) := by decide +kernel
theorem dX6_addSteps_153 : decode cX6_addSteps 153 = .ok (.iastore, 1) := by decide +kernel
theorem dX6_addSteps_154 : decode cX6_addSteps 154 = .ok (.aload_n 0, 1) := by decide +kernel
theorem dX6_addSteps_155 : decode cX6_addSteps 155 = .ok (.getfield 18, 3) := by decide +kernel
theorem dX6_addSteps_158 : decode cX6_addSteps 158 = .ok (.iload 4, 2) := by decide +kernel
theorem dX6_addSteps_160 : decode cX6_addSteps 160 = .ok (.iload_n 3, 1) := by decide +kernel
theorem dX6_addSteps_161 : decode cX6_addSteps 161 = .ok (.i2l, 1) := by decide +kernel
theorem dX6_addSteps_162 : decode cX6_addSteps 162 = .ok (.lastore, 1) := by decide +kernel
theorem dX6_addSteps_163 : decode cX6_addSteps 163 = .ok (.aload_n 0, 1) := by decide +kernel
theorem dX6_addSteps_164 : decode cX6_addSteps 164 = .ok (.dup, 1) := by decide +kernel
theorem dX6_addSteps_165 : decode cX6_addSteps 165 = .ok (.getfield 58, 3) := by decide +kernel
theorem dX6_addSteps_168 : decode cX6_addSteps 168 = .ok (.iconst 1, 1) := by decide +kernel
theorem dX6_addSteps_169 : decode cX6_addSteps 169 = .ok (.iadd, 1) := by decide +kernel
theorem dX6_addSteps_170 : decode cX6_addSteps 170 = .ok (.putfield 58, 3) := by decide +kernel
theorem dX6_addSteps_173 : decode cX6_addSteps 173 = .ok (.return_, 1) := by decide +kernel
set_option maxHeartbeats 4000000 in
set_option maxRecDepth 100000 in
theorem tX6_addSteps (l : Launch) (G : Gg) (b0 : Nat) {K : Kk} {R : Rr} {M : Mm} {r : Nat} {a0 : Int32} {a1 : Int32} {a2 : Int32} {M' : Mm} (hm : mX6_addSteps K R M r a0 a1 a2 = some (M')) : CT l G b0 yX6_addSteps cX6_addSteps 5 none (rmz 2 48) [.ref r, .int a0, .int a1, .int a2] K R M none K R M' := by
  refine ct_of (by decide +kernel) (Nat.le_of_ble_eq_true rfl) (fun w hq => ?_)
  have hw := hq.b
  change w 0 0 0 [(0, .ref r), (1, .int a0), (2, .int a1), (3, .int a2)] [] K R M
  replace hm := h_start hm
  unfold mX6_addSteps at hm
  obtain ⟨h1, m33⟩ := h_ck hm
  clear hm
  have J54 : ∀ (M3 : Mm) (i2 : Int32), (mX6_addSteps_J54 K R M3 r a0 a1 a2 i2).bind some = some (M') → w 0 0 54 [(0, .ref r), (1, .int a0), (2, .int a1), (3, .int a2), (4, .int i2)] [] K R M3 := by
    intro M3 i2 m34
    unfold mX6_addSteps_J54 at m34
    refine r_aload_n hw dX6_addSteps_54 0 rfl ?_
    refine r_getI hw fO_X6_58 h1 dX6_addSteps_55 ?_
    refine r_aload_n hw dX6_addSteps_58 0 rfl ?_
    obtain ⟨q4, bq4, m35⟩ := h_bd m34
    clear m34
    refine r_getR hw fO_X6_9 h1 bq4 dX6_addSteps_59 ?_
    obtain ⟨h5, m36⟩ := h_ck m35
    clear m35
    refine r_alen hw h5 dX6_addSteps_62 ?_
    refine r_icmp_ge (tgt := 173) hw dX6_addSteps_63 (by decide) (fun c6 => ?_) (fun c6 => ?_)
    · have m37 := h_if_f c6 m36
      clear m36
      cases h_ret m37
      exact r_return hq rfl rfl dX6_addSteps_173
    · have m38 := h_if_t c6 m36
      clear m36
      refine r_aload_n hw dX6_addSteps_66 0 rfl ?_
      refine r_getR hw fO_X6_9 h1 bq4 dX6_addSteps_67 ?_
      refine r_iload hw dX6_addSteps_70 4 rfl ?_
      refine r_aload_n hw dX6_addSteps_72 0 rfl ?_
      refine r_getR hw fO_X6_9 h1 bq4 dX6_addSteps_73 ?_
      refine r_iload hw dX6_addSteps_76 4 rfl ?_
      refine r_iconst (v := 1) hw dX6_addSteps_78 rfl ?_
      refine r_iadd hw dX6_addSteps_79 ?_
      refine r_aload_n hw dX6_addSteps_80 0 rfl ?_
      refine r_getI hw fO_X6_58 h1 dX6_addSteps_81 ?_
      refine r_iload hw dX6_addSteps_84 4 rfl ?_
      refine r_isub hw dX6_addSteps_86 ?_
      obtain ⟨h7, m39⟩ := h_ck m38
      clear m38
      obtain ⟨M8, eM8, m40⟩ := h_nm m39
      clear m39
      refine r_copyI hw mL_X6_59 zC_nat zC_st zC_in h7 (Nat.le_of_ble_eq_true rfl) (Nat.le_of_ble_eq_true rfl) dX6_addSteps_87 (r_mem ?_ rfl eM8)
      refine r_aload_n hw dX6_addSteps_90 0 rfl ?_
      obtain ⟨q9, bq9, m41⟩ := h_bd m40
      clear m40
      refine r_getR hw fO_X6_15 h1 bq9 dX6_addSteps_91 ?_
      refine r_iload hw dX6_addSteps_94 4 rfl ?_
      refine r_aload_n hw dX6_addSteps_96 0 rfl ?_
      refine r_getR hw fO_X6_15 h1 bq9 dX6_addSteps_97 ?_
      refine r_iload hw dX6_addSteps_100 4 rfl ?_
      refine r_iconst (v := 1) hw dX6_addSteps_102 rfl ?_
      refine r_iadd hw dX6_addSteps_103 ?_
      refine r_aload_n hw dX6_addSteps_104 0 rfl ?_
      refine r_getI hw fO_X6_58 h1 dX6_addSteps_105 ?_
      refine r_iload hw dX6_addSteps_108 4 rfl ?_
      refine r_isub hw dX6_addSteps_110 ?_
      obtain ⟨h10, m42⟩ := h_ck m41
      clear m41
      obtain ⟨M11, eM11, m43⟩ := h_nm m42
      clear m42
      refine r_copyI hw mL_X6_59 zC_nat zC_st zC_in h10 (Nat.le_of_ble_eq_true rfl) (Nat.le_of_ble_eq_true rfl) dX6_addSteps_111 (r_mem ?_ rfl eM11)
      refine r_aload_n hw dX6_addSteps_114 0 rfl ?_
      obtain ⟨q12, bq12, m44⟩ := h_bd m43
      clear m43
      refine r_getR hw fO_X6_18 h1 bq12 dX6_addSteps_115 ?_
      refine r_iload hw dX6_addSteps_118 4 rfl ?_
      refine r_aload_n hw dX6_addSteps_120 0 rfl ?_
      refine r_getR hw fO_X6_18 h1 bq12 dX6_addSteps_121 ?_
      refine r_iload hw dX6_addSteps_124 4 rfl ?_
      refine r_iconst (v := 1) hw dX6_addSteps_126 rfl ?_
      refine r_iadd hw dX6_addSteps_127 ?_
      refine r_aload_n hw dX6_addSteps_128 0 rfl ?_
      refine r_getI hw fO_X6_58 h1 dX6_addSteps_129 ?_
      refine r_iload hw dX6_addSteps_132 4 rfl ?_
      refine r_isub hw dX6_addSteps_134 ?_
      obtain ⟨h13, m45⟩ := h_ck m44
      clear m44
      obtain ⟨M14, eM14, m46⟩ := h_nm m45
      clear m45
      refine r_copyL hw mL_X6_59 zC_nat zC_st zC_in h13 (Nat.le_of_ble_eq_true rfl) (Nat.le_of_ble_eq_true rfl) dX6_addSteps_135 (r_mem ?_ rfl eM14)
      refine r_aload_n hw dX6_addSteps_138 0 rfl ?_
      refine r_getR hw fO_X6_9 h1 bq4 dX6_addSteps_139 ?_
      refine r_iload hw dX6_addSteps_142 4 rfl ?_
      refine r_iload_n hw dX6_addSteps_144 1 rfl ?_
      obtain ⟨h15, m47⟩ := h_ck m46
      clear m46
      obtain ⟨M16, eM16, m48⟩ := h_nm m47
      clear m47
      refine r_iastore hw h15 dX6_addSteps_145 (r_mem ?_ rfl eM16)
      refine r_aload_n hw dX6_addSteps_146 0 rfl ?_
      refine r_getR hw fO_X6_15 h1 bq9 dX6_addSteps_147 ?_
      refine r_iload hw dX6_addSteps_150 4 rfl ?_
      refine r_iload_n hw dX6_addSteps_152 2 rfl ?_
      obtain ⟨h17, m49⟩ := h_ck m48
      clear m48
      obtain ⟨M18, eM18, m50⟩ := h_nm m49
      clear m49
      refine r_iastore hw h17 dX6_addSteps_153 (r_mem ?_ rfl eM18)
      refine r_aload_n hw dX6_addSteps_154 0 rfl ?_
      refine r_getR hw fO_X6_18 h1 bq12 dX6_addSteps_155 ?_
      refine r_iload hw dX6_addSteps_158 4 rfl ?_
      refine r_iload_n hw dX6_addSteps_160 3 rfl ?_
      refine r_i2l hw dX6_addSteps_161 ?_
      obtain ⟨h19, m51⟩ := h_ck m50
      clear m50
      obtain ⟨M20, eM20, m52⟩ := h_nm m51
      clear m51
      refine r_lastore hw h19 dX6_addSteps_162 (r_mem ?_ rfl eM20)
      refine r_aload_n hw dX6_addSteps_163 0 rfl ?_
      refine r_dup hw dX6_addSteps_164 rfl ?_
      refine r_getI hw fO_X6_58 h1 dX6_addSteps_165 ?_
      refine r_iconst (v := 1) hw dX6_addSteps_168 rfl ?_
      refine r_iadd hw dX6_addSteps_169 ?_
      obtain ⟨M21, eM21, m53⟩ := h_nm m52
      clear m52
      refine r_putI hw fP_X6_58 h1 dX6_addSteps_170 (r_mem ?_ rfl eM21)
      cases h_ret m53
      exact r_return hq rfl rfl dX6_addSteps_173
  refine r_aload_n hw dX6_addSteps_0 0 rfl ?_
  refine r_iload_n hw dX6_addSteps_1 1 rfl ?_
  refine r_iload_n hw dX6_addSteps_2 2 rfl ?_
  obtain ⟨i22, g22, m54⟩ := h_bd m33
  clear m33
  refine r_callV1 hw (tX6_firstNotBelow l G b0 g22) lB_X6_firstNotBelow lI_X6_firstNotBelow mL_X6_55 (c := 6) rfl h1 rfl (Nat.le_of_ble_eq_true rfl) (Nat.le_of_ble_eq_true rfl) rfl (Nat.le_of_ble_eq_true rfl) dX6_addSteps_3 ?_
  refine r_istore hw dX6_addSteps_6 (by decide) rfl ?_
  refine r_iload hw dX6_addSteps_8 0 rfl ?_
  refine r_aload_n hw dX6_addSteps_10 1 rfl ?_
  refine r_getI hw fO_X6_58 h1 dX6_addSteps_11 ?_
  refine r_icmp_ge (tgt := 54) hw dX6_addSteps_14 (by decide) (fun c23 => ?_) (fun c23 => ?_)
  · have m55 := h_if_f c23 m54
    clear m54
    refine r_sub hw [1, 2, 3, 4, 0] rfl ?_
    exact J54 _ _ m55
  · have m56 := h_if_t c23 m54
    clear m54
    refine r_aload_n hw dX6_addSteps_17 1 rfl ?_
    obtain ⟨q24, bq24, m57⟩ := h_bd m56
    clear m56
    refine r_getR hw fO_X6_9 h1 bq24 dX6_addSteps_18 ?_
    refine r_iload hw dX6_addSteps_21 0 rfl ?_
    obtain ⟨h25, m58⟩ := h_ck m57
    clear m57
    refine r_iaload hw h25 dX6_addSteps_23 ?_
    refine r_iload_n hw dX6_addSteps_24 2 rfl ?_
    refine r_icmp_ne (tgt := 54) hw dX6_addSteps_25 (by decide) (fun c26 => ?_) (fun c26 => ?_)
    · have m59 := h_if_f c26 m58
      clear m58
      refine r_sub hw [1, 2, 3, 4, 0] rfl ?_
      exact J54 _ _ m59
    · have m60 := h_if_t c26 m58
      clear m58
      refine r_aload_n hw dX6_addSteps_28 1 rfl ?_
      obtain ⟨q27, bq27, m61⟩ := h_bd m60
      clear m60
      refine r_getR hw fO_X6_15 h1 bq27 dX6_addSteps_29 ?_
      refine r_iload hw dX6_addSteps_32 0 rfl ?_
      obtain ⟨h28, m62⟩ := h_ck m61
      clear m61
      refine r_iaload hw h28 dX6_addSteps_34 ?_
      refine r_iload_n hw dX6_addSteps_35 3 rfl ?_
      refine r_icmp_ne (tgt := 54) hw dX6_addSteps_36 (by decide) (fun c29 => ?_) (fun c29 => ?_)
      · have m63 := h_if_f c29 m62
        clear m62
        refine r_sub hw [1, 2, 3, 4, 0] rfl ?_
        exact J54 _ _ m63
      · have m64 := h_if_t c29 m62
        clear m62
        refine r_aload_n hw dX6_addSteps_39 1 rfl ?_
        obtain ⟨q30, bq30, m65⟩ := h_bd m64
        clear m64
        refine r_getR hw fO_X6_18 h1 bq30 dX6_addSteps_40 ?_
        refine r_iload hw dX6_addSteps_43 0 rfl ?_
        refine r_dup2 hw dX6_addSteps_45 rfl rfl ?_
        obtain ⟨h31, m66⟩ := h_ck m65
        clear m65
        refine r_laload hw h31 dX6_addSteps_46 ?_
        refine r_iload_n hw dX6_addSteps_47 4 rfl ?_
        refine r_i2l hw dX6_addSteps_48 ?_
        refine r_ladd hw dX6_addSteps_49 ?_
        obtain ⟨M32, eM32, m67⟩ := h_nm m66
        clear m66
        refine r_lastore hw h31 dX6_addSteps_50 (r_mem ?_ rfl eM32)
        refine r_goto (tgt := 173) hw dX6_addSteps_51 (by decide) ?_
        cases h_ret m67
        exact r_return hq rfl rfl dX6_addSteps_173
theorem dX6_addSide_0 : decode cX6_addSide 0 = .ok (.iload_n 1, 1) := by decide +kernel
theorem dX6_addSide_1 : decode cX6_addSide 1 = .ok (.invokestatic 42, 3) := by decide +kernel
theorem dX6_addSide_4 : decode cX6_addSide 4 = .ok (.iload_n 2, 1) := by decide +kernel
theorem dX6_addSide_5 : decode cX6_addSide 5 = .ok (.invokestatic 42, 3) := by decide +kernel
theorem dX6_addSide_8 : decode cX6_addSide 8 = .ok (.invokestatic 47, 3) := by decide +kernel
theorem dX6_addSide_11 : decode cX6_addSide 11 = .ok (.istore_n 3, 1) := by decide +kernel
theorem dX6_addSide_12 : decode cX6_addSide 12 = .ok (.iload_n 3, 1) := by decide +kernel
theorem dX6_addSide_13 : decode cX6_addSide 13 = .ok (.ifCond .ne 4, 3) := by decide +kernel
theorem dX6_addSide_16 : decode cX6_addSide 16 = .ok (.return_, 1) := by decide +kernel
theorem dX6_addSide_17 : decode cX6_addSide 17 = .ok (.iload_n 1, 1) := by decide +kernel
theorem dX6_addSide_18 : decode cX6_addSide 18 = .ok (.ifCond .gt 11, 3) := by decide +kernel
theorem dX6_addSide_21 : decode cX6_addSide 21 = .ok (.iload_n 1, 1) := by decide +kernel
theorem dX6_addSide_22 : decode cX6_addSide 22 = .ok (.ifCond .ne 21, 3) := by decide +kernel
theorem dX6_addSide_25 : decode cX6_addSide 25 = .ok (.iload_n 2, 1) := by decide +kernel
theorem dX6_addSide_26 : decode cX6_addSide 26 = .ok (.ifCond .le 17, 3) := by decide +kernel
theorem dX6_addSide_29 : decode cX6_addSide 29 = .ok (.aload_n 0, 1) := by decide +kernel
theorem dX6_addSide_30 : decode cX6_addSide 30 = .ok (.iload_n 1, 1) := by decide +kernel
theorem dX6_addSide_31 : decode cX6_addSide 31 = .ok (.iload_n 3, 1) := by decide +kernel
theorem dX6_addSide_32 : decode cX6_addSide 32 = .ok (.idiv, 1) := by decide +kernel
theorem dX6_addSide_33 : decode cX6_addSide 33 = .ok (.iload_n 2, 1) := by decide +kernel
theorem dX6_addSide_34 : decode cX6_addSide 34 = .ok (.iload_n 3, 1) := by decide +kernel
theorem dX6_addSide_35 : decode cX6_addSide 35 = .ok (.idiv, 1) := by decide +kernel
theorem dX6_addSide_36 : decode cX6_addSide 36 = .ok (.iload_n 3, 1) := by decide +kernel
theorem dX6_addSide_37 : decode cX6_addSide 37 = .ok (.invokevirtual 51, 3) := by decide +kernel
theorem dX6_addSide_40 : decode cX6_addSide 40 = .ok (.goto 17, 3) := by decide +kernel
theorem dX6_addSide_43 : decode cX6_addSide 43 = .ok (.aload_n 0, 1) := by decide +kernel
theorem dX6_addSide_44 : decode cX6_addSide 44 = .ok (.iload_n 1, 1) := by decide +kernel
theorem dX6_addSide_45 : decode cX6_addSide 45 = .ok (.ineg, 1) := by decide +kernel
theorem dX6_addSide_46 : decode cX6_addSide 46 = .ok (.iload_n 3, 1) := by decide +kernel
theorem dX6_addSide_47 : decode cX6_addSide 47 = .ok (.idiv, 1) := by decide +kernel
theorem dX6_addSide_48 : decode cX6_addSide 48 = .ok (.iload_n 2, 1) := by decide +kernel
theorem dX6_addSide_49 : decode cX6_addSide 49 = .ok (.ineg, 1) := by decide +kernel
theorem dX6_addSide_50 : decode cX6_addSide 50 = .ok (.iload_n 3, 1) := by decide +kernel
theorem dX6_addSide_51 : decode cX6_addSide 51 = .ok (.idiv, 1) := by decide +kernel
theorem dX6_addSide_52 : decode cX6_addSide 52 = .ok (.iload_n 3, 1) := by decide +kernel
theorem dX6_addSide_53 : decode cX6_addSide 53 = .ok (.ineg, 1) := by decide +kernel
theorem dX6_addSide_54 : decode cX6_addSide 54 = .ok (.invokevirtual 51, 3) := by decide +kernel
theorem dX6_addSide_57 : decode cX6_addSide 57 = .ok (.return_, 1) := by decide +kernel
set_option maxHeartbeats 4000000 in
set_option maxRecDepth 100000 in
theorem tX6_addSide (l : Launch) (G : Gg) (b0 : Nat) {K : Kk} {R : Rr} {M : Mm} {r : Nat} {a0 : Int32} {a1 : Int32} {M' : Mm} (hm : mX6_addSide K R M r a0 a1 = some (M')) : CT l G b0 yX6_addSide cX6_addSide 4 none (rmz 3 72) [.ref r, .int a0, .int a1] K R M none K R M' := by
  refine ct_of (by decide +kernel) (Nat.le_of_ble_eq_true rfl) (fun w hq => ?_)
  have hw := hq.b
  change w 0 0 0 [(0, .ref r), (1, .int a0), (2, .int a1)] [] K R M
  replace hm := h_start hm
  unfold mX6_addSide at hm
  obtain ⟨h1, m15⟩ := h_ck hm
  clear hm
  have J43 : ∀ (M3 : Mm) (i2 : Int32), (mX6_addSide_J43 K R M3 r a0 a1 i2).bind some = some (M') → w 0 0 43 [(0, .ref r), (1, .int a0), (2, .int a1), (3, .int i2)] [] K R M3 := by
    intro M3 i2 m16
    unfold mX6_addSide_J43 at m16
    refine r_aload_n hw dX6_addSide_43 0 rfl ?_
    refine r_iload_n hw dX6_addSide_44 1 rfl ?_
    refine r_ineg hw dX6_addSide_45 ?_
    refine r_iload_n hw dX6_addSide_46 3 rfl ?_
    obtain ⟨h4, m17⟩ := h_ck m16
    clear m16
    refine r_idiv hw dX6_addSide_47 h4 ?_
    refine r_iload_n hw dX6_addSide_48 2 rfl ?_
    refine r_ineg hw dX6_addSide_49 ?_
    refine r_iload_n hw dX6_addSide_50 3 rfl ?_
    refine r_idiv hw dX6_addSide_51 h4 ?_
    refine r_iload_n hw dX6_addSide_52 3 rfl ?_
    refine r_ineg hw dX6_addSide_53 ?_
    obtain ⟨M5, g5, m18⟩ := h_bd m17
    clear m17
    refine r_callV0 hw (tX6_addSteps l G b0 g5) lB_X6_addSteps lI_X6_addSteps mL_X6_51 (c := 6) rfl h1 rfl (Nat.le_of_ble_eq_true rfl) (Nat.le_of_ble_eq_true rfl) rfl (Nat.le_of_ble_eq_true rfl) dX6_addSide_54 ?_
    cases h_ret m18
    exact r_return hq rfl rfl dX6_addSide_57
  have J29 : ∀ (M7 : Mm) (i6 : Int32), (mX6_addSide_J29 K R M7 r a0 a1 i6).bind some = some (M') → w 0 0 29 [(0, .ref r), (1, .int a0), (2, .int a1), (3, .int i6)] [] K R M7 := by
    intro M7 i6 m19
    unfold mX6_addSide_J29 at m19
    refine r_aload_n hw dX6_addSide_29 0 rfl ?_
    refine r_iload_n hw dX6_addSide_30 1 rfl ?_
    refine r_iload_n hw dX6_addSide_31 3 rfl ?_
    obtain ⟨h8, m20⟩ := h_ck m19
    clear m19
    refine r_idiv hw dX6_addSide_32 h8 ?_
    refine r_iload_n hw dX6_addSide_33 2 rfl ?_
    refine r_iload_n hw dX6_addSide_34 3 rfl ?_
    refine r_idiv hw dX6_addSide_35 h8 ?_
    refine r_iload_n hw dX6_addSide_36 3 rfl ?_
    obtain ⟨M9, g9, m21⟩ := h_bd m20
    clear m20
    refine r_callV0 hw (tX6_addSteps l G b0 g9) lB_X6_addSteps lI_X6_addSteps mL_X6_51 (c := 6) rfl h1 rfl (Nat.le_of_ble_eq_true rfl) (Nat.le_of_ble_eq_true rfl) rfl (Nat.le_of_ble_eq_true rfl) dX6_addSide_37 ?_
    refine r_goto (tgt := 57) hw dX6_addSide_40 (by decide) ?_
    cases h_ret m21
    exact r_return hq rfl rfl dX6_addSide_57
  refine r_iload_n hw dX6_addSide_0 1 rfl ?_
  refine r_mabs hw mL_X6_42 zM_abs zM_in zM_absc (Nat.le_of_ble_eq_true rfl) (Nat.le_of_ble_eq_true rfl) (Nat.zero_le _) (Nat.zero_le _) dX6_addSide_1 ?_
  refine r_iload_n hw dX6_addSide_4 2 rfl ?_
  refine r_mabs hw mL_X6_42 zM_abs zM_in zM_absc (Nat.le_of_ble_eq_true rfl) (Nat.le_of_ble_eq_true rfl) (Nat.zero_le _) (Nat.zero_le _) dX6_addSide_5 ?_
  obtain ⟨i10, g10, m22⟩ := h_bd m15
  clear m15
  refine r_callS1 hw (tX6_greatestDivisor l G b0 g10) lB_X6_greatestDivisor sT_X6_greatestDivisor mL_X6_47 rfl rfl (Nat.le_of_ble_eq_true rfl) (Nat.le_of_ble_eq_true rfl) rfl (Nat.le_of_ble_eq_true rfl) dX6_addSide_8 ?_
  refine r_istore_n hw dX6_addSide_11 rfl (by decide) rfl ?_
  refine r_iload_n hw dX6_addSide_12 0 rfl ?_
  refine r_if_ne (tgt := 17) hw dX6_addSide_13 (by decide) (fun c11 => ?_) (fun c11 => ?_)
  · have m23 := h_if_f c11 m22
    clear m22
    refine r_iload_n hw dX6_addSide_17 2 rfl ?_
    refine r_if_gt (tgt := 29) hw dX6_addSide_18 (by decide) (fun c12 => ?_) (fun c12 => ?_)
    · have m24 := h_if_f c12 m23
      clear m23
      refine r_sub hw [1, 2, 3, 0] rfl ?_
      exact J29 _ _ m24
    · have m25 := h_if_t c12 m23
      clear m23
      refine r_iload_n hw dX6_addSide_21 2 rfl ?_
      refine r_if_ne (tgt := 43) hw dX6_addSide_22 (by decide) (fun c13 => ?_) (fun c13 => ?_)
      · have m26 := h_if_f c13 m25
        clear m25
        refine r_sub hw [1, 2, 3, 0] rfl ?_
        exact J43 _ _ m26
      · have m27 := h_if_t c13 m25
        clear m25
        refine r_iload_n hw dX6_addSide_25 3 rfl ?_
        refine r_if_le (tgt := 43) hw dX6_addSide_26 (by decide) (fun c14 => ?_) (fun c14 => ?_)
        · have m28 := h_if_t c14 m27
          clear m27
          refine r_sub hw [1, 2, 3, 0] rfl ?_
          exact J43 _ _ m28
        · have m29 := h_if_f c14 m27
          clear m27
          refine r_sub hw [1, 2, 3, 0] rfl ?_
          exact J29 _ _ m29
  · have m30 := h_if_t c11 m22
    clear m22
    cases h_ret m30
    exact r_return hq rfl rfl dX6_addSide_16
theorem dX6_addSides_0 : decode cX6_addSides 0 = .ok (.iconst 0, 1) := by decide +kernel
theorem dX6_addSides_1 : decode cX6_addSides 1 = .ok (.istore_n 2, 1) := by decide +kernel
theorem dX6_addSides_2 : decode cX6_addSides 2 = .ok (.iload_n 2, 1) := by decide +kernel
theorem dX6_addSides_3 : decode cX6_addSides 3 = .ok (.aload_n 1, 1) := by decide +kernel
theorem dX6_addSides_4 : decode cX6_addSides 4 = .ok (.getfield 22, 3) := by decide +kernel
theorem dX6_addSides_7 : decode cX6_addSides 7 = .ok (.if_icmp .ge 47, 3) := by decide +kernel
theorem dX6_addSides_10 : decode cX6_addSides 10 = .ok (.aload_n 1, 1) := by decide +kernel
theorem dX6_addSides_11 : decode cX6_addSides 11 = .ok (.iload_n 2, 1) := by decide +kernel
theorem dX6_addSides_12 : decode cX6_addSides 12 = .ok (.iconst 1, 1) := by decide +kernel
theorem dX6_addSides_13 : decode cX6_addSides 13 = .ok (.iadd, 1) := by decide +kernel
theorem dX6_addSides_14 : decode cX6_addSides 14 = .ok (.invokevirtual 28, 3) := by decide +kernel
theorem dX6_addSides_17 : decode cX6_addSides 17 = .ok (.istore_n 3, 1) := by decide +kernel
theorem dX6_addSides_18 : decode cX6_addSides 18 = .ok (.aload_n 0, 1) := by decide +kernel
theorem dX6_addSides_19 : decode cX6_addSides 19 = .ok (.aload_n 1, 1) := by decide +kernel
theorem dX6_addSides_20 : decode cX6_addSides 20 = .ok (.getfield 32, 3) := by decide +kernel
theorem dX6_addSides_23 : decode cX6_addSides 23 = .ok (.iload_n 3, 1) := by decide +kernel
theorem dX6_addSides_24 : decode cX6_addSides 24 = .ok (.iaload, 1) := by decide +kernel
theorem dX6_addSides_25 : decode cX6_addSides 25 = .ok (.aload_n 1, 1) := by decide +kernel
theorem dX6_addSides_26 : decode cX6_addSides 26 = .ok (.getfield 32, 3) := by decide +kernel
theorem dX6_addSides_29 : decode cX6_addSides 29 = .ok (.iload_n 2, 1) := by decide +kernel
theorem dX6_addSides_30 : decode cX6_addSides 30 = .ok (.iaload, 1) := by decide +kernel
theorem dX6_addSides_31 : decode cX6_addSides 31 = .ok (.isub, 1) := by decide +kernel
theorem dX6_addSides_32 : decode cX6_addSides 32 = .ok (.aload_n 1, 1) := by decide +kernel
theorem dX6_addSides_33 : decode cX6_addSides 33 = .ok (.getfield 35, 3) := by decide +kernel
theorem dX6_addSides_36 : decode cX6_addSides 36 = .ok (.iload_n 3, 1) := by decide +kernel
theorem dX6_addSides_37 : decode cX6_addSides 37 = .ok (.iaload, 1) := by decide +kernel
theorem dX6_addSides_38 : decode cX6_addSides 38 = .ok (.aload_n 1, 1) := by decide +kernel
theorem dX6_addSides_39 : decode cX6_addSides 39 = .ok (.getfield 35, 3) := by decide +kernel
theorem dX6_addSides_42 : decode cX6_addSides 42 = .ok (.iload_n 2, 1) := by decide +kernel
theorem dX6_addSides_43 : decode cX6_addSides 43 = .ok (.iaload, 1) := by decide +kernel
theorem dX6_addSides_44 : decode cX6_addSides 44 = .ok (.isub, 1) := by decide +kernel
theorem dX6_addSides_45 : decode cX6_addSides 45 = .ok (.invokevirtual 38, 3) := by decide +kernel
theorem dX6_addSides_48 : decode cX6_addSides 48 = .ok (.iinc 2 1, 3) := by decide +kernel
theorem dX6_addSides_51 : decode cX6_addSides 51 = .ok (.goto (-49), 3) := by decide +kernel
theorem dX6_addSides_54 : decode cX6_addSides 54 = .ok (.return_, 1) := by decide +kernel
set_option maxHeartbeats 4000000 in
set_option maxRecDepth 100000 in
theorem tX6_addSides (l : Launch) (G : Gg) (b0 : Nat) {K : Kk} {R : Rr} {M : Mm} {r : Nat} {a0 : Nat} {M' : Mm} (hm : mX6_addSides K R M r a0 = some (M')) : CT l G b0 yX6_addSides cX6_addSides 4 none (rmz 4 95) [.ref r, .ref a0] K R M none K R M' := by
  refine ct_of (by decide +kernel) (Nat.le_of_ble_eq_true rfl) (fun w hq => ?_)
  have hw := hq.b
  change w 0 0 0 [(0, .ref r), (1, .ref a0)] [] K R M
  replace hm := h_start hm
  unfold mX6_addSides at hm
  obtain ⟨h1, m16⟩ := h_ck hm
  clear hm
  obtain ⟨h2, m17⟩ := h_ck m16
  clear m16
  refine r_iconst (v := 0) hw dX6_addSides_0 rfl ?_
  obtain ⟨i3, ei3, m18⟩ := h_nm m17
  clear m17
  refine r_topI (w := w) ei3 ?_
  refine r_istore_n hw dX6_addSides_1 rfl (by decide) rfl ?_
  refine r_sub hw [1, 2, 0] rfl ?_
  obtain ⟨v2, n02, hn2, hv2⟩ := h_lp m18
  clear m18
  have L2 : ∀ n : Nat, ∀ (i4 : Int32) (M5 : Mm), it (mX6_addSides_L2 K R r a0) n (i4, M5) = some v2 → w 0 0 2 [(0, .ref r), (1, .ref a0), (2, .int i4)] [] K R M5 := by
    intro n2
    induction n2 with
    | zero => intro i4 M5 hz; exact absurd hz h_it0
    | succ n2 ih2 =>
      intro i4 M5 m19
      replace m19 : (mX6_addSides_B2 K R r a0 i4 M5).bind (Sum.elim (it (mX6_addSides_L2 K R r a0) n2) some) = some v2 := m19
      unfold mX6_addSides_B2 at m19
      refine r_iload_n hw dX6_addSides_2 2 rfl ?_
      refine r_aload_n hw dX6_addSides_3 1 rfl ?_
      refine r_getI hw fO_X6_22 h2 dX6_addSides_4 ?_
      refine r_icmp_ge (tgt := 54) hw dX6_addSides_7 (by decide) (fun c6 => ?_) (fun c6 => ?_)
      · have m20 := h_if_f c6 m19
        clear m19
        have m21 := h_ex m20 hv2
        clear m20
        cases h_ret m21
        exact r_return hq rfl rfl dX6_addSides_54
      · have m22 := h_if_t c6 m19
        clear m19
        refine r_aload_n hw dX6_addSides_10 1 rfl ?_
        refine r_iload_n hw dX6_addSides_11 2 rfl ?_
        refine r_iconst (v := 1) hw dX6_addSides_12 rfl ?_
        refine r_iadd hw dX6_addSides_13 ?_
        obtain ⟨i7, g7, m23⟩ := h_bd m22
        clear m22
        refine r_callV1 hw (tX5_wrap l G b0 g7) lB_X5_wrap lI_X5_wrap mL_X6_28 (c := 5) rfl h2 rfl (Nat.le_of_ble_eq_true rfl) (Nat.le_of_ble_eq_true rfl) rfl (Nat.le_of_ble_eq_true rfl) dX6_addSides_14 ?_
        refine r_istore_n hw dX6_addSides_17 rfl (by decide) rfl ?_
        refine r_aload_n hw dX6_addSides_18 1 rfl ?_
        refine r_aload_n hw dX6_addSides_19 2 rfl ?_
        obtain ⟨q8, bq8, m24⟩ := h_bd m23
        clear m23
        refine r_getR hw fO_X6_32 h2 bq8 dX6_addSides_20 ?_
        refine r_iload_n hw dX6_addSides_23 0 rfl ?_
        obtain ⟨h9, m25⟩ := h_ck m24
        clear m24
        refine r_iaload hw h9 dX6_addSides_24 ?_
        refine r_aload_n hw dX6_addSides_25 2 rfl ?_
        refine r_getR hw fO_X6_32 h2 bq8 dX6_addSides_26 ?_
        refine r_iload_n hw dX6_addSides_29 3 rfl ?_
        obtain ⟨h10, m26⟩ := h_ck m25
        clear m25
        refine r_iaload hw h10 dX6_addSides_30 ?_
        refine r_isub hw dX6_addSides_31 ?_
        refine r_aload_n hw dX6_addSides_32 2 rfl ?_
        obtain ⟨q11, bq11, m27⟩ := h_bd m26
        clear m26
        refine r_getR hw fO_X6_35 h2 bq11 dX6_addSides_33 ?_
        refine r_iload_n hw dX6_addSides_36 0 rfl ?_
        obtain ⟨h12, m28⟩ := h_ck m27
        clear m27
        refine r_iaload hw h12 dX6_addSides_37 ?_
        refine r_aload_n hw dX6_addSides_38 2 rfl ?_
        refine r_getR hw fO_X6_35 h2 bq11 dX6_addSides_39 ?_
        refine r_iload_n hw dX6_addSides_42 3 rfl ?_
        obtain ⟨h13, m29⟩ := h_ck m28
        clear m28
        refine r_iaload hw h13 dX6_addSides_43 ?_
        refine r_isub hw dX6_addSides_44 ?_
        obtain ⟨M14, g14, m30⟩ := h_bd m29
        clear m29
        refine r_callV0 hw (tX6_addSide l G b0 g14) lB_X6_addSide lI_X6_addSide mL_X6_38 (c := 6) rfl h1 rfl (Nat.le_of_ble_eq_true rfl) (Nat.le_of_ble_eq_true rfl) rfl (Nat.le_of_ble_eq_true rfl) dX6_addSides_45 ?_
        obtain ⟨i15, ei15, m31⟩ := h_nm m30
        clear m30
        refine r_iinc (j := 3) (v := i15) hw dX6_addSides_48 rfl (by rw [ei15]; rfl) (by decide) rfl ?_
        refine r_goto (tgt := 2) hw dX6_addSides_51 (by decide) ?_
        refine r_sub hw [2, 3, 0] rfl ?_
        exact ih2 _ _ m31
  exact L2 n02 _ _ hn2
theorem dX6_leaveOutZeros_0 : decode cX6_leaveOutZeros 0 = .ok (.iconst 0, 1) := by decide +kernel
theorem dX6_leaveOutZeros_1 : decode cX6_leaveOutZeros 1 = .ok (.istore_n 1, 1) := by decide +kernel
theorem dX6_leaveOutZeros_2 : decode cX6_leaveOutZeros 2 = .ok (.iconst 0, 1) := by decide +kernel
theorem dX6_leaveOutZeros_3 : decode cX6_leaveOutZeros 3 = .ok (.istore_n 2, 1) := by decide +kernel
theorem dX6_leaveOutZeros_4 : decode cX6_leaveOutZeros 4 = .ok (.iload_n 2, 1) := by decide +kernel
theorem dX6_leaveOutZeros_5 : decode cX6_leaveOutZeros 5 = .ok (.aload_n 0, 1) := by decide +kernel
theorem dX6_leaveOutZeros_6 : decode cX6_leaveOutZeros 6 = .ok (.getfield 58, 3) := by decide +kernel
theorem dX6_leaveOutZeros_9 : decode cX6_leaveOutZeros 9 = .ok (.if_icmp .ge 59, 3) := by decide +kernel
theorem dX6_leaveOutZeros_12 : decode cX6_leaveOutZeros 12 = .ok (.aload_n 0, 1) := by decide +kernel
theorem dX6_leaveOutZeros_13 : decode cX6_leaveOutZeros 13 = .ok (.getfield 18, 3) := by decide +kernel
theorem dX6_leaveOutZeros_16 : decode cX6_leaveOutZeros 16 = .ok (.iload_n 2, 1) := by decide +kernel
theorem dX6_leaveOutZeros_17 : decode cX6_leaveOutZeros 17 = .ok (.laload, 1) := by decide +kernel
theorem dX6_leaveOutZeros_18 : decode cX6_leaveOutZeros 18 = .ok (.lconst 0, 1) := by decide +kernel
theorem dX6_leaveOutZeros_19 : decode cX6_leaveOutZeros 19 = .ok (.lcmp, 1) := by decide +kernel
theorem dX6_leaveOutZeros_20 : decode cX6_leaveOutZeros 20 = .ok (.ifCond .eq 42, 3) := by decide +kernel
theorem dX6_leaveOutZeros_23 : decode cX6_leaveOutZeros 23 = .ok (.aload_n 0, 1) := by decide +kernel
theorem dX6_leaveOutZeros_24 : decode cX6_leaveOutZeros 24 = .ok (.getfield 9, 3) := by decide +kernel
theorem dX6_leaveOutZeros_27 : decode cX6_leaveOutZeros 27 = .ok (.iload_n 1, 1) := by decide +kernel
theorem dX6_leaveOutZeros_28 : decode cX6_leaveOutZeros 28 = .ok (.aload_n 0, 1) := by decide +kernel
theorem dX6_leaveOutZeros_29 : decode cX6_leaveOutZeros 29 = .ok (.getfield 9, 3) := by decide +kernel
theorem dX6_leaveOutZeros_32 : decode cX6_leaveOutZeros 32 = .ok (.iload_n 2, 1) := by decide +kernel
theorem dX6_leaveOutZeros_33 : decode cX6_leaveOutZeros 33 = .ok (.iaload, 1) := by decide +kernel
theorem dX6_leaveOutZeros_34 : decode cX6_leaveOutZeros 34 = .ok (.iastore, 1) := by decide +kernel
theorem dX6_leaveOutZeros_35 : decode cX6_leaveOutZeros 35 = .ok (.aload_n 0, 1) := by decide +kernel
theorem dX6_leaveOutZeros_36 : decode cX6_leaveOutZeros 36 = .ok (.getfield 15, 3) := by decide +kernel
theorem dX6_leaveOutZeros_39 : decode cX6_leaveOutZeros 39 = .ok (.iload_n 1, 1) := by decide +kernel
theorem dX6_leaveOutZeros_40 : decode cX6_leaveOutZeros 40 = .ok (.aload_n 0, 1) := by decide +kernel
theorem dX6_leaveOutZeros_41 : decode cX6_leaveOutZeros 41 = .ok (.getfield 15, 3) := by decide +kernel
theorem dX6_leaveOutZeros_44 : decode cX6_leaveOutZeros 44 = .ok (.iload_n 2, 1) := by decide +kernel
theorem dX6_leaveOutZeros_45 : decode cX6_leaveOutZeros 45 = .ok (.iaload, 1) := by decide +kernel
theorem dX6_leaveOutZeros_46 : decode cX6_leaveOutZeros 46 = .ok (.iastore, 1) := by decide +kernel
theorem dX6_leaveOutZeros_47 : decode cX6_leaveOutZeros 47 = .ok (.aload_n 0, 1) := by decide +kernel
theorem dX6_leaveOutZeros_48 : decode cX6_leaveOutZeros 48 = .ok (.getfield 18, 3) := by decide +kernel
theorem dX6_leaveOutZeros_51 : decode cX6_leaveOutZeros 51 = .ok (.iload_n 1, 1) := by decide +kernel
theorem dX6_leaveOutZeros_52 : decode cX6_leaveOutZeros 52 = .ok (.aload_n 0, 1) := by decide +kernel
theorem dX6_leaveOutZeros_53 : decode cX6_leaveOutZeros 53 = .ok (.getfield 18, 3) := by decide +kernel
theorem dX6_leaveOutZeros_56 : decode cX6_leaveOutZeros 56 = .ok (.iload_n 2, 1) := by decide +kernel
theorem dX6_leaveOutZeros_57 : decode cX6_leaveOutZeros 57 = .ok (.laload, 1) := by decide +kernel
theorem dX6_leaveOutZeros_58 : decode cX6_leaveOutZeros 58 = .ok (.lastore, 1) := by decide +kernel
theorem dX6_leaveOutZeros_59 : decode cX6_leaveOutZeros 59 = .ok (.iinc 1 1, 3) := by decide +kernel
theorem dX6_leaveOutZeros_62 : decode cX6_leaveOutZeros 62 = .ok (.iinc 2 1, 3) := by decide +kernel
theorem dX6_leaveOutZeros_65 : decode cX6_leaveOutZeros 65 = .ok (.goto (-61), 3) := by decide +kernel
theorem dX6_leaveOutZeros_68 : decode cX6_leaveOutZeros 68 = .ok (.aload_n 0, 1) := by decide +kernel
theorem dX6_leaveOutZeros_69 : decode cX6_leaveOutZeros 69 = .ok (.iload_n 1, 1) := by decide +kernel
theorem dX6_leaveOutZeros_70 : decode cX6_leaveOutZeros 70 = .ok (.putfield 58, 3) := by decide +kernel
theorem dX6_leaveOutZeros_73 : decode cX6_leaveOutZeros 73 = .ok (.return_, 1) := by decide +kernel
set_option maxHeartbeats 4000000 in
set_option maxRecDepth 100000 in
theorem tX6_leaveOutZeros (l : Launch) (G : Gg) (b0 : Nat) {K : Kk} {R : Rr} {M : Mm} {r : Nat} {M' : Mm} (hm : mX6_leaveOutZeros K R M r = some (M')) : CT l G b0 yX6_leaveOutZeros cX6_leaveOutZeros 3 none (rmz 1 0) [.ref r] K R M none K R M' := by
  refine ct_of (by decide +kernel) (Nat.le_of_ble_eq_true rfl) (fun w hq => ?_)
  have hw := hq.b
  change w 0 0 0 [(0, .ref r)] [] K R M
  replace hm := h_start hm
  unfold mX6_leaveOutZeros at hm
  obtain ⟨h1, m27⟩ := h_ck hm
  clear hm
  refine r_iconst (v := 0) hw dX6_leaveOutZeros_0 rfl ?_
  obtain ⟨i2, ei2, m28⟩ := h_nm m27
  clear m27
  refine r_topI (w := w) ei2 ?_
  refine r_istore_n hw dX6_leaveOutZeros_1 rfl (by decide) rfl ?_
  refine r_iconst (v := 0) hw dX6_leaveOutZeros_2 rfl ?_
  obtain ⟨i3, ei3, m29⟩ := h_nm m28
  clear m28
  refine r_topI (w := w) ei3 ?_
  refine r_istore_n hw dX6_leaveOutZeros_3 rfl (by decide) rfl ?_
  refine r_sub hw [2, 1, 0] rfl ?_
  obtain ⟨v4, n04, hn4, hv4⟩ := h_lp m29
  clear m29
  have L4 : ∀ n : Nat, ∀ (i4 : Int32) (i5 : Int32) (M6 : Mm), it (mX6_leaveOutZeros_L4 K R r) n (i4, i5, M6) = some v4 → w 0 0 4 [(0, .ref r), (1, .int i4), (2, .int i5)] [] K R M6 := by
    intro n4
    induction n4 with
    | zero => intro i4 i5 M6 hz; exact absurd hz h_it0
    | succ n4 ih4 =>
      intro i4 i5 M6 m30
      replace m30 : (mX6_leaveOutZeros_B4 K R r i4 i5 M6).bind (Sum.elim (it (mX6_leaveOutZeros_L4 K R r) n4) some) = some v4 := m30
      unfold mX6_leaveOutZeros_B4 at m30
      have J62 : ∀ (M9 : Mm) (i7 : Int32) (i8 : Int32), (mX6_leaveOutZeros_J62 K R M9 r i7 i8).bind (Sum.elim (it (mX6_leaveOutZeros_L4 K R r) n4) some) = some v4 → w 0 0 62 [(0, .ref r), (1, .int i7), (2, .int i8)] [] K R M9 := by
        intro M9 i7 i8 m31
        unfold mX6_leaveOutZeros_J62 at m31
        obtain ⟨i10, ei10, m32⟩ := h_nm m31
        clear m31
        refine r_iinc (j := 2) (v := i10) hw dX6_leaveOutZeros_62 rfl (by rw [ei10]; rfl) (by decide) rfl ?_
        refine r_goto (tgt := 4) hw dX6_leaveOutZeros_65 (by decide) ?_
        refine r_sub hw [1, 2, 0] rfl ?_
        exact ih4 _ _ _ m32
      refine r_iload_n hw dX6_leaveOutZeros_4 2 rfl ?_
      refine r_aload_n hw dX6_leaveOutZeros_5 0 rfl ?_
      refine r_getI hw fO_X6_58 h1 dX6_leaveOutZeros_6 ?_
      refine r_icmp_ge (tgt := 68) hw dX6_leaveOutZeros_9 (by decide) (fun c11 => ?_) (fun c11 => ?_)
      · have m33 := h_if_f c11 m30
        clear m30
        have m34 := h_ex m33 hv4
        clear m33
        refine r_aload_n hw dX6_leaveOutZeros_68 0 rfl ?_
        refine r_iload_n hw dX6_leaveOutZeros_69 1 rfl ?_
        obtain ⟨M12, eM12, m35⟩ := h_nm m34
        clear m34
        refine r_putI hw fP_X6_58 h1 dX6_leaveOutZeros_70 (r_mem ?_ rfl eM12)
        cases h_ret m35
        exact r_return hq rfl rfl dX6_leaveOutZeros_73
      · have m36 := h_if_t c11 m30
        clear m30
        refine r_aload_n hw dX6_leaveOutZeros_12 0 rfl ?_
        obtain ⟨q13, bq13, m37⟩ := h_bd m36
        clear m36
        refine r_getR hw fO_X6_18 h1 bq13 dX6_leaveOutZeros_13 ?_
        refine r_iload_n hw dX6_leaveOutZeros_16 2 rfl ?_
        obtain ⟨h14, m38⟩ := h_ck m37
        clear m37
        refine r_laload hw h14 dX6_leaveOutZeros_17 ?_
        refine r_lconst (v := 0) hw dX6_leaveOutZeros_18 rfl ?_
        refine r_lcmp_eq (tgt := 62) hw dX6_leaveOutZeros_19 dX6_leaveOutZeros_20 (by decide) (fun c15 => ?_) (fun c15 => ?_)
        · have m39 := h_if_t c15 m38
          clear m38
          exact J62 _ _ _ m39
        · have m40 := h_if_f c15 m38
          clear m38
          refine r_aload_n hw dX6_leaveOutZeros_23 0 rfl ?_
          obtain ⟨q16, bq16, m41⟩ := h_bd m40
          clear m40
          refine r_getR hw fO_X6_9 h1 bq16 dX6_leaveOutZeros_24 ?_
          refine r_iload_n hw dX6_leaveOutZeros_27 1 rfl ?_
          refine r_aload_n hw dX6_leaveOutZeros_28 0 rfl ?_
          refine r_getR hw fO_X6_9 h1 bq16 dX6_leaveOutZeros_29 ?_
          refine r_iload_n hw dX6_leaveOutZeros_32 2 rfl ?_
          obtain ⟨h17, m42⟩ := h_ck m41
          clear m41
          refine r_iaload hw h17 dX6_leaveOutZeros_33 ?_
          obtain ⟨h18, m43⟩ := h_ck m42
          clear m42
          obtain ⟨M19, eM19, m44⟩ := h_nm m43
          clear m43
          refine r_iastore hw h18 dX6_leaveOutZeros_34 (r_mem ?_ rfl eM19)
          refine r_aload_n hw dX6_leaveOutZeros_35 0 rfl ?_
          obtain ⟨q20, bq20, m45⟩ := h_bd m44
          clear m44
          refine r_getR hw fO_X6_15 h1 bq20 dX6_leaveOutZeros_36 ?_
          refine r_iload_n hw dX6_leaveOutZeros_39 1 rfl ?_
          refine r_aload_n hw dX6_leaveOutZeros_40 0 rfl ?_
          refine r_getR hw fO_X6_15 h1 bq20 dX6_leaveOutZeros_41 ?_
          refine r_iload_n hw dX6_leaveOutZeros_44 2 rfl ?_
          obtain ⟨h21, m46⟩ := h_ck m45
          clear m45
          refine r_iaload hw h21 dX6_leaveOutZeros_45 ?_
          obtain ⟨h22, m47⟩ := h_ck m46
          clear m46
          obtain ⟨M23, eM23, m48⟩ := h_nm m47
          clear m47
          refine r_iastore hw h22 dX6_leaveOutZeros_46 (r_mem ?_ rfl eM23)
          refine r_aload_n hw dX6_leaveOutZeros_47 0 rfl ?_
          refine r_getR hw fO_X6_18 h1 bq13 dX6_leaveOutZeros_48 ?_
          refine r_iload_n hw dX6_leaveOutZeros_51 1 rfl ?_
          refine r_aload_n hw dX6_leaveOutZeros_52 0 rfl ?_
          refine r_getR hw fO_X6_18 h1 bq13 dX6_leaveOutZeros_53 ?_
          refine r_iload_n hw dX6_leaveOutZeros_56 2 rfl ?_
          refine r_laload hw h14 dX6_leaveOutZeros_57 ?_
          obtain ⟨h24, m49⟩ := h_ck m48
          clear m48
          obtain ⟨M25, eM25, m50⟩ := h_nm m49
          clear m49
          refine r_lastore hw h24 dX6_leaveOutZeros_58 (r_mem ?_ rfl eM25)
          obtain ⟨i26, ei26, m51⟩ := h_nm m50
          clear m50
          refine r_iinc (j := 1) (v := i26) hw dX6_leaveOutZeros_59 rfl (by rw [ei26]; rfl) (by decide) rfl ?_
          refine r_sub hw [1, 0, 2] rfl ?_
          exact J62 _ _ _ m51
  exact L4 n04 _ _ _ hn4
theorem dX7_corner_0 : decode cX7_corner 0 = .ok (.iload_n 1, 1) := by decide +kernel
theorem dX7_corner_1 : decode cX7_corner 1 = .ok (.iload_n 2, 1) := by decide +kernel
theorem dX7_corner_2 : decode cX7_corner 2 = .ok (.invokestatic 83, 3) := by decide +kernel
theorem dX7_corner_5 : decode cX7_corner 5 = .ok (.ifCond .ne 7, 3) := by decide +kernel
theorem dX7_corner_8 : decode cX7_corner 8 = .ok (.ldc2_w 87, 3) := by decide +kernel
theorem dX7_corner_11 : decode cX7_corner 11 = .ok (.lreturn, 1) := by decide +kernel
theorem dX7_corner_12 : decode cX7_corner 12 = .ok (.aload_n 0, 1) := by decide +kernel
theorem dX7_corner_13 : decode cX7_corner 13 = .ok (.getfield 14, 3) := by decide +kernel
theorem dX7_corner_16 : decode cX7_corner 16 = .ok (.getfield 89, 3) := by decide +kernel
theorem dX7_corner_19 : decode cX7_corner 19 = .ok (.bipush 16, 2) := by decide +kernel
theorem dX7_corner_21 : decode cX7_corner 21 = .ok (.if_icmp .lt 7, 3) := by decide +kernel
theorem dX7_corner_24 : decode cX7_corner 24 = .ok (.ldc2_w 93, 3) := by decide +kernel
theorem dX7_corner_27 : decode cX7_corner 27 = .ok (.lreturn, 1) := by decide +kernel
theorem dX7_corner_28 : decode cX7_corner 28 = .ok (.aload_n 0, 1) := by decide +kernel
theorem dX7_corner_29 : decode cX7_corner 29 = .ok (.getfield 14, 3) := by decide +kernel
theorem dX7_corner_32 : decode cX7_corner 32 = .ok (.iload_n 1, 1) := by decide +kernel
theorem dX7_corner_33 : decode cX7_corner 33 = .ok (.iload_n 2, 1) := by decide +kernel
theorem dX7_corner_34 : decode cX7_corner 34 = .ok (.invokevirtual 95, 3) := by decide +kernel
theorem dX7_corner_37 : decode cX7_corner 37 = .ok (.aload_n 0, 1) := by decide +kernel
theorem dX7_corner_38 : decode cX7_corner 38 = .ok (.getfield 14, 3) := by decide +kernel
theorem dX7_corner_41 : decode cX7_corner 41 = .ok (.getfield 89, 3) := by decide +kernel
theorem dX7_corner_44 : decode cX7_corner 44 = .ok (.i2l, 1) := by decide +kernel
theorem dX7_corner_45 : decode cX7_corner 45 = .ok (.lreturn, 1) := by decide +kernel
set_option maxHeartbeats 4000000 in
set_option maxRecDepth 100000 in
theorem tX7_corner (l : Launch) (G : Gg) (b0 : Nat) {K : Kk} {R : Rr} {M : Mm} {r : Nat} {a0 : Int32} {a1 : Int32} {res : Int64} {M' : Mm} (hm : mX7_corner K R M r a0 a1 = some (res, M')) : CT l G b0 yX7_corner cX7_corner 3 (some .long) (rmz 3 42) [.ref r, .int a0, .int a1] K R M (some (.long res)) K R M' := by
  refine ct_of (by decide +kernel) (Nat.le_of_ble_eq_true rfl) (fun w hq => ?_)
  have hw := hq.b
  change w 0 0 0 [(0, .ref r), (1, .int a0), (2, .int a1)] [] K R M
  replace hm := h_start hm
  unfold mX7_corner at hm
  obtain ⟨h1, m8⟩ := h_ck hm
  clear hm
  refine r_iload_n hw dX7_corner_0 1 rfl ?_
  refine r_iload_n hw dX7_corner_1 2 rfl ?_
  obtain ⟨i2, g2, m9⟩ := h_bd m8
  clear m8
  refine r_callS1 hw (tX7_isPlace l G b0 g2) lB_X7_isPlace sT_X7_isPlace mL_X7_83 rfl rfl (Nat.le_of_ble_eq_true rfl) (Nat.le_of_ble_eq_true rfl) rfl (Nat.le_of_ble_eq_true rfl) dX7_corner_2 ?_
  refine r_if_ne (tgt := 12) hw dX7_corner_5 (by decide) (fun c3 => ?_) (fun c3 => ?_)
  · have m10 := h_if_f c3 m9
    clear m9
    refine r_aload_n hw dX7_corner_12 0 rfl ?_
    obtain ⟨q4, bq4, m11⟩ := h_bd m10
    clear m10
    refine r_getR hw fO_X7_14 h1 bq4 dX7_corner_13 ?_
    obtain ⟨h5, m12⟩ := h_ck m11
    clear m11
    refine r_getI hw fO_X7_89 h5 dX7_corner_16 ?_
    refine r_bipush (v := 16) hw dX7_corner_19 rfl ?_
    refine r_icmp_lt (tgt := 28) hw dX7_corner_21 (by decide) (fun c6 => ?_) (fun c6 => ?_)
    · have m13 := h_if_t c6 m12
      clear m12
      refine r_aload_n hw dX7_corner_28 0 rfl ?_
      refine r_getR hw fO_X7_14 h1 bq4 dX7_corner_29 ?_
      refine r_iload_n hw dX7_corner_32 1 rfl ?_
      refine r_iload_n hw dX7_corner_33 2 rfl ?_
      obtain ⟨M7, g7, m14⟩ := h_bd m13
      clear m13
      refine r_callV0 hw (tX5_add l G b0 g7) lB_X5_add lI_X5_add mL_X7_95 (c := 5) rfl h5 rfl (Nat.le_of_ble_eq_true rfl) (Nat.le_of_ble_eq_true rfl) rfl (Nat.le_of_ble_eq_true rfl) dX7_corner_34 ?_
      refine r_aload_n hw dX7_corner_37 0 rfl ?_
      refine r_getR hw fO_X7_14 h1 bq4 dX7_corner_38 ?_
      refine r_getI hw fO_X7_89 h5 dX7_corner_41 ?_
      refine r_i2l hw dX7_corner_44 ?_
      cases h_ret m14
      exact r_lreturn hq rfl rfl dX7_corner_45
    · have m15 := h_if_f c6 m12
      clear m12
      refine r_ldc2 (v := (-9000000000000000003)) hw dX7_corner_24 kW_X7_93 ?_
      cases h_ret m15
      exact r_lreturn hq rfl rfl dX7_corner_27
  · have m16 := h_if_t c3 m9
    clear m9
    refine r_ldc2 (v := (-9000000000000000001)) hw dX7_corner_8 kW_X7_87 ?_
    cases h_ret m16
    exact r_lreturn hq rfl rfl dX7_corner_11
theorem dX7_isFigure_0 : decode cX7_isFigure 0 = .ok (.iload_n 0, 1) := by decide +kernel
theorem dX7_isFigure_1 : decode cX7_isFigure 1 = .ok (.ifCond .lt 12, 3) := by decide +kernel
theorem dX7_isFigure_4 : decode cX7_isFigure 4 = .ok (.iload_n 0, 1) := by decide +kernel
theorem dX7_isFigure_5 : decode cX7_isFigure 5 = .ok (.iconst 5, 1) := by decide +kernel
theorem dX7_isFigure_6 : decode cX7_isFigure 6 = .ok (.if_icmp .ge 7, 3) := by decide +kernel
theorem dX7_isFigure_9 : decode cX7_isFigure 9 = .ok (.iconst 1, 1) := by decide +kernel
theorem dX7_isFigure_10 : decode cX7_isFigure 10 = .ok (.goto 4, 3) := by decide +kernel
theorem dX7_isFigure_13 : decode cX7_isFigure 13 = .ok (.iconst 0, 1) := by decide +kernel
theorem dX7_isFigure_14 : decode cX7_isFigure 14 = .ok (.ireturn, 1) := by decide +kernel
set_option maxHeartbeats 4000000 in
set_option maxRecDepth 100000 in
theorem tX7_isFigure (l : Launch) (G : Gg) (b0 : Nat) {K : Kk} {R : Rr} {M : Mm} {a0 : Int32} {res : Int32} (hm : mX7_isFigure K R M a0 = some (res)) : CT l G b0 yX7_isFigure cX7_isFigure 1 (some .boolean) (rmz 1 0) [.int a0] K R M (some (.int res)) K R M := by
  refine ct_of (by decide +kernel) (Nat.le_of_ble_eq_true rfl) (fun w hq => ?_)
  have hw := hq.b
  change w 0 0 0 [(0, .int a0)] [] K R M
  replace hm := h_start hm
  unfold mX7_isFigure at hm
  refine r_iload_n hw dX7_isFigure_0 0 rfl ?_
  refine r_if_lt (tgt := 13) hw dX7_isFigure_1 (by decide) (fun c1 => ?_) (fun c1 => ?_)
  · have m3 := h_if_t c1 hm
    clear hm
    refine r_iconst (v := 0) hw dX7_isFigure_13 rfl ?_
    cases h_ret m3
    exact r_zreturn hq isB_0 rfl rfl dX7_isFigure_14
  · have m4 := h_if_f c1 hm
    clear hm
    refine r_iload_n hw dX7_isFigure_4 0 rfl ?_
    refine r_iconst (v := 5) hw dX7_isFigure_5 rfl ?_
    refine r_icmp_ge (tgt := 13) hw dX7_isFigure_6 (by decide) (fun c2 => ?_) (fun c2 => ?_)
    · have m5 := h_if_f c2 m4
      clear m4
      refine r_iconst (v := 0) hw dX7_isFigure_13 rfl ?_
      cases h_ret m5
      exact r_zreturn hq isB_0 rfl rfl dX7_isFigure_14
    · have m6 := h_if_t c2 m4
      clear m4
      refine r_iconst (v := 1) hw dX7_isFigure_9 rfl ?_
      refine r_goto (tgt := 14) hw dX7_isFigure_10 (by decide) ?_
      cases h_ret m6
      exact r_zreturn hq isB_1 rfl rfl dX7_isFigure_14
theorem dX7_figure_0 : decode cX7_figure 0 = .ok (.iload_n 1, 1) := by decide +kernel
theorem dX7_figure_1 : decode cX7_figure 1 = .ok (.invokestatic 99, 3) := by decide +kernel
theorem dX7_figure_4 : decode cX7_figure 4 = .ok (.ifCond .ne 7, 3) := by decide +kernel
theorem dX7_figure_7 : decode cX7_figure 7 = .ok (.ldc2_w 87, 3) := by decide +kernel
theorem dX7_figure_10 : decode cX7_figure 10 = .ok (.lreturn, 1) := by decide +kernel
theorem dX7_figure_11 : decode cX7_figure 11 = .ok (.aload_n 0, 1) := by decide +kernel
theorem dX7_figure_12 : decode cX7_figure 12 = .ok (.getfield 14, 3) := by decide +kernel
theorem dX7_figure_15 : decode cX7_figure 15 = .ok (.invokevirtual 103, 3) := by decide +kernel
theorem dX7_figure_18 : decode cX7_figure 18 = .ok (.lconst 0, 1) := by decide +kernel
theorem dX7_figure_19 : decode cX7_figure 19 = .ok (.lcmp, 1) := by decide +kernel
theorem dX7_figure_20 : decode cX7_figure 20 = .ok (.ifCond .ge 17, 3) := by decide +kernel
theorem dX7_figure_23 : decode cX7_figure 23 = .ok (.aload_n 0, 1) := by decide +kernel
theorem dX7_figure_24 : decode cX7_figure 24 = .ok (.getfield 68, 3) := by decide +kernel
theorem dX7_figure_27 : decode cX7_figure 27 = .ok (.aload_n 0, 1) := by decide +kernel
theorem dX7_figure_28 : decode cX7_figure 28 = .ok (.getfield 14, 3) := by decide +kernel
theorem dX7_figure_31 : decode cX7_figure 31 = .ok (.invokevirtual 107, 3) := by decide +kernel
theorem dX7_figure_34 : decode cX7_figure 34 = .ok (.goto 14, 3) := by decide +kernel
theorem dX7_figure_37 : decode cX7_figure 37 = .ok (.aload_n 0, 1) := by decide +kernel
theorem dX7_figure_38 : decode cX7_figure 38 = .ok (.getfield 68, 3) := by decide +kernel
theorem dX7_figure_41 : decode cX7_figure 41 = .ok (.aload_n 0, 1) := by decide +kernel
theorem dX7_figure_42 : decode cX7_figure 42 = .ok (.getfield 14, 3) := by decide +kernel
theorem dX7_figure_45 : decode cX7_figure 45 = .ok (.invokevirtual 111, 3) := by decide +kernel
theorem dX7_figure_48 : decode cX7_figure 48 = .ok (.aload_n 0, 1) := by decide +kernel
theorem dX7_figure_49 : decode cX7_figure 49 = .ok (.getfield 14, 3) := by decide +kernel
theorem dX7_figure_52 : decode cX7_figure 52 = .ok (.iconst 0, 1) := by decide +kernel
theorem dX7_figure_53 : decode cX7_figure 53 = .ok (.putfield 89, 3) := by decide +kernel
theorem dX7_figure_56 : decode cX7_figure 56 = .ok (.aload_n 0, 1) := by decide +kernel
theorem dX7_figure_57 : decode cX7_figure 57 = .ok (.getfield 68, 3) := by decide +kernel
theorem dX7_figure_60 : decode cX7_figure 60 = .ok (.invokevirtual 114, 3) := by decide +kernel
theorem dX7_figure_63 : decode cX7_figure 63 = .ok (.ifCond .ne 7, 3) := by decide +kernel
theorem dX7_figure_66 : decode cX7_figure 66 = .ok (.ldc2_w 118, 3) := by decide +kernel
theorem dX7_figure_69 : decode cX7_figure 69 = .ok (.lreturn, 1) := by decide +kernel
theorem dX7_figure_70 : decode cX7_figure 70 = .ok (.aload_n 0, 1) := by decide +kernel
theorem dX7_figure_71 : decode cX7_figure 71 = .ok (.getfield 18, 3) := by decide +kernel
theorem dX7_figure_74 : decode cX7_figure 74 = .ok (.iload_n 1, 1) := by decide +kernel
theorem dX7_figure_75 : decode cX7_figure 75 = .ok (.aaload, 1) := by decide +kernel
theorem dX7_figure_76 : decode cX7_figure 76 = .ok (.aload_n 0, 1) := by decide +kernel
theorem dX7_figure_77 : decode cX7_figure 77 = .ok (.getfield 68, 3) := by decide +kernel
theorem dX7_figure_80 : decode cX7_figure 80 = .ok (.iconst 1, 1) := by decide +kernel
theorem dX7_figure_81 : decode cX7_figure 81 = .ok (.iconst 0, 1) := by decide +kernel
theorem dX7_figure_82 : decode cX7_figure 82 = .ok (.iconst 0, 1) := by decide +kernel
theorem dX7_figure_83 : decode cX7_figure 83 = .ok (.invokevirtual 120, 3) := by decide +kernel
theorem dX7_figure_86 : decode cX7_figure 86 = .ok (.aload_n 0, 1) := by decide +kernel
theorem dX7_figure_87 : decode cX7_figure 87 = .ok (.getfield 18, 3) := by decide +kernel
theorem dX7_figure_90 : decode cX7_figure 90 = .ok (.iload_n 1, 1) := by decide +kernel
theorem dX7_figure_91 : decode cX7_figure 91 = .ok (.aaload, 1) := by decide +kernel
theorem dX7_figure_92 : decode cX7_figure 92 = .ok (.getfield 89, 3) := by decide +kernel
theorem dX7_figure_95 : decode cX7_figure 95 = .ok (.i2l, 1) := by decide +kernel
theorem dX7_figure_96 : decode cX7_figure 96 = .ok (.lreturn, 1) := by decide +kernel
set_option maxHeartbeats 4000000 in
set_option maxRecDepth 100000 in
theorem tX7_figure (l : Launch) (G : Gg) (b0 : Nat) {K : Kk} {R : Rr} {M : Mm} {r : Nat} {a0 : Int32} {res : Int64} {M' : Mm} (hm : mX7_figure K R M r a0 = some (res, M')) : CT l G b0 yX7_figure cX7_figure 2 (some .long) (rmz 4 72) [.ref r, .int a0] K R M (some (.long res)) K R M' := by
  refine ct_of (by decide +kernel) (Nat.le_of_ble_eq_true rfl) (fun w hq => ?_)
  have hw := hq.b
  change w 0 0 0 [(0, .ref r), (1, .int a0)] [] K R M
  replace hm := h_start hm
  unfold mX7_figure at hm
  obtain ⟨h1, m27⟩ := h_ck hm
  clear hm
  have J48 : ∀ (M2 : Mm), (mX7_figure_J48 K R M2 r a0).bind some = some (res, M') → w 0 0 48 [(0, .ref r), (1, .int a0)] [] K R M2 := by
    intro M2  m28
    unfold mX7_figure_J48 at m28
    refine r_aload_n hw dX7_figure_48 0 rfl ?_
    obtain ⟨q3, bq3, m29⟩ := h_bd m28
    clear m28
    refine r_getR hw fO_X7_14 h1 bq3 dX7_figure_49 ?_
    refine r_iconst (v := 0) hw dX7_figure_52 rfl ?_
    obtain ⟨h4, m30⟩ := h_ck m29
    clear m29
    obtain ⟨M5, eM5, m31⟩ := h_nm m30
    clear m30
    refine r_putI hw fP_X7_89 h4 dX7_figure_53 (r_mem ?_ rfl eM5)
    refine r_aload_n hw dX7_figure_56 0 rfl ?_
    obtain ⟨q6, bq6, m32⟩ := h_bd m31
    clear m31
    refine r_getR hw fO_X7_68 h1 bq6 dX7_figure_57 ?_
    obtain ⟨h8, m33⟩ := h_ck m32
    clear m32
    obtain ⟨i7, g7, m34⟩ := h_bd m33
    clear m33
    refine r_callV1 hw (tX5_isRing l G b0 g7) lB_X5_isRing lI_X5_isRing mL_X7_114 (c := 5) rfl h8 rfl (Nat.le_of_ble_eq_true rfl) (Nat.le_of_ble_eq_true rfl) rfl (Nat.le_of_ble_eq_true rfl) dX7_figure_60 ?_
    refine r_if_ne (tgt := 70) hw dX7_figure_63 (by decide) (fun c9 => ?_) (fun c9 => ?_)
    · have m35 := h_if_f c9 m34
      clear m34
      refine r_aload_n hw dX7_figure_70 0 rfl ?_
      obtain ⟨q10, bq10, m36⟩ := h_bd m35
      clear m35
      refine r_getR hw fO_X7_18 h1 bq10 dX7_figure_71 ?_
      refine r_iload_n hw dX7_figure_74 1 rfl ?_
      obtain ⟨h11, m37⟩ := h_ck m36
      clear m36
      obtain ⟨q12, bq12, m38⟩ := h_bd m37
      clear m37
      refine r_aaload hw 0 (by decide) h11 bq12 dX7_figure_75 ?_
      refine r_aload_n hw dX7_figure_76 0 rfl ?_
      refine r_getR hw fO_X7_68 h1 bq6 dX7_figure_77 ?_
      refine r_iconst (v := 1) hw dX7_figure_80 rfl ?_
      refine r_iconst (v := 0) hw dX7_figure_81 rfl ?_
      refine r_iconst (v := 0) hw dX7_figure_82 rfl ?_
      obtain ⟨h14, m39⟩ := h_ck m38
      clear m38
      obtain ⟨M13, g13, m40⟩ := h_bd m39
      clear m39
      refine r_callV0 hw (tX5_takeMoved l G b0 g13) lB_X5_takeMoved lI_X5_takeMoved mL_X7_120 (c := 5) rfl h14 rfl (Nat.le_of_ble_eq_true rfl) (Nat.le_of_ble_eq_true rfl) rfl (Nat.le_of_ble_eq_true rfl) dX7_figure_83 ?_
      refine r_aload_n hw dX7_figure_86 0 rfl ?_
      refine r_getR hw fO_X7_18 h1 bq10 dX7_figure_87 ?_
      refine r_iload_n hw dX7_figure_90 1 rfl ?_
      refine r_aaload hw 0 (by decide) h11 bq12 dX7_figure_91 ?_
      refine r_getI hw fO_X7_89 h14 dX7_figure_92 ?_
      refine r_i2l hw dX7_figure_95 ?_
      cases h_ret m40
      exact r_lreturn hq rfl rfl dX7_figure_96
    · have m41 := h_if_t c9 m34
      clear m34
      refine r_ldc2 (v := (-9000000000000000002)) hw dX7_figure_66 kW_X7_118 ?_
      cases h_ret m41
      exact r_lreturn hq rfl rfl dX7_figure_69
  refine r_iload_n hw dX7_figure_0 1 rfl ?_
  obtain ⟨i15, g15, m42⟩ := h_bd m27
  clear m27
  refine r_callS1 hw (tX7_isFigure l G b0 g15) lB_X7_isFigure sT_X7_isFigure mL_X7_99 rfl rfl (Nat.le_of_ble_eq_true rfl) (Nat.le_of_ble_eq_true rfl) rfl (Nat.le_of_ble_eq_true rfl) dX7_figure_1 ?_
  refine r_if_ne (tgt := 11) hw dX7_figure_4 (by decide) (fun c16 => ?_) (fun c16 => ?_)
  · have m43 := h_if_f c16 m42
    clear m42
    refine r_aload_n hw dX7_figure_11 0 rfl ?_
    obtain ⟨q17, bq17, m44⟩ := h_bd m43
    clear m43
    refine r_getR hw fO_X7_14 h1 bq17 dX7_figure_12 ?_
    obtain ⟨h19, m45⟩ := h_ck m44
    clear m44
    obtain ⟨l18, g18, m46⟩ := h_bd m45
    clear m45
    refine r_callV1 hw (tX5_twiceArea l G b0 g18) lB_X5_twiceArea lI_X5_twiceArea mL_X7_103 (c := 5) rfl h19 rfl (Nat.le_of_ble_eq_true rfl) (Nat.le_of_ble_eq_true rfl) rfl (Nat.le_of_ble_eq_true rfl) dX7_figure_15 ?_
    refine r_lconst (v := 0) hw dX7_figure_18 rfl ?_
    refine r_lcmp_ge (tgt := 37) hw dX7_figure_19 dX7_figure_20 (by decide) (fun c20 => ?_) (fun c20 => ?_)
    · have m47 := h_if_f c20 m46
      clear m46
      refine r_aload_n hw dX7_figure_37 0 rfl ?_
      obtain ⟨q21, bq21, m48⟩ := h_bd m47
      clear m47
      refine r_getR hw fO_X7_68 h1 bq21 dX7_figure_38 ?_
      refine r_aload_n hw dX7_figure_41 0 rfl ?_
      refine r_getR hw fO_X7_14 h1 bq17 dX7_figure_42 ?_
      obtain ⟨h23, m49⟩ := h_ck m48
      clear m48
      obtain ⟨M22, g22, m50⟩ := h_bd m49
      clear m49
      refine r_callV0 hw (tX5_take l G b0 g22) lB_X5_take lI_X5_take mL_X7_111 (c := 5) rfl h23 rfl (Nat.le_of_ble_eq_true rfl) (Nat.le_of_ble_eq_true rfl) rfl (Nat.le_of_ble_eq_true rfl) dX7_figure_45 ?_
      exact J48 _ m50
    · have m51 := h_if_t c20 m46
      clear m46
      refine r_aload_n hw dX7_figure_23 0 rfl ?_
      obtain ⟨q24, bq24, m52⟩ := h_bd m51
      clear m51
      refine r_getR hw fO_X7_68 h1 bq24 dX7_figure_24 ?_
      refine r_aload_n hw dX7_figure_27 0 rfl ?_
      refine r_getR hw fO_X7_14 h1 bq17 dX7_figure_28 ?_
      obtain ⟨h26, m53⟩ := h_ck m52
      clear m52
      obtain ⟨M25, g25, m54⟩ := h_bd m53
      clear m53
      refine r_callV0 hw (tX5_takeBackwards l G b0 g25) lB_X5_takeBackwards lI_X5_takeBackwards mL_X7_107 (c := 5) rfl h26 rfl (Nat.le_of_ble_eq_true rfl) (Nat.le_of_ble_eq_true rfl) rfl (Nat.le_of_ble_eq_true rfl) dX7_figure_31 ?_
      refine r_goto (tgt := 48) hw dX7_figure_34 (by decide) ?_
      exact J48 _ m54
  · have m55 := h_if_t c16 m42
    clear m42
    refine r_ldc2 (v := (-9000000000000000001)) hw dX7_figure_7 kW_X7_87 ?_
    cases h_ret m55
    exact r_lreturn hq rfl rfl dX7_figure_10
theorem dX7_area_0 : decode cX7_area 0 = .ok (.iload_n 1, 1) := by decide +kernel
theorem dX7_area_1 : decode cX7_area 1 = .ok (.invokestatic 99, 3) := by decide +kernel
theorem dX7_area_4 : decode cX7_area 4 = .ok (.ifCond .ne 7, 3) := by decide +kernel
theorem dX7_area_7 : decode cX7_area 7 = .ok (.ldc2_w 87, 3) := by decide +kernel
theorem dX7_area_10 : decode cX7_area 10 = .ok (.lreturn, 1) := by decide +kernel
theorem dX7_area_11 : decode cX7_area 11 = .ok (.aload_n 0, 1) := by decide +kernel
theorem dX7_area_12 : decode cX7_area 12 = .ok (.getfield 18, 3) := by decide +kernel
theorem dX7_area_15 : decode cX7_area 15 = .ok (.iload_n 1, 1) := by decide +kernel
theorem dX7_area_16 : decode cX7_area 16 = .ok (.aaload, 1) := by decide +kernel
theorem dX7_area_17 : decode cX7_area 17 = .ok (.getfield 89, 3) := by decide +kernel
theorem dX7_area_20 : decode cX7_area 20 = .ok (.ifCond .ne 9, 3) := by decide +kernel
theorem dX7_area_23 : decode cX7_area 23 = .ok (.ldc2_w 118, 3) := by decide +kernel
theorem dX7_area_26 : decode cX7_area 26 = .ok (.goto 12, 3) := by decide +kernel
theorem dX7_area_29 : decode cX7_area 29 = .ok (.aload_n 0, 1) := by decide +kernel
theorem dX7_area_30 : decode cX7_area 30 = .ok (.getfield 18, 3) := by decide +kernel
theorem dX7_area_33 : decode cX7_area 33 = .ok (.iload_n 1, 1) := by decide +kernel
theorem dX7_area_34 : decode cX7_area 34 = .ok (.aaload, 1) := by decide +kernel
theorem dX7_area_35 : decode cX7_area 35 = .ok (.invokevirtual 103, 3) := by decide +kernel
theorem dX7_area_38 : decode cX7_area 38 = .ok (.lreturn, 1) := by decide +kernel
set_option maxHeartbeats 4000000 in
set_option maxRecDepth 100000 in
theorem tX7_area (l : Launch) (G : Gg) (b0 : Nat) {K : Kk} {R : Rr} {M : Mm} {r : Nat} {a0 : Int32} {res : Int64} (hm : mX7_area K R M r a0 = some (res)) : CT l G b0 yX7_area cX7_area 2 (some .long) (rmz 3 45) [.ref r, .int a0] K R M (some (.long res)) K R M := by
  refine ct_of (by decide +kernel) (Nat.le_of_ble_eq_true rfl) (fun w hq => ?_)
  have hw := hq.b
  change w 0 0 0 [(0, .ref r), (1, .int a0)] [] K R M
  replace hm := h_start hm
  unfold mX7_area at hm
  obtain ⟨h1, m10⟩ := h_ck hm
  clear hm
  refine r_iload_n hw dX7_area_0 1 rfl ?_
  obtain ⟨i2, g2, m11⟩ := h_bd m10
  clear m10
  refine r_callS1 hw (tX7_isFigure l G b0 g2) lB_X7_isFigure sT_X7_isFigure mL_X7_99 rfl rfl (Nat.le_of_ble_eq_true rfl) (Nat.le_of_ble_eq_true rfl) rfl (Nat.le_of_ble_eq_true rfl) dX7_area_1 ?_
  refine r_if_ne (tgt := 11) hw dX7_area_4 (by decide) (fun c3 => ?_) (fun c3 => ?_)
  · have m12 := h_if_f c3 m11
    clear m11
    refine r_aload_n hw dX7_area_11 0 rfl ?_
    obtain ⟨q4, bq4, m13⟩ := h_bd m12
    clear m12
    refine r_getR hw fO_X7_18 h1 bq4 dX7_area_12 ?_
    refine r_iload_n hw dX7_area_15 1 rfl ?_
    obtain ⟨h5, m14⟩ := h_ck m13
    clear m13
    obtain ⟨q6, bq6, m15⟩ := h_bd m14
    clear m14
    refine r_aaload hw 0 (by decide) h5 bq6 dX7_area_16 ?_
    obtain ⟨h7, m16⟩ := h_ck m15
    clear m15
    refine r_getI hw fO_X7_89 h7 dX7_area_17 ?_
    refine r_if_ne (tgt := 29) hw dX7_area_20 (by decide) (fun c8 => ?_) (fun c8 => ?_)
    · have m17 := h_if_f c8 m16
      clear m16
      refine r_aload_n hw dX7_area_29 0 rfl ?_
      refine r_getR hw fO_X7_18 h1 bq4 dX7_area_30 ?_
      refine r_iload_n hw dX7_area_33 1 rfl ?_
      refine r_aaload hw 0 (by decide) h5 bq6 dX7_area_34 ?_
      obtain ⟨l9, g9, m18⟩ := h_bd m17
      clear m17
      refine r_callV1 hw (tX5_twiceArea l G b0 g9) lB_X5_twiceArea lI_X5_twiceArea mL_X7_103 (c := 5) rfl h7 rfl (Nat.le_of_ble_eq_true rfl) (Nat.le_of_ble_eq_true rfl) rfl (Nat.le_of_ble_eq_true rfl) dX7_area_35 ?_
      cases h_ret m18
      exact r_lreturn hq rfl rfl dX7_area_38
    · have m19 := h_if_t c8 m16
      clear m16
      refine r_ldc2 (v := (-9000000000000000002)) hw dX7_area_23 kW_X7_118 ?_
      refine r_goto (tgt := 38) hw dX7_area_26 (by decide) ?_
      cases h_ret m19
      exact r_lreturn hq rfl rfl dX7_area_38
  · have m20 := h_if_t c3 m11
    clear m11
    refine r_ldc2 (v := (-9000000000000000001)) hw dX7_area_7 kW_X7_87 ?_
    cases h_ret m20
    exact r_lreturn hq rfl rfl dX7_area_10
theorem dX7_begin_0 : decode cX7_begin 0 = .ok (.iload_n 1, 1) := by decide +kernel
theorem dX7_begin_1 : decode cX7_begin 1 = .ok (.invokestatic 99, 3) := by decide +kernel
theorem dX7_begin_4 : decode cX7_begin 4 = .ok (.ifCond .ne 7, 3) := by decide +kernel
theorem dX7_begin_7 : decode cX7_begin 7 = .ok (.ldc2_w 87, 3) := by decide +kernel
theorem dX7_begin_10 : decode cX7_begin 10 = .ok (.lreturn, 1) := by decide +kernel
theorem dX7_begin_11 : decode cX7_begin 11 = .ok (.aload_n 0, 1) := by decide +kernel
theorem dX7_begin_12 : decode cX7_begin 12 = .ok (.getfield 18, 3) := by decide +kernel
theorem dX7_begin_15 : decode cX7_begin 15 = .ok (.iload_n 1, 1) := by decide +kernel
theorem dX7_begin_16 : decode cX7_begin 16 = .ok (.aaload, 1) := by decide +kernel
theorem dX7_begin_17 : decode cX7_begin 17 = .ok (.getfield 89, 3) := by decide +kernel
theorem dX7_begin_20 : decode cX7_begin 20 = .ok (.ifCond .ne 7, 3) := by decide +kernel
theorem dX7_begin_23 : decode cX7_begin 23 = .ok (.ldc2_w 118, 3) := by decide +kernel
theorem dX7_begin_26 : decode cX7_begin 26 = .ok (.lreturn, 1) := by decide +kernel
theorem dX7_begin_27 : decode cX7_begin 27 = .ok (.aload_n 0, 1) := by decide +kernel
theorem dX7_begin_28 : decode cX7_begin 28 = .ok (.getfield 64, 3) := by decide +kernel
theorem dX7_begin_31 : decode cX7_begin 31 = .ok (.iconst 1, 1) := by decide +kernel
theorem dX7_begin_32 : decode cX7_begin 32 = .ok (.iconst 0, 1) := by decide +kernel
theorem dX7_begin_33 : decode cX7_begin 33 = .ok (.iconst 0, 1) := by decide +kernel
theorem dX7_begin_34 : decode cX7_begin 34 = .ok (.invokevirtual 124, 3) := by decide +kernel
theorem dX7_begin_37 : decode cX7_begin 37 = .ok (.aload_n 0, 1) := by decide +kernel
theorem dX7_begin_38 : decode cX7_begin 38 = .ok (.getfield 64, 3) := by decide +kernel
theorem dX7_begin_41 : decode cX7_begin 41 = .ok (.aload_n 0, 1) := by decide +kernel
theorem dX7_begin_42 : decode cX7_begin 42 = .ok (.getfield 18, 3) := by decide +kernel
theorem dX7_begin_45 : decode cX7_begin 45 = .ok (.iload_n 1, 1) := by decide +kernel
theorem dX7_begin_46 : decode cX7_begin 46 = .ok (.aaload, 1) := by decide +kernel
theorem dX7_begin_47 : decode cX7_begin 47 = .ok (.invokevirtual 128, 3) := by decide +kernel
theorem dX7_begin_50 : decode cX7_begin 50 = .ok (.aload_n 0, 1) := by decide +kernel
theorem dX7_begin_51 : decode cX7_begin 51 = .ok (.getfield 25, 3) := by decide +kernel
theorem dX7_begin_54 : decode cX7_begin 54 = .ok (.invokevirtual 131, 3) := by decide +kernel
theorem dX7_begin_57 : decode cX7_begin 57 = .ok (.aload_n 0, 1) := by decide +kernel
theorem dX7_begin_58 : decode cX7_begin 58 = .ok (.getfield 64, 3) := by decide +kernel
theorem dX7_begin_61 : decode cX7_begin 61 = .ok (.invokevirtual 135, 3) := by decide +kernel
theorem dX7_begin_64 : decode cX7_begin 64 = .ok (.aload_n 0, 1) := by decide +kernel
theorem dX7_begin_65 : decode cX7_begin 65 = .ok (.getfield 25, 3) := by decide +kernel
theorem dX7_begin_68 : decode cX7_begin 68 = .ok (.invokevirtual 138, 3) := by decide +kernel
theorem dX7_begin_71 : decode cX7_begin 71 = .ok (.lconst 0, 1) := by decide +kernel
theorem dX7_begin_72 : decode cX7_begin 72 = .ok (.lreturn, 1) := by decide +kernel
set_option maxHeartbeats 4000000 in
set_option maxRecDepth 100000 in
theorem tX7_begin (l : Launch) (G : Gg) (b0 : Nat) {K : Kk} {R : Rr} {M : Mm} {r : Nat} {a0 : Int32} {res : Int64} {R' : Rr} {M' : Mm} (hm : mX7_begin K R M r a0 = some (res, R', M')) : CT l G b0 yX7_begin cX7_begin 2 (some .long) (rmz 5 111) [.ref r, .int a0] K R M (some (.long res)) K R' M' := by
  refine ct_of (by decide +kernel) (Nat.le_of_ble_eq_true rfl) (fun w hq => ?_)
  have hw := hq.b
  change w 0 0 0 [(0, .ref r), (1, .int a0)] [] K R M
  replace hm := h_start hm
  unfold mX7_begin at hm
  obtain ⟨h1, m21⟩ := h_ck hm
  clear hm
  refine r_iload_n hw dX7_begin_0 1 rfl ?_
  obtain ⟨i2, g2, m22⟩ := h_bd m21
  clear m21
  refine r_callS1 hw (tX7_isFigure l G b0 g2) lB_X7_isFigure sT_X7_isFigure mL_X7_99 rfl rfl (Nat.le_of_ble_eq_true rfl) (Nat.le_of_ble_eq_true rfl) rfl (Nat.le_of_ble_eq_true rfl) dX7_begin_1 ?_
  refine r_if_ne (tgt := 11) hw dX7_begin_4 (by decide) (fun c3 => ?_) (fun c3 => ?_)
  · have m23 := h_if_f c3 m22
    clear m22
    refine r_aload_n hw dX7_begin_11 0 rfl ?_
    obtain ⟨q4, bq4, m24⟩ := h_bd m23
    clear m23
    refine r_getR hw fO_X7_18 h1 bq4 dX7_begin_12 ?_
    refine r_iload_n hw dX7_begin_15 1 rfl ?_
    obtain ⟨h5, m25⟩ := h_ck m24
    clear m24
    obtain ⟨q6, bq6, m26⟩ := h_bd m25
    clear m25
    refine r_aaload hw 0 (by decide) h5 bq6 dX7_begin_16 ?_
    obtain ⟨h7, m27⟩ := h_ck m26
    clear m26
    refine r_getI hw fO_X7_89 h7 dX7_begin_17 ?_
    refine r_if_ne (tgt := 27) hw dX7_begin_20 (by decide) (fun c8 => ?_) (fun c8 => ?_)
    · have m28 := h_if_f c8 m27
      clear m27
      refine r_aload_n hw dX7_begin_27 0 rfl ?_
      obtain ⟨q9, bq9, m29⟩ := h_bd m28
      clear m28
      refine r_getR hw fO_X7_64 h1 bq9 dX7_begin_28 ?_
      refine r_iconst (v := 1) hw dX7_begin_31 rfl ?_
      refine r_iconst (v := 0) hw dX7_begin_32 rfl ?_
      refine r_iconst (v := 0) hw dX7_begin_33 rfl ?_
      obtain ⟨h11, m30⟩ := h_ck m29
      clear m29
      obtain ⟨M10, g10, m31⟩ := h_bd m30
      clear m30
      refine r_callV0 hw (tX3_setMove l G b0 g10) lB_X3_setMove lI_X3_setMove mL_X7_124 (c := 3) rfl h11 rfl (Nat.le_of_ble_eq_true rfl) (Nat.le_of_ble_eq_true rfl) rfl (Nat.le_of_ble_eq_true rfl) dX7_begin_34 ?_
      refine r_aload_n hw dX7_begin_37 0 rfl ?_
      refine r_getR hw fO_X7_64 h1 bq9 dX7_begin_38 ?_
      refine r_aload_n hw dX7_begin_41 0 rfl ?_
      refine r_getR hw fO_X7_18 h1 bq4 dX7_begin_42 ?_
      refine r_iload_n hw dX7_begin_45 1 rfl ?_
      refine r_aaload hw 0 (by decide) h5 bq6 dX7_begin_46 ?_
      obtain ⟨M12, g12, m32⟩ := h_bd m31
      clear m31
      refine r_callV0 hw (tX3_setOrigin l G b0 g12) lB_X3_setOrigin lI_X3_setOrigin mL_X7_128 (c := 3) rfl h11 rfl (Nat.le_of_ble_eq_true rfl) (Nat.le_of_ble_eq_true rfl) rfl (Nat.le_of_ble_eq_true rfl) dX7_begin_47 ?_
      refine r_aload_n hw dX7_begin_50 0 rfl ?_
      obtain ⟨q13, bq13, m33⟩ := h_bd m32
      clear m32
      refine r_getR hw fO_X7_25 h1 bq13 dX7_begin_51 ?_
      obtain ⟨h16, m34⟩ := h_ck m33
      clear m33
      obtain ⟨q14, M15, g15, m35⟩ := h_bd2 m34
      clear m34
      refine r_callV1 hw (tX1_emptyDraft l G b0 g15) lB_X1_emptyDraft lI_X1_emptyDraft mL_X7_131 (c := 1) rfl h16 rfl (Nat.le_of_ble_eq_true rfl) (Nat.le_of_ble_eq_true rfl) rfl (Nat.le_of_ble_eq_true rfl) dX7_begin_54 ?_
      refine r_aload_n hw dX7_begin_57 0 rfl ?_
      refine r_getR hw fO_X7_64 h1 bq9 dX7_begin_58 ?_
      obtain ⟨h18, m36⟩ := h_ck m35
      clear m35
      obtain ⟨M17, g17, m37⟩ := h_bd m36
      clear m36
      refine r_callV0 hw (tX4_add l G b0 g17) lB_X4_add lI_X4_add mL_X7_135 (c := 4) rfl h18 rfl (Nat.le_of_ble_eq_true rfl) (Nat.le_of_ble_eq_true rfl) rfl (Nat.le_of_ble_eq_true rfl) dX7_begin_61 ?_
      refine r_aload_n hw dX7_begin_64 0 rfl ?_
      refine r_getR hw fO_X7_25 h1 bq13 dX7_begin_65 ?_
      obtain ⟨R19, M20, g20, m38⟩ := h_bd2 m37
      clear m37
      refine r_callV0 hw (tX1_keepDraft l G b0 g20) lB_X1_keepDraft lI_X1_keepDraft mL_X7_138 (c := 1) rfl h16 rfl (Nat.le_of_ble_eq_true rfl) (Nat.le_of_ble_eq_true rfl) rfl (Nat.le_of_ble_eq_true rfl) dX7_begin_68 ?_
      refine r_lconst (v := 0) hw dX7_begin_71 rfl ?_
      cases h_ret m38
      exact r_lreturn hq rfl rfl dX7_begin_72
    · have m39 := h_if_t c8 m27
      clear m27
      refine r_ldc2 (v := (-9000000000000000002)) hw dX7_begin_23 kW_X7_118 ?_
      cases h_ret m39
      exact r_lreturn hq rfl rfl dX7_begin_26
  · have m40 := h_if_t c3 m22
    clear m22
    refine r_ldc2 (v := (-9000000000000000001)) hw dX7_begin_7 kW_X7_87 ?_
    cases h_ret m40
    exact r_lreturn hq rfl rfl dX7_begin_10
theorem dX7_cutOne_0 : decode cX7_cutOne 0 = .ok (.aload_n 1, 1) := by decide +kernel
theorem dX7_cutOne_1 : decode cX7_cutOne 1 = .ok (.getfield 149, 3) := by decide +kernel
theorem dX7_cutOne_4 : decode cX7_cutOne 4 = .ok (.iload_n 2, 1) := by decide +kernel
theorem dX7_cutOne_5 : decode cX7_cutOne 5 = .ok (.aaload, 1) := by decide +kernel
theorem dX7_cutOne_6 : decode cX7_cutOne 6 = .ok (.astore_n 3, 1) := by decide +kernel
theorem dX7_cutOne_7 : decode cX7_cutOne 7 = .ok (.aload_n 3, 1) := by decide +kernel
theorem dX7_cutOne_8 : decode cX7_cutOne 8 = .ok (.aload_n 0, 1) := by decide +kernel
theorem dX7_cutOne_9 : decode cX7_cutOne 9 = .ok (.getfield 68, 3) := by decide +kernel
theorem dX7_cutOne_12 : decode cX7_cutOne 12 = .ok (.invokevirtual 153, 3) := by decide +kernel
theorem dX7_cutOne_15 : decode cX7_cutOne 15 = .ok (.aload_n 0, 1) := by decide +kernel
theorem dX7_cutOne_16 : decode cX7_cutOne 16 = .ok (.getfield 50, 3) := by decide +kernel
theorem dX7_cutOne_19 : decode cX7_cutOne 19 = .ok (.aload_n 0, 1) := by decide +kernel
theorem dX7_cutOne_20 : decode cX7_cutOne 20 = .ok (.getfield 68, 3) := by decide +kernel
theorem dX7_cutOne_23 : decode cX7_cutOne 23 = .ok (.aload_n 0, 1) := by decide +kernel
theorem dX7_cutOne_24 : decode cX7_cutOne 24 = .ok (.getfield 74, 3) := by decide +kernel
theorem dX7_cutOne_27 : decode cX7_cutOne 27 = .ok (.aload_n 0, 1) := by decide +kernel
theorem dX7_cutOne_28 : decode cX7_cutOne 28 = .ok (.getfield 77, 3) := by decide +kernel
theorem dX7_cutOne_31 : decode cX7_cutOne 31 = .ok (.invokevirtual 177, 3) := by decide +kernel
theorem dX7_cutOne_34 : decode cX7_cutOne 34 = .ok (.ifCond .ne 5, 3) := by decide +kernel
theorem dX7_cutOne_37 : decode cX7_cutOne 37 = .ok (.iconst 0, 1) := by decide +kernel
theorem dX7_cutOne_38 : decode cX7_cutOne 38 = .ok (.ireturn, 1) := by decide +kernel
theorem dX7_cutOne_39 : decode cX7_cutOne 39 = .ok (.aload_n 0, 1) := by decide +kernel
theorem dX7_cutOne_40 : decode cX7_cutOne 40 = .ok (.getfield 64, 3) := by decide +kernel
theorem dX7_cutOne_43 : decode cX7_cutOne 43 = .ok (.aload_n 3, 1) := by decide +kernel
theorem dX7_cutOne_44 : decode cX7_cutOne 44 = .ok (.invokevirtual 181, 3) := by decide +kernel
theorem dX7_cutOne_47 : decode cX7_cutOne 47 = .ok (.aload_n 0, 1) := by decide +kernel
theorem dX7_cutOne_48 : decode cX7_cutOne 48 = .ok (.getfield 64, 3) := by decide +kernel
theorem dX7_cutOne_51 : decode cX7_cutOne 51 = .ok (.aload_n 0, 1) := by decide +kernel
theorem dX7_cutOne_52 : decode cX7_cutOne 52 = .ok (.getfield 77, 3) := by decide +kernel
theorem dX7_cutOne_55 : decode cX7_cutOne 55 = .ok (.invokevirtual 183, 3) := by decide +kernel
theorem dX7_cutOne_58 : decode cX7_cutOne 58 = .ok (.aload_n 3, 1) := by decide +kernel
theorem dX7_cutOne_59 : decode cX7_cutOne 59 = .ok (.aload_n 0, 1) := by decide +kernel
theorem dX7_cutOne_60 : decode cX7_cutOne 60 = .ok (.getfield 74, 3) := by decide +kernel
theorem dX7_cutOne_63 : decode cX7_cutOne 63 = .ok (.invokevirtual 183, 3) := by decide +kernel
theorem dX7_cutOne_66 : decode cX7_cutOne 66 = .ok (.aload_n 1, 1) := by decide +kernel
theorem dX7_cutOne_67 : decode cX7_cutOne 67 = .ok (.aload_n 0, 1) := by decide +kernel
theorem dX7_cutOne_68 : decode cX7_cutOne 68 = .ok (.getfield 64, 3) := by decide +kernel
theorem dX7_cutOne_71 : decode cX7_cutOne 71 = .ok (.invokevirtual 135, 3) := by decide +kernel
theorem dX7_cutOne_74 : decode cX7_cutOne 74 = .ok (.iconst 1, 1) := by decide +kernel
theorem dX7_cutOne_75 : decode cX7_cutOne 75 = .ok (.ireturn, 1) := by decide +kernel
set_option maxHeartbeats 4000000 in
set_option maxRecDepth 100000 in
theorem tX7_cutOne (l : Launch) (G : Gg) (b0 : Nat) {K : Kk} {R : Rr} {M : Mm} {r : Nat} {a0 : Nat} {a1 : Int32} {res : Int32} {M' : Mm} (hm : mX7_cutOne K R M r a0 a1 = some (res, M')) : CT l G b0 yX7_cutOne cX7_cutOne 4 (some .boolean) (rmz 5 111) [.ref r, .ref a0, .int a1] K R M (some (.int res)) K R M' := by
  refine ct_of (by decide +kernel) (Nat.le_of_ble_eq_true rfl) (fun w hq => ?_)
  have hw := hq.b
  change w 0 0 0 [(0, .ref r), (1, .ref a0), (2, .int a1)] [] K R M
  replace hm := h_start hm
  unfold mX7_cutOne at hm
  obtain ⟨h1, m22⟩ := h_ck hm
  clear hm
  obtain ⟨h2, m23⟩ := h_ck m22
  clear m22
  refine r_aload_n hw dX7_cutOne_0 1 rfl ?_
  obtain ⟨q3, bq3, m24⟩ := h_bd m23
  clear m23
  refine r_getR hw fO_X7_149 h2 bq3 dX7_cutOne_1 ?_
  refine r_iload_n hw dX7_cutOne_4 2 rfl ?_
  obtain ⟨h4, m25⟩ := h_ck m24
  clear m24
  obtain ⟨q5, bq5, m26⟩ := h_bd m25
  clear m25
  refine r_aaload hw 2 (by decide) h4 bq5 dX7_cutOne_5 ?_
  refine r_astore_n hw dX7_cutOne_6 rfl (by decide) rfl ?_
  refine r_aload_n hw dX7_cutOne_7 0 rfl ?_
  refine r_aload_n hw dX7_cutOne_8 1 rfl ?_
  obtain ⟨q6, bq6, m27⟩ := h_bd m26
  clear m26
  refine r_getR hw fO_X7_68 h1 bq6 dX7_cutOne_9 ?_
  obtain ⟨h8, m28⟩ := h_ck m27
  clear m27
  obtain ⟨M7, g7, m29⟩ := h_bd m28
  clear m28
  refine r_callV0 hw (tX3_placeInto l G b0 g7) lB_X3_placeInto lI_X3_placeInto mL_X7_153 (c := 3) rfl h8 rfl (Nat.le_of_ble_eq_true rfl) (Nat.le_of_ble_eq_true rfl) rfl (Nat.le_of_ble_eq_true rfl) dX7_cutOne_12 ?_
  refine r_aload_n hw dX7_cutOne_15 1 rfl ?_
  obtain ⟨q9, bq9, m30⟩ := h_bd m29
  clear m29
  refine r_getR hw fO_X7_50 h1 bq9 dX7_cutOne_16 ?_
  refine r_aload_n hw dX7_cutOne_19 1 rfl ?_
  refine r_getR hw fO_X7_68 h1 bq6 dX7_cutOne_20 ?_
  refine r_aload_n hw dX7_cutOne_23 1 rfl ?_
  obtain ⟨q10, bq10, m31⟩ := h_bd m30
  clear m30
  refine r_getR hw fO_X7_74 h1 bq10 dX7_cutOne_24 ?_
  refine r_aload_n hw dX7_cutOne_27 1 rfl ?_
  obtain ⟨q11, bq11, m32⟩ := h_bd m31
  clear m31
  refine r_getR hw fO_X7_77 h1 bq11 dX7_cutOne_28 ?_
  obtain ⟨h14, m33⟩ := h_ck m32
  clear m32
  obtain ⟨i12, M13, g13, m34⟩ := h_bd2 m33
  clear m33
  refine r_callV1 hw (tX2_divide l G b0 g13) lB_X2_divide lI_X2_divide mL_X7_177 (c := 2) rfl h14 rfl (Nat.le_of_ble_eq_true rfl) (Nat.le_of_ble_eq_true rfl) rfl (Nat.le_of_ble_eq_true rfl) dX7_cutOne_31 ?_
  refine r_if_ne (tgt := 39) hw dX7_cutOne_34 (by decide) (fun c15 => ?_) (fun c15 => ?_)
  · have m35 := h_if_f c15 m34
    clear m34
    refine r_aload_n hw dX7_cutOne_39 1 rfl ?_
    obtain ⟨q16, bq16, m36⟩ := h_bd m35
    clear m35
    refine r_getR hw fO_X7_64 h1 bq16 dX7_cutOne_40 ?_
    refine r_aload_n hw dX7_cutOne_43 0 rfl ?_
    obtain ⟨h18, m37⟩ := h_ck m36
    clear m36
    obtain ⟨M17, g17, m38⟩ := h_bd m37
    clear m37
    refine r_callV0 hw (tX3_take l G b0 g17) lB_X3_take lI_X3_take mL_X7_181 (c := 3) rfl h18 rfl (Nat.le_of_ble_eq_true rfl) (Nat.le_of_ble_eq_true rfl) rfl (Nat.le_of_ble_eq_true rfl) dX7_cutOne_44 ?_
    refine r_aload_n hw dX7_cutOne_47 1 rfl ?_
    refine r_getR hw fO_X7_64 h1 bq16 dX7_cutOne_48 ?_
    refine r_aload_n hw dX7_cutOne_51 1 rfl ?_
    refine r_getR hw fO_X7_77 h1 bq11 dX7_cutOne_52 ?_
    obtain ⟨M19, g19, m39⟩ := h_bd m38
    clear m38
    refine r_callV0 hw (tX3_setPlace l G b0 g19) lB_X3_setPlace lI_X3_setPlace mL_X7_183 (c := 3) rfl h18 rfl (Nat.le_of_ble_eq_true rfl) (Nat.le_of_ble_eq_true rfl) rfl (Nat.le_of_ble_eq_true rfl) dX7_cutOne_55 ?_
    refine r_aload_n hw dX7_cutOne_58 0 rfl ?_
    refine r_aload_n hw dX7_cutOne_59 1 rfl ?_
    refine r_getR hw fO_X7_74 h1 bq10 dX7_cutOne_60 ?_
    obtain ⟨M20, g20, m40⟩ := h_bd m39
    clear m39
    refine r_callV0 hw (tX3_setPlace l G b0 g20) lB_X3_setPlace lI_X3_setPlace mL_X7_183 (c := 3) rfl h8 rfl (Nat.le_of_ble_eq_true rfl) (Nat.le_of_ble_eq_true rfl) rfl (Nat.le_of_ble_eq_true rfl) dX7_cutOne_63 ?_
    refine r_aload_n hw dX7_cutOne_66 2 rfl ?_
    refine r_aload_n hw dX7_cutOne_67 1 rfl ?_
    refine r_getR hw fO_X7_64 h1 bq16 dX7_cutOne_68 ?_
    obtain ⟨M21, g21, m41⟩ := h_bd m40
    clear m40
    refine r_callV0 hw (tX4_add l G b0 g21) lB_X4_add lI_X4_add mL_X7_135 (c := 4) rfl h2 rfl (Nat.le_of_ble_eq_true rfl) (Nat.le_of_ble_eq_true rfl) rfl (Nat.le_of_ble_eq_true rfl) dX7_cutOne_71 ?_
    refine r_iconst (v := 1) hw dX7_cutOne_74 rfl ?_
    cases h_ret m41
    exact r_zreturn hq isB_1 rfl rfl dX7_cutOne_75
  · have m42 := h_if_t c15 m34
    clear m34
    refine r_iconst (v := 0) hw dX7_cutOne_37 rfl ?_
    cases h_ret m42
    exact r_zreturn hq isB_0 rfl rfl dX7_cutOne_38
theorem dX7_cutThose_0 : decode cX7_cutThose 0 = .ok (.aload_n 0, 1) := by decide +kernel
theorem dX7_cutThose_1 : decode cX7_cutThose 1 = .ok (.getfield 25, 3) := by decide +kernel
theorem dX7_cutThose_4 : decode cX7_cutThose 4 = .ok (.invokevirtual 170, 3) := by decide +kernel
theorem dX7_cutThose_7 : decode cX7_cutThose 7 = .ok (.astore_n 2, 1) := by decide +kernel
theorem dX7_cutThose_8 : decode cX7_cutThose 8 = .ok (.iconst 0, 1) := by decide +kernel
theorem dX7_cutThose_9 : decode cX7_cutThose 9 = .ok (.istore_n 3, 1) := by decide +kernel
theorem dX7_cutThose_10 : decode cX7_cutThose 10 = .ok (.iload_n 3, 1) := by decide +kernel
theorem dX7_cutThose_11 : decode cX7_cutThose 11 = .ok (.iload_n 1, 1) := by decide +kernel
theorem dX7_cutThose_12 : decode cX7_cutThose 12 = .ok (.if_icmp .ge 54, 3) := by decide +kernel
theorem dX7_cutThose_15 : decode cX7_cutThose 15 = .ok (.aload_n 2, 1) := by decide +kernel
theorem dX7_cutThose_16 : decode cX7_cutThose 16 = .ok (.getfield 149, 3) := by decide +kernel
theorem dX7_cutThose_19 : decode cX7_cutThose 19 = .ok (.iload_n 3, 1) := by decide +kernel
theorem dX7_cutThose_20 : decode cX7_cutThose 20 = .ok (.aaload, 1) := by decide +kernel
theorem dX7_cutThose_21 : decode cX7_cutThose 21 = .ok (.aload_n 0, 1) := by decide +kernel
theorem dX7_cutThose_22 : decode cX7_cutThose 22 = .ok (.getfield 68, 3) := by decide +kernel
theorem dX7_cutThose_25 : decode cX7_cutThose 25 = .ok (.invokevirtual 153, 3) := by decide +kernel
theorem dX7_cutThose_28 : decode cX7_cutThose 28 = .ok (.aload_n 0, 1) := by decide +kernel
theorem dX7_cutThose_29 : decode cX7_cutThose 29 = .ok (.getfield 50, 3) := by decide +kernel
theorem dX7_cutThose_32 : decode cX7_cutThose 32 = .ok (.aload_n 0, 1) := by decide +kernel
theorem dX7_cutThose_33 : decode cX7_cutThose 33 = .ok (.getfield 68, 3) := by decide +kernel
theorem dX7_cutThose_36 : decode cX7_cutThose 36 = .ok (.invokevirtual 156, 3) := by decide +kernel
theorem dX7_cutThose_39 : decode cX7_cutThose 39 = .ok (.aload_n 0, 1) := by decide +kernel
theorem dX7_cutThose_40 : decode cX7_cutThose 40 = .ok (.getfield 50, 3) := by decide +kernel
theorem dX7_cutThose_43 : decode cX7_cutThose 43 = .ok (.invokevirtual 159, 3) := by decide +kernel
theorem dX7_cutThose_46 : decode cX7_cutThose 46 = .ok (.ifCond .eq 14, 3) := by decide +kernel
theorem dX7_cutThose_49 : decode cX7_cutThose 49 = .ok (.aload_n 0, 1) := by decide +kernel
theorem dX7_cutThose_50 : decode cX7_cutThose 50 = .ok (.aload_n 2, 1) := by decide +kernel
theorem dX7_cutThose_51 : decode cX7_cutThose 51 = .ok (.iload_n 3, 1) := by decide +kernel
theorem dX7_cutThose_52 : decode cX7_cutThose 52 = .ok (.invokevirtual 173, 3) := by decide +kernel
theorem dX7_cutThose_55 : decode cX7_cutThose 55 = .ok (.ifCond .ne 5, 3) := by decide +kernel
theorem dX7_cutThose_58 : decode cX7_cutThose 58 = .ok (.iconst 0, 1) := by decide +kernel
theorem dX7_cutThose_59 : decode cX7_cutThose 59 = .ok (.ireturn, 1) := by decide +kernel
theorem dX7_cutThose_60 : decode cX7_cutThose 60 = .ok (.iinc 3 1, 3) := by decide +kernel
theorem dX7_cutThose_63 : decode cX7_cutThose 63 = .ok (.goto (-53), 3) := by decide +kernel
theorem dX7_cutThose_66 : decode cX7_cutThose 66 = .ok (.aload_n 0, 1) := by decide +kernel
theorem dX7_cutThose_67 : decode cX7_cutThose 67 = .ok (.getfield 25, 3) := by decide +kernel
theorem dX7_cutThose_70 : decode cX7_cutThose 70 = .ok (.invokevirtual 138, 3) := by decide +kernel
theorem dX7_cutThose_73 : decode cX7_cutThose 73 = .ok (.iconst 1, 1) := by decide +kernel
theorem dX7_cutThose_74 : decode cX7_cutThose 74 = .ok (.ireturn, 1) := by decide +kernel
set_option maxHeartbeats 4000000 in
set_option maxRecDepth 100000 in
theorem tX7_cutThose (l : Launch) (G : Gg) (b0 : Nat) {K : Kk} {R : Rr} {M : Mm} {r : Nat} {a0 : Int32} {res : Int32} {R' : Rr} {M' : Mm} (hm : mX7_cutThose K R M r a0 = some (res, R', M')) : CT l G b0 yX7_cutThose cX7_cutThose 4 (some .boolean) (rmz 6 134) [.ref r, .int a0] K R M (some (.int res)) K R' M' := by
  refine ct_of (by decide +kernel) (Nat.le_of_ble_eq_true rfl) (fun w hq => ?_)
  have hw := hq.b
  change w 0 0 0 [(0, .ref r), (1, .int a0)] [] K R M
  replace hm := h_start hm
  unfold mX7_cutThose at hm
  obtain ⟨h1, m32⟩ := h_ck hm
  clear hm
  refine r_aload_n hw dX7_cutThose_0 0 rfl ?_
  obtain ⟨q2, bq2, m33⟩ := h_bd m32
  clear m32
  refine r_getR hw fO_X7_25 h1 bq2 dX7_cutThose_1 ?_
  obtain ⟨h5, m34⟩ := h_ck m33
  clear m33
  obtain ⟨q3, M4, g4, m35⟩ := h_bd2 m34
  clear m34
  refine r_callV1 hw (tX1_draft l G b0 g4) lB_X1_draft lI_X1_draft mL_X7_170 (c := 1) rfl h5 rfl (Nat.le_of_ble_eq_true rfl) (Nat.le_of_ble_eq_true rfl) rfl (Nat.le_of_ble_eq_true rfl) dX7_cutThose_4 ?_
  refine r_astore_n hw dX7_cutThose_7 rfl (by decide) rfl ?_
  refine r_iconst (v := 0) hw dX7_cutThose_8 rfl ?_
  obtain ⟨i6, ei6, m36⟩ := h_nm m35
  clear m35
  refine r_topI (w := w) ei6 ?_
  refine r_istore_n hw dX7_cutThose_9 rfl (by decide) rfl ?_
  refine r_sub hw [2, 3, 1, 0] rfl ?_
  obtain ⟨v10, n010, hn10, hv10⟩ := h_lp m36
  clear m36
  have L10 : ∀ n : Nat, ∀ (i7 : Int32) (M8 : Mm), it (mX7_cutThose_L10 K R r a0 q3) n (i7, M8) = some v10 → w 0 0 10 [(0, .ref r), (1, .int a0), (2, .ref q3), (3, .int i7)] [] K R M8 := by
    intro n10
    induction n10 with
    | zero => intro i7 M8 hz; exact absurd hz h_it0
    | succ n10 ih10 =>
      intro i7 M8 m37
      replace m37 : (mX7_cutThose_B10 K R r a0 q3 i7 M8).bind (Sum.elim (it (mX7_cutThose_L10 K R r a0 q3) n10) some) = some v10 := m37
      unfold mX7_cutThose_B10 at m37
      have J60 : ∀ (M10 : Mm) (i9 : Int32), (mX7_cutThose_J60 K R M10 r a0 q3 i9).bind (Sum.elim (it (mX7_cutThose_L10 K R r a0 q3) n10) some) = some v10 → w 0 0 60 [(0, .ref r), (1, .int a0), (2, .ref q3), (3, .int i9)] [] K R M10 := by
        intro M10 i9 m38
        unfold mX7_cutThose_J60 at m38
        obtain ⟨i11, ei11, m39⟩ := h_nm m38
        clear m38
        refine r_iinc (j := 3) (v := i11) hw dX7_cutThose_60 rfl (by rw [ei11]; rfl) (by decide) rfl ?_
        refine r_goto (tgt := 10) hw dX7_cutThose_63 (by decide) ?_
        refine r_sub hw [1, 2, 3, 0] rfl ?_
        exact ih10 _ _ m39
      refine r_iload_n hw dX7_cutThose_10 3 rfl ?_
      refine r_iload_n hw dX7_cutThose_11 1 rfl ?_
      refine r_icmp_ge (tgt := 66) hw dX7_cutThose_12 (by decide) (fun c12 => ?_) (fun c12 => ?_)
      · have m40 := h_if_f c12 m37
        clear m37
        have m41 := h_ex m40 hv10
        clear m40
        refine r_aload_n hw dX7_cutThose_66 0 rfl ?_
        obtain ⟨q13, bq13, m42⟩ := h_bd m41
        clear m41
        refine r_getR hw fO_X7_25 h1 bq13 dX7_cutThose_67 ?_
        obtain ⟨h16, m43⟩ := h_ck m42
        clear m42
        obtain ⟨R14, M15, g15, m44⟩ := h_bd2 m43
        clear m43
        refine r_callV0 hw (tX1_keepDraft l G b0 g15) lB_X1_keepDraft lI_X1_keepDraft mL_X7_138 (c := 1) rfl h16 rfl (Nat.le_of_ble_eq_true rfl) (Nat.le_of_ble_eq_true rfl) rfl (Nat.le_of_ble_eq_true rfl) dX7_cutThose_70 ?_
        refine r_iconst (v := 1) hw dX7_cutThose_73 rfl ?_
        cases h_ret m44
        exact r_zreturn hq isB_1 rfl rfl dX7_cutThose_74
      · have m45 := h_if_t c12 m37
        clear m37
        refine r_aload_n hw dX7_cutThose_15 2 rfl ?_
        obtain ⟨h17, m46⟩ := h_ck m45
        clear m45
        obtain ⟨q18, bq18, m47⟩ := h_bd m46
        clear m46
        refine r_getR hw fO_X7_149 h17 bq18 dX7_cutThose_16 ?_
        refine r_iload_n hw dX7_cutThose_19 3 rfl ?_
        obtain ⟨h19, m48⟩ := h_ck m47
        clear m47
        obtain ⟨q20, bq20, m49⟩ := h_bd m48
        clear m48
        refine r_aaload hw 2 (by decide) h19 bq20 dX7_cutThose_20 ?_
        refine r_aload_n hw dX7_cutThose_21 0 rfl ?_
        obtain ⟨q21, bq21, m50⟩ := h_bd m49
        clear m49
        refine r_getR hw fO_X7_68 h1 bq21 dX7_cutThose_22 ?_
        obtain ⟨h23, m51⟩ := h_ck m50
        clear m50
        obtain ⟨M22, g22, m52⟩ := h_bd m51
        clear m51
        refine r_callV0 hw (tX3_placeInto l G b0 g22) lB_X3_placeInto lI_X3_placeInto mL_X7_153 (c := 3) rfl h23 rfl (Nat.le_of_ble_eq_true rfl) (Nat.le_of_ble_eq_true rfl) rfl (Nat.le_of_ble_eq_true rfl) dX7_cutThose_25 ?_
        refine r_aload_n hw dX7_cutThose_28 0 rfl ?_
        obtain ⟨q24, bq24, m53⟩ := h_bd m52
        clear m52
        refine r_getR hw fO_X7_50 h1 bq24 dX7_cutThose_29 ?_
        refine r_aload_n hw dX7_cutThose_32 0 rfl ?_
        refine r_getR hw fO_X7_68 h1 bq21 dX7_cutThose_33 ?_
        obtain ⟨h26, m54⟩ := h_ck m53
        clear m53
        obtain ⟨M25, g25, m55⟩ := h_bd m54
        clear m54
        refine r_callV0 hw (tX2_weigh l G b0 g25) lB_X2_weigh lI_X2_weigh mL_X7_156 (c := 2) rfl h26 rfl (Nat.le_of_ble_eq_true rfl) (Nat.le_of_ble_eq_true rfl) rfl (Nat.le_of_ble_eq_true rfl) dX7_cutThose_36 ?_
        refine r_aload_n hw dX7_cutThose_39 0 rfl ?_
        refine r_getR hw fO_X7_50 h1 bq24 dX7_cutThose_40 ?_
        obtain ⟨i27, g27, m56⟩ := h_bd m55
        clear m55
        refine r_callV1 hw (tX2_crosses l G b0 g27) lB_X2_crosses lI_X2_crosses mL_X7_159 (c := 2) rfl h26 rfl (Nat.le_of_ble_eq_true rfl) (Nat.le_of_ble_eq_true rfl) rfl (Nat.le_of_ble_eq_true rfl) dX7_cutThose_43 ?_
        refine r_if_eq (tgt := 60) hw dX7_cutThose_46 (by decide) (fun c28 => ?_) (fun c28 => ?_)
        · have m57 := h_if_t c28 m56
          clear m56
          exact J60 _ _ m57
        · have m58 := h_if_f c28 m56
          clear m56
          refine r_aload_n hw dX7_cutThose_49 0 rfl ?_
          refine r_aload_n hw dX7_cutThose_50 2 rfl ?_
          refine r_iload_n hw dX7_cutThose_51 3 rfl ?_
          obtain ⟨i29, M30, g30, m59⟩ := h_bd2 m58
          clear m58
          refine r_callV1 hw (tX7_cutOne l G b0 g30) lB_X7_cutOne lI_X7_cutOne mL_X7_173 (c := 7) rfl h1 rfl (Nat.le_of_ble_eq_true rfl) (Nat.le_of_ble_eq_true rfl) rfl (Nat.le_of_ble_eq_true rfl) dX7_cutThose_52 ?_
          refine r_if_ne (tgt := 60) hw dX7_cutThose_55 (by decide) (fun c31 => ?_) (fun c31 => ?_)
          · have m60 := h_if_f c31 m59
            clear m59
            exact J60 _ _ m60
          · have m61 := h_if_t c31 m59
            clear m59
            have m62 := h_ex m61 hv10
            clear m61
            refine r_iconst (v := 0) hw dX7_cutThose_58 rfl ?_
            cases h_ret m62
            exact r_zreturn hq isB_0 rfl rfl dX7_cutThose_59
  exact L10 n010 _ _ hn10
