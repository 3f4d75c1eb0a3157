theorem dX8_originOf_0 : decode cX8_originOf 0 = .ok (.iconst 0, 1) := by decide +kernel
theorem dX8_originOf_1 : decode cX8_originOf 1 = .ok (.istore 8, 2) := by decide +kernel
theorem dX8_originOf_3 : decode cX8_originOf 3 = .ok (.iload 8, 2) := by decide +kernel
theorem dX8_originOf_5 : decode cX8_originOf 5 = .ok (.aload_n 0, 1) := by decide +kernel
theorem dX8_originOf_6 : decode cX8_originOf 6 = .ok (.getfield 118, 3) := by decide +kernel
theorem dX8_originOf_9 : decode cX8_originOf 9 = .ok (.if_icmp .ge 47, 3) := by decide +kernel
theorem dX8_originOf_12 : decode cX8_originOf 12 = .ok (.aload_n 0, 1) := by decide +kernel
theorem dX8_originOf_13 : decode cX8_originOf 13 = .ok (.getfield 60, 3) := by decide +kernel
theorem dX8_originOf_16 : decode cX8_originOf 16 = .ok (.iload 8, 2) := by decide +kernel
theorem dX8_originOf_18 : decode cX8_originOf 18 = .ok (.lload_n 2, 1) := by decide +kernel
theorem dX8_originOf_19 : decode cX8_originOf 19 = .ok (.aload_n 0, 1) := by decide +kernel
theorem dX8_originOf_20 : decode cX8_originOf 20 = .ok (.getfield 60, 3) := by decide +kernel
theorem dX8_originOf_23 : decode cX8_originOf 23 = .ok (.iload 8, 2) := by decide +kernel
theorem dX8_originOf_25 : decode cX8_originOf 25 = .ok (.laload, 1) := by decide +kernel
theorem dX8_originOf_26 : decode cX8_originOf 26 = .ok (.lload 4, 2) := by decide +kernel
theorem dX8_originOf_28 : decode cX8_originOf 28 = .ok (.lsub, 1) := by decide +kernel
theorem dX8_originOf_29 : decode cX8_originOf 29 = .ok (.lmul, 1) := by decide +kernel
theorem dX8_originOf_30 : decode cX8_originOf 30 = .ok (.lastore, 1) := by decide +kernel
theorem dX8_originOf_31 : decode cX8_originOf 31 = .ok (.aload_n 0, 1) := by decide +kernel
theorem dX8_originOf_32 : decode cX8_originOf 32 = .ok (.getfield 63, 3) := by decide +kernel
theorem dX8_originOf_35 : decode cX8_originOf 35 = .ok (.iload 8, 2) := by decide +kernel
theorem dX8_originOf_37 : decode cX8_originOf 37 = .ok (.lload_n 2, 1) := by decide +kernel
theorem dX8_originOf_38 : decode cX8_originOf 38 = .ok (.aload_n 0, 1) := by decide +kernel
theorem dX8_originOf_39 : decode cX8_originOf 39 = .ok (.getfield 63, 3) := by decide +kernel
theorem dX8_originOf_42 : decode cX8_originOf 42 = .ok (.iload 8, 2) := by decide +kernel
theorem dX8_originOf_44 : decode cX8_originOf 44 = .ok (.laload, 1) := by decide +kernel
theorem dX8_originOf_45 : decode cX8_originOf 45 = .ok (.lload 6, 2) := by decide +kernel
theorem dX8_originOf_47 : decode cX8_originOf 47 = .ok (.lsub, 1) := by decide +kernel
theorem dX8_originOf_48 : decode cX8_originOf 48 = .ok (.lmul, 1) := by decide +kernel
theorem dX8_originOf_49 : decode cX8_originOf 49 = .ok (.lastore, 1) := by decide +kernel
theorem dX8_originOf_50 : decode cX8_originOf 50 = .ok (.iinc 8 1, 3) := by decide +kernel
theorem dX8_originOf_53 : decode cX8_originOf 53 = .ok (.goto (-50), 3) := by decide +kernel
theorem dX8_originOf_56 : decode cX8_originOf 56 = .ok (.iconst 0, 1) := by decide +kernel
theorem dX8_originOf_57 : decode cX8_originOf 57 = .ok (.istore 8, 2) := by decide +kernel
theorem dX8_originOf_59 : decode cX8_originOf 59 = .ok (.iconst 1, 1) := by decide +kernel
theorem dX8_originOf_60 : decode cX8_originOf 60 = .ok (.istore 9, 2) := by decide +kernel
theorem dX8_originOf_62 : decode cX8_originOf 62 = .ok (.iload 9, 2) := by decide +kernel
theorem dX8_originOf_64 : decode cX8_originOf 64 = .ok (.aload_n 0, 1) := by decide +kernel
theorem dX8_originOf_65 : decode cX8_originOf 65 = .ok (.getfield 118, 3) := by decide +kernel
theorem dX8_originOf_68 : decode cX8_originOf 68 = .ok (.if_icmp .ge 72, 3) := by decide +kernel
theorem dX8_originOf_71 : decode cX8_originOf 71 = .ok (.aload_n 0, 1) := by decide +kernel
theorem dX8_originOf_72 : decode cX8_originOf 72 = .ok (.getfield 60, 3) := by decide +kernel
theorem dX8_originOf_75 : decode cX8_originOf 75 = .ok (.iload 9, 2) := by decide +kernel
theorem dX8_originOf_77 : decode cX8_originOf 77 = .ok (.laload, 1) := by decide +kernel
theorem dX8_originOf_78 : decode cX8_originOf 78 = .ok (.aload_n 0, 1) := by decide +kernel
theorem dX8_originOf_79 : decode cX8_originOf 79 = .ok (.getfield 60, 3) := by decide +kernel
theorem dX8_originOf_82 : decode cX8_originOf 82 = .ok (.iload 8, 2) := by decide +kernel
theorem dX8_originOf_84 : decode cX8_originOf 84 = .ok (.laload, 1) := by decide +kernel
theorem dX8_originOf_85 : decode cX8_originOf 85 = .ok (.lcmp, 1) := by decide +kernel
theorem dX8_originOf_86 : decode cX8_originOf 86 = .ok (.ifCond .lt 39, 3) := by decide +kernel
theorem dX8_originOf_89 : decode cX8_originOf 89 = .ok (.aload_n 0, 1) := by decide +kernel
theorem dX8_originOf_90 : decode cX8_originOf 90 = .ok (.getfield 60, 3) := by decide +kernel
theorem dX8_originOf_93 : decode cX8_originOf 93 = .ok (.iload 9, 2) := by decide +kernel
theorem dX8_originOf_95 : decode cX8_originOf 95 = .ok (.laload, 1) := by decide +kernel
theorem dX8_originOf_96 : decode cX8_originOf 96 = .ok (.aload_n 0, 1) := by decide +kernel
theorem dX8_originOf_97 : decode cX8_originOf 97 = .ok (.getfield 60, 3) := by decide +kernel
theorem dX8_originOf_100 : decode cX8_originOf 100 = .ok (.iload 8, 2) := by decide +kernel
theorem dX8_originOf_102 : decode cX8_originOf 102 = .ok (.laload, 1) := by decide +kernel
theorem dX8_originOf_103 : decode cX8_originOf 103 = .ok (.lcmp, 1) := by decide +kernel
theorem dX8_originOf_104 : decode cX8_originOf 104 = .ok (.ifCond .ne 26, 3) := by decide +kernel
theorem dX8_originOf_107 : decode cX8_originOf 107 = .ok (.aload_n 0, 1) := by decide +kernel
theorem dX8_originOf_108 : decode cX8_originOf 108 = .ok (.getfield 63, 3) := by decide +kernel
theorem dX8_originOf_111 : decode cX8_originOf 111 = .ok (.iload 9, 2) := by decide +kernel
theorem dX8_originOf_113 : decode cX8_originOf 113 = .ok (.laload, 1) := by decide +kernel
theorem dX8_originOf_114 : decode cX8_originOf 114 = .ok (.aload_n 0, 1) := by decide +kernel
theorem dX8_originOf_115 : decode cX8_originOf 115 = .ok (.getfield 63, 3) := by decide +kernel
theorem dX8_originOf_118 : decode cX8_originOf 118 = .ok (.iload 8, 2) := by decide +kernel
theorem dX8_originOf_120 : decode cX8_originOf 120 = .ok (.laload, 1) := by decide +kernel
theorem dX8_originOf_121 : decode cX8_originOf 121 = .ok (.lcmp, 1) := by decide +kernel
theorem dX8_originOf_122 : decode cX8_originOf 122 = .ok (.ifCond .ge 8, 3) := by decide +kernel
theorem dX8_originOf_125 : decode cX8_originOf 125 = .ok (.iload 9, 2) := by decide +kernel
theorem dX8_originOf_127 : decode cX8_originOf 127 = .ok (.goto 5, 3) := by decide +kernel
theorem dX8_originOf_130 : decode cX8_originOf 130 = .ok (.iload 8, 2) := by decide +kernel
theorem dX8_originOf_132 : decode cX8_originOf 132 = .ok (.istore 8, 2) := by decide +kernel
theorem dX8_originOf_134 : decode cX8_originOf 134 = .ok (.iinc 9 1, 3) := by decide +kernel
theorem dX8_originOf_137 : decode cX8_originOf 137 = .ok (.goto (-75), 3) := by decide +kernel
theorem dX8_originOf_140 : decode cX8_originOf 140 = .ok (.aload_n 0, 1) := by decide +kernel
theorem dX8_originOf_141 : decode cX8_originOf 141 = .ok (.getfield 7, 3) := by decide +kernel
theorem dX8_originOf_144 : decode cX8_originOf 144 = .ok (.bipush 37, 2) := by decide +kernel
theorem dX8_originOf_146 : decode cX8_originOf 146 = .ok (.iload_n 1, 1) := by decide +kernel
theorem dX8_originOf_147 : decode cX8_originOf 147 = .ok (.imul, 1) := by decide +kernel
theorem dX8_originOf_148 : decode cX8_originOf 148 = .ok (.aload_n 0, 1) := by decide +kernel
theorem dX8_originOf_149 : decode cX8_originOf 149 = .ok (.getfield 118, 3) := by decide +kernel
theorem dX8_originOf_152 : decode cX8_originOf 152 = .ok (.i2l, 1) := by decide +kernel
theorem dX8_originOf_153 : decode cX8_originOf 153 = .ok (.lastore, 1) := by decide +kernel
theorem dX8_originOf_154 : decode cX8_originOf 154 = .ok (.iconst 0, 1) := by decide +kernel
theorem dX8_originOf_155 : decode cX8_originOf 155 = .ok (.istore 9, 2) := by decide +kernel
theorem dX8_originOf_157 : decode cX8_originOf 157 = .ok (.iload 9, 2) := by decide +kernel
theorem dX8_originOf_159 : decode cX8_originOf 159 = .ok (.aload_n 0, 1) := by decide +kernel
theorem dX8_originOf_160 : decode cX8_originOf 160 = .ok (.getfield 118, 3) := by decide +kernel
theorem dX8_originOf_163 : decode cX8_originOf 163 = .ok (.if_icmp .ge 71, 3) := by decide +kernel
theorem dX8_originOf_166 : decode cX8_originOf 166 = .ok (.aload_n 0, 1) := by decide +kernel
theorem dX8_originOf_167 : decode cX8_originOf 167 = .ok (.getfield 7, 3) := by decide +kernel
theorem dX8_originOf_170 : decode cX8_originOf 170 = .ok (.bipush 37, 2) := by decide +kernel
theorem dX8_originOf_172 : decode cX8_originOf 172 = .ok (.iload_n 1, 1) := by decide +kernel
theorem dX8_originOf_173 : decode cX8_originOf 173 = .ok (.imul, 1) := by decide +kernel
theorem dX8_originOf_174 : decode cX8_originOf 174 = .ok (.iconst 1, 1) := by decide +kernel
theorem dX8_originOf_175 : decode cX8_originOf 175 = .ok (.iadd, 1) := by decide +kernel
theorem dX8_originOf_176 : decode cX8_originOf 176 = .ok (.iconst 2, 1) := by decide +kernel
theorem dX8_originOf_177 : decode cX8_originOf 177 = .ok (.iload 9, 2) := by decide +kernel
theorem dX8_originOf_179 : decode cX8_originOf 179 = .ok (.imul, 1) := by decide +kernel
theorem dX8_originOf_180 : decode cX8_originOf 180 = .ok (.iadd, 1) := by decide +kernel
theorem dX8_originOf_181 : decode cX8_originOf 181 = .ok (.aload_n 0, 1) := by decide +kernel
theorem dX8_originOf_182 : decode cX8_originOf 182 = .ok (.getfield 60, 3) := by decide +kernel
theorem dX8_originOf_185 : decode cX8_originOf 185 = .ok (.iload 8, 2) := by decide +kernel
theorem dX8_originOf_187 : decode cX8_originOf 187 = .ok (.iload 9, 2) := by decide +kernel
theorem dX8_originOf_189 : decode cX8_originOf 189 = .ok (.iadd, 1) := by decide +kernel
theorem dX8_originOf_190 : decode cX8_originOf 190 = .ok (.aload_n 0, 1) := by decide +kernel
theorem dX8_originOf_191 : decode cX8_originOf 191 = .ok (.getfield 118, 3) := by decide +kernel
theorem dX8_originOf_194 : decode cX8_originOf 194 = .ok (.irem, 1) := by decide +kernel
theorem dX8_originOf_195 : decode cX8_originOf 195 = .ok (.laload, 1) := by decide +kernel
theorem dX8_originOf_196 : decode cX8_originOf 196 = .ok (.lastore, 1) := by decide +kernel
theorem dX8_originOf_197 : decode cX8_originOf 197 = .ok (.aload_n 0, 1) := by decide +kernel
theorem dX8_originOf_198 : decode cX8_originOf 198 = .ok (.getfield 7, 3) := by decide +kernel
theorem dX8_originOf_201 : decode cX8_originOf 201 = .ok (.bipush 37, 2) := by decide +kernel
theorem dX8_originOf_203 : decode cX8_originOf 203 = .ok (.iload_n 1, 1) := by decide +kernel
theorem dX8_originOf_204 : decode cX8_originOf 204 = .ok (.imul, 1) := by decide +kernel
theorem dX8_originOf_205 : decode cX8_originOf 205 = .ok (.iconst 2, 1) := by decide +kernel
theorem dX8_originOf_206 : decode cX8_originOf 206 = .ok (.iadd, 1) := by decide +kernel
theorem dX8_originOf_207 : decode cX8_originOf 207 = .ok (.iconst 2, 1) := by decide +kernel
theorem dX8_originOf_208 : decode cX8_originOf 208 = .ok (.iload 9, 2) := by decide +kernel
theorem dX8_originOf_210 : decode cX8_originOf 210 = .ok (.imul, 1) := by decide +kernel
theorem dX8_originOf_211 : decode cX8_originOf 211 = .ok (.iadd, 1) := by decide +kernel
theorem dX8_originOf_212 : decode cX8_originOf 212 = .ok (.aload_n 0, 1) := by decide +kernel
theorem dX8_originOf_213 : decode cX8_originOf 213 = .ok (.getfield 63, 3) := by decide +kernel
theorem dX8_originOf_216 : decode cX8_originOf 216 = .ok (.iload 8, 2) := by decide +kernel
theorem dX8_originOf_218 : decode cX8_originOf 218 = .ok (.iload 9, 2) := by decide +kernel
theorem dX8_originOf_220 : decode cX8_originOf 220 = .ok (.iadd, 1) := by decide +kernel
theorem dX8_originOf_221 : decode cX8_originOf 221 = .ok (.aload_n 0, 1) := by decide +kernel
theorem dX8_originOf_222 : decode cX8_originOf 222 = .ok (.getfield 118, 3) := by decide +kernel
theorem dX8_originOf_225 : decode cX8_originOf 225 = .ok (.irem, 1) := by decide +kernel
theorem dX8_originOf_226 : decode cX8_originOf 226 = .ok (.laload, 1) := by decide +kernel
theorem dX8_originOf_227 : decode cX8_originOf 227 = .ok (.lastore, 1) := by decide +kernel
theorem dX8_originOf_228 : decode cX8_originOf 228 = .ok (.iinc 9 1, 3) := by decide +kernel
theorem dX8_originOf_231 : decode cX8_originOf 231 = .ok (.goto (-74), 3) := by decide +kernel
theorem dX8_originOf_234 : decode cX8_originOf 234 = .ok (.return_, 1) := by decide +kernel
set_option maxHeartbeats 4000000 in
set_option maxRecDepth 100000 in
theorem tX8_originOf (l : Launch) (G : Gg) (b0 : Nat) {K : Kk} {R : Rr} {M : Mm} {r : Nat} {a0 : Int32} {a1 : Int64} {a2 : Int64} {a3 : Int64} {M' : Mm} (hm : mX8_originOf K R M r a0 a1 a2 a3 = some (M')) : CT l G b0 yX8_originOf cX8_originOf 10 none (rmz 1 0) [.ref r, .int a0, .long a1, .long a2, .long a3] K R M none K R M' := by
  refine ct_of (by decide +kernel) (Nat.le_of_ble_eq_true rfl) (fun w hq => ?_)
  have hw := hq.b
  change w 0 0 0 [(0, .ref r), (1, .int a0), (2, .long a1), (4, .long a2), (6, .long a3)] [] K R M
  replace hm := h_start hm
  unfold mX8_originOf at hm
  obtain ⟨h1, m52⟩ := h_ck hm
  clear hm
  refine r_iconst (v := 0) hw dX8_originOf_0 rfl ?_
  obtain ⟨i2, ei2, m53⟩ := h_nm m52
  clear m52
  refine r_topI (w := w) ei2 ?_
  refine r_istore hw dX8_originOf_1 (by decide) rfl ?_
  refine r_sub hw [1, 2, 3, 4, 5, 0] rfl ?_
  obtain ⟨v3, n03, hn3, hv3⟩ := h_lp m53
  clear m53
  have L3 : ∀ n : Nat, ∀ (i3 : Int32) (M4 : Mm), it (mX8_originOf_L3 K R r a0 a1 a2 a3) n (i3, M4) = some v3 → w 0 0 3 [(0, .ref r), (1, .int a0), (2, .long a1), (4, .long a2), (6, .long a3), (8, .int i3)] [] K R M4 := by
    intro n3
    induction n3 with
    | zero => intro i3 M4 hz; exact absurd hz h_it0
    | succ n3 ih3 =>
      intro i3 M4 m54
      replace m54 : (mX8_originOf_B3 K R r a0 a1 a2 a3 i3 M4).bind (Sum.elim (it (mX8_originOf_L3 K R r a0 a1 a2 a3) n3) some) = some v3 := m54
      unfold mX8_originOf_B3 at m54
      refine r_iload hw dX8_originOf_3 5 rfl ?_
      refine r_aload_n hw dX8_originOf_5 0 rfl ?_
      refine r_getI hw fO_X8_118 h1 dX8_originOf_6 ?_
      refine r_icmp_ge (tgt := 56) hw dX8_originOf_9 (by decide) (fun c5 => ?_) (fun c5 => ?_)
      · have m55 := h_if_f c5 m54
        clear m54
        have m56 := h_ex m55 hv3
        clear m55
        refine r_iconst (v := 0) hw dX8_originOf_56 rfl ?_
        obtain ⟨i6, ei6, m57⟩ := h_nm m56
        clear m56
        refine r_topI (w := w) ei6 ?_
        refine r_istore hw dX8_originOf_57 (by decide) rfl ?_
        refine r_iconst (v := 1) hw dX8_originOf_59 rfl ?_
        obtain ⟨i7, ei7, m58⟩ := h_nm m57
        clear m57
        refine r_topI (w := w) ei7 ?_
        refine r_istore hw dX8_originOf_60 (by decide) rfl ?_
        refine r_sub hw [2, 3, 1, 0] rfl ?_
        obtain ⟨v62, n062, hn62, hv62⟩ := h_lp m58
        clear m58
        have L62 : ∀ n : Nat, ∀ (i8 : Int32) (i9 : Int32), it (mX8_originOf_L62 K R M4 r a0) n (i8, i9) = some v62 → w 0 0 62 [(0, .ref r), (1, .int a0), (8, .int i8), (9, .int i9)] [] K R M4 := by
          intro n62
          induction n62 with
          | zero => intro i8 i9 hz; exact absurd hz h_it0
          | succ n62 ih62 =>
            intro i8 i9 m59
            replace m59 : (mX8_originOf_B62 K R M4 r a0 i8 i9).bind (Sum.elim (it (mX8_originOf_L62 K R M4 r a0) n62) some) = some v62 := m59
            unfold mX8_originOf_B62 at m59
            have J132 : ∀ (i10 : Int32) (s11 : Int32), (mX8_originOf_J132 K R M4 r a0 i10 s11).bind (Sum.elim (it (mX8_originOf_L62 K R M4 r a0) n62) some) = some v62 → w 0 0 132 [(0, .ref r), (1, .int a0), (9, .int i10)] [.int s11] K R M4 := by
              intro i10 s11 m60
              unfold mX8_originOf_J132 at m60
              refine r_istore hw dX8_originOf_132 (by decide) rfl ?_
              obtain ⟨i12, ei12, m61⟩ := h_nm m60
              clear m60
              refine r_iinc (j := 3) (v := i12) hw dX8_originOf_134 rfl (by rw [ei12]; rfl) (by decide) rfl ?_
              refine r_goto (tgt := 62) hw dX8_originOf_137 (by decide) ?_
              refine r_sub hw [2, 3, 1, 0] rfl ?_
              exact ih62 _ _ m61
            have J130 : ∀ (i13 : Int32) (i14 : Int32), (mX8_originOf_J130 K R M4 r a0 i13 i14).bind (Sum.elim (it (mX8_originOf_L62 K R M4 r a0) n62) some) = some v62 → w 0 0 130 [(0, .ref r), (1, .int a0), (8, .int i13), (9, .int i14)] [] K R M4 := by
              intro i13 i14 m62
              unfold mX8_originOf_J130 at m62
              refine r_iload hw dX8_originOf_130 2 rfl ?_
              refine r_sub hw [0, 1, 3] rfl ?_
              exact J132 _ _ m62
            have J125 : ∀ (i15 : Int32), (mX8_originOf_J125 K R M4 r a0 i15).bind (Sum.elim (it (mX8_originOf_L62 K R M4 r a0) n62) some) = some v62 → w 0 0 125 [(0, .ref r), (1, .int a0), (9, .int i15)] [] K R M4 := by
              intro i15 m63
              unfold mX8_originOf_J125 at m63
              refine r_iload hw dX8_originOf_125 2 rfl ?_
              refine r_goto (tgt := 132) hw dX8_originOf_127 (by decide) ?_
              exact J132 _ _ m63
            refine r_iload hw dX8_originOf_62 3 rfl ?_
            refine r_aload_n hw dX8_originOf_64 0 rfl ?_
            refine r_getI hw fO_X8_118 h1 dX8_originOf_65 ?_
            refine r_icmp_ge (tgt := 140) hw dX8_originOf_68 (by decide) (fun c16 => ?_) (fun c16 => ?_)
            · have m64 := h_if_f c16 m59
              clear m59
              have m65 := h_ex m64 hv62
              clear m64
              refine r_aload_n hw dX8_originOf_140 0 rfl ?_
              obtain ⟨q17, bq17, m66⟩ := h_bd m65
              clear m65
              refine r_getR hw fO_X8_7 h1 bq17 dX8_originOf_141 ?_
              refine r_bipush (v := 37) hw dX8_originOf_144 rfl ?_
              refine r_iload_n hw dX8_originOf_146 1 rfl ?_
              refine r_imul hw dX8_originOf_147 ?_
              refine r_aload_n hw dX8_originOf_148 0 rfl ?_
              refine r_getI hw fO_X8_118 h1 dX8_originOf_149 ?_
              refine r_i2l hw dX8_originOf_152 ?_
              obtain ⟨h18, m67⟩ := h_ck m66
              clear m66
              obtain ⟨M19, eM19, m68⟩ := h_nm m67
              clear m67
              refine r_lastore hw h18 dX8_originOf_153 (r_mem ?_ rfl eM19)
              refine r_iconst (v := 0) hw dX8_originOf_154 rfl ?_
              obtain ⟨i20, ei20, m69⟩ := h_nm m68
              clear m68
              refine r_topI (w := w) ei20 ?_
              refine r_istore hw dX8_originOf_155 (by decide) rfl ?_
              refine r_sub hw [1, 2, 3, 0] rfl ?_
              obtain ⟨v157, n0157, hn157, hv157⟩ := h_lp m69
              clear m69
              have L157 : ∀ n : Nat, ∀ (i21 : Int32) (M22 : Mm), it (mX8_originOf_L157 K R r a0 i8) n (i21, M22) = some v157 → w 0 0 157 [(0, .ref r), (1, .int a0), (8, .int i8), (9, .int i21)] [] K R M22 := by
                intro n157
                induction n157 with
                | zero => intro i21 M22 hz; exact absurd hz h_it0
                | succ n157 ih157 =>
                  intro i21 M22 m70
                  replace m70 : (mX8_originOf_B157 K R r a0 i8 i21 M22).bind (Sum.elim (it (mX8_originOf_L157 K R r a0 i8) n157) some) = some v157 := m70
                  unfold mX8_originOf_B157 at m70
                  refine r_iload hw dX8_originOf_157 3 rfl ?_
                  refine r_aload_n hw dX8_originOf_159 0 rfl ?_
                  refine r_getI hw fO_X8_118 h1 dX8_originOf_160 ?_
                  refine r_icmp_ge (tgt := 234) hw dX8_originOf_163 (by decide) (fun c23 => ?_) (fun c23 => ?_)
                  · have m71 := h_if_f c23 m70
                    clear m70
                    have m72 := h_ex m71 hv157
                    clear m71
                    cases h_ret m72
                    exact r_return hq rfl rfl dX8_originOf_234
                  · have m73 := h_if_t c23 m70
                    clear m70
                    refine r_aload_n hw dX8_originOf_166 0 rfl ?_
                    obtain ⟨q24, bq24, m74⟩ := h_bd m73
                    clear m73
                    refine r_getR hw fO_X8_7 h1 bq24 dX8_originOf_167 ?_
                    refine r_bipush (v := 37) hw dX8_originOf_170 rfl ?_
                    refine r_iload_n hw dX8_originOf_172 1 rfl ?_
                    refine r_imul hw dX8_originOf_173 ?_
                    refine r_iconst (v := 1) hw dX8_originOf_174 rfl ?_
                    refine r_iadd hw dX8_originOf_175 ?_
                    refine r_iconst (v := 2) hw dX8_originOf_176 rfl ?_
                    refine r_iload hw dX8_originOf_177 3 rfl ?_
                    refine r_imul hw dX8_originOf_179 ?_
                    refine r_iadd hw dX8_originOf_180 ?_
                    refine r_aload_n hw dX8_originOf_181 0 rfl ?_
                    obtain ⟨q25, bq25, m75⟩ := h_bd m74
                    clear m74
                    refine r_getR hw fO_X8_60 h1 bq25 dX8_originOf_182 ?_
                    refine r_iload hw dX8_originOf_185 2 rfl ?_
                    refine r_iload hw dX8_originOf_187 3 rfl ?_
                    refine r_iadd hw dX8_originOf_189 ?_
                    refine r_aload_n hw dX8_originOf_190 0 rfl ?_
                    refine r_getI hw fO_X8_118 h1 dX8_originOf_191 ?_
                    obtain ⟨h26, m76⟩ := h_ck m75
                    clear m75
                    refine r_irem hw dX8_originOf_194 h26 ?_
                    obtain ⟨h27, m77⟩ := h_ck m76
                    clear m76
                    refine r_laload hw h27 dX8_originOf_195 ?_
                    obtain ⟨h28, m78⟩ := h_ck m77
                    clear m77
                    obtain ⟨M29, eM29, m79⟩ := h_nm m78
                    clear m78
                    refine r_lastore hw h28 dX8_originOf_196 (r_mem ?_ rfl eM29)
                    refine r_aload_n hw dX8_originOf_197 0 rfl ?_
                    refine r_getR hw fO_X8_7 h1 bq24 dX8_originOf_198 ?_
                    refine r_bipush (v := 37) hw dX8_originOf_201 rfl ?_
                    refine r_iload_n hw dX8_originOf_203 1 rfl ?_
                    refine r_imul hw dX8_originOf_204 ?_
                    refine r_iconst (v := 2) hw dX8_originOf_205 rfl ?_
                    refine r_iadd hw dX8_originOf_206 ?_
                    refine r_iconst (v := 2) hw dX8_originOf_207 rfl ?_
                    refine r_iload hw dX8_originOf_208 3 rfl ?_
                    refine r_imul hw dX8_originOf_210 ?_
                    refine r_iadd hw dX8_originOf_211 ?_
                    refine r_aload_n hw dX8_originOf_212 0 rfl ?_
                    obtain ⟨q30, bq30, m80⟩ := h_bd m79
                    clear m79
                    refine r_getR hw fO_X8_63 h1 bq30 dX8_originOf_213 ?_
                    refine r_iload hw dX8_originOf_216 2 rfl ?_
                    refine r_iload hw dX8_originOf_218 3 rfl ?_
                    refine r_iadd hw dX8_originOf_220 ?_
                    refine r_aload_n hw dX8_originOf_221 0 rfl ?_
                    refine r_getI hw fO_X8_118 h1 dX8_originOf_222 ?_
                    obtain ⟨h31, m81⟩ := h_ck m80
                    clear m80
                    refine r_irem hw dX8_originOf_225 h31 ?_
                    obtain ⟨h32, m82⟩ := h_ck m81
                    clear m81
                    refine r_laload hw h32 dX8_originOf_226 ?_
                    obtain ⟨h33, m83⟩ := h_ck m82
                    clear m82
                    obtain ⟨M34, eM34, m84⟩ := h_nm m83
                    clear m83
                    refine r_lastore hw h33 dX8_originOf_227 (r_mem ?_ rfl eM34)
                    obtain ⟨i35, ei35, m85⟩ := h_nm m84
                    clear m84
                    refine r_iinc (j := 3) (v := i35) hw dX8_originOf_228 rfl (by rw [ei35]; rfl) (by decide) rfl ?_
                    refine r_goto (tgt := 157) hw dX8_originOf_231 (by decide) ?_
                    refine r_sub hw [1, 2, 3, 0] rfl ?_
                    exact ih157 _ _ m85
              exact L157 n0157 _ _ hn157
            · have m86 := h_if_t c16 m59
              clear m59
              refine r_aload_n hw dX8_originOf_71 0 rfl ?_
              obtain ⟨q36, bq36, m87⟩ := h_bd m86
              clear m86
              refine r_getR hw fO_X8_60 h1 bq36 dX8_originOf_72 ?_
              refine r_iload hw dX8_originOf_75 3 rfl ?_
              obtain ⟨h37, m88⟩ := h_ck m87
              clear m87
              refine r_laload hw h37 dX8_originOf_77 ?_
              refine r_aload_n hw dX8_originOf_78 0 rfl ?_
              refine r_getR hw fO_X8_60 h1 bq36 dX8_originOf_79 ?_
              refine r_iload hw dX8_originOf_82 2 rfl ?_
              obtain ⟨h38, m89⟩ := h_ck m88
              clear m88
              refine r_laload hw h38 dX8_originOf_84 ?_
              refine r_lcmp_lt (tgt := 125) hw dX8_originOf_85 dX8_originOf_86 (by decide) (fun c39 => ?_) (fun c39 => ?_)
              · have m90 := h_if_t c39 m89
                clear m89
                refine r_sub hw [0, 1, 3] rfl ?_
                exact J125 _ m90
              · have m91 := h_if_f c39 m89
                clear m89
                refine r_aload_n hw dX8_originOf_89 0 rfl ?_
                refine r_getR hw fO_X8_60 h1 bq36 dX8_originOf_90 ?_
                refine r_iload hw dX8_originOf_93 3 rfl ?_
                refine r_laload hw h37 dX8_originOf_95 ?_
                refine r_aload_n hw dX8_originOf_96 0 rfl ?_
                refine r_getR hw fO_X8_60 h1 bq36 dX8_originOf_97 ?_
                refine r_iload hw dX8_originOf_100 2 rfl ?_
                refine r_laload hw h38 dX8_originOf_102 ?_
                refine r_lcmp_ne (tgt := 130) hw dX8_originOf_103 dX8_originOf_104 (by decide) (fun c40 => ?_) (fun c40 => ?_)
                · have m92 := h_if_f c40 m91
                  clear m91
                  exact J130 _ _ m92
                · have m93 := h_if_t c40 m91
                  clear m91
                  refine r_aload_n hw dX8_originOf_107 0 rfl ?_
                  obtain ⟨q41, bq41, m94⟩ := h_bd m93
                  clear m93
                  refine r_getR hw fO_X8_63 h1 bq41 dX8_originOf_108 ?_
                  refine r_iload hw dX8_originOf_111 3 rfl ?_
                  obtain ⟨h42, m95⟩ := h_ck m94
                  clear m94
                  refine r_laload hw h42 dX8_originOf_113 ?_
                  refine r_aload_n hw dX8_originOf_114 0 rfl ?_
                  refine r_getR hw fO_X8_63 h1 bq41 dX8_originOf_115 ?_
                  refine r_iload hw dX8_originOf_118 2 rfl ?_
                  obtain ⟨h43, m96⟩ := h_ck m95
                  clear m95
                  refine r_laload hw h43 dX8_originOf_120 ?_
                  refine r_lcmp_ge (tgt := 130) hw dX8_originOf_121 dX8_originOf_122 (by decide) (fun c44 => ?_) (fun c44 => ?_)
                  · have m97 := h_if_f c44 m96
                    clear m96
                    exact J130 _ _ m97
                  · have m98 := h_if_t c44 m96
                    clear m96
                    refine r_sub hw [0, 1, 3] rfl ?_
                    exact J125 _ m98
        exact L62 n062 _ _ hn62
      · have m99 := h_if_t c5 m54
        clear m54
        refine r_aload_n hw dX8_originOf_12 0 rfl ?_
        obtain ⟨q45, bq45, m100⟩ := h_bd m99
        clear m99
        refine r_getR hw fO_X8_60 h1 bq45 dX8_originOf_13 ?_
        refine r_iload hw dX8_originOf_16 5 rfl ?_
        refine r_lload_n hw dX8_originOf_18 2 rfl ?_
        refine r_aload_n hw dX8_originOf_19 0 rfl ?_
        refine r_getR hw fO_X8_60 h1 bq45 dX8_originOf_20 ?_
        refine r_iload hw dX8_originOf_23 5 rfl ?_
        obtain ⟨h46, m101⟩ := h_ck m100
        clear m100
        refine r_laload hw h46 dX8_originOf_25 ?_
        refine r_lload hw dX8_originOf_26 3 rfl ?_
        refine r_lsub hw dX8_originOf_28 ?_
        refine r_lmul hw dX8_originOf_29 ?_
        obtain ⟨M47, eM47, m102⟩ := h_nm m101
        clear m101
        refine r_lastore hw h46 dX8_originOf_30 (r_mem ?_ rfl eM47)
        refine r_aload_n hw dX8_originOf_31 0 rfl ?_
        obtain ⟨q48, bq48, m103⟩ := h_bd m102
        clear m102
        refine r_getR hw fO_X8_63 h1 bq48 dX8_originOf_32 ?_
        refine r_iload hw dX8_originOf_35 5 rfl ?_
        refine r_lload_n hw dX8_originOf_37 2 rfl ?_
        refine r_aload_n hw dX8_originOf_38 0 rfl ?_
        refine r_getR hw fO_X8_63 h1 bq48 dX8_originOf_39 ?_
        refine r_iload hw dX8_originOf_42 5 rfl ?_
        obtain ⟨h49, m104⟩ := h_ck m103
        clear m103
        refine r_laload hw h49 dX8_originOf_44 ?_
        refine r_lload hw dX8_originOf_45 4 rfl ?_
        refine r_lsub hw dX8_originOf_47 ?_
        refine r_lmul hw dX8_originOf_48 ?_
        obtain ⟨M50, eM50, m105⟩ := h_nm m104
        clear m104
        refine r_lastore hw h49 dX8_originOf_49 (r_mem ?_ rfl eM50)
        obtain ⟨i51, ei51, m106⟩ := h_nm m105
        clear m105
        refine r_iinc (j := 5) (v := i51) hw dX8_originOf_50 rfl (by rw [ei51]; rfl) (by decide) rfl ?_
        refine r_goto (tgt := 3) hw dX8_originOf_53 (by decide) ?_
        refine r_sub hw [1, 2, 3, 4, 5, 0] rfl ?_
        exact ih3 _ _ m106
  exact L3 n03 _ _ hn3
theorem dX8_move_0 : decode cX8_move 0 = .ok (.aload_n 0, 1) := by decide +kernel
theorem dX8_move_1 : decode cX8_move 1 = .ok (.getfield 7, 3) := by decide +kernel
theorem dX8_move_4 : decode cX8_move 4 = .ok (.bipush 37, 2) := by decide +kernel
theorem dX8_move_6 : decode cX8_move 6 = .ok (.iload_n 1, 1) := by decide +kernel
theorem dX8_move_7 : decode cX8_move 7 = .ok (.imul, 1) := by decide +kernel
theorem dX8_move_8 : decode cX8_move 8 = .ok (.bipush 33, 2) := by decide +kernel
theorem dX8_move_10 : decode cX8_move 10 = .ok (.iadd, 1) := by decide +kernel
theorem dX8_move_11 : decode cX8_move 11 = .ok (.lload_n 2, 1) := by decide +kernel
theorem dX8_move_12 : decode cX8_move 12 = .ok (.lastore, 1) := by decide +kernel
theorem dX8_move_13 : decode cX8_move 13 = .ok (.aload_n 0, 1) := by decide +kernel
theorem dX8_move_14 : decode cX8_move 14 = .ok (.getfield 7, 3) := by decide +kernel
theorem dX8_move_17 : decode cX8_move 17 = .ok (.bipush 37, 2) := by decide +kernel
theorem dX8_move_19 : decode cX8_move 19 = .ok (.iload_n 1, 1) := by decide +kernel
theorem dX8_move_20 : decode cX8_move 20 = .ok (.imul, 1) := by decide +kernel
theorem dX8_move_21 : decode cX8_move 21 = .ok (.bipush 34, 2) := by decide +kernel
theorem dX8_move_23 : decode cX8_move 23 = .ok (.iadd, 1) := by decide +kernel
theorem dX8_move_24 : decode cX8_move 24 = .ok (.lload 4, 2) := by decide +kernel
theorem dX8_move_26 : decode cX8_move 26 = .ok (.lastore, 1) := by decide +kernel
theorem dX8_move_27 : decode cX8_move 27 = .ok (.aload_n 0, 1) := by decide +kernel
theorem dX8_move_28 : decode cX8_move 28 = .ok (.getfield 7, 3) := by decide +kernel
theorem dX8_move_31 : decode cX8_move 31 = .ok (.bipush 37, 2) := by decide +kernel
theorem dX8_move_33 : decode cX8_move 33 = .ok (.iload_n 1, 1) := by decide +kernel
theorem dX8_move_34 : decode cX8_move 34 = .ok (.imul, 1) := by decide +kernel
theorem dX8_move_35 : decode cX8_move 35 = .ok (.bipush 35, 2) := by decide +kernel
theorem dX8_move_37 : decode cX8_move 37 = .ok (.iadd, 1) := by decide +kernel
theorem dX8_move_38 : decode cX8_move 38 = .ok (.lload 6, 2) := by decide +kernel
theorem dX8_move_40 : decode cX8_move 40 = .ok (.lastore, 1) := by decide +kernel
theorem dX8_move_41 : decode cX8_move 41 = .ok (.return_, 1) := by decide +kernel
set_option maxHeartbeats 4000000 in
set_option maxRecDepth 100000 in
theorem tX8_move (l : Launch) (G : Gg) (b0 : Nat) {K : Kk} {R : Rr} {M : Mm} {r : Nat} {a0 : Int32} {a1 : Int64} {a2 : Int64} {a3 : Int64} {M' : Mm} (hm : mX8_move K R M r a0 a1 a2 a3 = some (M')) : CT l G b0 yX8_move cX8_move 8 none (rmz 1 0) [.ref r, .int a0, .long a1, .long a2, .long a3] K R M none K R M' := by
  refine ct_of (by decide +kernel) (Nat.le_of_ble_eq_true rfl) (fun w hq => ?_)
  have hw := hq.b
  change w 0 0 0 [(0, .ref r), (1, .int a0), (2, .long a1), (4, .long a2), (6, .long a3)] [] K R M
  replace hm := h_start hm
  unfold mX8_move at hm
  obtain ⟨h1, m9⟩ := h_ck hm
  clear hm
  refine r_aload_n hw dX8_move_0 0 rfl ?_
  obtain ⟨q2, bq2, m10⟩ := h_bd m9
  clear m9
  refine r_getR hw fO_X8_7 h1 bq2 dX8_move_1 ?_
  refine r_bipush (v := 37) hw dX8_move_4 rfl ?_
  refine r_iload_n hw dX8_move_6 1 rfl ?_
  refine r_imul hw dX8_move_7 ?_
  refine r_bipush (v := 33) hw dX8_move_8 rfl ?_
  refine r_iadd hw dX8_move_10 ?_
  refine r_lload_n hw dX8_move_11 2 rfl ?_
  obtain ⟨h3, m11⟩ := h_ck m10
  clear m10
  obtain ⟨M4, eM4, m12⟩ := h_nm m11
  clear m11
  refine r_lastore hw h3 dX8_move_12 (r_mem ?_ rfl eM4)
  refine r_aload_n hw dX8_move_13 0 rfl ?_
  refine r_getR hw fO_X8_7 h1 bq2 dX8_move_14 ?_
  refine r_bipush (v := 37) hw dX8_move_17 rfl ?_
  refine r_iload_n hw dX8_move_19 1 rfl ?_
  refine r_imul hw dX8_move_20 ?_
  refine r_bipush (v := 34) hw dX8_move_21 rfl ?_
  refine r_iadd hw dX8_move_23 ?_
  refine r_lload hw dX8_move_24 3 rfl ?_
  obtain ⟨h5, m13⟩ := h_ck m12
  clear m12
  obtain ⟨M6, eM6, m14⟩ := h_nm m13
  clear m13
  refine r_lastore hw h5 dX8_move_26 (r_mem ?_ rfl eM6)
  refine r_aload_n hw dX8_move_27 0 rfl ?_
  refine r_getR hw fO_X8_7 h1 bq2 dX8_move_28 ?_
  refine r_bipush (v := 37) hw dX8_move_31 rfl ?_
  refine r_iload_n hw dX8_move_33 1 rfl ?_
  refine r_imul hw dX8_move_34 ?_
  refine r_bipush (v := 35) hw dX8_move_35 rfl ?_
  refine r_iadd hw dX8_move_37 ?_
  refine r_lload hw dX8_move_38 4 rfl ?_
  obtain ⟨h7, m15⟩ := h_ck m14
  clear m14
  obtain ⟨M8, eM8, m16⟩ := h_nm m15
  clear m15
  refine r_lastore hw h7 dX8_move_40 (r_mem ?_ rfl eM8)
  cases h_ret m16
  exact r_return hq rfl rfl dX8_move_41
theorem dX8_corner_0 : decode cX8_corner 0 = .ok (.iload_n 1, 1) := by decide +kernel
theorem dX8_corner_1 : decode cX8_corner 1 = .ok (.i2l, 1) := by decide +kernel
theorem dX8_corner_2 : decode cX8_corner 2 = .ok (.iload_n 2, 1) := by decide +kernel
theorem dX8_corner_3 : decode cX8_corner 3 = .ok (.i2l, 1) := by decide +kernel
theorem dX8_corner_4 : decode cX8_corner 4 = .ok (.invokestatic 156, 3) := by decide +kernel
theorem dX8_corner_7 : decode cX8_corner 7 = .ok (.ifCond .ne 7, 3) := by decide +kernel
theorem dX8_corner_10 : decode cX8_corner 10 = .ok (.ldc2_w 160, 3) := by decide +kernel
theorem dX8_corner_13 : decode cX8_corner 13 = .ok (.lreturn, 1) := by decide +kernel
theorem dX8_corner_14 : decode cX8_corner 14 = .ok (.aload_n 0, 1) := by decide +kernel
theorem dX8_corner_15 : decode cX8_corner 15 = .ok (.getfield 87, 3) := by decide +kernel
theorem dX8_corner_18 : decode cX8_corner 18 = .ok (.bipush 16, 2) := by decide +kernel
theorem dX8_corner_20 : decode cX8_corner 20 = .ok (.if_icmp .ne 7, 3) := by decide +kernel
theorem dX8_corner_23 : decode cX8_corner 23 = .ok (.ldc2_w 162, 3) := by decide +kernel
theorem dX8_corner_26 : decode cX8_corner 26 = .ok (.lreturn, 1) := by decide +kernel
theorem dX8_corner_27 : decode cX8_corner 27 = .ok (.aload_n 0, 1) := by decide +kernel
theorem dX8_corner_28 : decode cX8_corner 28 = .ok (.getfield 36, 3) := by decide +kernel
theorem dX8_corner_31 : decode cX8_corner 31 = .ok (.aload_n 0, 1) := by decide +kernel
theorem dX8_corner_32 : decode cX8_corner 32 = .ok (.getfield 87, 3) := by decide +kernel
theorem dX8_corner_35 : decode cX8_corner 35 = .ok (.iload_n 1, 1) := by decide +kernel
theorem dX8_corner_36 : decode cX8_corner 36 = .ok (.i2l, 1) := by decide +kernel
theorem dX8_corner_37 : decode cX8_corner 37 = .ok (.lastore, 1) := by decide +kernel
theorem dX8_corner_38 : decode cX8_corner 38 = .ok (.aload_n 0, 1) := by decide +kernel
theorem dX8_corner_39 : decode cX8_corner 39 = .ok (.getfield 39, 3) := by decide +kernel
theorem dX8_corner_42 : decode cX8_corner 42 = .ok (.aload_n 0, 1) := by decide +kernel
theorem dX8_corner_43 : decode cX8_corner 43 = .ok (.getfield 87, 3) := by decide +kernel
theorem dX8_corner_46 : decode cX8_corner 46 = .ok (.iload_n 2, 1) := by decide +kernel
theorem dX8_corner_47 : decode cX8_corner 47 = .ok (.i2l, 1) := by decide +kernel
theorem dX8_corner_48 : decode cX8_corner 48 = .ok (.lastore, 1) := by decide +kernel
theorem dX8_corner_49 : decode cX8_corner 49 = .ok (.aload_n 0, 1) := by decide +kernel
theorem dX8_corner_50 : decode cX8_corner 50 = .ok (.dup, 1) := by decide +kernel
theorem dX8_corner_51 : decode cX8_corner 51 = .ok (.getfield 87, 3) := by decide +kernel
theorem dX8_corner_54 : decode cX8_corner 54 = .ok (.iconst 1, 1) := by decide +kernel
theorem dX8_corner_55 : decode cX8_corner 55 = .ok (.iadd, 1) := by decide +kernel
theorem dX8_corner_56 : decode cX8_corner 56 = .ok (.putfield 87, 3) := by decide +kernel
theorem dX8_corner_59 : decode cX8_corner 59 = .ok (.aload_n 0, 1) := by decide +kernel
theorem dX8_corner_60 : decode cX8_corner 60 = .ok (.getfield 87, 3) := by decide +kernel
theorem dX8_corner_63 : decode cX8_corner 63 = .ok (.i2l, 1) := by decide +kernel
theorem dX8_corner_64 : decode cX8_corner 64 = .ok (.lreturn, 1) := by decide +kernel
set_option maxHeartbeats 4000000 in
set_option maxRecDepth 100000 in
theorem tX8_corner (l : Launch) (G : Gg) (b0 : Nat) {K : Kk} {R : Rr} {M : Mm} {r : Nat} {a0 : Int32} {a1 : Int32} {res : Int64} {M' : Mm} (hm : mX8_corner K R M r a0 a1 = some (res, M')) : CT l G b0 yX8_corner cX8_corner 3 (some .long) (rmz 3 48) [.ref r, .int a0, .int a1] K R M (some (.long res)) K R M' := by
  refine ct_of (by decide +kernel) (Nat.le_of_ble_eq_true rfl) (fun w hq => ?_)
  have hw := hq.b
  change w 0 0 0 [(0, .ref r), (1, .int a0), (2, .int a1)] [] K R M
  replace hm := h_start hm
  unfold mX8_corner at hm
  obtain ⟨h1, m12⟩ := h_ck hm
  clear hm
  refine r_iload_n hw dX8_corner_0 1 rfl ?_
  refine r_i2l hw dX8_corner_1 ?_
  refine r_iload_n hw dX8_corner_2 2 rfl ?_
  refine r_i2l hw dX8_corner_3 ?_
  obtain ⟨i2, g2, m13⟩ := h_bd m12
  clear m12
  refine r_callS1 hw (tX8_isPlace l G b0 g2) lB_X8_isPlace sT_X8_isPlace mL_X8_156 rfl rfl (Nat.le_of_ble_eq_true rfl) (Nat.le_of_ble_eq_true rfl) rfl (Nat.le_of_ble_eq_true rfl) dX8_corner_4 ?_
  refine r_if_ne (tgt := 14) hw dX8_corner_7 (by decide) (fun c3 => ?_) (fun c3 => ?_)
  · have m14 := h_if_f c3 m13
    clear m13
    refine r_aload_n hw dX8_corner_14 0 rfl ?_
    refine r_getI hw fO_X8_87 h1 dX8_corner_15 ?_
    refine r_bipush (v := 16) hw dX8_corner_18 rfl ?_
    refine r_icmp_ne (tgt := 27) hw dX8_corner_20 (by decide) (fun c4 => ?_) (fun c4 => ?_)
    · have m15 := h_if_f c4 m14
      clear m14
      refine r_aload_n hw dX8_corner_27 0 rfl ?_
      obtain ⟨q5, bq5, m16⟩ := h_bd m15
      clear m15
      refine r_getR hw fO_X8_36 h1 bq5 dX8_corner_28 ?_
      refine r_aload_n hw dX8_corner_31 0 rfl ?_
      refine r_getI hw fO_X8_87 h1 dX8_corner_32 ?_
      refine r_iload_n hw dX8_corner_35 1 rfl ?_
      refine r_i2l hw dX8_corner_36 ?_
      obtain ⟨h6, m17⟩ := h_ck m16
      clear m16
      obtain ⟨M7, eM7, m18⟩ := h_nm m17
      clear m17
      refine r_lastore hw h6 dX8_corner_37 (r_mem ?_ rfl eM7)
      refine r_aload_n hw dX8_corner_38 0 rfl ?_
      obtain ⟨q8, bq8, m19⟩ := h_bd m18
      clear m18
      refine r_getR hw fO_X8_39 h1 bq8 dX8_corner_39 ?_
      refine r_aload_n hw dX8_corner_42 0 rfl ?_
      refine r_getI hw fO_X8_87 h1 dX8_corner_43 ?_
      refine r_iload_n hw dX8_corner_46 2 rfl ?_
      refine r_i2l hw dX8_corner_47 ?_
      obtain ⟨h9, m20⟩ := h_ck m19
      clear m19
      obtain ⟨M10, eM10, m21⟩ := h_nm m20
      clear m20
      refine r_lastore hw h9 dX8_corner_48 (r_mem ?_ rfl eM10)
      refine r_aload_n hw dX8_corner_49 0 rfl ?_
      refine r_dup hw dX8_corner_50 rfl ?_
      refine r_getI hw fO_X8_87 h1 dX8_corner_51 ?_
      refine r_iconst (v := 1) hw dX8_corner_54 rfl ?_
      refine r_iadd hw dX8_corner_55 ?_
      obtain ⟨M11, eM11, m22⟩ := h_nm m21
      clear m21
      refine r_putI hw fP_X8_87 h1 dX8_corner_56 (r_mem ?_ rfl eM11)
      refine r_aload_n hw dX8_corner_59 0 rfl ?_
      refine r_getI hw fO_X8_87 h1 dX8_corner_60 ?_
      refine r_i2l hw dX8_corner_63 ?_
      cases h_ret m22
      exact r_lreturn hq rfl rfl dX8_corner_64
    · have m23 := h_if_t c4 m14
      clear m14
      refine r_ldc2 (v := (-9000000000000000003)) hw dX8_corner_23 kW_X8_162 ?_
      cases h_ret m23
      exact r_lreturn hq rfl rfl dX8_corner_26
  · have m24 := h_if_t c3 m13
    clear m13
    refine r_ldc2 (v := (-9000000000000000001)) hw dX8_corner_10 kW_X8_160 ?_
    cases h_ret m24
    exact r_lreturn hq rfl rfl dX8_corner_13
theorem dX8_goesAs_0 : decode cX8_goesAs 0 = .ok (.iconst 0, 1) := by decide +kernel
theorem dX8_goesAs_1 : decode cX8_goesAs 1 = .ok (.istore_n 2, 1) := by decide +kernel
theorem dX8_goesAs_2 : decode cX8_goesAs 2 = .ok (.iload_n 2, 1) := by decide +kernel
theorem dX8_goesAs_3 : decode cX8_goesAs 3 = .ok (.aload_n 0, 1) := by decide +kernel
theorem dX8_goesAs_4 : decode cX8_goesAs 4 = .ok (.getfield 87, 3) := by decide +kernel
theorem dX8_goesAs_7 : decode cX8_goesAs 7 = .ok (.if_icmp .ge 41, 3) := by decide +kernel
theorem dX8_goesAs_10 : decode cX8_goesAs 10 = .ok (.aload_n 0, 1) := by decide +kernel
theorem dX8_goesAs_11 : decode cX8_goesAs 11 = .ok (.getfield 36, 3) := by decide +kernel
theorem dX8_goesAs_14 : decode cX8_goesAs 14 = .ok (.iload_n 2, 1) := by decide +kernel
theorem dX8_goesAs_15 : decode cX8_goesAs 15 = .ok (.laload, 1) := by decide +kernel
theorem dX8_goesAs_16 : decode cX8_goesAs 16 = .ok (.aload_n 0, 1) := by decide +kernel
theorem dX8_goesAs_17 : decode cX8_goesAs 17 = .ok (.getfield 60, 3) := by decide +kernel
theorem dX8_goesAs_20 : decode cX8_goesAs 20 = .ok (.iconst 0, 1) := by decide +kernel
theorem dX8_goesAs_21 : decode cX8_goesAs 21 = .ok (.laload, 1) := by decide +kernel
theorem dX8_goesAs_22 : decode cX8_goesAs 22 = .ok (.lcmp, 1) := by decide +kernel
theorem dX8_goesAs_23 : decode cX8_goesAs 23 = .ok (.ifCond .ne 19, 3) := by decide +kernel
theorem dX8_goesAs_26 : decode cX8_goesAs 26 = .ok (.aload_n 0, 1) := by decide +kernel
theorem dX8_goesAs_27 : decode cX8_goesAs 27 = .ok (.getfield 39, 3) := by decide +kernel
theorem dX8_goesAs_30 : decode cX8_goesAs 30 = .ok (.iload_n 2, 1) := by decide +kernel
theorem dX8_goesAs_31 : decode cX8_goesAs 31 = .ok (.laload, 1) := by decide +kernel
theorem dX8_goesAs_32 : decode cX8_goesAs 32 = .ok (.aload_n 0, 1) := by decide +kernel
theorem dX8_goesAs_33 : decode cX8_goesAs 33 = .ok (.getfield 63, 3) := by decide +kernel
theorem dX8_goesAs_36 : decode cX8_goesAs 36 = .ok (.iconst 0, 1) := by decide +kernel
theorem dX8_goesAs_37 : decode cX8_goesAs 37 = .ok (.laload, 1) := by decide +kernel
theorem dX8_goesAs_38 : decode cX8_goesAs 38 = .ok (.lcmp, 1) := by decide +kernel
theorem dX8_goesAs_39 : decode cX8_goesAs 39 = .ok (.ifCond .eq 9, 3) := by decide +kernel
theorem dX8_goesAs_42 : decode cX8_goesAs 42 = .ok (.iinc 2 1, 3) := by decide +kernel
theorem dX8_goesAs_45 : decode cX8_goesAs 45 = .ok (.goto (-43), 3) := by decide +kernel
theorem dX8_goesAs_48 : decode cX8_goesAs 48 = .ok (.iload_n 2, 1) := by decide +kernel
theorem dX8_goesAs_49 : decode cX8_goesAs 49 = .ok (.aload_n 0, 1) := by decide +kernel
theorem dX8_goesAs_50 : decode cX8_goesAs 50 = .ok (.getfield 87, 3) := by decide +kernel
theorem dX8_goesAs_53 : decode cX8_goesAs 53 = .ok (.if_icmp .ne 5, 3) := by decide +kernel
theorem dX8_goesAs_56 : decode cX8_goesAs 56 = .ok (.iconst 0, 1) := by decide +kernel
theorem dX8_goesAs_57 : decode cX8_goesAs 57 = .ok (.ireturn, 1) := by decide +kernel
theorem dX8_goesAs_58 : decode cX8_goesAs 58 = .ok (.iconst 1, 1) := by decide +kernel
theorem dX8_goesAs_59 : decode cX8_goesAs 59 = .ok (.istore_n 3, 1) := by decide +kernel
theorem dX8_goesAs_60 : decode cX8_goesAs 60 = .ok (.iconst 0, 1) := by decide +kernel
theorem dX8_goesAs_61 : decode cX8_goesAs 61 = .ok (.istore 4, 2) := by decide +kernel
theorem dX8_goesAs_63 : decode cX8_goesAs 63 = .ok (.iload 4, 2) := by decide +kernel
theorem dX8_goesAs_65 : decode cX8_goesAs 65 = .ok (.aload_n 0, 1) := by decide +kernel
theorem dX8_goesAs_66 : decode cX8_goesAs 66 = .ok (.getfield 87, 3) := by decide +kernel
theorem dX8_goesAs_69 : decode cX8_goesAs 69 = .ok (.if_icmp .ge 73, 3) := by decide +kernel
theorem dX8_goesAs_72 : decode cX8_goesAs 72 = .ok (.iload_n 2, 1) := by decide +kernel
theorem dX8_goesAs_73 : decode cX8_goesAs 73 = .ok (.iload_n 1, 1) := by decide +kernel
theorem dX8_goesAs_74 : decode cX8_goesAs 74 = .ok (.iload 4, 2) := by decide +kernel
theorem dX8_goesAs_76 : decode cX8_goesAs 76 = .ok (.imul, 1) := by decide +kernel
theorem dX8_goesAs_77 : decode cX8_goesAs 77 = .ok (.iadd, 1) := by decide +kernel
theorem dX8_goesAs_78 : decode cX8_goesAs 78 = .ok (.aload_n 0, 1) := by decide +kernel
theorem dX8_goesAs_79 : decode cX8_goesAs 79 = .ok (.getfield 87, 3) := by decide +kernel
theorem dX8_goesAs_82 : decode cX8_goesAs 82 = .ok (.iadd, 1) := by decide +kernel
theorem dX8_goesAs_83 : decode cX8_goesAs 83 = .ok (.aload_n 0, 1) := by decide +kernel
theorem dX8_goesAs_84 : decode cX8_goesAs 84 = .ok (.getfield 87, 3) := by decide +kernel
theorem dX8_goesAs_87 : decode cX8_goesAs 87 = .ok (.irem, 1) := by decide +kernel
theorem dX8_goesAs_88 : decode cX8_goesAs 88 = .ok (.istore 5, 2) := by decide +kernel
theorem dX8_goesAs_90 : decode cX8_goesAs 90 = .ok (.iload_n 3, 1) := by decide +kernel
theorem dX8_goesAs_91 : decode cX8_goesAs 91 = .ok (.ifCond .eq 43, 3) := by decide +kernel
theorem dX8_goesAs_94 : decode cX8_goesAs 94 = .ok (.aload_n 0, 1) := by decide +kernel
theorem dX8_goesAs_95 : decode cX8_goesAs 95 = .ok (.getfield 36, 3) := by decide +kernel
theorem dX8_goesAs_98 : decode cX8_goesAs 98 = .ok (.iload 5, 2) := by decide +kernel
theorem dX8_goesAs_100 : decode cX8_goesAs 100 = .ok (.laload, 1) := by decide +kernel
theorem dX8_goesAs_101 : decode cX8_goesAs 101 = .ok (.aload_n 0, 1) := by decide +kernel
theorem dX8_goesAs_102 : decode cX8_goesAs 102 = .ok (.getfield 60, 3) := by decide +kernel
theorem dX8_goesAs_105 : decode cX8_goesAs 105 = .ok (.iload 4, 2) := by decide +kernel
theorem dX8_goesAs_107 : decode cX8_goesAs 107 = .ok (.laload, 1) := by decide +kernel
theorem dX8_goesAs_108 : decode cX8_goesAs 108 = .ok (.lcmp, 1) := by decide +kernel
theorem dX8_goesAs_109 : decode cX8_goesAs 109 = .ok (.ifCond .ne 25, 3) := by decide +kernel
theorem dX8_goesAs_112 : decode cX8_goesAs 112 = .ok (.aload_n 0, 1) := by decide +kernel
theorem dX8_goesAs_113 : decode cX8_goesAs 113 = .ok (.getfield 39, 3) := by decide +kernel
theorem dX8_goesAs_116 : decode cX8_goesAs 116 = .ok (.iload 5, 2) := by decide +kernel
theorem dX8_goesAs_118 : decode cX8_goesAs 118 = .ok (.laload, 1) := by decide +kernel
theorem dX8_goesAs_119 : decode cX8_goesAs 119 = .ok (.aload_n 0, 1) := by decide +kernel
theorem dX8_goesAs_120 : decode cX8_goesAs 120 = .ok (.getfield 63, 3) := by decide +kernel
theorem dX8_goesAs_123 : decode cX8_goesAs 123 = .ok (.iload 4, 2) := by decide +kernel
theorem dX8_goesAs_125 : decode cX8_goesAs 125 = .ok (.laload, 1) := by decide +kernel
theorem dX8_goesAs_126 : decode cX8_goesAs 126 = .ok (.lcmp, 1) := by decide +kernel
theorem dX8_goesAs_127 : decode cX8_goesAs 127 = .ok (.ifCond .ne 7, 3) := by decide +kernel
theorem dX8_goesAs_130 : decode cX8_goesAs 130 = .ok (.iconst 1, 1) := by decide +kernel
theorem dX8_goesAs_131 : decode cX8_goesAs 131 = .ok (.goto 4, 3) := by decide +kernel
theorem dX8_goesAs_134 : decode cX8_goesAs 134 = .ok (.iconst 0, 1) := by decide +kernel
theorem dX8_goesAs_135 : decode cX8_goesAs 135 = .ok (.istore_n 3, 1) := by decide +kernel
theorem dX8_goesAs_136 : decode cX8_goesAs 136 = .ok (.iinc 4 1, 3) := by decide +kernel
theorem dX8_goesAs_139 : decode cX8_goesAs 139 = .ok (.goto (-76), 3) := by decide +kernel
theorem dX8_goesAs_142 : decode cX8_goesAs 142 = .ok (.iload_n 3, 1) := by decide +kernel
theorem dX8_goesAs_143 : decode cX8_goesAs 143 = .ok (.ireturn, 1) := by decide +kernel
set_option maxHeartbeats 4000000 in
set_option maxRecDepth 100000 in
theorem tX8_goesAs (l : Launch) (G : Gg) (b0 : Nat) {K : Kk} {R : Rr} {M : Mm} {r : Nat} {a0 : Int32} {res : Int32} (hm : mX8_goesAs K R M r a0 = some (res)) : CT l G b0 yX8_goesAs cX8_goesAs 6 (some .boolean) (rmz 1 0) [.ref r, .int a0] K R M (some (.int res)) K R M := by
  refine ct_of (by decide +kernel) (Nat.le_of_ble_eq_true rfl) (fun w hq => ?_)
  have hw := hq.b
  change w 0 0 0 [(0, .ref r), (1, .int a0)] [] K R M
  replace hm := h_start hm
  unfold mX8_goesAs at hm
  obtain ⟨h1, m42⟩ := h_ck hm
  clear hm
  have J48 : ∀ (i2 : Int32), (mX8_goesAs_J48 K R M r a0 i2).bind some = some (res) → w 0 0 48 [(0, .ref r), (1, .int a0), (2, .int i2)] [] K R M := by
    intro i2 m43
    unfold mX8_goesAs_J48 at m43
    refine r_iload_n hw dX8_goesAs_48 2 rfl ?_
    refine r_aload_n hw dX8_goesAs_49 0 rfl ?_
    refine r_getI hw fO_X8_87 h1 dX8_goesAs_50 ?_
    refine r_icmp_ne (tgt := 58) hw dX8_goesAs_53 (by decide) (fun c3 => ?_) (fun c3 => ?_)
    · have m44 := h_if_f c3 m43
      clear m43
      refine r_iconst (v := 1) hw dX8_goesAs_58 rfl ?_
      obtain ⟨i4, ei4, m45⟩ := h_nm m44
      clear m44
      refine r_topI (w := w) ei4 ?_
      refine r_istore_n hw dX8_goesAs_59 rfl (by decide) rfl ?_
      refine r_iconst (v := 0) hw dX8_goesAs_60 rfl ?_
      obtain ⟨i5, ei5, m46⟩ := h_nm m45
      clear m45
      refine r_topI (w := w) ei5 ?_
      refine r_istore hw dX8_goesAs_61 (by decide) rfl ?_
      refine r_sub hw [2, 3, 4, 1, 0] rfl ?_
      obtain ⟨v63, n063, hn63, hv63⟩ := h_lp m46
      clear m46
      have L63 : ∀ n : Nat, ∀ (i6 : Int32) (i7 : Int32), it (mX8_goesAs_L63 K R M r a0 i2) n (i6, i7) = some v63 → w 0 0 63 [(0, .ref r), (1, .int a0), (2, .int i2), (3, .int i6), (4, .int i7)] [] K R M := by
        intro n63
        induction n63 with
        | zero => intro i6 i7 hz; exact absurd hz h_it0
        | succ n63 ih63 =>
          intro i6 i7 m47
          replace m47 : (mX8_goesAs_B63 K R M r a0 i2 i6 i7).bind (Sum.elim (it (mX8_goesAs_L63 K R M r a0 i2) n63) some) = some v63 := m47
          unfold mX8_goesAs_B63 at m47
          have J135 : ∀ (i8 : Int32) (s9 : Int32), (mX8_goesAs_J135 K R M r a0 i2 i8 s9).bind (Sum.elim (it (mX8_goesAs_L63 K R M r a0 i2) n63) some) = some v63 → w 0 0 135 [(0, .ref r), (1, .int a0), (2, .int i2), (4, .int i8)] [.int s9] K R M := by
            intro i8 s9 m48
            unfold mX8_goesAs_J135 at m48
            refine r_istore_n hw dX8_goesAs_135 rfl (by decide) rfl ?_
            obtain ⟨i10, ei10, m49⟩ := h_nm m48
            clear m48
            refine r_iinc (j := 4) (v := i10) hw dX8_goesAs_136 rfl (by rw [ei10]; rfl) (by decide) rfl ?_
            refine r_goto (tgt := 63) hw dX8_goesAs_139 (by decide) ?_
            refine r_sub hw [2, 3, 4, 1, 0] rfl ?_
            exact ih63 _ _ m49
          have J134 : ∀ (i11 : Int32), (mX8_goesAs_J134 K R M r a0 i2 i11).bind (Sum.elim (it (mX8_goesAs_L63 K R M r a0 i2) n63) some) = some v63 → w 0 0 134 [(0, .ref r), (1, .int a0), (2, .int i2), (4, .int i11)] [] K R M := by
            intro i11 m50
            unfold mX8_goesAs_J134 at m50
            refine r_iconst (v := 0) hw dX8_goesAs_134 rfl ?_
            exact J135 _ _ m50
          refine r_iload hw dX8_goesAs_63 4 rfl ?_
          refine r_aload_n hw dX8_goesAs_65 0 rfl ?_
          refine r_getI hw fO_X8_87 h1 dX8_goesAs_66 ?_
          refine r_icmp_ge (tgt := 142) hw dX8_goesAs_69 (by decide) (fun c12 => ?_) (fun c12 => ?_)
          · have m51 := h_if_f c12 m47
            clear m47
            have m52 := h_ex m51 hv63
            clear m51
            refine r_iload_n hw dX8_goesAs_142 3 rfl ?_
            obtain ⟨h13, m53⟩ := h_ck m52
            clear m52
            cases h_ret m53
            exact r_zreturn hq h13 rfl rfl dX8_goesAs_143
          · have m54 := h_if_t c12 m47
            clear m47
            refine r_iload_n hw dX8_goesAs_72 2 rfl ?_
            refine r_iload_n hw dX8_goesAs_73 1 rfl ?_
            refine r_iload hw dX8_goesAs_74 4 rfl ?_
            refine r_imul hw dX8_goesAs_76 ?_
            refine r_iadd hw dX8_goesAs_77 ?_
            refine r_aload_n hw dX8_goesAs_78 0 rfl ?_
            refine r_getI hw fO_X8_87 h1 dX8_goesAs_79 ?_
            refine r_iadd hw dX8_goesAs_82 ?_
            refine r_aload_n hw dX8_goesAs_83 0 rfl ?_
            refine r_getI hw fO_X8_87 h1 dX8_goesAs_84 ?_
            obtain ⟨h14, m55⟩ := h_ck m54
            clear m54
            refine r_irem hw dX8_goesAs_87 h14 ?_
            obtain ⟨i15, ei15, m56⟩ := h_nm m55
            clear m55
            refine r_topI (w := w) ei15 ?_
            refine r_istore hw dX8_goesAs_88 (by decide) rfl ?_
            refine r_iload_n hw dX8_goesAs_90 4 rfl ?_
            refine r_if_eq (tgt := 134) hw dX8_goesAs_91 (by decide) (fun c16 => ?_) (fun c16 => ?_)
            · have m57 := h_if_t c16 m56
              clear m56
              refine r_sub hw [1, 2, 3, 5] rfl ?_
              exact J134 _ m57
            · have m58 := h_if_f c16 m56
              clear m56
              refine r_aload_n hw dX8_goesAs_94 1 rfl ?_
              obtain ⟨q17, bq17, m59⟩ := h_bd m58
              clear m58
              refine r_getR hw fO_X8_36 h1 bq17 dX8_goesAs_95 ?_
              refine r_iload hw dX8_goesAs_98 0 rfl ?_
              obtain ⟨h18, m60⟩ := h_ck m59
              clear m59
              refine r_laload hw h18 dX8_goesAs_100 ?_
              refine r_aload_n hw dX8_goesAs_101 1 rfl ?_
              obtain ⟨q19, bq19, m61⟩ := h_bd m60
              clear m60
              refine r_getR hw fO_X8_60 h1 bq19 dX8_goesAs_102 ?_
              refine r_iload hw dX8_goesAs_105 5 rfl ?_
              obtain ⟨h20, m62⟩ := h_ck m61
              clear m61
              refine r_laload hw h20 dX8_goesAs_107 ?_
              refine r_lcmp_ne (tgt := 134) hw dX8_goesAs_108 dX8_goesAs_109 (by decide) (fun c21 => ?_) (fun c21 => ?_)
              · have m63 := h_if_f c21 m62
                clear m62
                refine r_sub hw [1, 2, 3, 5] rfl ?_
                exact J134 _ m63
              · have m64 := h_if_t c21 m62
                clear m62
                refine r_aload_n hw dX8_goesAs_112 1 rfl ?_
                obtain ⟨q22, bq22, m65⟩ := h_bd m64
                clear m64
                refine r_getR hw fO_X8_39 h1 bq22 dX8_goesAs_113 ?_
                refine r_iload hw dX8_goesAs_116 0 rfl ?_
                obtain ⟨h23, m66⟩ := h_ck m65
                clear m65
                refine r_laload hw h23 dX8_goesAs_118 ?_
                refine r_aload_n hw dX8_goesAs_119 1 rfl ?_
                obtain ⟨q24, bq24, m67⟩ := h_bd m66
                clear m66
                refine r_getR hw fO_X8_63 h1 bq24 dX8_goesAs_120 ?_
                refine r_iload hw dX8_goesAs_123 5 rfl ?_
                obtain ⟨h25, m68⟩ := h_ck m67
                clear m67
                refine r_laload hw h25 dX8_goesAs_125 ?_
                refine r_lcmp_ne (tgt := 134) hw dX8_goesAs_126 dX8_goesAs_127 (by decide) (fun c26 => ?_) (fun c26 => ?_)
                · have m69 := h_if_f c26 m68
                  clear m68
                  refine r_sub hw [1, 2, 3, 5] rfl ?_
                  exact J134 _ m69
                · have m70 := h_if_t c26 m68
                  clear m68
                  refine r_iconst (v := 1) hw dX8_goesAs_130 rfl ?_
                  refine r_goto (tgt := 135) hw dX8_goesAs_131 (by decide) ?_
                  refine r_sub hw [1, 2, 3, 5] rfl ?_
                  exact J135 _ _ m70
      exact L63 n063 _ _ hn63
    · have m71 := h_if_t c3 m43
      clear m43
      refine r_iconst (v := 0) hw dX8_goesAs_56 rfl ?_
      cases h_ret m71
      exact r_zreturn hq isB_0 rfl rfl dX8_goesAs_57
  refine r_iconst (v := 0) hw dX8_goesAs_0 rfl ?_
  obtain ⟨i27, ei27, m72⟩ := h_nm m42
  clear m42
  refine r_topI (w := w) ei27 ?_
  refine r_istore_n hw dX8_goesAs_1 rfl (by decide) rfl ?_
  refine r_sub hw [1, 2, 0] rfl ?_
  obtain ⟨v2, n02, hn2, hv2⟩ := h_lp m72
  clear m72
  have L2 : ∀ n : Nat, ∀ (i28 : Int32), it (mX8_goesAs_L2 K R M r a0) n (i28) = some v2 → w 0 0 2 [(0, .ref r), (1, .int a0), (2, .int i28)] [] K R M := by
    intro n2
    induction n2 with
    | zero => intro i28 hz; exact absurd hz h_it0
    | succ n2 ih2 =>
      intro i28 m73
      replace m73 : (mX8_goesAs_B2 K R M r a0 i28).bind (Sum.elim (it (mX8_goesAs_L2 K R M r a0) n2) some) = some v2 := m73
      unfold mX8_goesAs_B2 at m73
      have J42 : ∀ (i29 : Int32), (mX8_goesAs_J42 K R M r a0 i29).bind (Sum.elim (it (mX8_goesAs_L2 K R M r a0) n2) some) = some v2 → w 0 0 42 [(0, .ref r), (1, .int a0), (2, .int i29)] [] K R M := by
        intro i29 m74
        unfold mX8_goesAs_J42 at m74
        obtain ⟨i30, ei30, m75⟩ := h_nm m74
        clear m74
        refine r_iinc (j := 2) (v := i30) hw dX8_goesAs_42 rfl (by rw [ei30]; rfl) (by decide) rfl ?_
        refine r_goto (tgt := 2) hw dX8_goesAs_45 (by decide) ?_
        refine r_sub hw [1, 2, 0] rfl ?_
        exact ih2 _ m75
      refine r_iload_n hw dX8_goesAs_2 2 rfl ?_
      refine r_aload_n hw dX8_goesAs_3 0 rfl ?_
      refine r_getI hw fO_X8_87 h1 dX8_goesAs_4 ?_
      refine r_icmp_ge (tgt := 48) hw dX8_goesAs_7 (by decide) (fun c31 => ?_) (fun c31 => ?_)
      · have m76 := h_if_f c31 m73
        clear m73
        have m77 := h_ex m76 hv2
        clear m76
        exact J48 _ m77
      · have m78 := h_if_t c31 m73
        clear m73
        refine r_aload_n hw dX8_goesAs_10 0 rfl ?_
        obtain ⟨q32, bq32, m79⟩ := h_bd m78
        clear m78
        refine r_getR hw fO_X8_36 h1 bq32 dX8_goesAs_11 ?_
        refine r_iload_n hw dX8_goesAs_14 2 rfl ?_
        obtain ⟨h33, m80⟩ := h_ck m79
        clear m79
        refine r_laload hw h33 dX8_goesAs_15 ?_
        refine r_aload_n hw dX8_goesAs_16 0 rfl ?_
        obtain ⟨q34, bq34, m81⟩ := h_bd m80
        clear m80
        refine r_getR hw fO_X8_60 h1 bq34 dX8_goesAs_17 ?_
        refine r_iconst (v := 0) hw dX8_goesAs_20 rfl ?_
        obtain ⟨h35, m82⟩ := h_ck m81
        clear m81
        refine r_laload hw h35 dX8_goesAs_21 ?_
        refine r_lcmp_ne (tgt := 42) hw dX8_goesAs_22 dX8_goesAs_23 (by decide) (fun c36 => ?_) (fun c36 => ?_)
        · have m83 := h_if_f c36 m82
          clear m82
          exact J42 _ m83
        · have m84 := h_if_t c36 m82
          clear m82
          refine r_aload_n hw dX8_goesAs_26 0 rfl ?_
          obtain ⟨q37, bq37, m85⟩ := h_bd m84
          clear m84
          refine r_getR hw fO_X8_39 h1 bq37 dX8_goesAs_27 ?_
          refine r_iload_n hw dX8_goesAs_30 2 rfl ?_
          obtain ⟨h38, m86⟩ := h_ck m85
          clear m85
          refine r_laload hw h38 dX8_goesAs_31 ?_
          refine r_aload_n hw dX8_goesAs_32 0 rfl ?_
          obtain ⟨q39, bq39, m87⟩ := h_bd m86
          clear m86
          refine r_getR hw fO_X8_63 h1 bq39 dX8_goesAs_33 ?_
          refine r_iconst (v := 0) hw dX8_goesAs_36 rfl ?_
          obtain ⟨h40, m88⟩ := h_ck m87
          clear m87
          refine r_laload hw h40 dX8_goesAs_37 ?_
          refine r_lcmp_eq (tgt := 48) hw dX8_goesAs_38 dX8_goesAs_39 (by decide) (fun c41 => ?_) (fun c41 => ?_)
          · have m89 := h_if_t c41 m88
            clear m88
            have m90 := h_ex m89 hv2
            clear m89
            exact J48 _ m90
          · have m91 := h_if_f c41 m88
            clear m88
            exact J42 _ m91
  exact L2 n02 _ hn2
theorem dX8_figure_0 : decode cX8_figure 0 = .ok (.iload_n 1, 1) := by decide +kernel
theorem dX8_figure_1 : decode cX8_figure 1 = .ok (.i2l, 1) := by decide +kernel
theorem dX8_figure_2 : decode cX8_figure 2 = .ok (.lconst 0, 1) := by decide +kernel
theorem dX8_figure_3 : decode cX8_figure 3 = .ok (.ldc2_w 164, 3) := by decide +kernel
theorem dX8_figure_6 : decode cX8_figure 6 = .ok (.invokestatic 95, 3) := by decide +kernel
theorem dX8_figure_9 : decode cX8_figure 9 = .ok (.ifCond .ne 7, 3) := by decide +kernel
theorem dX8_figure_12 : decode cX8_figure 12 = .ok (.ldc2_w 160, 3) := by decide +kernel
theorem dX8_figure_15 : decode cX8_figure 15 = .ok (.lreturn, 1) := by decide +kernel
theorem dX8_figure_16 : decode cX8_figure 16 = .ok (.aload_n 0, 1) := by decide +kernel
theorem dX8_figure_17 : decode cX8_figure 17 = .ok (.invokevirtual 132, 3) := by decide +kernel
theorem dX8_figure_20 : decode cX8_figure 20 = .ok (.iconst 0, 1) := by decide +kernel
theorem dX8_figure_21 : decode cX8_figure 21 = .ok (.istore_n 2, 1) := by decide +kernel
theorem dX8_figure_22 : decode cX8_figure 22 = .ok (.iload_n 2, 1) := by decide +kernel
theorem dX8_figure_23 : decode cX8_figure 23 = .ok (.aload_n 0, 1) := by decide +kernel
theorem dX8_figure_24 : decode cX8_figure 24 = .ok (.getfield 87, 3) := by decide +kernel
theorem dX8_figure_27 : decode cX8_figure 27 = .ok (.if_icmp .ge 25, 3) := by decide +kernel
theorem dX8_figure_30 : decode cX8_figure 30 = .ok (.aload_n 0, 1) := by decide +kernel
theorem dX8_figure_31 : decode cX8_figure 31 = .ok (.aload_n 0, 1) := by decide +kernel
theorem dX8_figure_32 : decode cX8_figure 32 = .ok (.getfield 36, 3) := by decide +kernel
theorem dX8_figure_35 : decode cX8_figure 35 = .ok (.iload_n 2, 1) := by decide +kernel
theorem dX8_figure_36 : decode cX8_figure 36 = .ok (.laload, 1) := by decide +kernel
theorem dX8_figure_37 : decode cX8_figure 37 = .ok (.aload_n 0, 1) := by decide +kernel
theorem dX8_figure_38 : decode cX8_figure 38 = .ok (.getfield 39, 3) := by decide +kernel
theorem dX8_figure_41 : decode cX8_figure 41 = .ok (.iload_n 2, 1) := by decide +kernel
theorem dX8_figure_42 : decode cX8_figure 42 = .ok (.laload, 1) := by decide +kernel
theorem dX8_figure_43 : decode cX8_figure 43 = .ok (.invokevirtual 139, 3) := by decide +kernel
theorem dX8_figure_46 : decode cX8_figure 46 = .ok (.iinc 2 1, 3) := by decide +kernel
theorem dX8_figure_49 : decode cX8_figure 49 = .ok (.goto (-27), 3) := by decide +kernel
theorem dX8_figure_52 : decode cX8_figure 52 = .ok (.aload_n 0, 1) := by decide +kernel
theorem dX8_figure_53 : decode cX8_figure 53 = .ok (.invokevirtual 143, 3) := by decide +kernel
theorem dX8_figure_56 : decode cX8_figure 56 = .ok (.aload_n 0, 1) := by decide +kernel
theorem dX8_figure_57 : decode cX8_figure 57 = .ok (.getfield 118, 3) := by decide +kernel
theorem dX8_figure_60 : decode cX8_figure 60 = .ok (.iconst 3, 1) := by decide +kernel
theorem dX8_figure_61 : decode cX8_figure 61 = .ok (.if_icmp .lt 34, 3) := by decide +kernel
theorem dX8_figure_64 : decode cX8_figure 64 = .ok (.aload_n 0, 1) := by decide +kernel
theorem dX8_figure_65 : decode cX8_figure 65 = .ok (.getfield 118, 3) := by decide +kernel
theorem dX8_figure_68 : decode cX8_figure 68 = .ok (.aload_n 0, 1) := by decide +kernel
theorem dX8_figure_69 : decode cX8_figure 69 = .ok (.getfield 87, 3) := by decide +kernel
theorem dX8_figure_72 : decode cX8_figure 72 = .ok (.if_icmp .ne 23, 3) := by decide +kernel
theorem dX8_figure_75 : decode cX8_figure 75 = .ok (.aload_n 0, 1) := by decide +kernel
theorem dX8_figure_76 : decode cX8_figure 76 = .ok (.iconst 1, 1) := by decide +kernel
theorem dX8_figure_77 : decode cX8_figure 77 = .ok (.invokevirtual 166, 3) := by decide +kernel
theorem dX8_figure_80 : decode cX8_figure 80 = .ok (.ifCond .ne 11, 3) := by decide +kernel
theorem dX8_figure_83 : decode cX8_figure 83 = .ok (.aload_n 0, 1) := by decide +kernel
theorem dX8_figure_84 : decode cX8_figure 84 = .ok (.iconst (-1), 1) := by decide +kernel
theorem dX8_figure_85 : decode cX8_figure 85 = .ok (.invokevirtual 166, 3) := by decide +kernel
theorem dX8_figure_88 : decode cX8_figure 88 = .ok (.ifCond .eq 7, 3) := by decide +kernel
theorem dX8_figure_91 : decode cX8_figure 91 = .ok (.iconst 1, 1) := by decide +kernel
theorem dX8_figure_92 : decode cX8_figure 92 = .ok (.goto 4, 3) := by decide +kernel
theorem dX8_figure_95 : decode cX8_figure 95 = .ok (.iconst 0, 1) := by decide +kernel
theorem dX8_figure_96 : decode cX8_figure 96 = .ok (.istore_n 2, 1) := by decide +kernel
theorem dX8_figure_97 : decode cX8_figure 97 = .ok (.aload_n 0, 1) := by decide +kernel
theorem dX8_figure_98 : decode cX8_figure 98 = .ok (.iconst 0, 1) := by decide +kernel
theorem dX8_figure_99 : decode cX8_figure 99 = .ok (.putfield 87, 3) := by decide +kernel
theorem dX8_figure_102 : decode cX8_figure 102 = .ok (.iload_n 2, 1) := by decide +kernel
theorem dX8_figure_103 : decode cX8_figure 103 = .ok (.ifCond .ne 7, 3) := by decide +kernel
theorem dX8_figure_106 : decode cX8_figure 106 = .ok (.ldc2_w 113, 3) := by decide +kernel
theorem dX8_figure_109 : decode cX8_figure 109 = .ok (.lreturn, 1) := by decide +kernel
theorem dX8_figure_110 : decode cX8_figure 110 = .ok (.aload_n 0, 1) := by decide +kernel
theorem dX8_figure_111 : decode cX8_figure 111 = .ok (.getfield 32, 3) := by decide +kernel
theorem dX8_figure_114 : decode cX8_figure 114 = .ok (.iload_n 1, 1) := by decide +kernel
theorem dX8_figure_115 : decode cX8_figure 115 = .ok (.aload_n 0, 1) := by decide +kernel
theorem dX8_figure_116 : decode cX8_figure 116 = .ok (.getfield 118, 3) := by decide +kernel
theorem dX8_figure_119 : decode cX8_figure 119 = .ok (.iastore, 1) := by decide +kernel
theorem dX8_figure_120 : decode cX8_figure 120 = .ok (.iconst 0, 1) := by decide +kernel
theorem dX8_figure_121 : decode cX8_figure 121 = .ok (.istore_n 3, 1) := by decide +kernel
theorem dX8_figure_122 : decode cX8_figure 122 = .ok (.iload_n 3, 1) := by decide +kernel
theorem dX8_figure_123 : decode cX8_figure 123 = .ok (.aload_n 0, 1) := by decide +kernel
theorem dX8_figure_124 : decode cX8_figure 124 = .ok (.getfield 118, 3) := by decide +kernel
theorem dX8_figure_127 : decode cX8_figure 127 = .ok (.if_icmp .ge 43, 3) := by decide +kernel
theorem dX8_figure_130 : decode cX8_figure 130 = .ok (.aload_n 0, 1) := by decide +kernel
theorem dX8_figure_131 : decode cX8_figure 131 = .ok (.getfield 26, 3) := by decide +kernel
theorem dX8_figure_134 : decode cX8_figure 134 = .ok (.bipush 16, 2) := by decide +kernel
theorem dX8_figure_136 : decode cX8_figure 136 = .ok (.iload_n 1, 1) := by decide +kernel
theorem dX8_figure_137 : decode cX8_figure 137 = .ok (.imul, 1) := by decide +kernel
theorem dX8_figure_138 : decode cX8_figure 138 = .ok (.iload_n 3, 1) := by decide +kernel
theorem dX8_figure_139 : decode cX8_figure 139 = .ok (.iadd, 1) := by decide +kernel
theorem dX8_figure_140 : decode cX8_figure 140 = .ok (.aload_n 0, 1) := by decide +kernel
theorem dX8_figure_141 : decode cX8_figure 141 = .ok (.getfield 60, 3) := by decide +kernel
theorem dX8_figure_144 : decode cX8_figure 144 = .ok (.iload_n 3, 1) := by decide +kernel
theorem dX8_figure_145 : decode cX8_figure 145 = .ok (.laload, 1) := by decide +kernel
theorem dX8_figure_146 : decode cX8_figure 146 = .ok (.lastore, 1) := by decide +kernel
theorem dX8_figure_147 : decode cX8_figure 147 = .ok (.aload_n 0, 1) := by decide +kernel
theorem dX8_figure_148 : decode cX8_figure 148 = .ok (.getfield 29, 3) := by decide +kernel
theorem dX8_figure_151 : decode cX8_figure 151 = .ok (.bipush 16, 2) := by decide +kernel
theorem dX8_figure_153 : decode cX8_figure 153 = .ok (.iload_n 1, 1) := by decide +kernel
theorem dX8_figure_154 : decode cX8_figure 154 = .ok (.imul, 1) := by decide +kernel
theorem dX8_figure_155 : decode cX8_figure 155 = .ok (.iload_n 3, 1) := by decide +kernel
theorem dX8_figure_156 : decode cX8_figure 156 = .ok (.iadd, 1) := by decide +kernel
theorem dX8_figure_157 : decode cX8_figure 157 = .ok (.aload_n 0, 1) := by decide +kernel
theorem dX8_figure_158 : decode cX8_figure 158 = .ok (.getfield 63, 3) := by decide +kernel
theorem dX8_figure_161 : decode cX8_figure 161 = .ok (.iload_n 3, 1) := by decide +kernel
theorem dX8_figure_162 : decode cX8_figure 162 = .ok (.laload, 1) := by decide +kernel
theorem dX8_figure_163 : decode cX8_figure 163 = .ok (.lastore, 1) := by decide +kernel
theorem dX8_figure_164 : decode cX8_figure 164 = .ok (.iinc 3 1, 3) := by decide +kernel
theorem dX8_figure_167 : decode cX8_figure 167 = .ok (.goto (-45), 3) := by decide +kernel
theorem dX8_figure_170 : decode cX8_figure 170 = .ok (.aload_n 0, 1) := by decide +kernel
theorem dX8_figure_171 : decode cX8_figure 171 = .ok (.getfield 118, 3) := by decide +kernel
theorem dX8_figure_174 : decode cX8_figure 174 = .ok (.i2l, 1) := by decide +kernel
theorem dX8_figure_175 : decode cX8_figure 175 = .ok (.lreturn, 1) := by decide +kernel
set_option maxHeartbeats 4000000 in
set_option maxRecDepth 100000 in
theorem tX8_figure (l : Launch) (G : Gg) (b0 : Nat) {K : Kk} {R : Rr} {M : Mm} {r : Nat} {a0 : Int32} {res : Int64} {M' : Mm} (hm : mX8_figure K R M r a0 = some (res, M')) : CT l G b0 yX8_figure cX8_figure 4 (some .long) (rmz 4 87) [.ref r, .int a0] K R M (some (.long res)) K R M' := by
  refine ct_of (by decide +kernel) (Nat.le_of_ble_eq_true rfl) (fun w hq => ?_)
  have hw := hq.b
  change w 0 0 0 [(0, .ref r), (1, .int a0)] [] K R M
  replace hm := h_start hm
  unfold mX8_figure at hm
  obtain ⟨h1, m46⟩ := h_ck hm
  clear hm
  have J96 : ∀ (M3 : Mm) (s2 : Int32), (mX8_figure_J96 K R M3 r a0 s2).bind some = some (res, M') → w 0 0 96 [(0, .ref r), (1, .int a0)] [.int s2] K R M3 := by
    intro M3 s2 m47
    unfold mX8_figure_J96 at m47
    refine r_istore_n hw dX8_figure_96 rfl (by decide) rfl ?_
    refine r_aload_n hw dX8_figure_97 1 rfl ?_
    refine r_iconst (v := 0) hw dX8_figure_98 rfl ?_
    obtain ⟨M4, eM4, m48⟩ := h_nm m47
    clear m47
    refine r_putI hw fP_X8_87 h1 dX8_figure_99 (r_mem ?_ rfl eM4)
    refine r_iload_n hw dX8_figure_102 0 rfl ?_
    refine r_if_ne (tgt := 110) hw dX8_figure_103 (by decide) (fun c5 => ?_) (fun c5 => ?_)
    · have m49 := h_if_f c5 m48
      clear m48
      refine r_aload_n hw dX8_figure_110 1 rfl ?_
      obtain ⟨q6, bq6, m50⟩ := h_bd m49
      clear m49
      refine r_getR hw fO_X8_32 h1 bq6 dX8_figure_111 ?_
      refine r_iload_n hw dX8_figure_114 2 rfl ?_
      refine r_aload_n hw dX8_figure_115 1 rfl ?_
      refine r_getI hw fO_X8_118 h1 dX8_figure_116 ?_
      obtain ⟨h7, m51⟩ := h_ck m50
      clear m50
      obtain ⟨M8, eM8, m52⟩ := h_nm m51
      clear m51
      refine r_iastore hw h7 dX8_figure_119 (r_mem ?_ rfl eM8)
      refine r_iconst (v := 0) hw dX8_figure_120 rfl ?_
      obtain ⟨i9, ei9, m53⟩ := h_nm m52
      clear m52
      refine r_topI (w := w) ei9 ?_
      refine r_istore_n hw dX8_figure_121 rfl (by decide) rfl ?_
      refine r_sub hw [2, 3, 0] rfl ?_
      obtain ⟨v122, n0122, hn122, hv122⟩ := h_lp m53
      clear m53
      have L122 : ∀ n : Nat, ∀ (i10 : Int32) (M11 : Mm), it (mX8_figure_L122 K R r a0) n (i10, M11) = some v122 → w 0 0 122 [(0, .ref r), (1, .int a0), (3, .int i10)] [] K R M11 := by
        intro n122
        induction n122 with
        | zero => intro i10 M11 hz; exact absurd hz h_it0
        | succ n122 ih122 =>
          intro i10 M11 m54
          replace m54 : (mX8_figure_B122 K R r a0 i10 M11).bind (Sum.elim (it (mX8_figure_L122 K R r a0) n122) some) = some v122 := m54
          unfold mX8_figure_B122 at m54
          refine r_iload_n hw dX8_figure_122 2 rfl ?_
          refine r_aload_n hw dX8_figure_123 0 rfl ?_
          refine r_getI hw fO_X8_118 h1 dX8_figure_124 ?_
          refine r_icmp_ge (tgt := 170) hw dX8_figure_127 (by decide) (fun c12 => ?_) (fun c12 => ?_)
          · have m55 := h_if_f c12 m54
            clear m54
            have m56 := h_ex m55 hv122
            clear m55
            refine r_aload_n hw dX8_figure_170 0 rfl ?_
            refine r_getI hw fO_X8_118 h1 dX8_figure_171 ?_
            refine r_i2l hw dX8_figure_174 ?_
            cases h_ret m56
            exact r_lreturn hq rfl rfl dX8_figure_175
          · have m57 := h_if_t c12 m54
            clear m54
            refine r_aload_n hw dX8_figure_130 0 rfl ?_
            obtain ⟨q13, bq13, m58⟩ := h_bd m57
            clear m57
            refine r_getR hw fO_X8_26 h1 bq13 dX8_figure_131 ?_
            refine r_bipush (v := 16) hw dX8_figure_134 rfl ?_
            refine r_iload_n hw dX8_figure_136 1 rfl ?_
            refine r_imul hw dX8_figure_137 ?_
            refine r_iload_n hw dX8_figure_138 2 rfl ?_
            refine r_iadd hw dX8_figure_139 ?_
            refine r_aload_n hw dX8_figure_140 0 rfl ?_
            obtain ⟨q14, bq14, m59⟩ := h_bd m58
            clear m58
            refine r_getR hw fO_X8_60 h1 bq14 dX8_figure_141 ?_
            refine r_iload_n hw dX8_figure_144 2 rfl ?_
            obtain ⟨h15, m60⟩ := h_ck m59
            clear m59
            refine r_laload hw h15 dX8_figure_145 ?_
            obtain ⟨h16, m61⟩ := h_ck m60
            clear m60
            obtain ⟨M17, eM17, m62⟩ := h_nm m61
            clear m61
            refine r_lastore hw h16 dX8_figure_146 (r_mem ?_ rfl eM17)
            refine r_aload_n hw dX8_figure_147 0 rfl ?_
            obtain ⟨q18, bq18, m63⟩ := h_bd m62
            clear m62
            refine r_getR hw fO_X8_29 h1 bq18 dX8_figure_148 ?_
            refine r_bipush (v := 16) hw dX8_figure_151 rfl ?_
            refine r_iload_n hw dX8_figure_153 1 rfl ?_
            refine r_imul hw dX8_figure_154 ?_
            refine r_iload_n hw dX8_figure_155 2 rfl ?_
            refine r_iadd hw dX8_figure_156 ?_
            refine r_aload_n hw dX8_figure_157 0 rfl ?_
            obtain ⟨q19, bq19, m64⟩ := h_bd m63
            clear m63
            refine r_getR hw fO_X8_63 h1 bq19 dX8_figure_158 ?_
            refine r_iload_n hw dX8_figure_161 2 rfl ?_
            obtain ⟨h20, m65⟩ := h_ck m64
            clear m64
            refine r_laload hw h20 dX8_figure_162 ?_
            obtain ⟨h21, m66⟩ := h_ck m65
            clear m65
            obtain ⟨M22, eM22, m67⟩ := h_nm m66
            clear m66
            refine r_lastore hw h21 dX8_figure_163 (r_mem ?_ rfl eM22)
            obtain ⟨i23, ei23, m68⟩ := h_nm m67
            clear m67
            refine r_iinc (j := 2) (v := i23) hw dX8_figure_164 rfl (by rw [ei23]; rfl) (by decide) rfl ?_
            refine r_goto (tgt := 122) hw dX8_figure_167 (by decide) ?_
            refine r_sub hw [1, 2, 0] rfl ?_
            exact ih122 _ _ m68
      exact L122 n0122 _ _ hn122
    · have m69 := h_if_t c5 m48
      clear m48
      refine r_ldc2 (v := (-9000000000000000002)) hw dX8_figure_106 kW_X8_113 ?_
      cases h_ret m69
      exact r_lreturn hq rfl rfl dX8_figure_109
  have J95 : ∀ (M24 : Mm), (mX8_figure_J95 K R M24 r a0).bind some = some (res, M') → w 0 0 95 [(0, .ref r), (1, .int a0)] [] K R M24 := by
    intro M24  m70
    unfold mX8_figure_J95 at m70
    refine r_iconst (v := 0) hw dX8_figure_95 rfl ?_
    exact J96 _ _ m70
  have J91 : ∀ (M25 : Mm), (mX8_figure_J91 K R M25 r a0).bind some = some (res, M') → w 0 0 91 [(0, .ref r), (1, .int a0)] [] K R M25 := by
    intro M25  m71
    unfold mX8_figure_J91 at m71
    refine r_iconst (v := 1) hw dX8_figure_91 rfl ?_
    refine r_goto (tgt := 96) hw dX8_figure_92 (by decide) ?_
    exact J96 _ _ m71
  refine r_iload_n hw dX8_figure_0 1 rfl ?_
  refine r_i2l hw dX8_figure_1 ?_
  refine r_lconst (v := 0) hw dX8_figure_2 rfl ?_
  refine r_ldc2 (v := 4) hw dX8_figure_3 kW_X8_164 ?_
  obtain ⟨i26, g26, m72⟩ := h_bd m46
  clear m46
  refine r_callS1 hw (tX8_isIn l G b0 g26) lB_X8_isIn sT_X8_isIn mL_X8_95 rfl rfl (Nat.le_of_ble_eq_true rfl) (Nat.le_of_ble_eq_true rfl) rfl (Nat.le_of_ble_eq_true rfl) dX8_figure_6 ?_
  refine r_if_ne (tgt := 16) hw dX8_figure_9 (by decide) (fun c27 => ?_) (fun c27 => ?_)
  · have m73 := h_if_f c27 m72
    clear m72
    refine r_aload_n hw dX8_figure_16 0 rfl ?_
    obtain ⟨M28, g28, m74⟩ := h_bd m73
    clear m73
    refine r_callV0 hw (tX8_beginPoints l G b0 g28) lB_X8_beginPoints lI_X8_beginPoints mL_X8_132 (c := 8) rfl h1 rfl (Nat.le_of_ble_eq_true rfl) (Nat.le_of_ble_eq_true rfl) rfl (Nat.le_of_ble_eq_true rfl) dX8_figure_17 ?_
    refine r_iconst (v := 0) hw dX8_figure_20 rfl ?_
    obtain ⟨i29, ei29, m75⟩ := h_nm m74
    clear m74
    refine r_topI (w := w) ei29 ?_
    refine r_istore_n hw dX8_figure_21 rfl (by decide) rfl ?_
    refine r_sub hw [1, 2, 0] rfl ?_
    obtain ⟨v22, n022, hn22, hv22⟩ := h_lp m75
    clear m75
    have L22 : ∀ n : Nat, ∀ (i30 : Int32) (M31 : Mm), it (mX8_figure_L22 K R r a0) n (i30, M31) = some v22 → w 0 0 22 [(0, .ref r), (1, .int a0), (2, .int i30)] [] K R M31 := by
      intro n22
      induction n22 with
      | zero => intro i30 M31 hz; exact absurd hz h_it0
      | succ n22 ih22 =>
        intro i30 M31 m76
        replace m76 : (mX8_figure_B22 K R r a0 i30 M31).bind (Sum.elim (it (mX8_figure_L22 K R r a0) n22) some) = some v22 := m76
        unfold mX8_figure_B22 at m76
        refine r_iload_n hw dX8_figure_22 2 rfl ?_
        refine r_aload_n hw dX8_figure_23 0 rfl ?_
        refine r_getI hw fO_X8_87 h1 dX8_figure_24 ?_
        refine r_icmp_ge (tgt := 52) hw dX8_figure_27 (by decide) (fun c32 => ?_) (fun c32 => ?_)
        · have m77 := h_if_f c32 m76
          clear m76
          have m78 := h_ex m77 hv22
          clear m77
          refine r_aload_n hw dX8_figure_52 0 rfl ?_
          obtain ⟨M33, g33, m79⟩ := h_bd m78
          clear m78
          refine r_callV0 hw (tX8_outermost l G b0 g33) lB_X8_outermost lI_X8_outermost mL_X8_143 (c := 8) rfl h1 rfl (Nat.le_of_ble_eq_true rfl) (Nat.le_of_ble_eq_true rfl) rfl (Nat.le_of_ble_eq_true rfl) dX8_figure_53 ?_
          refine r_aload_n hw dX8_figure_56 0 rfl ?_
          refine r_getI hw fO_X8_118 h1 dX8_figure_57 ?_
          refine r_iconst (v := 3) hw dX8_figure_60 rfl ?_
          refine r_icmp_lt (tgt := 95) hw dX8_figure_61 (by decide) (fun c34 => ?_) (fun c34 => ?_)
          · have m80 := h_if_t c34 m79
            clear m79
            refine r_sub hw [0, 1] rfl ?_
            exact J95 _ m80
          · have m81 := h_if_f c34 m79
            clear m79
            refine r_aload_n hw dX8_figure_64 0 rfl ?_
            refine r_getI hw fO_X8_118 h1 dX8_figure_65 ?_
            refine r_aload_n hw dX8_figure_68 0 rfl ?_
            refine r_getI hw fO_X8_87 h1 dX8_figure_69 ?_
            refine r_icmp_ne (tgt := 95) hw dX8_figure_72 (by decide) (fun c35 => ?_) (fun c35 => ?_)
            · have m82 := h_if_f c35 m81
              clear m81
              refine r_sub hw [0, 1] rfl ?_
              exact J95 _ m82
            · have m83 := h_if_t c35 m81
              clear m81
              refine r_aload_n hw dX8_figure_75 0 rfl ?_
              refine r_iconst (v := 1) hw dX8_figure_76 rfl ?_
              obtain ⟨i36, g36, m84⟩ := h_bd m83
              clear m83
              refine r_callV1 hw (tX8_goesAs l G b0 g36) lB_X8_goesAs lI_X8_goesAs mL_X8_166 (c := 8) rfl h1 rfl (Nat.le_of_ble_eq_true rfl) (Nat.le_of_ble_eq_true rfl) rfl (Nat.le_of_ble_eq_true rfl) dX8_figure_77 ?_
              refine r_if_ne (tgt := 91) hw dX8_figure_80 (by decide) (fun c37 => ?_) (fun c37 => ?_)
              · have m85 := h_if_f c37 m84
                clear m84
                refine r_sub hw [0, 1] rfl ?_
                exact J91 _ m85
              · have m86 := h_if_t c37 m84
                clear m84
                refine r_aload_n hw dX8_figure_83 0 rfl ?_
                refine r_iconst (v := (-1)) hw dX8_figure_84 rfl ?_
                obtain ⟨i38, g38, m87⟩ := h_bd m86
                clear m86
                refine r_callV1 hw (tX8_goesAs l G b0 g38) lB_X8_goesAs lI_X8_goesAs mL_X8_166 (c := 8) rfl h1 rfl (Nat.le_of_ble_eq_true rfl) (Nat.le_of_ble_eq_true rfl) rfl (Nat.le_of_ble_eq_true rfl) dX8_figure_85 ?_
                refine r_if_eq (tgt := 95) hw dX8_figure_88 (by decide) (fun c39 => ?_) (fun c39 => ?_)
                · have m88 := h_if_t c39 m87
                  clear m87
                  refine r_sub hw [0, 1] rfl ?_
                  exact J95 _ m88
                · have m89 := h_if_f c39 m87
                  clear m87
                  refine r_sub hw [0, 1] rfl ?_
                  exact J91 _ m89
        · have m90 := h_if_t c32 m76
          clear m76
          refine r_aload_n hw dX8_figure_30 0 rfl ?_
          refine r_aload_n hw dX8_figure_31 0 rfl ?_
          obtain ⟨q40, bq40, m91⟩ := h_bd m90
          clear m90
          refine r_getR hw fO_X8_36 h1 bq40 dX8_figure_32 ?_
          refine r_iload_n hw dX8_figure_35 2 rfl ?_
          obtain ⟨h41, m92⟩ := h_ck m91
          clear m91
          refine r_laload hw h41 dX8_figure_36 ?_
          refine r_aload_n hw dX8_figure_37 0 rfl ?_
          obtain ⟨q42, bq42, m93⟩ := h_bd m92
          clear m92
          refine r_getR hw fO_X8_39 h1 bq42 dX8_figure_38 ?_
          refine r_iload_n hw dX8_figure_41 2 rfl ?_
          obtain ⟨h43, m94⟩ := h_ck m93
          clear m93
          refine r_laload hw h43 dX8_figure_42 ?_
          obtain ⟨M44, g44, m95⟩ := h_bd m94
          clear m94
          refine r_callV0 hw (tX8_point l G b0 g44) lB_X8_point lI_X8_point mL_X8_139 (c := 8) rfl h1 rfl (Nat.le_of_ble_eq_true rfl) (Nat.le_of_ble_eq_true rfl) rfl (Nat.le_of_ble_eq_true rfl) dX8_figure_43 ?_
          obtain ⟨i45, ei45, m96⟩ := h_nm m95
          clear m95
          refine r_iinc (j := 2) (v := i45) hw dX8_figure_46 rfl (by rw [ei45]; rfl) (by decide) rfl ?_
          refine r_goto (tgt := 22) hw dX8_figure_49 (by decide) ?_
          refine r_sub hw [1, 2, 0] rfl ?_
          exact ih22 _ _ m96
    exact L22 n022 _ _ hn22
  · have m97 := h_if_t c27 m72
    clear m72
    refine r_ldc2 (v := (-9000000000000000001)) hw dX8_figure_12 kW_X8_160 ?_
    cases h_ret m97
    exact r_lreturn hq rfl rfl dX8_figure_15
theorem dX8_figureArea_0 : decode cX8_figureArea 0 = .ok (.lconst 0, 1) := by decide +kernel
theorem dX8_figureArea_1 : decode cX8_figureArea 1 = .ok (.lstore_n 2, 1) := by decide +kernel
theorem dX8_figureArea_2 : decode cX8_figureArea 2 = .ok (.aload_n 0, 1) := by decide +kernel
theorem dX8_figureArea_3 : decode cX8_figureArea 3 = .ok (.getfield 32, 3) := by decide +kernel
theorem dX8_figureArea_6 : decode cX8_figureArea 6 = .ok (.iload_n 1, 1) := by decide +kernel
theorem dX8_figureArea_7 : decode cX8_figureArea 7 = .ok (.iaload, 1) := by decide +kernel
theorem dX8_figureArea_8 : decode cX8_figureArea 8 = .ok (.istore 4, 2) := by decide +kernel
theorem dX8_figureArea_10 : decode cX8_figureArea 10 = .ok (.iconst 0, 1) := by decide +kernel
theorem dX8_figureArea_11 : decode cX8_figureArea 11 = .ok (.istore 5, 2) := by decide +kernel
theorem dX8_figureArea_13 : decode cX8_figureArea 13 = .ok (.iload 5, 2) := by decide +kernel
theorem dX8_figureArea_15 : decode cX8_figureArea 15 = .ok (.iload 4, 2) := by decide +kernel
theorem dX8_figureArea_17 : decode cX8_figureArea 17 = .ok (.if_icmp .ge 66, 3) := by decide +kernel
theorem dX8_figureArea_20 : decode cX8_figureArea 20 = .ok (.bipush 16, 2) := by decide +kernel
theorem dX8_figureArea_22 : decode cX8_figureArea 22 = .ok (.iload_n 1, 1) := by decide +kernel
theorem dX8_figureArea_23 : decode cX8_figureArea 23 = .ok (.imul, 1) := by decide +kernel
theorem dX8_figureArea_24 : decode cX8_figureArea 24 = .ok (.iload 5, 2) := by decide +kernel
theorem dX8_figureArea_26 : decode cX8_figureArea 26 = .ok (.iadd, 1) := by decide +kernel
theorem dX8_figureArea_27 : decode cX8_figureArea 27 = .ok (.istore 6, 2) := by decide +kernel
theorem dX8_figureArea_29 : decode cX8_figureArea 29 = .ok (.bipush 16, 2) := by decide +kernel
theorem dX8_figureArea_31 : decode cX8_figureArea 31 = .ok (.iload_n 1, 1) := by decide +kernel
theorem dX8_figureArea_32 : decode cX8_figureArea 32 = .ok (.imul, 1) := by decide +kernel
theorem dX8_figureArea_33 : decode cX8_figureArea 33 = .ok (.iload 5, 2) := by decide +kernel
theorem dX8_figureArea_35 : decode cX8_figureArea 35 = .ok (.iconst 1, 1) := by decide +kernel
theorem dX8_figureArea_36 : decode cX8_figureArea 36 = .ok (.iadd, 1) := by decide +kernel
theorem dX8_figureArea_37 : decode cX8_figureArea 37 = .ok (.iload 4, 2) := by decide +kernel
theorem dX8_figureArea_39 : decode cX8_figureArea 39 = .ok (.irem, 1) := by decide +kernel
theorem dX8_figureArea_40 : decode cX8_figureArea 40 = .ok (.iadd, 1) := by decide +kernel
theorem dX8_figureArea_41 : decode cX8_figureArea 41 = .ok (.istore 7, 2) := by decide +kernel
theorem dX8_figureArea_43 : decode cX8_figureArea 43 = .ok (.lload_n 2, 1) := by decide +kernel
theorem dX8_figureArea_44 : decode cX8_figureArea 44 = .ok (.aload_n 0, 1) := by decide +kernel
theorem dX8_figureArea_45 : decode cX8_figureArea 45 = .ok (.getfield 26, 3) := by decide +kernel
theorem dX8_figureArea_48 : decode cX8_figureArea 48 = .ok (.iload 6, 2) := by decide +kernel
theorem dX8_figureArea_50 : decode cX8_figureArea 50 = .ok (.laload, 1) := by decide +kernel
theorem dX8_figureArea_51 : decode cX8_figureArea 51 = .ok (.aload_n 0, 1) := by decide +kernel
theorem dX8_figureArea_52 : decode cX8_figureArea 52 = .ok (.getfield 29, 3) := by decide +kernel
theorem dX8_figureArea_55 : decode cX8_figureArea 55 = .ok (.iload 7, 2) := by decide +kernel
theorem dX8_figureArea_57 : decode cX8_figureArea 57 = .ok (.laload, 1) := by decide +kernel
theorem dX8_figureArea_58 : decode cX8_figureArea 58 = .ok (.lmul, 1) := by decide +kernel
theorem dX8_figureArea_59 : decode cX8_figureArea 59 = .ok (.aload_n 0, 1) := by decide +kernel
theorem dX8_figureArea_60 : decode cX8_figureArea 60 = .ok (.getfield 26, 3) := by decide +kernel
theorem dX8_figureArea_63 : decode cX8_figureArea 63 = .ok (.iload 7, 2) := by decide +kernel
theorem dX8_figureArea_65 : decode cX8_figureArea 65 = .ok (.laload, 1) := by decide +kernel
theorem dX8_figureArea_66 : decode cX8_figureArea 66 = .ok (.aload_n 0, 1) := by decide +kernel
theorem dX8_figureArea_67 : decode cX8_figureArea 67 = .ok (.getfield 29, 3) := by decide +kernel
theorem dX8_figureArea_70 : decode cX8_figureArea 70 = .ok (.iload 6, 2) := by decide +kernel
theorem dX8_figureArea_72 : decode cX8_figureArea 72 = .ok (.laload, 1) := by decide +kernel
theorem dX8_figureArea_73 : decode cX8_figureArea 73 = .ok (.lmul, 1) := by decide +kernel
theorem dX8_figureArea_74 : decode cX8_figureArea 74 = .ok (.lsub, 1) := by decide +kernel
theorem dX8_figureArea_75 : decode cX8_figureArea 75 = .ok (.ladd, 1) := by decide +kernel
theorem dX8_figureArea_76 : decode cX8_figureArea 76 = .ok (.lstore_n 2, 1) := by decide +kernel
theorem dX8_figureArea_77 : decode cX8_figureArea 77 = .ok (.iinc 5 1, 3) := by decide +kernel
theorem dX8_figureArea_80 : decode cX8_figureArea 80 = .ok (.goto (-67), 3) := by decide +kernel
theorem dX8_figureArea_83 : decode cX8_figureArea 83 = .ok (.lload_n 2, 1) := by decide +kernel
theorem dX8_figureArea_84 : decode cX8_figureArea 84 = .ok (.lreturn, 1) := by decide +kernel
set_option maxHeartbeats 4000000 in
set_option maxRecDepth 100000 in
theorem tX8_figureArea (l : Launch) (G : Gg) (b0 : Nat) {K : Kk} {R : Rr} {M : Mm} {r : Nat} {a0 : Int32} {res : Int64} (hm : mX8_figureArea K R M r a0 = some (res)) : CT l G b0 yX8_figureArea cX8_figureArea 8 (some .long) (rmz 1 0) [.ref r, .int a0] K R M (some (.long res)) K R M := by
  refine ct_of (by decide +kernel) (Nat.le_of_ble_eq_true rfl) (fun w hq => ?_)
  have hw := hq.b
  change w 0 0 0 [(0, .ref r), (1, .int a0)] [] K R M
  replace hm := h_start hm
  unfold mX8_figureArea at hm
  obtain ⟨h1, m21⟩ := h_ck hm
  clear hm
  refine r_lconst (v := 0) hw dX8_figureArea_0 rfl ?_
  obtain ⟨l2, el2, m22⟩ := h_nm m21
  clear m21
  refine r_topL (w := w) el2 ?_
  refine r_lstore_n hw dX8_figureArea_1 rfl (by decide) rfl ?_
  refine r_aload_n hw dX8_figureArea_2 1 rfl ?_
  obtain ⟨q3, bq3, m23⟩ := h_bd m22
  clear m22
  refine r_getR hw fO_X8_32 h1 bq3 dX8_figureArea_3 ?_
  refine r_iload_n hw dX8_figureArea_6 2 rfl ?_
  obtain ⟨h4, m24⟩ := h_ck m23
  clear m23
  refine r_iaload hw h4 dX8_figureArea_7 ?_
  obtain ⟨i5, ei5, m25⟩ := h_nm m24
  clear m24
  refine r_topI (w := w) ei5 ?_
  refine r_istore hw dX8_figureArea_8 (by decide) rfl ?_
  refine r_iconst (v := 0) hw dX8_figureArea_10 rfl ?_
  obtain ⟨i6, ei6, m26⟩ := h_nm m25
  clear m25
  refine r_topI (w := w) ei6 ?_
  refine r_istore hw dX8_figureArea_11 (by decide) rfl ?_
  refine r_sub hw [3, 4, 2, 1, 0] rfl ?_
  obtain ⟨v13, n013, hn13, hv13⟩ := h_lp m26
  clear m26
  have L13 : ∀ n : Nat, ∀ (l7 : Int64) (i8 : Int32), it (mX8_figureArea_L13 K R M r a0 i5) n (l7, i8) = some v13 → w 0 0 13 [(0, .ref r), (1, .int a0), (2, .long l7), (4, .int i5), (5, .int i8)] [] K R M := by
    intro n13
    induction n13 with
    | zero => intro l7 i8 hz; exact absurd hz h_it0
    | succ n13 ih13 =>
      intro l7 i8 m27
      replace m27 : (mX8_figureArea_B13 K R M r a0 i5 l7 i8).bind (Sum.elim (it (mX8_figureArea_L13 K R M r a0 i5) n13) some) = some v13 := m27
      unfold mX8_figureArea_B13 at m27
      refine r_iload hw dX8_figureArea_13 4 rfl ?_
      refine r_iload hw dX8_figureArea_15 3 rfl ?_
      refine r_icmp_ge (tgt := 83) hw dX8_figureArea_17 (by decide) (fun c9 => ?_) (fun c9 => ?_)
      · have m28 := h_if_f c9 m27
        clear m27
        have m29 := h_ex m28 hv13
        clear m28
        refine r_lload_n hw dX8_figureArea_83 2 rfl ?_
        cases h_ret m29
        exact r_lreturn hq rfl rfl dX8_figureArea_84
      · have m30 := h_if_t c9 m27
        clear m27
        refine r_bipush (v := 16) hw dX8_figureArea_20 rfl ?_
        refine r_iload_n hw dX8_figureArea_22 1 rfl ?_
        refine r_imul hw dX8_figureArea_23 ?_
        refine r_iload hw dX8_figureArea_24 4 rfl ?_
        refine r_iadd hw dX8_figureArea_26 ?_
        obtain ⟨i10, ei10, m31⟩ := h_nm m30
        clear m30
        refine r_topI (w := w) ei10 ?_
        refine r_istore hw dX8_figureArea_27 (by decide) rfl ?_
        refine r_bipush (v := 16) hw dX8_figureArea_29 rfl ?_
        refine r_iload_n hw dX8_figureArea_31 2 rfl ?_
        refine r_imul hw dX8_figureArea_32 ?_
        refine r_iload hw dX8_figureArea_33 5 rfl ?_
        refine r_iconst (v := 1) hw dX8_figureArea_35 rfl ?_
        refine r_iadd hw dX8_figureArea_36 ?_
        refine r_iload hw dX8_figureArea_37 4 rfl ?_
        obtain ⟨h11, m32⟩ := h_ck m31
        clear m31
        refine r_irem hw dX8_figureArea_39 h11 ?_
        refine r_iadd hw dX8_figureArea_40 ?_
        obtain ⟨i12, ei12, m33⟩ := h_nm m32
        clear m32
        refine r_topI (w := w) ei12 ?_
        refine r_istore hw dX8_figureArea_41 (by decide) rfl ?_
        refine r_lload_n hw dX8_figureArea_43 4 rfl ?_
        refine r_aload_n hw dX8_figureArea_44 2 rfl ?_
        obtain ⟨q13, bq13, m34⟩ := h_bd m33
        clear m33
        refine r_getR hw fO_X8_26 h1 bq13 dX8_figureArea_45 ?_
        refine r_iload hw dX8_figureArea_48 1 rfl ?_
        obtain ⟨h14, m35⟩ := h_ck m34
        clear m34
        refine r_laload hw h14 dX8_figureArea_50 ?_
        refine r_aload_n hw dX8_figureArea_51 2 rfl ?_
        obtain ⟨q15, bq15, m36⟩ := h_bd m35
        clear m35
        refine r_getR hw fO_X8_29 h1 bq15 dX8_figureArea_52 ?_
        refine r_iload hw dX8_figureArea_55 0 rfl ?_
        obtain ⟨h16, m37⟩ := h_ck m36
        clear m36
        refine r_laload hw h16 dX8_figureArea_57 ?_
        refine r_lmul hw dX8_figureArea_58 ?_
        refine r_aload_n hw dX8_figureArea_59 2 rfl ?_
        refine r_getR hw fO_X8_26 h1 bq13 dX8_figureArea_60 ?_
        refine r_iload hw dX8_figureArea_63 0 rfl ?_
        obtain ⟨h17, m38⟩ := h_ck m37
        clear m37
        refine r_laload hw h17 dX8_figureArea_65 ?_
        refine r_aload_n hw dX8_figureArea_66 2 rfl ?_
        refine r_getR hw fO_X8_29 h1 bq15 dX8_figureArea_67 ?_
        refine r_iload hw dX8_figureArea_70 1 rfl ?_
        obtain ⟨h18, m39⟩ := h_ck m38
        clear m38
        refine r_laload hw h18 dX8_figureArea_72 ?_
        refine r_lmul hw dX8_figureArea_73 ?_
        refine r_lsub hw dX8_figureArea_74 ?_
        refine r_ladd hw dX8_figureArea_75 ?_
        obtain ⟨l19, el19, m40⟩ := h_nm m39
        clear m39
        refine r_topL (w := w) el19 ?_
        refine r_lstore_n hw dX8_figureArea_76 rfl (by decide) rfl ?_
        obtain ⟨i20, ei20, m41⟩ := h_nm m40
        clear m40
        refine r_iinc (j := 6) (v := i20) hw dX8_figureArea_77 rfl (by rw [ei20]; rfl) (by decide) rfl ?_
        refine r_goto (tgt := 13) hw dX8_figureArea_80 (by decide) ?_
        refine r_sub hw [4, 5, 1, 6, 0] rfl ?_
        exact ih13 _ _ m41
  exact L13 n013 _ _ hn13
theorem dX8_area_0 : decode cX8_area 0 = .ok (.iload_n 1, 1) := by decide +kernel
theorem dX8_area_1 : decode cX8_area 1 = .ok (.i2l, 1) := by decide +kernel
theorem dX8_area_2 : decode cX8_area 2 = .ok (.lconst 0, 1) := by decide +kernel
theorem dX8_area_3 : decode cX8_area 3 = .ok (.ldc2_w 164, 3) := by decide +kernel
theorem dX8_area_6 : decode cX8_area 6 = .ok (.invokestatic 95, 3) := by decide +kernel
theorem dX8_area_9 : decode cX8_area 9 = .ok (.ifCond .ne 7, 3) := by decide +kernel
theorem dX8_area_12 : decode cX8_area 12 = .ok (.ldc2_w 160, 3) := by decide +kernel
theorem dX8_area_15 : decode cX8_area 15 = .ok (.lreturn, 1) := by decide +kernel
theorem dX8_area_16 : decode cX8_area 16 = .ok (.aload_n 0, 1) := by decide +kernel
theorem dX8_area_17 : decode cX8_area 17 = .ok (.getfield 32, 3) := by decide +kernel
theorem dX8_area_20 : decode cX8_area 20 = .ok (.iload_n 1, 1) := by decide +kernel
theorem dX8_area_21 : decode cX8_area 21 = .ok (.iaload, 1) := by decide +kernel
theorem dX8_area_22 : decode cX8_area 22 = .ok (.ifCond .ne 9, 3) := by decide +kernel
theorem dX8_area_25 : decode cX8_area 25 = .ok (.ldc2_w 113, 3) := by decide +kernel
theorem dX8_area_28 : decode cX8_area 28 = .ok (.goto 8, 3) := by decide +kernel
theorem dX8_area_31 : decode cX8_area 31 = .ok (.aload_n 0, 1) := by decide +kernel
theorem dX8_area_32 : decode cX8_area 32 = .ok (.iload_n 1, 1) := by decide +kernel
theorem dX8_area_33 : decode cX8_area 33 = .ok (.invokevirtual 170, 3) := by decide +kernel
theorem dX8_area_36 : decode cX8_area 36 = .ok (.lreturn, 1) := by decide +kernel
set_option maxHeartbeats 4000000 in
set_option maxRecDepth 100000 in
theorem tX8_area (l : Launch) (G : Gg) (b0 : Nat) {K : Kk} {R : Rr} {M : Mm} {r : Nat} {a0 : Int32} {res : Int64} (hm : mX8_area K R M r a0 = some (res)) : CT l G b0 yX8_area cX8_area 2 (some .long) (rmz 2 27) [.ref r, .int a0] K R M (some (.long res)) K R M := by
  refine ct_of (by decide +kernel) (Nat.le_of_ble_eq_true rfl) (fun w hq => ?_)
  have hw := hq.b
  change w 0 0 0 [(0, .ref r), (1, .int a0)] [] K R M
  replace hm := h_start hm
  unfold mX8_area at hm
  obtain ⟨h1, m8⟩ := h_ck hm
  clear hm
  refine r_iload_n hw dX8_area_0 1 rfl ?_
  refine r_i2l hw dX8_area_1 ?_
  refine r_lconst (v := 0) hw dX8_area_2 rfl ?_
  refine r_ldc2 (v := 4) hw dX8_area_3 kW_X8_164 ?_
  obtain ⟨i2, g2, m9⟩ := h_bd m8
  clear m8
  refine r_callS1 hw (tX8_isIn l G b0 g2) lB_X8_isIn sT_X8_isIn mL_X8_95 rfl rfl (Nat.le_of_ble_eq_true rfl) (Nat.le_of_ble_eq_true rfl) rfl (Nat.le_of_ble_eq_true rfl) dX8_area_6 ?_
  refine r_if_ne (tgt := 16) hw dX8_area_9 (by decide) (fun c3 => ?_) (fun c3 => ?_)
  · have m10 := h_if_f c3 m9
    clear m9
    refine r_aload_n hw dX8_area_16 0 rfl ?_
    obtain ⟨q4, bq4, m11⟩ := h_bd m10
    clear m10
    refine r_getR hw fO_X8_32 h1 bq4 dX8_area_17 ?_
    refine r_iload_n hw dX8_area_20 1 rfl ?_
    obtain ⟨h5, m12⟩ := h_ck m11
    clear m11
    refine r_iaload hw h5 dX8_area_21 ?_
    refine r_if_ne (tgt := 31) hw dX8_area_22 (by decide) (fun c6 => ?_) (fun c6 => ?_)
    · have m13 := h_if_f c6 m12
      clear m12
      refine r_aload_n hw dX8_area_31 0 rfl ?_
      refine r_iload_n hw dX8_area_32 1 rfl ?_
      obtain ⟨l7, g7, m14⟩ := h_bd m13
      clear m13
      refine r_callV1 hw (tX8_figureArea l G b0 g7) lB_X8_figureArea lI_X8_figureArea mL_X8_170 (c := 8) rfl h1 rfl (Nat.le_of_ble_eq_true rfl) (Nat.le_of_ble_eq_true rfl) rfl (Nat.le_of_ble_eq_true rfl) dX8_area_33 ?_
      cases h_ret m14
      exact r_lreturn hq rfl rfl dX8_area_36
    · have m15 := h_if_t c6 m12
      clear m12
      refine r_ldc2 (v := (-9000000000000000002)) hw dX8_area_25 kW_X8_113 ?_
      refine r_goto (tgt := 36) hw dX8_area_28 (by decide) ?_
      cases h_ret m15
      exact r_lreturn hq rfl rfl dX8_area_36
  · have m16 := h_if_t c3 m9
    clear m9
    refine r_ldc2 (v := (-9000000000000000001)) hw dX8_area_12 kW_X8_160 ?_
    cases h_ret m16
    exact r_lreturn hq rfl rfl dX8_area_15
