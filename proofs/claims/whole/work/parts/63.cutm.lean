/-! THE REFERENCE cuts -/
section CM
variable {K : Kk} {R : Rr} {M : Mm} {m : Nat} {A B : Pt}
theorem size_pc {p : Nat} {P : Pc} (hm : moA K R m) (hpc : pcM (M.2 (m + 1)) (37 * p) P) (hpl : p < 40) : mX8_size K R M m (nI p) = some (nI P.1.length) := by
  have h0 := hm.1
  have e := hpc.1
  unfold mX8_size
  (repeat (first | rw [ck_t (by first | with_reducible assumption | ((with_reducible apply ixA_of); (with_reducible assumption); omega; omega) | ((with_reducible apply isAr_of); (with_reducible assumption); decide) | ((with_reducible apply nI_ne0); omega; omega) | with_reducible exact isB_0 | with_reducible exact isB_1 | with_reducible exact isB_bI _)] | rw [bd_r (by with_reducible assumption)] | rw [bd_s] | rw [bd2_s] | rw [bd3_s] | rw [nm_s] | rw [nI_clamp (by omega)] | rw [nI_1] | rw [bd_e (get_ok (a1 := 0) (w := 0) hm rfl hpl (by omega))] | rw [if_pos (by first | with_reducible assumption | ((with_reducible refine nI_lt ?_ ?_); omega; omega) | ((with_reducible refine nI_nlt ?_ ?_); omega; omega) | with_reducible exact ne10 | with_reducible rfl)] | rw [if_neg (by first | with_reducible assumption | ((with_reducible refine nI_lt ?_ ?_); omega; omega) | ((with_reducible refine nI_nlt ?_ ?_); omega; omega) | with_reducible exact ne10 | with_reducible rfl)]))
  show some (M.2 (m + 1) (37 * p)).toInt32 = _
  rw [e, lN_i32]
theorem lookA_pc {p : Nat} {P : Pc} (hm : moA K R m) (hpc : pcM (M.2 (m + 1)) (37 * p) P) (hpl : p < 40) (hP : isPc P) : ∃ M', mX8_lookA K R M m (nI p) = some M' ∧ rM M' m 15 11 12 (plc P) ∧ FM m [15, 21, 24] [11, 12, 15, 16, 17, 18] M M' := by
  have h0 := hm.1
  have hP0 := hP
  obtain ⟨⟨p1, p2, p3, p4, p5⟩, p6, p7⟩ := hP
  have hmv := hP0.mv
  obtain ⟨q1, q2, q3, q4, q5⟩ := plc_ok hP0
  have hmB : ∀ c, c ∈ mvL P → inB c := fun c hc => q5 c (norm_mem.mpr hc)
  have lm : (mvL P).length = P.1.length := List.length_map _
  have hW := lp_ind (f := mX8_lookA_L6 K R m (nI p)) (fun (i : Nat) (s : Int32 × Mm) => s.1 = nI i ∧ rM s.2 m 21 15 16 ((mvL P).take i) ∧ FM m [21] [15, 16] M s.2) (fun M' => rM M' m 15 11 12 (plc P) ∧ FM m [15, 21, 24] [11, 12, 15, 16, 17, 18] M M') P.1.length ?_ ?_
  · obtain ⟨M', e1, e2⟩ := hW P.1.length 0 (nI 0, pI M m 21 0) (by omega) ⟨rfl, ⟨pI_s, fun i c hc => by simp at hc⟩, FM.rf.pI (by decide)⟩
    refine ⟨M', ?_, e2⟩
    unfold mX8_lookA
    (repeat (first | rw [ck_t (by first | with_reducible assumption | ((with_reducible apply ixA_of); (with_reducible assumption); omega; omega) | ((with_reducible apply isAr_of); (with_reducible assumption); decide) | ((with_reducible apply nI_ne0); omega; omega) | with_reducible exact isB_0 | with_reducible exact isB_1 | with_reducible exact isB_bI _)] | rw [bd_r (by with_reducible assumption)] | rw [bd_s] | rw [bd2_s] | rw [bd3_s] | rw [nm_s] | rw [nI_clamp (by omega)] | rw [nI_1] | rw [bd_e (begin_ok hm)] | rw [if_pos (by first | with_reducible assumption | ((with_reducible refine nI_lt ?_ ?_); omega; omega) | ((with_reducible refine nI_nlt ?_ ?_); omega; omega) | with_reducible exact ne10 | with_reducible rfl)] | rw [if_neg (by first | with_reducible assumption | ((with_reducible refine nI_lt ?_ ?_); omega; omega) | ((with_reducible refine nI_nlt ?_ ?_); omega; omega) | with_reducible exact ne10 | with_reducible rfl)]))
    exact e1
  · rintro i ⟨x, N⟩ hi ⟨rfl, f1, f2⟩
    have f1 : rM N m 21 15 16 ((mvL P).take i) := f1
    have f2 : FM m [21] [15, 16] M N := f2
    have hN : pcM (N.2 (m + 1)) (37 * p) P := by rw [f2.ar 1 (by decide)]; exact hpc
    obtain ⟨g1, g2, g3, g4, g5, g6⟩ := id hN
    obtain ⟨c, hc⟩ := get_ex hi
    obtain ⟨c1, c2⟩ := g2 i c hc
    obtain ⟨b1, b2, b3, b4⟩ := p5 i c hc
    have k1 : mX8_get K R N m (nI p) (1 + 2 * nI i) = some (N.2 (m + 1) (37 * p + 1 + 2 * i)) := by
      rw [get_ok (a1 := 1 + 2 * nI i) (p := p) (w := 1 + 2 * i) hm (show nI 1 + nI 2 * nI i = _ by rw [pk_mul, nI_add]) (by omega) (by omega), Nat.add_assoc]
    have k2 : mX8_get K R N m (nI p) (2 + 2 * nI i) = some (N.2 (m + 1) (37 * p + 2 + 2 * i)) := by
      rw [get_ok (a1 := 2 + 2 * nI i) (p := p) (w := 2 + 2 * i) hm (show nI 2 + nI 2 * nI i = _ by rw [pk_mul, nI_add]) (by omega) (by omega), Nat.add_assoc]
    have k33 : mX8_get K R N m (nI p) 33 = some (N.2 (m + 1) (37 * p + 33)) := get_ok hm rfl (by omega) (by omega)
    have k34 : mX8_get K R N m (nI p) 34 = some (N.2 (m + 1) (37 * p + 34)) := get_ok hm rfl (by omega) (by omega)
    have k35 : mX8_get K R N m (nI p) 35 = some (N.2 (m + 1) (37 * p + 35)) := get_ok hm rfl (by omega) (by omega)
    have m1 := pm1_mul64 g3 p6 c1 (by omega) (by omega)
    have m2 := pm1_mul64 g3 p6 c2 (by omega) (by omega)
    have w1 : -100000 ≤ P.2.1 * c.1 ∧ P.2.1 * c.1 ≤ 100000 := by rcases p6 with e | e <;> rw [e] <;> omega
    have w2 : -100000 ≤ P.2.1 * c.2 ∧ P.2.1 * c.2 ≤ 100000 := by rcases p6 with e | e <;> rw [e] <;> omega
    have a1 := add64 (x := N.2 (m + 1) (37 * p + 33) * N.2 (m + 1) (37 * p + 1 + 2 * i)) (y := N.2 (m + 1) (37 * p + 34)) (by rw [m1, g4]; omega) (by rw [m1, g4]; omega)
    have a2 := add64 (x := N.2 (m + 1) (37 * p + 33) * N.2 (m + 1) (37 * p + 2 + 2 * i)) (y := N.2 (m + 1) (37 * p + 35)) (by rw [m2, g5]; omega) (by rw [m2, g5]; omega)
    rw [m1, g4] at a1
    rw [m2, g5] at a2
    obtain ⟨N2, d1, d2, d3⟩ := point_ok (x := N.2 (m + 1) (37 * p + 33) * N.2 (m + 1) (37 * p + 1 + 2 * i) + N.2 (m + 1) (37 * p + 34)) (y := N.2 (m + 1) (37 * p + 33) * N.2 (m + 1) (37 * p + 2 + 2 * i) + N.2 (m + 1) (37 * p + 35)) hm f1 (by rw [List.length_take]; omega)
    refine Or.inl ⟨(nI (i + 1), N2), ?_, rfl, ?_, f2.tr d3⟩
    · show mX8_lookA_B6 K R m (nI p) (nI i) N = _
      unfold mX8_lookA_B6
      (repeat (first | rw [ck_t (by first | with_reducible assumption | ((with_reducible apply ixA_of); (with_reducible assumption); omega; omega) | ((with_reducible apply isAr_of); (with_reducible assumption); decide) | ((with_reducible apply nI_ne0); omega; omega) | with_reducible exact isB_0 | with_reducible exact isB_1 | with_reducible exact isB_bI _)] | rw [bd_r (by with_reducible assumption)] | rw [bd_s] | rw [bd2_s] | rw [bd3_s] | rw [nm_s] | rw [nI_clamp (by omega)] | rw [nI_1] | rw [bd_e (size_pc hm hN hpl)] | rw [bd_e (k33)] | rw [bd_e (k1)] | rw [bd_e (k34)] | rw [bd_e (k2)] | rw [bd_e (k35)] | rw [bd_e (d1)] | rw [if_pos (by first | with_reducible assumption | ((with_reducible refine nI_lt ?_ ?_); omega; omega) | ((with_reducible refine nI_nlt ?_ ?_); omega; omega) | with_reducible exact ne10 | with_reducible rfl)] | rw [if_neg (by first | with_reducible assumption | ((with_reducible refine nI_lt ?_ ?_); omega; omega) | ((with_reducible refine nI_nlt ?_ ?_); omega; omega) | with_reducible exact ne10 | with_reducible rfl)]))
    · show rM N2 m 21 15 16 ((mvL P).take (i + 1))
      rw [take_app (map_get hc)]
      rw [a1, a2] at d2
      exact d2
  · rintro ⟨x, N⟩ ⟨rfl, f1, f2⟩
    have f1 : rM N m 21 15 16 ((mvL P).take P.1.length) := f1
    rw [← lm, List.take_length] at f1
    have f2 : FM m [21] [15, 16] M N := f2
    have hN : pcM (N.2 (m + 1)) (37 * p) P := by rw [f2.ar 1 (by decide)]; exact hpc
    obtain ⟨N2, d1, d2, d3⟩ := outermost_ok hm f1 (by omega) hmB (by omega) q1
    obtain ⟨N3, e1, e2, e3⟩ := lookA_J (M := pI N2 m 15 (nI (plc P).length)) hm (d2.fr (FM.rf.pI (is := [15]) (as := []) (by decide)) (by decide) (by decide) (by decide)) pI_s (by omega)
    refine ⟨N3, ?_, e2, ((f2.mo (by decide) (by decide)).tr ((d3.mo (by decide) (by decide)).pI (by decide))).tr (e3.mo (by decide) (by decide))⟩
    show mX8_lookA_B6 K R m (nI p) (nI P.1.length) N = _
    unfold mX8_lookA_B6
    (repeat (first | rw [ck_t (by first | with_reducible assumption | ((with_reducible apply ixA_of); (with_reducible assumption); omega; omega) | ((with_reducible apply isAr_of); (with_reducible assumption); decide) | ((with_reducible apply nI_ne0); omega; omega) | with_reducible exact isB_0 | with_reducible exact isB_1 | with_reducible exact isB_bI _)] | rw [bd_r (by with_reducible assumption)] | rw [bd_s] | rw [bd2_s] | rw [bd3_s] | rw [nm_s] | rw [nI_clamp (by omega)] | rw [nI_1] | rw [bd_e (size_pc hm hN hpl)] | rw [bd_e (d1)] | rw [d2.1] | rw [if_pos (by first | with_reducible assumption | ((with_reducible refine nI_lt ?_ ?_); omega; omega) | ((with_reducible refine nI_nlt ?_ ?_); omega; omega) | with_reducible exact ne10 | with_reducible rfl)] | rw [if_neg (by first | with_reducible assumption | ((with_reducible refine nI_lt ?_ ?_); omega; omega) | ((with_reducible refine nI_nlt ?_ ?_); omega; omega) | with_reducible exact ne10 | with_reducible rfl)]))
    rw [show lp (mX8_lookA_L91 K R m) (0, pI N2 m 15 (nI (plc P).length)) = some N3 from e1]
    rfl
/-- the reference's line -/
def lnM (M : Mm) (m : Nat) (A B : Pt) : Prop := (M.2 m 25).toInt = A.1 ∧ (M.2 m 26).toInt = A.2 ∧ (M.2 m 27).toInt = B.1 ∧ (M.2 m 28).toInt = B.2
theorem lnM.fr {is as : List Nat} {M' : Mm} (h : lnM M m A B) (f : FM m is as M M') (h0 : 0 ∉ as) : lnM M' m A B := by
  have e : M'.2 m = M.2 m := f.ar 0 h0
  unfold lnM
  rw [e]; exact h
theorem lnB.w (h : lnB A B) : -300000 ≤ B.1 ∧ B.1 ≤ 300000 ∧ -300000 ≤ B.2 ∧ B.2 ≤ 300000 := by unfold lnB inB at h; omega
theorem sideOfM_ok {x y : Int64} (hm : moA K R m) (h : lnM M m A B) (hB : lnB A B) (hp : inB (x.toInt, y.toInt)) : ∃ v, mX8_sideOf K R M m x y = some v ∧ v.toInt = crs A B (x.toInt, y.toInt) := by
  have h0 := hm.1
  obtain ⟨h1, h2, h3, h4⟩ := h
  have w := hB.w
  obtain ⟨⟨a1, a2, a3, a4⟩, b1, b2, b3, b4⟩ := hB
  obtain ⟨p1, p2, p3, p4⟩ := hp
  simp only at p1 p2 p3 p4
  refine ⟨(M.2 m 27 - M.2 m 25) * (y - M.2 m 26) - (M.2 m 28 - M.2 m 26) * (x - M.2 m 25), ?_, ?_⟩
  · unfold mX8_sideOf
    rw [ck_t h0]
    rfl
  · have e1 : (M.2 m 27 - M.2 m 25).toInt = B.1 - A.1 := by rw [sub64b (by omega) (by omega) (by omega) (by omega), h1, h3]
    have e2 : (y - M.2 m 26).toInt = y.toInt - A.2 := by rw [sub64b (by omega) (by omega) (by omega) (by omega), h2]
    have e3 : (M.2 m 28 - M.2 m 26).toInt = B.2 - A.2 := by rw [sub64b (by omega) (by omega) (by omega) (by omega), h2, h4]
    have e4 : (x - M.2 m 25).toInt = x.toInt - A.1 := by rw [sub64b (by omega) (by omega) (by omega) (by omega), h1]
    have m1 : ((M.2 m 27 - M.2 m 25) * (y - M.2 m 26)).toInt = (B.1 - A.1) * (y.toInt - A.2) := by rw [mul64b (by omega) (by omega) (by omega) (by omega), e1, e2]
    have m2 : ((M.2 m 28 - M.2 m 26) * (x - M.2 m 25)).toInt = (B.2 - A.2) * (x.toInt - A.1) := by rw [mul64b (by omega) (by omega) (by omega) (by omega), e3, e4]
    have u := mulb (x := B.1 - A.1) (y := y.toInt - A.2) (B := 200000) (C := 200000) (by omega) (by omega) (by omega) (by omega)
    have v := mulb (x := B.2 - A.2) (y := x.toInt - A.1) (B := 200000) (C := 200000) (by omega) (by omega) (by omega) (by omega)
    rw [sub64 (by rw [m1, m2]; omega) (by rw [m1, m2]; omega), m1, m2]
    rfl
theorem cornersOn_ok {l : List Pt} {w : Int32} {s : Int} (hm : moA K R m) (h : lnM M m A B) (hB : lnB A B) (hl : rM M m 15 11 12 l) (h20 : l.length ≤ 20) (bl : inBs l) (hw : (w = 1 ∧ s = 1) ∨ (w = -1 ∧ s = -1)) : mX8_cornersOn K R M m w = some (nI (cntS A B s l l.length)) := by
  have h0 := hm.1
  have h1 := mo_r13 hm
  have h2 := mo_r14 hm
  have h3 := mo_a13 hm
  have h4 := mo_a14 hm
  have e := hl.1
  have hL := lp_ind (f := mX8_cornersOn_L4 K R M m w) (fun (i : Nat) (t : Int32 × Int32) => t = (nI (cntS A B s l i), nI i)) (fun r => r = nI (cntS A B s l l.length)) l.length ?_ ?_
  · obtain ⟨r, e1, rfl⟩ := hL l.length 0 (nI 0, nI 0) (by omega) rfl
    unfold mX8_cornersOn
    (repeat (first | rw [ck_t (by first | with_reducible assumption | ((with_reducible apply ixA_of); (with_reducible assumption); omega; omega) | ((with_reducible apply isAr_of); (with_reducible assumption); decide) | ((with_reducible apply nI_ne0); omega; omega) | with_reducible exact isB_0 | with_reducible exact isB_1 | with_reducible exact isB_bI _)] | rw [bd_r (by with_reducible assumption)] | rw [bd_s] | rw [bd2_s] | rw [bd3_s] | rw [nm_s] | rw [nI_clamp (by omega)] | rw [nI_1] | rw [if_pos (by first | with_reducible assumption | ((with_reducible refine nI_lt ?_ ?_); omega; omega) | ((with_reducible refine nI_nlt ?_ ?_); omega; omega) | with_reducible exact ne10 | with_reducible rfl)] | rw [if_neg (by first | with_reducible assumption | ((with_reducible refine nI_lt ?_ ?_); omega; omega) | ((with_reducible refine nI_nlt ?_ ?_); omega; omega) | with_reducible exact ne10 | with_reducible rfl)]))
    exact e1
  · rintro i t hi rfl
    have gi := gp_get hi
    have vi : vx l i = gp l i := vx_lt hi
    have pe := hl.pt gi
    have bp := bl _ _ gi
    rw [pe] at bp
    obtain ⟨v, v1, v2⟩ := sideOfM_ok (R := R) hm h hB bp
    rw [← pe, ← vi] at v2
    have z0 : (0 : Int64).toInt = 0 := rfl
    have k1 : v ≤ 0 ↔ crs A B (vx l i) ≤ 0 := by rw [le64, z0, v2]
    have k2 : v < 0 ↔ crs A B (vx l i) < 0 := by rw [lt64, z0, v2]
    have up : ∀ u : Int32, mX8_cornersOn_J53 K R M m w (nI i) u = some (.inl (u + 1, nI (i + 1))) := fun u => by unfold mX8_cornersOn_J53 mX8_cornersOn_J58; (repeat (first | rw [ck_t (by first | with_reducible assumption | ((with_reducible apply ixA_of); (with_reducible assumption); omega; omega) | ((with_reducible apply isAr_of); (with_reducible assumption); decide) | ((with_reducible apply nI_ne0); omega; omega) | with_reducible exact isB_0 | with_reducible exact isB_1 | with_reducible exact isB_bI _)] | rw [bd_r (by with_reducible assumption)] | rw [bd_s] | rw [bd2_s] | rw [bd3_s] | rw [nm_s] | rw [nI_clamp (by omega)] | rw [nI_1] | rw [if_pos (by first | with_reducible assumption | ((with_reducible refine nI_lt ?_ ?_); omega; omega) | ((with_reducible refine nI_nlt ?_ ?_); omega; omega) | with_reducible exact ne10 | with_reducible rfl)] | rw [if_neg (by first | with_reducible assumption | ((with_reducible refine nI_lt ?_ ?_); omega; omega) | ((with_reducible refine nI_nlt ?_ ?_); omega; omega) | with_reducible exact ne10 | with_reducible rfl)]))
    have st : ∀ u : Int32, mX8_cornersOn_J57 K R M m w (nI i) u = some (.inl (u, nI (i + 1))) := fun u => by unfold mX8_cornersOn_J57 mX8_cornersOn_J58; (repeat (first | rw [ck_t (by first | with_reducible assumption | ((with_reducible apply ixA_of); (with_reducible assumption); omega; omega) | ((with_reducible apply isAr_of); (with_reducible assumption); decide) | ((with_reducible apply nI_ne0); omega; omega) | with_reducible exact isB_0 | with_reducible exact isB_1 | with_reducible exact isB_bI _)] | rw [bd_r (by with_reducible assumption)] | rw [bd_s] | rw [bd2_s] | rw [bd3_s] | rw [nm_s] | rw [nI_clamp (by omega)] | rw [nI_1] | rw [Int32.add_zero] | rw [if_pos (by first | with_reducible assumption | ((with_reducible refine nI_lt ?_ ?_); omega; omega) | ((with_reducible refine nI_nlt ?_ ?_); omega; omega) | with_reducible exact ne10 | with_reducible rfl)] | rw [if_neg (by first | with_reducible assumption | ((with_reducible refine nI_lt ?_ ?_); omega; omega) | ((with_reducible refine nI_nlt ?_ ?_); omega; omega) | with_reducible exact ne10 | with_reducible rfl)]))
    left
    show ∃ s', mX8_cornersOn_B4 K R M m w (nI (cntS A B s l i)) (nI i) = some (.inl s') ∧ _
    unfold mX8_cornersOn_B4
    rcases hw with ⟨rfl, rfl⟩ | ⟨rfl, rfl⟩
    · by_cases c : v ≤ 0
      · refine ⟨_, ?_, by rw [cntS_f (by rw [k1] at c; omega)]⟩
        (repeat (first | rw [ck_t (by first | with_reducible assumption | ((with_reducible apply ixA_of); (with_reducible assumption); omega; omega) | ((with_reducible apply isAr_of); (with_reducible assumption); decide) | ((with_reducible apply nI_ne0); omega; omega) | with_reducible exact isB_0 | with_reducible exact isB_1 | with_reducible exact isB_bI _)] | rw [bd_r (by with_reducible assumption)] | rw [bd_s] | rw [bd2_s] | rw [bd3_s] | rw [nm_s] | rw [nI_clamp (by omega)] | rw [nI_1] | rw [e] | rw [bd_e (v1)] | rw [if_neg (show ¬ (1 : Int32) ≤ 0 by decide)] | rw [if_pos (by first | with_reducible assumption | ((with_reducible refine nI_lt ?_ ?_); omega; omega) | ((with_reducible refine nI_nlt ?_ ?_); omega; omega) | with_reducible exact ne10 | with_reducible rfl)] | rw [if_neg (by first | with_reducible assumption | ((with_reducible refine nI_lt ?_ ?_); omega; omega) | ((with_reducible refine nI_nlt ?_ ?_); omega; omega) | with_reducible exact ne10 | with_reducible rfl)]))
        unfold mX8_cornersOn_J42
        (repeat (first | rw [ck_t (by first | with_reducible assumption | ((with_reducible apply ixA_of); (with_reducible assumption); omega; omega) | ((with_reducible apply isAr_of); (with_reducible assumption); decide) | ((with_reducible apply nI_ne0); omega; omega) | with_reducible exact isB_0 | with_reducible exact isB_1 | with_reducible exact isB_bI _)] | rw [bd_r (by with_reducible assumption)] | rw [bd_s] | rw [bd2_s] | rw [bd3_s] | rw [nm_s] | rw [nI_clamp (by omega)] | rw [nI_1] | rw [if_neg (show ¬ (1 : Int32) < 0 by decide)] | rw [st] | rw [if_pos (by first | with_reducible assumption | ((with_reducible refine nI_lt ?_ ?_); omega; omega) | ((with_reducible refine nI_nlt ?_ ?_); omega; omega) | with_reducible exact ne10 | with_reducible rfl)] | rw [if_neg (by first | with_reducible assumption | ((with_reducible refine nI_lt ?_ ?_); omega; omega) | ((with_reducible refine nI_nlt ?_ ?_); omega; omega) | with_reducible exact ne10 | with_reducible rfl)]))
      · refine ⟨_, ?_, by rw [cntS_t (by rw [k1] at c; omega)]⟩
        (repeat (first | rw [ck_t (by first | with_reducible assumption | ((with_reducible apply ixA_of); (with_reducible assumption); omega; omega) | ((with_reducible apply isAr_of); (with_reducible assumption); decide) | ((with_reducible apply nI_ne0); omega; omega) | with_reducible exact isB_0 | with_reducible exact isB_1 | with_reducible exact isB_bI _)] | rw [bd_r (by with_reducible assumption)] | rw [bd_s] | rw [bd2_s] | rw [bd3_s] | rw [nm_s] | rw [nI_clamp (by omega)] | rw [nI_1] | rw [e] | rw [bd_e (v1)] | rw [if_neg (show ¬ (1 : Int32) ≤ 0 by decide)] | rw [up] | rw [if_pos (by first | with_reducible assumption | ((with_reducible refine nI_lt ?_ ?_); omega; omega) | ((with_reducible refine nI_nlt ?_ ?_); omega; omega) | with_reducible exact ne10 | with_reducible rfl)] | rw [if_neg (by first | with_reducible assumption | ((with_reducible refine nI_lt ?_ ?_); omega; omega) | ((with_reducible refine nI_nlt ?_ ?_); omega; omega) | with_reducible exact ne10 | with_reducible rfl)]))
    · by_cases c : v < 0
      · refine ⟨_, ?_, by rw [cntS_t (by rw [k2] at c; omega)]⟩
        (repeat (first | rw [ck_t (by first | with_reducible assumption | ((with_reducible apply ixA_of); (with_reducible assumption); omega; omega) | ((with_reducible apply isAr_of); (with_reducible assumption); decide) | ((with_reducible apply nI_ne0); omega; omega) | with_reducible exact isB_0 | with_reducible exact isB_1 | with_reducible exact isB_bI _)] | rw [bd_r (by with_reducible assumption)] | rw [bd_s] | rw [bd2_s] | rw [bd3_s] | rw [nm_s] | rw [nI_clamp (by omega)] | rw [nI_1] | rw [e] | rw [bd_e (v1)] | rw [if_pos (show (-1 : Int32) ≤ 0 by decide)] | rw [if_pos (by first | with_reducible assumption | ((with_reducible refine nI_lt ?_ ?_); omega; omega) | ((with_reducible refine nI_nlt ?_ ?_); omega; omega) | with_reducible exact ne10 | with_reducible rfl)] | rw [if_neg (by first | with_reducible assumption | ((with_reducible refine nI_lt ?_ ?_); omega; omega) | ((with_reducible refine nI_nlt ?_ ?_); omega; omega) | with_reducible exact ne10 | with_reducible rfl)]))
        unfold mX8_cornersOn_J42
        (repeat (first | rw [ck_t (by first | with_reducible assumption | ((with_reducible apply ixA_of); (with_reducible assumption); omega; omega) | ((with_reducible apply isAr_of); (with_reducible assumption); decide) | ((with_reducible apply nI_ne0); omega; omega) | with_reducible exact isB_0 | with_reducible exact isB_1 | with_reducible exact isB_bI _)] | rw [bd_r (by with_reducible assumption)] | rw [bd_s] | rw [bd2_s] | rw [bd3_s] | rw [nm_s] | rw [nI_clamp (by omega)] | rw [nI_1] | rw [if_pos (show (-1 : Int32) < 0 by decide)] | rw [up] | rw [if_pos (by first | with_reducible assumption | ((with_reducible refine nI_lt ?_ ?_); omega; omega) | ((with_reducible refine nI_nlt ?_ ?_); omega; omega) | with_reducible exact ne10 | with_reducible rfl)] | rw [if_neg (by first | with_reducible assumption | ((with_reducible refine nI_lt ?_ ?_); omega; omega) | ((with_reducible refine nI_nlt ?_ ?_); omega; omega) | with_reducible exact ne10 | with_reducible rfl)]))
      · refine ⟨_, ?_, by rw [cntS_f (by rw [k2] at c; omega)]⟩
        (repeat (first | rw [ck_t (by first | with_reducible assumption | ((with_reducible apply ixA_of); (with_reducible assumption); omega; omega) | ((with_reducible apply isAr_of); (with_reducible assumption); decide) | ((with_reducible apply nI_ne0); omega; omega) | with_reducible exact isB_0 | with_reducible exact isB_1 | with_reducible exact isB_bI _)] | rw [bd_r (by with_reducible assumption)] | rw [bd_s] | rw [bd2_s] | rw [bd3_s] | rw [nm_s] | rw [nI_clamp (by omega)] | rw [nI_1] | rw [e] | rw [bd_e (v1)] | rw [if_pos (show (-1 : Int32) ≤ 0 by decide)] | rw [if_pos (by first | with_reducible assumption | ((with_reducible refine nI_lt ?_ ?_); omega; omega) | ((with_reducible refine nI_nlt ?_ ?_); omega; omega) | with_reducible exact ne10 | with_reducible rfl)] | rw [if_neg (by first | with_reducible assumption | ((with_reducible refine nI_lt ?_ ?_); omega; omega) | ((with_reducible refine nI_nlt ?_ ?_); omega; omega) | with_reducible exact ne10 | with_reducible rfl)]))
        unfold mX8_cornersOn_J42
        (repeat (first | rw [ck_t (by first | with_reducible assumption | ((with_reducible apply ixA_of); (with_reducible assumption); omega; omega) | ((with_reducible apply isAr_of); (with_reducible assumption); decide) | ((with_reducible apply nI_ne0); omega; omega) | with_reducible exact isB_0 | with_reducible exact isB_1 | with_reducible exact isB_bI _)] | rw [bd_r (by with_reducible assumption)] | rw [bd_s] | rw [bd2_s] | rw [bd3_s] | rw [nm_s] | rw [nI_clamp (by omega)] | rw [nI_1] | rw [if_pos (show (-1 : Int32) < 0 by decide)] | rw [st] | rw [if_pos (by first | with_reducible assumption | ((with_reducible refine nI_lt ?_ ?_); omega; omega) | ((with_reducible refine nI_nlt ?_ ?_); omega; omega) | with_reducible exact ne10 | with_reducible rfl)] | rw [if_neg (by first | with_reducible assumption | ((with_reducible refine nI_lt ?_ ?_); omega; omega) | ((with_reducible refine nI_nlt ?_ ?_); omega; omega) | with_reducible exact ne10 | with_reducible rfl)]))
  · rintro t rfl
    refine ⟨_, ?_, rfl⟩
    show mX8_cornersOn_B4 K R M m w (nI (cntS A B s l l.length)) (nI l.length) = _
    unfold mX8_cornersOn_B4
    (repeat (first | rw [ck_t (by first | with_reducible assumption | ((with_reducible apply ixA_of); (with_reducible assumption); omega; omega) | ((with_reducible apply isAr_of); (with_reducible assumption); decide) | ((with_reducible apply nI_ne0); omega; omega) | with_reducible exact isB_0 | with_reducible exact isB_1 | with_reducible exact isB_bI _)] | rw [bd_r (by with_reducible assumption)] | rw [bd_s] | rw [bd2_s] | rw [bd3_s] | rw [nm_s] | rw [nI_clamp (by omega)] | rw [nI_1] | rw [e] | rw [if_pos (by first | with_reducible assumption | ((with_reducible refine nI_lt ?_ ?_); omega; omega) | ((with_reducible refine nI_nlt ?_ ?_); omega; omega) | with_reducible exact ne10 | with_reducible rfl)] | rw [if_neg (by first | with_reducible assumption | ((with_reducible refine nI_lt ?_ ?_); omega; omega) | ((with_reducible refine nI_nlt ?_ ?_); omega; omega) | with_reducible exact ne10 | with_reducible rfl)]))
    rfl
theorem crossesM_ok {p : Nat} {P : Pc} (hm : moA K R m) (hpc : pcM (M.2 (m + 1)) (37 * p) P) (hpl : p < 40) (hP : isPc P) (h : lnM M m A B) (hB : lnB A B) : ∃ v M', mX8_crosses K R M m (nI p) = some (v, M') ∧ iv v (xsd A B P) ∧ rM M' m 15 11 12 (plc P) ∧ FM m [15, 21, 24] [11, 12, 15, 16, 17, 18] M M' := by
  have h0 := hm.1
  obtain ⟨q1, q2, q3, q4, q5⟩ := plc_ok hP
  have s16 := hP.1.2.1
  obtain ⟨M2, a1, a2, a3⟩ := lookA_pc hm hpc hpl hP
  have l2 := h.fr a3 (by decide)
  have e1 := cornersOn_ok (s := 1) hm l2 hB a2 (by omega) (inBs_of q5) (Or.inl ⟨rfl, rfl⟩)
  have e2 := cornersOn_ok (s := -1) hm l2 hB a2 (by omega) (inBs_of q5) (Or.inr ⟨rfl, rfl⟩)
  have b1 := cntS_le A B 1 (plc P) (plc P).length
  have b2 := cntS_le A B (-1) (plc P) (plc P).length
  unfold mX8_crosses xsd
  by_cases c1 : 0 < cntS A B 1 (plc P) (plc P).length
  · by_cases c2 : 0 < cntS A B (-1) (plc P) (plc P).length
    · refine ⟨1, M2, ?_, Or.inl ⟨rfl, c1, c2⟩, a2, a3⟩
      (repeat (first | rw [ck_t (by first | with_reducible assumption | ((with_reducible apply ixA_of); (with_reducible assumption); omega; omega) | ((with_reducible apply isAr_of); (with_reducible assumption); decide) | ((with_reducible apply nI_ne0); omega; omega) | with_reducible exact isB_0 | with_reducible exact isB_1 | with_reducible exact isB_bI _)] | rw [bd_r (by with_reducible assumption)] | rw [bd_s] | rw [bd2_s] | rw [bd3_s] | rw [nm_s] | rw [nI_clamp (by omega)] | rw [nI_1] | rw [bd_e (a1)] | rw [bd_e (e1)] | rw [bd_e (e2)] | rw [if_neg (nI_nle c1 (by omega))] | rw [if_neg (nI_nle c2 (by omega))] | rw [if_pos (by first | with_reducible assumption | ((with_reducible refine nI_lt ?_ ?_); omega; omega) | ((with_reducible refine nI_nlt ?_ ?_); omega; omega) | with_reducible exact ne10 | with_reducible rfl)] | rw [if_neg (by first | with_reducible assumption | ((with_reducible refine nI_lt ?_ ?_); omega; omega) | ((with_reducible refine nI_nlt ?_ ?_); omega; omega) | with_reducible exact ne10 | with_reducible rfl)]))
    · refine ⟨0, M2, ?_, Or.inr ⟨rfl, fun q => c2 q.2⟩, a2, a3⟩
      (repeat (first | rw [ck_t (by first | with_reducible assumption | ((with_reducible apply ixA_of); (with_reducible assumption); omega; omega) | ((with_reducible apply isAr_of); (with_reducible assumption); decide) | ((with_reducible apply nI_ne0); omega; omega) | with_reducible exact isB_0 | with_reducible exact isB_1 | with_reducible exact isB_bI _)] | rw [bd_r (by with_reducible assumption)] | rw [bd_s] | rw [bd2_s] | rw [bd3_s] | rw [nm_s] | rw [nI_clamp (by omega)] | rw [nI_1] | rw [bd_e (a1)] | rw [bd_e (e1)] | rw [bd_e (e2)] | rw [if_neg (nI_nle c1 (by omega))] | rw [if_pos (show nI (cntS A B (-1) (plc P) (plc P).length) ≤ 0 by rw [show cntS A B (-1) (plc P) (plc P).length = 0 by omega]; decide)] | rw [if_pos (by first | with_reducible assumption | ((with_reducible refine nI_lt ?_ ?_); omega; omega) | ((with_reducible refine nI_nlt ?_ ?_); omega; omega) | with_reducible exact ne10 | with_reducible rfl)] | rw [if_neg (by first | with_reducible assumption | ((with_reducible refine nI_lt ?_ ?_); omega; omega) | ((with_reducible refine nI_nlt ?_ ?_); omega; omega) | with_reducible exact ne10 | with_reducible rfl)]))
  · refine ⟨0, M2, ?_, Or.inr ⟨rfl, fun q => c1 q.1⟩, a2, a3⟩
    (repeat (first | rw [ck_t (by first | with_reducible assumption | ((with_reducible apply ixA_of); (with_reducible assumption); omega; omega) | ((with_reducible apply isAr_of); (with_reducible assumption); decide) | ((with_reducible apply nI_ne0); omega; omega) | with_reducible exact isB_0 | with_reducible exact isB_1 | with_reducible exact isB_bI _)] | rw [bd_r (by with_reducible assumption)] | rw [bd_s] | rw [bd2_s] | rw [bd3_s] | rw [nm_s] | rw [nI_clamp (by omega)] | rw [nI_1] | rw [bd_e (a1)] | rw [bd_e (e1)] | rw [if_pos (show nI (cntS A B 1 (plc P) (plc P).length) ≤ 0 by rw [show cntS A B 1 (plc P) (plc P).length = 0 by omega]; decide)] | rw [if_pos (by first | with_reducible assumption | ((with_reducible refine nI_lt ?_ ?_); omega; omega) | ((with_reducible refine nI_nlt ?_ ?_); omega; omega) | with_reducible exact ne10 | with_reducible rfl)] | rw [if_neg (by first | with_reducible assumption | ((with_reducible refine nI_lt ?_ ?_); omega; omega) | ((with_reducible refine nI_nlt ?_ ?_); omega; omega) | with_reducible exact ne10 | with_reducible rfl)]))
theorem isLargeM_ok {P : Pc} (hm : moA K R m) (hP : isPc P) (h : lnM M m A B) (hB : lnB A B) (hl : rM M m 15 11 12 (plc P)) : ∃ v, mX8_isLarge K R M m = some v ∧ iv v (ofl A B P) := by
  have h0 := hm.1
  obtain ⟨q1, q2, q3, q4, q5⟩ := plc_ok hP
  have s16 := hP.1.2.1
  have e1 := cornersOn_ok (s := 1) hm h hB hl (by omega) (inBs_of q5) (Or.inl ⟨rfl, rfl⟩)
  have e2 := cornersOn_ok (s := -1) hm h hB hl (by omega) (inBs_of q5) (Or.inr ⟨rfl, rfl⟩)
  have b1 := cntS_le A B 1 (plc P) (plc P).length
  have b2 := cntS_le A B (-1) (plc P) (plc P).length
  have sum : ∀ c : Nat, c ≤ 100 → (nI c + 2 ≤ 16 ↔ c + 2 ≤ 16) := fun c hc => by
    rw [show nI c + 2 = nI (c + 2) from nI_add c 2, le32, nI_int (by omega)]
    show ((c + 2 : Nat) : Int) ≤ 16 ↔ _
    omega
  have one : mX8_isLarge_J24 K R M = some 1 := rfl
  unfold mX8_isLarge ofl
  (repeat (first | rw [ck_t (by first | with_reducible assumption | ((with_reducible apply ixA_of); (with_reducible assumption); omega; omega) | ((with_reducible apply isAr_of); (with_reducible assumption); decide) | ((with_reducible apply nI_ne0); omega; omega) | with_reducible exact isB_0 | with_reducible exact isB_1 | with_reducible exact isB_bI _)] | rw [bd_r (by with_reducible assumption)] | rw [bd_s] | rw [bd2_s] | rw [bd3_s] | rw [nm_s] | rw [nI_clamp (by omega)] | rw [nI_1] | rw [bd_e (e1)] | rw [if_pos (by first | with_reducible assumption | ((with_reducible refine nI_lt ?_ ?_); omega; omega) | ((with_reducible refine nI_nlt ?_ ?_); omega; omega) | with_reducible exact ne10 | with_reducible rfl)] | rw [if_neg (by first | with_reducible assumption | ((with_reducible refine nI_lt ?_ ?_); omega; omega) | ((with_reducible refine nI_nlt ?_ ?_); omega; omega) | with_reducible exact ne10 | with_reducible rfl)]))
  by_cases c1 : cntS A B 1 (plc P) (plc P).length + 2 ≤ 16
  · rw [if_pos ((sum _ (by omega)).mpr c1), bd_e e2]
    by_cases c2 : cntS A B (-1) (plc P) (plc P).length + 2 ≤ 16
    · exact ⟨0, by rw [if_pos ((sum _ (by omega)).mpr c2)], Or.inr ⟨rfl, by omega⟩⟩
    · exact ⟨1, by rw [if_neg (fun q => c2 ((sum _ (by omega)).mp q))]; exact one, Or.inl ⟨rfl, by omega⟩⟩
  · exact ⟨1, by rw [if_neg (fun q => c1 ((sum _ (by omega)).mp q))]; exact one, Or.inl ⟨rfl, by omega⟩⟩
/-- the number over a difference of sides -/
theorem frac_ok {x z u v : Int64} {p q : Pt} (hx : x.toInt = p.1) (hz : z.toInt = q.1) (hp : -100000 ≤ p.1 ∧ p.1 ≤ 100000) (hq : -100000 ≤ q.1 ∧ q.1 ≤ 100000) {U V : Int} (hu : u.toInt = U) (hv : v.toInt = V) (bU : -80000000000 ≤ U ∧ U ≤ 80000000000) (bV : -80000000000 ≤ V ∧ V ≤ 80000000000) : ((z - x) * u - (z - x) * u / (u - v) * (u - v) = 0 ↔ (U - V) ∣ (q.1 - p.1) * U) ∧ ((z - x) * u / (u - v)).toInt = ((q.1 - p.1) * U).tdiv (U - V) ∧ (u - v = 0 ↔ U = V) := by
  have z0 : (0 : Int64).toInt = 0 := rfl
  have d4 : (u - v).toInt = U - V := by rw [sub64 (by omega) (by omega), hu, hv]
  have s1 : (z - x).toInt = q.1 - p.1 := by rw [sub64b (by omega) (by omega) (by omega) (by omega), hx, hz]
  have b6 := mulb (x := q.1 - p.1) (y := U) (B := 200000) (C := 80000000000) (by omega) (by omega) (by omega) (by omega)
  have m6 : ((z - x) * u).toInt = (q.1 - p.1) * U := by rw [mul64 (by rw [s1, hu]; omega) (by rw [s1, hu]; omega), s1, hu]
  refine ⟨?_, by rw [div64 (by omega) (by omega), m6, d4], by rw [eq64, z0, d4]; omega⟩
  rw [eq64, z0, rem64 (by omega) (by omega), m6, d4]
  exact ⟨Int.dvd_of_tmod_eq_zero, Int.tmod_eq_zero_of_dvd⟩
theorem isWhole_ok {l : List Pt} (hm : moA K R m) (h : lnM M m A B) (hB : lnB A B) (hl : rM M m 15 11 12 l) (h20 : l.length ≤ 20) (bl : inBs l) : ∃ v, mX8_isWhole K R M m = some v ∧ iv v (allW A B l) := by
  have h0 := hm.1
  have h1 := mo_r13 hm
  have h2 := mo_r14 hm
  have h3 := mo_a13 hm
  have h4 := mo_a14 hm
  have e := hl.1
  have z0 : (0 : Int64).toInt = 0 := rfl
  have hL := lp_ind (f := mX8_isWhole_L4 K R M m) (fun (i : Nat) (t : Int32 × Int32) => t.2 = nI i ∧ iv t.1 (∀ j, j < i → opp (crs A B (vx l j)) (crs A B (vx l (j + 1))) → whl A B (vx l j) (vx l (j + 1)))) (fun r => iv r (allW A B l)) l.length ?_ ?_
  · obtain ⟨r, e1, e2⟩ := hL l.length 0 (1, nI 0) (by omega) ⟨rfl, Or.inl ⟨rfl, fun j hj => absurd hj (by omega)⟩⟩
    refine ⟨r, ?_, e2⟩
    unfold mX8_isWhole
    (repeat (first | rw [ck_t (by first | with_reducible assumption | ((with_reducible apply ixA_of); (with_reducible assumption); omega; omega) | ((with_reducible apply isAr_of); (with_reducible assumption); decide) | ((with_reducible apply nI_ne0); omega; omega) | with_reducible exact isB_0 | with_reducible exact isB_1 | with_reducible exact isB_bI _)] | rw [bd_r (by with_reducible assumption)] | rw [bd_s] | rw [bd2_s] | rw [bd3_s] | rw [nm_s] | rw [nI_clamp (by omega)] | rw [nI_1] | rw [if_pos (by first | with_reducible assumption | ((with_reducible refine nI_lt ?_ ?_); omega; omega) | ((with_reducible refine nI_nlt ?_ ?_); omega; omega) | with_reducible exact ne10 | with_reducible rfl)] | rw [if_neg (by first | with_reducible assumption | ((with_reducible refine nI_lt ?_ ?_); omega; omega) | ((with_reducible refine nI_nlt ?_ ?_); omega; omega) | with_reducible exact ne10 | with_reducible rfl)]))
    exact e1
  · rintro i ⟨t, z⟩ hi ⟨rfl, f0⟩
    have f : iv t (∀ j, j < i → opp (crs A B (vx l j)) (crs A B (vx l (j + 1))) → whl A B (vx l j) (vx l (j + 1))) := f0
    clear f0
    have hj := mod_lt' hi
    have gi := gp_get hi
    have gj := gp_get hj
    have vi : vx l i = gp l i := vx_lt hi
    have vj : vx l (i + 1) = gp l ((i + 1) % l.length) := rfl
    have Bi := bl _ _ gi
    have Bj := bl _ _ gj
    have pi := hl.pt gi
    have pj := hl.pt gj
    obtain ⟨w1, w2⟩ := hl.2 _ _ gi
    obtain ⟨w3, w4⟩ := hl.2 _ _ gj
    obtain ⟨u, u1, u2⟩ := sideOfM_ok (R := R) hm h hB (pi ▸ Bi)
    obtain ⟨v, v1, v2⟩ := sideOfM_ok (R := R) hm h hB (pj ▸ Bj)
    rw [← pi, ← vi] at u2
    rw [← pj, ← vj] at v2
    have bU := crsL_b hB Bi
    have bV := crsL_b hB Bj
    rw [← vi] at bU Bi w1 w2
    rw [← vj] at bV Bj w3 w4
    unfold inB at Bi Bj
    obtain ⟨r1, -, n1⟩ := frac_ok (p := vx l i) (q := vx l (i + 1)) w1 w3 (by omega) (by omega) u2 v2 bU bV
    obtain ⟨r2, -, -⟩ := frac_ok (p := ((vx l i).2, 0)) (q := ((vx l (i + 1)).2, 0)) w2 w4 (by simp only; omega) (by simp only; omega) u2 v2 bU bV
    have k1 : u ≤ 0 ↔ crs A B (vx l i) ≤ 0 := by rw [le64, z0, u2]
    have k2 : u < 0 ↔ crs A B (vx l i) < 0 := by rw [lt64, z0, u2]
    have k3 : v ≤ 0 ↔ crs A B (vx l (i + 1)) ≤ 0 := by rw [le64, z0, v2]
    have k4 : v < 0 ↔ crs A B (vx l (i + 1)) < 0 := by rw [lt64, z0, v2]
    have x3i : ixA K (m + 11) 1 (nI i) := ixA_of h3 (by omega) (by omega)
    have x4i : ixA K (m + 12) 1 (nI i) := ixA_of h4 (by omega) (by omega)
    have x3j : ixA K (m + 11) 1 (nI ((i + 1) % l.length)) := ixA_of h3 (by omega) (by omega)
    have x4j : ixA K (m + 12) 1 (nI ((i + 1) % l.length)) := ixA_of h4 (by omega) (by omega)
    have J149 : ∀ t, mX8_isWhole_J149 K R M m t (nI i) = some (.inl (t, nI (i + 1))) := fun t => by unfold mX8_isWhole_J149; (repeat (first | rw [ck_t (by first | with_reducible assumption | ((with_reducible apply ixA_of); (with_reducible assumption); omega; omega) | ((with_reducible apply isAr_of); (with_reducible assumption); decide) | ((with_reducible apply nI_ne0); omega; omega) | with_reducible exact isB_0 | with_reducible exact isB_1 | with_reducible exact isB_bI _)] | rw [bd_r (by with_reducible assumption)] | rw [bd_s] | rw [bd2_s] | rw [bd3_s] | rw [nm_s] | rw [nI_clamp (by omega)] | rw [nI_1] | rw [if_pos (by first | with_reducible assumption | ((with_reducible refine nI_lt ?_ ?_); omega; omega) | ((with_reducible refine nI_nlt ?_ ?_); omega; omega) | with_reducible exact ne10 | with_reducible rfl)] | rw [if_neg (by first | with_reducible assumption | ((with_reducible refine nI_lt ?_ ?_); omega; omega) | ((with_reducible refine nI_nlt ?_ ?_); omega; omega) | with_reducible exact ne10 | with_reducible rfl)]))
    have J147 : mX8_isWhole_J147 K R M m (nI i) = some (.inl (0, nI (i + 1))) := by unfold mX8_isWhole_J147 mX8_isWhole_J148; exact J149 0
    have nx : ¬ opp (crs A B (vx l i)) (crs A B (vx l (i + 1))) → ((∀ j, j < i + 1 → opp (crs A B (vx l j)) (crs A B (vx l (j + 1))) → whl A B (vx l j) (vx l (j + 1))) ↔ (∀ j, j < i → opp (crs A B (vx l j)) (crs A B (vx l (j + 1))) → whl A B (vx l j) (vx l (j + 1)))) := fun hn => by
      constructor
      · intro g j hj; exact g j (by omega)
      · intro g j hj ho
        by_cases hji : j = i
        · subst hji; exact absurd ho hn
        · exact g j (by omega) ho
    left
    show ∃ s', mX8_isWhole_B4 K R M m t (nI i) = some (.inl s') ∧ _
    have main : ¬ opp (crs A B (vx l i)) (crs A B (vx l (i + 1))) → mX8_isWhole_B4 K R M m t (nI i) = some (.inl (t, nI (i + 1))) := fun hn => by
      unfold mX8_isWhole_B4
      (repeat (first | rw [ck_t (by first | with_reducible assumption | ((with_reducible apply ixA_of); (with_reducible assumption); omega; omega) | ((with_reducible apply isAr_of); (with_reducible assumption); decide) | ((with_reducible apply nI_ne0); omega; omega) | with_reducible exact isB_0 | with_reducible exact isB_1 | with_reducible exact isB_bI _)] | rw [bd_r (by with_reducible assumption)] | rw [bd_s] | rw [bd2_s] | rw [bd3_s] | rw [nm_s] | rw [nI_clamp (by omega)] | rw [nI_1] | rw [e] | rw [pk_rem (by omega) (by omega) (by omega)] | rw [bd_e (u1)] | rw [bd_e (v1)] | rw [if_pos (by first | with_reducible assumption | ((with_reducible refine nI_lt ?_ ?_); omega; omega) | ((with_reducible refine nI_nlt ?_ ?_); omega; omega) | with_reducible exact ne10 | with_reducible rfl)] | rw [if_neg (by first | with_reducible assumption | ((with_reducible refine nI_lt ?_ ?_); omega; omega) | ((with_reducible refine nI_nlt ?_ ?_); omega; omega) | with_reducible exact ne10 | with_reducible rfl)]))
      have J71 : mX8_isWhole_J71 K R M m t (nI i) (nI ((i + 1) % l.length)) u v = some (.inl (t, nI (i + 1))) := by
        unfold mX8_isWhole_J71
        by_cases c2 : u < 0
        · rw [if_pos c2, if_pos (by rw [k3]; rw [k2] at c2; unfold opp at hn; omega)]; exact J149 t
        · rw [if_neg c2]; exact J149 t
      by_cases c1 : u ≤ 0
      · rw [if_pos c1]; exact J71
      · rw [if_neg c1, if_neg (by rw [k4]; rw [k1] at c1; unfold opp at hn; omega)]; exact J71
    have main2 : opp (crs A B (vx l i)) (crs A B (vx l (i + 1))) → mX8_isWhole_B4 K R M m t (nI i) = mX8_isWhole_J85 K R M m t (nI i) (nI ((i + 1) % l.length)) u v := fun ho => by
      unfold mX8_isWhole_B4
      (repeat (first | rw [ck_t (by first | with_reducible assumption | ((with_reducible apply ixA_of); (with_reducible assumption); omega; omega) | ((with_reducible apply isAr_of); (with_reducible assumption); decide) | ((with_reducible apply nI_ne0); omega; omega) | with_reducible exact isB_0 | with_reducible exact isB_1 | with_reducible exact isB_bI _)] | rw [bd_r (by with_reducible assumption)] | rw [bd_s] | rw [bd2_s] | rw [bd3_s] | rw [nm_s] | rw [nI_clamp (by omega)] | rw [nI_1] | rw [e] | rw [pk_rem (by omega) (by omega) (by omega)] | rw [bd_e (u1)] | rw [bd_e (v1)] | rw [if_pos (by first | with_reducible assumption | ((with_reducible refine nI_lt ?_ ?_); omega; omega) | ((with_reducible refine nI_nlt ?_ ?_); omega; omega) | with_reducible exact ne10 | with_reducible rfl)] | rw [if_neg (by first | with_reducible assumption | ((with_reducible refine nI_lt ?_ ?_); omega; omega) | ((with_reducible refine nI_nlt ?_ ?_); omega; omega) | with_reducible exact ne10 | with_reducible rfl)]))
      by_cases c1 : u ≤ 0
      · rw [if_pos c1]
        unfold mX8_isWhole_J71
        rw [if_pos (by rw [k2]; rw [k1] at c1; unfold opp at ho; omega), if_neg (by rw [k3]; rw [k1] at c1; unfold opp at ho; omega)]
      · rw [if_neg c1, if_pos (by rw [k4]; rw [k1] at c1; unfold opp at ho; omega)]
    by_cases ho : opp (crs A B (vx l i)) (crs A B (vx l (i + 1)))
    · rw [main2 ho]
      have n0 : ¬ u - v = 0 := fun q => by have := n1.mp q; unfold opp at ho; omega
      unfold mX8_isWhole_J85
      rcases f with ⟨rfl, f⟩ | ⟨rfl, f⟩
      · rw [if_neg ne10]
        by_cases c1 : (M.2 (m + 11) ((i + 1) % l.length) - M.2 (m + 11) i) * u - (M.2 (m + 11) ((i + 1) % l.length) - M.2 (m + 11) i) * u / (u - v) * (u - v) = 0
        · by_cases c2 : (M.2 (m + 12) ((i + 1) % l.length) - M.2 (m + 12) i) * u - (M.2 (m + 12) ((i + 1) % l.length) - M.2 (m + 12) i) * u / (u - v) * (u - v) = 0
          · refine ⟨(1, nI (i + 1)), ?_, rfl, Or.inl ⟨rfl, fun j hj hop => ?_⟩⟩
            · (repeat (first | rw [ck_t (by first | with_reducible assumption | ((with_reducible apply ixA_of); (with_reducible assumption); omega; omega) | ((with_reducible apply isAr_of); (with_reducible assumption); decide) | ((with_reducible apply nI_ne0); omega; omega) | with_reducible exact isB_0 | with_reducible exact isB_1 | with_reducible exact isB_bI _)] | rw [bd_r (by with_reducible assumption)] | rw [bd_s] | rw [bd2_s] | rw [bd3_s] | rw [nm_s] | rw [nI_clamp (by omega)] | rw [nI_1] | rw [if_pos (by first | with_reducible assumption | ((with_reducible refine nI_lt ?_ ?_); omega; omega) | ((with_reducible refine nI_nlt ?_ ?_); omega; omega) | with_reducible exact ne10 | with_reducible rfl)] | rw [if_neg (by first | with_reducible assumption | ((with_reducible refine nI_lt ?_ ?_); omega; omega) | ((with_reducible refine nI_nlt ?_ ?_); omega; omega) | with_reducible exact ne10 | with_reducible rfl)]))
              unfold mX8_isWhole_J148
              exact J149 1
            · by_cases hji : j = i
              · subst hji; exact ⟨r1.mp c1, r2.mp c2⟩
              · exact f j (by omega) hop
          · refine ⟨(0, nI (i + 1)), ?_, rfl, Or.inr ⟨rfl, fun g => c2 (r2.mpr (g i (by omega) ho).2)⟩⟩
            (repeat (first | rw [ck_t (by first | with_reducible assumption | ((with_reducible apply ixA_of); (with_reducible assumption); omega; omega) | ((with_reducible apply isAr_of); (with_reducible assumption); decide) | ((with_reducible apply nI_ne0); omega; omega) | with_reducible exact isB_0 | with_reducible exact isB_1 | with_reducible exact isB_bI _)] | rw [bd_r (by with_reducible assumption)] | rw [bd_s] | rw [bd2_s] | rw [bd3_s] | rw [nm_s] | rw [nI_clamp (by omega)] | rw [nI_1] | rw [J147] | rw [if_pos (by first | with_reducible assumption | ((with_reducible refine nI_lt ?_ ?_); omega; omega) | ((with_reducible refine nI_nlt ?_ ?_); omega; omega) | with_reducible exact ne10 | with_reducible rfl)] | rw [if_neg (by first | with_reducible assumption | ((with_reducible refine nI_lt ?_ ?_); omega; omega) | ((with_reducible refine nI_nlt ?_ ?_); omega; omega) | with_reducible exact ne10 | with_reducible rfl)]))
        · refine ⟨(0, nI (i + 1)), ?_, rfl, Or.inr ⟨rfl, fun g => c1 (r1.mpr (g i (by omega) ho).1)⟩⟩
          (repeat (first | rw [ck_t (by first | with_reducible assumption | ((with_reducible apply ixA_of); (with_reducible assumption); omega; omega) | ((with_reducible apply isAr_of); (with_reducible assumption); decide) | ((with_reducible apply nI_ne0); omega; omega) | with_reducible exact isB_0 | with_reducible exact isB_1 | with_reducible exact isB_bI _)] | rw [bd_r (by with_reducible assumption)] | rw [bd_s] | rw [bd2_s] | rw [bd3_s] | rw [nm_s] | rw [nI_clamp (by omega)] | rw [nI_1] | rw [J147] | rw [if_pos (by first | with_reducible assumption | ((with_reducible refine nI_lt ?_ ?_); omega; omega) | ((with_reducible refine nI_nlt ?_ ?_); omega; omega) | with_reducible exact ne10 | with_reducible rfl)] | rw [if_neg (by first | with_reducible assumption | ((with_reducible refine nI_lt ?_ ?_); omega; omega) | ((with_reducible refine nI_nlt ?_ ?_); omega; omega) | with_reducible exact ne10 | with_reducible rfl)]))
      · rw [if_pos rfl]
        exact ⟨_, J147, rfl, Or.inr ⟨rfl, fun g => f (fun j hj => g j (by omega))⟩⟩
    · exact ⟨_, main ho, rfl, f.congr (nx ho).symm⟩
  · rintro ⟨t, z⟩ ⟨rfl, f⟩
    have f : iv t (∀ j, j < l.length → opp (crs A B (vx l j)) (crs A B (vx l (j + 1))) → whl A B (vx l j) (vx l (j + 1))) := f
    refine ⟨t, ?_, f⟩
    show mX8_isWhole_B4 K R M m t (nI l.length) = _
    unfold mX8_isWhole_B4
    have := f.b
    (repeat (first | rw [ck_t (by first | with_reducible assumption | ((with_reducible apply ixA_of); (with_reducible assumption); omega; omega) | ((with_reducible apply isAr_of); (with_reducible assumption); decide) | ((with_reducible apply nI_ne0); omega; omega) | with_reducible exact isB_0 | with_reducible exact isB_1 | with_reducible exact isB_bI _)] | rw [bd_r (by with_reducible assumption)] | rw [bd_s] | rw [bd2_s] | rw [bd3_s] | rw [nm_s] | rw [nI_clamp (by omega)] | rw [nI_1] | rw [e] | rw [if_pos (by first | with_reducible assumption | ((with_reducible refine nI_lt ?_ ?_); omega; omega) | ((with_reducible refine nI_nlt ?_ ?_); omega; omega) | with_reducible exact ne10 | with_reducible rfl)] | rw [if_neg (by first | with_reducible assumption | ((with_reducible refine nI_lt ?_ ?_); omega; omega) | ((with_reducible refine nI_nlt ?_ ?_); omega; omega) | with_reducible exact ne10 | with_reducible rfl)]))
    rfl
end CM
