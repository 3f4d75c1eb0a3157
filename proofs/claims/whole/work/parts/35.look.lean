/-! THE REFERENCE LOOKS AT A PIECE -/
section LK
variable {K : Kk} {R : Rr} {M : Mm} {m : Nat}
theorem psM.pc {f : Nat → Int64} {ps : List Pc} {p : Nat} {P : Pc} (h : psM f 0 ps) (hp : ps[p]? = some P) : pcM f (37 * p) P := by
  have := h.2 p P hp
  rwa [Nat.zero_add] at this
theorem psM.fr {is as : List Nat} {M' : Mm} {ps : List Pc} (h : psM (M.2 (m + 1)) 0 ps) (f : FM m is as M M') (ha : 1 ∉ as) : psM (M'.2 (m + 1)) 0 ps := by rw [f.ar 1 ha]; exact h
theorem ix37 (p w : Nat) : (37 : Int32) * nI p + nI w = nI (37 * p + w) := by rw [show (37 : Int32) = nI 37 from rfl, pk_mul, nI_add]
theorem get_ok {p w : Nat} {a1 : Int32} (hm : moA K R m) (ha : a1 = nI w) (hp : p < 40) (hw : w < 37) : mX8_get K R M m (nI p) a1 = some (M.2 (m + 1) (37 * p + w)) := by
  have h0 := hm.1
  have h1 := mo_r0 hm
  have h2 := mo_a0 hm
  subst ha
  unfold mX8_get
  rw [ix37]
  repeat (first | rw [ck_t (by first | with_reducible assumption | ((with_reducible apply ixA_of); (with_reducible assumption); omega; decide) | ((with_reducible apply isAr_of); (with_reducible assumption); decide) | with_reducible exact isB_0 | with_reducible exact isB_1 | with_reducible exact isB_bI _)] | rw [bd_r (by with_reducible assumption)] | rw [bd_s] | rw [bd2_s] | rw [bd3_s] | rw [nm_s] | rw [nI_clamp (by omega)] | rw [nI_1] | rw [if_pos (by first | with_reducible assumption | ((with_reducible refine nI_lt ?_ ?_); omega; omega) | ((with_reducible refine nI_nlt ?_ ?_); omega; omega) | with_reducible exact ne10 | with_reducible rfl)] | rw [if_neg (by first | with_reducible assumption | ((with_reducible refine nI_lt ?_ ?_); omega; omega) | ((with_reducible refine nI_nlt ?_ ?_); omega; omega) | with_reducible exact ne10 | with_reducible rfl)])
theorem size_ok {p : Nat} {P : Pc} {ps : List Pc} (hm : moA K R m) (hps : psM (M.2 (m + 1)) 0 ps) (hp : ps[p]? = some P) (h40 : ps.length ≤ 40) : mX8_size K R M m (nI p) = some (nI P.1.length) := by
  have h0 := hm.1
  have hl := get_lt hp
  have e := (hps.pc hp).1
  unfold mX8_size
  repeat (first | rw [ck_t (by first | with_reducible assumption | ((with_reducible apply ixA_of); (with_reducible assumption); omega; decide) | ((with_reducible apply isAr_of); (with_reducible assumption); decide) | with_reducible exact isB_0 | with_reducible exact isB_1 | with_reducible exact isB_bI _)] | rw [bd_r (by with_reducible assumption)] | rw [bd_s] | rw [bd2_s] | rw [bd3_s] | rw [nm_s] | rw [nI_clamp (by omega)] | rw [nI_1] | rw [bd_e (get_ok (a1 := 0) (w := 0) hm rfl (by omega) (by omega))] | rw [if_pos (by first | with_reducible assumption | ((with_reducible refine nI_lt ?_ ?_); omega; omega) | ((with_reducible refine nI_nlt ?_ ?_); omega; omega) | with_reducible exact ne10 | with_reducible rfl)] | rw [if_neg (by first | with_reducible assumption | ((with_reducible refine nI_lt ?_ ?_); omega; omega) | ((with_reducible refine nI_nlt ?_ ?_); omega; omega) | with_reducible exact ne10 | with_reducible rfl)])
  show some (M.2 (m + 1) (37 * p)).toInt32 = _
  rw [e, lN_i32]
theorem pm1_mul64 {t y : Int64} {ti x : Int} (ht : t.toInt = ti) (h1 : ti = 1 ∨ ti = -1) (hy : y.toInt = x) (hb : -2000000 ≤ x) (hb2 : x ≤ 2000000) : (t * y).toInt = ti * x := by
  rw [mul64 (by rw [ht, hy]; rcases h1 with rfl | rfl <;> omega) (by rw [ht, hy]; rcases h1 with rfl | rfl <;> omega), ht, hy]
theorem take_app {α : Type} {l : List α} {p : α} {i : Nat} (h : l[i]? = some p) : l.take (i + 1) = l.take i ++ [p] := by rw [List.take_succ, h]; rfl
/-- one list of places is copied to other arrays -/
theorem rM.cp {N N2 : Mm} {s x y x' y' i : Nat} {l : List Pt} {p : Pt} (hN : rM N m s x y l) (hp : l[i]? = some p) (h : ∀ (k : Nat) q, k < i → l[k]? = some q → (N.2 (m + x') k).toInt = q.1 ∧ (N.2 (m + y') k).toInt = q.2) (hxy : x' ≠ y') (h1 : y ≠ x')
    (e : N2 = pL (pL N (m + x') i (N.2 (m + x) i)) (m + y') i (N.2 (m + y) i)) : ∀ (k : Nat) q, k < i + 1 → l[k]? = some q → (N2.2 (m + x') k).toInt = q.1 ∧ (N2.2 (m + y') k).toInt = q.2 := by
  intro k q hk hq
  rw [e, pL_n (show m + x' ≠ m + y' by omega)]
  by_cases hki : k = i
  · subst hki
    rw [pL_s, pL_s, get_un hq hp]
    exact hN.2 k p hp
  · rw [pL_k hki, pL_k hki, pL_n (show m + y' ≠ m + x' by omega)]
    exact h k q (by omega) hq
theorem lookA_J {l : List Pt} (hm : moA K R m) (h : rM M m 24 17 18 l) (h15 : M.1 m 15 = nI l.length) (hl : l.length ≤ 20) : ∃ M', lp (mX8_lookA_L91 K R m) (0, M) = some M' ∧ rM M' m 15 11 12 l ∧ FM m [] [11, 12] M M' := by
  have h1 := mo_r13 hm
  have h2 := mo_r14 hm
  have h3 := mo_a13 hm
  have h4 := mo_a14 hm
  have h5 := mo_r22 hm
  have h6 := mo_r23 hm
  have h7 := mo_a22 hm
  have h8 := mo_a23 hm
  have hL := lp_ind (f := mX8_lookA_L91 K R m) (fun (i : Nat) (s : Int32 × Mm) => s.1 = nI i ∧ FM m [] [11, 12] M s.2 ∧ ∀ (k : Nat) q, k < i → l[k]? = some q → (s.2.2 (m + 11) k).toInt = q.1 ∧ (s.2.2 (m + 12) k).toInt = q.2) (fun M' => rM M' m 15 11 12 l ∧ FM m [] [11, 12] M M') l.length ?_ ?_
  · exact hL l.length 0 (nI 0, M) (by omega) ⟨rfl, FM.rf, fun k q hk => absurd hk (by omega)⟩
  · rintro i ⟨x, N⟩ hi ⟨rfl, f1, f2⟩
    have f1 : FM m [] [11, 12] M N := f1
    obtain ⟨p, hp⟩ := get_ex hi
    have hN := h.fr f1 (by decide) (by decide) (by decide)
    have eN : N.1 m 15 = nI l.length := (f1.sl 15 (by decide)).trans h15
    refine Or.inl ⟨(nI (i + 1), pL (pL N (m + 11) i (N.2 (m + 17) i)) (m + 12) i (N.2 (m + 18) i)), ?_, rfl, (f1.pL (by decide)).pL (by decide), hN.cp hp f2 (by decide) (by decide) rfl⟩
    show mX8_lookA_B91 K R m (nI i) N = _
    unfold mX8_lookA_B91
    repeat (first | rw [ck_t (by first | with_reducible assumption | ((with_reducible apply ixA_of); (with_reducible assumption); omega; decide) | ((with_reducible apply isAr_of); (with_reducible assumption); decide) | with_reducible exact isB_0 | with_reducible exact isB_1 | with_reducible exact isB_bI _)] | rw [bd_r (by with_reducible assumption)] | rw [bd_s] | rw [bd2_s] | rw [bd3_s] | rw [nm_s] | rw [nI_clamp (by omega)] | rw [nI_1] | rw [eN] | rw [pL_n (show m + 18 ≠ m + 11 by omega)] | rw [if_pos (by first | with_reducible assumption | ((with_reducible refine nI_lt ?_ ?_); omega; omega) | ((with_reducible refine nI_nlt ?_ ?_); omega; omega) | with_reducible exact ne10 | with_reducible rfl)] | rw [if_neg (by first | with_reducible assumption | ((with_reducible refine nI_lt ?_ ?_); omega; omega) | ((with_reducible refine nI_nlt ?_ ?_); omega; omega) | with_reducible exact ne10 | with_reducible rfl)])
  · rintro ⟨x, N⟩ ⟨rfl, f1, f2⟩
    have f1 : FM m [] [11, 12] M N := f1
    have eN : N.1 m 15 = nI l.length := (f1.sl 15 (by decide)).trans h15
    refine ⟨N, ?_, ⟨eN, fun i p hp => f2 i p (get_lt hp) hp⟩, f1⟩
    show mX8_lookA_B91 K R m (nI l.length) N = _
    unfold mX8_lookA_B91
    repeat (first | rw [ck_t (by first | with_reducible assumption | ((with_reducible apply ixA_of); (with_reducible assumption); omega; decide) | ((with_reducible apply isAr_of); (with_reducible assumption); decide) | with_reducible exact isB_0 | with_reducible exact isB_1 | with_reducible exact isB_bI _)] | rw [bd_r (by with_reducible assumption)] | rw [bd_s] | rw [bd2_s] | rw [bd3_s] | rw [nm_s] | rw [nI_clamp (by omega)] | rw [nI_1] | rw [eN] | rw [if_pos (by first | with_reducible assumption | ((with_reducible refine nI_lt ?_ ?_); omega; omega) | ((with_reducible refine nI_nlt ?_ ?_); omega; omega) | with_reducible exact ne10 | with_reducible rfl)] | rw [if_neg (by first | with_reducible assumption | ((with_reducible refine nI_lt ?_ ?_); omega; omega) | ((with_reducible refine nI_nlt ?_ ?_); omega; omega) | with_reducible exact ne10 | with_reducible rfl)])
    rfl
theorem lookA_ok {p : Nat} {P : Pc} {ps : List Pc} (hm : moA K R m) (hps : psM (M.2 (m + 1)) 0 ps) (hp : ps[p]? = some P) (h40 : ps.length ≤ 40) (hP : isPc P) : ∃ M', mX8_lookA K R M m (nI p) = some M' ∧ rM M' m 15 11 12 (plc P) ∧ FM m [15, 21, 24] [11, 12, 15, 16, 17, 18] M M' := by
  have h0 := hm.1
  have hpl := get_lt hp
  have hP0 := hP
  obtain ⟨⟨p1, p2, p3, p4, p5⟩, p6, p7⟩ := hP
  have hmv := hP0.mv
  obtain ⟨q1, q2, q3, q4, q5⟩ := plc_ok hP0
  have hmB : ∀ c, c ∈ mvL P → inB c := fun c hc => q5 c (norm_mem.mpr hc)
  have lm : (mvL P).length = P.1.length := List.length_map _
  have hW := lp_ind (f := mX8_lookA_L6 K R m (nI p)) (fun (i : Nat) (s : Int32 × Mm) => s.1 = nI i ∧ rM s.2 m 21 15 16 ((mvL P).take i) ∧ FM m [21] [15, 16] M s.2) (fun M' => rM M' m 15 11 12 (plc P) ∧ FM m [15, 21, 24] [11, 12, 15, 16, 17, 18] M M') P.1.length ?_ ?_
  · obtain ⟨M', e1, e2⟩ := hW P.1.length 0 (nI 0, pI M m 21 0) (by omega) ⟨rfl, ⟨pI_s, fun i c hc => by simp at hc⟩, FM.rf.pI (by decide)⟩
    refine ⟨M', ?_, e2⟩
    unfold mX8_lookA
    repeat (first | rw [ck_t (by first | with_reducible assumption | ((with_reducible apply ixA_of); (with_reducible assumption); omega; decide) | ((with_reducible apply isAr_of); (with_reducible assumption); decide) | with_reducible exact isB_0 | with_reducible exact isB_1 | with_reducible exact isB_bI _)] | rw [bd_r (by with_reducible assumption)] | rw [bd_s] | rw [bd2_s] | rw [bd3_s] | rw [nm_s] | rw [nI_clamp (by omega)] | rw [nI_1] | rw [bd_e (begin_ok hm)] | rw [if_pos (by first | with_reducible assumption | ((with_reducible refine nI_lt ?_ ?_); omega; omega) | ((with_reducible refine nI_nlt ?_ ?_); omega; omega) | with_reducible exact ne10 | with_reducible rfl)] | rw [if_neg (by first | with_reducible assumption | ((with_reducible refine nI_lt ?_ ?_); omega; omega) | ((with_reducible refine nI_nlt ?_ ?_); omega; omega) | with_reducible exact ne10 | with_reducible rfl)])
    exact e1
  · rintro i ⟨x, N⟩ hi ⟨rfl, f1, f2⟩
    have f1 : rM N m 21 15 16 ((mvL P).take i) := f1
    have f2 : FM m [21] [15, 16] M N := f2
    have hN := hps.fr f2 (by decide)
    obtain ⟨g1, g2, g3, g4, g5, g6⟩ := hN.pc hp
    obtain ⟨c, hc⟩ := get_ex hi
    obtain ⟨c1, c2⟩ := g2 i c hc
    obtain ⟨b1, b2, b3, b4⟩ := p5 i c hc
    have k1 : mX8_get K R N m (nI p) (1 + 2 * nI i) = some (N.2 (m + 1) (37 * p + 1 + 2 * i)) := by
      rw [get_ok (a1 := 1 + 2 * nI i) (p := p) (w := 1 + 2 * i) hm (show nI 1 + nI 2 * nI i = _ by rw [pk_mul, nI_add]) (by omega) (by omega), Nat.add_assoc]
    have k2 : mX8_get K R N m (nI p) (2 + 2 * nI i) = some (N.2 (m + 1) (37 * p + 2 + 2 * i)) := by
      rw [get_ok (a1 := 2 + 2 * nI i) (p := p) (w := 2 + 2 * i) hm (show nI 2 + nI 2 * nI i = _ by rw [pk_mul, nI_add]) (by omega) (by omega), Nat.add_assoc]
    have k33 : mX8_get K R N m (nI p) 33 = some (N.2 (m + 1) (37 * p + 33)) := get_ok hm rfl (by omega) (by omega)
    have k34 : mX8_get K R N m (nI p) 34 = some (N.2 (m + 1) (37 * p + 34)) := get_ok hm rfl (by omega) (by omega)
    have k35 : mX8_get K R N m (nI p) 35 = some (N.2 (m + 1) (37 * p + 35)) := get_ok hm rfl (by omega) (by omega)
    have m1 := pm1_mul64 g3 p6 c1 (by omega) (by omega)
    have m2 := pm1_mul64 g3 p6 c2 (by omega) (by omega)
    have w1 : -100000 ≤ P.2.1 * c.1 ∧ P.2.1 * c.1 ≤ 100000 := by rcases p6 with e | e <;> rw [e] <;> omega
    have w2 : -100000 ≤ P.2.1 * c.2 ∧ P.2.1 * c.2 ≤ 100000 := by rcases p6 with e | e <;> rw [e] <;> omega
    have a1 := add64 (x := N.2 (m + 1) (37 * p + 33) * N.2 (m + 1) (37 * p + 1 + 2 * i)) (y := N.2 (m + 1) (37 * p + 34)) (by rw [m1, g4]; omega) (by rw [m1, g4]; omega)
    have a2 := add64 (x := N.2 (m + 1) (37 * p + 33) * N.2 (m + 1) (37 * p + 2 + 2 * i)) (y := N.2 (m + 1) (37 * p + 35)) (by rw [m2, g5]; omega) (by rw [m2, g5]; omega)
    rw [m1, g4] at a1
    rw [m2, g5] at a2
    obtain ⟨N2, d1, d2, d3⟩ := point_ok (x := N.2 (m + 1) (37 * p + 33) * N.2 (m + 1) (37 * p + 1 + 2 * i) + N.2 (m + 1) (37 * p + 34)) (y := N.2 (m + 1) (37 * p + 33) * N.2 (m + 1) (37 * p + 2 + 2 * i) + N.2 (m + 1) (37 * p + 35)) hm f1 (by rw [List.length_take]; omega)
    refine Or.inl ⟨(nI (i + 1), N2), ?_, rfl, ?_, f2.tr d3⟩
    · show mX8_lookA_B6 K R m (nI p) (nI i) N = _
      unfold mX8_lookA_B6
      repeat (first | rw [ck_t (by first | with_reducible assumption | ((with_reducible apply ixA_of); (with_reducible assumption); omega; decide) | ((with_reducible apply isAr_of); (with_reducible assumption); decide) | with_reducible exact isB_0 | with_reducible exact isB_1 | with_reducible exact isB_bI _)] | rw [bd_r (by with_reducible assumption)] | rw [bd_s] | rw [bd2_s] | rw [bd3_s] | rw [nm_s] | rw [nI_clamp (by omega)] | rw [nI_1] | rw [bd_e (size_ok hm hN hp h40)] | rw [bd_e (k33)] | rw [bd_e (k1)] | rw [bd_e (k34)] | rw [bd_e (k2)] | rw [bd_e (k35)] | rw [bd_e (d1)] | rw [if_pos (by first | with_reducible assumption | ((with_reducible refine nI_lt ?_ ?_); omega; omega) | ((with_reducible refine nI_nlt ?_ ?_); omega; omega) | with_reducible exact ne10 | with_reducible rfl)] | rw [if_neg (by first | with_reducible assumption | ((with_reducible refine nI_lt ?_ ?_); omega; omega) | ((with_reducible refine nI_nlt ?_ ?_); omega; omega) | with_reducible exact ne10 | with_reducible rfl)])
    · show rM N2 m 21 15 16 ((mvL P).take (i + 1))
      rw [take_app (map_get hc)]
      rw [a1, a2] at d2
      exact d2
  · rintro ⟨x, N⟩ ⟨rfl, f1, f2⟩
    have f1 : rM N m 21 15 16 ((mvL P).take P.1.length) := f1
    rw [← lm, List.take_length] at f1
    have f2 : FM m [21] [15, 16] M N := f2
    have hN := hps.fr f2 (by decide)
    obtain ⟨N2, d1, d2, d3⟩ := outermost_ok hm f1 (by omega) hmB (by omega) q1
    obtain ⟨N3, e1, e2, e3⟩ := lookA_J (M := pI N2 m 15 (nI (plc P).length)) hm (d2.fr (FM.rf.pI (is := [15]) (as := []) (by decide)) (by decide) (by decide) (by decide)) pI_s (by omega)
    refine ⟨N3, ?_, e2, ((f2.mo (by decide) (by decide)).tr ((d3.mo (by decide) (by decide)).pI (by decide))).tr (e3.mo (by decide) (by decide))⟩
    show mX8_lookA_B6 K R m (nI p) (nI P.1.length) N = _
    unfold mX8_lookA_B6
    repeat (first | rw [ck_t (by first | with_reducible assumption | ((with_reducible apply ixA_of); (with_reducible assumption); omega; decide) | ((with_reducible apply isAr_of); (with_reducible assumption); decide) | with_reducible exact isB_0 | with_reducible exact isB_1 | with_reducible exact isB_bI _)] | rw [bd_r (by with_reducible assumption)] | rw [bd_s] | rw [bd2_s] | rw [bd3_s] | rw [nm_s] | rw [nI_clamp (by omega)] | rw [nI_1] | rw [bd_e (size_ok hm hN hp h40)] | rw [bd_e (d1)] | rw [d2.1] | rw [if_pos (by first | with_reducible assumption | ((with_reducible refine nI_lt ?_ ?_); omega; omega) | ((with_reducible refine nI_nlt ?_ ?_); omega; omega) | with_reducible exact ne10 | with_reducible rfl)] | rw [if_neg (by first | with_reducible assumption | ((with_reducible refine nI_lt ?_ ?_); omega; omega) | ((with_reducible refine nI_nlt ?_ ?_); omega; omega) | with_reducible exact ne10 | with_reducible rfl)])
    rw [show lp (mX8_lookA_L91 K R m) (0, pI N2 m 15 (nI (plc P).length)) = some N3 from e1]
    rfl
theorem lookB_J {l : List Pt} (hm : moA K R m) (h : rM M m 15 11 12 l) (h15 : M.1 m 18 = nI l.length) (hl : l.length ≤ 20) : ∃ M', lp (mX8_lookB_L15 K R m) (0, M) = some M' ∧ rM M' m 18 13 14 l ∧ FM m [] [13, 14] M M' := by
  have h1 := mo_r13 hm
  have h2 := mo_r14 hm
  have h3 := mo_a13 hm
  have h4 := mo_a14 hm
  have h5 := mo_r16 hm
  have h6 := mo_r17 hm
  have h7 := mo_a16 hm
  have h8 := mo_a17 hm
  have hL := lp_ind (f := mX8_lookB_L15 K R m) (fun (i : Nat) (s : Int32 × Mm) => s.1 = nI i ∧ FM m [] [13, 14] M s.2 ∧ ∀ (k : Nat) q, k < i → l[k]? = some q → (s.2.2 (m + 13) k).toInt = q.1 ∧ (s.2.2 (m + 14) k).toInt = q.2) (fun M' => rM M' m 18 13 14 l ∧ FM m [] [13, 14] M M') l.length ?_ ?_
  · exact hL l.length 0 (nI 0, M) (by omega) ⟨rfl, FM.rf, fun k q hk => absurd hk (by omega)⟩
  · rintro i ⟨x, N⟩ hi ⟨rfl, f1, f2⟩
    have f1 : FM m [] [13, 14] M N := f1
    obtain ⟨p, hp⟩ := get_ex hi
    have hN := h.fr f1 (by decide) (by decide) (by decide)
    have eN : N.1 m 18 = nI l.length := (f1.sl 18 (by decide)).trans h15
    refine Or.inl ⟨(nI (i + 1), pL (pL N (m + 13) i (N.2 (m + 11) i)) (m + 14) i (N.2 (m + 12) i)), ?_, rfl, (f1.pL (by decide)).pL (by decide), hN.cp hp f2 (by decide) (by decide) rfl⟩
    show mX8_lookB_B15 K R m (nI i) N = _
    unfold mX8_lookB_B15
    repeat (first | rw [ck_t (by first | with_reducible assumption | ((with_reducible apply ixA_of); (with_reducible assumption); omega; decide) | ((with_reducible apply isAr_of); (with_reducible assumption); decide) | with_reducible exact isB_0 | with_reducible exact isB_1 | with_reducible exact isB_bI _)] | rw [bd_r (by with_reducible assumption)] | rw [bd_s] | rw [bd2_s] | rw [bd3_s] | rw [nm_s] | rw [nI_clamp (by omega)] | rw [nI_1] | rw [eN] | rw [pL_n (show m + 12 ≠ m + 13 by omega)] | rw [if_pos (by first | with_reducible assumption | ((with_reducible refine nI_lt ?_ ?_); omega; omega) | ((with_reducible refine nI_nlt ?_ ?_); omega; omega) | with_reducible exact ne10 | with_reducible rfl)] | rw [if_neg (by first | with_reducible assumption | ((with_reducible refine nI_lt ?_ ?_); omega; omega) | ((with_reducible refine nI_nlt ?_ ?_); omega; omega) | with_reducible exact ne10 | with_reducible rfl)])
  · rintro ⟨x, N⟩ ⟨rfl, f1, f2⟩
    have f1 : FM m [] [13, 14] M N := f1
    have eN : N.1 m 18 = nI l.length := (f1.sl 18 (by decide)).trans h15
    refine ⟨N, ?_, ⟨eN, fun i p hp => f2 i p (get_lt hp) hp⟩, f1⟩
    show mX8_lookB_B15 K R m (nI l.length) N = _
    unfold mX8_lookB_B15
    repeat (first | rw [ck_t (by first | with_reducible assumption | ((with_reducible apply ixA_of); (with_reducible assumption); omega; decide) | ((with_reducible apply isAr_of); (with_reducible assumption); decide) | with_reducible exact isB_0 | with_reducible exact isB_1 | with_reducible exact isB_bI _)] | rw [bd_r (by with_reducible assumption)] | rw [bd_s] | rw [bd2_s] | rw [bd3_s] | rw [nm_s] | rw [nI_clamp (by omega)] | rw [nI_1] | rw [eN] | rw [if_pos (by first | with_reducible assumption | ((with_reducible refine nI_lt ?_ ?_); omega; omega) | ((with_reducible refine nI_nlt ?_ ?_); omega; omega) | with_reducible exact ne10 | with_reducible rfl)] | rw [if_neg (by first | with_reducible assumption | ((with_reducible refine nI_lt ?_ ?_); omega; omega) | ((with_reducible refine nI_nlt ?_ ?_); omega; omega) | with_reducible exact ne10 | with_reducible rfl)])
    rfl
theorem lookB_ok {p : Nat} {P : Pc} {ps : List Pc} (hm : moA K R m) (hps : psM (M.2 (m + 1)) 0 ps) (hp : ps[p]? = some P) (h40 : ps.length ≤ 40) (hP : isPc P) : ∃ M', mX8_lookB K R M m (nI p) = some M' ∧ rM M' m 18 13 14 (plc P) ∧ FM m [15, 18, 21, 24] [11, 12, 13, 14, 15, 16, 17, 18] M M' := by
  have h0 := hm.1
  have h16 := hP.1.2.1
  have lp2 := (plc_ok hP).2.2.2.1
  obtain ⟨N, d1, d2, d3⟩ := lookA_ok hm hps hp h40 hP
  obtain ⟨N3, e1, e2, e3⟩ := lookB_J (M := pI N m 18 (nI (plc P).length)) hm (d2.fr (FM.rf.pI (is := [18]) (as := []) (by decide)) (by decide) (by decide) (by decide)) pI_s (by omega)
  refine ⟨N3, ?_, e2, ((d3.mo (by decide) (by decide)).pI (by decide)).tr (e3.mo (by decide) (by decide))⟩
  unfold mX8_lookB
  repeat (first | rw [ck_t (by first | with_reducible assumption | ((with_reducible apply ixA_of); (with_reducible assumption); omega; decide) | ((with_reducible apply isAr_of); (with_reducible assumption); decide) | with_reducible exact isB_0 | with_reducible exact isB_1 | with_reducible exact isB_bI _)] | rw [bd_r (by with_reducible assumption)] | rw [bd_s] | rw [bd2_s] | rw [bd3_s] | rw [nm_s] | rw [nI_clamp (by omega)] | rw [nI_1] | rw [bd_e (d1)] | rw [d2.1] | rw [if_pos (by first | with_reducible assumption | ((with_reducible refine nI_lt ?_ ?_); omega; omega) | ((with_reducible refine nI_nlt ?_ ?_); omega; omega) | with_reducible exact ne10 | with_reducible rfl)] | rw [if_neg (by first | with_reducible assumption | ((with_reducible refine nI_lt ?_ ?_); omega; omega) | ((with_reducible refine nI_nlt ?_ ?_); omega; omega) | with_reducible exact ne10 | with_reducible rfl)])
  exact e1
theorem isPieceM_t {p : Nat} {ps : List Pc} (hm : moA K R m) (hps : psM (M.2 (m + 1)) 0 ps) (hp : p < ps.length) (h40 : ps.length ≤ 40) : mX8_isPiece K R M m (nI p) = some 1 := by
  have h0 := hm.1
  unfold mX8_isPiece
  repeat (first | rw [ck_t (by first | with_reducible assumption | ((with_reducible apply ixA_of); (with_reducible assumption); omega; decide) | ((with_reducible apply isAr_of); (with_reducible assumption); decide) | with_reducible exact isB_0 | with_reducible exact isB_1 | with_reducible exact isB_bI _)] | rw [bd_r (by with_reducible assumption)] | rw [bd_s] | rw [bd2_s] | rw [bd3_s] | rw [nm_s] | rw [nI_clamp (by omega)] | rw [nI_1] | rw [bd_e (piecesM_ok hm hps)] | rw [bd_e (isInN_t (n := ps.length) hp (by omega) (by rw [i64_int, sub32 (by rw [nI_int (by omega)]; show _ ≤ (ps.length : Int) - 1; omega) (by rw [nI_int (by omega)]; show (ps.length : Int) - 1 < _; omega), nI_int (by omega)]; rfl))] | rw [if_pos (by first | with_reducible assumption | ((with_reducible refine nI_lt ?_ ?_); omega; omega) | ((with_reducible refine nI_nlt ?_ ?_); omega; omega) | with_reducible exact ne10 | with_reducible rfl)] | rw [if_neg (by first | with_reducible assumption | ((with_reducible refine nI_lt ?_ ?_); omega; omega) | ((with_reducible refine nI_nlt ?_ ?_); omega; omega) | with_reducible exact ne10 | with_reducible rfl)])
theorem isPieceM_f {x : Int32} {ps : List Pc} (hm : moA K R m) (hps : psM (M.2 (m + 1)) 0 ps) (hx : x < 0 ∨ nI ps.length ≤ x) (h40 : ps.length ≤ 40) : mX8_isPiece K R M m x = some 0 := by
  have h0 := hm.1
  unfold mX8_isPiece
  repeat (first | rw [ck_t (by first | with_reducible assumption | ((with_reducible apply ixA_of); (with_reducible assumption); omega; decide) | ((with_reducible apply isAr_of); (with_reducible assumption); decide) | with_reducible exact isB_0 | with_reducible exact isB_1 | with_reducible exact isB_bI _)] | rw [bd_r (by with_reducible assumption)] | rw [bd_s] | rw [bd2_s] | rw [bd3_s] | rw [nm_s] | rw [nI_clamp (by omega)] | rw [nI_1] | rw [bd_e (piecesM_ok hm hps)] | rw [bd_e (isInN_f (n := ps.length) hx (by omega) (by rw [i64_int, sub32 (by rw [nI_int (by omega)]; show _ ≤ (ps.length : Int) - 1; omega) (by rw [nI_int (by omega)]; show (ps.length : Int) - 1 < _; omega), nI_int (by omega)]; rfl))] | rw [if_pos (by first | with_reducible assumption | ((with_reducible refine nI_lt ?_ ?_); omega; omega) | ((with_reducible refine nI_nlt ?_ ?_); omega; omega) | with_reducible exact ne10 | with_reducible rfl)] | rw [if_neg (by first | with_reducible assumption | ((with_reducible refine nI_lt ?_ ?_); omega; omega) | ((with_reducible refine nI_nlt ?_ ?_); omega; omega) | with_reducible exact ne10 | with_reducible rfl)])
end LK
