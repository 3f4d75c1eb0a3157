/-! the reference parts a ring, and cuts a piece -/
theorem prt_le2 (A B : Pt) (s : Int) (l : List Pt) : ∀ i, (prt A B s l i).length ≤ 2 * i
  | 0 => Nat.le_refl _
  | i + 1 => by
    have := prt_le2 A B s l i
    have one : ∀ c x, (ap1 c x).length ≤ 1 := fun c x => by
      by_cases h : c
      · rw [ap1_t h]; exact Nat.le_refl _
      · rw [ap1_f h]; exact Nat.zero_le _
    show (prt A B s l i ++ _ ++ _).length ≤ _
    have h1 := one (0 ≤ s * crs A B (vx l i)) (vx l i)
    have h2 := one (opp (crs A B (vx l i)) (crs A B (vx l (i + 1)))) (mtP A B (vx l i) (vx l (i + 1)))
    rw [List.length_append, List.length_append]; omega
theorem psM_app {f g : Nat → Int64} {ps : List Pc} {P : Pc} (h : psM f 0 ps) (hf : fitP ps) (e : ∀ k, k < 37 * ps.length → g k = f k) (hn : g 1480 = lN (ps.length + 1)) (hg : pcM g (37 * ps.length) P) : psM g 0 (ps ++ [P]) := by
  refine ⟨by rw [hn, List.length_append]; rfl, fun i q hq => ?_⟩
  rw [Nat.zero_add]
  rcases get_app hq with ⟨hi, hq⟩ | ⟨hi, rfl⟩
  · exact pcM_eq (h.pc hq) (hf.2 i q hq) (fun k hk => e _ (by omega))
  · rw [hi]; exact hg
section PM
variable {K : Kk} {R : Rr} {M : Mm} {m : Nat} {A B : Pt}
theorem partOn_ok {l : List Pt} {w : Int32} {s : Int} (hm : moA K R m) (h : lnM M m A B) (hB : lnB A B) (hl : rM M m 15 11 12 l) (h20 : l.length ≤ 20) (bl : inBs l) (hw : (w = 1 ∧ s = 1) ∨ (w = -1 ∧ s = -1)) (hW : allW A B l) (hC : Cv (prt A B s l l.length)) (h3 : 3 ≤ (prt A B s l l.length).length) (hb : inBs (prt A B s l l.length)) : ∃ M', mX8_partOn K R M m w = some M' ∧ rM M' m 24 17 18 (norm (prt A B s l l.length)) ∧ FM m [21, 24] [15, 16, 17, 18] M M' := by
  have h0 := hm.1
  have r1 := mo_r13 hm
  have r2 := mo_r14 hm
  have a3 := mo_a13 hm
  have a4 := mo_a14 hm
  have z0 : (0 : Int64).toInt = 0 := rfl
  have hL := lp_ind (f := mX8_partOn_L6 K R m w) (fun (i : Nat) (t : Int32 × Mm) => t.1 = nI i ∧ rM t.2 m 21 15 16 (prt A B s l i) ∧ FM m [21] [15, 16] M t.2) (fun M' => rM M' m 24 17 18 (norm (prt A B s l l.length)) ∧ FM m [21, 24] [15, 16, 17, 18] M M') l.length ?_ ?_
  · obtain ⟨M', e1, e2⟩ := hL l.length 0 (nI 0, pI M m 21 0) (by omega) ⟨rfl, ⟨pI_s, fun i c hc => by simp [prt] at hc⟩, FM.rf.pI (by decide)⟩
    refine ⟨M', ?_, e2⟩
    unfold mX8_partOn
    (repeat (first | rw [ck_t (by first | with_reducible assumption | ((with_reducible apply ixA_of); (with_reducible assumption); omega; omega) | ((with_reducible apply isAr_of); (with_reducible assumption); decide) | ((with_reducible apply nI_ne0); omega; omega) | with_reducible exact isB_0 | with_reducible exact isB_1 | with_reducible exact isB_bI _)] | rw [bd_r (by with_reducible assumption)] | rw [bd_s] | rw [bd2_s] | rw [bd3_s] | rw [nm_s] | rw [nI_clamp (by omega)] | rw [nI_1] | rw [bd_e (begin_ok hm)] | rw [if_pos (by first | with_reducible assumption | ((with_reducible refine nI_lt ?_ ?_); omega; omega) | ((with_reducible refine nI_nlt ?_ ?_); omega; omega) | with_reducible exact ne10 | with_reducible rfl)] | rw [if_neg (by first | with_reducible assumption | ((with_reducible refine nI_lt ?_ ?_); omega; omega) | ((with_reducible refine nI_nlt ?_ ?_); omega; omega) | with_reducible exact ne10 | with_reducible rfl)]))
    exact e1
  · rintro i ⟨z, N⟩ hi ⟨rfl, f1, f2⟩
    have f1 : rM N m 21 15 16 (prt A B s l i) := f1
    have f2 : FM m [21] [15, 16] M N := f2
    have hN := hl.fr f2 (by decide) (by decide) (by decide)
    have lN' := h.fr f2 (by decide)
    have e := hN.1
    have hj := mod_lt' hi
    have gi := gp_get hi
    have gj := gp_get hj
    have vi : vx l i = gp l i := vx_lt hi
    have vj : vx l (i + 1) = gp l ((i + 1) % l.length) := rfl
    have Bi := bl _ _ gi
    have Bj := bl _ _ gj
    have pi := hN.pt gi
    have pj := hN.pt gj
    obtain ⟨u, u1, u2⟩ := sideOfM_ok (R := R) hm lN' hB (pi ▸ Bi)
    obtain ⟨v, v1, v2⟩ := sideOfM_ok (R := R) hm lN' hB (pj ▸ Bj)
    rw [← pi, ← vi] at u2
    rw [← pj, ← vj] at v2
    have k1 : u ≤ 0 ↔ crs A B (vx l i) ≤ 0 := by rw [le64, z0, u2]
    have k2 : u < 0 ↔ crs A B (vx l i) < 0 := by rw [lt64, z0, u2]
    have k3 : v ≤ 0 ↔ crs A B (vx l (i + 1)) ≤ 0 := by rw [le64, z0, v2]
    have k4 : v < 0 ↔ crs A B (vx l (i + 1)) < 0 := by rw [lt64, z0, v2]
    have x3i : ixA K (m + 11) 1 (nI i) := ixA_of a3 (by omega) (by omega)
    have x4i : ixA K (m + 12) 1 (nI i) := ixA_of a4 (by omega) (by omega)
    have x3j : ixA K (m + 11) 1 (nI ((i + 1) % l.length)) := ixA_of a3 (by omega) (by omega)
    have x4j : ixA K (m + 12) 1 (nI ((i + 1) % l.length)) := ixA_of a4 (by omega) (by omega)
    have le2 := prt_le2 A B s l i
    have J81 : ∃ N1, mX8_partOn_J81 K R N m w (nI i) (nI ((i + 1) % l.length)) u v = mX8_partOn_J97 K R N1 m w (nI i) (nI ((i + 1) % l.length)) u v ∧ rM N1 m 21 15 16 (prt A B s l i ++ [vx l i]) ∧ FM m [21] [15, 16] M N1 := by
      obtain ⟨N1, d1, d2, d3⟩ := point_ok (x := N.2 (m + 11) i) (y := N.2 (m + 12) i) hm f1 (by omega)
      refine ⟨N1, ?_, by rw [vi, pi]; exact d2, f2.tr d3⟩
      unfold mX8_partOn_J81
      (repeat (first | rw [ck_t (by first | with_reducible assumption | ((with_reducible apply ixA_of); (with_reducible assumption); omega; omega) | ((with_reducible apply isAr_of); (with_reducible assumption); decide) | ((with_reducible apply nI_ne0); omega; omega) | with_reducible exact isB_0 | with_reducible exact isB_1 | with_reducible exact isB_bI _)] | rw [bd_r (by with_reducible assumption)] | rw [bd_s] | rw [bd2_s] | rw [bd3_s] | rw [nm_s] | rw [nI_clamp (by omega)] | rw [nI_1] | rw [bd_e (d1)] | rw [if_pos (by first | with_reducible assumption | ((with_reducible refine nI_lt ?_ ?_); omega; omega) | ((with_reducible refine nI_nlt ?_ ?_); omega; omega) | with_reducible exact ne10 | with_reducible rfl)] | rw [if_neg (by first | with_reducible assumption | ((with_reducible refine nI_lt ?_ ?_); omega; omega) | ((with_reducible refine nI_nlt ?_ ?_); omega; omega) | with_reducible exact ne10 | with_reducible rfl)]))
    have st1 : ∃ N1, mX8_partOn_B6 K R m w (nI i) N = mX8_partOn_J97 K R N1 m w (nI i) (nI ((i + 1) % l.length)) u v ∧ rM N1 m 21 15 16 (prt A B s l i ++ ap1 (0 ≤ s * crs A B (vx l i)) (vx l i)) ∧ FM m [21] [15, 16] M N1 := by
      unfold mX8_partOn_B6
      (repeat (first | rw [ck_t (by first | with_reducible assumption | ((with_reducible apply ixA_of); (with_reducible assumption); omega; omega) | ((with_reducible apply isAr_of); (with_reducible assumption); decide) | ((with_reducible apply nI_ne0); omega; omega) | with_reducible exact isB_0 | with_reducible exact isB_1 | with_reducible exact isB_bI _)] | rw [bd_r (by with_reducible assumption)] | rw [bd_s] | rw [bd2_s] | rw [bd3_s] | rw [nm_s] | rw [nI_clamp (by omega)] | rw [nI_1] | rw [e] | rw [pk_rem (by omega) (by omega) (by omega)] | rw [bd_e (u1)] | rw [bd_e (v1)] | rw [if_pos (by first | with_reducible assumption | ((with_reducible refine nI_lt ?_ ?_); omega; omega) | ((with_reducible refine nI_nlt ?_ ?_); omega; omega) | with_reducible exact ne10 | with_reducible rfl)] | rw [if_neg (by first | with_reducible assumption | ((with_reducible refine nI_lt ?_ ?_); omega; omega) | ((with_reducible refine nI_nlt ?_ ?_); omega; omega) | with_reducible exact ne10 | with_reducible rfl)]))
      rcases hw with ⟨rfl, rfl⟩ | ⟨rfl, rfl⟩
      · rw [if_neg (show ¬ (1 : Int32) ≤ 0 by decide)]
        by_cases c : u < 0
        · refine ⟨N, ?_, by rw [ap1_f (by rw [k2] at c; omega), List.append_nil]; exact f1, f2⟩
          rw [if_pos c]
          unfold mX8_partOn_J70
          rw [if_neg (show ¬ (1 : Int32) < 0 by decide)]
        · obtain ⟨N1, d1, d2, d3⟩ := J81
          refine ⟨N1, ?_, by rw [ap1_t (by rw [k2] at c; omega)]; exact d2, d3⟩
          rw [if_neg c]; exact d1
      · rw [if_pos (show (-1 : Int32) ≤ 0 by decide)]
        unfold mX8_partOn_J70
        rw [if_pos (show (-1 : Int32) < 0 by decide)]
        by_cases c : u ≤ 0
        · obtain ⟨N1, d1, d2, d3⟩ := J81
          refine ⟨N1, ?_, by rw [ap1_t (by rw [k1] at c; omega)]; exact d2, d3⟩
          rw [if_pos c]; exact d1
        · refine ⟨N, ?_, by rw [ap1_f (by rw [k1] at c; omega), List.append_nil]; exact f1, f2⟩
          rw [if_neg c]
    obtain ⟨N1, g1, g2, g3⟩ := st1
    have nx : ∀ N, mX8_partOn_J187 K R N m w (nI i) = some (.inl (nI (i + 1), N)) := fun N => by unfold mX8_partOn_J187; (repeat (first | rw [ck_t (by first | with_reducible assumption | ((with_reducible apply ixA_of); (with_reducible assumption); omega; omega) | ((with_reducible apply isAr_of); (with_reducible assumption); decide) | ((with_reducible apply nI_ne0); omega; omega) | with_reducible exact isB_0 | with_reducible exact isB_1 | with_reducible exact isB_bI _)] | rw [bd_r (by with_reducible assumption)] | rw [bd_s] | rw [bd2_s] | rw [bd3_s] | rw [nm_s] | rw [nI_clamp (by omega)] | rw [nI_1] | rw [if_pos (by first | with_reducible assumption | ((with_reducible refine nI_lt ?_ ?_); omega; omega) | ((with_reducible refine nI_nlt ?_ ?_); omega; omega) | with_reducible exact ne10 | with_reducible rfl)] | rw [if_neg (by first | with_reducible assumption | ((with_reducible refine nI_lt ?_ ?_); omega; omega) | ((with_reducible refine nI_nlt ?_ ?_); omega; omega) | with_reducible exact ne10 | with_reducible rfl)]))
    left
    show ∃ s', mX8_partOn_B6 K R m w (nI i) N = some (.inl s') ∧ _
    rw [g1]
    by_cases ho : opp (crs A B (vx l i)) (crs A B (vx l (i + 1)))
    · have hw2 := hW i hi ho
      obtain ⟨w0, w1, m1, -, -⟩ := mt_on ho hw2
      obtain ⟨c1, c2, c3, c4⟩ := onw_B m1 (by rw [vi]; exact Bi) (by rw [vj]; exact Bj)
      have hN1 := hl.fr g3 (by decide) (by decide) (by decide)
      obtain ⟨q1, q2⟩ := hN1.2 _ _ gi
      obtain ⟨q3, q4⟩ := hN1.2 _ _ gj
      have bU := crsL_b hB Bi
      have bV := crsL_b hB Bj
      rw [← vi] at bU Bi q1 q2
      rw [← vj] at bV Bj q3 q4
      unfold inB at Bi Bj
      obtain ⟨-, t1, n1⟩ := frac_ok (p := vx l i) (q := vx l (i + 1)) q1 q3 (by omega) (by omega) u2 v2 bU bV
      obtain ⟨-, t2, -⟩ := frac_ok (p := ((vx l i).2, 0)) (q := ((vx l (i + 1)).2, 0)) q2 q4 (by simp only; omega) (by simp only; omega) u2 v2 bU bV
      have n0 : ¬ u - v = 0 := fun q => by have := n1.mp q; unfold opp at ho; omega
      have X1 : (mtP A B (vx l i) (vx l (i + 1))).1 = (vx l i).1 + (((vx l (i + 1)).1 - (vx l i).1) * crs A B (vx l i)).tdiv (crs A B (vx l i) - crs A B (vx l (i + 1))) := rfl
      have X2 : (mtP A B (vx l i) (vx l (i + 1))).2 = (vx l i).2 + (((vx l (i + 1)).2 - (vx l i).2) * crs A B (vx l i)).tdiv (crs A B (vx l i) - crs A B (vx l (i + 1))) := rfl
      have Y1 : (N1.2 (m + 11) i + (N1.2 (m + 11) ((i + 1) % l.length) - N1.2 (m + 11) i) * u / (u - v)).toInt = (mtP A B (vx l i) (vx l (i + 1))).1 := by rw [add64 (by rw [t1, q1]; omega) (by rw [t1, q1]; omega), t1, q1, X1]
      have Y2 : (N1.2 (m + 12) i + (N1.2 (m + 12) ((i + 1) % l.length) - N1.2 (m + 12) i) * u / (u - v)).toInt = (mtP A B (vx l i) (vx l (i + 1))).2 := by
        simp only at t2
        rw [add64 (by rw [t2, q2]; omega) (by rw [t2, q2]; omega), t2, q2, X2]
      have le3 := prt_le2 A B s l (i + 1)
      have hlen : (prt A B s l i ++ ap1 (0 ≤ s * crs A B (vx l i)) (vx l i)).length ≤ 2 * (i + 1) := by
        have : (prt A B s l (i + 1)).length = (prt A B s l i ++ ap1 (0 ≤ s * crs A B (vx l i)) (vx l i)).length + (ap1 (opp (crs A B (vx l i)) (crs A B (vx l (i + 1)))) (mtP A B (vx l i) (vx l (i + 1)))).length := List.length_append
        omega
      obtain ⟨N2, d1, d2, d3⟩ := point_ok (x := N1.2 (m + 11) i + (N1.2 (m + 11) ((i + 1) % l.length) - N1.2 (m + 11) i) * u / (u - v)) (y := N1.2 (m + 12) i + (N1.2 (m + 12) ((i + 1) % l.length) - N1.2 (m + 12) i) * u / (u - v)) hm g2 (by omega)
      refine ⟨(nI (i + 1), N2), ?_, rfl, ?_, g3.tr d3⟩
      · have J125 : mX8_partOn_J125 K R N1 m w (nI i) (nI ((i + 1) % l.length)) u v = some (.inl (nI (i + 1), N2)) := by
          unfold mX8_partOn_J125
          (repeat (first | rw [ck_t (by first | with_reducible assumption | ((with_reducible apply ixA_of); (with_reducible assumption); omega; omega) | ((with_reducible apply isAr_of); (with_reducible assumption); decide) | ((with_reducible apply nI_ne0); omega; omega) | with_reducible exact isB_0 | with_reducible exact isB_1 | with_reducible exact isB_bI _)] | rw [bd_r (by with_reducible assumption)] | rw [bd_s] | rw [bd2_s] | rw [bd3_s] | rw [nm_s] | rw [nI_clamp (by omega)] | rw [nI_1] | rw [bd_e (d1)] | rw [nx N2] | rw [if_pos (by first | with_reducible assumption | ((with_reducible refine nI_lt ?_ ?_); omega; omega) | ((with_reducible refine nI_nlt ?_ ?_); omega; omega) | with_reducible exact ne10 | with_reducible rfl)] | rw [if_neg (by first | with_reducible assumption | ((with_reducible refine nI_lt ?_ ?_); omega; omega) | ((with_reducible refine nI_nlt ?_ ?_); omega; omega) | with_reducible exact ne10 | with_reducible rfl)]))
        unfold mX8_partOn_J97
        by_cases c1 : u ≤ 0
        · rw [if_pos c1]
          unfold mX8_partOn_J111
          rw [if_pos (by rw [k2]; rw [k1] at c1; unfold opp at ho; omega), if_neg (by rw [k3]; rw [k1] at c1; unfold opp at ho; omega)]
          exact J125
        · rw [if_neg c1, if_pos (by rw [k4]; rw [k1] at c1; unfold opp at ho; omega)]
          exact J125
      · show rM N2 m 21 15 16 (prt A B s l i ++ _ ++ _)
        rw [ap1_t ho]
        rw [Y1, Y2] at d2
        exact d2
    · refine ⟨(nI (i + 1), N1), ?_, rfl, ?_, g3⟩
      · unfold mX8_partOn_J97
        have J111 : mX8_partOn_J111 K R N1 m w (nI i) (nI ((i + 1) % l.length)) u v = some (.inl (nI (i + 1), N1)) := by
          unfold mX8_partOn_J111
          by_cases c2 : u < 0
          · rw [if_pos c2, if_pos (by rw [k3]; rw [k2] at c2; unfold opp at ho; omega)]; exact nx N1
          · rw [if_neg c2]; exact nx N1
        by_cases c1 : u ≤ 0
        · rw [if_pos c1]; exact J111
        · rw [if_neg c1, if_neg (by rw [k4]; rw [k1] at c1; unfold opp at ho; omega)]; exact J111
      · show rM N1 m 21 15 16 (prt A B s l i ++ _ ++ _)
        rw [ap1_f ho, List.append_nil]; exact g2
  · rintro ⟨z, N⟩ ⟨rfl, f1, f2⟩
    have f1 : rM N m 21 15 16 (prt A B s l l.length) := f1
    have f2 : FM m [21] [15, 16] M N := f2
    have e := (hl.fr f2 (by decide) (by decide) (by decide)).1
    have le2 := prt_le2 A B s l l.length
    obtain ⟨n1, n2, n3, n4⟩ := GW_norm hC h3
    obtain ⟨N2, d1, d2, d3⟩ := outermost_ok hm f1 (by omega) hb.m (by omega) n1
    refine ⟨N2, ?_, d2, (f2.mo (by decide) (by decide)).tr (d3.mo (by decide) (by decide))⟩
    show mX8_partOn_B6 K R m w (nI l.length) N = _
    unfold mX8_partOn_B6
    (repeat (first | rw [ck_t (by first | with_reducible assumption | ((with_reducible apply ixA_of); (with_reducible assumption); omega; omega) | ((with_reducible apply isAr_of); (with_reducible assumption); decide) | ((with_reducible apply nI_ne0); omega; omega) | with_reducible exact isB_0 | with_reducible exact isB_1 | with_reducible exact isB_bI _)] | rw [bd_r (by with_reducible assumption)] | rw [bd_s] | rw [bd2_s] | rw [bd3_s] | rw [nm_s] | rw [nI_clamp (by omega)] | rw [nI_1] | rw [e] | rw [bd_e (d1)] | rw [if_pos (by first | with_reducible assumption | ((with_reducible refine nI_lt ?_ ?_); omega; omega) | ((with_reducible refine nI_nlt ?_ ?_); omega; omega) | with_reducible exact ne10 | with_reducible rfl)] | rw [if_neg (by first | with_reducible assumption | ((with_reducible refine nI_lt ?_ ?_); omega; omega) | ((with_reducible refine nI_nlt ?_ ?_); omega; omega) | with_reducible exact ne10 | with_reducible rfl)]))
    rfl
theorem norm_iv {P : Pc} (h1 : P.2.1 = 1 ∨ P.2.1 = -1) {pl : List Pt} (hC : Cv pl) (h3 : 3 ≤ pl.length) : norm ((norm pl).map (ivM P)) = norm (pl.map (ivM P)) := by
  obtain ⟨n1, n2, n3, n4⟩ := GW_norm hC h3
  refine norm_eq (n2.map h1) (by rw [List.length_map, n4]; exact h3) (hC.map h1) (by rw [List.length_map]; exact h3) (fun p => ?_)
  rw [List.mem_map, List.mem_map]
  constructor
  · rintro ⟨x, hx, e⟩; exact ⟨x, norm_mem.mp hx, e⟩
  · rintro ⟨x, hx, e⟩; exact ⟨x, norm_mem.mpr hx, e⟩
theorem norm_ls {P : Pc} (h1 : P.2.1 = 1 ∨ P.2.1 = -1) {pl : List Pt} (hC : Cv pl) (h3 : 3 ≤ pl.length) : ∃ k, isLs ((norm pl).map (ivM P)) k := by
  obtain ⟨n1, n2, n3, n4⟩ := GW_norm hC h3
  have hC2 : Cv ((norm pl).map (ivM P)) := n2.map h1
  have h32 : 3 ≤ ((norm pl).map (ivM P)).length := by rw [List.length_map, n4]; exact h3
  exact isLs_ex (fun q => by rw [q] at h32; simp at h32) (hC2.ds h32)
theorem cutOneM_ok {p : Nat} {ps : List Pc} {P : Pc} (hm : moA K R m) (hps : psM (M.2 (m + 1)) 0 ps) (hP : ps[p]? = some P) (hpp : isPs ps) (hn : ps.length < 40) (h : lnM M m A B) (hB : lnB A B) (hAB : A ≠ B) (hx : xsd A B P) (hof : ¬ ofl A B P) (hW : allW A B (plc P)) : ∃ M', mX8_cutOne K R M m (nI p) = some M' ∧ psM (M'.2 (m + 1)) 0 (ps.set p (prP A B 1 P) ++ [prP A B (-1) P]) ∧ FM m [15, 21, 24] [1, 11, 12, 15, 16, 17, 18] M M' := by
  have h0 := hm.1
  have b0 := mo_r0 hm
  have b1 := mo_a0 hm
  have iP := hpp.2 p P hP
  have hp := get_lt hP
  have hmv := iP.mv
  have s16 := iP.1.2.1
  obtain ⟨q1, q2, q3, q4, q5⟩ := plc_ok iP
  obtain ⟨w1, w2, w3, w4, w5⟩ := prP_ok (s := 1) iP hAB (Or.inl rfl) hx hof hW
  obtain ⟨x1, x2, x3, x4, x5⟩ := prP_ok (s := -1) iP hAB (Or.inr rfl) hx hof hW
  have e1480 := hps.1
  rw [Nat.zero_add] at e1480
  have ix1480 : ixA K (m + 1) 1 1480 := ixA_of (i := 1480) b1 (by omega) (by omega)
  have cl : (1480 : Int32).toNatClampNeg = 1480 := nI_clamp (n := 1480) (by omega)
  generalize hM5 : pL M (m + 1) 1480 (M.2 (m + 1) 1480 + 1) = M5
  have f5 : FM m [] [1] M M5 := by rw [← hM5]; exact FM.rf.pL (by decide)
  have k5 : ∀ k, k ≠ 1480 → M5.2 (m + 1) k = M.2 (m + 1) k := fun k hk => by rw [← hM5, pL_k hk]
  have n5 : M5.2 (m + 1) 1480 = lN (ps.length + 1) := by rw [← hM5, pL_s, e1480]; exact (lN_add ps.length 1)
  have pc5 : pcM (M5.2 (m + 1)) (37 * p) P := pcM_eq (hps.pc hP) s16 (fun k hk => k5 _ (by omega))
  obtain ⟨M6, c1, c2, c3⟩ := lookA_pc hm pc5 (by omega) iP
  have l6 := (h.fr f5 (by decide)).fr c3 (by decide)
  obtain ⟨M7, d1, d2, d3⟩ := partOn_ok (w := -1) (s := -1) hm l6 hB c2 (by omega) (inBs_of q5) (Or.inr ⟨rfl, rfl⟩) hW x1 x2 x4
  have e7 : M7.2 (m + 1) = M5.2 (m + 1) := (d3.ar 1 (by decide)).trans (c3.ar 1 (by decide))
  have pc7 : pcM (M7.2 (m + 1)) (37 * p) P := by rw [e7]; exact pc5
  have g33 : ∀ N : Mm, mX8_get K R N m (nI p) 33 = some (N.2 (m + 1) (37 * p + 33)) := fun N => get_ok hm rfl (by omega) (by omega)
  have g34 : ∀ N : Mm, mX8_get K R N m (nI p) 34 = some (N.2 (m + 1) (37 * p + 34)) := fun N => get_ok hm rfl (by omega) (by omega)
  have g35 : ∀ N : Mm, mX8_get K R N m (nI p) 35 = some (N.2 (m + 1) (37 * p + 35)) := fun N => get_ok hm rfl (by omega) (by omega)
  obtain ⟨-, -, t1, t2, t3, -⟩ := id pc7
  obtain ⟨n1, n2, n3, n4⟩ := GW_norm x1 x2
  have nB : ∀ {pl : List Pt}, inBs pl → inBs (norm pl) := fun {pl} hb => inBs_of (fun x hx => hb.m x (norm_mem.mp hx))
  obtain ⟨M11, o1, o2, o3, o4, o5⟩ := originOf_ok (p := ps.length) hm hn d2 (by rw [n4]; exact x3) (nB x4) t1 iP.2.1 t2 t3 (by omega) (by omega) (norm_ls iP.2.1 x1 x2)
  rw [norm_iv iP.2.1 x1 x2] at o3
  have k11 : ∀ k, (k < 37 * ps.length ∨ 37 * ps.length + 33 ≤ k) → M11.2 (m + 1) k = M5.2 (m + 1) k := fun k hk => by rw [o5 k hk, e7]
  have mv := moveM_ok (M := M11) (p := ps.length) (t := M11.2 (m + 1) (37 * p + 33)) (a := M11.2 (m + 1) (37 * p + 34)) (b := M11.2 (m + 1) (37 * p + 35)) hm hn
  generalize hM15 : pL (pL (pL M11 (m + 1) (37 * ps.length + 33) (M11.2 (m + 1) (37 * p + 33))) (m + 1) (37 * ps.length + 34) (M11.2 (m + 1) (37 * p + 34))) (m + 1) (37 * ps.length + 35) (M11.2 (m + 1) (37 * p + 35)) = M15 at mv
  generalize hM17 : pL M15 (m + 1) (37 * ps.length + 36) 0 = M17
  have f17 : FM m [] [1] M11 M17 := by rw [← hM17, ← hM15]; exact (((FM.rf.pL (by decide)).pL (by decide)).pL (by decide)).pL (by decide)
  have k17 : ∀ k, (k < 37 * ps.length + 33 ∨ 37 * ps.length + 37 ≤ k) → M17.2 (m + 1) k = M11.2 (m + 1) k := fun k hk => by rw [← hM17, ← hM15, pL_k (by omega), pL_k (by omega), pL_k (by omega), pL_k (by omega)]
  have ps17 : psM (M17.2 (m + 1)) 0 (ps ++ [prP A B (-1) P]) := by
    refine psM_app hps hpp.fit (fun k hk => by rw [k17 k (by omega), k11 k (by omega), k5 k (by omega)]) (by rw [k17 _ (by omega), k11 _ (by omega), n5]) ⟨?_, fun i c hc => ?_, ?_, ?_, ?_, ?_⟩
    · show M17.2 (m + 1) (37 * ps.length) = lN (norm _).length
      rw [k17 _ (by omega), o2, norm_len, norm_len, List.length_map]
    · have hc : (norm ((prt A B (-1) (plc P) (plc P).length).map (ivM P)))[i]? = some c := hc
      have hi := get_lt hc
      rw [norm_len, List.length_map] at hi
      rw [k17 _ (by omega), k17 _ (by omega)]
      exact o3 i c hc
    · rw [← hM17, ← hM15, pL_k (by omega), pL_k (by omega), pL_k (by omega), pL_s, k11 _ (by omega), ← e7]; exact t1
    · rw [← hM17, ← hM15, pL_k (by omega), pL_k (by omega), pL_s, k11 _ (by omega), ← e7]; exact t2
    · rw [← hM17, ← hM15, pL_k (by omega), pL_s, k11 _ (by omega), ← e7]; exact t3
    · rw [← hM17, pL_s]; rfl
  -- the piece itself
  have F17 : FM m [15, 21, 24] [1, 11, 12, 15, 16, 17, 18] M M17 := ((((f5.mo (by decide) (by decide)).tr (c3.mo (by decide) (by decide))).tr (d3.mo (by decide) (by decide))).tr (o4.mo (by decide) (by decide))).tr (f17.mo (by decide) (by decide))
  have r17 : rM M17 m 15 11 12 (plc P) := ((c2.fr d3 (by decide) (by decide) (by decide)).fr o4 (by decide) (by decide) (by decide)).fr f17 (by decide) (by decide) (by decide)
  have l17 := h.fr F17 (by decide)
  obtain ⟨M18, y1, y2, y3⟩ := partOn_ok (w := 1) (s := 1) hm l17 hB r17 (by omega) (inBs_of q5) (Or.inl ⟨rfl, rfl⟩) hW w1 w2 w4
  have e18 : M18.2 (m + 1) = M17.2 (m + 1) := y3.ar 1 (by decide)
  have hP17 : (ps ++ [prP A B (-1) P])[p]? = some P := by rw [List.getElem?_append_left hp]; exact hP
  have pc18 : pcM (M18.2 (m + 1)) (37 * p) P := by rw [e18]; exact ps17.pc hP17
  obtain ⟨-, -, u1, u2, u3, -⟩ := id pc18
  obtain ⟨n1', n2', n3', n4'⟩ := GW_norm w1 w2
  obtain ⟨M22, v1, v2, v3, v4, v5⟩ := originOf_ok (p := p) hm (by omega) y2 (by rw [n4']; exact w3) (nB w4) u1 iP.2.1 u2 u3 (by omega) (by omega) (norm_ls iP.2.1 w1 w2)
  rw [norm_iv iP.2.1 w1 w2] at v3
  generalize hM24 : pL M22 (m + 1) (37 * p + 36) 0 = M24
  have f24 : FM m [] [1] M22 M24 := by rw [← hM24]; exact FM.rf.pL (by decide)
  have k24 : ∀ k, k ≠ 37 * p + 36 → M24.2 (m + 1) k = M22.2 (m + 1) k := fun k hk => by rw [← hM24, pL_k hk]
  have fit17 : fitP (ps ++ [prP A B (-1) P]) := by
    refine ⟨by rw [List.length_append]; simp only [List.length_singleton]; omega, fun i q hq => ?_⟩
    rcases get_app hq with ⟨-, hq⟩ | ⟨-, rfl⟩
    · exact hpp.fit.2 i q hq
    · exact x5.1.2.1
  refine ⟨M24, ?_, ?_, ((F17.tr (y3.mo (by decide) (by decide))).tr (v4.mo (by decide) (by decide))).tr (f24.mo (by decide) (by decide))⟩
  · have j36 : (37 : Int32) * nI ps.length + 36 = nI (37 * ps.length + 36) := ix37 ps.length 36
    have j36p : (37 : Int32) * nI p + 36 = nI (37 * p + 36) := ix37 p 36
    unfold mX8_cutOne
    (repeat (first | rw [ck_t (by first | with_reducible assumption | ((with_reducible apply ixA_of); (with_reducible assumption); omega; omega) | ((with_reducible apply isAr_of); (with_reducible assumption); decide) | ((with_reducible apply nI_ne0); omega; omega) | with_reducible exact isB_0 | with_reducible exact isB_1 | with_reducible exact isB_bI _)] | rw [bd_r (by with_reducible assumption)] | rw [bd_s] | rw [bd2_s] | rw [bd3_s] | rw [nm_s] | rw [nI_clamp (by omega)] | rw [nI_1] | rw [bd_e (piecesM_ok hm hps)] | rw [cl] | rw [hM5] | rw [bd_e (c1)] | rw [bd_e (d1)] | rw [bd_e (g33 M7)] | rw [bd_e (g34 M7)] | rw [bd_e (g35 M7)] | rw [bd_e (o1)] | rw [bd_e (g33 M11)] | rw [bd_e (g34 M11)] | rw [bd_e (g35 M11)] | rw [bd_e (mv)] | rw [j36] | rw [hM17] | rw [bd_e (y1)] | rw [bd_e (g33 M18)] | rw [bd_e (g34 M18)] | rw [bd_e (g35 M18)] | rw [bd_e (v1)] | rw [j36p] | rw [hM24] | rw [if_pos (by first | with_reducible assumption | ((with_reducible refine nI_lt ?_ ?_); omega; omega) | ((with_reducible refine nI_nlt ?_ ?_); omega; omega) | with_reducible exact ne10 | with_reducible rfl)] | rw [if_neg (by first | with_reducible assumption | ((with_reducible refine nI_lt ?_ ?_); omega; omega) | ((with_reducible refine nI_nlt ?_ ?_); omega; omega) | with_reducible exact ne10 | with_reducible rfl)]))
  · rw [← List.set_append_left p (prP A B 1 P) hp]
    refine psM_set ps17 fit17 (by rw [List.length_append]; omega) (fun k hk => by rw [k24 k (by omega), v5 k (by omega), e18]) ⟨?_, fun i c hc => ?_, ?_, ?_, ?_, ?_⟩
    · show M24.2 (m + 1) (37 * p) = lN (norm _).length
      rw [k24 _ (by omega), v2, norm_len, norm_len, List.length_map]
    · have hc : (norm ((prt A B 1 (plc P) (plc P).length).map (ivM P)))[i]? = some c := hc
      have hi := get_lt hc
      rw [norm_len, List.length_map] at hi
      rw [k24 _ (by omega), k24 _ (by omega)]
      exact v3 i c hc
    · rw [k24 _ (by omega), v5 _ (by omega)]; exact u1
    · rw [k24 _ (by omega), v5 _ (by omega)]; exact u2
    · rw [k24 _ (by omega), v5 _ (by omega)]; exact u3
    · rw [← hM24, pL_s]; rfl
end PM
