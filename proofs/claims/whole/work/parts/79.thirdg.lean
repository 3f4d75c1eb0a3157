/-! third, the reference: the points of both -/
section TG
variable {K : Kk} {R : Rr} {M : Mm} {m : Nat}
theorem meetM_ok {A B S : List Pt} {i k : Nat} (hm : moA K R m) (h1 : rM M m 15 11 12 A) (h2 : rM M m 18 13 14 B) (h3 : rM M m 21 15 16 S) (A20 : A.length ≤ 20) (B20 : B.length ≤ 20) (bA : inBs A) (bB : inBs B) (hi : i < A.length) (hk : k < B.length) (hS : S.length < 600) : ∃ M', mX8_meet K R M m (nI i) (nI k) = some M' ∧ FM m [21, 36] [15, 16] M M' ∧ ((¬ xc A B i k ∧ M' = M) ∨ (xc A B i k ∧ ∃ X, rM M' m 21 15 16 (S ++ [X]) ∧ ((M.1 m 36 = 0 ∧ xwh A B i k ∧ M'.1 m 36 = 0 ∧ X = xpt A B i k) ∨ (¬ (M.1 m 36 = 0 ∧ xwh A B i k) ∧ M'.1 m 36 = 1)))) := by
  have dc1 : ∀ a b : Int, Decidable (opp a b) := fun a b => Classical.propDecidable _
  have dc2 : Decidable (xc A B i k) := Classical.propDecidable _
  have h0 := hm.1
  have r1 := mo_r13 hm
  have r2 := mo_r14 hm
  have r3 := mo_r16 hm
  have r4 := mo_r17 hm
  have a1 := mo_a13 hm
  have a2 := mo_a14 hm
  have a3 := mo_a16 hm
  have a4 := mo_a17 hm
  have eA := h1.1
  have eB := h2.1
  have hj := mod_lt' hi
  have hl := mod_lt' hk
  have gi := gp_get hi
  have gj := gp_get hj
  have gk := gp_get hk
  have gl := gp_get hl
  have vi : vx A i = gp A i := vx_lt hi
  have vj : vx A (i + 1) = gp A ((i + 1) % A.length) := rfl
  have vk : vx B k = gp B k := vx_lt hk
  have vl : vx B (k + 1) = gp B ((k + 1) % B.length) := rfl
  have Bi := bA _ _ gi
  have Bj := bA _ _ gj
  have Bk := bB _ _ gk
  have Bl := bB _ _ gl
  have pi := h1.pt gi
  have pj := h1.pt gj
  have pk := h2.pt gk
  have pl := h2.pt gl
  obtain ⟨q1, q2⟩ := h1.2 _ _ gi
  obtain ⟨q3, q4⟩ := h1.2 _ _ gj
  obtain ⟨u, u1, u2⟩ := sideM_ok (K := K) (R := R) (M := M) (pk ▸ Bk) (pl ▸ Bl) (pi ▸ Bi)
  obtain ⟨v, v1, v2⟩ := sideM_ok (K := K) (R := R) (M := M) (pk ▸ Bk) (pl ▸ Bl) (pj ▸ Bj)
  obtain ⟨w, w1, w2⟩ := sideM_ok (K := K) (R := R) (M := M) (pi ▸ Bi) (pj ▸ Bj) (pk ▸ Bk)
  obtain ⟨n, n1, n2⟩ := sideM_ok (K := K) (R := R) (M := M) (pi ▸ Bi) (pj ▸ Bj) (pl ▸ Bl)
  rw [← pk, ← pl, ← pi, ← vk, ← vl, ← vi] at u2
  rw [← pk, ← pl, ← pj, ← vk, ← vl, ← vj] at v2
  rw [← pi, ← pj, ← pk, ← vi, ← vj, ← vk] at w2
  rw [← pi, ← pj, ← pl, ← vi, ← vj, ← vl] at n2
  have z0 : (0 : Int64).toInt = 0 := rfl
  have i1 : ixA K (m + 11) 1 (nI i) := ixA_of a1 (by omega) (by omega)
  have i2 : ixA K (m + 12) 1 (nI i) := ixA_of a2 (by omega) (by omega)
  have i3 : ixA K (m + 11) 1 (nI ((i + 1) % A.length)) := ixA_of a1 (by omega) (by omega)
  have i4 : ixA K (m + 12) 1 (nI ((i + 1) % A.length)) := ixA_of a2 (by omega) (by omega)
  have i5 : ixA K (m + 13) 1 (nI k) := ixA_of a3 (by omega) (by omega)
  have i6 : ixA K (m + 14) 1 (nI k) := ixA_of a4 (by omega) (by omega)
  have i7 : ixA K (m + 13) 1 (nI ((k + 1) % B.length)) := ixA_of a3 (by omega) (by omega)
  have i8 : ixA K (m + 14) 1 (nI ((k + 1) % B.length)) := ixA_of a4 (by omega) (by omega)
  have rmA : nI (i + 1) - nI (i + 1) / nI A.length * nI A.length = nI ((i + 1) % A.length) := pk_rem (by omega) (by omega) (by omega)
  have rmB : nI (k + 1) - nI (k + 1) / nI B.length * nI B.length = nI ((k + 1) % B.length) := pk_rem (by omega) (by omega) (by omega)
  have no : mX8_meet_J249 K R M m (nI i) (nI ((i + 1) % A.length)) u v = some M := by unfold mX8_meet_J249 mX8_meet_J250; (repeat (first | rw [ck_t (by first | with_reducible assumption | ((with_reducible apply ixA_of); (with_reducible assumption); omega; omega) | ((with_reducible apply isAr_of); (with_reducible assumption); decide) | ((with_reducible apply nI_ne0); omega; omega) | with_reducible exact isB_0 | with_reducible exact isB_1 | with_reducible exact isB_bI _)] | rw [bd_r (by with_reducible assumption)] | rw [bd_s] | rw [bd2_s] | rw [bd3_s] | rw [nm_s] | rw [nI_clamp (by omega)] | rw [nI_1] | rw [if_pos (by first | with_reducible assumption | ((with_reducible refine nI_lt ?_ ?_); omega; omega) | ((with_reducible refine nI_nlt ?_ ?_); omega; omega) | with_reducible exact ne10 | with_reducible rfl)] | rw [if_neg (by first | with_reducible assumption | ((with_reducible refine nI_lt ?_ ?_); omega; omega) | ((with_reducible refine nI_nlt ?_ ?_); omega; omega) | with_reducible exact ne10 | with_reducible rfl)]))
  -- the head
  have main : mX8_meet K R M m (nI i) (nI k) = if u ≤ 0 then mX8_meet_J203 K R M m (nI i) (nI ((i + 1) % A.length)) u v w n else if v < 0 then mX8_meet_J217 K R M m (nI i) (nI ((i + 1) % A.length)) u v w n else mX8_meet_J203 K R M m (nI i) (nI ((i + 1) % A.length)) u v w n := by
    unfold mX8_meet
    (repeat (first | rw [ck_t (by first | with_reducible assumption | ((with_reducible apply ixA_of); (with_reducible assumption); omega; omega) | ((with_reducible apply isAr_of); (with_reducible assumption); decide) | ((with_reducible apply nI_ne0); omega; omega) | with_reducible exact isB_0 | with_reducible exact isB_1 | with_reducible exact isB_bI _)] | rw [bd_r (by with_reducible assumption)] | rw [bd_s] | rw [bd2_s] | rw [bd3_s] | rw [nm_s] | rw [nI_clamp (by omega)] | rw [nI_1] | rw [eA] | rw [eB] | rw [rmA] | rw [rmB] | rw [bd_e (u1)] | rw [bd_e (v1)] | rw [bd_e (w1)] | rw [bd_e (n1)] | rw [if_pos (by first | with_reducible assumption | ((with_reducible refine nI_lt ?_ ?_); omega; omega) | ((with_reducible refine nI_nlt ?_ ?_); omega; omega) | with_reducible exact ne10 | with_reducible rfl)] | rw [if_neg (by first | with_reducible assumption | ((with_reducible refine nI_lt ?_ ?_); omega; omega) | ((with_reducible refine nI_nlt ?_ ?_); omega; omega) | with_reducible exact ne10 | with_reducible rfl)]))
  have J217 : mX8_meet_J217 K R M m (nI i) (nI ((i + 1) % A.length)) u v w n = if opp w.toInt n.toInt then mX8_meet_J245 K R M m (nI i) (nI ((i + 1) % A.length)) u v else some M := by
    unfold mX8_meet_J217 mX8_meet_J231
    by_cases c1 : w ≤ 0
    · by_cases c2 : w < 0
      · by_cases c3 : n ≤ 0
        · rw [if_pos c1, if_pos c2, if_pos c3, no, if_neg (by unfold opp; rw [lt64, z0] at c2; rw [le64, z0] at c3; omega)]
        · rw [if_pos c1, if_pos c2, if_neg c3, if_pos (by unfold opp; rw [lt64, z0] at c2; rw [le64, z0] at c3; omega)]
      · rw [if_pos c1, if_neg c2, no, if_neg (by unfold opp; rw [lt64, z0] at c2; rw [le64, z0] at c1; omega)]
    · by_cases c2 : n < 0
      · rw [if_neg c1, if_pos c2, if_pos (by unfold opp; rw [lt64, z0] at c2; rw [le64, z0] at c1; omega)]
      · rw [if_neg c1, if_neg c2, if_neg (show ¬ w < 0 by rw [lt64, z0]; rw [le64, z0] at c1; omega), no, if_neg (by unfold opp; rw [lt64, z0] at c2; rw [le64, z0] at c1; omega)]
  have J203 : ¬ (0 < u.toInt ∧ v.toInt < 0) → mX8_meet_J203 K R M m (nI i) (nI ((i + 1) % A.length)) u v w n = if opp u.toInt v.toInt then mX8_meet_J217 K R M m (nI i) (nI ((i + 1) % A.length)) u v w n else some M := fun hn => by
    unfold mX8_meet_J203
    by_cases c2 : u < 0
    · by_cases c3 : v ≤ 0
      · rw [if_pos c2, if_pos c3, no, if_neg (by unfold opp; rw [lt64, z0] at c2; rw [le64, z0] at c3; omega)]
      · rw [if_pos c2, if_neg c3, if_pos (by unfold opp; rw [lt64, z0] at c2; rw [le64, z0] at c3; omega)]
    · rw [if_neg c2, no, if_neg (by unfold opp; rw [lt64, z0] at c2; omega)]
  have all : mX8_meet K R M m (nI i) (nI k) = if xc A B i k then mX8_meet_J245 K R M m (nI i) (nI ((i + 1) % A.length)) u v else some M := by
    have ex : xc A B i k ↔ opp u.toInt v.toInt ∧ opp w.toInt n.toInt := by unfold xc; rw [u2, v2, w2, n2]; exact And.comm
    rw [main]
    have s1 : opp u.toInt v.toInt → (mX8_meet_J217 K R M m (nI i) (nI ((i + 1) % A.length)) u v w n = if xc A B i k then mX8_meet_J245 K R M m (nI i) (nI ((i + 1) % A.length)) u v else some M) := fun ho => by
      rw [J217]
      by_cases c : opp w.toInt n.toInt
      · rw [if_pos c, if_pos (ex.mpr ⟨ho, c⟩)]
      · rw [if_neg c, if_neg (fun z => c (ex.mp z).2)]
    have s2 : ¬ (0 < u.toInt ∧ v.toInt < 0) → (mX8_meet_J203 K R M m (nI i) (nI ((i + 1) % A.length)) u v w n = if xc A B i k then mX8_meet_J245 K R M m (nI i) (nI ((i + 1) % A.length)) u v else some M) := fun hn => by
      rw [J203 hn]
      by_cases c : opp u.toInt v.toInt
      · rw [if_pos c]; exact s1 c
      · rw [if_neg c, if_neg (fun z => c (ex.mp z).1)]
    by_cases c1 : u ≤ 0
    · rw [if_pos c1]
      exact s2 (fun h => by rw [le64, z0] at c1; omega)
    · by_cases c2 : v < 0
      · rw [if_neg c1, if_pos c2]
        exact s1 (by unfold opp; rw [le64, z0] at c1; rw [lt64, z0] at c2; omega)
      · rw [if_neg c1, if_neg c2]
        exact s2 (fun h => by rw [lt64, z0] at c2; omega)
  rw [all]
  by_cases hx : xc A B i k
  · rw [if_pos hx]
    have hx0 := hx
    obtain ⟨x1, x2⟩ := hx
    have bU := crsL_b (lnB_of Bk Bl) Bi
    have bV := crsL_b (lnB_of Bk Bl) Bj
    rw [← vi, ← vk, ← vl] at bU
    rw [← vj, ← vk, ← vl] at bV
    rw [← vi] at q1 q2 Bi
    rw [← vj] at q3 q4 Bj
    unfold inB at Bi Bj
    obtain ⟨t1, t2, t3⟩ := frac_ok (p := vx A i) (q := vx A (i + 1)) q1 q3 (by omega) (by omega) u2 v2 bU bV
    obtain ⟨t4, t5, -⟩ := frac_ok (p := ((vx A i).2, 0)) (q := ((vx A (i + 1)).2, 0)) q2 q4 (by simp only; omega) (by simp only; omega) u2 v2 bU bV
    have nd : ¬ u - v = 0 := fun q => by have := t3.mp q; unfold opp at x2; omega
    have J333 : ∀ s : Int32, isB s → ∃ M', mX8_meet_J333 K R M m (nI i) u v ((M.2 (m + 11) ((i + 1) % A.length) - M.2 (m + 11) i) * u) ((M.2 (m + 12) ((i + 1) % A.length) - M.2 (m + 12) i) * u) m s = some M' ∧ FM m [21, 36] [15, 16] M M' ∧ M'.1 m 36 = s ∧ rM M' m 21 15 16 (S ++ [((M.2 (m + 11) i + (M.2 (m + 11) ((i + 1) % A.length) - M.2 (m + 11) i) * u / (u - v)).toInt, (M.2 (m + 12) i + (M.2 (m + 12) ((i + 1) % A.length) - M.2 (m + 12) i) * u / (u - v)).toInt)]) := fun s hs => by
      have f1 : FM m [21, 36] [15, 16] M (pI M m 36 s) := FM.rf.pI (by decide)
      obtain ⟨N, d1, d2, d3⟩ := point_ok (M := pI M m 36 s) (x := M.2 (m + 11) i + (M.2 (m + 11) ((i + 1) % A.length) - M.2 (m + 11) i) * u / (u - v)) (y := M.2 (m + 12) i + (M.2 (m + 12) ((i + 1) % A.length) - M.2 (m + 12) i) * u / (u - v)) hm ⟨by rw [pI_k (by decide)]; exact h3.1, h3.2⟩ hS
      have d1 : mX8_point K R (pI M m 36 s) m ((pI M m 36 s).2 (m + 11) i + (M.2 (m + 11) ((i + 1) % A.length) - M.2 (m + 11) i) * u / (u - v)) ((pI M m 36 s).2 (m + 12) i + (M.2 (m + 12) ((i + 1) % A.length) - M.2 (m + 12) i) * u / (u - v)) = some N := d1
      refine ⟨N, ?_, f1.tr (d3.mo (by decide) (by decide)), by rw [d3.sl 36 (by decide), pI_s], d2⟩
      unfold mX8_meet_J333
      (repeat (first | rw [ck_t (by first | with_reducible assumption | ((with_reducible apply ixA_of); (with_reducible assumption); omega; omega) | ((with_reducible apply isAr_of); (with_reducible assumption); decide) | ((with_reducible apply nI_ne0); omega; omega) | with_reducible exact isB_0 | with_reducible exact isB_1 | with_reducible exact isB_bI _)] | rw [bd_r (by with_reducible assumption)] | rw [bd_s] | rw [bd2_s] | rw [bd3_s] | rw [nm_s] | rw [nI_clamp (by omega)] | rw [nI_1] | rw [bd_e (d1)] | rw [if_pos (by first | with_reducible assumption | ((with_reducible refine nI_lt ?_ ?_); omega; omega) | ((with_reducible refine nI_nlt ?_ ?_); omega; omega) | with_reducible exact ne10 | with_reducible rfl)] | rw [if_neg (by first | with_reducible assumption | ((with_reducible refine nI_lt ?_ ?_); omega; omega) | ((with_reducible refine nI_nlt ?_ ?_); omega; omega) | with_reducible exact ne10 | with_reducible rfl)]))
    have J328 : mX8_meet_J328 K R M m (nI i) u v ((M.2 (m + 11) ((i + 1) % A.length) - M.2 (m + 11) i) * u) ((M.2 (m + 12) ((i + 1) % A.length) - M.2 (m + 12) i) * u) m = mX8_meet_J333 K R M m (nI i) u v ((M.2 (m + 11) ((i + 1) % A.length) - M.2 (m + 11) i) * u) ((M.2 (m + 12) ((i + 1) % A.length) - M.2 (m + 12) i) * u) m 1 := by unfold mX8_meet_J328; rfl
    obtain ⟨y1, y2⟩ := x_sym x1
    obtain ⟨N1, e1, e2, e3, e4⟩ := J333 1 isB_1
    obtain ⟨N0, g1, g2, g3, g4⟩ := J333 0 isB_0
    unfold mX8_meet_J245 mX8_meet_J250
    by_cases c0 : M.1 m 36 = 0
    · by_cases c1 : (crs (vx B k) (vx B (k + 1)) (vx A i) - crs (vx B k) (vx B (k + 1)) (vx A (i + 1))) ∣ ((vx A (i + 1)).1 - (vx A i).1) * crs (vx B k) (vx B (k + 1)) (vx A i)
      · by_cases c2 : (crs (vx B k) (vx B (k + 1)) (vx A i) - crs (vx B k) (vx B (k + 1)) (vx A (i + 1))) ∣ ((vx A (i + 1)).2 - (vx A i).2) * crs (vx B k) (vx B (k + 1)) (vx A i)
        · have wh : whl (vx B k) (vx B (k + 1)) (vx A i) (vx A (i + 1)) := ⟨c1, c2⟩
          have wh2 : xwh A B i k := y1.mp wh
          obtain ⟨s0, s1, o, -⟩ := mt_on x2 wh
          obtain ⟨b1, b2, b3, b4⟩ := onw_B o (by unfold inB; exact Bi) (by unfold inB; exact Bj)
          have X1 : (mtP (vx B k) (vx B (k + 1)) (vx A i) (vx A (i + 1))).1 = (vx A i).1 + (((vx A (i + 1)).1 - (vx A i).1) * crs (vx B k) (vx B (k + 1)) (vx A i)).tdiv (crs (vx B k) (vx B (k + 1)) (vx A i) - crs (vx B k) (vx B (k + 1)) (vx A (i + 1))) := rfl
          have X2 : (mtP (vx B k) (vx B (k + 1)) (vx A i) (vx A (i + 1))).2 = (vx A i).2 + (((vx A (i + 1)).2 - (vx A i).2) * crs (vx B k) (vx B (k + 1)) (vx A i)).tdiv (crs (vx B k) (vx B (k + 1)) (vx A i) - crs (vx B k) (vx B (k + 1)) (vx A (i + 1))) := rfl
          refine ⟨N0, ?_, g2, Or.inr ⟨hx0, _, g4, Or.inl ⟨c0, wh2, g3, ?_⟩⟩⟩
          · (repeat (first | rw [ck_t (by first | with_reducible assumption | ((with_reducible apply ixA_of); (with_reducible assumption); omega; omega) | ((with_reducible apply isAr_of); (with_reducible assumption); decide) | ((with_reducible apply nI_ne0); omega; omega) | with_reducible exact isB_0 | with_reducible exact isB_1 | with_reducible exact isB_bI _)] | rw [bd_r (by with_reducible assumption)] | rw [bd_s] | rw [bd2_s] | rw [bd3_s] | rw [nm_s] | rw [nI_clamp (by omega)] | rw [nI_1] | rw [if_neg (ne10)] | rw [if_pos (c0)] | rw [if_pos (t1.mpr c1)] | rw [if_pos (t4.mpr c2)] | rw [if_pos (by first | with_reducible assumption | ((with_reducible refine nI_lt ?_ ?_); omega; omega) | ((with_reducible refine nI_nlt ?_ ?_); omega; omega) | with_reducible exact ne10 | with_reducible rfl)] | rw [if_neg (by first | with_reducible assumption | ((with_reducible refine nI_lt ?_ ?_); omega; omega) | ((with_reducible refine nI_nlt ?_ ?_); omega; omega) | with_reducible exact ne10 | with_reducible rfl)]))
            exact g1
          · refine Eq.trans ?_ (y2 wh2)
            simp only at t5
            refine Prod.ext ?_ ?_
            · show (M.2 (m + 11) i + _).toInt = _
              rw [add64 (by rw [t2, q1]; omega) (by rw [t2, q1]; omega), t2, q1, X1]
            · show (M.2 (m + 12) i + _).toInt = _
              rw [add64 (by rw [t5, q2]; omega) (by rw [t5, q2]; omega), t5, q2, X2]
        · refine ⟨N1, ?_, e2, Or.inr ⟨hx0, _, e4, Or.inr ⟨fun z => c2 (y1.mpr z.2).2, e3⟩⟩⟩
          (repeat (first | rw [ck_t (by first | with_reducible assumption | ((with_reducible apply ixA_of); (with_reducible assumption); omega; omega) | ((with_reducible apply isAr_of); (with_reducible assumption); decide) | ((with_reducible apply nI_ne0); omega; omega) | with_reducible exact isB_0 | with_reducible exact isB_1 | with_reducible exact isB_bI _)] | rw [bd_r (by with_reducible assumption)] | rw [bd_s] | rw [bd2_s] | rw [bd3_s] | rw [nm_s] | rw [nI_clamp (by omega)] | rw [nI_1] | rw [if_neg (ne10)] | rw [if_pos (c0)] | rw [if_pos (t1.mpr c1)] | rw [if_neg (fun z => c2 (t4.mp z))] | rw [if_pos (by first | with_reducible assumption | ((with_reducible refine nI_lt ?_ ?_); omega; omega) | ((with_reducible refine nI_nlt ?_ ?_); omega; omega) | with_reducible exact ne10 | with_reducible rfl)] | rw [if_neg (by first | with_reducible assumption | ((with_reducible refine nI_lt ?_ ?_); omega; omega) | ((with_reducible refine nI_nlt ?_ ?_); omega; omega) | with_reducible exact ne10 | with_reducible rfl)]))
          rw [J328]; exact e1
      · refine ⟨N1, ?_, e2, Or.inr ⟨hx0, _, e4, Or.inr ⟨fun z => c1 (y1.mpr z.2).1, e3⟩⟩⟩
        (repeat (first | rw [ck_t (by first | with_reducible assumption | ((with_reducible apply ixA_of); (with_reducible assumption); omega; omega) | ((with_reducible apply isAr_of); (with_reducible assumption); decide) | ((with_reducible apply nI_ne0); omega; omega) | with_reducible exact isB_0 | with_reducible exact isB_1 | with_reducible exact isB_bI _)] | rw [bd_r (by with_reducible assumption)] | rw [bd_s] | rw [bd2_s] | rw [bd3_s] | rw [nm_s] | rw [nI_clamp (by omega)] | rw [nI_1] | rw [if_neg (ne10)] | rw [if_pos (c0)] | rw [if_neg (fun z => c1 (t1.mp z))] | rw [if_pos (by first | with_reducible assumption | ((with_reducible refine nI_lt ?_ ?_); omega; omega) | ((with_reducible refine nI_nlt ?_ ?_); omega; omega) | with_reducible exact ne10 | with_reducible rfl)] | rw [if_neg (by first | with_reducible assumption | ((with_reducible refine nI_lt ?_ ?_); omega; omega) | ((with_reducible refine nI_nlt ?_ ?_); omega; omega) | with_reducible exact ne10 | with_reducible rfl)]))
        rw [J328]; exact e1
    · refine ⟨N1, ?_, e2, Or.inr ⟨hx0, _, e4, Or.inr ⟨fun z => c0 z.1, e3⟩⟩⟩
      (repeat (first | rw [ck_t (by first | with_reducible assumption | ((with_reducible apply ixA_of); (with_reducible assumption); omega; omega) | ((with_reducible apply isAr_of); (with_reducible assumption); decide) | ((with_reducible apply nI_ne0); omega; omega) | with_reducible exact isB_0 | with_reducible exact isB_1 | with_reducible exact isB_bI _)] | rw [bd_r (by with_reducible assumption)] | rw [bd_s] | rw [bd2_s] | rw [bd3_s] | rw [nm_s] | rw [nI_clamp (by omega)] | rw [nI_1] | rw [if_neg (ne10)] | rw [if_neg (c0)] | rw [if_pos (by first | with_reducible assumption | ((with_reducible refine nI_lt ?_ ?_); omega; omega) | ((with_reducible refine nI_nlt ?_ ?_); omega; omega) | with_reducible exact ne10 | with_reducible rfl)] | rw [if_neg (by first | with_reducible assumption | ((with_reducible refine nI_lt ?_ ?_); omega; omega) | ((with_reducible refine nI_nlt ?_ ?_); omega; omega) | with_reducible exact ne10 | with_reducible rfl)]))
      rw [J328]; exact e1
  · rw [if_neg hx]
    exact ⟨M, rfl, FM.rf, Or.inl ⟨hx, rfl⟩⟩
end TG
