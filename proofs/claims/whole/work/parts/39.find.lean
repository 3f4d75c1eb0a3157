/-! find, at -/
/-- the first of n for which it holds, else v0 -/
def An (n : Nat) (c : Nat → Prop) (v0 v : Int64) : Prop := (∃ j, j < n ∧ c j ∧ (∀ k, k < j → ¬ c k) ∧ v = (nI j).toInt64) ∨ ((∀ j, j < n → ¬ c j) ∧ v = v0)
theorem An.un {n : Nat} {c : Nat → Prop} {v0 v w : Int64} (h : An n c v0 v) (g : An n c v0 w) : v = w := by
  rcases h with ⟨j, h1, h2, h3, rfl⟩ | ⟨h1, rfl⟩ <;> rcases g with ⟨k, g1, g2, g3, rfl⟩ | ⟨g1, rfl⟩
  · rcases Nat.lt_trichotomy j k with q | q | q
    · exact absurd h2 (g3 j q)
    · rw [q]
    · exact absurd g2 (h3 k q)
  · exact absurd h2 (g1 j h1)
  · exact absurd g2 (h1 k g1)
  · rfl
def inC (ps : List Pc) (p : Pt) (j : Nat) : Prop := ∃ P, ps[j]? = some P ∧ inP (plc P) p
theorem inv_find (o : Nat) (K : Kk) (R : Rr) (M : Mm) (a0 a1 : Int32) (hI : Inv o K R M) : ∃ (v : Int64) (M1 : Mm) (M2 : Mm), mX7_find K R M o a0 a1 = some (v, M1) ∧ mX8_find K R M1 (o + 2118) a0 a1 = some (v, M2) ∧ Inv o K R M2 := by
  have hI0 := hI
  obtain ⟨hs, hm, S, hw, hc, ho⟩ := hI
  have hs0 := hs
  have m0 := hm.1
  obtain ⟨ps, hps, hpp⟩ := now_ps hw
  obtain ⟨c, hc1, hc2, hcA, hcC, hnow⟩ := now_at hs0 hw hc hps
  have hq6 : psM (M.2 (o + 2118 + 1)) 0 ps := ho.2.2.2.2.2.1 ps hps
  have h40 := hpp.1
  have hn := hcC.1
  obtain ⟨s0, -, -, s2, -, -, -, -, -, -, s9, s10, -, -, -, -, -, -, ⟨i0, -⟩, -, -, -, -, -, -, -, r1, r2, -⟩ := hs
  by_cases hb : inB (a0.toInt, a1.toInt)
  · have hb2 : inB (a0.toInt64.toInt, a1.toInt64.toInt) := by rw [i64_int, i64_int]; exact hb
    obtain ⟨g0, g1, g2, g3⟩ := hcA
    have r10 := r1.1
    have hL := lp_ind (f := mX7_find_L23 K R o a0 a1 c) (fun (i : Nat) (s : Int32 × Mm) => s.1 = nI i ∧ Fr (o + 1985) (o + 1988) M s.2 ∧ s.2.2 = M.2 ∧ ∀ j, j < i → ¬ inC ps (a0.toInt, a1.toInt) j) (fun r => An ps.length (inC ps (a0.toInt, a1.toInt)) (-9000000000000000005) r.1 ∧ Fr (o + 1985) (o + 1988) M r.2 ∧ r.2.2 = M.2) ps.length ?_ ?_
    · obtain ⟨⟨v, M1⟩, e1, e2, e3, e4⟩ := hL ps.length 0 (nI 0, M) (by omega) ⟨rfl, Fr.rf, rfl, fun j hj => absurd hj (by omega)⟩
      have e3 : Fr (o + 1985) (o + 1988) M M1 := e3
      have e4 : M1.2 = M.2 := e4
      have hq7 : psM (M1.2 (o + 2118 + 1)) 0 ps := by rw [e4]; exact hq6
      have hW := lp_ind (f := mX8_find_L16 K R (o + 2118) a0 a1) (fun (i : Nat) (s : Int32 × Mm) => s.1 = nI i ∧ FM (o + 2118) [15, 21, 24] [11, 12, 15, 16, 17, 18] M1 s.2 ∧ ∀ j, j < i → ¬ inC ps (a0.toInt, a1.toInt) j) (fun r => An ps.length (inC ps (a0.toInt, a1.toInt)) (-9000000000000000005) r.1 ∧ FM (o + 2118) [15, 21, 24] [11, 12, 15, 16, 17, 18] M1 r.2) ps.length ?_ ?_
      · obtain ⟨⟨w, M2⟩, d1, d2, d3⟩ := hW ps.length 0 (nI 0, M1) (by omega) ⟨rfl, FM.rf, fun j hj => absurd hj (by omega)⟩
        have d3 : FM (o + 2118) [15, 21, 24] [11, 12, 15, 16, 17, 18] M1 M2 := d3
        obtain rfl : v = w := e2.un d2
        refine ⟨v, M1, M2, ?_, ?_, (hI0.kp (Kp.fr e3 (by omega))).kp (d3.kp (by decide) (by decide) (by decide) (by decide))⟩
        · unfold mX7_find
          repeat (first | rw [ck_t (by first | with_reducible assumption | ((with_reducible apply ixA_of); (with_reducible assumption); omega; omega) | ((with_reducible apply isAr_of); (with_reducible assumption); decide) | ((with_reducible apply nI_ne0); omega; omega) | with_reducible exact isB_0 | with_reducible exact isB_1 | with_reducible exact isB_bI _)] | rw [bd_r (by with_reducible assumption)] | rw [bd_s] | rw [bd2_s] | rw [bd3_s] | rw [nm_s] | rw [nI_clamp (by omega)] | rw [nI_1] | rw [bd_e (isPlace_t hb)] | rw [bd_e (hnow M rfl)] | rw [if_pos (by first | with_reducible assumption | ((with_reducible refine nI_lt ?_ ?_); omega; omega) | ((with_reducible refine nI_nlt ?_ ?_); omega; omega) | with_reducible exact ne10 | with_reducible rfl)] | rw [if_neg (by first | with_reducible assumption | ((with_reducible refine nI_lt ?_ ?_); omega; omega) | ((with_reducible refine nI_nlt ?_ ?_); omega; omega) | with_reducible exact ne10 | with_reducible rfl)])
          exact e1
        · unfold mX8_find
          repeat (first | rw [ck_t (by first | with_reducible assumption | ((with_reducible apply ixA_of); (with_reducible assumption); omega; omega) | ((with_reducible apply isAr_of); (with_reducible assumption); decide) | ((with_reducible apply nI_ne0); omega; omega) | with_reducible exact isB_0 | with_reducible exact isB_1 | with_reducible exact isB_bI _)] | rw [bd_r (by with_reducible assumption)] | rw [bd_s] | rw [bd2_s] | rw [bd3_s] | rw [nm_s] | rw [nI_clamp (by omega)] | rw [nI_1] | rw [bd_e (isPlaceM_t hb2)] | rw [if_pos (by first | with_reducible assumption | ((with_reducible refine nI_lt ?_ ?_); omega; omega) | ((with_reducible refine nI_nlt ?_ ?_); omega; omega) | with_reducible exact ne10 | with_reducible rfl)] | rw [if_neg (by first | with_reducible assumption | ((with_reducible refine nI_lt ?_ ?_); omega; omega) | ((with_reducible refine nI_nlt ?_ ?_); omega; omega) | with_reducible exact ne10 | with_reducible rfl)])
          exact d1
      · rintro i ⟨x, N⟩ hi ⟨rfl, f1, f2⟩
        have f1 : FM (o + 2118) [15, 21, 24] [11, 12, 15, 16, 17, 18] M1 N := f1
        obtain ⟨P, hP⟩ := get_ex hi
        have iP := hpp.2 i P hP
        have hN := hq7.fr f1 (by decide)
        have sP := iP.1.2.1
        obtain ⟨N2, b1, b2, b3⟩ := lookA_ok hm hN hP h40 iP
        obtain ⟨v2, u1, u2⟩ := hasA_ok hm b2 (by rw [(plc_ok iP).2.2.2.1]; omega) (inBs_of (plc_ok iP).2.2.2.2) hb2
        rw [i64_int, i64_int] at u2
        show (∃ s', mX8_find_B16 K R (o + 2118) a0 a1 (nI i) N = _ ∧ _) ∨ ∃ r', mX8_find_B16 K R (o + 2118) a0 a1 (nI i) N = _ ∧ _
        unfold mX8_find_B16
        repeat (first | rw [ck_t (by first | with_reducible assumption | ((with_reducible apply ixA_of); (with_reducible assumption); omega; omega) | ((with_reducible apply isAr_of); (with_reducible assumption); decide) | ((with_reducible apply nI_ne0); omega; omega) | with_reducible exact isB_0 | with_reducible exact isB_1 | with_reducible exact isB_bI _)] | rw [bd_r (by with_reducible assumption)] | rw [bd_s] | rw [bd2_s] | rw [bd3_s] | rw [nm_s] | rw [nI_clamp (by omega)] | rw [nI_1] | rw [bd_e (piecesM_ok hm hN)] | rw [bd_e (b1)] | rw [bd_e (u1)] | rw [if_pos (by first | with_reducible assumption | ((with_reducible refine nI_lt ?_ ?_); omega; omega) | ((with_reducible refine nI_nlt ?_ ?_); omega; omega) | with_reducible exact ne10 | with_reducible rfl)] | rw [if_neg (by first | with_reducible assumption | ((with_reducible refine nI_lt ?_ ?_); omega; omega) | ((with_reducible refine nI_nlt ?_ ?_); omega; omega) | with_reducible exact ne10 | with_reducible rfl)])
        rcases u2 with ⟨rfl, u2⟩ | ⟨rfl, u2⟩
        · refine Or.inr ⟨((nI i).toInt64, N2), by rw [if_neg ne10]; rfl, Or.inl ⟨i, hi, ⟨P, hP, u2⟩, f2, rfl⟩, f1.tr b3⟩
        · refine Or.inl ⟨(nI (i + 1), N2), by repeat (first | rw [ck_t (by first | with_reducible assumption | ((with_reducible apply ixA_of); (with_reducible assumption); omega; omega) | ((with_reducible apply isAr_of); (with_reducible assumption); decide) | ((with_reducible apply nI_ne0); omega; omega) | with_reducible exact isB_0 | with_reducible exact isB_1 | with_reducible exact isB_bI _)] | rw [bd_r (by with_reducible assumption)] | rw [bd_s] | rw [bd2_s] | rw [bd3_s] | rw [nm_s] | rw [nI_clamp (by omega)] | rw [nI_1] | rw [if_pos (by first | with_reducible assumption | ((with_reducible refine nI_lt ?_ ?_); omega; omega) | ((with_reducible refine nI_nlt ?_ ?_); omega; omega) | with_reducible exact ne10 | with_reducible rfl)] | rw [if_neg (by first | with_reducible assumption | ((with_reducible refine nI_lt ?_ ?_); omega; omega) | ((with_reducible refine nI_nlt ?_ ?_); omega; omega) | with_reducible exact ne10 | with_reducible rfl)]), rfl, f1.tr b3, fun j hj => ?_⟩
          by_cases hji : j = i
          · subst hji
            rintro ⟨P', hP', z⟩
            rw [get_un hP' hP] at z
            exact u2 z
          · exact f2 j (by omega)
      · rintro ⟨x, N⟩ ⟨rfl, f1, f2⟩
        have f1 : FM (o + 2118) [15, 21, 24] [11, 12, 15, 16, 17, 18] M1 N := f1
        have hN := hq7.fr f1 (by decide)
        refine ⟨(_, N), ?_, Or.inr ⟨f2, rfl⟩, f1⟩
        show mX8_find_B16 K R (o + 2118) a0 a1 (nI ps.length) N = _
        unfold mX8_find_B16
        repeat (first | rw [ck_t (by first | with_reducible assumption | ((with_reducible apply ixA_of); (with_reducible assumption); omega; omega) | ((with_reducible apply isAr_of); (with_reducible assumption); decide) | ((with_reducible apply nI_ne0); omega; omega) | with_reducible exact isB_0 | with_reducible exact isB_1 | with_reducible exact isB_bI _)] | rw [bd_r (by with_reducible assumption)] | rw [bd_s] | rw [bd2_s] | rw [bd3_s] | rw [nm_s] | rw [nI_clamp (by omega)] | rw [nI_1] | rw [bd_e (piecesM_ok hm hN)] | rw [if_pos (by first | with_reducible assumption | ((with_reducible refine nI_lt ?_ ?_); omega; omega) | ((with_reducible refine nI_nlt ?_ ?_); omega; omega) | with_reducible exact ne10 | with_reducible rfl)] | rw [if_neg (by first | with_reducible assumption | ((with_reducible refine nI_lt ?_ ?_); omega; omega) | ((with_reducible refine nI_nlt ?_ ?_); omega; omega) | with_reducible exact ne10 | with_reducible rfl)])
        rfl
    · rintro i ⟨x, N⟩ hi ⟨rfl, f1, f2, f3⟩
      have f1 : Fr (o + 1985) (o + 1988) M N := f1
      obtain ⟨P, hP⟩ := get_ex hi
      have iP := hpp.2 i P hP
      obtain ⟨k1, k2⟩ := g3 i (by omega)
      have k20 := k2.1
      have sP := iP.1.2.1
      have eN : N.1 c 1 = nI ps.length := by rw [(f1 c (by omega)).1]; exact hn
      obtain ⟨N2, b1, b2, b3, b4⟩ := placeInto_ok (M := N) r1 k2 (by omega) iP (by decide) (by decide) ((hcC.2 i P hP).fr f1 (by omega))
      obtain ⟨v, u1, u2⟩ := holds_ok r1 b2 (by rw [(plc_ok iP).2.2.2.1]; omega) (by decide) (inBs_of (plc_ok iP).2.2.2.2) hb
      show (∃ s', mX7_find_B23 K R o a0 a1 c (nI i) N = _ ∧ _) ∨ ∃ r', mX7_find_B23 K R o a0 a1 c (nI i) N = _ ∧ _
      unfold mX7_find_B23
      repeat (first | rw [ck_t (by first | with_reducible assumption | ((with_reducible apply ixA_of); (with_reducible assumption); omega; omega) | ((with_reducible apply isAr_of); (with_reducible assumption); decide) | ((with_reducible apply nI_ne0); omega; omega) | with_reducible exact isB_0 | with_reducible exact isB_1 | with_reducible exact isB_bI _)] | rw [bd_r (by with_reducible assumption)] | rw [bd_s] | rw [bd2_s] | rw [bd3_s] | rw [nm_s] | rw [nI_clamp (by omega)] | rw [nI_1] | rw [eN] | rw [bd_e (b1)] | rw [bd_e (u1)] | rw [if_pos (by first | with_reducible assumption | ((with_reducible refine nI_lt ?_ ?_); omega; omega) | ((with_reducible refine nI_nlt ?_ ?_); omega; omega) | with_reducible exact ne10 | with_reducible rfl)] | rw [if_neg (by first | with_reducible assumption | ((with_reducible refine nI_lt ?_ ?_); omega; omega) | ((with_reducible refine nI_nlt ?_ ?_); omega; omega) | with_reducible exact ne10 | with_reducible rfl)])
      rcases u2 with ⟨rfl, u2⟩ | ⟨rfl, u2⟩
      · refine Or.inr ⟨((nI i).toInt64, N2), by rw [if_neg ne10]; rfl, Or.inl ⟨i, hi, ⟨P, hP, u2⟩, f3, rfl⟩, f1.tr b3, b4.trans f2⟩
      · refine Or.inl ⟨(nI (i + 1), N2), by repeat (first | rw [ck_t (by first | with_reducible assumption | ((with_reducible apply ixA_of); (with_reducible assumption); omega; omega) | ((with_reducible apply isAr_of); (with_reducible assumption); decide) | ((with_reducible apply nI_ne0); omega; omega) | with_reducible exact isB_0 | with_reducible exact isB_1 | with_reducible exact isB_bI _)] | rw [bd_r (by with_reducible assumption)] | rw [bd_s] | rw [bd2_s] | rw [bd3_s] | rw [nm_s] | rw [nI_clamp (by omega)] | rw [nI_1] | rw [if_pos (by first | with_reducible assumption | ((with_reducible refine nI_lt ?_ ?_); omega; omega) | ((with_reducible refine nI_nlt ?_ ?_); omega; omega) | with_reducible exact ne10 | with_reducible rfl)] | rw [if_neg (by first | with_reducible assumption | ((with_reducible refine nI_lt ?_ ?_); omega; omega) | ((with_reducible refine nI_nlt ?_ ?_); omega; omega) | with_reducible exact ne10 | with_reducible rfl)]), rfl, f1.tr b3, b4.trans f2, fun j hj => ?_⟩
        by_cases hji : j = i
        · subst hji
          rintro ⟨P', hP', z⟩
          rw [get_un hP' hP] at z
          exact u2 z
        · exact f3 j (by omega)
    · rintro ⟨x, N⟩ ⟨rfl, f1, f2, f3⟩
      have f1 : Fr (o + 1985) (o + 1988) M N := f1
      have eN : N.1 c 1 = nI ps.length := by rw [(f1 c (by omega)).1]; exact hn
      refine ⟨(_, N), ?_, Or.inr ⟨f3, rfl⟩, f1, f2⟩
      show mX7_find_B23 K R o a0 a1 c (nI ps.length) N = _
      unfold mX7_find_B23
      repeat (first | rw [ck_t (by first | with_reducible assumption | ((with_reducible apply ixA_of); (with_reducible assumption); omega; omega) | ((with_reducible apply isAr_of); (with_reducible assumption); decide) | ((with_reducible apply nI_ne0); omega; omega) | with_reducible exact isB_0 | with_reducible exact isB_1 | with_reducible exact isB_bI _)] | rw [bd_r (by with_reducible assumption)] | rw [bd_s] | rw [bd2_s] | rw [bd3_s] | rw [nm_s] | rw [nI_clamp (by omega)] | rw [nI_1] | rw [eN] | rw [if_pos (by first | with_reducible assumption | ((with_reducible refine nI_lt ?_ ?_); omega; omega) | ((with_reducible refine nI_nlt ?_ ?_); omega; omega) | with_reducible exact ne10 | with_reducible rfl)] | rw [if_neg (by first | with_reducible assumption | ((with_reducible refine nI_lt ?_ ?_); omega; omega) | ((with_reducible refine nI_nlt ?_ ?_); omega; omega) | with_reducible exact ne10 | with_reducible rfl)])
      rfl
  · have hb2 : ¬ inB (a0.toInt64.toInt, a1.toInt64.toInt) := by rw [i64_int, i64_int]; exact hb
    refine ⟨-9000000000000000001, M, M, ?_, ?_, hI0⟩
    · unfold mX7_find
      repeat (first | rw [ck_t (by first | with_reducible assumption | ((with_reducible apply ixA_of); (with_reducible assumption); omega; omega) | ((with_reducible apply isAr_of); (with_reducible assumption); decide) | ((with_reducible apply nI_ne0); omega; omega) | with_reducible exact isB_0 | with_reducible exact isB_1 | with_reducible exact isB_bI _)] | rw [bd_r (by with_reducible assumption)] | rw [bd_s] | rw [bd2_s] | rw [bd3_s] | rw [nm_s] | rw [nI_clamp (by omega)] | rw [nI_1] | rw [bd_e (isPlace_f hb)] | rw [if_pos (by first | with_reducible assumption | ((with_reducible refine nI_lt ?_ ?_); omega; omega) | ((with_reducible refine nI_nlt ?_ ?_); omega; omega) | with_reducible exact ne10 | with_reducible rfl)] | rw [if_neg (by first | with_reducible assumption | ((with_reducible refine nI_lt ?_ ?_); omega; omega) | ((with_reducible refine nI_nlt ?_ ?_); omega; omega) | with_reducible exact ne10 | with_reducible rfl)])
    · unfold mX8_find
      repeat (first | rw [ck_t (by first | with_reducible assumption | ((with_reducible apply ixA_of); (with_reducible assumption); omega; omega) | ((with_reducible apply isAr_of); (with_reducible assumption); decide) | ((with_reducible apply nI_ne0); omega; omega) | with_reducible exact isB_0 | with_reducible exact isB_1 | with_reducible exact isB_bI _)] | rw [bd_r (by with_reducible assumption)] | rw [bd_s] | rw [bd2_s] | rw [bd3_s] | rw [nm_s] | rw [nI_clamp (by omega)] | rw [nI_1] | rw [bd_e (isPlaceM_f hb2)] | rw [if_pos (by first | with_reducible assumption | ((with_reducible refine nI_lt ?_ ?_); omega; omega) | ((with_reducible refine nI_nlt ?_ ?_); omega; omega) | with_reducible exact ne10 | with_reducible rfl)] | rw [if_neg (by first | with_reducible assumption | ((with_reducible refine nI_lt ?_ ?_); omega; omega) | ((with_reducible refine nI_nlt ?_ ?_); omega; omega) | with_reducible exact ne10 | with_reducible rfl)])
theorem int_cases4 (x : Int32) : x < 0 ∨ nI 4 ≤ x ∨ x = 0 ∨ x = 1 ∨ x = 2 ∨ x = 3 := by
  rcases pk_ix x (n := 4) (by decide) with h | h | ⟨j, hj, rfl⟩
  · exact Or.inl h
  · exact Or.inr (Or.inl h)
  · match j, hj with
    | 0, _ => exact Or.inr (Or.inr (Or.inl rfl))
    | 1, _ => exact Or.inr (Or.inr (Or.inr (Or.inl rfl)))
    | 2, _ => exact Or.inr (Or.inr (Or.inr (Or.inr (Or.inl rfl))))
    | 3, _ => exact Or.inr (Or.inr (Or.inr (Or.inr (Or.inr rfl))))
theorem inv_at (o : Nat) (K : Kk) (R : Rr) (M : Mm) (a0 a1 a2 : Int32) (hI : Inv o K R M) : ∃ (v : Int64) (M1 : Mm) (M2 : Mm), mX7_at K R M o a0 a1 a2 = some (v, M1) ∧ mX8_at K R M1 (o + 2118) a0 a1 a2 = some (v, M2) ∧ Inv o K R M2 := by
  have hI0 := hI
  obtain ⟨hs, hm, S, hw, hc, ho⟩ := hI
  have hs0 := hs
  have m0 := hm.1
  obtain ⟨ps, hps, hpp⟩ := now_ps hw
  obtain ⟨c, hc1, hc2, hcA, hcC, hnow⟩ := now_at hs0 hw hc hps
  have hq6 : psM (M.2 (o + 2118 + 1)) 0 ps := ho.2.2.2.2.2.1 ps hps
  have h40 := hpp.1
  have hn := hcC.1
  obtain ⟨s0, -, -, s2, -, -, -, -, -, -, s9, s10, -, -, -, -, -, -, ⟨i0, -⟩, -, -, -, -, -, -, -, r1, r2, -⟩ := hs
  have B0 : (a0 < 0 ∨ nI ps.length ≤ a0) → ∃ (v : Int64) (M1 : Mm) (M2 : Mm), mX7_at K R M o a0 a1 a2 = some (v, M1) ∧ mX8_at K R M1 (o + 2118) a0 a1 a2 = some (v, M2) ∧ Inv o K R M2 := fun hx => by
    refine ⟨-9000000000000000001, M, M, ?_, ?_, hI0⟩
    · unfold mX7_at
      repeat (first | rw [ck_t (by first | with_reducible assumption | ((with_reducible apply ixA_of); (with_reducible assumption); omega; omega) | ((with_reducible apply isAr_of); (with_reducible assumption); decide) | ((with_reducible apply nI_ne0); omega; omega) | with_reducible exact isB_0 | with_reducible exact isB_1 | with_reducible exact isB_bI _)] | rw [bd_r (by with_reducible assumption)] | rw [bd_s] | rw [bd2_s] | rw [bd3_s] | rw [nm_s] | rw [nI_clamp (by omega)] | rw [nI_1] | rw [bd_e (isPiece_f hs0 hcA hn (hnow M rfl) hx)] | rw [if_pos (by first | with_reducible assumption | ((with_reducible refine nI_lt ?_ ?_); omega; omega) | ((with_reducible refine nI_nlt ?_ ?_); omega; omega) | with_reducible exact ne10 | with_reducible rfl)] | rw [if_neg (by first | with_reducible assumption | ((with_reducible refine nI_lt ?_ ?_); omega; omega) | ((with_reducible refine nI_nlt ?_ ?_); omega; omega) | with_reducible exact ne10 | with_reducible rfl)])
    · unfold mX8_at
      repeat (first | rw [ck_t (by first | with_reducible assumption | ((with_reducible apply ixA_of); (with_reducible assumption); omega; omega) | ((with_reducible apply isAr_of); (with_reducible assumption); decide) | ((with_reducible apply nI_ne0); omega; omega) | with_reducible exact isB_0 | with_reducible exact isB_1 | with_reducible exact isB_bI _)] | rw [bd_r (by with_reducible assumption)] | rw [bd_s] | rw [bd2_s] | rw [bd3_s] | rw [nm_s] | rw [nI_clamp (by omega)] | rw [nI_1] | rw [bd_e (isPieceM_f hm hq6 hx h40)] | rw [if_pos (by first | with_reducible assumption | ((with_reducible refine nI_lt ?_ ?_); omega; omega) | ((with_reducible refine nI_nlt ?_ ?_); omega; omega) | with_reducible exact ne10 | with_reducible rfl)] | rw [if_neg (by first | with_reducible assumption | ((with_reducible refine nI_lt ?_ ?_); omega; omega) | ((with_reducible refine nI_nlt ?_ ?_); omega; omega) | with_reducible exact ne10 | with_reducible rfl)])
  rcases pk_ix a0 (n := ps.length) (by omega) with h | h | ⟨p, hp, rfl⟩
  · exact B0 (Or.inl h)
  · exact B0 (Or.inr h)
  · obtain ⟨P, hP⟩ := get_ex hp
    have iP := hpp.2 p P hP
    have sP := iP.1.2.1
    have lP := (plc_ok iP).2.2.2.1
    have q1 := isPiece_t hs0 hcA hn (hnow M rfl) hp h40
    have q2 := isPieceM_t hm hq6 hp h40
    have q3 := size_ok hm hq6 hP h40
    obtain ⟨g0, g1, g2, g3⟩ := hcA
    obtain ⟨k1, k2⟩ := g3 p (by omega)
    have pC := hcC.2 p P hP
    have k20 := k2.1
    have kr := k2.2.1
    have ka := k2.2.2
    have kaO := ka.1
    have eL := pC.1.1
    obtain ⟨w0, w1, w2, w3, w4⟩ := r1
    have r1 : rgA K R (o + 1985) 66 := ⟨w0, w1, w2, w3, w4⟩
    have r13 := mo_r13 hm
    have r14 := mo_r14 hm
    have r15 := mo_a13 hm
    have r16 := mo_a14 hm
    by_cases hi0 : a1 < 0
    · refine ⟨-9000000000000000001, M, M, ?_, ?_, hI0⟩
      · unfold mX7_at
        repeat (first | rw [ck_t (by first | with_reducible assumption | ((with_reducible apply ixA_of); (with_reducible assumption); omega; omega) | ((with_reducible apply isAr_of); (with_reducible assumption); decide) | ((with_reducible apply nI_ne0); omega; omega) | with_reducible exact isB_0 | with_reducible exact isB_1 | with_reducible exact isB_bI _)] | rw [bd_r (by with_reducible assumption)] | rw [bd_s] | rw [bd2_s] | rw [bd3_s] | rw [nm_s] | rw [nI_clamp (by omega)] | rw [nI_1] | rw [bd_e (q1)] | rw [if_pos (by first | with_reducible assumption | ((with_reducible refine nI_lt ?_ ?_); omega; omega) | ((with_reducible refine nI_nlt ?_ ?_); omega; omega) | with_reducible exact ne10 | with_reducible rfl)] | rw [if_neg (by first | with_reducible assumption | ((with_reducible refine nI_lt ?_ ?_); omega; omega) | ((with_reducible refine nI_nlt ?_ ?_); omega; omega) | with_reducible exact ne10 | with_reducible rfl)])
      · unfold mX8_at
        repeat (first | rw [ck_t (by first | with_reducible assumption | ((with_reducible apply ixA_of); (with_reducible assumption); omega; omega) | ((with_reducible apply isAr_of); (with_reducible assumption); decide) | ((with_reducible apply nI_ne0); omega; omega) | with_reducible exact isB_0 | with_reducible exact isB_1 | with_reducible exact isB_bI _)] | rw [bd_r (by with_reducible assumption)] | rw [bd_s] | rw [bd2_s] | rw [bd3_s] | rw [nm_s] | rw [nI_clamp (by omega)] | rw [nI_1] | rw [bd_e (q2)] | rw [if_pos (by first | with_reducible assumption | ((with_reducible refine nI_lt ?_ ?_); omega; omega) | ((with_reducible refine nI_nlt ?_ ?_); omega; omega) | with_reducible exact ne10 | with_reducible rfl)] | rw [if_neg (by first | with_reducible assumption | ((with_reducible refine nI_lt ?_ ?_); omega; omega) | ((with_reducible refine nI_nlt ?_ ?_); omega; omega) | with_reducible exact ne10 | with_reducible rfl)])
    · have t1 : (-1 : Int32).toInt = -1 := rfl
      have t2 : (3 : Int32).toInt = 3 := rfl
      have B1 : ¬ (0 ≤ a2.toInt ∧ a2.toInt ≤ 3) → ∃ (v : Int64) (M1 : Mm) (M2 : Mm), mX7_at K R M o (nI p) a1 a2 = some (v, M1) ∧ mX8_at K R M1 (o + 2118) (nI p) a1 a2 = some (v, M2) ∧ Inv o K R M2 := fun hx => by
        refine ⟨-9000000000000000001, M, M, ?_, ?_, hI0⟩
        · unfold mX7_at
          by_cases h1 : a2 < 0
          · repeat (first | rw [ck_t (by first | with_reducible assumption | ((with_reducible apply ixA_of); (with_reducible assumption); omega; omega) | ((with_reducible apply isAr_of); (with_reducible assumption); decide) | ((with_reducible apply nI_ne0); omega; omega) | with_reducible exact isB_0 | with_reducible exact isB_1 | with_reducible exact isB_bI _)] | rw [bd_r (by with_reducible assumption)] | rw [bd_s] | rw [bd2_s] | rw [bd3_s] | rw [nm_s] | rw [nI_clamp (by omega)] | rw [nI_1] | rw [bd_e (q1)] | rw [if_pos (by first | with_reducible assumption | ((with_reducible refine nI_lt ?_ ?_); omega; omega) | ((with_reducible refine nI_nlt ?_ ?_); omega; omega) | with_reducible exact ne10 | with_reducible rfl)] | rw [if_neg (by first | with_reducible assumption | ((with_reducible refine nI_lt ?_ ?_); omega; omega) | ((with_reducible refine nI_nlt ?_ ?_); omega; omega) | with_reducible exact ne10 | with_reducible rfl)])
          · have h2 : ¬ a2 ≤ 3 := fun q => hx (by
              rw [lt32] at h1
              rw [le32] at q
              have z0 : (0 : Int32).toInt = 0 := rfl
              omega)
            repeat (first | rw [ck_t (by first | with_reducible assumption | ((with_reducible apply ixA_of); (with_reducible assumption); omega; omega) | ((with_reducible apply isAr_of); (with_reducible assumption); decide) | ((with_reducible apply nI_ne0); omega; omega) | with_reducible exact isB_0 | with_reducible exact isB_1 | with_reducible exact isB_bI _)] | rw [bd_r (by with_reducible assumption)] | rw [bd_s] | rw [bd2_s] | rw [bd3_s] | rw [nm_s] | rw [nI_clamp (by omega)] | rw [nI_1] | rw [bd_e (q1)] | rw [if_pos (by first | with_reducible assumption | ((with_reducible refine nI_lt ?_ ?_); omega; omega) | ((with_reducible refine nI_nlt ?_ ?_); omega; omega) | with_reducible exact ne10 | with_reducible rfl)] | rw [if_neg (by first | with_reducible assumption | ((with_reducible refine nI_lt ?_ ?_); omega; omega) | ((with_reducible refine nI_nlt ?_ ?_); omega; omega) | with_reducible exact ne10 | with_reducible rfl)])
        · unfold mX8_at
          repeat (first | rw [ck_t (by first | with_reducible assumption | ((with_reducible apply ixA_of); (with_reducible assumption); omega; omega) | ((with_reducible apply isAr_of); (with_reducible assumption); decide) | ((with_reducible apply nI_ne0); omega; omega) | with_reducible exact isB_0 | with_reducible exact isB_1 | with_reducible exact isB_bI _)] | rw [bd_r (by with_reducible assumption)] | rw [bd_s] | rw [bd2_s] | rw [bd3_s] | rw [nm_s] | rw [nI_clamp (by omega)] | rw [nI_1] | rw [bd_e (q2)] | rw [bd_e (isIn_f (x := a2.toInt64) (a := 0) (b := 3) (by rw [i64_int]; exact hx))] | rw [if_pos (by first | with_reducible assumption | ((with_reducible refine nI_lt ?_ ?_); omega; omega) | ((with_reducible refine nI_nlt ?_ ?_); omega; omega) | with_reducible exact ne10 | with_reducible rfl)] | rw [if_neg (by first | with_reducible assumption | ((with_reducible refine nI_lt ?_ ?_); omega; omega) | ((with_reducible refine nI_nlt ?_ ?_); omega; omega) | with_reducible exact ne10 | with_reducible rfl)])
      rcases int_cases4 a2 with h | h | h
      · exact B1 (by rw [lt32] at h; have h : a2.toInt < 0 := h; omega)
      · exact B1 (by rw [le32, nI_int (by decide)] at h; omega)
      · have hr : 0 ≤ a2.toInt ∧ a2.toInt ≤ 3 := by rcases h with rfl | rfl | rfl | rfl <;> decide
        have y1 : ¬ a2 < 0 := by rw [lt32]; have : (0 : Int32).toInt = 0 := rfl; omega
        have y2 : a2 ≤ 3 := by rw [le32]; omega
        have y3 := isIn_t (K := K) (R := R) (M := M) (x := a2.toInt64) (a := 0) (b := 3) (by rw [i64_int]; exact hr.1) (by rw [i64_int]; exact hr.2)
        by_cases hi : a1 < nI P.1.length
        · obtain ⟨i, hi2, rfl⟩ : ∃ i, i < P.1.length ∧ a1 = nI i := by
            rcases pk_ix a1 (n := P.1.length) (by omega) with z | z | z
            · exact absurd z hi0
            · exact absurd hi (Int32.not_lt.mpr z)
            · exact z
          by_cases h2 : a2 < 2
          · have h2' : a2 ≤ 1 := by
              rw [lt32] at h2
              have h2 : a2.toInt < 2 := h2
              rw [le32]; show _ ≤ (1 : Int); omega
            obtain ⟨N1, b1, b2, b3, b4⟩ := placeInto_ok (M := M) r1 k2 (by omega) iP (by decide) (by decide) pC
            have hq7 : psM (N1.2 (o + 2118 + 1)) 0 ps := by rw [b4]; exact hq6
            obtain ⟨N2, d1, d2, d3⟩ := lookA_ok hm hq7 hP h40 iP
            have q2' := isPieceM_t hm hq7 hp h40
            have q3' := size_ok hm hq7 hP h40
            have y3' := isIn_t (K := K) (R := R) (M := N1) (x := a2.toInt64) (a := 0) (b := 3) (by rw [i64_int]; exact hr.1) (by rw [i64_int]; exact hr.2)
            obtain ⟨a, ha⟩ := get_ex (l := plc P) (i := i) (by omega)
            have va := b2.2 i a ha
            have vb := d2.2 i a ha
            have hk : Inv o K R N2 := (hI0.kp (Kp.fr b3 (by omega))).kp (d3.kp (by decide) (by decide) (by decide) (by decide))
            have h01 : a2 = 0 ∨ a2 = 1 := by
              rcases h with h | h | h | h
              · exact Or.inl h
              · exact Or.inr h
              · rw [h] at h2; exact absurd h2 (by decide)
              · rw [h] at h2; exact absurd h2 (by decide)
            rcases h01 with rfl | rfl
            · refine ⟨(N1.1 (o + 1986) i).toInt64, N1, N2, ?_, ?_, hk⟩
              · unfold mX7_at
                repeat (first | rw [ck_t (by first | with_reducible assumption | ((with_reducible apply ixA_of); (with_reducible assumption); omega; omega) | ((with_reducible apply isAr_of); (with_reducible assumption); decide) | ((with_reducible apply nI_ne0); omega; omega) | with_reducible exact isB_0 | with_reducible exact isB_1 | with_reducible exact isB_bI _)] | rw [bd_r (by with_reducible assumption)] | rw [bd_s] | rw [bd2_s] | rw [bd3_s] | rw [nm_s] | rw [nI_clamp (by omega)] | rw [nI_1] | rw [bd_e (q1)] | rw [bd_e (hnow M rfl)] | rw [eL] | rw [bd_e (b1)] | rw [if_pos (by first | with_reducible assumption | ((with_reducible refine nI_lt ?_ ?_); omega; omega) | ((with_reducible refine nI_nlt ?_ ?_); omega; omega) | with_reducible exact ne10 | with_reducible rfl)] | rw [if_neg (by first | with_reducible assumption | ((with_reducible refine nI_lt ?_ ?_); omega; omega) | ((with_reducible refine nI_nlt ?_ ?_); omega; omega) | with_reducible exact ne10 | with_reducible rfl)])
                unfold mX7_at_J84
                repeat (first | rw [ck_t (by first | with_reducible assumption | ((with_reducible apply ixA_of); (with_reducible assumption); omega; omega) | ((with_reducible apply isAr_of); (with_reducible assumption); decide) | ((with_reducible apply nI_ne0); omega; omega) | with_reducible exact isB_0 | with_reducible exact isB_1 | with_reducible exact isB_bI _)] | rw [bd_r (by with_reducible assumption)] | rw [bd_s] | rw [bd2_s] | rw [bd3_s] | rw [nm_s] | rw [nI_clamp (by omega)] | rw [nI_1] | rw [if_pos (show (0 - 0 / 2 * 2 : Int32) = 0 from rfl)] | rw [if_pos (by first | with_reducible assumption | ((with_reducible refine nI_lt ?_ ?_); omega; omega) | ((with_reducible refine nI_nlt ?_ ?_); omega; omega) | with_reducible exact ne10 | with_reducible rfl)] | rw [if_neg (by first | with_reducible assumption | ((with_reducible refine nI_lt ?_ ?_); omega; omega) | ((with_reducible refine nI_nlt ?_ ?_); omega; omega) | with_reducible exact ne10 | with_reducible rfl)])
              · unfold mX8_at
                repeat (first | rw [ck_t (by first | with_reducible assumption | ((with_reducible apply ixA_of); (with_reducible assumption); omega; omega) | ((with_reducible apply isAr_of); (with_reducible assumption); decide) | ((with_reducible apply nI_ne0); omega; omega) | with_reducible exact isB_0 | with_reducible exact isB_1 | with_reducible exact isB_bI _)] | rw [bd_r (by with_reducible assumption)] | rw [bd_s] | rw [bd2_s] | rw [bd3_s] | rw [nm_s] | rw [nI_clamp (by omega)] | rw [nI_1] | rw [bd_e (q2')] | rw [bd_e (y3')] | rw [bd_e (q3')] | rw [bd_e (d1)] | rw [if_pos (by first | with_reducible assumption | ((with_reducible refine nI_lt ?_ ?_); omega; omega) | ((with_reducible refine nI_nlt ?_ ?_); omega; omega) | with_reducible exact ne10 | with_reducible rfl)] | rw [if_neg (by first | with_reducible assumption | ((with_reducible refine nI_lt ?_ ?_); omega; omega) | ((with_reducible refine nI_nlt ?_ ?_); omega; omega) | with_reducible exact ne10 | with_reducible rfl)])
                congr 2
                rw [eq64, i64_int, va.1]; exact vb.1
            · refine ⟨(N1.1 (o + 1987) i).toInt64, N1, N2, ?_, ?_, hk⟩
              · unfold mX7_at
                repeat (first | rw [ck_t (by first | with_reducible assumption | ((with_reducible apply ixA_of); (with_reducible assumption); omega; omega) | ((with_reducible apply isAr_of); (with_reducible assumption); decide) | ((with_reducible apply nI_ne0); omega; omega) | with_reducible exact isB_0 | with_reducible exact isB_1 | with_reducible exact isB_bI _)] | rw [bd_r (by with_reducible assumption)] | rw [bd_s] | rw [bd2_s] | rw [bd3_s] | rw [nm_s] | rw [nI_clamp (by omega)] | rw [nI_1] | rw [bd_e (q1)] | rw [bd_e (hnow M rfl)] | rw [eL] | rw [bd_e (b1)] | rw [if_pos (by first | with_reducible assumption | ((with_reducible refine nI_lt ?_ ?_); omega; omega) | ((with_reducible refine nI_nlt ?_ ?_); omega; omega) | with_reducible exact ne10 | with_reducible rfl)] | rw [if_neg (by first | with_reducible assumption | ((with_reducible refine nI_lt ?_ ?_); omega; omega) | ((with_reducible refine nI_nlt ?_ ?_); omega; omega) | with_reducible exact ne10 | with_reducible rfl)])
                unfold mX7_at_J84
                repeat (first | rw [ck_t (by first | with_reducible assumption | ((with_reducible apply ixA_of); (with_reducible assumption); omega; omega) | ((with_reducible apply isAr_of); (with_reducible assumption); decide) | ((with_reducible apply nI_ne0); omega; omega) | with_reducible exact isB_0 | with_reducible exact isB_1 | with_reducible exact isB_bI _)] | rw [bd_r (by with_reducible assumption)] | rw [bd_s] | rw [bd2_s] | rw [bd3_s] | rw [nm_s] | rw [nI_clamp (by omega)] | rw [nI_1] | rw [if_neg (show ¬ (1 - 1 / 2 * 2 : Int32) = 0 by decide)] | rw [if_pos (by first | with_reducible assumption | ((with_reducible refine nI_lt ?_ ?_); omega; omega) | ((with_reducible refine nI_nlt ?_ ?_); omega; omega) | with_reducible exact ne10 | with_reducible rfl)] | rw [if_neg (by first | with_reducible assumption | ((with_reducible refine nI_lt ?_ ?_); omega; omega) | ((with_reducible refine nI_nlt ?_ ?_); omega; omega) | with_reducible exact ne10 | with_reducible rfl)])
              · unfold mX8_at
                repeat (first | rw [ck_t (by first | with_reducible assumption | ((with_reducible apply ixA_of); (with_reducible assumption); omega; omega) | ((with_reducible apply isAr_of); (with_reducible assumption); decide) | ((with_reducible apply nI_ne0); omega; omega) | with_reducible exact isB_0 | with_reducible exact isB_1 | with_reducible exact isB_bI _)] | rw [bd_r (by with_reducible assumption)] | rw [bd_s] | rw [bd2_s] | rw [bd3_s] | rw [nm_s] | rw [nI_clamp (by omega)] | rw [nI_1] | rw [bd_e (q2')] | rw [bd_e (y3')] | rw [bd_e (q3')] | rw [bd_e (d1)] | rw [if_pos (by first | with_reducible assumption | ((with_reducible refine nI_lt ?_ ?_); omega; omega) | ((with_reducible refine nI_nlt ?_ ?_); omega; omega) | with_reducible exact ne10 | with_reducible rfl)] | rw [if_neg (by first | with_reducible assumption | ((with_reducible refine nI_lt ?_ ?_); omega; omega) | ((with_reducible refine nI_nlt ?_ ?_); omega; omega) | with_reducible exact ne10 | with_reducible rfl)])
                congr 2
                rw [eq64, i64_int, va.2]; exact vb.2
          · have h2' : ¬ a2 ≤ 1 := by
              rw [lt32] at h2
              have h2 : ¬ a2.toInt < 2 := h2
              rw [le32]; show ¬ _ ≤ (1 : Int); omega
            obtain ⟨N1, b1, b2, b3, b4⟩ := take_ok (M := M) r1 ka (by omega) (by omega) (by omega) (by decide) pC.1
            have hq7 : psM (N1.2 (o + 2118 + 1)) 0 ps := by rw [b4]; exact hq6
            have q2' := isPieceM_t hm hq7 hp h40
            have q3' := size_ok hm hq7 hP h40
            have y3' := isIn_t (K := K) (R := R) (M := N1) (x := a2.toInt64) (a := 0) (b := 3) (by rw [i64_int]; exact hr.1) (by rw [i64_int]; exact hr.2)
            obtain ⟨a, ha⟩ := get_ex (l := P.1) (i := i) hi2
            have va := b2.2 i a ha
            have vb := (hq7.pc hP).2.1 i a ha
            have hk : Inv o K R N1 := hI0.kp (Kp.fr b3 (by omega))
            have h23 : a2 = 2 ∨ a2 = 3 := by
              rcases h with h | h | h | h
              · rw [h] at h2; exact absurd (by decide) h2
              · rw [h] at h2; exact absurd (by decide) h2
              · exact Or.inl h
              · exact Or.inr h
            rcases h23 with rfl | rfl
            · refine ⟨(N1.1 (o + 1986) i).toInt64, N1, N1, ?_, ?_, hk⟩
              · unfold mX7_at
                repeat (first | rw [ck_t (by first | with_reducible assumption | ((with_reducible apply ixA_of); (with_reducible assumption); omega; omega) | ((with_reducible apply isAr_of); (with_reducible assumption); decide) | ((with_reducible apply nI_ne0); omega; omega) | with_reducible exact isB_0 | with_reducible exact isB_1 | with_reducible exact isB_bI _)] | rw [bd_r (by with_reducible assumption)] | rw [bd_s] | rw [bd2_s] | rw [bd3_s] | rw [nm_s] | rw [nI_clamp (by omega)] | rw [nI_1] | rw [bd_e (q1)] | rw [bd_e (hnow M rfl)] | rw [eL] | rw [bd_e (b1)] | rw [if_pos (by first | with_reducible assumption | ((with_reducible refine nI_lt ?_ ?_); omega; omega) | ((with_reducible refine nI_nlt ?_ ?_); omega; omega) | with_reducible exact ne10 | with_reducible rfl)] | rw [if_neg (by first | with_reducible assumption | ((with_reducible refine nI_lt ?_ ?_); omega; omega) | ((with_reducible refine nI_nlt ?_ ?_); omega; omega) | with_reducible exact ne10 | with_reducible rfl)])
                unfold mX7_at_J84
                repeat (first | rw [ck_t (by first | with_reducible assumption | ((with_reducible apply ixA_of); (with_reducible assumption); omega; omega) | ((with_reducible apply isAr_of); (with_reducible assumption); decide) | ((with_reducible apply nI_ne0); omega; omega) | with_reducible exact isB_0 | with_reducible exact isB_1 | with_reducible exact isB_bI _)] | rw [bd_r (by with_reducible assumption)] | rw [bd_s] | rw [bd2_s] | rw [bd3_s] | rw [nm_s] | rw [nI_clamp (by omega)] | rw [nI_1] | rw [if_pos (show (2 - 2 / 2 * 2 : Int32) = 0 from rfl)] | rw [if_pos (by first | with_reducible assumption | ((with_reducible refine nI_lt ?_ ?_); omega; omega) | ((with_reducible refine nI_nlt ?_ ?_); omega; omega) | with_reducible exact ne10 | with_reducible rfl)] | rw [if_neg (by first | with_reducible assumption | ((with_reducible refine nI_lt ?_ ?_); omega; omega) | ((with_reducible refine nI_nlt ?_ ?_); omega; omega) | with_reducible exact ne10 | with_reducible rfl)])
              · unfold mX8_at
                repeat (first | rw [ck_t (by first | with_reducible assumption | ((with_reducible apply ixA_of); (with_reducible assumption); omega; omega) | ((with_reducible apply isAr_of); (with_reducible assumption); decide) | ((with_reducible apply nI_ne0); omega; omega) | with_reducible exact isB_0 | with_reducible exact isB_1 | with_reducible exact isB_bI _)] | rw [bd_r (by with_reducible assumption)] | rw [bd_s] | rw [bd2_s] | rw [bd3_s] | rw [nm_s] | rw [nI_clamp (by omega)] | rw [nI_1] | rw [bd_e (q2')] | rw [bd_e (y3')] | rw [bd_e (q3')] | rw [bd_e (get_ok (a1 := 2 - 1 + 2 * nI i) (p := p) (w := 1 + 2 * i) hm (show nI 1 + nI 2 * nI i = _ by rw [pk_mul, nI_add]) (by omega) (by omega))] | rw [if_pos (by first | with_reducible assumption | ((with_reducible refine nI_lt ?_ ?_); omega; omega) | ((with_reducible refine nI_nlt ?_ ?_); omega; omega) | with_reducible exact ne10 | with_reducible rfl)] | rw [if_neg (by first | with_reducible assumption | ((with_reducible refine nI_lt ?_ ?_); omega; omega) | ((with_reducible refine nI_nlt ?_ ?_); omega; omega) | with_reducible exact ne10 | with_reducible rfl)])
                congr 2
                rw [eq64, i64_int, va.1, ← Nat.add_assoc]; exact vb.1
            · refine ⟨(N1.1 (o + 1987) i).toInt64, N1, N1, ?_, ?_, hk⟩
              · unfold mX7_at
                repeat (first | rw [ck_t (by first | with_reducible assumption | ((with_reducible apply ixA_of); (with_reducible assumption); omega; omega) | ((with_reducible apply isAr_of); (with_reducible assumption); decide) | ((with_reducible apply nI_ne0); omega; omega) | with_reducible exact isB_0 | with_reducible exact isB_1 | with_reducible exact isB_bI _)] | rw [bd_r (by with_reducible assumption)] | rw [bd_s] | rw [bd2_s] | rw [bd3_s] | rw [nm_s] | rw [nI_clamp (by omega)] | rw [nI_1] | rw [bd_e (q1)] | rw [bd_e (hnow M rfl)] | rw [eL] | rw [bd_e (b1)] | rw [if_pos (by first | with_reducible assumption | ((with_reducible refine nI_lt ?_ ?_); omega; omega) | ((with_reducible refine nI_nlt ?_ ?_); omega; omega) | with_reducible exact ne10 | with_reducible rfl)] | rw [if_neg (by first | with_reducible assumption | ((with_reducible refine nI_lt ?_ ?_); omega; omega) | ((with_reducible refine nI_nlt ?_ ?_); omega; omega) | with_reducible exact ne10 | with_reducible rfl)])
                unfold mX7_at_J84
                repeat (first | rw [ck_t (by first | with_reducible assumption | ((with_reducible apply ixA_of); (with_reducible assumption); omega; omega) | ((with_reducible apply isAr_of); (with_reducible assumption); decide) | ((with_reducible apply nI_ne0); omega; omega) | with_reducible exact isB_0 | with_reducible exact isB_1 | with_reducible exact isB_bI _)] | rw [bd_r (by with_reducible assumption)] | rw [bd_s] | rw [bd2_s] | rw [bd3_s] | rw [nm_s] | rw [nI_clamp (by omega)] | rw [nI_1] | rw [if_neg (show ¬ (3 - 3 / 2 * 2 : Int32) = 0 by decide)] | rw [if_pos (by first | with_reducible assumption | ((with_reducible refine nI_lt ?_ ?_); omega; omega) | ((with_reducible refine nI_nlt ?_ ?_); omega; omega) | with_reducible exact ne10 | with_reducible rfl)] | rw [if_neg (by first | with_reducible assumption | ((with_reducible refine nI_lt ?_ ?_); omega; omega) | ((with_reducible refine nI_nlt ?_ ?_); omega; omega) | with_reducible exact ne10 | with_reducible rfl)])
              · unfold mX8_at
                repeat (first | rw [ck_t (by first | with_reducible assumption | ((with_reducible apply ixA_of); (with_reducible assumption); omega; omega) | ((with_reducible apply isAr_of); (with_reducible assumption); decide) | ((with_reducible apply nI_ne0); omega; omega) | with_reducible exact isB_0 | with_reducible exact isB_1 | with_reducible exact isB_bI _)] | rw [bd_r (by with_reducible assumption)] | rw [bd_s] | rw [bd2_s] | rw [bd3_s] | rw [nm_s] | rw [nI_clamp (by omega)] | rw [nI_1] | rw [bd_e (q2')] | rw [bd_e (y3')] | rw [bd_e (q3')] | rw [bd_e (get_ok (a1 := 3 - 1 + 2 * nI i) (p := p) (w := 2 + 2 * i) hm (show nI 2 + nI 2 * nI i = _ by rw [pk_mul, nI_add]) (by omega) (by omega))] | rw [if_pos (by first | with_reducible assumption | ((with_reducible refine nI_lt ?_ ?_); omega; omega) | ((with_reducible refine nI_nlt ?_ ?_); omega; omega) | with_reducible exact ne10 | with_reducible rfl)] | rw [if_neg (by first | with_reducible assumption | ((with_reducible refine nI_lt ?_ ?_); omega; omega) | ((with_reducible refine nI_nlt ?_ ?_); omega; omega) | with_reducible exact ne10 | with_reducible rfl)])
                congr 2
                rw [eq64, i64_int, va.2, ← Nat.add_assoc]; exact vb.2
        · refine ⟨-9000000000000000005, M, M, ?_, ?_, hI0⟩
          · unfold mX7_at
            repeat (first | rw [ck_t (by first | with_reducible assumption | ((with_reducible apply ixA_of); (with_reducible assumption); omega; omega) | ((with_reducible apply isAr_of); (with_reducible assumption); decide) | ((with_reducible apply nI_ne0); omega; omega) | with_reducible exact isB_0 | with_reducible exact isB_1 | with_reducible exact isB_bI _)] | rw [bd_r (by with_reducible assumption)] | rw [bd_s] | rw [bd2_s] | rw [bd3_s] | rw [nm_s] | rw [nI_clamp (by omega)] | rw [nI_1] | rw [bd_e (q1)] | rw [bd_e (hnow M rfl)] | rw [eL] | rw [if_pos (by first | with_reducible assumption | ((with_reducible refine nI_lt ?_ ?_); omega; omega) | ((with_reducible refine nI_nlt ?_ ?_); omega; omega) | with_reducible exact ne10 | with_reducible rfl)] | rw [if_neg (by first | with_reducible assumption | ((with_reducible refine nI_lt ?_ ?_); omega; omega) | ((with_reducible refine nI_nlt ?_ ?_); omega; omega) | with_reducible exact ne10 | with_reducible rfl)])
          · unfold mX8_at
            repeat (first | rw [ck_t (by first | with_reducible assumption | ((with_reducible apply ixA_of); (with_reducible assumption); omega; omega) | ((with_reducible apply isAr_of); (with_reducible assumption); decide) | ((with_reducible apply nI_ne0); omega; omega) | with_reducible exact isB_0 | with_reducible exact isB_1 | with_reducible exact isB_bI _)] | rw [bd_r (by with_reducible assumption)] | rw [bd_s] | rw [bd2_s] | rw [bd3_s] | rw [nm_s] | rw [nI_clamp (by omega)] | rw [nI_1] | rw [bd_e (q2)] | rw [bd_e (y3)] | rw [bd_e (q3)] | rw [if_pos (by first | with_reducible assumption | ((with_reducible refine nI_lt ?_ ?_); omega; omega) | ((with_reducible refine nI_nlt ?_ ?_); omega; omega) | with_reducible exact ne10 | with_reducible rfl)] | rw [if_neg (by first | with_reducible assumption | ((with_reducible refine nI_lt ?_ ?_); omega; omega) | ((with_reducible refine nI_nlt ?_ ?_); omega; omega) | with_reducible exact ne10 | with_reducible rfl)])
