/-! third, the class: what two pieces share is gathered -/
def srtd (S T : List Pt) : Prop := T.Pairwise ltP ∧ (∀ p, p ∈ T ↔ p ∈ S) ∧ T.length ≤ S.length
section TD
variable {K : Kk} {R : Rr} {M : Mm} {q : Nat}
theorem srtd_in {S T : List Pt} {x y : Int32} {p : Pt} (hc : cmA K R q) (h : rgC M (q + 4) T) (hs : srtd S T) (hn : S.length < 66) (hx : x.toInt = p.1) (hy : y.toInt = p.2) : ∃ M' T', mX0_sortIn K R M q x y = some M' ∧ rgC M' (q + 4) T' ∧ srtd (S ++ [p]) T' ∧ Fr (q + 4) (q + 7) M M' ∧ M'.2 = M.2 := by
  obtain ⟨M', T', e1, e2, e3, e4, e5, e6, e7⟩ := sortIn_ok hc h hs.1 (by have := hs.2.2; omega) hx hy
  refine ⟨M', T', e1, e2, ⟨e3, fun z => ?_, ?_⟩, e6, e7⟩
  · rw [e4, hs.2.1, List.mem_append, List.mem_singleton]
    exact ⟨fun h => h.elim Or.inr Or.inl, fun h => h.elim Or.inr Or.inl⟩
  · have := hs.2.2
    rw [List.length_append, List.length_singleton]; omega
theorem held_ok {a b na nb : Nat} {A B S T : List Pt} (hc : cmA K R q) (hA : rgA K R a na) (hB : rgA K R b nb) (da : q + 8 ≤ a ∨ a + 3 ≤ q) (db : q + 8 ≤ b ∨ b + 3 ≤ q) (hAl : rgC M a A) (hBl : rgC M b B) (la : A.length ≤ na) (lb : B.length ≤ nb) (na2 : na < 2 ^ 20) (nb2 : nb < 2 ^ 20) (bA : inBs A) (bB : inBs B) (h : rgC M (q + 4) T) (hs : srtd S T) (hn : S.length + A.length ≤ 66) : ∃ M' T', mX0_sortInHeld K R M q a b = some M' ∧ rgC M' (q + 4) T' ∧ srtd (S ++ hlL A B A.length) T' ∧ Fr (q + 4) (q + 7) M M' ∧ M'.2 = M.2 := by
  have c0 := hc.1
  have a0 := hA.1
  have b0 := hB.1
  have a1 := hA.2.1
  have a2 := hA.2.2.1
  have a3 := hA.2.2.2.1
  have a4 := hA.2.2.2.2
  have hL := lp_ind (f := mX0_sortInHeld_L2 K R q a b) (fun (i : Nat) (s : Int32 × Mm) => s.1 = nI i ∧ Fr (q + 4) (q + 7) M s.2 ∧ s.2.2 = M.2 ∧ ∃ T', rgC s.2 (q + 4) T' ∧ srtd (S ++ hlL A B i) T') (fun M' => ∃ T', rgC M' (q + 4) T' ∧ srtd (S ++ hlL A B A.length) T' ∧ Fr (q + 4) (q + 7) M M' ∧ M'.2 = M.2) A.length ?_ ?_
  · obtain ⟨M', e1, T', e2⟩ := hL A.length 0 (nI 0, M) (by omega) ⟨rfl, Fr.rf, rfl, T, h, by show srtd (S ++ []) T; rw [List.append_nil]; exact hs⟩
    refine ⟨M', T', ?_, e2⟩
    unfold mX0_sortInHeld
    (repeat (first | rw [ck_t (by first | with_reducible assumption | ((with_reducible apply ixA_of); (with_reducible assumption); omega; omega) | ((with_reducible apply isAr_of); (with_reducible assumption); decide) | ((with_reducible apply nI_ne0); omega; omega) | with_reducible exact isB_0 | with_reducible exact isB_1 | with_reducible exact isB_bI _)] | rw [bd_r (by with_reducible assumption)] | rw [bd_s] | rw [bd2_s] | rw [bd3_s] | rw [nm_s] | rw [nI_clamp (by omega)] | rw [nI_1] | rw [if_pos (by first | with_reducible assumption | ((with_reducible refine nI_lt ?_ ?_); omega; omega) | ((with_reducible refine nI_nlt ?_ ?_); omega; omega) | with_reducible exact ne10 | with_reducible rfl)] | rw [if_neg (by first | with_reducible assumption | ((with_reducible refine nI_lt ?_ ?_); omega; omega) | ((with_reducible refine nI_nlt ?_ ?_); omega; omega) | with_reducible exact ne10 | with_reducible rfl)]))
    exact e1
  · rintro i ⟨z, N⟩ hi ⟨rfl, f1, f2, T', f3, f4⟩
    have f1 : Fr (q + 4) (q + 7) M N := f1
    have f2 : N.2 = M.2 := f2
    have hN := hAl.fr f1 (by omega)
    have hN2 := hBl.fr f1 (by omega)
    have e := hN.1
    have gi := gp_get hi
    obtain ⟨u1, u2⟩ := hN.2 _ _ gi
    have pe : gp A i = ((N.1 (a + 1) i).toInt, (N.1 (a + 2) i).toInt) := Prod.ext u1.symm u2.symm
    have Bi := bA _ _ gi
    obtain ⟨v, v1, v2⟩ := holds_ok (M := N) hB hN2 lb nb2 bB (pe ▸ Bi)
    rw [← pe] at v2
    have nx : ∀ N, mX0_sortInHeld_J45 K R N q a b (nI i) = some (.inl (nI (i + 1), N)) := fun N => by unfold mX0_sortInHeld_J45; (repeat (first | rw [ck_t (by first | with_reducible assumption | ((with_reducible apply ixA_of); (with_reducible assumption); omega; omega) | ((with_reducible apply isAr_of); (with_reducible assumption); decide) | ((with_reducible apply nI_ne0); omega; omega) | with_reducible exact isB_0 | with_reducible exact isB_1 | with_reducible exact isB_bI _)] | rw [bd_r (by with_reducible assumption)] | rw [bd_s] | rw [bd2_s] | rw [bd3_s] | rw [nm_s] | rw [nI_clamp (by omega)] | rw [nI_1] | rw [if_pos (by first | with_reducible assumption | ((with_reducible refine nI_lt ?_ ?_); omega; omega) | ((with_reducible refine nI_nlt ?_ ?_); omega; omega) | with_reducible exact ne10 | with_reducible rfl)] | rw [if_neg (by first | with_reducible assumption | ((with_reducible refine nI_lt ?_ ?_); omega; omega) | ((with_reducible refine nI_nlt ?_ ?_); omega; omega) | with_reducible exact ne10 | with_reducible rfl)]))
    left
    rcases v2 with ⟨rfl, v2⟩ | ⟨rfl, v2⟩
    · have hl := hlL_len (A := A) (B := B) i
      obtain ⟨N2, T2, d1, d2, d3, d4, d5⟩ := srtd_in hc f3 f4 (by rw [List.length_append]; omega) u1 u2
      refine ⟨(nI (i + 1), N2), ?_, rfl, f1.tr d4, d5.trans f2, T2, d2, ?_⟩
      · show mX0_sortInHeld_B2 K R q a b (nI i) N = _
        unfold mX0_sortInHeld_B2
        (repeat (first | rw [ck_t (by first | with_reducible assumption | ((with_reducible apply ixA_of); (with_reducible assumption); omega; omega) | ((with_reducible apply isAr_of); (with_reducible assumption); decide) | ((with_reducible apply nI_ne0); omega; omega) | with_reducible exact isB_0 | with_reducible exact isB_1 | with_reducible exact isB_bI _)] | rw [bd_r (by with_reducible assumption)] | rw [bd_s] | rw [bd2_s] | rw [bd3_s] | rw [nm_s] | rw [nI_clamp (by omega)] | rw [nI_1] | rw [e] | rw [bd_e (v1)] | rw [if_neg (ne10)] | rw [bd_e (d1)] | rw [nx N2] | rw [if_pos (by first | with_reducible assumption | ((with_reducible refine nI_lt ?_ ?_); omega; omega) | ((with_reducible refine nI_nlt ?_ ?_); omega; omega) | with_reducible exact ne10 | with_reducible rfl)] | rw [if_neg (by first | with_reducible assumption | ((with_reducible refine nI_lt ?_ ?_); omega; omega) | ((with_reducible refine nI_nlt ?_ ?_); omega; omega) | with_reducible exact ne10 | with_reducible rfl)]))
      · show srtd (S ++ (hlL A B i ++ ap1 (inP B (gp A i)) (gp A i))) T2
        rw [ap1_t v2, ← List.append_assoc]
        exact d3
    · refine ⟨(nI (i + 1), N), ?_, rfl, f1, f2, T', f3, ?_⟩
      · show mX0_sortInHeld_B2 K R q a b (nI i) N = _
        unfold mX0_sortInHeld_B2
        (repeat (first | rw [ck_t (by first | with_reducible assumption | ((with_reducible apply ixA_of); (with_reducible assumption); omega; omega) | ((with_reducible apply isAr_of); (with_reducible assumption); decide) | ((with_reducible apply nI_ne0); omega; omega) | with_reducible exact isB_0 | with_reducible exact isB_1 | with_reducible exact isB_bI _)] | rw [bd_r (by with_reducible assumption)] | rw [bd_s] | rw [bd2_s] | rw [bd3_s] | rw [nm_s] | rw [nI_clamp (by omega)] | rw [nI_1] | rw [e] | rw [bd_e (v1)] | rw [nx N] | rw [if_pos (by first | with_reducible assumption | ((with_reducible refine nI_lt ?_ ?_); omega; omega) | ((with_reducible refine nI_nlt ?_ ?_); omega; omega) | with_reducible exact ne10 | with_reducible rfl)] | rw [if_neg (by first | with_reducible assumption | ((with_reducible refine nI_lt ?_ ?_); omega; omega) | ((with_reducible refine nI_nlt ?_ ?_); omega; omega) | with_reducible exact ne10 | with_reducible rfl)]))
      · show srtd (S ++ (hlL A B i ++ ap1 (inP B (gp A i)) (gp A i))) T'
        rw [ap1_f v2, List.append_nil]
        exact f4
  · rintro ⟨z, N⟩ ⟨rfl, f1, f2, T', f3, f4⟩
    have f1 : Fr (q + 4) (q + 7) M N := f1
    have e := (hAl.fr f1 (by omega)).1
    refine ⟨N, ?_, T', f3, f4, f1, f2⟩
    show mX0_sortInHeld_B2 K R q a b (nI A.length) N = _
    unfold mX0_sortInHeld_B2
    (repeat (first | rw [ck_t (by first | with_reducible assumption | ((with_reducible apply ixA_of); (with_reducible assumption); omega; omega) | ((with_reducible apply isAr_of); (with_reducible assumption); decide) | ((with_reducible apply nI_ne0); omega; omega) | with_reducible exact isB_0 | with_reducible exact isB_1 | with_reducible exact isB_bI _)] | rw [bd_r (by with_reducible assumption)] | rw [bd_s] | rw [bd2_s] | rw [bd3_s] | rw [nm_s] | rw [nI_clamp (by omega)] | rw [nI_1] | rw [e] | rw [if_pos (by first | with_reducible assumption | ((with_reducible refine nI_lt ?_ ?_); omega; omega) | ((with_reducible refine nI_nlt ?_ ?_); omega; omega) | with_reducible exact ne10 | with_reducible rfl)] | rw [if_neg (by first | with_reducible assumption | ((with_reducible refine nI_lt ?_ ?_); omega; omega) | ((with_reducible refine nI_nlt ?_ ?_); omega; omega) | with_reducible exact ne10 | with_reducible rfl)]))
    rfl
theorem parted_ok {a b na nb i j k l : Nat} {A B : List Pt} (hA : rgA K R a na) (hB : rgA K R b nb) (hAl : rgC M a A) (hBl : rgC M b B) (la : A.length ≤ na) (lb : B.length ≤ nb) (na2 : na < 2 ^ 20) (nb2 : nb < 2 ^ 20) (bA : inBs A) (bB : inBs B) (hi : i < A.length) (hj : j < A.length) (hk : k < B.length) (hl : l < B.length) : ∃ v, mX0_isParted K R M a (nI i) (nI j) b (nI k) (nI l) = some v ∧ iv v (opp (crs (gp B k) (gp B l) (gp A i)) (crs (gp B k) (gp B l) (gp A j))) := by
  have b0 := hB.1
  obtain ⟨a0, a1, a2, a3, a4⟩ := hA
  obtain ⟨u1, u2⟩ := hAl.2 _ _ (gp_get hi)
  obtain ⟨w1, w2⟩ := hAl.2 _ _ (gp_get hj)
  have pi : gp A i = ((M.1 (a + 1) i).toInt, (M.1 (a + 2) i).toInt) := Prod.ext u1.symm u2.symm
  have pj : gp A j = ((M.1 (a + 1) j).toInt, (M.1 (a + 2) j).toInt) := Prod.ext w1.symm w2.symm
  obtain ⟨u, x1, x2⟩ := sideAt_ok hB hBl lb nb2 bB (gp_get hk) (gp_get hl) (pi ▸ bA _ _ (gp_get hi))
  obtain ⟨v, y1, y2⟩ := sideAt_ok hB hBl lb nb2 bB (gp_get hk) (gp_get hl) (pj ▸ bA _ _ (gp_get hj))
  rw [← pi] at x2
  rw [← pj] at y2
  have z0 : (0 : Int64).toInt = 0 := rfl
  have J72 : mX0_isParted_J72 K R M = some 1 := by unfold mX0_isParted_J72; rfl
  have J58 : ¬ (0 < u.toInt ∧ v.toInt < 0) → ∃ w, mX0_isParted_J58 K R M u v = some w ∧ iv w (opp u.toInt v.toInt) := fun hn => by
    unfold mX0_isParted_J58 opp
    by_cases c1 : u < 0
    · by_cases c2 : v ≤ 0
      · exact ⟨0, by rw [if_pos c1, if_pos c2], Or.inr ⟨rfl, fun h => by rw [le64, z0] at c2; omega⟩⟩
      · refine ⟨1, by rw [if_pos c1, if_neg c2]; exact J72, Or.inl ⟨rfl, Or.inr ?_⟩⟩
        rw [lt64, z0] at c1
        rw [le64, z0] at c2
        omega
    · refine ⟨0, by rw [if_neg c1], Or.inr ⟨rfl, fun h => ?_⟩⟩
      rw [lt64, z0] at c1
      omega
  have J : ∃ w, (if u ≤ 0 then mX0_isParted_J58 K R M u v else if v < 0 then mX0_isParted_J72 K R M else mX0_isParted_J58 K R M u v) = some w ∧ iv w (opp u.toInt v.toInt) := by
    by_cases c1 : u ≤ 0
    · rw [if_pos c1]
      exact J58 (fun h => by rw [le64, z0] at c1; omega)
    · rw [if_neg c1]
      by_cases c2 : v < 0
      · rw [if_pos c2]
        refine ⟨1, J72, Or.inl ⟨rfl, Or.inl ?_⟩⟩
        rw [le64, z0] at c1
        rw [lt64, z0] at c2
        omega
      · rw [if_neg c2]
        exact J58 (fun h => by rw [lt64, z0] at c2; omega)
  obtain ⟨w, z1, z2⟩ := J
  rw [x2, y2] at z2
  refine ⟨w, ?_, z2⟩
  unfold mX0_isParted
  (repeat (first | rw [ck_t (by first | with_reducible assumption | ((with_reducible apply ixA_of); (with_reducible assumption); omega; omega) | ((with_reducible apply isAr_of); (with_reducible assumption); decide) | ((with_reducible apply nI_ne0); omega; omega) | with_reducible exact isB_0 | with_reducible exact isB_1 | with_reducible exact isB_bI _)] | rw [bd_r (by with_reducible assumption)] | rw [bd_s] | rw [bd2_s] | rw [bd3_s] | rw [nm_s] | rw [nI_clamp (by omega)] | rw [nI_1] | rw [bd_e (x1)] | rw [bd_e (y1)] | rw [if_pos (by first | with_reducible assumption | ((with_reducible refine nI_lt ?_ ?_); omega; omega) | ((with_reducible refine nI_nlt ?_ ?_); omega; omega) | with_reducible exact ne10 | with_reducible rfl)] | rw [if_neg (by first | with_reducible assumption | ((with_reducible refine nI_lt ?_ ?_); omega; omega) | ((with_reducible refine nI_nlt ?_ ?_); omega; omega) | with_reducible exact ne10 | with_reducible rfl)]))
  exact z1
abbrev xdone (A B : List Pt) (i k : Nat) : Prop := ∀ i' k', i' < A.length → k' < B.length → (i' < i ∨ (i' = i ∧ k' < k)) → xc A B i' k' → xwh A B i' k'
theorem cross_ok {a b na nb : Nat} {A B S T : List Pt} (hc : cmA K R q) (hA : rgA K R a na) (hB : rgA K R b nb) (da : q + 8 ≤ a ∨ a + 3 ≤ q) (db : q + 8 ≤ b ∨ b + 3 ≤ q) (hAl : rgC M a A) (hBl : rgC M b B) (la : A.length ≤ na) (lb : B.length ≤ nb) (na2 : na < 2 ^ 20) (nb2 : nb < 2 ^ 20) (bA : inBs A) (bB : inBs B) (cB : Cv B) (h : rgC M (q + 4) T) (hs : srtd S T) (hn : S.length ≤ 32) (h16 : A.length ≤ 16) : ∃ v M', mX0_sortInCrossings K R M q a b = some (v, M') ∧ Fr (q + 4) (q + 8) M M' ∧ M'.2 = M.2 ∧ ((v = 1 ∧ allX A B ∧ ∃ T', rgC M' (q + 4) T' ∧ srtd (S ++ xaL A B A.length) T') ∨ (v = 0 ∧ ¬ allX A B)) := by
  have c0 := hc.1
  have r2 := hc.2.2.2.2.2.1
  have r3 := hc.2.2.2.2.2.2
  have a0 := hA.1
  have b0 := hB.1
  have a1 := hA.2.1
  have a2 := hA.2.2.1
  have a3 := hA.2.2.2.1
  have a4 := hA.2.2.2.2
  have b1 := hB.2.1
  have b2 := hB.2.2.1
  have b3 := hB.2.2.2.1
  have b4 := hB.2.2.2.2
  have hL := lp_ind (f := mX0_sortInCrossings_L2 K R q a b) (fun (i : Nat) (s : Int32 × Mm) => s.1 = nI i ∧ Fr (q + 4) (q + 8) M s.2 ∧ s.2.2 = M.2 ∧ xdone A B i 0 ∧ ∃ T', rgC s.2 (q + 4) T' ∧ srtd (S ++ xaL A B i) T') (fun r => Fr (q + 4) (q + 8) M r.2 ∧ r.2.2 = M.2 ∧ ((r.1 = 1 ∧ allX A B ∧ ∃ T', rgC r.2 (q + 4) T' ∧ srtd (S ++ xaL A B A.length) T') ∨ (r.1 = 0 ∧ ¬ allX A B))) A.length ?_ ?_
  · obtain ⟨⟨v, M'⟩, e1, e2⟩ := hL A.length 0 (nI 0, M) (by omega) ⟨rfl, Fr.rf, rfl, fun i' k' _ _ h => absurd h (by omega), T, h, by show srtd (S ++ []) T; rw [List.append_nil]; exact hs⟩
    refine ⟨v, M', ?_, e2⟩
    unfold mX0_sortInCrossings
    (repeat (first | rw [ck_t (by first | with_reducible assumption | ((with_reducible apply ixA_of); (with_reducible assumption); omega; omega) | ((with_reducible apply isAr_of); (with_reducible assumption); decide) | ((with_reducible apply nI_ne0); omega; omega) | with_reducible exact isB_0 | with_reducible exact isB_1 | with_reducible exact isB_bI _)] | rw [bd_r (by with_reducible assumption)] | rw [bd_s] | rw [bd2_s] | rw [bd3_s] | rw [nm_s] | rw [nI_clamp (by omega)] | rw [nI_1] | rw [if_pos (by first | with_reducible assumption | ((with_reducible refine nI_lt ?_ ?_); omega; omega) | ((with_reducible refine nI_nlt ?_ ?_); omega; omega) | with_reducible exact ne10 | with_reducible rfl)] | rw [if_neg (by first | with_reducible assumption | ((with_reducible refine nI_lt ?_ ?_); omega; omega) | ((with_reducible refine nI_nlt ?_ ?_); omega; omega) | with_reducible exact ne10 | with_reducible rfl)]))
    exact e1
  · rintro i ⟨z, N⟩ hi ⟨rfl, f1, f2, f5, T', f3, f4⟩
    have f1 : Fr (q + 4) (q + 8) M N := f1
    have f2 : N.2 = M.2 := f2
    have hN := hAl.fr f1 (by omega)
    have e := hN.1
    have hj := mod_lt' hi
    have gi := gp_get hi
    have gj := gp_get hj
    have vi : vx A i = gp A i := vx_lt hi
    have vj : vx A (i + 1) = gp A ((i + 1) % A.length) := rfl
    have w := wrap_ok (i := i + 1) hA hN (by omega) (by omega)
    obtain ⟨u1, u2⟩ := hN.2 _ _ gi
    obtain ⟨u3, u4⟩ := hN.2 _ _ gj
    have Bi := bA _ _ gi
    have Bj := bA _ _ gj
    have bi := Bi
    have bj := Bj
    unfold inB at bi bj
    obtain ⟨N1, s1, s2, s3, s4⟩ := lset_ok (K := K) (R := R) (M := N) (a := q + 7) (A := gp A i) (B := gp A ((i + 1) % A.length)) (x := N.1 (a + 1) i) (y := N.1 (a + 2) i) (z := N.1 (a + 1) ((i + 1) % A.length) - N.1 (a + 1) i) (w := N.1 (a + 2) ((i + 1) % A.length) - N.1 (a + 2) i) r3 u1 u2 (by rw [sub32 (by rw [u1, u3]; omega) (by rw [u1, u3]; omega), u1, u3]) (by rw [sub32 (by rw [u2, u4]; omega) (by rw [u2, u4]; omega), u2, u4])
    have lB : lnB (gp A i) (gp A ((i + 1) % A.length)) := lnB_of Bi Bj
    have x3i : ixA K (a + 1) 0 (nI i) := ixA_of a3 (by omega) (by omega)
    have x4i : ixA K (a + 2) 0 (nI i) := ixA_of a4 (by omega) (by omega)
    have x3j : ixA K (a + 1) 0 (nI ((i + 1) % A.length)) := ixA_of a3 (by omega) (by omega)
    have x4j : ixA K (a + 2) 0 (nI ((i + 1) % A.length)) := ixA_of a4 (by omega) (by omega)
    have hI := lp_ind (f := mX0_sortInCrossings_L69 K R q a b (nI i) (nI ((i + 1) % A.length))) (fun (k : Nat) (s : Int32 × Mm) => s.1 = nI k ∧ Fr (q + 4) (q + 8) M s.2 ∧ s.2.2 = M.2 ∧ lnC s.2 (q + 7) (gp A i) (gp A ((i + 1) % A.length)) ∧ xdone A B i k ∧ ∃ T', rgC s.2 (q + 4) T' ∧ srtd (S ++ xaL A B i ++ xrL A B i k) T') (fun r => (∃ N, r = .inl (nI (i + 1), N) ∧ Fr (q + 4) (q + 8) M N ∧ N.2 = M.2 ∧ xdone A B (i + 1) 0 ∧ ∃ T', rgC N (q + 4) T' ∧ srtd (S ++ xaL A B (i + 1)) T') ∨ ∃ N, r = .inr (0, N) ∧ ¬ allX A B ∧ Fr (q + 4) (q + 8) M N ∧ N.2 = M.2) B.length ?_ ?_
    · obtain ⟨r, e1, e2⟩ := hI B.length 0 (nI 0, N1) (by omega) ⟨rfl, f1.tr (s3.mono (by omega) (by omega)), s4.trans f2, s2, f5, T', f3.fr s3 (by omega), by show srtd (S ++ xaL A B i ++ []) T'; rw [List.append_nil]; exact f4⟩
      have J : mX0_sortInCrossings_B2 K R q a b (nI i) N = some r := by
        unfold mX0_sortInCrossings_B2
        (repeat (first | rw [ck_t (by first | with_reducible assumption | ((with_reducible apply ixA_of); (with_reducible assumption); omega; omega) | ((with_reducible apply isAr_of); (with_reducible assumption); decide) | ((with_reducible apply nI_ne0); omega; omega) | with_reducible exact isB_0 | with_reducible exact isB_1 | with_reducible exact isB_bI _)] | rw [bd_r (by with_reducible assumption)] | rw [bd_s] | rw [bd2_s] | rw [bd3_s] | rw [nm_s] | rw [nI_clamp (by omega)] | rw [nI_1] | rw [e] | rw [bd_e (w)] | rw [bd_e (s1)] | rw [if_pos (by first | with_reducible assumption | ((with_reducible refine nI_lt ?_ ?_); omega; omega) | ((with_reducible refine nI_nlt ?_ ?_); omega; omega) | with_reducible exact ne10 | with_reducible rfl)] | rw [if_neg (by first | with_reducible assumption | ((with_reducible refine nI_lt ?_ ?_); omega; omega) | ((with_reducible refine nI_nlt ?_ ?_); omega; omega) | with_reducible exact ne10 | with_reducible rfl)]))
        exact e1
      show (∃ s', mX0_sortInCrossings_B2 K R q a b (nI i) N = some (.inl s') ∧ _) ∨ ∃ r, mX0_sortInCrossings_B2 K R q a b (nI i) N = some (.inr r) ∧ _
      rw [J]
      rcases e2 with ⟨N', rfl, g1, g2, g3, g4⟩ | ⟨N', rfl, g1, g2, g3⟩
      · exact Or.inl ⟨_, rfl, rfl, g1, g2, g3, g4⟩
      · exact Or.inr ⟨_, rfl, g2, g3, Or.inr ⟨rfl, g1⟩⟩
    · rintro k ⟨z, N⟩ hk ⟨rfl, f1, f2, fl, f5, T', f3, f4⟩
      have f1 : Fr (q + 4) (q + 8) M N := f1
      have f2 : N.2 = M.2 := f2
      have fl : lnC N (q + 7) (gp A i) (gp A ((i + 1) % A.length)) := fl
      have hNA := hAl.fr f1 (by omega)
      have hNB := hBl.fr f1 (by omega)
      have e := hNB.1
      have hl := mod_lt' hk
      have gk := gp_get hk
      have gl := gp_get hl
      have vk : vx B k = gp B k := vx_lt hk
      have vl : vx B (k + 1) = gp B ((k + 1) % B.length) := rfl
      have w := wrap_ok (i := k + 1) hB hNB (by omega) (by omega)
      obtain ⟨t1, t2⟩ := hNB.2 _ _ gk
      obtain ⟨t3, t4⟩ := hNB.2 _ _ gl
      have pk : gp B k = ((N.1 (b + 1) k).toInt, (N.1 (b + 2) k).toInt) := Prod.ext t1.symm t2.symm
      have pl : gp B ((k + 1) % B.length) = ((N.1 (b + 1) ((k + 1) % B.length)).toInt, (N.1 (b + 2) ((k + 1) % B.length)).toInt) := Prod.ext t3.symm t4.symm
      have Bk := bB _ _ gk
      have Bl := bB _ _ gl
      obtain ⟨u, m1, m2⟩ := between_ok (R := R) r3 fl lB Bk Bl pk pl
      obtain ⟨v, n1, n2⟩ := parted_ok (M := N) hA hB hNA hNB la lb na2 nb2 bA bB hi hj hk hl
      have y3k : ixA K (b + 1) 0 (nI k) := ixA_of b3 (by omega) (by omega)
      have y4k : ixA K (b + 2) 0 (nI k) := ixA_of b4 (by omega) (by omega)
      have y3l : ixA K (b + 1) 0 (nI ((k + 1) % B.length)) := ixA_of b3 (by omega) (by omega)
      have y4l : ixA K (b + 2) 0 (nI ((k + 1) % B.length)) := ixA_of b4 (by omega) (by omega)
      have nx : ∀ N, mX0_sortInCrossings_J199 K R N q a b (nI i) (nI ((i + 1) % A.length)) (nI k) = some (.inl (nI (k + 1), N)) := fun N => by unfold mX0_sortInCrossings_J199; (repeat (first | rw [ck_t (by first | with_reducible assumption | ((with_reducible apply ixA_of); (with_reducible assumption); omega; omega) | ((with_reducible apply isAr_of); (with_reducible assumption); decide) | ((with_reducible apply nI_ne0); omega; omega) | with_reducible exact isB_0 | with_reducible exact isB_1 | with_reducible exact isB_bI _)] | rw [bd_r (by with_reducible assumption)] | rw [bd_s] | rw [bd2_s] | rw [bd3_s] | rw [nm_s] | rw [nI_clamp (by omega)] | rw [nI_1] | rw [if_pos (by first | with_reducible assumption | ((with_reducible refine nI_lt ?_ ?_); omega; omega) | ((with_reducible refine nI_nlt ?_ ?_); omega; omega) | with_reducible exact ne10 | with_reducible rfl)] | rw [if_neg (by first | with_reducible assumption | ((with_reducible refine nI_lt ?_ ?_); omega; omega) | ((with_reducible refine nI_nlt ?_ ?_); omega; omega) | with_reducible exact ne10 | with_reducible rfl)]))
      have exc : xc A B i k ↔ opp (crs (gp A i) (gp A ((i + 1) % A.length)) (gp B k)) (crs (gp A i) (gp A ((i + 1) % A.length)) (gp B ((k + 1) % B.length))) ∧ opp (crs (gp B k) (gp B ((k + 1) % B.length)) (gp A i)) (crs (gp B k) (gp B ((k + 1) % B.length)) (gp A ((i + 1) % A.length))) := by unfold xc; rw [vi, vj, vk, vl]
      have step : (xc A B i k → xwh A B i k) → xdone A B i (k + 1) := fun hw i' k' h1 h2 h3 h4 => by
        by_cases c : i' = i ∧ k' = k
        · rw [c.1, c.2] at h4 ⊢; exact hw h4
        · exact f5 i' k' h1 h2 (by omega) h4
      have skip : ¬ xc A B i k → srtd (S ++ xaL A B i ++ xrL A B i (k + 1)) T' := fun hn => by
        show srtd (S ++ xaL A B i ++ (xrL A B i k ++ ap1 (xc A B i k) (xpt A B i k))) T'
        rw [ap1_f hn, List.append_nil]; exact f4
      show (∃ s', mX0_sortInCrossings_B69 K R q a b (nI i) (nI ((i + 1) % A.length)) (nI k) N = some (.inl s') ∧ _) ∨ ∃ r, mX0_sortInCrossings_B69 K R q a b (nI i) (nI ((i + 1) % A.length)) (nI k) N = some (.inr r) ∧ _
      unfold mX0_sortInCrossings_B69
      rcases m2 with ⟨rfl, m2⟩ | ⟨rfl, m2⟩
      · rcases n2 with ⟨rfl, n2⟩ | ⟨rfl, n2⟩
        · have hx : xc A B i k := exc.mpr ⟨m2, n2⟩
          (repeat (first | rw [ck_t (by first | with_reducible assumption | ((with_reducible apply ixA_of); (with_reducible assumption); omega; omega) | ((with_reducible apply isAr_of); (with_reducible assumption); decide) | ((with_reducible apply nI_ne0); omega; omega) | with_reducible exact isB_0 | with_reducible exact isB_1 | with_reducible exact isB_bI _)] | rw [bd_r (by with_reducible assumption)] | rw [bd_s] | rw [bd2_s] | rw [bd3_s] | rw [nm_s] | rw [nI_clamp (by omega)] | rw [nI_1] | rw [e] | rw [bd_e (w)] | rw [bd_e (m1)] | rw [if_neg (ne10)] | rw [bd_e (n1)] | rw [if_pos (by first | with_reducible assumption | ((with_reducible refine nI_lt ?_ ?_); omega; omega) | ((with_reducible refine nI_nlt ?_ ?_); omega; omega) | with_reducible exact ne10 | with_reducible rfl)] | rw [if_neg (by first | with_reducible assumption | ((with_reducible refine nI_lt ?_ ?_); omega; omega) | ((with_reducible refine nI_nlt ?_ ?_); omega; omega) | with_reducible exact ne10 | with_reducible rfl)]))
          rcases meet_ok (R := R) r3 fl lB Bk Bl pk pl m2 with ⟨wh, N2, d1, d2, d3, d4, d5⟩ | ⟨wh, d1⟩
          · left
            have lx1 := xaL_len (A := A) cB i
            have lx2 := xrL_le2 (A := A) (i := i) cB (Nat.le_of_lt hk)
            obtain ⟨N3, T2, g1, g2, g3, g4, g5⟩ := srtd_in (x := N2.1 (q + 7) 0) (y := N2.1 (q + 7) 1) (p := mtP (gp A i) (gp A ((i + 1) % A.length)) (gp B k) (gp B ((k + 1) % B.length))) hc (f3.fr d4 (by omega)) f4 (by rw [List.length_append, List.length_append]; omega) (by rw [← d2]) (by rw [← d2])
            refine ⟨(nI (k + 1), N3), by (repeat (first | rw [ck_t (by first | with_reducible assumption | ((with_reducible apply ixA_of); (with_reducible assumption); omega; omega) | ((with_reducible apply isAr_of); (with_reducible assumption); decide) | ((with_reducible apply nI_ne0); omega; omega) | with_reducible exact isB_0 | with_reducible exact isB_1 | with_reducible exact isB_bI _)] | rw [bd_r (by with_reducible assumption)] | rw [bd_s] | rw [bd2_s] | rw [bd3_s] | rw [nm_s] | rw [nI_clamp (by omega)] | rw [nI_1] | rw [bd2_e (d1)] | rw [if_neg (ne10)] | rw [bd_e (g1)] | rw [nx N3] | rw [if_pos (by first | with_reducible assumption | ((with_reducible refine nI_lt ?_ ?_); omega; omega) | ((with_reducible refine nI_nlt ?_ ?_); omega; omega) | with_reducible exact ne10 | with_reducible rfl)] | rw [if_neg (by first | with_reducible assumption | ((with_reducible refine nI_lt ?_ ?_); omega; omega) | ((with_reducible refine nI_nlt ?_ ?_); omega; omega) | with_reducible exact ne10 | with_reducible rfl)])), rfl, (f1.tr (d4.mono (by omega) (by omega))).tr (g4.mono (by omega) (by omega)), (g5.trans d5).trans f2, ?_, step (fun _ => by unfold xwh; rw [vi, vj, vk, vl]; exact wh), T2, g2, ?_⟩
            · show lnC N3 (q + 7) _ _
              exact (fl.eq (fun j j1 _ => d3 j j1)).eq (fun j _ _ => by rw [(g4 (q + 7) (by omega)).1])
            · show srtd (S ++ xaL A B i ++ (xrL A B i k ++ ap1 (xc A B i k) (xpt A B i k))) T2
              rw [ap1_t hx, ← List.append_assoc]
              unfold xpt
              rw [vi, vj, vk, vl]
              exact g3
          · right
            refine ⟨.inr (0, N), by (repeat (first | rw [ck_t (by first | with_reducible assumption | ((with_reducible apply ixA_of); (with_reducible assumption); omega; omega) | ((with_reducible apply isAr_of); (with_reducible assumption); decide) | ((with_reducible apply nI_ne0); omega; omega) | with_reducible exact isB_0 | with_reducible exact isB_1 | with_reducible exact isB_bI _)] | rw [bd_r (by with_reducible assumption)] | rw [bd_s] | rw [bd2_s] | rw [bd3_s] | rw [nm_s] | rw [nI_clamp (by omega)] | rw [nI_1] | rw [bd2_e (d1)] | rw [if_pos (by first | with_reducible assumption | ((with_reducible refine nI_lt ?_ ?_); omega; omega) | ((with_reducible refine nI_nlt ?_ ?_); omega; omega) | with_reducible exact ne10 | with_reducible rfl)] | rw [if_neg (by first | with_reducible assumption | ((with_reducible refine nI_lt ?_ ?_); omega; omega) | ((with_reducible refine nI_nlt ?_ ?_); omega; omega) | with_reducible exact ne10 | with_reducible rfl)])); rfl, Or.inr ⟨N, rfl, fun hX => wh ?_, f1, f2⟩⟩
            have := hX i k hi hk hx
            unfold xwh at this
            rw [vi, vj, vk, vl] at this
            exact this
        · have hx : ¬ xc A B i k := fun h => n2 (exc.mp h).2
          (repeat (first | rw [ck_t (by first | with_reducible assumption | ((with_reducible apply ixA_of); (with_reducible assumption); omega; omega) | ((with_reducible apply isAr_of); (with_reducible assumption); decide) | ((with_reducible apply nI_ne0); omega; omega) | with_reducible exact isB_0 | with_reducible exact isB_1 | with_reducible exact isB_bI _)] | rw [bd_r (by with_reducible assumption)] | rw [bd_s] | rw [bd2_s] | rw [bd3_s] | rw [nm_s] | rw [nI_clamp (by omega)] | rw [nI_1] | rw [e] | rw [bd_e (w)] | rw [bd_e (m1)] | rw [if_neg (ne10)] | rw [bd_e (n1)] | rw [nx N] | rw [if_pos (by first | with_reducible assumption | ((with_reducible refine nI_lt ?_ ?_); omega; omega) | ((with_reducible refine nI_nlt ?_ ?_); omega; omega) | with_reducible exact ne10 | with_reducible rfl)] | rw [if_neg (by first | with_reducible assumption | ((with_reducible refine nI_lt ?_ ?_); omega; omega) | ((with_reducible refine nI_nlt ?_ ?_); omega; omega) | with_reducible exact ne10 | with_reducible rfl)]))
          exact Or.inl ⟨_, rfl, rfl, f1, f2, fl, step (fun h => absurd h hx), T', f3, skip hx⟩
      · have hx : ¬ xc A B i k := fun h => m2 (exc.mp h).1
        (repeat (first | rw [ck_t (by first | with_reducible assumption | ((with_reducible apply ixA_of); (with_reducible assumption); omega; omega) | ((with_reducible apply isAr_of); (with_reducible assumption); decide) | ((with_reducible apply nI_ne0); omega; omega) | with_reducible exact isB_0 | with_reducible exact isB_1 | with_reducible exact isB_bI _)] | rw [bd_r (by with_reducible assumption)] | rw [bd_s] | rw [bd2_s] | rw [bd3_s] | rw [nm_s] | rw [nI_clamp (by omega)] | rw [nI_1] | rw [e] | rw [bd_e (w)] | rw [bd_e (m1)] | rw [nx N] | rw [if_pos (by first | with_reducible assumption | ((with_reducible refine nI_lt ?_ ?_); omega; omega) | ((with_reducible refine nI_nlt ?_ ?_); omega; omega) | with_reducible exact ne10 | with_reducible rfl)] | rw [if_neg (by first | with_reducible assumption | ((with_reducible refine nI_lt ?_ ?_); omega; omega) | ((with_reducible refine nI_nlt ?_ ?_); omega; omega) | with_reducible exact ne10 | with_reducible rfl)]))
        exact Or.inl ⟨_, rfl, rfl, f1, f2, fl, step (fun h => absurd h hx), T', f3, skip hx⟩
    · rintro ⟨z, N⟩ ⟨rfl, f1, f2, fl, f5, T', f3, f4⟩
      have f1 : Fr (q + 4) (q + 8) M N := f1
      have e := (hBl.fr f1 (by omega)).1
      refine ⟨.inl (nI (i + 1), N), ?_, Or.inl ⟨N, rfl, f1, f2, fun i' k' h1 h2 h3 h4 => f5 i' k' h1 h2 (by omega) h4, T', f3, ?_⟩⟩
      · show mX0_sortInCrossings_B69 K R q a b (nI i) (nI ((i + 1) % A.length)) (nI B.length) N = _
        unfold mX0_sortInCrossings_B69
        (repeat (first | rw [ck_t (by first | with_reducible assumption | ((with_reducible apply ixA_of); (with_reducible assumption); omega; omega) | ((with_reducible apply isAr_of); (with_reducible assumption); decide) | ((with_reducible apply nI_ne0); omega; omega) | with_reducible exact isB_0 | with_reducible exact isB_1 | with_reducible exact isB_bI _)] | rw [bd_r (by with_reducible assumption)] | rw [bd_s] | rw [bd2_s] | rw [bd3_s] | rw [nm_s] | rw [nI_clamp (by omega)] | rw [nI_1] | rw [e] | rw [if_pos (by first | with_reducible assumption | ((with_reducible refine nI_lt ?_ ?_); omega; omega) | ((with_reducible refine nI_nlt ?_ ?_); omega; omega) | with_reducible exact ne10 | with_reducible rfl)] | rw [if_neg (by first | with_reducible assumption | ((with_reducible refine nI_lt ?_ ?_); omega; omega) | ((with_reducible refine nI_nlt ?_ ?_); omega; omega) | with_reducible exact ne10 | with_reducible rfl)]))
        rfl
      · show srtd (S ++ (xaL A B i ++ xrL A B i B.length)) T'
        rw [← List.append_assoc]; exact f4
  · rintro ⟨z, N⟩ ⟨rfl, f1, f2, f5, T', f3, f4⟩
    have f1 : Fr (q + 4) (q + 8) M N := f1
    have e := (hAl.fr f1 (by omega)).1
    refine ⟨(1, N), ?_, f1, f2, Or.inl ⟨rfl, fun i k hi hk hx => f5 i k hi hk (by omega) hx, T', f3, f4⟩⟩
    show mX0_sortInCrossings_B2 K R q a b (nI A.length) N = _
    unfold mX0_sortInCrossings_B2
    (repeat (first | rw [ck_t (by first | with_reducible assumption | ((with_reducible apply ixA_of); (with_reducible assumption); omega; omega) | ((with_reducible apply isAr_of); (with_reducible assumption); decide) | ((with_reducible apply nI_ne0); omega; omega) | with_reducible exact isB_0 | with_reducible exact isB_1 | with_reducible exact isB_bI _)] | rw [bd_r (by with_reducible assumption)] | rw [bd_s] | rw [bd2_s] | rw [bd3_s] | rw [nm_s] | rw [nI_clamp (by omega)] | rw [nI_1] | rw [e] | rw [if_pos (by first | with_reducible assumption | ((with_reducible refine nI_lt ?_ ?_); omega; omega) | ((with_reducible refine nI_nlt ?_ ?_); omega; omega) | with_reducible exact ne10 | with_reducible rfl)] | rw [if_neg (by first | with_reducible assumption | ((with_reducible refine nI_lt ?_ ?_); omega; omega) | ((with_reducible refine nI_nlt ?_ ?_); omega; omega) | with_reducible exact ne10 | with_reducible rfl)]))
    rfl
end TD
