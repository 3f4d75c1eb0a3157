/-! third, the class: the way round -/
section TE
variable {K : Kk} {R : Rr} {M : Mm} {q : Nat}
theorem rgC_cut {a n : Nat} {l : List Pt} (h : rgC M a l) (hn : n ≤ l.length) : rgC (pI M a 2 (nI n)) a (l.take n) := ⟨by rw [pI_s, List.length_take, show min n l.length = n by omega], fun i p hp => by
  have hi := get_lt hp
  rw [List.length_take] at hi
  rw [List.getElem?_take, if_pos (by omega)] at hp
  rw [pI_n (by omega), pI_n (by omega)]
  exact h.2 i p hp⟩
theorem goTo_0 {x y : Int32} {p : Pt} (hc : cmA K R q) (h : rgC M (q + 1) []) (hx : x.toInt = p.1) (hy : y.toInt = p.2) : ∃ M', mX0_goTo K R M q (nI 0) x y = some M' ∧ rgC M' (q + 1) [p] ∧ Fr (q + 1) (q + 4) M M' ∧ M'.2 = M.2 := by
  obtain ⟨c0, r0, rA, -⟩ := hc
  obtain ⟨N, a1, a2, a3, a4⟩ := add_ok (x := x) (y := y) rA h (by decide) (by decide)
  have b0 := rA.1
  have e : M.1 (q + 1) 2 = nI 0 := h.1
  refine ⟨N, ?_, ?_, a3, a4⟩
  · unfold mX0_goTo
    (repeat (first | rw [ck_t (by first | with_reducible assumption | ((with_reducible apply ixA_of); (with_reducible assumption); omega; omega) | ((with_reducible apply isAr_of); (with_reducible assumption); decide) | ((with_reducible apply nI_ne0); omega; omega) | with_reducible exact isB_0 | with_reducible exact isB_1 | with_reducible exact isB_bI _)] | rw [bd_r (by with_reducible assumption)] | rw [bd_s] | rw [bd2_s] | rw [bd3_s] | rw [nm_s] | rw [nI_clamp (by omega)] | rw [nI_1] | rw [e] | rw [if_pos (by first | with_reducible assumption | ((with_reducible refine nI_lt ?_ ?_); omega; omega) | ((with_reducible refine nI_nlt ?_ ?_); omega; omega) | with_reducible exact ne10 | with_reducible rfl)] | rw [if_neg (by first | with_reducible assumption | ((with_reducible refine nI_lt ?_ ?_); omega; omega) | ((with_reducible refine nI_nlt ?_ ?_); omega; omega) | with_reducible exact ne10 | with_reducible rfl)]))
    refine lp_out ?_
    show mX0_goTo_B11 K R q (nI 0) x y (nI 0 - 1) M = _
    unfold mX0_goTo_B11 mX0_goTo_J60
    (repeat (first | rw [ck_t (by first | with_reducible assumption | ((with_reducible apply ixA_of); (with_reducible assumption); omega; omega) | ((with_reducible apply isAr_of); (with_reducible assumption); decide) | ((with_reducible apply nI_ne0); omega; omega) | with_reducible exact isB_0 | with_reducible exact isB_1 | with_reducible exact isB_bI _)] | rw [bd_r (by with_reducible assumption)] | rw [bd_s] | rw [bd2_s] | rw [bd3_s] | rw [nm_s] | rw [nI_clamp (by omega)] | rw [nI_1] | rw [if_pos ((show nI 0 - 1 ≤ nI 0 by decide))] | rw [bd_e (a1)] | rw [if_pos (by first | with_reducible assumption | ((with_reducible refine nI_lt ?_ ?_); omega; omega) | ((with_reducible refine nI_nlt ?_ ?_); omega; omega) | with_reducible exact ne10 | with_reducible rfl)] | rw [if_neg (by first | with_reducible assumption | ((with_reducible refine nI_lt ?_ ?_); omega; omega) | ((with_reducible refine nI_nlt ?_ ?_); omega; omega) | with_reducible exact ne10 | with_reducible rfl)]))
    rfl
  · have : p = (x.toInt, y.toInt) := Prod.ext hx.symm hy.symm
    rw [this]; exact a2
theorem goTo_ok {P C : List Pt} {x y : Int32} {p : Pt} (hc : cmA K R q) (h : rgC M (q + 1) (P ++ C)) (h0 : 0 < C.length) (hB : inBs (P ++ C)) (hn : P.length + C.length ≤ 65) (hx : x.toInt = p.1) (hy : y.toInt = p.2) (hp : inB p) : ∃ M' k, mX0_goTo K R M q (nI P.length) x y = some M' ∧ k < C.length ∧ rgC M' (q + 1) (P ++ (C.take (k + 1) ++ [p])) ∧ (∀ (i : Nat) a b, i + 1 = k → C[i]? = some a → C[i + 1]? = some b → 0 < crs a b p) ∧ (∀ (i : Nat) a b, k ≤ i → C[i]? = some a → C[i + 1]? = some b → crs a b p ≤ 0) ∧ Fr (q + 1) (q + 4) M M' ∧ M'.2 = M.2 := by
  obtain ⟨c0, r0, rA, -⟩ := hc
  have b0 := rA.1
  have ep : p = (x.toInt, y.toInt) := Prod.ext hx.symm hy.symm
  have e : M.1 (q + 1) 2 = nI (P.length + C.length) := by rw [h.1, List.length_append]
  have hL := lp_ind (f := mX0_goTo_L11 K R q (nI P.length) x y) (fun (u : Nat) (s : Int32 × Mm) => ∃ t, u + t + 1 = C.length ∧ s.1 = nI (P.length + t) ∧ rgC s.2 (q + 1) (P ++ C.take (t + 1)) ∧ (∀ (i : Nat) a b, t ≤ i → C[i]? = some a → C[i + 1]? = some b → crs a b p ≤ 0) ∧ Fr (q + 1) (q + 4) M s.2 ∧ s.2.2 = M.2) (fun M' => ∃ k, k < C.length ∧ rgC M' (q + 1) (P ++ (C.take (k + 1) ++ [p])) ∧ (∀ (i : Nat) a b, i + 1 = k → C[i]? = some a → C[i + 1]? = some b → 0 < crs a b p) ∧ (∀ (i : Nat) a b, k ≤ i → C[i]? = some a → C[i + 1]? = some b → crs a b p ≤ 0) ∧ Fr (q + 1) (q + 4) M M' ∧ M'.2 = M.2) (C.length - 1) ?_ ?_
  · obtain ⟨M', e1, k, e2⟩ := hL (C.length - 1) 0 (nI (P.length + (C.length - 1)), M) (by omega) ⟨C.length - 1, by omega, rfl, by rw [show C.length - 1 + 1 = C.length by omega, List.take_length]; exact h, fun i a b hi ha hb => absurd (get_lt hb) (by omega), Fr.rf, rfl⟩
    refine ⟨M', k, ?_, e2⟩
    unfold mX0_goTo
    (repeat (first | rw [ck_t (by first | with_reducible assumption | ((with_reducible apply ixA_of); (with_reducible assumption); omega; omega) | ((with_reducible apply isAr_of); (with_reducible assumption); decide) | ((with_reducible apply nI_ne0); omega; omega) | with_reducible exact isB_0 | with_reducible exact isB_1 | with_reducible exact isB_bI _)] | rw [bd_r (by with_reducible assumption)] | rw [bd_s] | rw [bd2_s] | rw [bd3_s] | rw [nm_s] | rw [nI_clamp (by omega)] | rw [nI_1] | rw [e] | rw [nI_s1 (show 1 ≤ P.length + C.length by omega)] | rw [if_pos (by first | with_reducible assumption | ((with_reducible refine nI_lt ?_ ?_); omega; omega) | ((with_reducible refine nI_nlt ?_ ?_); omega; omega) | with_reducible exact ne10 | with_reducible rfl)] | rw [if_neg (by first | with_reducible assumption | ((with_reducible refine nI_lt ?_ ?_); omega; omega) | ((with_reducible refine nI_nlt ?_ ?_); omega; omega) | with_reducible exact ne10 | with_reducible rfl)]))
    rw [show P.length + C.length - 1 = P.length + (C.length - 1) by omega]
    exact e1
  · rintro u ⟨z, N⟩ hu ⟨t, ht, f0, f1, f2, f3, f4⟩
    have f0 : z = nI (P.length + t) := f0
    subst f0
    have f1 : rgC N (q + 1) (P ++ C.take (t + 1)) := f1
    have f3 : Fr (q + 1) (q + 4) M N := f3
    have lenW : (P ++ C.take (t + 1)).length = P.length + (t + 1) := by rw [List.length_append, List.length_take]; omega
    obtain ⟨a, ha⟩ := get_ex (show t - 1 < C.length by omega)
    obtain ⟨b, hb⟩ := get_ex (show t < C.length by omega)
    have wa : (P ++ C.take (t + 1))[P.length + t - 1]? = some a := by
      rw [List.getElem?_append_right (by omega), show P.length + t - 1 - P.length = t - 1 by omega, List.getElem?_take, if_pos (by omega)]; exact ha
    have wb : (P ++ C.take (t + 1))[P.length + t]? = some b := by
      rw [List.getElem?_append_right (by omega), show P.length + t - P.length = t by omega, List.getElem?_take, if_pos (by omega)]; exact hb
    have bW : inBs (P ++ C.take (t + 1)) := inBs_of (fun z hz => by
      rcases List.mem_append.mp hz with c | c
      · exact hB.m z (List.mem_append_left _ c)
      · exact hB.m z (List.mem_append_right _ (List.mem_of_mem_take c)))
    obtain ⟨v, v1, v2⟩ := sideAt_ok (M := N) (x := x) (y := y) rA f1 (by omega) (by decide) bW wa wb (by rw [← ep]; exact hp)
    rw [← ep] at v2
    have z0 : (0 : Int64).toInt = 0 := rfl
    have n1 := nI_nle' (a := P.length + t) (b := P.length) (by omega) (by omega)
    have n2 : ¬ nI (P.length + t) ≤ 0 := nI_nle' (a := P.length + t) (b := 0) (by omega) (by omega)
    have s1 := nI_s1 (show 1 ≤ P.length + t by omega)
    have m1 := nI_m1 (show 1 ≤ P.length + t by omega)
    show (∃ s', mX0_goTo_B11 K R q (nI P.length) x y (nI (P.length + t)) N = some (.inl s') ∧ _) ∨ ∃ r, mX0_goTo_B11 K R q (nI P.length) x y (nI (P.length + t)) N = some (.inr r) ∧ _
    unfold mX0_goTo_B11
    by_cases c : v ≤ 0
    · left
      have cut := rgC_cut (n := P.length + t) f1 (by omega)
      have tk : (P ++ C.take (t + 1)).take (P.length + t) = P ++ C.take (t - 1 + 1) := by
        rw [List.take_append, List.take_of_length_le (show P.length ≤ P.length + t by omega), show P.length + t - P.length = t by omega, List.take_take, show min t (t + 1) = t by omega, show t - 1 + 1 = t by omega]
      rw [tk] at cut
      refine ⟨(nI (P.length + (t - 1)), pI N (q + 1) 2 (nI (P.length + t))), ?_, t - 1, by omega, rfl, cut, fun i a' b' hi h1 h2 => ?_, f3.pI (by omega) (by omega), f4⟩
      · (repeat (first | rw [ck_t (by first | with_reducible assumption | ((with_reducible apply ixA_of); (with_reducible assumption); omega; omega) | ((with_reducible apply isAr_of); (with_reducible assumption); decide) | ((with_reducible apply nI_ne0); omega; omega) | with_reducible exact isB_0 | with_reducible exact isB_1 | with_reducible exact isB_bI _)] | rw [bd_r (by with_reducible assumption)] | rw [bd_s] | rw [bd2_s] | rw [bd3_s] | rw [nm_s] | rw [nI_clamp (by omega)] | rw [nI_1] | rw [if_neg (n1)] | rw [if_neg (n2)] | rw [s1] | rw [bd_e (v1)] | rw [if_pos (c)] | rw [m1] | rw [if_pos (by first | with_reducible assumption | ((with_reducible refine nI_lt ?_ ?_); omega; omega) | ((with_reducible refine nI_nlt ?_ ?_); omega; omega) | with_reducible exact ne10 | with_reducible rfl)] | rw [if_neg (by first | with_reducible assumption | ((with_reducible refine nI_lt ?_ ?_); omega; omega) | ((with_reducible refine nI_nlt ?_ ?_); omega; omega) | with_reducible exact ne10 | with_reducible rfl)]))
        rw [show P.length + t - 1 = P.length + (t - 1) by omega]
      · by_cases w : t ≤ i
        · exact f2 i a' b' w h1 h2
        · have : i = t - 1 := by omega
          subst this
          rw [show t - 1 + 1 = t by omega] at h2
          rw [get_un h1 ha, get_un h2 hb]
          rw [le64, z0, v2] at c
          exact c
    · right
      obtain ⟨N2, a1, a2, a3, a4⟩ := add_ok (x := x) (y := y) rA f1 (by omega) (by decide)
      refine ⟨N2, ?_, t, by omega, ?_, fun i a' b' hi h1 h2 => ?_, f2, f3.tr a3, a4.trans f4⟩
      · unfold mX0_goTo_J60
        (repeat (first | rw [ck_t (by first | with_reducible assumption | ((with_reducible apply ixA_of); (with_reducible assumption); omega; omega) | ((with_reducible apply isAr_of); (with_reducible assumption); decide) | ((with_reducible apply nI_ne0); omega; omega) | with_reducible exact isB_0 | with_reducible exact isB_1 | with_reducible exact isB_bI _)] | rw [bd_r (by with_reducible assumption)] | rw [bd_s] | rw [bd2_s] | rw [bd3_s] | rw [nm_s] | rw [nI_clamp (by omega)] | rw [nI_1] | rw [if_neg (n1)] | rw [if_neg (n2)] | rw [s1] | rw [bd_e (v1)] | rw [if_neg (c)] | rw [bd_e (a1)] | rw [if_pos (by first | with_reducible assumption | ((with_reducible refine nI_lt ?_ ?_); omega; omega) | ((with_reducible refine nI_nlt ?_ ?_); omega; omega) | with_reducible exact ne10 | with_reducible rfl)] | rw [if_neg (by first | with_reducible assumption | ((with_reducible refine nI_lt ?_ ?_); omega; omega) | ((with_reducible refine nI_nlt ?_ ?_); omega; omega) | with_reducible exact ne10 | with_reducible rfl)]))
        rfl
      · rw [ep, ← List.append_assoc]; exact a2
      · have : i = t - 1 := by omega
        subst this
        rw [show t - 1 + 1 = t by omega] at h2
        rw [get_un h1 ha, get_un h2 hb]
        rw [le64, z0, v2] at c
        omega
  · rintro ⟨z, N⟩ ⟨t, ht, f0, f1, f2, f3, f4⟩
    have f0 : z = nI (P.length + t) := f0
    subst f0
    have t0 : t = 0 := by omega
    subst t0
    have f1 : rgC N (q + 1) (P ++ C.take (0 + 1)) := f1
    have f3 : Fr (q + 1) (q + 4) M N := f3
    have lenW : (P ++ C.take (0 + 1)).length = P.length + 1 := by rw [List.length_append, List.length_take]; omega
    obtain ⟨N2, a1, a2, a3, a4⟩ := add_ok (x := x) (y := y) rA f1 (by omega) (by decide)
    have n1 := nI_le' (Nat.le_refl P.length) (by omega)
    refine ⟨N2, ?_, 0, h0, ?_, fun i a b hi => absurd hi (by omega), f2, f3.tr a3, a4.trans f4⟩
    · show mX0_goTo_B11 K R q (nI P.length) x y (nI P.length) N = _
      unfold mX0_goTo_B11 mX0_goTo_J60
      (repeat (first | rw [ck_t (by first | with_reducible assumption | ((with_reducible apply ixA_of); (with_reducible assumption); omega; omega) | ((with_reducible apply isAr_of); (with_reducible assumption); decide) | ((with_reducible apply nI_ne0); omega; omega) | with_reducible exact isB_0 | with_reducible exact isB_1 | with_reducible exact isB_bI _)] | rw [bd_r (by with_reducible assumption)] | rw [bd_s] | rw [bd2_s] | rw [bd3_s] | rw [nm_s] | rw [nI_clamp (by omega)] | rw [nI_1] | rw [if_pos (n1)] | rw [bd_e (a1)] | rw [if_pos (by first | with_reducible assumption | ((with_reducible refine nI_lt ?_ ?_); omega; omega) | ((with_reducible refine nI_nlt ?_ ?_); omega; omega) | with_reducible exact ne10 | with_reducible rfl)] | rw [if_neg (by first | with_reducible assumption | ((with_reducible refine nI_lt ?_ ?_); omega; omega) | ((with_reducible refine nI_nlt ?_ ?_); omega; omega) | with_reducible exact ne10 | with_reducible rfl)]))
      rfl
    · rw [ep, ← List.append_assoc]; exact a2
theorem goRound_ok {T : List Pt} (hc : cmA K R q) (h : rgC M (q + 4) T) (hp : T.Pairwise ltP) (h2 : 2 ≤ T.length) (h64 : T.length ≤ 64) (hB : inBs T) : ∃ M' L, mX0_goRound K R M q = some M' ∧ rgC M' (q + 1) L ∧ GW T L ∧ Fr (q + 1) (q + 4) M M' ∧ M'.2 = M.2 := by
  have hc0 := hc
  obtain ⟨c0, r0, rA, r1, rB, -⟩ := hc
  have b0 := rA.1
  obtain ⟨d0, d1, d2, d3, d4⟩ := rB
  have lt : ∀ (i j : Nat) a b, i < j → T[i]? = some a → T[j]? = some b → ltP a b := fun i j a b hij ha hb => by
    obtain ⟨h1, g1⟩ := List.getElem?_eq_some_iff.mp ha
    obtain ⟨h2, g2⟩ := List.getElem?_eq_some_iff.mp hb
    have := List.pairwise_iff_getElem.mp hp i j h1 h2 hij
    rw [g1, g2] at this
    exact this
  have hL := lp_ind (f := mX0_goRound_L10 K R q) (fun (i : Nat) (s : Int32 × Mm) => s.1 = nI i ∧ Fr (q + 1) (q + 4) M s.2 ∧ s.2.2 = M.2 ∧ ((i = 0 ∧ rgC s.2 (q + 1) []) ∨ ∃ C, Chn 1 (T.take i) C ∧ rgC s.2 (q + 1) C)) (fun M' => ∃ L, rgC M' (q + 1) L ∧ GW T L ∧ Fr (q + 1) (q + 4) M M' ∧ M'.2 = M.2) T.length ?_ ?_
  · obtain ⟨M', e1, L, e2⟩ := hL T.length 0 (nI 0, pI M (q + 1) 2 0) (by omega) ⟨rfl, Fr.rf.pI (by omega) (by omega), rfl, Or.inl ⟨rfl, pI_s, fun i p hp => by cases hp⟩⟩
    refine ⟨M', L, ?_, e2⟩
    unfold mX0_goRound
    (repeat (first | rw [ck_t (by first | with_reducible assumption | ((with_reducible apply ixA_of); (with_reducible assumption); omega; omega) | ((with_reducible apply isAr_of); (with_reducible assumption); decide) | ((with_reducible apply nI_ne0); omega; omega) | with_reducible exact isB_0 | with_reducible exact isB_1 | with_reducible exact isB_bI _)] | rw [bd_r (by with_reducible assumption)] | rw [bd_s] | rw [bd2_s] | rw [bd3_s] | rw [nm_s] | rw [nI_clamp (by omega)] | rw [nI_1] | rw [if_pos (by first | with_reducible assumption | ((with_reducible refine nI_lt ?_ ?_); omega; omega) | ((with_reducible refine nI_nlt ?_ ?_); omega; omega) | with_reducible exact ne10 | with_reducible rfl)] | rw [if_neg (by first | with_reducible assumption | ((with_reducible refine nI_lt ?_ ?_); omega; omega) | ((with_reducible refine nI_nlt ?_ ?_); omega; omega) | with_reducible exact ne10 | with_reducible rfl)]))
    exact e1
  · rintro i ⟨z, N⟩ hi ⟨rfl, f1, f2, f3⟩
    have f1 : Fr (q + 1) (q + 4) M N := f1
    have f2 : N.2 = M.2 := f2
    have hN := h.fr f1 (by omega)
    have e := hN.1
    obtain ⟨x, hx⟩ := get_ex hi
    obtain ⟨u1, u2⟩ := hN.2 _ _ hx
    left
    rcases f3 with ⟨rfl, f3⟩ | ⟨C, f3, f4⟩
    · obtain ⟨N2, g1, g2, g3, g4⟩ := goTo_0 hc0 f3 u1 u2
      have g1 : mX0_goTo K R N q 0 _ _ = some N2 := g1
      refine ⟨(nI 1, N2), ?_, rfl, f1.tr g3, g4.trans f2, Or.inr ⟨[x], ?_, g2⟩⟩
      · show mX0_goRound_B10 K R q (nI 0) N = _
        unfold mX0_goRound_B10
        (repeat (first | rw [ck_t (by first | with_reducible assumption | ((with_reducible apply ixA_of); (with_reducible assumption); omega; omega) | ((with_reducible apply isAr_of); (with_reducible assumption); decide) | ((with_reducible apply nI_ne0); omega; omega) | with_reducible exact isB_0 | with_reducible exact isB_1 | with_reducible exact isB_bI _)] | rw [bd_r (by with_reducible assumption)] | rw [bd_s] | rw [bd2_s] | rw [bd3_s] | rw [nm_s] | rw [nI_clamp (by omega)] | rw [nI_1] | rw [e] | rw [bd_e (g1)] | rw [if_pos (by first | with_reducible assumption | ((with_reducible refine nI_lt ?_ ?_); omega; omega) | ((with_reducible refine nI_nlt ?_ ?_); omega; omega) | with_reducible exact ne10 | with_reducible rfl)] | rw [if_neg (by first | with_reducible assumption | ((with_reducible refine nI_lt ?_ ?_); omega; omega) | ((with_reducible refine nI_nlt ?_ ?_); omega; omega) | with_reducible exact ne10 | with_reducible rfl)]))
      · rw [take_app hx]; exact chn_one x
    · have sub : ∀ z, z ∈ C → z ∈ T := fun z hz => List.mem_of_mem_take (f3.1.subset hz)
      have cl := f3.1.length_le
      rw [List.length_take] at cl
      obtain ⟨f0, hf0, -⟩ := f3.2.2.1
      obtain ⟨N2, k, g1, g2, g3, g4, g5, g6, g7⟩ := goTo_ok (P := []) (C := C) hc0 f4 (by have := get_lt hf0; omega) (inBs_of (fun z hz => hB.m z (sub z hz))) (by show 0 + C.length ≤ 65; omega) u1 u2 (hB.m x (get_mem hx))
      have g1 : mX0_goTo K R N q 0 _ _ = some N2 := g1
      refine ⟨(nI (i + 1), N2), ?_, rfl, f1.tr g6, g7.trans f2, Or.inr ⟨C.take (k + 1) ++ [x], ?_, g3⟩⟩
      · show mX0_goRound_B10 K R q (nI i) N = _
        unfold mX0_goRound_B10
        (repeat (first | rw [ck_t (by first | with_reducible assumption | ((with_reducible apply ixA_of); (with_reducible assumption); omega; omega) | ((with_reducible apply isAr_of); (with_reducible assumption); decide) | ((with_reducible apply nI_ne0); omega; omega) | with_reducible exact isB_0 | with_reducible exact isB_1 | with_reducible exact isB_bI _)] | rw [bd_r (by with_reducible assumption)] | rw [bd_s] | rw [bd2_s] | rw [bd3_s] | rw [nm_s] | rw [nI_clamp (by omega)] | rw [nI_1] | rw [e] | rw [bd_e (g1)] | rw [if_pos (by first | with_reducible assumption | ((with_reducible refine nI_lt ?_ ?_); omega; omega) | ((with_reducible refine nI_nlt ?_ ?_); omega; omega) | with_reducible exact ne10 | with_reducible rfl)] | rw [if_neg (by first | with_reducible assumption | ((with_reducible refine nI_lt ?_ ?_); omega; omega) | ((with_reducible refine nI_nlt ?_ ?_); omega; omega) | with_reducible exact ne10 | with_reducible rfl)]))
      · rw [take_app hx]
        refine chn_push (Or.inl rfl) f3 (fun z hz => lto_1.mpr ?_) g2 g4 g5
        obtain ⟨j, hj, gj⟩ := mem_get hz
        rw [List.length_take] at hj
        rw [List.getElem?_take, if_pos (by omega)] at gj
        exact lt j i z x (by omega) gj hx
  · rintro ⟨z, N⟩ ⟨rfl, f1, f2, f3⟩
    have f1 : Fr (q + 1) (q + 4) M N := f1
    have f2 : N.2 = M.2 := f2
    rcases f3 with ⟨f3, -⟩ | ⟨C, f3, f4⟩
    · omega
    rw [List.take_length] at f3
    have f4 : rgC N (q + 1) C := f4
    have e := (h.fr f1 (by omega)).1
    have cl := f3.1.length_le
    obtain ⟨f0, hf0, hf1⟩ := f3.2.2.1
    obtain ⟨m, hm, hm1⟩ := f3.2.2.2.1
    have c0' := get_lt hf0
    have c2 : 2 ≤ C.length := by
      rcases Nat.lt_or_ge C.length 2 with c | c
      · rw [show C.length - 1 = 0 by omega, hf0] at hm
        have := Option.some.inj hm
        subst this
        obtain ⟨a, ha⟩ := get_ex (show 0 < T.length by omega)
        obtain ⟨b, hb⟩ := get_ex (show 1 < T.length by omega)
        have ab := lt 0 1 a b (by decide) ha hb
        have al : ∀ p, p ∈ T → p = f0 := fun p hp => by
          rcases hf1 p hp with y | y
          · exact y
          · rcases hm1 p hp with w | w
            · exact w
            · exact (ltP_asy (lto_1.mp y) (lto_1.mp w)).elim
        rw [al a (get_mem ha), al b (get_mem hb)] at ab
        exact (ltP_irr ab).elim
      · exact c
    obtain ⟨g, hg⟩ := get_ex (show T.length - 1 < T.length by omega)
    have mg : m = g := by
      have mT : m ∈ T := f3.1.subset (get_mem hm)
      obtain ⟨j, hj, gj⟩ := mem_get mT
      by_cases w : j = T.length - 1
      · rw [w] at gj; exact get_un gj hg
      · have l1 := lt j (T.length - 1) m g (by omega) gj hg
        rcases hm1 g (get_mem hg) with y | y
        · exact y.symm
        · exact (ltP_asy l1 (lto_1.mp y)).elim
    have Csp : C = C.take (C.length - 1) ++ [m] := by
      have := take_app (l := C) (i := C.length - 1) hm
      rw [show C.length - 1 + 1 = C.length by omega, List.take_length] at this
      exact this
    have fl : (C.take (C.length - 1)).length = C.length - 1 := by rw [List.length_take]; omega
    have memC : ∀ z, z ∈ C → z ∈ T := fun z hz => f3.1.subset hz
    have rv : ∀ j, j < T.length → T.reverse[j]? = T[T.length - 1 - j]? := fun j hj => rev_get hj
    have eN : N.1 (q + 1) 2 = nI C.length := f4.1
    have hL2 := lp_ind (f := mX0_goRound_L70 K R q (nI (C.length - 1))) (fun (j : Nat) (s : Int32 × Mm) => s.1 = nI (T.length - j) + (-1) ∧ 1 ≤ j ∧ Fr (q + 1) (q + 4) M s.2 ∧ s.2.2 = M.2 ∧ ∃ D, Chn (-1) (T.reverse.take j) D ∧ rgC s.2 (q + 1) (C.take (C.length - 1) ++ D)) (fun M' => ∃ L, rgC M' (q + 1) L ∧ GW T L ∧ Fr (q + 1) (q + 4) M M' ∧ M'.2 = M.2) T.length ?_ ?_
    · obtain ⟨M', e1, e2⟩ := hL2 (T.length - 1) 1 (nI (T.length - 2), N) (by omega) ⟨by show nI (T.length - 2) = nI (T.length - 1) + (-1); rw [nI_m1 (by omega), show T.length - 1 - 1 = T.length - 2 by omega], Nat.le_refl 1, f1, f2, [m], by
        have t1 : T.reverse[0]? = some m := by rw [rv 0 (by omega), mg]; exact hg
        rw [take_app t1]
        exact chn_one m, by rw [← Csp]; exact f4⟩
      refine ⟨M', ?_, e2⟩
      show mX0_goRound_B10 K R q (nI T.length) N = _
      unfold mX0_goRound_B10
      have s2 : nI T.length - 2 = nI (T.length - 2) := pk_sub h2
      (repeat (first | rw [ck_t (by first | with_reducible assumption | ((with_reducible apply ixA_of); (with_reducible assumption); omega; omega) | ((with_reducible apply isAr_of); (with_reducible assumption); decide) | ((with_reducible apply nI_ne0); omega; omega) | with_reducible exact isB_0 | with_reducible exact isB_1 | with_reducible exact isB_bI _)] | rw [bd_r (by with_reducible assumption)] | rw [bd_s] | rw [bd2_s] | rw [bd3_s] | rw [nm_s] | rw [nI_clamp (by omega)] | rw [nI_1] | rw [e] | rw [eN] | rw [nI_s1 (show 1 ≤ C.length by omega)] | rw [s2] | rw [e1] | rw [if_pos (by first | with_reducible assumption | ((with_reducible refine nI_lt ?_ ?_); omega; omega) | ((with_reducible refine nI_nlt ?_ ?_); omega; omega) | with_reducible exact ne10 | with_reducible rfl)] | rw [if_neg (by first | with_reducible assumption | ((with_reducible refine nI_lt ?_ ?_); omega; omega) | ((with_reducible refine nI_nlt ?_ ?_); omega; omega) | with_reducible exact ne10 | with_reducible rfl)]))
      rfl
    · rintro j ⟨z, N⟩ hj ⟨rfl, j1, f1, f2, D, f5, f6⟩
      have f1 : Fr (q + 1) (q + 4) M N := f1
      have f2 : N.2 = M.2 := f2
      have f6 : rgC N (q + 1) (C.take (C.length - 1) ++ D) := f6
      have hN := h.fr f1 (by omega)
      obtain ⟨x, hx⟩ := get_ex (show T.length - 1 - j < T.length by omega)
      obtain ⟨u1, u2⟩ := hN.2 _ _ hx
      have hxr : T.reverse[j]? = some x := by rw [rv j hj]; exact hx
      have subD : ∀ z, z ∈ T.reverse.take j → z ∈ T := fun z hz => List.mem_reverse.mp (List.mem_of_mem_take hz)
      have room := chn_room f3 f5 subD (fun m' hm' => by
        rw [get_un hm' hm, mg]
        refine get_mem (i := 0) ?_
        rw [List.getElem?_take, if_pos (by omega), rv 0 (by omega)]; exact hg)
      obtain ⟨g0, hg0, -⟩ := f5.2.2.1
      have D0 := get_lt hg0
      obtain ⟨N2, k, g1, g2, g3, g4, g5, g6, g7⟩ := goTo_ok (P := C.take (C.length - 1)) (C := D) hc0 f6 D0 (inBs_of (fun z hz => by
        rcases List.mem_append.mp hz with w | w
        · exact hB.m z (memC z (List.mem_of_mem_take w))
        · exact hB.m z (subD z (f5.1.subset w)))) (by rw [fl]; omega) u1 u2 (hB.m x (get_mem hx))
      rw [fl] at g1
      have ei : nI (T.length - j) + (-1) = nI (T.length - 1 - j) := by rw [nI_m1 (by omega)]; congr 1; omega
      refine Or.inl ⟨(nI (T.length - (j + 1)) + (-1), N2), ?_, rfl, by omega, f1.tr g6, g7.trans f2, D.take (k + 1) ++ [x], ?_, g3⟩
      · show mX0_goRound_B70 K R q (nI (C.length - 1)) (nI (T.length - j) + (-1)) N = _
        rw [ei]
        unfold mX0_goRound_B70
        (repeat (first | rw [ck_t (by first | with_reducible assumption | ((with_reducible apply ixA_of); (with_reducible assumption); omega; omega) | ((with_reducible apply isAr_of); (with_reducible assumption); decide) | ((with_reducible apply nI_ne0); omega; omega) | with_reducible exact isB_0 | with_reducible exact isB_1 | with_reducible exact isB_bI _)] | rw [bd_r (by with_reducible assumption)] | rw [bd_s] | rw [bd2_s] | rw [bd3_s] | rw [nm_s] | rw [nI_clamp (by omega)] | rw [nI_1] | rw [if_neg (nI_pos (show T.length - 1 - j < 2 ^ 31 by omega))] | rw [bd_e (g1)] | rw [if_pos (by first | with_reducible assumption | ((with_reducible refine nI_lt ?_ ?_); omega; omega) | ((with_reducible refine nI_nlt ?_ ?_); omega; omega) | with_reducible exact ne10 | with_reducible rfl)] | rw [if_neg (by first | with_reducible assumption | ((with_reducible refine nI_lt ?_ ?_); omega; omega) | ((with_reducible refine nI_nlt ?_ ?_); omega; omega) | with_reducible exact ne10 | with_reducible rfl)]))
        rw [show T.length - 1 - j = T.length - (j + 1) by omega]
      · rw [take_app hxr]
        refine chn_push (Or.inr rfl) f5 (fun z hz => lto_m.mpr ?_) g2 g4 g5
        obtain ⟨w, hw, gw⟩ := mem_get hz
        rw [List.length_take] at hw
        rw [List.getElem?_take, if_pos (by omega), rv w (by omega)] at gw
        exact lt (T.length - 1 - j) (T.length - 1 - w) x z (by omega) hx gw
    · rintro ⟨z, N⟩ ⟨rfl, j1, f1, f2, D, f5, f6⟩
      have f1 : Fr (q + 1) (q + 4) M N := f1
      have f6 : rgC N (q + 1) (C.take (C.length - 1) ++ D) := f6
      have full : T.reverse.take T.length = T.reverse := by rw [show T.length = T.reverse.length from List.length_reverse.symm, List.take_length]
      rw [full] at f5
      obtain ⟨w1, w2⟩ := GW_chn f3 f5 (fun p => List.mem_reverse) c2
      have len : (C.take (C.length - 1) ++ D).length = C.length - 1 + D.length := by rw [List.length_append, fl]
      have e6 : N.1 (q + 1) 2 = nI (C.length - 1 + D.length) := by rw [f6.1, len]
      have room := chn_room f3 f5 (fun z hz => List.mem_reverse.mp hz) (fun m' hm' => by rw [get_un hm' hm]; exact List.mem_reverse.mpr (memC m (get_mem hm)))
      have cut := rgC_cut (n := C.length - 1 + D.length - 1) f6 (by omega)
      have tk : (C.take (C.length - 1) ++ D).take (C.length - 1 + D.length - 1) = C.take (C.length - 1) ++ D.take (D.length - 1) := by
        rw [List.take_append, fl, show C.length - 1 + D.length - 1 - (C.length - 1) = D.length - 1 by omega, List.take_of_length_le (by omega)]
      rw [tk] at cut
      refine ⟨_, ?_, _, cut, w2, f1.pI (by omega) (by omega), f2⟩
      show mX0_goRound_B70 K R q (nI (C.length - 1)) (nI (T.length - T.length) + (-1)) N = _
      rw [Nat.sub_self]
      unfold mX0_goRound_B70
      (repeat (first | rw [ck_t (by first | with_reducible assumption | ((with_reducible apply ixA_of); (with_reducible assumption); omega; omega) | ((with_reducible apply isAr_of); (with_reducible assumption); decide) | ((with_reducible apply nI_ne0); omega; omega) | with_reducible exact isB_0 | with_reducible exact isB_1 | with_reducible exact isB_bI _)] | rw [bd_r (by with_reducible assumption)] | rw [bd_s] | rw [bd2_s] | rw [bd3_s] | rw [nm_s] | rw [nI_clamp (by omega)] | rw [nI_1] | rw [if_pos ((show nI 0 + (-1) < 0 by decide))] | rw [e6] | rw [nI_s1 (show 1 ≤ C.length - 1 + D.length by omega)] | rw [if_neg (nI_pos (show C.length - 1 + D.length - 1 < 2 ^ 31 by omega))] | rw [if_pos (by first | with_reducible assumption | ((with_reducible refine nI_lt ?_ ?_); omega; omega) | ((with_reducible refine nI_nlt ?_ ?_); omega; omega) | with_reducible exact ne10 | with_reducible rfl)] | rw [if_neg (by first | with_reducible assumption | ((with_reducible refine nI_lt ?_ ?_); omega; omega) | ((with_reducible refine nI_nlt ?_ ?_); omega; omega) | with_reducible exact ne10 | with_reducible rfl)]))
      rfl
end TE
