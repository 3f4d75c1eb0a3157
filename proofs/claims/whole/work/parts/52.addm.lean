/-! THE TALLY of the reference -/
def tlM (M : Mm) (m : Nat) (A : List En) : Prop := M.1 m 35 = nI A.length ∧ ∀ (i : Nat) e, A[i]? = some e → (M.2 (m + 21) i).toInt = e.1.1 ∧ (M.2 (m + 22) i).toInt = e.1.2 ∧ (M.2 (m + 23) i).toInt = e.2
theorem set_at {α : Type} {A : List α} {k : Nat} {x : α} (h : k < A.length) : A.set k x = A.take k ++ x :: A.drop (k + 1) := by rw [List.set_eq_take_append_cons_drop, if_pos h]
theorem nI_ne {a b : Nat} (h : a ≠ b) (ha : a < 2 ^ 31) (hb : b < 2 ^ 31) : ¬ nI a = nI b := fun z => h ((nI_eq ha hb).mp z)
theorem sgn_div {g z : Int} (hg : 0 < g) (h : g ∣ z) : (0 < z / g ↔ 0 < z) ∧ (z / g = 0 ↔ z = 0) := by
  obtain ⟨k, rfl⟩ := h
  rw [Int.mul_ediv_cancel_left k (by omega)]
  refine ⟨⟨fun hk => Int.mul_pos hg hk, fun hk => ?_⟩, fun h => by rw [h, Int.mul_zero], fun h => (Int.mul_eq_zero.mp h).resolve_left (by omega)⟩
  rcases Int.lt_trichotomy k 0 with z | z | z
  · have := Int.mul_neg_of_pos_of_neg hg z; omega
  · subst z; rw [Int.mul_zero] at hk; omega
  · exact z
section TM
variable {K : Kk} {R : Rr} {M : Mm} {m : Nat} {A : List En}
theorem tlM.fr {is as : List Nat} {M' : Mm} (h : tlM M m A) (f : FM m is as M M') (h35 : 35 ∉ is) (h21 : 21 ∉ as) (h22 : 22 ∉ as) (h23 : 23 ∉ as) : tlM M' m A := by
  refine ⟨by rw [f.sl 35 h35]; exact h.1, fun i e he => ?_⟩
  rw [f.ar 21 h21, f.ar 22 h22, f.ar 23 h23]
  exact h.2 i e he
theorem tlM.pt {i : Nat} {e : En} (h : tlM M m A) (he : A[i]? = some e) : e.1 = ((M.2 (m + 21) i).toInt, (M.2 (m + 22) i).toInt) := Prod.ext (h.2 i e he).1.symm (h.2 i e he).2.1.symm
theorem addJ {x y g' : Int64} {u : Int32} {D : Pt} {g : Int} (hm : moA K R m) (h : tlM M m A) (hn : A.length < 640) (hx : x.toInt = D.1) (hy : y.toInt = D.2) (hu : (u = 1 ∧ g'.toInt = g) ∨ (u = 0 ∧ g'.toInt = -g)) (g1 : -200000 ≤ g) (g2 : g ≤ 200000) (hb : bdE 1000000000 A) : ∃ M' A', mX8_addStep_J75 K R M m g' u x y = some M' ∧ tlM M' m A' ∧ upE A D g A' ∧ FM m [35] [21, 22, 23] M M' := by
  have h1 := mo_r32 hm
  have h2 := mo_r33 hm
  have h3 := mo_r34 hm
  have h4 := mo_a32 hm
  have h5 := mo_a33 hm
  have h6 := mo_a34 hm
  have e := h.1
  have J166 : ∀ (N : Mm) (i : Nat) (t : Int), i < 640 → (N.2 (m + 23) i).toInt = t → -1000000000 ≤ t → t ≤ 1000000000 → ∃ v, v.toInt = t + g ∧ mX8_addStep_J166 K R N m g' u (nI i) = some (pL N (m + 23) i v) := fun N i t hi ht t1 t2 => by
    unfold mX8_addStep_J166 mX8_addStep_J187
    rcases hu with ⟨rfl, hg⟩ | ⟨rfl, hg⟩
    · refine ⟨N.2 (m + 23) i + g', by rw [add64 (by omega) (by omega)]; omega, ?_⟩
      (repeat (first | rw [ck_t (by first | with_reducible assumption | ((with_reducible apply ixA_of); (with_reducible assumption); omega; omega) | ((with_reducible apply isAr_of); (with_reducible assumption); decide) | ((with_reducible apply nI_ne0); omega; omega) | with_reducible exact isB_0 | with_reducible exact isB_1 | with_reducible exact isB_bI _)] | rw [bd_r (by with_reducible assumption)] | rw [bd_s] | rw [bd2_s] | rw [bd3_s] | rw [nm_s] | rw [nI_clamp (by omega)] | rw [nI_1] | rw [if_pos (by first | with_reducible assumption | ((with_reducible refine nI_lt ?_ ?_); omega; omega) | ((with_reducible refine nI_nlt ?_ ?_); omega; omega) | with_reducible exact ne10 | with_reducible rfl)] | rw [if_neg (by first | with_reducible assumption | ((with_reducible refine nI_lt ?_ ?_); omega; omega) | ((with_reducible refine nI_nlt ?_ ?_); omega; omega) | with_reducible exact ne10 | with_reducible rfl)]))
    · have ng := neg64 (x := g') (by omega)
      refine ⟨N.2 (m + 23) i + -g', by rw [add64 (by omega) (by omega)]; omega, ?_⟩
      (repeat (first | rw [ck_t (by first | with_reducible assumption | ((with_reducible apply ixA_of); (with_reducible assumption); omega; omega) | ((with_reducible apply isAr_of); (with_reducible assumption); decide) | ((with_reducible apply nI_ne0); omega; omega) | with_reducible exact isB_0 | with_reducible exact isB_1 | with_reducible exact isB_bI _)] | rw [bd_r (by with_reducible assumption)] | rw [bd_s] | rw [bd2_s] | rw [bd3_s] | rw [nm_s] | rw [nI_clamp (by omega)] | rw [nI_1] | rw [if_pos (by first | with_reducible assumption | ((with_reducible refine nI_lt ?_ ?_); omega; omega) | ((with_reducible refine nI_nlt ?_ ?_); omega; omega) | with_reducible exact ne10 | with_reducible rfl)] | rw [if_neg (by first | with_reducible assumption | ((with_reducible refine nI_lt ?_ ?_); omega; omega) | ((with_reducible refine nI_nlt ?_ ?_); omega; omega) | with_reducible exact ne10 | with_reducible rfl)]))
  have J121n : (∀ (j : Nat) f, A[j]? = some f → f.1 ≠ D) → ∃ M' A', mX8_addStep_J121 K R M m g' u x y (nI A.length) = some M' ∧ tlM M' m A' ∧ upE A D g A' ∧ FM m [35] [21, 22, 23] M M' := fun hno => by
    generalize hN : pI (pL (pL (pL M (m + 21) A.length x) (m + 22) A.length y) (m + 23) A.length 0) m 35 (nI (A.length + 1)) = N
    have fN : FM m [35] [21, 22, 23] M N := by rw [← hN]; exact (((FM.rf.pL (by decide)).pL (by decide)).pL (by decide)).pI (by decide)
    obtain ⟨v, v1, v2⟩ := J166 N A.length 0 hn (by rw [← hN, pI_l, pL_s]; rfl) (by omega) (by omega)
    have k1 : ∀ j, j ≠ A.length → N.2 (m + 21) j = M.2 (m + 21) j ∧ N.2 (m + 22) j = M.2 (m + 22) j ∧ N.2 (m + 23) j = M.2 (m + 23) j := fun j hj => by
      rw [← hN, pI_l]
      exact ⟨by rw [pL_n (by omega), pL_n (by omega), pL_k hj], by rw [pL_n (by omega), pL_k hj, pL_n (by omega)], by rw [pL_k hj, pL_n (by omega), pL_n (by omega)]⟩
    have k2 : N.2 (m + 21) A.length = x ∧ N.2 (m + 22) A.length = y := by
      rw [← hN, pI_l]
      exact ⟨by rw [pL_n (by omega), pL_n (by omega), pL_s], by rw [pL_n (by omega), pL_s]⟩
    refine ⟨pL N (m + 23) A.length v, A ++ [(D, g)], ?_, ⟨?_, fun i f hf => ?_⟩, Or.inr ⟨fun f hf => ?_, A, [], by rw [List.append_nil], rfl⟩, fN.tr (FM.rf.pL (by decide))⟩
    · unfold mX8_addStep_J121
      (repeat (first | rw [ck_t (by first | with_reducible assumption | ((with_reducible apply ixA_of); (with_reducible assumption); omega; omega) | ((with_reducible apply isAr_of); (with_reducible assumption); decide) | ((with_reducible apply nI_ne0); omega; omega) | with_reducible exact isB_0 | with_reducible exact isB_1 | with_reducible exact isB_bI _)] | rw [bd_r (by with_reducible assumption)] | rw [bd_s] | rw [bd2_s] | rw [bd3_s] | rw [nm_s] | rw [nI_clamp (by omega)] | rw [nI_1] | rw [pL_i] | rw [e] | rw [hN] | rw [if_pos (by first | with_reducible assumption | ((with_reducible refine nI_lt ?_ ?_); omega; omega) | ((with_reducible refine nI_nlt ?_ ?_); omega; omega) | with_reducible exact ne10 | with_reducible rfl)] | rw [if_neg (by first | with_reducible assumption | ((with_reducible refine nI_lt ?_ ?_); omega; omega) | ((with_reducible refine nI_nlt ?_ ?_); omega; omega) | with_reducible exact ne10 | with_reducible rfl)]))
      exact v2
    · rw [pL_i, ← hN, pI_s, List.length_append]; rfl
    · rw [pL_n (show m + 21 ≠ m + 23 by omega), pL_n (show m + 22 ≠ m + 23 by omega)]
      rcases get_app hf with ⟨hi, hf⟩ | ⟨hi, rfl⟩
      · obtain ⟨w1, w2, w3⟩ := k1 i (by omega)
        rw [pL_k (show i ≠ A.length by omega), w1, w2, w3]
        exact h.2 i f hf
      · subst hi
        rw [k2.1, k2.2, pL_s, v1]
        exact ⟨hx, hy, by show 0 + g = g; omega⟩
    · obtain ⟨j, -, hj⟩ := mem_get hf
      exact hno j f hj
  have hL := lp_ind (f := mX8_addStep_L80 K R M m g' u x y) (fun (i : Nat) (s : Int32) => s = nI i ∧ ∀ (j : Nat) f, j < i → A[j]? = some f → f.1 ≠ D) (fun M' => ∃ A', tlM M' m A' ∧ upE A D g A' ∧ FM m [35] [21, 22, 23] M M') A.length ?_ ?_
  · obtain ⟨M', e1, A', e2⟩ := hL A.length 0 (nI 0) (by omega) ⟨rfl, fun j f hj => absurd hj (by omega)⟩
    refine ⟨M', A', ?_, e2⟩
    unfold mX8_addStep_J75
    (repeat (first | rw [ck_t (by first | with_reducible assumption | ((with_reducible apply ixA_of); (with_reducible assumption); omega; omega) | ((with_reducible apply isAr_of); (with_reducible assumption); decide) | ((with_reducible apply nI_ne0); omega; omega) | with_reducible exact isB_0 | with_reducible exact isB_1 | with_reducible exact isB_bI _)] | rw [bd_r (by with_reducible assumption)] | rw [bd_s] | rw [bd2_s] | rw [bd3_s] | rw [nm_s] | rw [nI_clamp (by omega)] | rw [nI_1] | rw [if_pos (by first | with_reducible assumption | ((with_reducible refine nI_lt ?_ ?_); omega; omega) | ((with_reducible refine nI_nlt ?_ ?_); omega; omega) | with_reducible exact ne10 | with_reducible rfl)] | rw [if_neg (by first | with_reducible assumption | ((with_reducible refine nI_lt ?_ ?_); omega; omega) | ((with_reducible refine nI_nlt ?_ ?_); omega; omega) | with_reducible exact ne10 | with_reducible rfl)]))
    exact e1
  · rintro i s hi ⟨rfl, f1⟩
    obtain ⟨q, hq⟩ := get_ex hi
    have vq := h.pt hq
    have go : mX8_addStep_J115 K R M m g' u x y (nI i) = some (.inl (nI (i + 1))) := by unfold mX8_addStep_J115; (repeat (first | rw [ck_t (by first | with_reducible assumption | ((with_reducible apply ixA_of); (with_reducible assumption); omega; omega) | ((with_reducible apply isAr_of); (with_reducible assumption); decide) | ((with_reducible apply nI_ne0); omega; omega) | with_reducible exact isB_0 | with_reducible exact isB_1 | with_reducible exact isB_bI _)] | rw [bd_r (by with_reducible assumption)] | rw [bd_s] | rw [bd2_s] | rw [bd3_s] | rw [nm_s] | rw [nI_clamp (by omega)] | rw [nI_1] | rw [if_pos (by first | with_reducible assumption | ((with_reducible refine nI_lt ?_ ?_); omega; omega) | ((with_reducible refine nI_nlt ?_ ?_); omega; omega) | with_reducible exact ne10 | with_reducible rfl)] | rw [if_neg (by first | with_reducible assumption | ((with_reducible refine nI_lt ?_ ?_); omega; omega) | ((with_reducible refine nI_nlt ?_ ?_); omega; omega) | with_reducible exact ne10 | with_reducible rfl)]))
    show (∃ s', mX8_addStep_B80 K R M m g' u x y (nI i) = some (.inl s') ∧ _) ∨ ∃ r, mX8_addStep_B80 K R M m g' u x y (nI i) = some (.inr r) ∧ _
    by_cases c : q.1 = D
    · right
      obtain ⟨q1, q2, q3⟩ := h.2 i q hq
      have c1 : M.2 (m + 21) i = x := eq64.mpr (by rw [hx, q1, c])
      have c2 : M.2 (m + 22) i = y := eq64.mpr (by rw [hy, q2, c])
      have hbq := hb q (get_mem hq)
      obtain ⟨v, v1, v2⟩ := J166 M i q.2 (by omega) q3 hbq.1 hbq.2
      have qe : q = (D, q.2) := Prod.ext c rfl
      refine ⟨pL M (m + 23) i v, ?_, A.set i (D, q.2 + g), ⟨?_, fun j f hf => ?_⟩, Or.inl ⟨A.take i, A.drop (i + 1), q.2, ?_, set_at hi⟩, FM.rf.pL (by decide)⟩
      · have J121e : mX8_addStep_J121 K R M m g' u x y (nI i) = some (pL M (m + 23) i v) := by
          unfold mX8_addStep_J121
          rw [e, if_neg (nI_ne (show i ≠ A.length by omega) (by omega) (by omega))]
          exact v2
        unfold mX8_addStep_B80
        (repeat (first | rw [ck_t (by first | with_reducible assumption | ((with_reducible apply ixA_of); (with_reducible assumption); omega; omega) | ((with_reducible apply isAr_of); (with_reducible assumption); decide) | ((with_reducible apply nI_ne0); omega; omega) | with_reducible exact isB_0 | with_reducible exact isB_1 | with_reducible exact isB_bI _)] | rw [bd_r (by with_reducible assumption)] | rw [bd_s] | rw [bd2_s] | rw [bd3_s] | rw [nm_s] | rw [nI_clamp (by omega)] | rw [nI_1] | rw [e] | rw [if_pos (c1)] | rw [if_pos (c2)] | rw [J121e] | rw [if_pos (by first | with_reducible assumption | ((with_reducible refine nI_lt ?_ ?_); omega; omega) | ((with_reducible refine nI_nlt ?_ ?_); omega; omega) | with_reducible exact ne10 | with_reducible rfl)] | rw [if_neg (by first | with_reducible assumption | ((with_reducible refine nI_lt ?_ ?_); omega; omega) | ((with_reducible refine nI_nlt ?_ ?_); omega; omega) | with_reducible exact ne10 | with_reducible rfl)]))
        rfl
      · rw [List.length_set]; exact e
      · rw [pL_n (show m + 21 ≠ m + 23 by omega), pL_n (show m + 22 ≠ m + 23 by omega)]
        rw [List.getElem?_set] at hf
        by_cases hij : i = j
        · subst hij
          rw [if_pos rfl, if_pos hi] at hf
          cases hf
          rw [pL_s]
          exact ⟨q1.trans (congrArg Prod.fst c), q2.trans (congrArg Prod.snd c), v1⟩
        · rw [if_neg hij] at hf
          rw [pL_k (by omega)]
          exact h.2 j f hf
      · rw [← qe]; exact split_at hq
    · left
      refine ⟨nI (i + 1), ?_, rfl, fun j f hj hf => ?_⟩
      · unfold mX8_addStep_B80
        by_cases c1 : M.2 (m + 21) i = x
        · have c2 : ¬ M.2 (m + 22) i = y := fun z => c (by rw [vq]; exact Prod.ext (by rw [← hx, ← c1]) (by rw [← hy, ← z]))
          (repeat (first | rw [ck_t (by first | with_reducible assumption | ((with_reducible apply ixA_of); (with_reducible assumption); omega; omega) | ((with_reducible apply isAr_of); (with_reducible assumption); decide) | ((with_reducible apply nI_ne0); omega; omega) | with_reducible exact isB_0 | with_reducible exact isB_1 | with_reducible exact isB_bI _)] | rw [bd_r (by with_reducible assumption)] | rw [bd_s] | rw [bd2_s] | rw [bd3_s] | rw [nm_s] | rw [nI_clamp (by omega)] | rw [nI_1] | rw [e] | rw [if_pos (c1)] | rw [if_neg (c2)] | rw [go] | rw [if_pos (by first | with_reducible assumption | ((with_reducible refine nI_lt ?_ ?_); omega; omega) | ((with_reducible refine nI_nlt ?_ ?_); omega; omega) | with_reducible exact ne10 | with_reducible rfl)] | rw [if_neg (by first | with_reducible assumption | ((with_reducible refine nI_lt ?_ ?_); omega; omega) | ((with_reducible refine nI_nlt ?_ ?_); omega; omega) | with_reducible exact ne10 | with_reducible rfl)]))
        · (repeat (first | rw [ck_t (by first | with_reducible assumption | ((with_reducible apply ixA_of); (with_reducible assumption); omega; omega) | ((with_reducible apply isAr_of); (with_reducible assumption); decide) | ((with_reducible apply nI_ne0); omega; omega) | with_reducible exact isB_0 | with_reducible exact isB_1 | with_reducible exact isB_bI _)] | rw [bd_r (by with_reducible assumption)] | rw [bd_s] | rw [bd2_s] | rw [bd3_s] | rw [nm_s] | rw [nI_clamp (by omega)] | rw [nI_1] | rw [e] | rw [if_neg (c1)] | rw [go] | rw [if_pos (by first | with_reducible assumption | ((with_reducible refine nI_lt ?_ ?_); omega; omega) | ((with_reducible refine nI_nlt ?_ ?_); omega; omega) | with_reducible exact ne10 | with_reducible rfl)] | rw [if_neg (by first | with_reducible assumption | ((with_reducible refine nI_lt ?_ ?_); omega; omega) | ((with_reducible refine nI_nlt ?_ ?_); omega; omega) | with_reducible exact ne10 | with_reducible rfl)]))
      · by_cases hji : j = i
        · subst hji; rw [get_un hf hq]; exact c
        · exact f1 j f (by omega) hf
  · rintro s ⟨rfl, f1⟩
    obtain ⟨M', A', j1, j2⟩ := J121n (fun j f hf => f1 j f (get_lt hf) hf)
    refine ⟨M', ?_, A', j2⟩
    show mX8_addStep_B80 K R M m g' u x y (nI A.length) = some (.inr M')
    unfold mX8_addStep_B80
    (repeat (first | rw [ck_t (by first | with_reducible assumption | ((with_reducible apply ixA_of); (with_reducible assumption); omega; omega) | ((with_reducible apply isAr_of); (with_reducible assumption); decide) | ((with_reducible apply nI_ne0); omega; omega) | with_reducible exact isB_0 | with_reducible exact isB_1 | with_reducible exact isB_bI _)] | rw [bd_r (by with_reducible assumption)] | rw [bd_s] | rw [bd2_s] | rw [bd3_s] | rw [nm_s] | rw [nI_clamp (by omega)] | rw [nI_1] | rw [e] | rw [j1] | rw [if_pos (by first | with_reducible assumption | ((with_reducible refine nI_lt ?_ ?_); omega; omega) | ((with_reducible refine nI_nlt ?_ ?_); omega; omega) | with_reducible exact ne10 | with_reducible rfl)] | rw [if_neg (by first | with_reducible assumption | ((with_reducible refine nI_lt ?_ ?_); omega; omega) | ((with_reducible refine nI_nlt ?_ ?_); omega; omega) | with_reducible exact ne10 | with_reducible rfl)]))
    rfl
theorem addStep_ok {x y : Int64} {d : Pt} (hm : moA K R m) (h : tlM M m A) (hn : A.length < 640) (hx : x.toInt = d.1) (hy : y.toInt = d.2) (h0 : d ≠ (0, 0)) (hd : smD d) (hb : bdE 1000000000 A) : ∃ M' A', mX8_addStep K R M m x y = some M' ∧ tlM M' m A' ∧ upE A (dirD d) (amt d) A' ∧ FM m [35] [21, 22, 23] M M' := by
  have hm0 := hm.1
  have hd0 := hd
  obtain ⟨d1, d2, d3, d4⟩ := hd
  have gp' := gD_pos h0
  have gl := gD_le h0 hd0
  obtain ⟨v1, v2⟩ := gD_dvd d
  have gc : mX8_common K R M x y = some (lN (gD d)) := by
    have := gcdM_ok (K := K) (R := R) (M := M) (x := x) (y := y) (by omega) (by omega) (by omega) (by omega)
    rw [hx, hy] at this; exact this
  have gi : (lN (gD d)).toInt = gD d := lN_int (by omega)
  have n0 : ¬ lN (gD d) = 0 := fun q => by have := (lN_eq (by omega) (by decide : 0 < 2 ^ 31)).mp q; omega
  have e1 : (x / lN (gD d)).toInt = d.1 / gD d := by rw [div64 (by omega) (by omega), gi, hx, Int.tdiv_eq_ediv_of_dvd v1]
  have e2 : (y / lN (gD d)).toInt = d.2 / gD d := by rw [div64 (by omega) (by omega), gi, hy, Int.tdiv_eq_ediv_of_dvd v2]
  obtain ⟨s1, s2⟩ := sgn_div (show (0 : Int) < gD d by omega) v1
  obtain ⟨s3, s4⟩ := sgn_div (show (0 : Int) < gD d by omega) v2
  have b1 : -200000 ≤ d.1 / gD d ∧ d.1 / gD d ≤ 200000 := by
    obtain ⟨k, hk⟩ := v1
    rw [hk, Int.mul_ediv_cancel_left k (by omega)]
    have : (k.natAbs : Int) ≤ gD d * k.natAbs := by
      have := Int.mul_le_mul_of_nonneg_right (show (1 : Int) ≤ gD d by omega) (show (0 : Int) ≤ k.natAbs by omega)
      omega
    have e : (gD d * k).natAbs = gD d * k.natAbs := by rw [Int.natAbs_mul]; rfl
    have : (d.1.natAbs : Int) = gD d * k.natAbs := by rw [hk, e]; rfl
    omega
  have b2 : -200000 ≤ d.2 / gD d ∧ d.2 / gD d ≤ 200000 := by
    obtain ⟨k, hk⟩ := v2
    rw [hk, Int.mul_ediv_cancel_left k (by omega)]
    have : (k.natAbs : Int) ≤ gD d * k.natAbs := by
      have := Int.mul_le_mul_of_nonneg_right (show (1 : Int) ≤ gD d by omega) (show (0 : Int) ≤ k.natAbs by omega)
      omega
    have e : (gD d * k).natAbs = gD d * k.natAbs := by rw [Int.natAbs_mul]; rfl
    have : (d.2.natAbs : Int) = gD d * k.natAbs := by rw [hk, e]; rfl
    omega
  generalize hX : x / lN (gD d) = X at *
  generalize hY : y / lN (gD d) = Y at *
  have z0 : (0 : Int64).toInt = 0 := rfl
  have nX := neg64 (x := X) (by omega)
  have nY := neg64 (x := Y) (by omega)
  have up : upD d → ∃ M' A', mX8_addStep_J40 K R M m (lN (gD d)) X Y = some M' ∧ tlM M' m A' ∧ upE A (dirD d) (amt d) A' ∧ FM m [35] [21, 22, 23] M M' := fun u => by
    obtain ⟨w1, w2⟩ := dirD_t u
    rw [w1, w2]
    unfold mX8_addStep_J40 mX8_addStep_J45
    rw [if_neg ne10]
    unfold mX8_addStep_J60
    rw [if_neg ne10]
    exact addJ hm h hn e1 e2 (Or.inl ⟨rfl, gi⟩) (by omega) (by omega) hb
  have dn : ¬ upD d → ∃ M' A', mX8_addStep_J44 K R M m (lN (gD d)) X Y = some M' ∧ tlM M' m A' ∧ upE A (dirD d) (amt d) A' ∧ FM m [35] [21, 22, 23] M M' := fun u => by
    obtain ⟨w1, w2⟩ := dirD_f u
    rw [w1, w2]
    unfold mX8_addStep_J44 mX8_addStep_J45
    rw [if_pos rfl]
    unfold mX8_addStep_J60
    rw [if_pos rfl]
    exact addJ hm h hn (by rw [nX, e1]) (by rw [nY, e2]) (Or.inr ⟨rfl, by rw [gi]; omega⟩) (by omega) (by omega) hb
  unfold mX8_addStep
  (repeat (first | rw [ck_t (by first | with_reducible assumption | ((with_reducible apply ixA_of); (with_reducible assumption); omega; omega) | ((with_reducible apply isAr_of); (with_reducible assumption); decide) | ((with_reducible apply nI_ne0); omega; omega) | with_reducible exact isB_0 | with_reducible exact isB_1 | with_reducible exact isB_bI _)] | rw [bd_r (by with_reducible assumption)] | rw [bd_s] | rw [bd2_s] | rw [bd3_s] | rw [nm_s] | rw [nI_clamp (by omega)] | rw [nI_1] | rw [bd_e (gc)] | rw [hX] | rw [hY] | rw [if_pos (by first | with_reducible assumption | ((with_reducible refine nI_lt ?_ ?_); omega; omega) | ((with_reducible refine nI_nlt ?_ ?_); omega; omega) | with_reducible exact ne10 | with_reducible rfl)] | rw [if_neg (by first | with_reducible assumption | ((with_reducible refine nI_lt ?_ ?_); omega; omega) | ((with_reducible refine nI_nlt ?_ ?_); omega; omega) | with_reducible exact ne10 | with_reducible rfl)]))
  by_cases c1 : X ≤ 0
  · rw [if_pos c1]
    rw [le64, z0, e1] at c1
    by_cases c2 : X = 0
    · rw [if_pos c2]
      rw [eq64, z0, e1] at c2
      by_cases c3 : Y ≤ 0
      · rw [if_pos c3]
        rw [le64, z0, e2] at c3
        exact dn (by unfold upD; omega)
      · rw [if_neg c3]
        rw [le64, z0, e2] at c3
        exact up (by unfold upD; omega)
    · rw [if_neg c2]
      rw [eq64, z0, e1] at c2
      exact dn (by unfold upD; omega)
  · rw [if_neg c1]
    rw [le64, z0, e1] at c1
    exact up (by unfold upD; omega)
/-- what is known of the reference's tally under way -/
def tlJ (M : Mm) (m : Nat) (ds : List Pt) : Prop := ∃ A, tlM M m A ∧ upL [] ds A ∧ A.length ≤ ds.length ∧ bdE (200000 * (ds.length : Int)) A
theorem tlJ.fr {is as : List Nat} {M' : Mm} {ds : List Pt} (h : tlJ M m ds) (f : FM m is as M M') (h35 : 35 ∉ is) (h21 : 21 ∉ as) (h22 : 22 ∉ as) (h23 : 23 ∉ as) : tlJ M' m ds := by
  obtain ⟨A, a1, a2⟩ := h
  exact ⟨A, a1.fr f h35 h21 h22 h23, a2⟩
theorem tlJ.add {x y : Int64} {d : Pt} {ds : List Pt} (hm : moA K R m) (h : tlJ M m ds) (hn : ds.length < 640) (hx : x.toInt = d.1) (hy : y.toInt = d.2) (h0 : d ≠ (0, 0)) (hd : smD d) : ∃ M', mX8_addStep K R M m x y = some M' ∧ tlJ M' m (ds ++ [d]) ∧ FM m [35] [21, 22, 23] M M' := by
  obtain ⟨A, a1, a2, a3, a4⟩ := h
  obtain ⟨M', A', b1, b2, b3, b4⟩ := addStep_ok hm a1 (by omega) hx hy h0 hd (fun e he => by have := a4 e he; omega)
  have ab := amt_b h0 hd
  refine ⟨M', b1, ⟨A', b2, upL_snoc a2 b3, ?_, ?_⟩, b4⟩
  · have := upE_len b3; rw [List.length_append]; simp only [List.length_singleton]; omega
  · have := bdE_up b3 a4 (by omega) ab.1 ab.2
    intro e he
    have := this e he
    rw [List.length_append]; simp only [List.length_singleton]; omega
theorem addAll_ok {ps : List Pc} (hm : moA K R m) (hps : psM (M.2 (m + 1)) 0 ps) (hpp : isPs ps) : ∃ M', mX8_addAll K R M m = some M' ∧ tlJ M' m (allS ps ps.length) ∧ FM m [15, 21, 24, 35] [11, 12, 15, 16, 17, 18, 21, 22, 23] M M' := by
  have h0 := hm.1
  have h40 := hpp.1
  have r13 := mo_r13 hm
  have r14 := mo_r14 hm
  have a13 := mo_a13 hm
  have a14 := mo_a14 hm
  have lenS : ∀ p, p ≤ ps.length → (allS ps p).length ≤ 16 * p := fun p => by
    induction p with
    | zero => intro _; exact Nat.le_refl _
    | succ p ih =>
      intro hp
      have := ih (by omega)
      obtain ⟨P, hP⟩ := get_ex (l := ps) (i := p) (by omega)
      have iP := hpp.2 p P hP
      have lP := (plc_ok iP).2.2.2.1
      have sP := iP.1.2.1
      show (allS ps p ++ pcS ps p).length ≤ _
      rw [List.length_append, pcS_of hP]
      split
      · simp; omega
      · rw [sdL_len]; omega
  have hW := lp_ind (f := mX8_addAll_L7 K R m) (fun (i : Nat) (s : Int32 × Mm) => s.1 = nI i ∧ tlJ s.2 m (allS ps i) ∧ FM m [15, 21, 24, 35] [11, 12, 15, 16, 17, 18, 21, 22, 23] M s.2) (fun M' => tlJ M' m (allS ps ps.length) ∧ FM m [15, 21, 24, 35] [11, 12, 15, 16, 17, 18, 21, 22, 23] M M') ps.length ?_ ?_
  · obtain ⟨M', e1, e2⟩ := hW ps.length 0 (nI 0, pI M m 35 0) (by omega) ⟨rfl, ⟨[], ⟨pI_s, fun i e he => by simp at he⟩, rfl, Nat.le_refl _, fun e he => by cases he⟩, FM.rf.pI (by decide)⟩
    refine ⟨M', ?_, e2⟩
    unfold mX8_addAll
    (repeat (first | rw [ck_t (by first | with_reducible assumption | ((with_reducible apply ixA_of); (with_reducible assumption); omega; omega) | ((with_reducible apply isAr_of); (with_reducible assumption); decide) | ((with_reducible apply nI_ne0); omega; omega) | with_reducible exact isB_0 | with_reducible exact isB_1 | with_reducible exact isB_bI _)] | rw [bd_r (by with_reducible assumption)] | rw [bd_s] | rw [bd2_s] | rw [bd3_s] | rw [nm_s] | rw [nI_clamp (by omega)] | rw [nI_1] | rw [if_pos (by first | with_reducible assumption | ((with_reducible refine nI_lt ?_ ?_); omega; omega) | ((with_reducible refine nI_nlt ?_ ?_); omega; omega) | with_reducible exact ne10 | with_reducible rfl)] | rw [if_neg (by first | with_reducible assumption | ((with_reducible refine nI_lt ?_ ?_); omega; omega) | ((with_reducible refine nI_nlt ?_ ?_); omega; omega) | with_reducible exact ne10 | with_reducible rfl)]))
    exact e1
  · rintro i ⟨z, N⟩ hi ⟨rfl, f1, f2⟩
    have f1 : tlJ N m (allS ps i) := f1
    have f2 : FM m [15, 21, 24, 35] [11, 12, 15, 16, 17, 18, 21, 22, 23] M N := f2
    have hN := hps.fr f2 (by decide)
    obtain ⟨P, hP⟩ := get_ex hi
    have iP := hpp.2 i P hP
    have sP := iP.1.2.1
    have s3 := iP.1.1
    have go : ∀ N, mX8_addAll_J83 K R N m (nI i) = some (.inl (nI (i + 1), N)) := fun N => by unfold mX8_addAll_J83; (repeat (first | rw [ck_t (by first | with_reducible assumption | ((with_reducible apply ixA_of); (with_reducible assumption); omega; omega) | ((with_reducible apply isAr_of); (with_reducible assumption); decide) | ((with_reducible apply nI_ne0); omega; omega) | with_reducible exact isB_0 | with_reducible exact isB_1 | with_reducible exact isB_bI _)] | rw [bd_r (by with_reducible assumption)] | rw [bd_s] | rw [bd2_s] | rw [bd3_s] | rw [nm_s] | rw [nI_clamp (by omega)] | rw [nI_1] | rw [if_pos (by first | with_reducible assumption | ((with_reducible refine nI_lt ?_ ?_); omega; omega) | ((with_reducible refine nI_nlt ?_ ?_); omega; omega) | with_reducible exact ne10 | with_reducible rfl)] | rw [if_neg (by first | with_reducible assumption | ((with_reducible refine nI_lt ?_ ?_); omega; omega) | ((with_reducible refine nI_nlt ?_ ?_); omega; omega) | with_reducible exact ne10 | with_reducible rfl)]))
    left
    show ∃ s', mX8_addAll_B7 K R m (nI i) N = some (.inl s') ∧ _
    obtain ⟨v, v1, v2⟩ := isLaid_ok hm hN hP h40
    unfold mX8_addAll_B7
    (repeat (first | rw [ck_t (by first | with_reducible assumption | ((with_reducible apply ixA_of); (with_reducible assumption); omega; omega) | ((with_reducible apply isAr_of); (with_reducible assumption); decide) | ((with_reducible apply nI_ne0); omega; omega) | with_reducible exact isB_0 | with_reducible exact isB_1 | with_reducible exact isB_bI _)] | rw [bd_r (by with_reducible assumption)] | rw [bd_s] | rw [bd2_s] | rw [bd3_s] | rw [nm_s] | rw [nI_clamp (by omega)] | rw [nI_1] | rw [bd_e (piecesM_ok hm hN)] | rw [bd_e (v1)] | rw [if_pos (by first | with_reducible assumption | ((with_reducible refine nI_lt ?_ ?_); omega; omega) | ((with_reducible refine nI_nlt ?_ ?_); omega; omega) | with_reducible exact ne10 | with_reducible rfl)] | rw [if_neg (by first | with_reducible assumption | ((with_reducible refine nI_lt ?_ ?_); omega; omega) | ((with_reducible refine nI_nlt ?_ ?_); omega; omega) | with_reducible exact ne10 | with_reducible rfl)]))
    rcases v2 with ⟨rfl, v2⟩ | ⟨rfl, v2⟩
    · rw [if_neg ne10]
      obtain ⟨N2, a1, a2, a3⟩ := lookA_ok hm hN hP h40 iP
      obtain ⟨q1, q2, q3, q4, q5⟩ := plc_ok iP
      have lS := lenS i (by omega)
      have bB := inBs_of q5
      have dS := q2.ds (by omega)
      generalize hl : plc P = l at *
      have hW2 := lp_ind (f := mX8_addAll_L30 K R m (nI i)) (fun (j : Nat) (s : Int32 × Mm) => s.1 = nI j ∧ tlJ s.2 m (allS ps i ++ sdL l j) ∧ FM m [35] [21, 22, 23] N2 s.2) (fun r => ∃ N3, r = .inl (nI (i + 1), N3) ∧ tlJ N3 m (allS ps i ++ sdL l l.length) ∧ FM m [35] [21, 22, 23] N2 N3) l.length ?_ ?_
      · obtain ⟨r, e1, N3, rfl, e2, e3⟩ := hW2 l.length 0 (nI 0, N2) (by omega) ⟨rfl, by show tlJ N2 m (allS ps i ++ []); rw [List.append_nil]; exact f1.fr a3 (by decide) (by decide) (by decide) (by decide), FM.rf⟩
        (repeat (first | rw [ck_t (by first | with_reducible assumption | ((with_reducible apply ixA_of); (with_reducible assumption); omega; omega) | ((with_reducible apply isAr_of); (with_reducible assumption); decide) | ((with_reducible apply nI_ne0); omega; omega) | with_reducible exact isB_0 | with_reducible exact isB_1 | with_reducible exact isB_bI _)] | rw [bd_r (by with_reducible assumption)] | rw [bd_s] | rw [bd2_s] | rw [bd3_s] | rw [nm_s] | rw [nI_clamp (by omega)] | rw [nI_1] | rw [bd_e (a1)] | rw [if_pos (by first | with_reducible assumption | ((with_reducible refine nI_lt ?_ ?_); omega; omega) | ((with_reducible refine nI_nlt ?_ ?_); omega; omega) | with_reducible exact ne10 | with_reducible rfl)] | rw [if_neg (by first | with_reducible assumption | ((with_reducible refine nI_lt ?_ ?_); omega; omega) | ((with_reducible refine nI_nlt ?_ ?_); omega; omega) | with_reducible exact ne10 | with_reducible rfl)]))
        refine ⟨_, e1, rfl, ?_, (f2.tr (a3.mo (by decide) (by decide))).tr (e3.mo (by decide) (by decide))⟩
        show tlJ N3 m (allS ps i ++ pcS ps i)
        rw [pcS_of hP, v2, hl]; exact e2
      · rintro j ⟨z, Q⟩ hj ⟨rfl, g1, g2⟩
        have g1 : tlJ Q m (allS ps i ++ sdL l j) := g1
        have g2 : FM m [35] [21, 22, 23] N2 Q := g2
        have hQ := a2.fr g2 (by decide) (by decide) (by decide)
        have e := hQ.1
        have hj1 := mod_lt' hj
        have gi := gp_get hj
        have gj := gp_get hj1
        obtain ⟨u1, u2⟩ := hQ.2 _ _ gi
        obtain ⟨w1, w2⟩ := hQ.2 _ _ gj
        obtain ⟨B1, B2, B3, B4⟩ := bB _ _ gi
        obtain ⟨C1, C2, C3, C4⟩ := bB _ _ gj
        obtain ⟨s1, s2⟩ := sdv_ok bB dS (by omega) hj
        obtain ⟨N3, c1, c2, c3⟩ := tlJ.add (x := Q.2 (m + 11) ((j + 1) % l.length) - Q.2 (m + 11) j) (y := Q.2 (m + 12) ((j + 1) % l.length) - Q.2 (m + 12) j) (d := sdv l j) hm g1 (by rw [List.length_append, sdL_len]; omega) (by rw [sub64 (by omega) (by omega), u1, w1]; rfl) (by rw [sub64 (by omega) (by omega), u2, w2]; rfl) s1 s2
        refine Or.inl ⟨(nI (j + 1), N3), ?_, rfl, ?_, g2.tr c3⟩
        · show mX8_addAll_B30 K R m (nI i) (nI j) Q = _
          unfold mX8_addAll_B30
          (repeat (first | rw [ck_t (by first | with_reducible assumption | ((with_reducible apply ixA_of); (with_reducible assumption); omega; omega) | ((with_reducible apply isAr_of); (with_reducible assumption); decide) | ((with_reducible apply nI_ne0); omega; omega) | with_reducible exact isB_0 | with_reducible exact isB_1 | with_reducible exact isB_bI _)] | rw [bd_r (by with_reducible assumption)] | rw [bd_s] | rw [bd2_s] | rw [bd3_s] | rw [nm_s] | rw [nI_clamp (by omega)] | rw [nI_1] | rw [e] | rw [pk_rem (by omega) (by omega) (by omega)] | rw [bd_e (c1)] | rw [if_pos (by first | with_reducible assumption | ((with_reducible refine nI_lt ?_ ?_); omega; omega) | ((with_reducible refine nI_nlt ?_ ?_); omega; omega) | with_reducible exact ne10 | with_reducible rfl)] | rw [if_neg (by first | with_reducible assumption | ((with_reducible refine nI_lt ?_ ?_); omega; omega) | ((with_reducible refine nI_nlt ?_ ?_); omega; omega) | with_reducible exact ne10 | with_reducible rfl)]))
        · show tlJ N3 m (allS ps i ++ (sdL l j ++ [sdv l j]))
          rw [← List.append_assoc]; exact c2
      · rintro ⟨z, Q⟩ ⟨rfl, g1, g2⟩
        have g2 : FM m [35] [21, 22, 23] N2 Q := g2
        have e := (a2.fr g2 (by decide) (by decide) (by decide)).1
        refine ⟨_, ?_, Q, rfl, g1, g2⟩
        show mX8_addAll_B30 K R m (nI i) (nI l.length) Q = _
        unfold mX8_addAll_B30
        (repeat (first | rw [ck_t (by first | with_reducible assumption | ((with_reducible apply ixA_of); (with_reducible assumption); omega; omega) | ((with_reducible apply isAr_of); (with_reducible assumption); decide) | ((with_reducible apply nI_ne0); omega; omega) | with_reducible exact isB_0 | with_reducible exact isB_1 | with_reducible exact isB_bI _)] | rw [bd_r (by with_reducible assumption)] | rw [bd_s] | rw [bd2_s] | rw [bd3_s] | rw [nm_s] | rw [nI_clamp (by omega)] | rw [nI_1] | rw [e] | rw [go Q] | rw [if_pos (by first | with_reducible assumption | ((with_reducible refine nI_lt ?_ ?_); omega; omega) | ((with_reducible refine nI_nlt ?_ ?_); omega; omega) | with_reducible exact ne10 | with_reducible rfl)] | rw [if_neg (by first | with_reducible assumption | ((with_reducible refine nI_lt ?_ ?_); omega; omega) | ((with_reducible refine nI_nlt ?_ ?_); omega; omega) | with_reducible exact ne10 | with_reducible rfl)]))
        rfl
    · rw [if_pos rfl]
      refine ⟨_, go N, rfl, ?_, f2⟩
      show tlJ N m (allS ps i ++ pcS ps i)
      rw [pcS_of hP, if_pos (by simpa using v2), List.append_nil]; exact f1
  · rintro ⟨z, N⟩ ⟨rfl, f1, f2⟩
    have f2 : FM m [15, 21, 24, 35] [11, 12, 15, 16, 17, 18, 21, 22, 23] M N := f2
    have hN := hps.fr f2 (by decide)
    refine ⟨N, ?_, f1, f2⟩
    show mX8_addAll_B7 K R m (nI ps.length) N = _
    unfold mX8_addAll_B7
    (repeat (first | rw [ck_t (by first | with_reducible assumption | ((with_reducible apply ixA_of); (with_reducible assumption); omega; omega) | ((with_reducible apply isAr_of); (with_reducible assumption); decide) | ((with_reducible apply nI_ne0); omega; omega) | with_reducible exact isB_0 | with_reducible exact isB_1 | with_reducible exact isB_bI _)] | rw [bd_r (by with_reducible assumption)] | rw [bd_s] | rw [bd2_s] | rw [bd3_s] | rw [nm_s] | rw [nI_clamp (by omega)] | rw [nI_1] | rw [bd_e (piecesM_ok hm hN)] | rw [if_pos (by first | with_reducible assumption | ((with_reducible refine nI_lt ?_ ?_); omega; omega) | ((with_reducible refine nI_nlt ?_ ?_); omega; omega) | with_reducible exact ne10 | with_reducible rfl)] | rw [if_neg (by first | with_reducible assumption | ((with_reducible refine nI_lt ?_ ?_); omega; omega) | ((with_reducible refine nI_nlt ?_ ?_); omega; omega) | with_reducible exact ne10 | with_reducible rfl)]))
    rfl
end TM
