/-! sums, sum told alike -/
noncomputable def ltb (d : Pt) (f : En) : Bool := @decide (ltP f.1 d) (Classical.propDecidable _)
noncomputable def ahd (d : Pt) (f : En) : Bool := ltb d f && nz f
theorem ltb_t {d : Pt} {f : En} (h : ltP f.1 d) : ltb d f = true := by unfold ltb; exact @decide_eq_true _ (Classical.propDecidable _) h
theorem ltb_f {d : Pt} {f : En} (h : ¬ ltP f.1 d) : ltb d f = false := by unfold ltb; exact @decide_eq_false _ (Classical.propDecidable _) h
theorem srt_pw {A : List En} (h : srt A) : A.Pairwise (fun e f => ltP e.1 f.1) := List.pairwise_iff_getElem.mpr (fun i j hi hj hij => h i j _ _ hij (List.getElem?_eq_getElem hi) (List.getElem?_eq_getElem hj))
theorem rank_at {B : List En} (h : B.Pairwise (fun e f => ltP e.1 f.1)) {i : Nat} {e : En} (he : B[i]? = some e) : (B.filter (ltb e.1)).length = i := by
  have s := split_at he
  have hl := get_lt he
  have hp := h
  rw [s, List.pairwise_append] at hp
  obtain ⟨-, p2, p3⟩ := hp
  rw [List.pairwise_cons] at p2
  rw [s, List.filter_append, List.filter_cons_of_neg (by rw [ltb_f ltP_irr]; decide), List.filter_eq_self.mpr (fun f hf => ltb_t (p3 f hf e List.mem_cons_self)), List.filter_eq_nil_iff.mpr (fun f hf => by rw [ltb_f (fun q => ltP_asy (p2.1 f hf) q)]; decide), List.append_nil, List.length_take]
  omega
theorem rank_of {A C : List En} (hs : srt A) (p : A.Perm C) {i : Nat} {e : En} (he : (A.filter nz)[i]? = some e) : (C.filter (ahd e.1)).length = i := by
  rw [← rank_at ((srt_pw hs).filter nz) he, List.filter_filter]
  exact ((p.filter (ahd e.1)).length_eq).symm
theorem rank_link {A C : List En} (hs : srt A) (p : A.Perm C) {e : En} (he : e ∈ C) (hz : nz e = true) : (A.filter nz)[(C.filter (ahd e.1)).length]? = some e := by
  have : e ∈ A.filter nz := List.mem_filter.mpr ⟨p.mem_iff.mpr he, hz⟩
  obtain ⟨i, -, hi⟩ := mem_get this
  rw [rank_of hs p hi]; exact hi
theorem nz_of {q : En} {x : Int64} (h : x.toInt = q.2) : (x = 0 ∧ nz q = false) ∨ (¬ x = 0 ∧ nz q = true) := by
  unfold nz
  by_cases c : x = 0
  · refine Or.inl ⟨c, ?_⟩
    rw [eq64, h] at c
    have c : q.2 = 0 := c
    simp [c]
  · refine Or.inr ⟨c, ?_⟩
    rw [eq64, h] at c
    have c : ¬ q.2 = 0 := c
    simp [c]
theorem ftk {C : List En} {f : En → Bool} {i : Nat} {q : En} (hq : C[i]? = some q) : ((C.take (i + 1)).filter f).length = ((C.take i).filter f).length + (if f q = true then 1 else 0) := by
  rw [take_app hq, List.filter_append, List.length_append]
  by_cases h : f q = true
  · rw [if_pos h, List.filter_cons_of_pos h]; rfl
  · rw [if_neg h, List.filter_cons_of_neg h]; rfl
section SU
variable {K : Kk} {R : Rr} {M : Mm} {m : Nat} {C : List En}
theorem sumsM_J (hm : moA K R m) (h : tlM M m C) (hC : C.length ≤ 640) : lp (mX8_sums_L8 K R M m) (0, 0) = some ((nI (C.filter nz).length).toInt64, M) := by
  have h3 := mo_r34 hm
  have h6 := mo_a34 hm
  have e := h.1
  have hL := lp_ind (f := mX8_sums_L8 K R M m) (fun (i : Nat) (s : Int32 × Int32) => s = (nI ((C.take i).filter nz).length, nI i)) (fun r => r = ((nI (C.filter nz).length).toInt64, M)) C.length ?_ ?_
  · obtain ⟨r, e1, rfl⟩ := hL C.length 0 (0, nI 0) (by omega) rfl
    exact e1
  · rintro i s hi rfl
    obtain ⟨q, hq⟩ := get_ex hi
    left
    show ∃ s', mX8_sums_B8 K R M m (nI ((C.take i).filter nz).length) (nI i) = some (.inl s') ∧ _
    unfold mX8_sums_B8
    have j : ∀ u w : Int32, mX8_sums_J33 K R M m (nI i) u w = some (.inl (u + w, nI (i + 1))) := fun u w => by unfold mX8_sums_J33; (repeat (first | rw [ck_t (by first | with_reducible assumption | ((with_reducible apply ixA_of); (with_reducible assumption); omega; omega) | ((with_reducible apply isAr_of); (with_reducible assumption); decide) | ((with_reducible apply nI_ne0); omega; omega) | with_reducible exact isB_0 | with_reducible exact isB_1 | with_reducible exact isB_bI _)] | rw [bd_r (by with_reducible assumption)] | rw [bd_s] | rw [bd2_s] | rw [bd3_s] | rw [nm_s] | rw [nI_clamp (by omega)] | rw [nI_1] | rw [if_pos (by first | with_reducible assumption | ((with_reducible refine nI_lt ?_ ?_); omega; omega) | ((with_reducible refine nI_nlt ?_ ?_); omega; omega) | with_reducible exact ne10 | with_reducible rfl)] | rw [if_neg (by first | with_reducible assumption | ((with_reducible refine nI_lt ?_ ?_); omega; omega) | ((with_reducible refine nI_nlt ?_ ?_); omega; omega) | with_reducible exact ne10 | with_reducible rfl)]))
    rcases nz_of (h.2 i q hq).2.2 with ⟨c, z⟩ | ⟨c, z⟩
    · refine ⟨(nI ((C.take i).filter nz).length, nI (i + 1)), ?_, ?_⟩
      · (repeat (first | rw [ck_t (by first | with_reducible assumption | ((with_reducible apply ixA_of); (with_reducible assumption); omega; omega) | ((with_reducible apply isAr_of); (with_reducible assumption); decide) | ((with_reducible apply nI_ne0); omega; omega) | with_reducible exact isB_0 | with_reducible exact isB_1 | with_reducible exact isB_bI _)] | rw [bd_r (by with_reducible assumption)] | rw [bd_s] | rw [bd2_s] | rw [bd3_s] | rw [nm_s] | rw [nI_clamp (by omega)] | rw [nI_1] | rw [e] | rw [if_pos (c)] | rw [j] | rw [Int32.add_zero] | rw [if_pos (by first | with_reducible assumption | ((with_reducible refine nI_lt ?_ ?_); omega; omega) | ((with_reducible refine nI_nlt ?_ ?_); omega; omega) | with_reducible exact ne10 | with_reducible rfl)] | rw [if_neg (by first | with_reducible assumption | ((with_reducible refine nI_lt ?_ ?_); omega; omega) | ((with_reducible refine nI_nlt ?_ ?_); omega; omega) | with_reducible exact ne10 | with_reducible rfl)]))
      · rw [ftk hq, z]; rfl
    · refine ⟨(nI (((C.take i).filter nz).length + 1), nI (i + 1)), ?_, ?_⟩
      · (repeat (first | rw [ck_t (by first | with_reducible assumption | ((with_reducible apply ixA_of); (with_reducible assumption); omega; omega) | ((with_reducible apply isAr_of); (with_reducible assumption); decide) | ((with_reducible apply nI_ne0); omega; omega) | with_reducible exact isB_0 | with_reducible exact isB_1 | with_reducible exact isB_bI _)] | rw [bd_r (by with_reducible assumption)] | rw [bd_s] | rw [bd2_s] | rw [bd3_s] | rw [nm_s] | rw [nI_clamp (by omega)] | rw [nI_1] | rw [e] | rw [if_neg (c)] | rw [j] | rw [if_pos (by first | with_reducible assumption | ((with_reducible refine nI_lt ?_ ?_); omega; omega) | ((with_reducible refine nI_nlt ?_ ?_); omega; omega) | with_reducible exact ne10 | with_reducible rfl)] | rw [if_neg (by first | with_reducible assumption | ((with_reducible refine nI_lt ?_ ?_); omega; omega) | ((with_reducible refine nI_nlt ?_ ?_); omega; omega) | with_reducible exact ne10 | with_reducible rfl)]))
      · rw [ftk hq, z]; rfl
  · rintro s rfl
    refine ⟨_, ?_, rfl⟩
    show mX8_sums_B8 K R M m (nI ((C.take C.length).filter nz).length) (nI C.length) = _
    rw [List.take_length]
    unfold mX8_sums_B8
    (repeat (first | rw [ck_t (by first | with_reducible assumption | ((with_reducible apply ixA_of); (with_reducible assumption); omega; omega) | ((with_reducible apply isAr_of); (with_reducible assumption); decide) | ((with_reducible apply nI_ne0); omega; omega) | with_reducible exact isB_0 | with_reducible exact isB_1 | with_reducible exact isB_bI _)] | rw [bd_r (by with_reducible assumption)] | rw [bd_s] | rw [bd2_s] | rw [bd3_s] | rw [nm_s] | rw [nI_clamp (by omega)] | rw [nI_1] | rw [e] | rw [if_pos (by first | with_reducible assumption | ((with_reducible refine nI_lt ?_ ?_); omega; omega) | ((with_reducible refine nI_nlt ?_ ?_); omega; omega) | with_reducible exact ne10 | with_reducible rfl)] | rw [if_neg (by first | with_reducible assumption | ((with_reducible refine nI_lt ?_ ?_); omega; omega) | ((with_reducible refine nI_nlt ?_ ?_); omega; omega) | with_reducible exact ne10 | with_reducible rfl)]))
    rfl
theorem isAhead_ok {j k : Nat} {f g : En} (hm : moA K R m) (h : tlM M m C) (hC : C.length ≤ 640) (hf : C[j]? = some f) (hg : C[k]? = some g) : ∃ v, mX8_isAhead K R M m (nI j) (nI k) = some v ∧ iv v (ltP f.1 g.1) := by
  have h0 := hm.1
  have h1 := mo_r32 hm
  have h2 := mo_r33 hm
  have h4 := mo_a32 hm
  have h5 := mo_a33 hm
  have lj := get_lt hf
  have lk := get_lt hg
  have vf := h.pt hf
  have vg := h.pt hg
  rw [vf, vg]
  have one : mX8_isAhead_J48 K R M = some 1 := rfl
  unfold mX8_isAhead
  by_cases c1 : M.2 (m + 21) j < M.2 (m + 21) k
  · exact ⟨1, by (repeat (first | rw [ck_t (by first | with_reducible assumption | ((with_reducible apply ixA_of); (with_reducible assumption); omega; omega) | ((with_reducible apply isAr_of); (with_reducible assumption); decide) | ((with_reducible apply nI_ne0); omega; omega) | with_reducible exact isB_0 | with_reducible exact isB_1 | with_reducible exact isB_bI _)] | rw [bd_r (by with_reducible assumption)] | rw [bd_s] | rw [bd2_s] | rw [bd3_s] | rw [nm_s] | rw [nI_clamp (by omega)] | rw [nI_1] | rw [one] | rw [if_pos (by first | with_reducible assumption | ((with_reducible refine nI_lt ?_ ?_); omega; omega) | ((with_reducible refine nI_nlt ?_ ?_); omega; omega) | with_reducible exact ne10 | with_reducible rfl)] | rw [if_neg (by first | with_reducible assumption | ((with_reducible refine nI_lt ?_ ?_); omega; omega) | ((with_reducible refine nI_nlt ?_ ?_); omega; omega) | with_reducible exact ne10 | with_reducible rfl)])), Or.inl ⟨rfl, Or.inl (lt64.mp c1)⟩⟩
  · by_cases c2 : M.2 (m + 21) j = M.2 (m + 21) k
    · by_cases c3 : M.2 (m + 22) j < M.2 (m + 22) k
      · exact ⟨1, by (repeat (first | rw [ck_t (by first | with_reducible assumption | ((with_reducible apply ixA_of); (with_reducible assumption); omega; omega) | ((with_reducible apply isAr_of); (with_reducible assumption); decide) | ((with_reducible apply nI_ne0); omega; omega) | with_reducible exact isB_0 | with_reducible exact isB_1 | with_reducible exact isB_bI _)] | rw [bd_r (by with_reducible assumption)] | rw [bd_s] | rw [bd2_s] | rw [bd3_s] | rw [nm_s] | rw [nI_clamp (by omega)] | rw [nI_1] | rw [one] | rw [if_pos (by first | with_reducible assumption | ((with_reducible refine nI_lt ?_ ?_); omega; omega) | ((with_reducible refine nI_nlt ?_ ?_); omega; omega) | with_reducible exact ne10 | with_reducible rfl)] | rw [if_neg (by first | with_reducible assumption | ((with_reducible refine nI_lt ?_ ?_); omega; omega) | ((with_reducible refine nI_nlt ?_ ?_); omega; omega) | with_reducible exact ne10 | with_reducible rfl)])), Or.inl ⟨rfl, Or.inr ⟨eq64.mp c2, lt64.mp c3⟩⟩⟩
      · exact ⟨0, by (repeat (first | rw [ck_t (by first | with_reducible assumption | ((with_reducible apply ixA_of); (with_reducible assumption); omega; omega) | ((with_reducible apply isAr_of); (with_reducible assumption); decide) | ((with_reducible apply nI_ne0); omega; omega) | with_reducible exact isB_0 | with_reducible exact isB_1 | with_reducible exact isB_bI _)] | rw [bd_r (by with_reducible assumption)] | rw [bd_s] | rw [bd2_s] | rw [bd3_s] | rw [nm_s] | rw [nI_clamp (by omega)] | rw [nI_1] | rw [one] | rw [if_pos (by first | with_reducible assumption | ((with_reducible refine nI_lt ?_ ?_); omega; omega) | ((with_reducible refine nI_nlt ?_ ?_); omega; omega) | with_reducible exact ne10 | with_reducible rfl)] | rw [if_neg (by first | with_reducible assumption | ((with_reducible refine nI_lt ?_ ?_); omega; omega) | ((with_reducible refine nI_nlt ?_ ?_); omega; omega) | with_reducible exact ne10 | with_reducible rfl)])), Or.inr ⟨rfl, by rw [lt64] at c1 c3; rintro (g | ⟨-, g⟩) <;> simp only at g <;> omega⟩⟩
    · exact ⟨0, by (repeat (first | rw [ck_t (by first | with_reducible assumption | ((with_reducible apply ixA_of); (with_reducible assumption); omega; omega) | ((with_reducible apply isAr_of); (with_reducible assumption); decide) | ((with_reducible apply nI_ne0); omega; omega) | with_reducible exact isB_0 | with_reducible exact isB_1 | with_reducible exact isB_bI _)] | rw [bd_r (by with_reducible assumption)] | rw [bd_s] | rw [bd2_s] | rw [bd3_s] | rw [nm_s] | rw [nI_clamp (by omega)] | rw [nI_1] | rw [one] | rw [if_pos (by first | with_reducible assumption | ((with_reducible refine nI_lt ?_ ?_); omega; omega) | ((with_reducible refine nI_nlt ?_ ?_); omega; omega) | with_reducible exact ne10 | with_reducible rfl)] | rw [if_neg (by first | with_reducible assumption | ((with_reducible refine nI_lt ?_ ?_); omega; omega) | ((with_reducible refine nI_nlt ?_ ?_); omega; omega) | with_reducible exact ne10 | with_reducible rfl)])), Or.inr ⟨rfl, by rw [lt64] at c1; rw [eq64] at c2; rintro (g | ⟨g, -⟩) <;> simp only at g <;> omega⟩⟩
def pkE (e : En) (n : Nat) : Int := if n = 0 then e.1.1 else if n = 1 then e.1.2 else e.2
theorem sumM_in {i0 n k : Nat} {e : En} (hm : moA K R m) (h : tlM M m C) (hC : C.length ≤ 640) (hi0 : i0 < 2 ^ 31) (hn : n < 3) (he : C[k]? = some e) : (nz e = true ∧ (C.filter (ahd e.1)).length = i0 ∧ ∃ v, lp (mX8_sum_L40 K R M m (nI i0) (nI n) (nI k)) (0, 0) = some (.inr (v, M)) ∧ v.toInt = pkE e n) ∨ (¬ (nz e = true ∧ (C.filter (ahd e.1)).length = i0) ∧ lp (mX8_sum_L40 K R M m (nI i0) (nI n) (nI k)) (0, 0) = some (.inl (nI (k + 1)))) := by
  have h1 := mo_r32 hm
  have h2 := mo_r33 hm
  have h3 := mo_r34 hm
  have h4 := mo_a32 hm
  have h5 := mo_a33 hm
  have h6 := mo_a34 hm
  have e0 := h.1
  have lk := get_lt he
  obtain ⟨v1, v2, v3⟩ := h.2 k e he
  have fl : (C.filter (ahd e.1)).length ≤ 640 := by have := List.length_filter_le (ahd e.1) C; omega
  have hL := lp_ind (f := mX8_sum_L40 K R M m (nI i0) (nI n) (nI k)) (fun (i : Nat) (s : Int32 × Int32) => s = (nI ((C.take i).filter (ahd e.1)).length, nI i)) (fun r => (nz e = true ∧ (C.filter (ahd e.1)).length = i0 ∧ ∃ v, r = .inr (v, M) ∧ v.toInt = pkE e n) ∨ (¬ (nz e = true ∧ (C.filter (ahd e.1)).length = i0) ∧ r = .inl (nI (k + 1)))) C.length ?_ ?_
  · obtain ⟨r, e1, e2⟩ := hL C.length 0 (0, nI 0) (by omega) rfl
    rcases e2 with ⟨a1, a2, v, rfl, a3⟩ | ⟨a1, rfl⟩
    · exact Or.inl ⟨a1, a2, v, e1, a3⟩
    · exact Or.inr ⟨a1, e1⟩
  · rintro i s hi rfl
    obtain ⟨q, hq⟩ := get_ex hi
    left
    show ∃ s', mX8_sum_B40 K R M m (nI i0) (nI n) (nI k) (nI ((C.take i).filter (ahd e.1)).length) (nI i) = some (.inl s') ∧ _
    unfold mX8_sum_B40
    have j : ∀ u w : Int32, mX8_sum_J78 K R M m (nI i0) (nI n) (nI k) (nI i) u w = some (.inl (u + w, nI (i + 1))) := fun u w => by unfold mX8_sum_J78; (repeat (first | rw [ck_t (by first | with_reducible assumption | ((with_reducible apply ixA_of); (with_reducible assumption); omega; omega) | ((with_reducible apply isAr_of); (with_reducible assumption); decide) | ((with_reducible apply nI_ne0); omega; omega) | with_reducible exact isB_0 | with_reducible exact isB_1 | with_reducible exact isB_bI _)] | rw [bd_r (by with_reducible assumption)] | rw [bd_s] | rw [bd2_s] | rw [bd3_s] | rw [nm_s] | rw [nI_clamp (by omega)] | rw [nI_1] | rw [if_pos (by first | with_reducible assumption | ((with_reducible refine nI_lt ?_ ?_); omega; omega) | ((with_reducible refine nI_nlt ?_ ?_); omega; omega) | with_reducible exact ne10 | with_reducible rfl)] | rw [if_neg (by first | with_reducible assumption | ((with_reducible refine nI_lt ?_ ?_); omega; omega) | ((with_reducible refine nI_nlt ?_ ?_); omega; omega) | with_reducible exact ne10 | with_reducible rfl)]))
    have j0 : ∀ u : Int32, mX8_sum_J77 K R M m (nI i0) (nI n) (nI k) (nI i) u = some (.inl (u, nI (i + 1))) := fun u => by unfold mX8_sum_J77; rw [j, Int32.add_zero]
    obtain ⟨w, w1, w2⟩ := isAhead_ok hm h hC hq he
    rcases nz_of (h.2 i q hq).2.2 with ⟨c, z⟩ | ⟨c, z⟩
    · refine ⟨(nI ((C.take i).filter (ahd e.1)).length, nI (i + 1)), ?_, ?_⟩
      · (repeat (first | rw [ck_t (by first | with_reducible assumption | ((with_reducible apply ixA_of); (with_reducible assumption); omega; omega) | ((with_reducible apply isAr_of); (with_reducible assumption); decide) | ((with_reducible apply nI_ne0); omega; omega) | with_reducible exact isB_0 | with_reducible exact isB_1 | with_reducible exact isB_bI _)] | rw [bd_r (by with_reducible assumption)] | rw [bd_s] | rw [bd2_s] | rw [bd3_s] | rw [nm_s] | rw [nI_clamp (by omega)] | rw [nI_1] | rw [e0] | rw [if_pos (c)] | rw [j0] | rw [if_pos (by first | with_reducible assumption | ((with_reducible refine nI_lt ?_ ?_); omega; omega) | ((with_reducible refine nI_nlt ?_ ?_); omega; omega) | with_reducible exact ne10 | with_reducible rfl)] | rw [if_neg (by first | with_reducible assumption | ((with_reducible refine nI_lt ?_ ?_); omega; omega) | ((with_reducible refine nI_nlt ?_ ?_); omega; omega) | with_reducible exact ne10 | with_reducible rfl)]))
      · rw [ftk hq, show ahd e.1 q = false by unfold ahd; rw [z, Bool.and_false]]; rfl
    · rcases w2 with ⟨rfl, w2⟩ | ⟨rfl, w2⟩
      · refine ⟨(nI (((C.take i).filter (ahd e.1)).length + 1), nI (i + 1)), ?_, ?_⟩
        · (repeat (first | rw [ck_t (by first | with_reducible assumption | ((with_reducible apply ixA_of); (with_reducible assumption); omega; omega) | ((with_reducible apply isAr_of); (with_reducible assumption); decide) | ((with_reducible apply nI_ne0); omega; omega) | with_reducible exact isB_0 | with_reducible exact isB_1 | with_reducible exact isB_bI _)] | rw [bd_r (by with_reducible assumption)] | rw [bd_s] | rw [bd2_s] | rw [bd3_s] | rw [nm_s] | rw [nI_clamp (by omega)] | rw [nI_1] | rw [e0] | rw [if_neg (c)] | rw [bd_e (w1)] | rw [j] | rw [if_pos (by first | with_reducible assumption | ((with_reducible refine nI_lt ?_ ?_); omega; omega) | ((with_reducible refine nI_nlt ?_ ?_); omega; omega) | with_reducible exact ne10 | with_reducible rfl)] | rw [if_neg (by first | with_reducible assumption | ((with_reducible refine nI_lt ?_ ?_); omega; omega) | ((with_reducible refine nI_nlt ?_ ?_); omega; omega) | with_reducible exact ne10 | with_reducible rfl)]))
        · rw [ftk hq, show ahd e.1 q = true by unfold ahd; rw [z, ltb_t w2]; rfl]; rfl
      · refine ⟨(nI ((C.take i).filter (ahd e.1)).length, nI (i + 1)), ?_, ?_⟩
        · (repeat (first | rw [ck_t (by first | with_reducible assumption | ((with_reducible apply ixA_of); (with_reducible assumption); omega; omega) | ((with_reducible apply isAr_of); (with_reducible assumption); decide) | ((with_reducible apply nI_ne0); omega; omega) | with_reducible exact isB_0 | with_reducible exact isB_1 | with_reducible exact isB_bI _)] | rw [bd_r (by with_reducible assumption)] | rw [bd_s] | rw [bd2_s] | rw [bd3_s] | rw [nm_s] | rw [nI_clamp (by omega)] | rw [nI_1] | rw [e0] | rw [if_neg (c)] | rw [bd_e (w1)] | rw [j0] | rw [if_pos (by first | with_reducible assumption | ((with_reducible refine nI_lt ?_ ?_); omega; omega) | ((with_reducible refine nI_nlt ?_ ?_); omega; omega) | with_reducible exact ne10 | with_reducible rfl)] | rw [if_neg (by first | with_reducible assumption | ((with_reducible refine nI_lt ?_ ?_); omega; omega) | ((with_reducible refine nI_nlt ?_ ?_); omega; omega) | with_reducible exact ne10 | with_reducible rfl)]))
        · rw [ftk hq, show ahd e.1 q = false by unfold ahd; rw [ltb_f w2, Bool.false_and]]; rfl
  · rintro s rfl
    rw [List.take_length]
    show ∃ r, mX8_sum_B40 K R M m (nI i0) (nI n) (nI k) (nI (C.filter (ahd e.1)).length) (nI C.length) = some (.inr r) ∧ _
    unfold mX8_sum_B40
    have j : mX8_sum_J138 K R M m (nI i0) (nI n) (nI k) = some (.inl (nI (k + 1))) := by unfold mX8_sum_J138; (repeat (first | rw [ck_t (by first | with_reducible assumption | ((with_reducible apply ixA_of); (with_reducible assumption); omega; omega) | ((with_reducible apply isAr_of); (with_reducible assumption); decide) | ((with_reducible apply nI_ne0); omega; omega) | with_reducible exact isB_0 | with_reducible exact isB_1 | with_reducible exact isB_bI _)] | rw [bd_r (by with_reducible assumption)] | rw [bd_s] | rw [bd2_s] | rw [bd3_s] | rw [nm_s] | rw [nI_clamp (by omega)] | rw [nI_1] | rw [if_pos (by first | with_reducible assumption | ((with_reducible refine nI_lt ?_ ?_); omega; omega) | ((with_reducible refine nI_nlt ?_ ?_); omega; omega) | with_reducible exact ne10 | with_reducible rfl)] | rw [if_neg (by first | with_reducible assumption | ((with_reducible refine nI_lt ?_ ?_); omega; omega) | ((with_reducible refine nI_nlt ?_ ?_); omega; omega) | with_reducible exact ne10 | with_reducible rfl)]))
    rcases nz_of v3 with ⟨c, z⟩ | ⟨c, z⟩
    · refine ⟨.inl (nI (k + 1)), ?_, Or.inr ⟨fun q => by rw [z] at q; exact absurd q.1 (by decide), rfl⟩⟩
      (repeat (first | rw [ck_t (by first | with_reducible assumption | ((with_reducible apply ixA_of); (with_reducible assumption); omega; omega) | ((with_reducible apply isAr_of); (with_reducible assumption); decide) | ((with_reducible apply nI_ne0); omega; omega) | with_reducible exact isB_0 | with_reducible exact isB_1 | with_reducible exact isB_bI _)] | rw [bd_r (by with_reducible assumption)] | rw [bd_s] | rw [bd2_s] | rw [bd3_s] | rw [nm_s] | rw [nI_clamp (by omega)] | rw [nI_1] | rw [e0] | rw [if_pos (c)] | rw [j] | rw [if_pos (by first | with_reducible assumption | ((with_reducible refine nI_lt ?_ ?_); omega; omega) | ((with_reducible refine nI_nlt ?_ ?_); omega; omega) | with_reducible exact ne10 | with_reducible rfl)] | rw [if_neg (by first | with_reducible assumption | ((with_reducible refine nI_lt ?_ ?_); omega; omega) | ((with_reducible refine nI_nlt ?_ ?_); omega; omega) | with_reducible exact ne10 | with_reducible rfl)]))
      rfl
    · by_cases hr : (C.filter (ahd e.1)).length = i0
      · rw [hr]
        match n, hn with
        | 0, _ =>
          refine ⟨.inr (M.2 (m + 21) k, M), ?_, Or.inl ⟨z, rfl, _, rfl, v1⟩⟩
          (repeat (first | rw [ck_t (by first | with_reducible assumption | ((with_reducible apply ixA_of); (with_reducible assumption); omega; omega) | ((with_reducible apply isAr_of); (with_reducible assumption); decide) | ((with_reducible apply nI_ne0); omega; omega) | with_reducible exact isB_0 | with_reducible exact isB_1 | with_reducible exact isB_bI _)] | rw [bd_r (by with_reducible assumption)] | rw [bd_s] | rw [bd2_s] | rw [bd3_s] | rw [nm_s] | rw [nI_clamp (by omega)] | rw [nI_1] | rw [e0] | rw [if_neg (c)] | rw [if_pos (show nI i0 = nI i0 from rfl)] | rw [if_pos (show nI 0 = 0 from rfl)] | rw [if_pos (by first | with_reducible assumption | ((with_reducible refine nI_lt ?_ ?_); omega; omega) | ((with_reducible refine nI_nlt ?_ ?_); omega; omega) | with_reducible exact ne10 | with_reducible rfl)] | rw [if_neg (by first | with_reducible assumption | ((with_reducible refine nI_lt ?_ ?_); omega; omega) | ((with_reducible refine nI_nlt ?_ ?_); omega; omega) | with_reducible exact ne10 | with_reducible rfl)]))
          rfl
        | 1, _ =>
          refine ⟨.inr (M.2 (m + 22) k, M), ?_, Or.inl ⟨z, rfl, _, rfl, v2⟩⟩
          (repeat (first | rw [ck_t (by first | with_reducible assumption | ((with_reducible apply ixA_of); (with_reducible assumption); omega; omega) | ((with_reducible apply isAr_of); (with_reducible assumption); decide) | ((with_reducible apply nI_ne0); omega; omega) | with_reducible exact isB_0 | with_reducible exact isB_1 | with_reducible exact isB_bI _)] | rw [bd_r (by with_reducible assumption)] | rw [bd_s] | rw [bd2_s] | rw [bd3_s] | rw [nm_s] | rw [nI_clamp (by omega)] | rw [nI_1] | rw [e0] | rw [if_neg (c)] | rw [if_pos (show nI i0 = nI i0 from rfl)] | rw [if_neg (show ¬ nI 1 = 0 by decide)] | rw [if_pos (show nI 1 = 1 from rfl)] | rw [if_pos (by first | with_reducible assumption | ((with_reducible refine nI_lt ?_ ?_); omega; omega) | ((with_reducible refine nI_nlt ?_ ?_); omega; omega) | with_reducible exact ne10 | with_reducible rfl)] | rw [if_neg (by first | with_reducible assumption | ((with_reducible refine nI_lt ?_ ?_); omega; omega) | ((with_reducible refine nI_nlt ?_ ?_); omega; omega) | with_reducible exact ne10 | with_reducible rfl)]))
          rfl
        | 2, _ =>
          refine ⟨.inr (M.2 (m + 23) k, M), ?_, Or.inl ⟨z, rfl, _, rfl, v3⟩⟩
          (repeat (first | rw [ck_t (by first | with_reducible assumption | ((with_reducible apply ixA_of); (with_reducible assumption); omega; omega) | ((with_reducible apply isAr_of); (with_reducible assumption); decide) | ((with_reducible apply nI_ne0); omega; omega) | with_reducible exact isB_0 | with_reducible exact isB_1 | with_reducible exact isB_bI _)] | rw [bd_r (by with_reducible assumption)] | rw [bd_s] | rw [bd2_s] | rw [bd3_s] | rw [nm_s] | rw [nI_clamp (by omega)] | rw [nI_1] | rw [e0] | rw [if_neg (c)] | rw [if_pos (show nI i0 = nI i0 from rfl)] | rw [if_neg (show ¬ nI 2 = 0 by decide)] | rw [if_neg (show ¬ nI 2 = 1 by decide)] | rw [if_pos (by first | with_reducible assumption | ((with_reducible refine nI_lt ?_ ?_); omega; omega) | ((with_reducible refine nI_nlt ?_ ?_); omega; omega) | with_reducible exact ne10 | with_reducible rfl)] | rw [if_neg (by first | with_reducible assumption | ((with_reducible refine nI_lt ?_ ?_); omega; omega) | ((with_reducible refine nI_nlt ?_ ?_); omega; omega) | with_reducible exact ne10 | with_reducible rfl)]))
          rfl
      · refine ⟨.inl (nI (k + 1)), ?_, Or.inr ⟨fun q => hr q.2, rfl⟩⟩
        have hr' : ¬ nI (C.filter (ahd e.1)).length = nI i0 := nI_ne hr (by omega) hi0
        (repeat (first | rw [ck_t (by first | with_reducible assumption | ((with_reducible apply ixA_of); (with_reducible assumption); omega; omega) | ((with_reducible apply isAr_of); (with_reducible assumption); decide) | ((with_reducible apply nI_ne0); omega; omega) | with_reducible exact isB_0 | with_reducible exact isB_1 | with_reducible exact isB_bI _)] | rw [bd_r (by with_reducible assumption)] | rw [bd_s] | rw [bd2_s] | rw [bd3_s] | rw [nm_s] | rw [nI_clamp (by omega)] | rw [nI_1] | rw [e0] | rw [if_neg (c)] | rw [if_neg (hr')] | rw [j] | rw [if_pos (by first | with_reducible assumption | ((with_reducible refine nI_lt ?_ ?_); omega; omega) | ((with_reducible refine nI_nlt ?_ ?_); omega; omega) | with_reducible exact ne10 | with_reducible rfl)] | rw [if_neg (by first | with_reducible assumption | ((with_reducible refine nI_lt ?_ ?_); omega; omega) | ((with_reducible refine nI_nlt ?_ ?_); omega; omega) | with_reducible exact ne10 | with_reducible rfl)]))
        rfl
theorem sumM_ok {i0 n : Nat} (hm : moA K R m) (h : tlM M m C) (hC : C.length ≤ 640) (hi0 : i0 < 2 ^ 31) (hn : n < 3) : ∃ v, lp (mX8_sum_L26 K R M m (nI i0) (nI n)) 0 = some (v, M) ∧ ((∃ e, e ∈ C ∧ nz e = true ∧ (C.filter (ahd e.1)).length = i0 ∧ v.toInt = pkE e n) ∨ (v = -9000000000000000005 ∧ ∀ e, e ∈ C → nz e = true → (C.filter (ahd e.1)).length ≠ i0)) := by
  have e0 := h.1
  have hL := lp_ind (f := mX8_sum_L26 K R M m (nI i0) (nI n)) (fun (k : Nat) (s : Int32) => s = nI k ∧ ∀ (j : Nat) e, j < k → C[j]? = some e → nz e = true → (C.filter (ahd e.1)).length ≠ i0) (fun r => r.2 = M ∧ ((∃ e, e ∈ C ∧ nz e = true ∧ (C.filter (ahd e.1)).length = i0 ∧ r.1.toInt = pkE e n) ∨ (r.1 = -9000000000000000005 ∧ ∀ e, e ∈ C → nz e = true → (C.filter (ahd e.1)).length ≠ i0))) C.length ?_ ?_
  · obtain ⟨⟨v, M'⟩, e1, e2, e3⟩ := hL C.length 0 (nI 0) (by omega) ⟨rfl, fun j f hj => absurd hj (by omega)⟩
    have e2 : M' = M := e2
    subst e2
    exact ⟨v, e1, e3⟩
  · rintro k s hk ⟨rfl, f⟩
    obtain ⟨e, he⟩ := get_ex hk
    show (∃ s', mX8_sum_B26 K R M m (nI i0) (nI n) (nI k) = some (.inl s') ∧ _) ∨ ∃ r, mX8_sum_B26 K R M m (nI i0) (nI n) (nI k) = some (.inr r) ∧ _
    unfold mX8_sum_B26
    rcases sumM_in hm h hC hi0 hn he with ⟨a1, a2, v, a3, a4⟩ | ⟨a1, a2⟩
    · right
      refine ⟨(v, M), ?_, rfl, Or.inl ⟨e, get_mem he, a1, a2, a4⟩⟩
      (repeat (first | rw [ck_t (by first | with_reducible assumption | ((with_reducible apply ixA_of); (with_reducible assumption); omega; omega) | ((with_reducible apply isAr_of); (with_reducible assumption); decide) | ((with_reducible apply nI_ne0); omega; omega) | with_reducible exact isB_0 | with_reducible exact isB_1 | with_reducible exact isB_bI _)] | rw [bd_r (by with_reducible assumption)] | rw [bd_s] | rw [bd2_s] | rw [bd3_s] | rw [nm_s] | rw [nI_clamp (by omega)] | rw [nI_1] | rw [e0] | rw [if_pos (by first | with_reducible assumption | ((with_reducible refine nI_lt ?_ ?_); omega; omega) | ((with_reducible refine nI_nlt ?_ ?_); omega; omega) | with_reducible exact ne10 | with_reducible rfl)] | rw [if_neg (by first | with_reducible assumption | ((with_reducible refine nI_lt ?_ ?_); omega; omega) | ((with_reducible refine nI_nlt ?_ ?_); omega; omega) | with_reducible exact ne10 | with_reducible rfl)]))
      exact a3
    · left
      refine ⟨nI (k + 1), ?_, rfl, fun j g hj hg hz => ?_⟩
      · (repeat (first | rw [ck_t (by first | with_reducible assumption | ((with_reducible apply ixA_of); (with_reducible assumption); omega; omega) | ((with_reducible apply isAr_of); (with_reducible assumption); decide) | ((with_reducible apply nI_ne0); omega; omega) | with_reducible exact isB_0 | with_reducible exact isB_1 | with_reducible exact isB_bI _)] | rw [bd_r (by with_reducible assumption)] | rw [bd_s] | rw [bd2_s] | rw [bd3_s] | rw [nm_s] | rw [nI_clamp (by omega)] | rw [nI_1] | rw [e0] | rw [if_pos (by first | with_reducible assumption | ((with_reducible refine nI_lt ?_ ?_); omega; omega) | ((with_reducible refine nI_nlt ?_ ?_); omega; omega) | with_reducible exact ne10 | with_reducible rfl)] | rw [if_neg (by first | with_reducible assumption | ((with_reducible refine nI_lt ?_ ?_); omega; omega) | ((with_reducible refine nI_nlt ?_ ?_); omega; omega) | with_reducible exact ne10 | with_reducible rfl)]))
        exact a2
      · by_cases hjk : j = k
        · subst hjk
          rw [get_un hg he] at hz ⊢
          exact fun q => a1 ⟨hz, q⟩
        · exact f j g (by omega) hg hz
  · rintro s ⟨rfl, f⟩
    refine ⟨(-9000000000000000005, M), ?_, rfl, Or.inr ⟨rfl, fun e he hz => ?_⟩⟩
    · show mX8_sum_B26 K R M m (nI i0) (nI n) (nI C.length) = _
      unfold mX8_sum_B26
      (repeat (first | rw [ck_t (by first | with_reducible assumption | ((with_reducible apply ixA_of); (with_reducible assumption); omega; omega) | ((with_reducible apply isAr_of); (with_reducible assumption); decide) | ((with_reducible apply nI_ne0); omega; omega) | with_reducible exact isB_0 | with_reducible exact isB_1 | with_reducible exact isB_bI _)] | rw [bd_r (by with_reducible assumption)] | rw [bd_s] | rw [bd2_s] | rw [bd3_s] | rw [nm_s] | rw [nI_clamp (by omega)] | rw [nI_1] | rw [e0] | rw [if_pos (by first | with_reducible assumption | ((with_reducible refine nI_lt ?_ ?_); omega; omega) | ((with_reducible refine nI_nlt ?_ ?_); omega; omega) | with_reducible exact ne10 | with_reducible rfl)] | rw [if_neg (by first | with_reducible assumption | ((with_reducible refine nI_lt ?_ ?_); omega; omega) | ((with_reducible refine nI_nlt ?_ ?_); omega; omega) | with_reducible exact ne10 | with_reducible rfl)]))
      rfl
    · obtain ⟨j, hj, hje⟩ := mem_get he
      exact f j e hj hje hz
end SU
theorem inv_sums (o : Nat) (K : Kk) (R : Rr) (M : Mm) (hI : Inv o K R M) : ∃ (v : Int64) (M1 : Mm) (M2 : Mm), mX7_sums K R M o = some (v, M1) ∧ mX8_sums K R M1 (o + 2118) = some (v, M2) ∧ Inv o K R M2 := by
  have hI0 := hI
  obtain ⟨hs, hm, S, hw, hc, ho⟩ := hI
  have hs0 := hs
  have m0 := hm.1
  obtain ⟨ps, hps, hpp⟩ := now_ps hw
  obtain ⟨c, hc1, hc2, hcA, hcC, hnow⟩ := now_at hs0 hw hc hps
  have hq6 : psM (M.2 (o + 2118 + 1)) 0 ps := ho.2.2.2.2.2.1 ps hps
  obtain ⟨s0, -, -, s2, -, -, s5, -, -, -, s9, -, -, -, -, -, -, -, ⟨i0, -⟩, -, -, -, tA, -, -, -, r1, -⟩ := hs
  have t0 := tA.1
  obtain ⟨M1, A, c1, c2, c3, c4, c5, c6⟩ := sumSides_ok hs0 hcA hc1 hc2 hcC hpp (hnow M rfl)
  have hq1 : psM (M1.2 (o + 2118 + 1)) 0 ps := by rw [(c6 _ (by omega)).2]; exact hq6
  obtain ⟨M2, d1, ⟨C, d2, d3, d4, d5⟩, d6⟩ := addAll_ok hm hq1 hpp
  obtain ⟨pm, -⟩ := upL_perm (List.Perm.refl []) (by unfold nd; simp) c4 d3
  have hC : C.length ≤ 640 := by rw [← pm.length_eq]; exact c5
  refine ⟨(nI (A.filter nz).length).toInt64, M1, M2, ?_, ?_, hI0.kp ((Kp.fr c6 (by omega)).tr (d6.kp (by decide) (by decide) (by decide) (by decide)))⟩
  · have e := c2.1
    unfold mX7_sums
    (repeat (first | rw [ck_t (by first | with_reducible assumption | ((with_reducible apply ixA_of); (with_reducible assumption); omega; omega) | ((with_reducible apply isAr_of); (with_reducible assumption); decide) | ((with_reducible apply nI_ne0); omega; omega) | with_reducible exact isB_0 | with_reducible exact isB_1 | with_reducible exact isB_bI _)] | rw [bd_r (by with_reducible assumption)] | rw [bd_s] | rw [bd2_s] | rw [bd3_s] | rw [nm_s] | rw [nI_clamp (by omega)] | rw [nI_1] | rw [bd_e (c1)] | rw [e] | rw [if_pos (by first | with_reducible assumption | ((with_reducible refine nI_lt ?_ ?_); omega; omega) | ((with_reducible refine nI_nlt ?_ ?_); omega; omega) | with_reducible exact ne10 | with_reducible rfl)] | rw [if_neg (by first | with_reducible assumption | ((with_reducible refine nI_lt ?_ ?_); omega; omega) | ((with_reducible refine nI_nlt ?_ ?_); omega; omega) | with_reducible exact ne10 | with_reducible rfl)]))
  · unfold mX8_sums
    (repeat (first | rw [ck_t (by first | with_reducible assumption | ((with_reducible apply ixA_of); (with_reducible assumption); omega; omega) | ((with_reducible apply isAr_of); (with_reducible assumption); decide) | ((with_reducible apply nI_ne0); omega; omega) | with_reducible exact isB_0 | with_reducible exact isB_1 | with_reducible exact isB_bI _)] | rw [bd_r (by with_reducible assumption)] | rw [bd_s] | rw [bd2_s] | rw [bd3_s] | rw [nm_s] | rw [nI_clamp (by omega)] | rw [nI_1] | rw [bd_e (d1)] | rw [if_pos (by first | with_reducible assumption | ((with_reducible refine nI_lt ?_ ?_); omega; omega) | ((with_reducible refine nI_nlt ?_ ?_); omega; omega) | with_reducible exact ne10 | with_reducible rfl)] | rw [if_neg (by first | with_reducible assumption | ((with_reducible refine nI_lt ?_ ?_); omega; omega) | ((with_reducible refine nI_nlt ?_ ?_); omega; omega) | with_reducible exact ne10 | with_reducible rfl)]))
    rw [show (A.filter nz).length = (C.filter nz).length from (pm.filter nz).length_eq]
    exact sumsM_J hm d2 hC
theorem inv_sum (o : Nat) (K : Kk) (R : Rr) (M : Mm) (a0 a1 : Int32) (hI : Inv o K R M) : ∃ (v : Int64) (M1 : Mm) (M2 : Mm), mX7_sum K R M o a0 a1 = some (v, M1) ∧ mX8_sum K R M1 (o + 2118) a0 a1 = some (v, M2) ∧ Inv o K R M2 := by
  have hI0 := hI
  obtain ⟨hs, hm, S, hw, hc, ho⟩ := hI
  have hs0 := hs
  have m0 := hm.1
  obtain ⟨ps, hps, hpp⟩ := now_ps hw
  obtain ⟨c, hc1, hc2, hcA, hcC, hnow⟩ := now_at hs0 hw hc hps
  have hq6 : psM (M.2 (o + 2118 + 1)) 0 ps := ho.2.2.2.2.2.1 ps hps
  obtain ⟨s0, -, -, s2, -, -, s5, -, -, -, s9, -, -, -, -, -, -, -, ⟨i0, -⟩, -, -, -, tA, -, -, -, r1, -⟩ := hs
  by_cases h0 : a0 < 0
  · exact ⟨-9000000000000000001, M, M, by unfold mX7_sum; (repeat (first | rw [ck_t (by first | with_reducible assumption | ((with_reducible apply ixA_of); (with_reducible assumption); omega; omega) | ((with_reducible apply isAr_of); (with_reducible assumption); decide) | ((with_reducible apply nI_ne0); omega; omega) | with_reducible exact isB_0 | with_reducible exact isB_1 | with_reducible exact isB_bI _)] | rw [bd_r (by with_reducible assumption)] | rw [bd_s] | rw [bd2_s] | rw [bd3_s] | rw [nm_s] | rw [nI_clamp (by omega)] | rw [nI_1] | rw [if_pos (by first | with_reducible assumption | ((with_reducible refine nI_lt ?_ ?_); omega; omega) | ((with_reducible refine nI_nlt ?_ ?_); omega; omega) | with_reducible exact ne10 | with_reducible rfl)] | rw [if_neg (by first | with_reducible assumption | ((with_reducible refine nI_lt ?_ ?_); omega; omega) | ((with_reducible refine nI_nlt ?_ ?_); omega; omega) | with_reducible exact ne10 | with_reducible rfl)])), by unfold mX8_sum; (repeat (first | rw [ck_t (by first | with_reducible assumption | ((with_reducible apply ixA_of); (with_reducible assumption); omega; omega) | ((with_reducible apply isAr_of); (with_reducible assumption); decide) | ((with_reducible apply nI_ne0); omega; omega) | with_reducible exact isB_0 | with_reducible exact isB_1 | with_reducible exact isB_bI _)] | rw [bd_r (by with_reducible assumption)] | rw [bd_s] | rw [bd2_s] | rw [bd3_s] | rw [nm_s] | rw [nI_clamp (by omega)] | rw [nI_1] | rw [if_pos (by first | with_reducible assumption | ((with_reducible refine nI_lt ?_ ?_); omega; omega) | ((with_reducible refine nI_nlt ?_ ?_); omega; omega) | with_reducible exact ne10 | with_reducible rfl)] | rw [if_neg (by first | with_reducible assumption | ((with_reducible refine nI_lt ?_ ?_); omega; omega) | ((with_reducible refine nI_nlt ?_ ?_); omega; omega) | with_reducible exact ne10 | with_reducible rfl)])), hI0⟩
  · have hn0 : 0 ≤ a0.toInt := by rw [lt32] at h0; have h0 : ¬ a0.toInt < 0 := h0; omega
    rcases cases_n a1 3 (by omega) with h | ⟨n, hn, rfl⟩
    · refine ⟨-9000000000000000001, M, M, ?_, ?_, hI0⟩
      · unfold mX7_sum
        by_cases h1 : a1 < 0
        · (repeat (first | rw [ck_t (by first | with_reducible assumption | ((with_reducible apply ixA_of); (with_reducible assumption); omega; omega) | ((with_reducible apply isAr_of); (with_reducible assumption); decide) | ((with_reducible apply nI_ne0); omega; omega) | with_reducible exact isB_0 | with_reducible exact isB_1 | with_reducible exact isB_bI _)] | rw [bd_r (by with_reducible assumption)] | rw [bd_s] | rw [bd2_s] | rw [bd3_s] | rw [nm_s] | rw [nI_clamp (by omega)] | rw [nI_1] | rw [if_pos (by first | with_reducible assumption | ((with_reducible refine nI_lt ?_ ?_); omega; omega) | ((with_reducible refine nI_nlt ?_ ?_); omega; omega) | with_reducible exact ne10 | with_reducible rfl)] | rw [if_neg (by first | with_reducible assumption | ((with_reducible refine nI_lt ?_ ?_); omega; omega) | ((with_reducible refine nI_nlt ?_ ?_); omega; omega) | with_reducible exact ne10 | with_reducible rfl)]))
        · have h2 : ¬ a1 ≤ 2 := fun z => by
            have h := h.resolve_left h1
            rw [le32, nI_int (by decide)] at h
            rw [le32] at z
            have z : a1.toInt ≤ 2 := z
            omega
          (repeat (first | rw [ck_t (by first | with_reducible assumption | ((with_reducible apply ixA_of); (with_reducible assumption); omega; omega) | ((with_reducible apply isAr_of); (with_reducible assumption); decide) | ((with_reducible apply nI_ne0); omega; omega) | with_reducible exact isB_0 | with_reducible exact isB_1 | with_reducible exact isB_bI _)] | rw [bd_r (by with_reducible assumption)] | rw [bd_s] | rw [bd2_s] | rw [bd3_s] | rw [nm_s] | rw [nI_clamp (by omega)] | rw [nI_1] | rw [if_pos (by first | with_reducible assumption | ((with_reducible refine nI_lt ?_ ?_); omega; omega) | ((with_reducible refine nI_nlt ?_ ?_); omega; omega) | with_reducible exact ne10 | with_reducible rfl)] | rw [if_neg (by first | with_reducible assumption | ((with_reducible refine nI_lt ?_ ?_); omega; omega) | ((with_reducible refine nI_nlt ?_ ?_); omega; omega) | with_reducible exact ne10 | with_reducible rfl)]))
      · unfold mX8_sum
        (repeat (first | rw [ck_t (by first | with_reducible assumption | ((with_reducible apply ixA_of); (with_reducible assumption); omega; omega) | ((with_reducible apply isAr_of); (with_reducible assumption); decide) | ((with_reducible apply nI_ne0); omega; omega) | with_reducible exact isB_0 | with_reducible exact isB_1 | with_reducible exact isB_bI _)] | rw [bd_r (by with_reducible assumption)] | rw [bd_s] | rw [bd2_s] | rw [bd3_s] | rw [nm_s] | rw [nI_clamp (by omega)] | rw [nI_1] | rw [bd_e (isInN_f (n := 3) h (by decide) (by decide))] | rw [if_pos (by first | with_reducible assumption | ((with_reducible refine nI_lt ?_ ?_); omega; omega) | ((with_reducible refine nI_nlt ?_ ?_); omega; omega) | with_reducible exact ne10 | with_reducible rfl)] | rw [if_neg (by first | with_reducible assumption | ((with_reducible refine nI_lt ?_ ?_); omega; omega) | ((with_reducible refine nI_nlt ?_ ?_); omega; omega) | with_reducible exact ne10 | with_reducible rfl)]))
    · obtain ⟨ea, hi31, -⟩ := nat32 hn0
      generalize a0.toInt.toNat = i at *
      subst ea
      obtain ⟨M1, A, c1, c2, c3, c4, c5, c6⟩ := sumSides_ok hs0 hcA hc1 hc2 hcC hpp (hnow M rfl)
      have hq1 : psM (M1.2 (o + 2118 + 1)) 0 ps := by rw [(c6 _ (by omega)).2]; exact hq6
      obtain ⟨M2, d1, ⟨C, d2, d3, d4, d5⟩, d6⟩ := addAll_ok hm hq1 hpp
      obtain ⟨pm, -⟩ := upL_perm (List.Perm.refl []) (by unfold nd; simp) c4 d3
      have hC : C.length ≤ 640 := by rw [← pm.length_eq]; exact c5
      have fl : (A.filter nz).length ≤ 640 := by have := List.length_filter_le nz A; omega
      obtain ⟨v, v1, v2⟩ := sumM_ok (i0 := i) (n := n) hm d2 hC hi31 hn
      have k0 : ¬ nI n < 0 := nI_pos (by omega)
      have k2 : nI n ≤ 2 := nI_le (b := 2) (by omega) (by decide)
      have y := isInN_t (K := K) (R := R) (M := M1) (n := 3) (b := 2) hn (by decide) (by decide)
      refine ⟨v, M1, M2, ?_, ?_, hI0.kp ((Kp.fr c6 (by omega)).tr (d6.kp (by decide) (by decide) (by decide) (by decide)))⟩
      · have e := c2.1
        obtain ⟨t0, t1, t2, t3, t4, t5, t6⟩ := tA
        unfold mX7_sum
        rcases v2 with ⟨g, g1, g2, g3, g4⟩ | ⟨rfl, g1⟩
        · have hB := rank_link c3 pm g1 g2
          rw [g3] at hB
          have li := get_lt hB
          obtain ⟨w1, w2, w3⟩ := c2.2 i g hB
          match n, hn with
          | 0, _ =>
            have g4 : v.toInt = g.1.1 := g4
            have ev : v = (M1.1 (o + 1968 + 1) i).toInt64 := eq64.mpr (by rw [i64_int, w1]; exact g4)
            (repeat (first | rw [ck_t (by first | with_reducible assumption | ((with_reducible apply ixA_of); (with_reducible assumption); omega; omega) | ((with_reducible apply isAr_of); (with_reducible assumption); decide) | ((with_reducible apply nI_ne0); omega; omega) | with_reducible exact isB_0 | with_reducible exact isB_1 | with_reducible exact isB_bI _)] | rw [bd_r (by with_reducible assumption)] | rw [bd_s] | rw [bd2_s] | rw [bd3_s] | rw [nm_s] | rw [nI_clamp (by omega)] | rw [nI_1] | rw [bd_e (c1)] | rw [e] | rw [if_neg (show ¬ nI 0 = 2 by decide)] | rw [if_pos (show nI 0 = 0 from rfl)] | rw [ev] | rw [if_pos (by first | with_reducible assumption | ((with_reducible refine nI_lt ?_ ?_); omega; omega) | ((with_reducible refine nI_nlt ?_ ?_); omega; omega) | with_reducible exact ne10 | with_reducible rfl)] | rw [if_neg (by first | with_reducible assumption | ((with_reducible refine nI_lt ?_ ?_); omega; omega) | ((with_reducible refine nI_nlt ?_ ?_); omega; omega) | with_reducible exact ne10 | with_reducible rfl)]))
          | 1, _ =>
            have g4 : v.toInt = g.1.2 := g4
            have ev : v = (M1.1 (o + 1968 + 2) i).toInt64 := eq64.mpr (by rw [i64_int, w2]; exact g4)
            (repeat (first | rw [ck_t (by first | with_reducible assumption | ((with_reducible apply ixA_of); (with_reducible assumption); omega; omega) | ((with_reducible apply isAr_of); (with_reducible assumption); decide) | ((with_reducible apply nI_ne0); omega; omega) | with_reducible exact isB_0 | with_reducible exact isB_1 | with_reducible exact isB_bI _)] | rw [bd_r (by with_reducible assumption)] | rw [bd_s] | rw [bd2_s] | rw [bd3_s] | rw [nm_s] | rw [nI_clamp (by omega)] | rw [nI_1] | rw [bd_e (c1)] | rw [e] | rw [if_neg (show ¬ nI 1 = 2 by decide)] | rw [if_neg (show ¬ nI 1 = 0 by decide)] | rw [ev] | rw [if_pos (by first | with_reducible assumption | ((with_reducible refine nI_lt ?_ ?_); omega; omega) | ((with_reducible refine nI_nlt ?_ ?_); omega; omega) | with_reducible exact ne10 | with_reducible rfl)] | rw [if_neg (by first | with_reducible assumption | ((with_reducible refine nI_lt ?_ ?_); omega; omega) | ((with_reducible refine nI_nlt ?_ ?_); omega; omega) | with_reducible exact ne10 | with_reducible rfl)]))
          | 2, _ =>
            have g4 : v.toInt = g.2 := g4
            have ev : v = M1.2 (o + 1968 + 3) i := eq64.mpr (by rw [w3]; exact g4)
            (repeat (first | rw [ck_t (by first | with_reducible assumption | ((with_reducible apply ixA_of); (with_reducible assumption); omega; omega) | ((with_reducible apply isAr_of); (with_reducible assumption); decide) | ((with_reducible apply nI_ne0); omega; omega) | with_reducible exact isB_0 | with_reducible exact isB_1 | with_reducible exact isB_bI _)] | rw [bd_r (by with_reducible assumption)] | rw [bd_s] | rw [bd2_s] | rw [bd3_s] | rw [nm_s] | rw [nI_clamp (by omega)] | rw [nI_1] | rw [bd_e (c1)] | rw [e] | rw [if_pos (show nI 2 = 2 from rfl)] | rw [ev] | rw [if_pos (by first | with_reducible assumption | ((with_reducible refine nI_lt ?_ ?_); omega; omega) | ((with_reducible refine nI_nlt ?_ ?_); omega; omega) | with_reducible exact ne10 | with_reducible rfl)] | rw [if_neg (by first | with_reducible assumption | ((with_reducible refine nI_lt ?_ ?_); omega; omega) | ((with_reducible refine nI_nlt ?_ ?_); omega; omega) | with_reducible exact ne10 | with_reducible rfl)]))
        · have hge : (A.filter nz).length ≤ i := by
            rcases Nat.lt_or_ge i (A.filter nz).length with z | z
            · exfalso
              obtain ⟨g, hg⟩ := get_ex z
              have hgm := List.mem_filter.mp (get_mem hg)
              exact g1 g (pm.mem_iff.mp hgm.1) hgm.2 (rank_of c3 pm hg)
            · exact z
          (repeat (first | rw [ck_t (by first | with_reducible assumption | ((with_reducible apply ixA_of); (with_reducible assumption); omega; omega) | ((with_reducible apply isAr_of); (with_reducible assumption); decide) | ((with_reducible apply nI_ne0); omega; omega) | with_reducible exact isB_0 | with_reducible exact isB_1 | with_reducible exact isB_bI _)] | rw [bd_r (by with_reducible assumption)] | rw [bd_s] | rw [bd2_s] | rw [bd3_s] | rw [nm_s] | rw [nI_clamp (by omega)] | rw [nI_1] | rw [bd_e (c1)] | rw [e] | rw [if_pos (by first | with_reducible assumption | ((with_reducible refine nI_lt ?_ ?_); omega; omega) | ((with_reducible refine nI_nlt ?_ ?_); omega; omega) | with_reducible exact ne10 | with_reducible rfl)] | rw [if_neg (by first | with_reducible assumption | ((with_reducible refine nI_lt ?_ ?_); omega; omega) | ((with_reducible refine nI_nlt ?_ ?_); omega; omega) | with_reducible exact ne10 | with_reducible rfl)]))
      · unfold mX8_sum
        (repeat (first | rw [ck_t (by first | with_reducible assumption | ((with_reducible apply ixA_of); (with_reducible assumption); omega; omega) | ((with_reducible apply isAr_of); (with_reducible assumption); decide) | ((with_reducible apply nI_ne0); omega; omega) | with_reducible exact isB_0 | with_reducible exact isB_1 | with_reducible exact isB_bI _)] | rw [bd_r (by with_reducible assumption)] | rw [bd_s] | rw [bd2_s] | rw [bd3_s] | rw [nm_s] | rw [nI_clamp (by omega)] | rw [nI_1] | rw [bd_e (y)] | rw [bd_e (d1)] | rw [if_pos (by first | with_reducible assumption | ((with_reducible refine nI_lt ?_ ?_); omega; omega) | ((with_reducible refine nI_nlt ?_ ?_); omega; omega) | with_reducible exact ne10 | with_reducible rfl)] | rw [if_neg (by first | with_reducible assumption | ((with_reducible refine nI_lt ?_ ?_); omega; omega) | ((with_reducible refine nI_nlt ?_ ?_); omega; omega) | with_reducible exact ne10 | with_reducible rfl)]))
        exact v1
