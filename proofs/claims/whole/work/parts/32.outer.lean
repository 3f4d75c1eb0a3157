/-! GIFT WRAPPING: the walk -/
section OUT2
variable {K : Kk} {R : Rr} {M : Mm} {m : Nat} {S : List Pt}
theorem neg1_lt : (-1 : Int32) < 0 := by decide
theorem bend_eq {s x y i j : Nat} {a p : Pt} (h : rM M m s x y S) (ha : S[j]? = some a) (hp : S[i]? = some p) : p = a ↔ M.2 (m + x) i = M.2 (m + x) j ∧ M.2 (m + y) i = M.2 (m + y) j := by
  rw [h.pt ha, h.pt hp, eq64, eq64]
  exact Prod.mk.injEq _ _ _ _ ▸ Iff.rfl
/-- the next one: the point that has all others inside -/
theorem select_ok {c j : Nat} {f a b : Pt} (hm : moA K R m) (h : rM M m 21 15 16 S) (hS : S.length < 601) (hB : ∀ p, p ∈ S → inB p) (hf : S[c]? = some f) (ha : S[j]? = some a) (hE : Ed S a b) : ∃ n, S[n]? = some b ∧ ((b = f ∧ lp (mX8_outermost_L72 K R M m (nI c) (nI j)) (-1, 0) = some (.inl (nI n, 0, M))) ∨ (b ≠ f ∧ lp (mX8_outermost_L72 K R M m (nI c) (nI j)) (-1, 0) = some (.inl (nI n, 1, M)))) := by
  have h0 := hm.1
  have h1 := mo_r19 hm
  have h2 := mo_r20 hm
  have h3 := mo_a19 hm
  have h4 := mo_a20 hm
  have e := h.1
  have lj := get_lt ha
  have lc := get_lt hf
  obtain ⟨hE1, hE2, hE3⟩ := hE
  have hL := lp_ind (f := mX8_outermost_L72 K R M m (nI c) (nI j)) (fun (i : Nat) (s : Int32 × Int32) => s.2 = nI i ∧ ((s.1 = -1 ∧ ∀ q p, q < i → S[q]? = some p → p = a) ∨ ∃ n p, s.1 = nI n ∧ n < i ∧ S[n]? = some p ∧ p ≠ a ∧ ((∃ q, q < i ∧ S[q]? = some b) → p = b))) (fun r => ∃ n, S[n]? = some b ∧ ((b = f ∧ r = .inl (nI n, 0, M)) ∨ (b ≠ f ∧ r = .inl (nI n, 1, M)))) S.length ?_ ?_
  · obtain ⟨r, e1, n, e2, e3⟩ := hL S.length 0 (-1, nI 0) (by omega) ⟨rfl, Or.inl ⟨rfl, fun q p hq => absurd hq (by omega)⟩⟩
    refine ⟨n, e2, ?_⟩
    rcases e3 with ⟨g, rfl⟩ | ⟨g, rfl⟩
    · exact Or.inl ⟨g, e1⟩
    · exact Or.inr ⟨g, e1⟩
  · rintro i ⟨x, y⟩ hi ⟨rfl, hx⟩
    obtain ⟨p, hp⟩ := get_ex hi
    show (∃ s', mX8_outermost_B72 K R M m (nI c) (nI j) x (nI i) = some (.inl s') ∧ _) ∨ _
    left
    have cmp := bend_eq h ha hp
    have keep : ∀ x, mX8_outermost_J148 K R M m (nI c) (nI j) x (nI i) = some (.inl (x, nI (i + 1))) := fun x => by unfold mX8_outermost_J148; repeat (first | rw [ck_t (by first | with_reducible assumption | ((with_reducible apply ixA_of); (with_reducible assumption); omega; decide) | ((with_reducible apply isAr_of); (with_reducible assumption); decide) | with_reducible exact isB_0 | with_reducible exact isB_1 | with_reducible exact isB_bI _)] | rw [bd_r (by with_reducible assumption)] | rw [bd_s] | rw [bd2_s] | rw [bd3_s] | rw [nm_s] | rw [nI_clamp (by omega)] | rw [nI_1] | rw [if_pos (by first | with_reducible assumption | ((with_reducible refine nI_lt ?_ ?_); omega; omega) | ((with_reducible refine nI_nlt ?_ ?_); omega; omega) | with_reducible exact ne10 | with_reducible rfl)] | rw [if_neg (by first | with_reducible assumption | ((with_reducible refine nI_lt ?_ ?_); omega; omega) | ((with_reducible refine nI_nlt ?_ ?_); omega; omega) | with_reducible exact ne10 | with_reducible rfl)])
    have put : mX8_outermost_J144 K R M m (nI c) (nI j) (nI i) = some (.inl (nI i, nI (i + 1))) := by unfold mX8_outermost_J144; exact keep _
    by_cases hpa : p = a
    · refine ⟨(x, nI (i + 1)), ?_, rfl, ?_⟩
      · obtain ⟨c1, c2⟩ := cmp.mp hpa
        unfold mX8_outermost_B72
        repeat (first | rw [ck_t (by first | with_reducible assumption | ((with_reducible apply ixA_of); (with_reducible assumption); omega; decide) | ((with_reducible apply isAr_of); (with_reducible assumption); decide) | with_reducible exact isB_0 | with_reducible exact isB_1 | with_reducible exact isB_bI _)] | rw [bd_r (by with_reducible assumption)] | rw [bd_s] | rw [bd2_s] | rw [bd3_s] | rw [nm_s] | rw [nI_clamp (by omega)] | rw [nI_1] | rw [e] | rw [if_pos (by first | with_reducible assumption | ((with_reducible refine nI_lt ?_ ?_); omega; omega) | ((with_reducible refine nI_nlt ?_ ?_); omega; omega) | with_reducible exact ne10 | with_reducible rfl)] | rw [if_neg (by first | with_reducible assumption | ((with_reducible refine nI_lt ?_ ?_); omega; omega) | ((with_reducible refine nI_nlt ?_ ?_); omega; omega) | with_reducible exact ne10 | with_reducible rfl)])
        unfold mX8_outermost_J120
        repeat (first | rw [ck_t (by first | with_reducible assumption | ((with_reducible apply ixA_of); (with_reducible assumption); omega; decide) | ((with_reducible apply isAr_of); (with_reducible assumption); decide) | with_reducible exact isB_0 | with_reducible exact isB_1 | with_reducible exact isB_bI _)] | rw [bd_r (by with_reducible assumption)] | rw [bd_s] | rw [bd2_s] | rw [bd3_s] | rw [nm_s] | rw [nI_clamp (by omega)] | rw [nI_1] | rw [if_pos (by first | with_reducible assumption | ((with_reducible refine nI_lt ?_ ?_); omega; omega) | ((with_reducible refine nI_nlt ?_ ?_); omega; omega) | with_reducible exact ne10 | with_reducible rfl)] | rw [if_neg (by first | with_reducible assumption | ((with_reducible refine nI_lt ?_ ?_); omega; omega) | ((with_reducible refine nI_nlt ?_ ?_); omega; omega) | with_reducible exact ne10 | with_reducible rfl)])
        exact keep _
      · rcases hx with ⟨g1, g2⟩ | ⟨n, p2, g1, g2, g3, g4, g5⟩
        · refine Or.inl ⟨g1, fun q p3 hq hp3 => ?_⟩
          by_cases hqi : q = i
          · subst hqi; rw [get_un hp3 hp]; exact hpa
          · exact g2 q p3 (by omega) hp3
        · refine Or.inr ⟨n, p2, g1, by omega, g3, g4, ?_⟩
          rintro ⟨q, hq, hqb⟩
          by_cases hqi : q = i
          · subst hqi; exact absurd ((get_un hp hqb).symm.trans hpa) hE2
          · exact g5 ⟨q, by omega, hqb⟩
    · have e3 : mX8_outermost_B72 K R M m (nI c) (nI j) x (nI i) = mX8_outermost_J120 K R M m (nI c) (nI j) x (nI i) 1 := by
        unfold mX8_outermost_B72
        by_cases c1 : M.2 (m + 15) i = M.2 (m + 15) j
        · have c2 : ¬ M.2 (m + 16) i = M.2 (m + 16) j := fun q => hpa (cmp.mpr ⟨c1, q⟩)
          repeat (first | rw [ck_t (by first | with_reducible assumption | ((with_reducible apply ixA_of); (with_reducible assumption); omega; decide) | ((with_reducible apply isAr_of); (with_reducible assumption); decide) | with_reducible exact isB_0 | with_reducible exact isB_1 | with_reducible exact isB_bI _)] | rw [bd_r (by with_reducible assumption)] | rw [bd_s] | rw [bd2_s] | rw [bd3_s] | rw [nm_s] | rw [nI_clamp (by omega)] | rw [nI_1] | rw [e] | rw [if_pos (by first | with_reducible assumption | ((with_reducible refine nI_lt ?_ ?_); omega; omega) | ((with_reducible refine nI_nlt ?_ ?_); omega; omega) | with_reducible exact ne10 | with_reducible rfl)] | rw [if_neg (by first | with_reducible assumption | ((with_reducible refine nI_lt ?_ ?_); omega; omega) | ((with_reducible refine nI_nlt ?_ ?_); omega; omega) | with_reducible exact ne10 | with_reducible rfl)])
          rfl
        · repeat (first | rw [ck_t (by first | with_reducible assumption | ((with_reducible apply ixA_of); (with_reducible assumption); omega; decide) | ((with_reducible apply isAr_of); (with_reducible assumption); decide) | with_reducible exact isB_0 | with_reducible exact isB_1 | with_reducible exact isB_bI _)] | rw [bd_r (by with_reducible assumption)] | rw [bd_s] | rw [bd2_s] | rw [bd3_s] | rw [nm_s] | rw [nI_clamp (by omega)] | rw [nI_1] | rw [e] | rw [if_pos (by first | with_reducible assumption | ((with_reducible refine nI_lt ?_ ?_); omega; omega) | ((with_reducible refine nI_nlt ?_ ?_); omega; omega) | with_reducible exact ne10 | with_reducible rfl)] | rw [if_neg (by first | with_reducible assumption | ((with_reducible refine nI_lt ?_ ?_); omega; omega) | ((with_reducible refine nI_nlt ?_ ?_); omega; omega) | with_reducible exact ne10 | with_reducible rfl)])
          rfl
      have put1 : ∀ (h : (∃ q, q < i ∧ S[q]? = some b) → p = b), ((nI i : Int32) = -1 ∧ ∀ q p, q < i + 1 → S[q]? = some p → p = a) ∨ ∃ n p, nI i = nI n ∧ n < i + 1 ∧ S[n]? = some p ∧ p ≠ a ∧ ((∃ q, q < i + 1 ∧ S[q]? = some b) → p = b) := fun g => Or.inr ⟨i, p, rfl, by omega, hp, hpa, by
        rintro ⟨q, hq, hqb⟩
        by_cases hqi : q = i
        · subst hqi; exact get_un hp hqb
        · exact g ⟨q, by omega, hqb⟩⟩
      rw [e3]
      unfold mX8_outermost_J120
      rw [if_neg ne10]
      rcases hx with ⟨g1, g2⟩ | ⟨n, p2, g1, g2, g3, g4, g5⟩
      · have g1 : x = -1 := g1
        subst g1
        rw [if_pos neg1_lt, put]
        refine ⟨_, rfl, rfl, put1 ?_⟩
        rintro ⟨q, hq, hqb⟩
        exact absurd (g2 q b hq hqb) hE2
      · have g1 : x = nI n := g1
        subst g1
        have hn := get_lt g3
        rw [if_neg (nI_pos (by omega))]
        obtain ⟨v, v1, v2⟩ := isOuter_ok hm h hS hB ha g3 hp
        rw [bd_e v1]
        have hpS := hE3 p (get_mem hp)
        have hp2 := hE3 p2 (get_mem g3)
        rcases v2 with ⟨rfl, v2⟩ | ⟨rfl, v2⟩
        · rw [if_pos rfl, keep]
          refine ⟨_, rfl, rfl, Or.inr ⟨n, p2, rfl, by omega, g3, g4, ?_⟩⟩
          rintro ⟨q, hq, hqb⟩
          by_cases hqi : q = i
          · subst hqi
            have hpb := get_un hp hqb
            subst hpb
            rcases hp2 with z | z | ⟨-, z⟩
            · exact absurd z g4
            · exact z
            · exact absurd z v2
          · exact g5 ⟨q, by omega, hqb⟩
        · rw [if_neg ne10, put]
          refine ⟨_, rfl, rfl, put1 ?_⟩
          intro hb
          have := g5 hb
          subst this
          rcases hpS with z | z | ⟨z, -⟩
          · exact absurd z hpa
          · exact z
          · exact absurd v2 z
  · rintro ⟨x, y⟩ ⟨rfl, hx⟩
    rcases hx with ⟨g1, g2⟩ | ⟨n, p2, g1, g2, g3, g4, g5⟩
    · obtain ⟨q, hq, hqb⟩ := mem_get hE1
      exact absurd (g2 q b hq hqb) hE2
    · have g1 : x = nI n := g1
      subst g1
      have hpb : p2 = b := by
        obtain ⟨q, hq, hqb⟩ := mem_get hE1
        exact g5 ⟨q, hq, hqb⟩
      subst hpb
      have hn := get_lt g3
      have cmp := bend_eq h hf g3
      show ∃ r, mX8_outermost_B72 K R M m (nI c) (nI j) (nI n) (nI S.length) = _ ∧ _
      by_cases hbf : p2 = f
      · obtain ⟨c1, c2⟩ := cmp.mp hbf
        refine ⟨.inl (nI n, 0, M), ?_, n, g3, Or.inl ⟨hbf, rfl⟩⟩
        unfold mX8_outermost_B72
        repeat (first | rw [ck_t (by first | with_reducible assumption | ((with_reducible apply ixA_of); (with_reducible assumption); omega; decide) | ((with_reducible apply isAr_of); (with_reducible assumption); decide) | with_reducible exact isB_0 | with_reducible exact isB_1 | with_reducible exact isB_bI _)] | rw [bd_r (by with_reducible assumption)] | rw [bd_s] | rw [bd2_s] | rw [bd3_s] | rw [nm_s] | rw [nI_clamp (by omega)] | rw [nI_1] | rw [e] | rw [if_neg (nI_pos (show n < 2 ^ 31 by omega))] | rw [if_pos (by first | with_reducible assumption | ((with_reducible refine nI_lt ?_ ?_); omega; omega) | ((with_reducible refine nI_nlt ?_ ?_); omega; omega) | with_reducible exact ne10 | with_reducible rfl)] | rw [if_neg (by first | with_reducible assumption | ((with_reducible refine nI_lt ?_ ?_); omega; omega) | ((with_reducible refine nI_nlt ?_ ?_); omega; omega) | with_reducible exact ne10 | with_reducible rfl)])
        rfl
      · refine ⟨.inl (nI n, 1, M), ?_, n, g3, Or.inr ⟨hbf, rfl⟩⟩
        unfold mX8_outermost_B72
        by_cases c1 : M.2 (m + 15) n = M.2 (m + 15) c
        · have c2 : ¬ M.2 (m + 16) n = M.2 (m + 16) c := fun q => hbf (cmp.mpr ⟨c1, q⟩)
          repeat (first | rw [ck_t (by first | with_reducible assumption | ((with_reducible apply ixA_of); (with_reducible assumption); omega; decide) | ((with_reducible apply isAr_of); (with_reducible assumption); decide) | with_reducible exact isB_0 | with_reducible exact isB_1 | with_reducible exact isB_bI _)] | rw [bd_r (by with_reducible assumption)] | rw [bd_s] | rw [bd2_s] | rw [bd3_s] | rw [nm_s] | rw [nI_clamp (by omega)] | rw [nI_1] | rw [e] | rw [if_neg (nI_pos (show n < 2 ^ 31 by omega))] | rw [if_pos (by first | with_reducible assumption | ((with_reducible refine nI_lt ?_ ?_); omega; omega) | ((with_reducible refine nI_nlt ?_ ?_); omega; omega) | with_reducible exact ne10 | with_reducible rfl)] | rw [if_neg (by first | with_reducible assumption | ((with_reducible refine nI_lt ?_ ?_); omega; omega) | ((with_reducible refine nI_nlt ?_ ?_); omega; omega) | with_reducible exact ne10 | with_reducible rfl)])
          rfl
        · repeat (first | rw [ck_t (by first | with_reducible assumption | ((with_reducible apply ixA_of); (with_reducible assumption); omega; decide) | ((with_reducible apply isAr_of); (with_reducible assumption); decide) | with_reducible exact isB_0 | with_reducible exact isB_1 | with_reducible exact isB_bI _)] | rw [bd_r (by with_reducible assumption)] | rw [bd_s] | rw [bd2_s] | rw [bd3_s] | rw [nm_s] | rw [nI_clamp (by omega)] | rw [nI_1] | rw [e] | rw [if_neg (nI_pos (show n < 2 ^ 31 by omega))] | rw [if_pos (by first | with_reducible assumption | ((with_reducible refine nI_lt ?_ ?_); omega; omega) | ((with_reducible refine nI_nlt ?_ ?_); omega; omega) | with_reducible exact ne10 | with_reducible rfl)] | rw [if_neg (by first | with_reducible assumption | ((with_reducible refine nI_lt ?_ ?_); omega; omega) | ((with_reducible refine nI_nlt ?_ ?_); omega; omega) | with_reducible exact ne10 | with_reducible rfl)])
          rfl
/-- all points are one -/
theorem select_1 {c j : Nat} {a : Pt} (hm : moA K R m) (h : rM M m 21 15 16 S) (hS : S.length < 601) (ha : S[j]? = some a) (hE : ∀ p, p ∈ S → p = a) : lp (mX8_outermost_L72 K R M m (nI c) (nI j)) (-1, 0) = some (.inl (-1, 0, M)) := by
  have h1 := mo_r19 hm
  have h2 := mo_r20 hm
  have h3 := mo_a19 hm
  have h4 := mo_a20 hm
  have e := h.1
  have lj := get_lt ha
  have hL := lp_ind (f := mX8_outermost_L72 K R M m (nI c) (nI j)) (fun (i : Nat) (s : Int32 × Int32) => s = (-1, nI i)) (fun r => r = .inl (-1, 0, M)) S.length ?_ ?_
  · obtain ⟨r, e1, rfl⟩ := hL S.length 0 (-1, nI 0) (by omega) rfl
    exact e1
  · rintro i s hi rfl
    obtain ⟨p, hp⟩ := get_ex hi
    obtain ⟨c1, c2⟩ := (bend_eq h ha hp).mp (hE p (get_mem hp))
    refine Or.inl ⟨(-1, nI (i + 1)), ?_, rfl⟩
    show mX8_outermost_B72 K R M m (nI c) (nI j) (-1) (nI i) = _
    unfold mX8_outermost_B72
    repeat (first | rw [ck_t (by first | with_reducible assumption | ((with_reducible apply ixA_of); (with_reducible assumption); omega; decide) | ((with_reducible apply isAr_of); (with_reducible assumption); decide) | with_reducible exact isB_0 | with_reducible exact isB_1 | with_reducible exact isB_bI _)] | rw [bd_r (by with_reducible assumption)] | rw [bd_s] | rw [bd2_s] | rw [bd3_s] | rw [nm_s] | rw [nI_clamp (by omega)] | rw [nI_1] | rw [e] | rw [if_pos (by first | with_reducible assumption | ((with_reducible refine nI_lt ?_ ?_); omega; omega) | ((with_reducible refine nI_nlt ?_ ?_); omega; omega) | with_reducible exact ne10 | with_reducible rfl)] | rw [if_neg (by first | with_reducible assumption | ((with_reducible refine nI_lt ?_ ?_); omega; omega) | ((with_reducible refine nI_nlt ?_ ?_); omega; omega) | with_reducible exact ne10 | with_reducible rfl)])
    unfold mX8_outermost_J120
    repeat (first | rw [ck_t (by first | with_reducible assumption | ((with_reducible apply ixA_of); (with_reducible assumption); omega; decide) | ((with_reducible apply isAr_of); (with_reducible assumption); decide) | with_reducible exact isB_0 | with_reducible exact isB_1 | with_reducible exact isB_bI _)] | rw [bd_r (by with_reducible assumption)] | rw [bd_s] | rw [bd2_s] | rw [bd3_s] | rw [nm_s] | rw [nI_clamp (by omega)] | rw [nI_1] | rw [if_pos (by first | with_reducible assumption | ((with_reducible refine nI_lt ?_ ?_); omega; omega) | ((with_reducible refine nI_nlt ?_ ?_); omega; omega) | with_reducible exact ne10 | with_reducible rfl)] | rw [if_neg (by first | with_reducible assumption | ((with_reducible refine nI_lt ?_ ?_); omega; omega) | ((with_reducible refine nI_nlt ?_ ?_); omega; omega) | with_reducible exact ne10 | with_reducible rfl)])
    unfold mX8_outermost_J148
    repeat (first | rw [ck_t (by first | with_reducible assumption | ((with_reducible apply ixA_of); (with_reducible assumption); omega; decide) | ((with_reducible apply isAr_of); (with_reducible assumption); decide) | with_reducible exact isB_0 | with_reducible exact isB_1 | with_reducible exact isB_bI _)] | rw [bd_r (by with_reducible assumption)] | rw [bd_s] | rw [bd2_s] | rw [bd3_s] | rw [nm_s] | rw [nI_clamp (by omega)] | rw [nI_1] | rw [if_pos (by first | with_reducible assumption | ((with_reducible refine nI_lt ?_ ?_); omega; omega) | ((with_reducible refine nI_nlt ?_ ?_); omega; omega) | with_reducible exact ne10 | with_reducible rfl)] | rw [if_neg (by first | with_reducible assumption | ((with_reducible refine nI_lt ?_ ?_); omega; omega) | ((with_reducible refine nI_nlt ?_ ?_); omega; omega) | with_reducible exact ne10 | with_reducible rfl)])
  · rintro s rfl
    refine ⟨_, ?_, rfl⟩
    show mX8_outermost_B72 K R M m (nI c) (nI j) (-1) (nI S.length) = _
    unfold mX8_outermost_B72
    repeat (first | rw [ck_t (by first | with_reducible assumption | ((with_reducible apply ixA_of); (with_reducible assumption); omega; decide) | ((with_reducible apply isAr_of); (with_reducible assumption); decide) | with_reducible exact isB_0 | with_reducible exact isB_1 | with_reducible exact isB_bI _)] | rw [bd_r (by with_reducible assumption)] | rw [bd_s] | rw [bd2_s] | rw [bd3_s] | rw [nm_s] | rw [nI_clamp (by omega)] | rw [nI_1] | rw [e] | rw [if_pos neg1_lt] | rw [if_pos (by first | with_reducible assumption | ((with_reducible refine nI_lt ?_ ?_); omega; omega) | ((with_reducible refine nI_nlt ?_ ?_); omega; omega) | with_reducible exact ne10 | with_reducible rfl)] | rw [if_neg (by first | with_reducible assumption | ((with_reducible refine nI_lt ?_ ?_); omega; omega) | ((with_reducible refine nI_nlt ?_ ?_); omega; omega) | with_reducible exact ne10 | with_reducible rfl)])
    rfl
theorem outermost_ok {L : List Pt} (hm : moA K R m) (h : rM M m 21 15 16 S) (hS : S.length < 601) (hB : ∀ p, p ∈ S → inB p) (hL : L.length < 601) (hG : GW S L) : ∃ M', mX8_outermost K R M m = some M' ∧ rM M' m 24 17 18 L ∧ FM m [24] [17, 18] M M' := by
  have h0 := hm.1
  have h1 := mo_r19 hm
  have h2 := mo_r20 hm
  have h3 := mo_a19 hm
  have h4 := mo_a20 hm
  have h5 := mo_r22 hm
  have h6 := mo_r23 hm
  have h7 := mo_a22 hm
  have h8 := mo_a23 hm
  have e := h.1
  obtain ⟨f, hf, hfS, hleast, hne, hed⟩ := hG
  have lpos := get_lt hf
  have spos : 0 < S.length := by obtain ⟨i, hi, _⟩ := mem_get hfS; omega
  have h' : rM (pI M m 24 0) m 21 15 16 S := h.fr (FM.rf.pI (is := [24]) (as := []) (by decide)) (by decide) (by decide) (by decide)
  obtain ⟨c, e1, hc⟩ := leastPoint_ok hm h' hS hfS hleast
  have lc := get_lt hc
  have hW := lp_ind (f := mX8_outermost_L22 K R m (nI c)) (fun (i : Nat) (s : Int32 × Int32 × Mm) => (i < L.length → s.2.1 = 1 ∧ ∃ j a, s.1 = nI j ∧ S[j]? = some a ∧ L[i]? = some a) ∧ (i = L.length → s.2.1 = 0) ∧ rM s.2.2 m 24 17 18 (L.take i) ∧ FM m [24] [17, 18] M s.2.2) (fun M' => rM M' m 24 17 18 L ∧ FM m [24] [17, 18] M M') L.length ?_ ?_
  · obtain ⟨M', e2, e3⟩ := hW L.length 0 (nI c, 1, pI M m 24 0) (by omega) ⟨fun _ => ⟨rfl, c, f, rfl, hc, hf⟩, fun q => absurd q (by omega), ⟨pI_s, fun i p hp => by simp at hp⟩, FM.rf.pI (by decide)⟩
    refine ⟨M', ?_, e3⟩
    have ep : (pI M m 24 0).1 m 21 = nI S.length := h'.1
    unfold mX8_outermost
    repeat (first | rw [ck_t (by first | with_reducible assumption | ((with_reducible apply ixA_of); (with_reducible assumption); omega; decide) | ((with_reducible apply isAr_of); (with_reducible assumption); decide) | with_reducible exact isB_0 | with_reducible exact isB_1 | with_reducible exact isB_bI _)] | rw [bd_r (by with_reducible assumption)] | rw [bd_s] | rw [bd2_s] | rw [bd3_s] | rw [nm_s] | rw [nI_clamp (by omega)] | rw [nI_1] | rw [ep] | rw [if_neg (nI_ne0 spos (show S.length < 2 ^ 31 by omega))] | rw [bd_e (e1)] | rw [if_pos (by first | with_reducible assumption | ((with_reducible refine nI_lt ?_ ?_); omega; omega) | ((with_reducible refine nI_nlt ?_ ?_); omega; omega) | with_reducible exact ne10 | with_reducible rfl)] | rw [if_neg (by first | with_reducible assumption | ((with_reducible refine nI_lt ?_ ?_); omega; omega) | ((with_reducible refine nI_nlt ?_ ?_); omega; omega) | with_reducible exact ne10 | with_reducible rfl)])
    exact e2
  · rintro i ⟨x, y, N⟩ hi ⟨g1, g2, g3, g4⟩
    obtain ⟨rfl, j, a, rfl, ha, hLa⟩ := g1 hi
    have g3 : rM N m 24 17 18 (L.take i) := g3
    have g4 : FM m [24] [17, 18] M N := g4
    have lj := get_lt ha
    have hN := h.fr g4 (by decide) (by decide) (by decide)
    have eN : N.1 m 24 = nI i := by rw [g3.1, List.length_take]; congr 1; omega
    generalize hN2 : pI (pL (pL N (m + 17) i (N.2 (m + 15) j)) (m + 18) i (N.2 (m + 16) j)) m 24 (nI (i + 1)) = N2
    have f2 : FM m [24] [17, 18] N N2 := by rw [← hN2]; exact ((FM.rf.pL (by decide)).pL (by decide)).pI (by decide)
    have hN2' := hN.fr f2 (by decide) (by decide) (by decide)
    have r2 : rM N2 m 24 17 18 (L.take (i + 1)) := by
      refine ⟨by rw [← hN2, pI_s, List.length_take]; congr 1; omega, fun k p hp => ?_⟩
      have hk := get_lt hp
      rw [List.length_take] at hk
      rw [List.getElem?_take, if_pos (by omega)] at hp
      rw [← hN2, pI_l, pL_n (show m + 17 ≠ m + 18 by omega)]
      by_cases hki : k = i
      · subst hki
        rw [pL_s, pL_s, get_un hp hLa]
        exact hN.2 j a ha
      · rw [pL_k hki, pL_k hki, pL_n (show m + 18 ≠ m + 17 by omega)]
        exact g3.2 k p (by rw [List.getElem?_take, if_pos (by omega)]; exact hp)
    have eb : mX8_outermost_L22 K R m (nI c) (nI j, 1, N) = lp (mX8_outermost_L72 K R N2 m (nI c) (nI j)) (-1, 0) := by
      show mX8_outermost_B22 K R m (nI c) (nI j) 1 N = _
      unfold mX8_outermost_B22
      repeat (first | rw [ck_t (by first | with_reducible assumption | ((with_reducible apply ixA_of); (with_reducible assumption); omega; decide) | ((with_reducible apply isAr_of); (with_reducible assumption); decide) | with_reducible exact isB_0 | with_reducible exact isB_1 | with_reducible exact isB_bI _)] | rw [bd_r (by with_reducible assumption)] | rw [bd_s] | rw [bd2_s] | rw [bd3_s] | rw [nm_s] | rw [nI_clamp (by omega)] | rw [nI_1] | rw [eN] | rw [pL_i] | rw [pL_n (show m + 16 ≠ m + 17 by omega)] | rw [if_pos (by first | with_reducible assumption | ((with_reducible refine nI_lt ?_ ?_); omega; omega) | ((with_reducible refine nI_nlt ?_ ?_); omega; omega) | with_reducible exact ne10 | with_reducible rfl)] | rw [if_neg (by first | with_reducible assumption | ((with_reducible refine nI_lt ?_ ?_); omega; omega) | ((with_reducible refine nI_nlt ?_ ?_); omega; omega) | with_reducible exact ne10 | with_reducible rfl)])
      rw [hN2]
    rw [eb]
    left
    rcases hed with ⟨hl1, hall⟩ | hed
    · obtain rfl : i = 0 := by omega
      have haf := get_un hLa hf
      subst haf
      rw [select_1 hm hN2' hS ha hall]
      exact ⟨_, rfl, fun q => absurd q (by omega), fun _ => rfl, r2, g4.tr f2⟩
    · have hmod : (i + 1) % L.length < L.length := Nat.mod_lt _ lpos
      obtain ⟨b, hb⟩ := get_ex hmod
      obtain ⟨n, hn, hsel⟩ := select_ok hm hN2' hS hB hc ha (hed i a b hLa hb)
      rcases hsel with ⟨g, e5⟩ | ⟨g, e5⟩
      · refine ⟨_, e5, fun q => ?_, fun _ => rfl, r2, g4.tr f2⟩
        rw [Nat.mod_eq_of_lt q] at hb
        exact absurd g (hne _ b (by omega) hb)
      · refine ⟨_, e5, fun q => ⟨rfl, n, b, rfl, hn, ?_⟩, fun q => ?_, r2, g4.tr f2⟩
        · rw [Nat.mod_eq_of_lt q] at hb; exact hb
        · rw [q, Nat.mod_self] at hb
          exact absurd (get_un hb hf) g
  · rintro ⟨x, y, N⟩ ⟨g1, g2, g3, g4⟩
    have g2 : y = 0 := g2 rfl
    subst g2
    have g3 : rM N m 24 17 18 (L.take L.length) := g3
    rw [List.take_length] at g3
    refine ⟨N, ?_, g3, g4⟩
    show mX8_outermost_B22 K R m (nI c) x 0 N = _
    unfold mX8_outermost_B22
    repeat (first | rw [ck_t (by first | with_reducible assumption | ((with_reducible apply ixA_of); (with_reducible assumption); omega; decide) | ((with_reducible apply isAr_of); (with_reducible assumption); decide) | with_reducible exact isB_0 | with_reducible exact isB_1 | with_reducible exact isB_bI _)] | rw [bd_r (by with_reducible assumption)] | rw [bd_s] | rw [bd2_s] | rw [bd3_s] | rw [nm_s] | rw [nI_clamp (by omega)] | rw [nI_1] | rw [if_pos (by first | with_reducible assumption | ((with_reducible refine nI_lt ?_ ?_); omega; omega) | ((with_reducible refine nI_nlt ?_ ?_); omega; omega) | with_reducible exact ne10 | with_reducible rfl)] | rw [if_neg (by first | with_reducible assumption | ((with_reducible refine nI_lt ?_ ?_); omega; omega) | ((with_reducible refine nI_nlt ?_ ?_); omega; omega) | with_reducible exact ne10 | with_reducible rfl)])
    rfl
end OUT2
