/-! third, the reference: the points of both, all of them -/
section TH
variable {K : Kk} {R : Rr} {M : Mm} {m : Nat}
def ibF (M : Mm) (m : Nat) (A B : List Pt) (M' : Mm) : Prop := FM m [21, 24, 36] [15, 16, 17, 18] M M' ∧ ((allX A B ∧ M'.1 m 36 = 0 ∧ ∃ L, rM M' m 24 17 18 L ∧ (GW (aS A B) L ∨ (aS A B = [] ∧ L = []))) ∨ (¬ allX A B ∧ M'.1 m 36 = 1))
theorem inBoth_ok {A B : List Pt} (hm : moA K R m) (h1 : rM M m 15 11 12 A) (h2 : rM M m 18 13 14 B) (A16 : A.length ≤ 16) (B16 : B.length ≤ 16) (A3 : 3 ≤ A.length) (cA : Cv A) (bA : inBs A) (bB : inBs B) : ∃ M', mX8_inBoth K R M m = some M' ∧ ibF M m A B M' := by
  have h0 := hm.1
  have r1 := mo_r13 hm
  have r2 := mo_r14 hm
  have r3 := mo_r16 hm
  have r4 := mo_r17 hm
  have a1 := mo_a13 hm
  have a2 := mo_a14 hm
  have a3 := mo_a16 hm
  have a4 := mo_a17 hm
  have lh1 := hlL_len (A := A) (B := B) A.length
  have lh2 := hlL_len (A := B) (B := A) B.length
  -- the crossings
  have c3 : ∀ N, FM m [21, 36] [15, 16] M N → N.1 m 36 = 0 → rM N m 21 15 16 (hlL A B A.length ++ hlL B A B.length) → ∃ M', lp (mX8_inBoth_L113 K R m) (nI 0, N) = some M' ∧ ibF M m A B M' := fun N0 g1 g2 g3 => by
    have hL := lp_ind (f := mX8_inBoth_L113 K R m) (fun (i : Nat) (s : Int32 × Mm) => s.1 = nI i ∧ FM m [21, 36] [15, 16] M s.2 ∧ ∃ S, rM s.2 m 21 15 16 S ∧ S.length ≤ 32 + 16 * i ∧ ((s.2.1 m 36 = 0 ∧ xdone A B i 0 ∧ S = hlL A B A.length ++ hlL B A B.length ++ xaL A B i) ∨ (s.2.1 m 36 = 1 ∧ ¬ allX A B))) (fun M' => ibF M m A B M') A.length ?_ ?_
    · obtain ⟨M', e1, e2⟩ := hL A.length 0 (nI 0, N0) (by omega) ⟨rfl, g1, _, g3, by rw [List.length_append]; omega, Or.inl ⟨g2, fun i' k' _ _ h => absurd h (by omega), by show _ = _ ++ []; rw [List.append_nil]⟩⟩
      exact ⟨M', e1, e2⟩
    · rintro i ⟨z, N⟩ hi ⟨rfl, f1, S, f2, f3, f4⟩
      have f1 : FM m [21, 36] [15, 16] M N := f1
      have f2 : rM N m 21 15 16 S := f2
      have f4 : (N.1 m 36 = 0 ∧ xdone A B i 0 ∧ S = hlL A B A.length ++ hlL B A B.length ++ xaL A B i) ∨ (N.1 m 36 = 1 ∧ ¬ allX A B) := f4
      have e := (h1.fr f1 (by decide) (by decide) (by decide)).1
      have hI := lp_ind (f := mX8_inBoth_L123 K R m (nI i)) (fun (k : Nat) (s : Int32 × Mm) => s.1 = nI k ∧ FM m [21, 36] [15, 16] M s.2 ∧ ∃ S, rM s.2 m 21 15 16 S ∧ S.length ≤ 32 + 16 * i + k ∧ ((s.2.1 m 36 = 0 ∧ xdone A B i k ∧ S = hlL A B A.length ++ hlL B A B.length ++ xaL A B i ++ xrL A B i k) ∨ (s.2.1 m 36 = 1 ∧ ¬ allX A B))) (fun r => ∃ N, r = .inl (nI (i + 1), N) ∧ FM m [21, 36] [15, 16] M N ∧ ∃ S, rM N m 21 15 16 S ∧ S.length ≤ 32 + 16 * (i + 1) ∧ ((N.1 m 36 = 0 ∧ xdone A B (i + 1) 0 ∧ S = hlL A B A.length ++ hlL B A B.length ++ xaL A B (i + 1)) ∨ (N.1 m 36 = 1 ∧ ¬ allX A B))) B.length ?_ ?_
      · have f4' : (N.1 m 36 = 0 ∧ xdone A B i 0 ∧ S = hlL A B A.length ++ hlL B A B.length ++ xaL A B i ++ xrL A B i 0) ∨ (N.1 m 36 = 1 ∧ ¬ allX A B) := by
          rcases f4 with ⟨x1, x2, x3⟩ | x
          · exact Or.inl ⟨x1, x2, by rw [x3]; show _ = _ ++ []; rw [List.append_nil]⟩
          · exact Or.inr x
        obtain ⟨r, e1, N', rfl, e2⟩ := hI B.length 0 (nI 0, N) (by omega) ⟨rfl, f1, S, f2, f3, f4'⟩
        refine Or.inl ⟨(nI (i + 1), N'), ?_, rfl, e2⟩
        show mX8_inBoth_B113 K R m (nI i) N = _
        unfold mX8_inBoth_B113
        (repeat (first | rw [ck_t (by first | with_reducible assumption | ((with_reducible apply ixA_of); (with_reducible assumption); omega; omega) | ((with_reducible apply isAr_of); (with_reducible assumption); decide) | ((with_reducible apply nI_ne0); omega; omega) | with_reducible exact isB_0 | with_reducible exact isB_1 | with_reducible exact isB_bI _)] | rw [bd_r (by with_reducible assumption)] | rw [bd_s] | rw [bd2_s] | rw [bd3_s] | rw [nm_s] | rw [nI_clamp (by omega)] | rw [nI_1] | rw [e] | rw [if_pos (by first | with_reducible assumption | ((with_reducible refine nI_lt ?_ ?_); omega; omega) | ((with_reducible refine nI_nlt ?_ ?_); omega; omega) | with_reducible exact ne10 | with_reducible rfl)] | rw [if_neg (by first | with_reducible assumption | ((with_reducible refine nI_lt ?_ ?_); omega; omega) | ((with_reducible refine nI_nlt ?_ ?_); omega; omega) | with_reducible exact ne10 | with_reducible rfl)]))
        exact e1
      · rintro k ⟨z, N⟩ hk ⟨rfl, f1, S, f2, f3, f4⟩
        have f1 : FM m [21, 36] [15, 16] M N := f1
        have f2 : rM N m 21 15 16 S := f2
        have f4 : (N.1 m 36 = 0 ∧ xdone A B i k ∧ S = hlL A B A.length ++ hlL B A B.length ++ xaL A B i ++ xrL A B i k) ∨ (N.1 m 36 = 1 ∧ ¬ allX A B) := f4
        have hNB := h2.fr f1 (by decide) (by decide) (by decide)
        have e := hNB.1
        obtain ⟨N2, d1, d2, d3⟩ := meetM_ok (M := N) hm (h1.fr f1 (by decide) (by decide) (by decide)) hNB f2 (by omega) (by omega) bA bB hi hk (by omega)
        refine Or.inl ⟨(nI (k + 1), N2), ?_, rfl, f1.tr d2, ?_⟩
        · show mX8_inBoth_B123 K R m (nI i) (nI k) N = _
          unfold mX8_inBoth_B123
          (repeat (first | rw [ck_t (by first | with_reducible assumption | ((with_reducible apply ixA_of); (with_reducible assumption); omega; omega) | ((with_reducible apply isAr_of); (with_reducible assumption); decide) | ((with_reducible apply nI_ne0); omega; omega) | with_reducible exact isB_0 | with_reducible exact isB_1 | with_reducible exact isB_bI _)] | rw [bd_r (by with_reducible assumption)] | rw [bd_s] | rw [bd2_s] | rw [bd3_s] | rw [nm_s] | rw [nI_clamp (by omega)] | rw [nI_1] | rw [e] | rw [bd_e (d1)] | rw [if_pos (by first | with_reducible assumption | ((with_reducible refine nI_lt ?_ ?_); omega; omega) | ((with_reducible refine nI_nlt ?_ ?_); omega; omega) | with_reducible exact ne10 | with_reducible rfl)] | rw [if_neg (by first | with_reducible assumption | ((with_reducible refine nI_lt ?_ ?_); omega; omega) | ((with_reducible refine nI_nlt ?_ ?_); omega; omega) | with_reducible exact ne10 | with_reducible rfl)]))
        · show ∃ S, rM N2 m 21 15 16 S ∧ S.length ≤ _ ∧ ((N2.1 m 36 = 0 ∧ _) ∨ (N2.1 m 36 = 1 ∧ _))
          rcases d3 with ⟨hx, rfl⟩ | ⟨hx, X, x1, x2⟩
          · refine ⟨S, f2, by omega, ?_⟩
            rcases f4 with ⟨y1, y2, y3⟩ | y
            · refine Or.inl ⟨y1, fun i' k' h1 h2 h3 h4 => ?_, ?_⟩
              · by_cases c : i' = i ∧ k' = k
                · rw [c.1, c.2] at h4; exact absurd h4 hx
                · exact y2 i' k' h1 h2 (by omega) h4
              · show _ = _ ++ (xrL A B i k ++ ap1 (xc A B i k) (xpt A B i k))
                rw [ap1_f hx, List.append_nil]; exact y3
            · exact Or.inr y
          · refine ⟨S ++ [X], x1, by rw [List.length_append, List.length_singleton]; omega, ?_⟩
            rcases f4 with ⟨y1, y2, y3⟩ | ⟨y1, y2⟩
            · rcases x2 with ⟨-, w2, w3, w4⟩ | ⟨w1, w2⟩
              · refine Or.inl ⟨w3, fun i' k' h1 h2 h3 h4 => ?_, ?_⟩
                · by_cases c : i' = i ∧ k' = k
                  · rw [c.1, c.2]; exact w2
                  · exact y2 i' k' h1 h2 (by omega) h4
                · show _ = _ ++ (xrL A B i k ++ ap1 (xc A B i k) (xpt A B i k))
                  rw [ap1_t hx, ← List.append_assoc, w4, y3]
              · exact Or.inr ⟨w2, fun hX => w1 ⟨y1, hX i k hi hk hx⟩⟩
            · rcases x2 with ⟨w1, -⟩ | ⟨w1, w2⟩
              · rw [y1] at w1; exact absurd w1 (by decide)
              · exact Or.inr ⟨w2, y2⟩
      · rintro ⟨z, N⟩ ⟨rfl, f1, S, f2, f3, f4⟩
        have f1 : FM m [21, 36] [15, 16] M N := f1
        have f4 : (N.1 m 36 = 0 ∧ xdone A B i B.length ∧ S = hlL A B A.length ++ hlL B A B.length ++ xaL A B i ++ xrL A B i B.length) ∨ (N.1 m 36 = 1 ∧ ¬ allX A B) := f4
        have e := (h2.fr f1 (by decide) (by decide) (by decide)).1
        refine ⟨_, ?_, N, rfl, f1, S, f2, by omega, ?_⟩
        · show mX8_inBoth_B123 K R m (nI i) (nI B.length) N = _
          unfold mX8_inBoth_B123
          (repeat (first | rw [ck_t (by first | with_reducible assumption | ((with_reducible apply ixA_of); (with_reducible assumption); omega; omega) | ((with_reducible apply isAr_of); (with_reducible assumption); decide) | ((with_reducible apply nI_ne0); omega; omega) | with_reducible exact isB_0 | with_reducible exact isB_1 | with_reducible exact isB_bI _)] | rw [bd_r (by with_reducible assumption)] | rw [bd_s] | rw [bd2_s] | rw [bd3_s] | rw [nm_s] | rw [nI_clamp (by omega)] | rw [nI_1] | rw [e] | rw [if_pos (by first | with_reducible assumption | ((with_reducible refine nI_lt ?_ ?_); omega; omega) | ((with_reducible refine nI_nlt ?_ ?_); omega; omega) | with_reducible exact ne10 | with_reducible rfl)] | rw [if_neg (by first | with_reducible assumption | ((with_reducible refine nI_lt ?_ ?_); omega; omega) | ((with_reducible refine nI_nlt ?_ ?_); omega; omega) | with_reducible exact ne10 | with_reducible rfl)]))
          rfl
        · rcases f4 with ⟨y1, y2, y3⟩ | y
          · refine Or.inl ⟨y1, fun i' k' h1 h2 h3 h4 => y2 i' k' h1 h2 (by omega) h4, ?_⟩
            rw [y3, List.append_assoc _ (xaL A B i)]; rfl
          · exact Or.inr y
    · rintro ⟨z, N⟩ ⟨rfl, f1, S, f2, f3, f4⟩
      have f1 : FM m [21, 36] [15, 16] M N := f1
      have f2 : rM N m 21 15 16 S := f2
      have f4 : (N.1 m 36 = 0 ∧ xdone A B A.length 0 ∧ S = hlL A B A.length ++ hlL B A B.length ++ xaL A B A.length) ∨ (N.1 m 36 = 1 ∧ ¬ allX A B) := f4
      have e := (h1.fr f1 (by decide) (by decide) (by decide)).1
      show ∃ r, mX8_inBoth_B113 K R m (nI A.length) N = some (.inr r) ∧ _
      unfold mX8_inBoth_B113
      rcases f4 with ⟨y1, y2, y3⟩ | ⟨y1, y2⟩
      · have hX : allX A B := fun i k hi hk hx => y2 i k hi hk (by omega) hx
        have y3 : S = aS A B := y3
        by_cases c : S = []
        · refine ⟨pI N m 24 0, ?_, (f1.mo (by decide) (by decide)).pI (by decide), Or.inl ⟨hX, by rw [pI_k (by decide)]; exact y1, [], ⟨pI_s, fun i p hp => by cases hp⟩, Or.inr ⟨by rw [← y3]; exact c, rfl⟩⟩⟩
          have e21 : N.1 m 21 = nI 0 := by rw [f2.1, c]; rfl
          (repeat (first | rw [ck_t (by first | with_reducible assumption | ((with_reducible apply ixA_of); (with_reducible assumption); omega; omega) | ((with_reducible apply isAr_of); (with_reducible assumption); decide) | ((with_reducible apply nI_ne0); omega; omega) | with_reducible exact isB_0 | with_reducible exact isB_1 | with_reducible exact isB_bI _)] | rw [bd_r (by with_reducible assumption)] | rw [bd_s] | rw [bd2_s] | rw [bd3_s] | rw [nm_s] | rw [nI_clamp (by omega)] | rw [nI_1] | rw [e] | rw [if_pos (y1)] | rw [bd_e (outermost_0 hm e21)] | rw [if_pos (by first | with_reducible assumption | ((with_reducible refine nI_lt ?_ ?_); omega; omega) | ((with_reducible refine nI_nlt ?_ ?_); omega; omega) | with_reducible exact ne10 | with_reducible rfl)] | rw [if_neg (by first | with_reducible assumption | ((with_reducible refine nI_lt ?_ ?_); omega; omega) | ((with_reducible refine nI_nlt ?_ ?_); omega; omega) | with_reducible exact ne10 | with_reducible rfl)]))
          rfl
        · obtain ⟨L, L1, L2⟩ := hull_ex c
          obtain ⟨N2, d1, d2, d3⟩ := outermost_ok hm f2 (by omega) (fun p hp => inP_B cA A3 bA (aS_in cA A3 hX (by rw [← y3]; exact hp))) (by omega) L1
          refine ⟨N2, ?_, (f1.mo (by decide) (by decide)).tr (d3.mo (by decide) (by decide)), Or.inl ⟨hX, by rw [d3.sl 36 (by decide)]; exact y1, L, d2, Or.inl (by rw [← y3]; exact L1)⟩⟩
          (repeat (first | rw [ck_t (by first | with_reducible assumption | ((with_reducible apply ixA_of); (with_reducible assumption); omega; omega) | ((with_reducible apply isAr_of); (with_reducible assumption); decide) | ((with_reducible apply nI_ne0); omega; omega) | with_reducible exact isB_0 | with_reducible exact isB_1 | with_reducible exact isB_bI _)] | rw [bd_r (by with_reducible assumption)] | rw [bd_s] | rw [bd2_s] | rw [bd3_s] | rw [nm_s] | rw [nI_clamp (by omega)] | rw [nI_1] | rw [e] | rw [if_pos (y1)] | rw [bd_e (d1)] | rw [if_pos (by first | with_reducible assumption | ((with_reducible refine nI_lt ?_ ?_); omega; omega) | ((with_reducible refine nI_nlt ?_ ?_); omega; omega) | with_reducible exact ne10 | with_reducible rfl)] | rw [if_neg (by first | with_reducible assumption | ((with_reducible refine nI_lt ?_ ?_); omega; omega) | ((with_reducible refine nI_nlt ?_ ?_); omega; omega) | with_reducible exact ne10 | with_reducible rfl)]))
          rfl
      · refine ⟨N, ?_, f1.mo (by decide) (by decide), Or.inr ⟨y2, y1⟩⟩
        (repeat (first | rw [ck_t (by first | with_reducible assumption | ((with_reducible apply ixA_of); (with_reducible assumption); omega; omega) | ((with_reducible apply isAr_of); (with_reducible assumption); decide) | ((with_reducible apply nI_ne0); omega; omega) | with_reducible exact isB_0 | with_reducible exact isB_1 | with_reducible exact isB_bI _)] | rw [bd_r (by with_reducible assumption)] | rw [bd_s] | rw [bd2_s] | rw [bd3_s] | rw [nm_s] | rw [nI_clamp (by omega)] | rw [nI_1] | rw [e] | rw [if_neg (show ¬ N.1 m 36 = 0 by rw [y1]; decide)] | rw [if_pos (by first | with_reducible assumption | ((with_reducible refine nI_lt ?_ ?_); omega; omega) | ((with_reducible refine nI_nlt ?_ ?_); omega; omega) | with_reducible exact ne10 | with_reducible rfl)] | rw [if_neg (by first | with_reducible assumption | ((with_reducible refine nI_lt ?_ ?_); omega; omega) | ((with_reducible refine nI_nlt ?_ ?_); omega; omega) | with_reducible exact ne10 | with_reducible rfl)]))
        rfl
  -- the second's corners
  have c2 : ∀ N, FM m [21, 36] [15, 16] M N → N.1 m 36 = 0 → rM N m 21 15 16 (hlL A B A.length) → ∃ M', lp (mX8_inBoth_L62 K R m) (nI 0, N) = some M' ∧ ibF M m A B M' := fun N0 g1 g2 g3 => by
    have hL := lp_ind (f := mX8_inBoth_L62 K R m) (fun (i : Nat) (s : Int32 × Mm) => s.1 = nI i ∧ FM m [21, 36] [15, 16] M s.2 ∧ s.2.1 m 36 = 0 ∧ rM s.2 m 21 15 16 (hlL A B A.length ++ hlL B A i)) (fun M' => ibF M m A B M') B.length ?_ ?_
    · obtain ⟨M', e1, e2⟩ := hL B.length 0 (nI 0, N0) (by omega) ⟨rfl, g1, g2, by show rM _ _ _ _ _ (_ ++ []); rw [List.append_nil]; exact g3⟩
      exact ⟨M', e1, e2⟩
    · rintro i ⟨z, N⟩ hi ⟨rfl, f1, f3, f2⟩
      have f1 : FM m [21, 36] [15, 16] M N := f1
      have f2 : rM N m 21 15 16 (hlL A B A.length ++ hlL B A i) := f2
      have hN := h2.fr f1 (by decide) (by decide) (by decide)
      have e := hN.1
      have gi := gp_get hi
      have pe := hN.pt gi
      have lh := hlL_len (A := B) (B := A) i
      obtain ⟨v, v1, v2⟩ := hasA_ok (M := N) hm (h1.fr f1 (by decide) (by decide) (by decide)) (by omega) bA (pe ▸ bB _ _ gi)
      rw [← pe] at v2
      have nx : ∀ N, mX8_inBoth_J105 K R N m (nI i) = some (.inl (nI (i + 1), N)) := fun N => by unfold mX8_inBoth_J105; (repeat (first | rw [ck_t (by first | with_reducible assumption | ((with_reducible apply ixA_of); (with_reducible assumption); omega; omega) | ((with_reducible apply isAr_of); (with_reducible assumption); decide) | ((with_reducible apply nI_ne0); omega; omega) | with_reducible exact isB_0 | with_reducible exact isB_1 | with_reducible exact isB_bI _)] | rw [bd_r (by with_reducible assumption)] | rw [bd_s] | rw [bd2_s] | rw [bd3_s] | rw [nm_s] | rw [nI_clamp (by omega)] | rw [nI_1] | rw [if_pos (by first | with_reducible assumption | ((with_reducible refine nI_lt ?_ ?_); omega; omega) | ((with_reducible refine nI_nlt ?_ ?_); omega; omega) | with_reducible exact ne10 | with_reducible rfl)] | rw [if_neg (by first | with_reducible assumption | ((with_reducible refine nI_lt ?_ ?_); omega; omega) | ((with_reducible refine nI_nlt ?_ ?_); omega; omega) | with_reducible exact ne10 | with_reducible rfl)]))
      have y3i : ixA K (m + 13) 1 (nI i) := ixA_of a3 (by omega) (by omega)
      have y4i : ixA K (m + 14) 1 (nI i) := ixA_of a4 (by omega) (by omega)
      left
      rcases v2 with ⟨rfl, v2⟩ | ⟨rfl, v2⟩
      · obtain ⟨N2, d1, d2, d3⟩ := point_ok (x := N.2 (m + 13) i) (y := N.2 (m + 14) i) hm f2 (by rw [List.length_append]; omega)
        rw [← pe] at d2
        refine ⟨(nI (i + 1), N2), ?_, rfl, f1.tr (d3.mo (by decide) (by decide)), by show N2.1 m 36 = 0; rw [d3.sl 36 (by decide)]; exact f3, ?_⟩
        · show mX8_inBoth_B62 K R m (nI i) N = _
          unfold mX8_inBoth_B62
          (repeat (first | rw [ck_t (by first | with_reducible assumption | ((with_reducible apply ixA_of); (with_reducible assumption); omega; omega) | ((with_reducible apply isAr_of); (with_reducible assumption); decide) | ((with_reducible apply nI_ne0); omega; omega) | with_reducible exact isB_0 | with_reducible exact isB_1 | with_reducible exact isB_bI _)] | rw [bd_r (by with_reducible assumption)] | rw [bd_s] | rw [bd2_s] | rw [bd3_s] | rw [nm_s] | rw [nI_clamp (by omega)] | rw [nI_1] | rw [e] | rw [bd_e (v1)] | rw [if_neg (ne10)] | rw [bd_e (d1)] | rw [nx N2] | rw [if_pos (by first | with_reducible assumption | ((with_reducible refine nI_lt ?_ ?_); omega; omega) | ((with_reducible refine nI_nlt ?_ ?_); omega; omega) | with_reducible exact ne10 | with_reducible rfl)] | rw [if_neg (by first | with_reducible assumption | ((with_reducible refine nI_lt ?_ ?_); omega; omega) | ((with_reducible refine nI_nlt ?_ ?_); omega; omega) | with_reducible exact ne10 | with_reducible rfl)]))
        · show rM N2 m 21 15 16 (_ ++ (hlL B A i ++ ap1 (inP A (gp B i)) (gp B i)))
          rw [ap1_t v2, ← List.append_assoc]; exact d2
      · refine ⟨(nI (i + 1), N), ?_, rfl, f1, f3, ?_⟩
        · show mX8_inBoth_B62 K R m (nI i) N = _
          unfold mX8_inBoth_B62
          (repeat (first | rw [ck_t (by first | with_reducible assumption | ((with_reducible apply ixA_of); (with_reducible assumption); omega; omega) | ((with_reducible apply isAr_of); (with_reducible assumption); decide) | ((with_reducible apply nI_ne0); omega; omega) | with_reducible exact isB_0 | with_reducible exact isB_1 | with_reducible exact isB_bI _)] | rw [bd_r (by with_reducible assumption)] | rw [bd_s] | rw [bd2_s] | rw [bd3_s] | rw [nm_s] | rw [nI_clamp (by omega)] | rw [nI_1] | rw [e] | rw [bd_e (v1)] | rw [nx N] | rw [if_pos (by first | with_reducible assumption | ((with_reducible refine nI_lt ?_ ?_); omega; omega) | ((with_reducible refine nI_nlt ?_ ?_); omega; omega) | with_reducible exact ne10 | with_reducible rfl)] | rw [if_neg (by first | with_reducible assumption | ((with_reducible refine nI_lt ?_ ?_); omega; omega) | ((with_reducible refine nI_nlt ?_ ?_); omega; omega) | with_reducible exact ne10 | with_reducible rfl)]))
        · show rM N m 21 15 16 (_ ++ (hlL B A i ++ ap1 (inP A (gp B i)) (gp B i)))
          rw [ap1_f v2, List.append_nil]; exact f2
    · rintro ⟨z, N⟩ ⟨rfl, f1, f3, f2⟩
      have f1 : FM m [21, 36] [15, 16] M N := f1
      have e := (h2.fr f1 (by decide) (by decide) (by decide)).1
      obtain ⟨M', e1, e2⟩ := c3 N f1 f3 f2
      refine ⟨M', ?_, e2⟩
      show mX8_inBoth_B62 K R m (nI B.length) N = _
      unfold mX8_inBoth_B62
      have e1 : lp (mX8_inBoth_L113 K R m) (0, N) = some M' := e1
      (repeat (first | rw [ck_t (by first | with_reducible assumption | ((with_reducible apply ixA_of); (with_reducible assumption); omega; omega) | ((with_reducible apply isAr_of); (with_reducible assumption); decide) | ((with_reducible apply nI_ne0); omega; omega) | with_reducible exact isB_0 | with_reducible exact isB_1 | with_reducible exact isB_bI _)] | rw [bd_r (by with_reducible assumption)] | rw [bd_s] | rw [bd2_s] | rw [bd3_s] | rw [nm_s] | rw [nI_clamp (by omega)] | rw [nI_1] | rw [e] | rw [e1] | rw [if_pos (by first | with_reducible assumption | ((with_reducible refine nI_lt ?_ ?_); omega; omega) | ((with_reducible refine nI_nlt ?_ ?_); omega; omega) | with_reducible exact ne10 | with_reducible rfl)] | rw [if_neg (by first | with_reducible assumption | ((with_reducible refine nI_lt ?_ ?_); omega; omega) | ((with_reducible refine nI_nlt ?_ ?_); omega; omega) | with_reducible exact ne10 | with_reducible rfl)]))
      rfl
  have hL := lp_ind (f := mX8_inBoth_L11 K R m) (fun (i : Nat) (s : Int32 × Mm) => s.1 = nI i ∧ FM m [21, 36] [15, 16] M s.2 ∧ s.2.1 m 36 = 0 ∧ rM s.2 m 21 15 16 (hlL A B i)) (fun M' => ibF M m A B M') A.length ?_ ?_
  · obtain ⟨M', e1, e2⟩ := hL A.length 0 (nI 0, pI (pI M m 36 0) m 21 0) (by omega) ⟨rfl, (FM.rf.pI (by decide)).pI (by decide), by show (pI (pI M m 36 0) m 21 0).1 m 36 = 0; rw [pI_k (by decide), pI_s], pI_s, fun i p hp => by cases hp⟩
    refine ⟨M', ?_, e2⟩
    unfold mX8_inBoth
    (repeat (first | rw [ck_t (by first | with_reducible assumption | ((with_reducible apply ixA_of); (with_reducible assumption); omega; omega) | ((with_reducible apply isAr_of); (with_reducible assumption); decide) | ((with_reducible apply nI_ne0); omega; omega) | with_reducible exact isB_0 | with_reducible exact isB_1 | with_reducible exact isB_bI _)] | rw [bd_r (by with_reducible assumption)] | rw [bd_s] | rw [bd2_s] | rw [bd3_s] | rw [nm_s] | rw [nI_clamp (by omega)] | rw [nI_1] | rw [bd_e (begin_ok hm)] | rw [if_pos (by first | with_reducible assumption | ((with_reducible refine nI_lt ?_ ?_); omega; omega) | ((with_reducible refine nI_nlt ?_ ?_); omega; omega) | with_reducible exact ne10 | with_reducible rfl)] | rw [if_neg (by first | with_reducible assumption | ((with_reducible refine nI_lt ?_ ?_); omega; omega) | ((with_reducible refine nI_nlt ?_ ?_); omega; omega) | with_reducible exact ne10 | with_reducible rfl)]))
    exact e1
  · rintro i ⟨z, N⟩ hi ⟨rfl, f1, f3, f2⟩
    have f1 : FM m [21, 36] [15, 16] M N := f1
    have f2 : rM N m 21 15 16 (hlL A B i) := f2
    have hN := h1.fr f1 (by decide) (by decide) (by decide)
    have e := hN.1
    have gi := gp_get hi
    have pe := hN.pt gi
    have lh := hlL_len (A := A) (B := B) i
    obtain ⟨v, v1, v2⟩ := hasB_ok (M := N) hm (h2.fr f1 (by decide) (by decide) (by decide)) (by omega) bB (pe ▸ bA _ _ gi)
    rw [← pe] at v2
    have nx : ∀ N, mX8_inBoth_J54 K R N m (nI i) = some (.inl (nI (i + 1), N)) := fun N => by unfold mX8_inBoth_J54; (repeat (first | rw [ck_t (by first | with_reducible assumption | ((with_reducible apply ixA_of); (with_reducible assumption); omega; omega) | ((with_reducible apply isAr_of); (with_reducible assumption); decide) | ((with_reducible apply nI_ne0); omega; omega) | with_reducible exact isB_0 | with_reducible exact isB_1 | with_reducible exact isB_bI _)] | rw [bd_r (by with_reducible assumption)] | rw [bd_s] | rw [bd2_s] | rw [bd3_s] | rw [nm_s] | rw [nI_clamp (by omega)] | rw [nI_1] | rw [if_pos (by first | with_reducible assumption | ((with_reducible refine nI_lt ?_ ?_); omega; omega) | ((with_reducible refine nI_nlt ?_ ?_); omega; omega) | with_reducible exact ne10 | with_reducible rfl)] | rw [if_neg (by first | with_reducible assumption | ((with_reducible refine nI_lt ?_ ?_); omega; omega) | ((with_reducible refine nI_nlt ?_ ?_); omega; omega) | with_reducible exact ne10 | with_reducible rfl)]))
    have y3i : ixA K (m + 11) 1 (nI i) := ixA_of a1 (by omega) (by omega)
    have y4i : ixA K (m + 12) 1 (nI i) := ixA_of a2 (by omega) (by omega)
    left
    rcases v2 with ⟨rfl, v2⟩ | ⟨rfl, v2⟩
    · obtain ⟨N2, d1, d2, d3⟩ := point_ok (x := N.2 (m + 11) i) (y := N.2 (m + 12) i) hm f2 (by omega)
      rw [← pe] at d2
      refine ⟨(nI (i + 1), N2), ?_, rfl, f1.tr (d3.mo (by decide) (by decide)), by show N2.1 m 36 = 0; rw [d3.sl 36 (by decide)]; exact f3, ?_⟩
      · show mX8_inBoth_B11 K R m (nI i) N = _
        unfold mX8_inBoth_B11
        (repeat (first | rw [ck_t (by first | with_reducible assumption | ((with_reducible apply ixA_of); (with_reducible assumption); omega; omega) | ((with_reducible apply isAr_of); (with_reducible assumption); decide) | ((with_reducible apply nI_ne0); omega; omega) | with_reducible exact isB_0 | with_reducible exact isB_1 | with_reducible exact isB_bI _)] | rw [bd_r (by with_reducible assumption)] | rw [bd_s] | rw [bd2_s] | rw [bd3_s] | rw [nm_s] | rw [nI_clamp (by omega)] | rw [nI_1] | rw [e] | rw [bd_e (v1)] | rw [if_neg (ne10)] | rw [bd_e (d1)] | rw [nx N2] | rw [if_pos (by first | with_reducible assumption | ((with_reducible refine nI_lt ?_ ?_); omega; omega) | ((with_reducible refine nI_nlt ?_ ?_); omega; omega) | with_reducible exact ne10 | with_reducible rfl)] | rw [if_neg (by first | with_reducible assumption | ((with_reducible refine nI_lt ?_ ?_); omega; omega) | ((with_reducible refine nI_nlt ?_ ?_); omega; omega) | with_reducible exact ne10 | with_reducible rfl)]))
      · show rM N2 m 21 15 16 (hlL A B i ++ ap1 (inP B (gp A i)) (gp A i))
        rw [ap1_t v2]; exact d2
    · refine ⟨(nI (i + 1), N), ?_, rfl, f1, f3, ?_⟩
      · show mX8_inBoth_B11 K R m (nI i) N = _
        unfold mX8_inBoth_B11
        (repeat (first | rw [ck_t (by first | with_reducible assumption | ((with_reducible apply ixA_of); (with_reducible assumption); omega; omega) | ((with_reducible apply isAr_of); (with_reducible assumption); decide) | ((with_reducible apply nI_ne0); omega; omega) | with_reducible exact isB_0 | with_reducible exact isB_1 | with_reducible exact isB_bI _)] | rw [bd_r (by with_reducible assumption)] | rw [bd_s] | rw [bd2_s] | rw [bd3_s] | rw [nm_s] | rw [nI_clamp (by omega)] | rw [nI_1] | rw [e] | rw [bd_e (v1)] | rw [nx N] | rw [if_pos (by first | with_reducible assumption | ((with_reducible refine nI_lt ?_ ?_); omega; omega) | ((with_reducible refine nI_nlt ?_ ?_); omega; omega) | with_reducible exact ne10 | with_reducible rfl)] | rw [if_neg (by first | with_reducible assumption | ((with_reducible refine nI_lt ?_ ?_); omega; omega) | ((with_reducible refine nI_nlt ?_ ?_); omega; omega) | with_reducible exact ne10 | with_reducible rfl)]))
      · show rM N m 21 15 16 (hlL A B i ++ ap1 (inP B (gp A i)) (gp A i))
        rw [ap1_f v2, List.append_nil]; exact f2
  · rintro ⟨z, N⟩ ⟨rfl, f1, f3, f2⟩
    have f1 : FM m [21, 36] [15, 16] M N := f1
    have e := (h1.fr f1 (by decide) (by decide) (by decide)).1
    obtain ⟨M', e1, e2⟩ := c2 N f1 f3 f2
    refine ⟨M', ?_, e2⟩
    show mX8_inBoth_B11 K R m (nI A.length) N = _
    unfold mX8_inBoth_B11
    have e1 : lp (mX8_inBoth_L62 K R m) (0, N) = some M' := e1
    (repeat (first | rw [ck_t (by first | with_reducible assumption | ((with_reducible apply ixA_of); (with_reducible assumption); omega; omega) | ((with_reducible apply isAr_of); (with_reducible assumption); decide) | ((with_reducible apply nI_ne0); omega; omega) | with_reducible exact isB_0 | with_reducible exact isB_1 | with_reducible exact isB_bI _)] | rw [bd_r (by with_reducible assumption)] | rw [bd_s] | rw [bd2_s] | rw [bd3_s] | rw [nm_s] | rw [nI_clamp (by omega)] | rw [nI_1] | rw [e] | rw [e1] | rw [if_pos (by first | with_reducible assumption | ((with_reducible refine nI_lt ?_ ?_); omega; omega) | ((with_reducible refine nI_nlt ?_ ?_); omega; omega) | with_reducible exact ne10 | with_reducible rfl)] | rw [if_neg (by first | with_reducible assumption | ((with_reducible refine nI_lt ?_ ?_); omega; omega) | ((with_reducible refine nI_nlt ?_ ?_); omega; omega) | with_reducible exact ne10 | with_reducible rfl)]))
    rfl
theorem ixS (k j : Nat) : (1481 : Int32) * nI k + 37 * nI j = nI (1481 * k + 37 * j) := by rw [show (1481 : Int32) = nI 1481 from rfl, show (37 : Int32) = nI 37 from rfl, pk_mul, pk_mul, nI_add]
theorem lookPlan_ok {k j : Nat} {Q : Pc} (hm : moA K R m) (hk : k < 4) (hj : j < 40) (hQ : pcM (M.2 (m + 4)) (1481 * k + 37 * j) Q) (h16 : Q.1.length ≤ 16) : ∃ M', mX8_lookPlan K R M m (nI k) (nI j) = some M' ∧ rM M' m 18 13 14 Q.1 ∧ FM m [18] [13, 14] M M' := by
  have h0 := hm.1
  have r5 := mo_r5 hm
  have a5 := mo_a5 hm
  have r3 := mo_r16 hm
  have r4 := mo_r17 hm
  have a3 := mo_a16 hm
  have a4 := mo_a17 hm
  obtain ⟨q1, q2, -⟩ := hQ
  have f0 : FM m [18] [13, 14] M (pI M m 18 (nI Q.1.length)) := FM.rf.pI (by decide)
  have iS := ixS k j
  have x0 : ixA K (m + 4) 1 (nI (1481 * k + 37 * j)) := ixA_of a5 (by omega) (by decide)
  have hL := lp_ind (f := mX8_lookPlan_L25 K R m (nI (1481 * k + 37 * j))) (fun (i : Nat) (s : Int32 × Mm) => s.1 = nI i ∧ FM m [18] [13, 14] M s.2 ∧ s.2.1 m 18 = nI Q.1.length ∧ ∀ (t : Nat) p, t < i → Q.1[t]? = some p → (s.2.2 (m + 13) t).toInt = p.1 ∧ (s.2.2 (m + 14) t).toInt = p.2) (fun M' => rM M' m 18 13 14 Q.1 ∧ FM m [18] [13, 14] M M') Q.1.length ?_ ?_
  · obtain ⟨M', e1, e2⟩ := hL Q.1.length 0 (nI 0, pI M m 18 (nI Q.1.length)) (by omega) ⟨rfl, f0, pI_s, fun t p ht => absurd ht (by omega)⟩
    refine ⟨M', ?_, e2⟩
    unfold mX8_lookPlan
    rw [ck_t h0, iS, nm_s, r5, bd_s, ck_t x0, nI_clamp (by omega), q1, lN_i32, nm_s, nm_s]
    exact e1
  · rintro i ⟨z, N⟩ hi ⟨rfl, f1, f2, f3⟩
    have f1 : FM m [18] [13, 14] M N := f1
    have f2 : N.1 m 18 = nI Q.1.length := f2
    have f3 : ∀ (t : Nat) p, t < i → Q.1[t]? = some p → (N.2 (m + 13) t).toInt = p.1 ∧ (N.2 (m + 14) t).toInt = p.2 := f3
    obtain ⟨c, hc⟩ := get_ex hi
    obtain ⟨c1, c2⟩ := q2 i c hc
    have j1 : nI (1481 * k + 37 * j + 1) + 2 * nI i = nI (1481 * k + 37 * j + 1 + 2 * i) := by
      rw [show (2 : Int32) * nI i = nI (2 * i) from pk_mul 2 i, nI_add]
    have j2 : nI (1481 * k + 37 * j) + 2 + 2 * nI i = nI (1481 * k + 37 * j + 2 + 2 * i) := by
      rw [show (2 : Int32) * nI i = nI (2 * i) from pk_mul 2 i, show (2 : Int32) = nI 2 from rfl, nI_add, nI_add]
    have x1 : ixA K (m + 4) 1 (nI (1481 * k + 37 * j + 1 + 2 * i)) := ixA_of a5 (by omega) (by decide)
    have x2 : ixA K (m + 4) 1 (nI (1481 * k + 37 * j + 2 + 2 * i)) := ixA_of a5 (by omega) (by decide)
    have e4 := f1.ar 4 (by decide)
    generalize hN2 : pL (pL N (m + 13) i (N.2 (m + 4) (1481 * k + 37 * j + 1 + 2 * i))) (m + 14) i (N.2 (m + 4) (1481 * k + 37 * j + 2 + 2 * i)) = N2
    refine Or.inl ⟨(nI (i + 1), N2), ?_, rfl, by rw [← hN2]; exact (f1.pL (by decide)).pL (by decide), by rw [← hN2]; exact f2, fun t p ht hp => ?_⟩
    · show mX8_lookPlan_B25 K R m (nI (1481 * k + 37 * j)) (nI i) N = _
      unfold mX8_lookPlan_B25
      (repeat (first | rw [ck_t (by first | with_reducible assumption | ((with_reducible apply ixA_of); (with_reducible assumption); omega; omega) | ((with_reducible apply isAr_of); (with_reducible assumption); decide) | ((with_reducible apply nI_ne0); omega; omega) | with_reducible exact isB_0 | with_reducible exact isB_1 | with_reducible exact isB_bI _)] | rw [bd_r (by with_reducible assumption)] | rw [bd_s] | rw [bd2_s] | rw [bd3_s] | rw [nm_s] | rw [nI_clamp (by omega)] | rw [nI_1] | rw [f2] | rw [j1] | rw [j2] | rw [pL_n (show m + 4 ≠ m + 13 by omega)] | rw [hN2] | rw [if_pos (by first | with_reducible assumption | ((with_reducible refine nI_lt ?_ ?_); omega; omega) | ((with_reducible refine nI_nlt ?_ ?_); omega; omega) | with_reducible exact ne10 | with_reducible rfl)] | rw [if_neg (by first | with_reducible assumption | ((with_reducible refine nI_lt ?_ ?_); omega; omega) | ((with_reducible refine nI_nlt ?_ ?_); omega; omega) | with_reducible exact ne10 | with_reducible rfl)]))
    · show (N2.2 (m + 13) t).toInt = _ ∧ (N2.2 (m + 14) t).toInt = _
      rw [← hN2, pL_n (show m + 13 ≠ m + 14 by omega)]
      by_cases w : t = i
      · subst w
        rw [pL_s, pL_s, e4, get_un hp hc]; exact ⟨c1, c2⟩
      · rw [pL_k w, pL_k w, pL_n (show m + 14 ≠ m + 13 by omega)]
        exact f3 t p (by omega) hp
  · rintro ⟨z, N⟩ ⟨rfl, f1, f2, f3⟩
    have f1 : FM m [18] [13, 14] M N := f1
    have f2 : N.1 m 18 = nI Q.1.length := f2
    refine ⟨N, ?_, ⟨f2, fun t p hp => f3 t p (get_lt hp) hp⟩, f1⟩
    show mX8_lookPlan_B25 K R m (nI (1481 * k + 37 * j)) (nI Q.1.length) N = _
    unfold mX8_lookPlan_B25
    (repeat (first | rw [ck_t (by first | with_reducible assumption | ((with_reducible apply ixA_of); (with_reducible assumption); omega; omega) | ((with_reducible apply isAr_of); (with_reducible assumption); decide) | ((with_reducible apply nI_ne0); omega; omega) | with_reducible exact isB_0 | with_reducible exact isB_1 | with_reducible exact isB_bI _)] | rw [bd_r (by with_reducible assumption)] | rw [bd_s] | rw [bd2_s] | rw [bd3_s] | rw [nm_s] | rw [nI_clamp (by omega)] | rw [nI_1] | rw [f2] | rw [if_pos (by first | with_reducible assumption | ((with_reducible refine nI_lt ?_ ?_); omega; omega) | ((with_reducible refine nI_nlt ?_ ?_); omega; omega) | with_reducible exact ne10 | with_reducible rfl)] | rw [if_neg (by first | with_reducible assumption | ((with_reducible refine nI_lt ?_ ?_); omega; omega) | ((with_reducible refine nI_nlt ?_ ?_); omega; omega) | with_reducible exact ne10 | with_reducible rfl)]))
    rfl
end TH
