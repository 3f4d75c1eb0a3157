/-! third, the class: points put in order -/
theorem nI_m1 {i : Nat} (h : 1 ≤ i) : nI i + (-1) = nI (i - 1) := by rw [← Int32.sub_eq_add_neg]; exact pk_sub h
theorem nI_s1 {i : Nat} (h : 1 ≤ i) : nI i - 1 = nI (i - 1) := pk_sub h
theorem nI_nle' {a b : Nat} (h : b < a) (ha : a < 2 ^ 31) : ¬ nI a ≤ nI b := by rw [le32, nI_int ha, nI_int (by omega)]; omega
theorem nI_le' {a b : Nat} (h : a ≤ b) (hb : b < 2 ^ 31) : nI a ≤ nI b := by rw [le32, nI_int (by omega), nI_int hb]; omega
section TC
variable {K : Kk} {R : Rr} {M : Mm} {q : Nat}
theorem sortJ_ok {T : List Pt} {x y : Int32} {p : Pt} {k : Nat} (hc : cmA K R q) (h : rgC M (q + 4) T) (hn : T.length < 66) (hk : k ≤ T.length) (hx : x.toInt = p.1) (hy : y.toInt = p.2) : ∃ M', mX0_sortIn_J96 K R M q x y (nI k) = some M' ∧ rgC M' (q + 4) (T.take k ++ p :: T.drop k) ∧ Fr (q + 4) (q + 7) M M' ∧ M'.2 = M.2 := by
  obtain ⟨-, -, -, r1, rA, -, -⟩ := hc
  obtain ⟨a1, a2, a3, a4⟩ := add_ok (x := x) (y := y) rA h hn (by decide)
  obtain ⟨b0, b1, b2, b3, b4⟩ := rA
  have lenA : (T ++ [(x.toInt, y.toInt)]).length = T.length + 1 := by rw [List.length_append]; rfl
  have eN := a3.1
  rw [lenA] at eN
  have hL := lp_ind (f := mX0_sortIn_L116 K R q x y (nI k)) (fun (t : Nat) (s : Int32 × Mm) => ∃ i, i + t = T.length ∧ k ≤ i ∧ s.1 = nI i ∧ s.2.1 (q + 4) 2 = nI (T.length + 1) ∧ (∀ (j : Nat) z, j < i → T[j]? = some z → (s.2.1 (q + 5) j).toInt = z.1 ∧ (s.2.1 (q + 6) j).toInt = z.2) ∧ (∀ (j : Nat) z, i ≤ j → T[j]? = some z → (s.2.1 (q + 5) (j + 1)).toInt = z.1 ∧ (s.2.1 (q + 6) (j + 1)).toInt = z.2) ∧ Fr (q + 4) (q + 7) M s.2 ∧ s.2.2 = M.2) (fun M' => rgC M' (q + 4) (T.take k ++ p :: T.drop k) ∧ Fr (q + 4) (q + 7) M M' ∧ M'.2 = M.2) (T.length - k) ?_ ?_
  · obtain ⟨M', e1, e2⟩ := hL (T.length - k) 0 (nI T.length, a1) (by omega) ⟨T.length, by omega, hk, rfl, eN, fun j z hj hz => a3.2 j z (by rw [List.getElem?_append_left hj]; exact hz), fun j z hj hz => absurd (get_lt hz) (by omega), a4.1, a4.2⟩
    refine ⟨M', ?_, e2⟩
    unfold mX0_sortIn_J96
    (repeat (first | rw [ck_t (by first | with_reducible assumption | ((with_reducible apply ixA_of); (with_reducible assumption); omega; omega) | ((with_reducible apply isAr_of); (with_reducible assumption); decide) | ((with_reducible apply nI_ne0); omega; omega) | with_reducible exact isB_0 | with_reducible exact isB_1 | with_reducible exact isB_bI _)] | rw [bd_r (by with_reducible assumption)] | rw [bd_s] | rw [bd2_s] | rw [bd3_s] | rw [nm_s] | rw [nI_clamp (by omega)] | rw [nI_1] | rw [bd_e (a2)] | rw [eN] | rw [nI_s1 (show 1 ≤ T.length + 1 by omega)] | rw [if_pos (by first | with_reducible assumption | ((with_reducible refine nI_lt ?_ ?_); omega; omega) | ((with_reducible refine nI_nlt ?_ ?_); omega; omega) | with_reducible exact ne10 | with_reducible rfl)] | rw [if_neg (by first | with_reducible assumption | ((with_reducible refine nI_lt ?_ ?_); omega; omega) | ((with_reducible refine nI_nlt ?_ ?_); omega; omega) | with_reducible exact ne10 | with_reducible rfl)]))
    exact e1
  · rintro t ⟨w, N⟩ ht ⟨i, f1, f2, f0, f3, f4, f5, f6, f7⟩
    have f0 : w = nI i := f0
    subst f0
    have f3 : N.1 (q + 4) 2 = _ := f3
    have hik : k < i := by omega
    have nle := nI_nle' hik (by omega)
    have hi1 : 1 ≤ i := by omega
    left
    refine ⟨(nI (i - 1), pI (pI N (q + 5) i (N.1 (q + 5) (i - 1))) (q + 6) i (N.1 (q + 6) (i - 1))), ?_, i - 1, by omega, by omega, rfl, ?_, fun j z hj hz => ?_, fun j z hj hz => ?_, (f6.pI (by omega) (by omega)).pI (by omega) (by omega), f7⟩
    · show mX0_sortIn_B116 K R q x y (nI k) (nI i) N = _
      unfold mX0_sortIn_B116
      (repeat (first | rw [ck_t (by first | with_reducible assumption | ((with_reducible apply ixA_of); (with_reducible assumption); omega; omega) | ((with_reducible apply isAr_of); (with_reducible assumption); decide) | ((with_reducible apply nI_ne0); omega; omega) | with_reducible exact isB_0 | with_reducible exact isB_1 | with_reducible exact isB_bI _)] | rw [bd_r (by with_reducible assumption)] | rw [bd_s] | rw [bd2_s] | rw [bd3_s] | rw [nm_s] | rw [nI_clamp (by omega)] | rw [nI_1] | rw [if_neg (nle)] | rw [nI_s1 hi1] | rw [nI_m1 hi1] | rw [pI_n (show q + 4 + 2 ≠ q + 4 + 1 by omega)] | rw [if_pos (by first | with_reducible assumption | ((with_reducible refine nI_lt ?_ ?_); omega; omega) | ((with_reducible refine nI_nlt ?_ ?_); omega; omega) | with_reducible exact ne10 | with_reducible rfl)] | rw [if_neg (by first | with_reducible assumption | ((with_reducible refine nI_lt ?_ ?_); omega; omega) | ((with_reducible refine nI_nlt ?_ ?_); omega; omega) | with_reducible exact ne10 | with_reducible rfl)]))
    · show (pI (pI N _ _ _) _ _ _).1 (q + 4) 2 = _
      rw [pI_n (by omega), pI_n (by omega)]; exact f3
    · show ((pI (pI N _ _ _) _ _ _).1 (q + 5) j).toInt = _ ∧ ((pI (pI N _ _ _) _ _ _).1 (q + 6) j).toInt = _
      rw [pI_n (show q + 5 ≠ q + 6 by omega), pI_k (by omega), pI_k (by omega), pI_n (show q + 6 ≠ q + 5 by omega)]
      exact f4 j z (by omega) hz
    · show ((pI (pI N _ _ _) _ _ _).1 (q + 5) (j + 1)).toInt = _ ∧ ((pI (pI N _ _ _) _ _ _).1 (q + 6) (j + 1)).toInt = _
      rw [pI_n (show q + 5 ≠ q + 6 by omega)]
      by_cases c : j + 1 = i
      · rw [c, pI_s, pI_s, show i - 1 = j by omega]
        exact f4 j z (by omega) hz
      · rw [pI_k c, pI_k c, pI_n (show q + 6 ≠ q + 5 by omega)]
        exact f5 j z (by omega) hz
  · rintro ⟨w, N⟩ ⟨i, f1, f2, f0, f3, f4, f5, f6, f7⟩
    have f0 : w = nI i := f0
    subst f0
    have hik : i = k := by omega
    subst hik
    have f3 : N.1 (q + 4) 2 = _ := f3
    have le := nI_le' (Nat.le_refl i) (by omega)
    refine ⟨pI (pI N (q + 5) i x) (q + 6) i y, ?_, ⟨?_, fun j z hz => ?_⟩, (f6.pI (by omega) (by omega)).pI (by omega) (by omega), f7⟩
    · show mX0_sortIn_B116 K R q x y (nI i) (nI i) N = _
      unfold mX0_sortIn_B116
      (repeat (first | rw [ck_t (by first | with_reducible assumption | ((with_reducible apply ixA_of); (with_reducible assumption); omega; omega) | ((with_reducible apply isAr_of); (with_reducible assumption); decide) | ((with_reducible apply nI_ne0); omega; omega) | with_reducible exact isB_0 | with_reducible exact isB_1 | with_reducible exact isB_bI _)] | rw [bd_r (by with_reducible assumption)] | rw [bd_s] | rw [bd2_s] | rw [bd3_s] | rw [nm_s] | rw [nI_clamp (by omega)] | rw [nI_1] | rw [if_pos (le)] | rw [f3] | rw [if_pos (by first | with_reducible assumption | ((with_reducible refine nI_lt ?_ ?_); omega; omega) | ((with_reducible refine nI_nlt ?_ ?_); omega; omega) | with_reducible exact ne10 | with_reducible rfl)] | rw [if_neg (by first | with_reducible assumption | ((with_reducible refine nI_lt ?_ ?_); omega; omega) | ((with_reducible refine nI_nlt ?_ ?_); omega; omega) | with_reducible exact ne10 | with_reducible rfl)]))
      rfl
    · rw [pI_n (by omega), pI_n (by omega), f3, List.length_append, List.length_cons, List.length_take, List.length_drop]
      congr 1; omega
    · rw [ins_get hk] at hz
      rw [pI_n (show q + 4 + 1 ≠ q + 6 by omega)]
      by_cases c : j < i
      · rw [if_pos c] at hz
        rw [pI_k (by omega), pI_k (by omega), pI_n (show q + 4 + 2 ≠ q + 5 by omega)]
        exact f4 j z c hz
      · rw [if_neg c] at hz
        by_cases c2 : j = i
        · subst c2
          rw [if_pos rfl] at hz
          have := Option.some.inj hz
          subst this
          rw [pI_s, pI_s]
          exact ⟨hx, hy⟩
        · rw [if_neg c2] at hz
          rw [pI_k (by omega), pI_k (by omega), pI_n (show q + 4 + 2 ≠ q + 5 by omega)]
          have := f5 (j - 1) z (by omega) hz
          rw [show j - 1 + 1 = j by omega] at this
          exact this
theorem sortIn_ok {T : List Pt} {x y : Int32} {p : Pt} (hc : cmA K R q) (h : rgC M (q + 4) T) (hp : T.Pairwise ltP) (hn : T.length < 66) (hx : x.toInt = p.1) (hy : y.toInt = p.2) : ∃ M' T', mX0_sortIn K R M q x y = some M' ∧ rgC M' (q + 4) T' ∧ T'.Pairwise ltP ∧ (∀ z, z ∈ T' ↔ z = p ∨ z ∈ T) ∧ T'.length ≤ T.length + 1 ∧ Fr (q + 4) (q + 7) M M' ∧ M'.2 = M.2 := by
  have hc0 := hc
  obtain ⟨c0, -, -, r1, rA, -, -⟩ := hc
  obtain ⟨b0, b1, b2, b3, b4⟩ := rA
  have e := h.1
  have go : ∀ k, k ≤ T.length → (∀ (i : Nat) a, i < k → T[i]? = some a → ltP a p) → (∀ a, T[k]? = some a → ¬ ltP a p) → ∃ M', mX0_sortIn_J58 K R M q x y (nI k) = some M' ∧ ∃ T', rgC M' (q + 4) T' ∧ T'.Pairwise ltP ∧ (∀ z, z ∈ T' ↔ z = p ∨ z ∈ T) ∧ T'.length ≤ T.length + 1 ∧ Fr (q + 4) (q + 7) M M' ∧ M'.2 = M.2 := fun k hk lo hi => by
    have J : (∀ a, T[k]? = some a → a ≠ p) → ∃ M', mX0_sortIn_J96 K R M q x y (nI k) = some M' ∧ ∃ T', rgC M' (q + 4) T' ∧ T'.Pairwise ltP ∧ (∀ z, z ∈ T' ↔ z = p ∨ z ∈ T) ∧ T'.length ≤ T.length + 1 ∧ Fr (q + 4) (q + 7) M M' ∧ M'.2 = M.2 := fun ne => by
      obtain ⟨M', e1, e2, e3, e4⟩ := sortJ_ok hc0 h hn hk hx hy
      obtain ⟨i1, i2⟩ := ins_at (x := p) hp lo (fun i a hi2 ha => by
        have hkl := get_lt ha
        obtain ⟨b, hb⟩ := get_ex (show k < T.length by omega)
        have pb : ltP p b := by
          rcases ltP_tot b p with z | z | z
          · exact absurd z (hi b hb)
          · exact absurd z (ne b hb)
          · exact z
        by_cases z : i = k
        · rw [z] at ha; rw [get_un ha hb]; exact pb
        · obtain ⟨hi3, gi⟩ := List.getElem?_eq_some_iff.mp ha
          obtain ⟨hk3, gk⟩ := List.getElem?_eq_some_iff.mp hb
          have := List.pairwise_iff_getElem.mp hp k i hk3 hi3 (by omega)
          rw [gi, gk] at this
          exact ltP_tr pb this)
      refine ⟨M', e1, _, e2, i1, i2, ?_, e3, e4⟩
      rw [List.length_append, List.length_cons, List.length_take, List.length_drop]; omega
    unfold mX0_sortIn_J58
    by_cases c : k < T.length
    · obtain ⟨b, hb⟩ := get_ex c
      have vb := h.pt hb
      by_cases g1 : M.1 (q + 4 + 1) k = x
      · by_cases g2 : M.1 (q + 4 + 2) k = y
        · have be : b = p := by rw [vb, g1, g2]; exact Prod.ext hx hy
          refine ⟨M, by (repeat (first | rw [ck_t (by first | with_reducible assumption | ((with_reducible apply ixA_of); (with_reducible assumption); omega; omega) | ((with_reducible apply isAr_of); (with_reducible assumption); decide) | ((with_reducible apply nI_ne0); omega; omega) | with_reducible exact isB_0 | with_reducible exact isB_1 | with_reducible exact isB_bI _)] | rw [bd_r (by with_reducible assumption)] | rw [bd_s] | rw [bd2_s] | rw [bd3_s] | rw [nm_s] | rw [nI_clamp (by omega)] | rw [nI_1] | rw [e] | rw [if_pos (by first | with_reducible assumption | ((with_reducible refine nI_lt ?_ ?_); omega; omega) | ((with_reducible refine nI_nlt ?_ ?_); omega; omega) | with_reducible exact ne10 | with_reducible rfl)] | rw [if_neg (by first | with_reducible assumption | ((with_reducible refine nI_lt ?_ ?_); omega; omega) | ((with_reducible refine nI_nlt ?_ ?_); omega; omega) | with_reducible exact ne10 | with_reducible rfl)])), T, h, hp, fun z => ⟨Or.inr, fun hz => ?_⟩, by omega, Fr.rf, rfl⟩
          rcases hz with rfl | hz
          · rw [← be]; exact get_mem hb
          · exact hz
        · (repeat (first | rw [ck_t (by first | with_reducible assumption | ((with_reducible apply ixA_of); (with_reducible assumption); omega; omega) | ((with_reducible apply isAr_of); (with_reducible assumption); decide) | ((with_reducible apply nI_ne0); omega; omega) | with_reducible exact isB_0 | with_reducible exact isB_1 | with_reducible exact isB_bI _)] | rw [bd_r (by with_reducible assumption)] | rw [bd_s] | rw [bd2_s] | rw [bd3_s] | rw [nm_s] | rw [nI_clamp (by omega)] | rw [nI_1] | rw [e] | rw [if_pos (by first | with_reducible assumption | ((with_reducible refine nI_lt ?_ ?_); omega; omega) | ((with_reducible refine nI_nlt ?_ ?_); omega; omega) | with_reducible exact ne10 | with_reducible rfl)] | rw [if_neg (by first | with_reducible assumption | ((with_reducible refine nI_lt ?_ ?_); omega; omega) | ((with_reducible refine nI_nlt ?_ ?_); omega; omega) | with_reducible exact ne10 | with_reducible rfl)]))
          exact J (fun a ha q => g2 (by rw [eq32, hy, ← q, h.pt ha]))
      · (repeat (first | rw [ck_t (by first | with_reducible assumption | ((with_reducible apply ixA_of); (with_reducible assumption); omega; omega) | ((with_reducible apply isAr_of); (with_reducible assumption); decide) | ((with_reducible apply nI_ne0); omega; omega) | with_reducible exact isB_0 | with_reducible exact isB_1 | with_reducible exact isB_bI _)] | rw [bd_r (by with_reducible assumption)] | rw [bd_s] | rw [bd2_s] | rw [bd3_s] | rw [nm_s] | rw [nI_clamp (by omega)] | rw [nI_1] | rw [e] | rw [if_pos (by first | with_reducible assumption | ((with_reducible refine nI_lt ?_ ?_); omega; omega) | ((with_reducible refine nI_nlt ?_ ?_); omega; omega) | with_reducible exact ne10 | with_reducible rfl)] | rw [if_neg (by first | with_reducible assumption | ((with_reducible refine nI_lt ?_ ?_); omega; omega) | ((with_reducible refine nI_nlt ?_ ?_); omega; omega) | with_reducible exact ne10 | with_reducible rfl)]))
        exact J (fun a ha q => g1 (by rw [eq32, hx, ← q, h.pt ha]))
    · (repeat (first | rw [ck_t (by first | with_reducible assumption | ((with_reducible apply ixA_of); (with_reducible assumption); omega; omega) | ((with_reducible apply isAr_of); (with_reducible assumption); decide) | ((with_reducible apply nI_ne0); omega; omega) | with_reducible exact isB_0 | with_reducible exact isB_1 | with_reducible exact isB_bI _)] | rw [bd_r (by with_reducible assumption)] | rw [bd_s] | rw [bd2_s] | rw [bd3_s] | rw [nm_s] | rw [nI_clamp (by omega)] | rw [nI_1] | rw [e] | rw [if_pos (by first | with_reducible assumption | ((with_reducible refine nI_lt ?_ ?_); omega; omega) | ((with_reducible refine nI_nlt ?_ ?_); omega; omega) | with_reducible exact ne10 | with_reducible rfl)] | rw [if_neg (by first | with_reducible assumption | ((with_reducible refine nI_lt ?_ ?_); omega; omega) | ((with_reducible refine nI_nlt ?_ ?_); omega; omega) | with_reducible exact ne10 | with_reducible rfl)]))
      exact J (fun a ha => absurd (get_lt ha) c)
  have hL := lp_ind (f := mX0_sortIn_L2 K R M q x y) (fun (i : Nat) (s : Int32) => s = nI i ∧ i ≤ T.length ∧ ∀ (j : Nat) a, j < i → T[j]? = some a → ltP a p) (fun M' => ∃ T', rgC M' (q + 4) T' ∧ T'.Pairwise ltP ∧ (∀ z, z ∈ T' ↔ z = p ∨ z ∈ T) ∧ T'.length ≤ T.length + 1 ∧ Fr (q + 4) (q + 7) M M' ∧ M'.2 = M.2) T.length ?_ ?_
  · obtain ⟨M', e1, T', e2⟩ := hL T.length 0 (nI 0) (by omega) ⟨rfl, by omega, fun j a hj => absurd hj (by omega)⟩
    refine ⟨M', T', ?_, e2⟩
    unfold mX0_sortIn
    (repeat (first | rw [ck_t (by first | with_reducible assumption | ((with_reducible apply ixA_of); (with_reducible assumption); omega; omega) | ((with_reducible apply isAr_of); (with_reducible assumption); decide) | ((with_reducible apply nI_ne0); omega; omega) | with_reducible exact isB_0 | with_reducible exact isB_1 | with_reducible exact isB_bI _)] | rw [bd_r (by with_reducible assumption)] | rw [bd_s] | rw [bd2_s] | rw [bd3_s] | rw [nm_s] | rw [nI_clamp (by omega)] | rw [nI_1] | rw [if_pos (by first | with_reducible assumption | ((with_reducible refine nI_lt ?_ ?_); omega; omega) | ((with_reducible refine nI_nlt ?_ ?_); omega; omega) | with_reducible exact ne10 | with_reducible rfl)] | rw [if_neg (by first | with_reducible assumption | ((with_reducible refine nI_lt ?_ ?_); omega; omega) | ((with_reducible refine nI_nlt ?_ ?_); omega; omega) | with_reducible exact ne10 | with_reducible rfl)]))
    exact e1
  · rintro i s hi ⟨rfl, -, f⟩
    obtain ⟨b, hb⟩ := get_ex hi
    have vb := h.pt hb
    have nx : mX0_sortIn_J52 K R M q x y (nI i) = some (.inl (nI (i + 1))) := by unfold mX0_sortIn_J52; (repeat (first | rw [ck_t (by first | with_reducible assumption | ((with_reducible apply ixA_of); (with_reducible assumption); omega; omega) | ((with_reducible apply isAr_of); (with_reducible assumption); decide) | ((with_reducible apply nI_ne0); omega; omega) | with_reducible exact isB_0 | with_reducible exact isB_1 | with_reducible exact isB_bI _)] | rw [bd_r (by with_reducible assumption)] | rw [bd_s] | rw [bd2_s] | rw [bd3_s] | rw [nm_s] | rw [nI_clamp (by omega)] | rw [nI_1] | rw [if_pos (by first | with_reducible assumption | ((with_reducible refine nI_lt ?_ ?_); omega; omega) | ((with_reducible refine nI_nlt ?_ ?_); omega; omega) | with_reducible exact ne10 | with_reducible rfl)] | rw [if_neg (by first | with_reducible assumption | ((with_reducible refine nI_lt ?_ ?_); omega; omega) | ((with_reducible refine nI_nlt ?_ ?_); omega; omega) | with_reducible exact ne10 | with_reducible rfl)]))
    have yes : ltP b p → ∃ s', some (Sum.inl (nI (i + 1)) : Int32 ⊕ Mm) = some (.inl s') ∧ s' = nI (i + 1) ∧ i + 1 ≤ T.length ∧ ∀ (j : Nat) a, j < i + 1 → T[j]? = some a → ltP a p := fun l => ⟨_, rfl, rfl, by omega, fun j a hj ha => by
      by_cases z : j = i
      · rw [z] at ha; rw [get_un ha hb]; exact l
      · exact f j a (by omega) ha⟩
    have no : ¬ ltP b p → ∃ r, ex (mX0_sortIn_J58 K R M q x y (nI i)) = some (Sum.inr r : Int32 ⊕ Mm) ∧ ∃ T', rgC r (q + 4) T' ∧ T'.Pairwise ltP ∧ (∀ z, z ∈ T' ↔ z = p ∨ z ∈ T) ∧ T'.length ≤ T.length + 1 ∧ Fr (q + 4) (q + 7) M r ∧ r.2 = M.2 := fun l => by
      obtain ⟨M', e1, e2⟩ := go i (by omega) f (fun a ha => by rw [get_un ha hb]; exact l)
      exact ⟨M', by rw [e1]; rfl, e2⟩
    show (∃ s', mX0_sortIn_B2 K R M q x y (nI i) = some (.inl s') ∧ _) ∨ ∃ r, mX0_sortIn_B2 K R M q x y (nI i) = some (.inr r) ∧ _
    unfold mX0_sortIn_B2
    by_cases g1 : M.1 (q + 4 + 1) i < x
    · (repeat (first | rw [ck_t (by first | with_reducible assumption | ((with_reducible apply ixA_of); (with_reducible assumption); omega; omega) | ((with_reducible apply isAr_of); (with_reducible assumption); decide) | ((with_reducible apply nI_ne0); omega; omega) | with_reducible exact isB_0 | with_reducible exact isB_1 | with_reducible exact isB_bI _)] | rw [bd_r (by with_reducible assumption)] | rw [bd_s] | rw [bd2_s] | rw [bd3_s] | rw [nm_s] | rw [nI_clamp (by omega)] | rw [nI_1] | rw [e] | rw [nx] | rw [if_pos (by first | with_reducible assumption | ((with_reducible refine nI_lt ?_ ?_); omega; omega) | ((with_reducible refine nI_nlt ?_ ?_); omega; omega) | with_reducible exact ne10 | with_reducible rfl)] | rw [if_neg (by first | with_reducible assumption | ((with_reducible refine nI_lt ?_ ?_); omega; omega) | ((with_reducible refine nI_nlt ?_ ?_); omega; omega) | with_reducible exact ne10 | with_reducible rfl)]))
      exact Or.inl (yes (by rw [vb]; exact Or.inl (by rw [← hx]; exact lt32.mp g1)))
    · by_cases g2 : M.1 (q + 4 + 1) i = x
      · by_cases g3 : M.1 (q + 4 + 2) i < y
        · (repeat (first | rw [ck_t (by first | with_reducible assumption | ((with_reducible apply ixA_of); (with_reducible assumption); omega; omega) | ((with_reducible apply isAr_of); (with_reducible assumption); decide) | ((with_reducible apply nI_ne0); omega; omega) | with_reducible exact isB_0 | with_reducible exact isB_1 | with_reducible exact isB_bI _)] | rw [bd_r (by with_reducible assumption)] | rw [bd_s] | rw [bd2_s] | rw [bd3_s] | rw [nm_s] | rw [nI_clamp (by omega)] | rw [nI_1] | rw [e] | rw [nx] | rw [if_pos (by first | with_reducible assumption | ((with_reducible refine nI_lt ?_ ?_); omega; omega) | ((with_reducible refine nI_nlt ?_ ?_); omega; omega) | with_reducible exact ne10 | with_reducible rfl)] | rw [if_neg (by first | with_reducible assumption | ((with_reducible refine nI_lt ?_ ?_); omega; omega) | ((with_reducible refine nI_nlt ?_ ?_); omega; omega) | with_reducible exact ne10 | with_reducible rfl)]))
          exact Or.inl (yes (by rw [vb]; exact Or.inr ⟨by rw [← hx]; exact eq32.mp g2, by rw [← hy]; exact lt32.mp g3⟩))
        · (repeat (first | rw [ck_t (by first | with_reducible assumption | ((with_reducible apply ixA_of); (with_reducible assumption); omega; omega) | ((with_reducible apply isAr_of); (with_reducible assumption); decide) | ((with_reducible apply nI_ne0); omega; omega) | with_reducible exact isB_0 | with_reducible exact isB_1 | with_reducible exact isB_bI _)] | rw [bd_r (by with_reducible assumption)] | rw [bd_s] | rw [bd2_s] | rw [bd3_s] | rw [nm_s] | rw [nI_clamp (by omega)] | rw [nI_1] | rw [e] | rw [if_pos (by first | with_reducible assumption | ((with_reducible refine nI_lt ?_ ?_); omega; omega) | ((with_reducible refine nI_nlt ?_ ?_); omega; omega) | with_reducible exact ne10 | with_reducible rfl)] | rw [if_neg (by first | with_reducible assumption | ((with_reducible refine nI_lt ?_ ?_); omega; omega) | ((with_reducible refine nI_nlt ?_ ?_); omega; omega) | with_reducible exact ne10 | with_reducible rfl)]))
          refine Or.inr (no (fun l => ?_))
          rw [vb] at l
          rcases l with l | ⟨-, l⟩
          · exact g1 (lt32.mpr (by rw [hx]; exact l))
          · exact g3 (lt32.mpr (by rw [hy]; exact l))
      · (repeat (first | rw [ck_t (by first | with_reducible assumption | ((with_reducible apply ixA_of); (with_reducible assumption); omega; omega) | ((with_reducible apply isAr_of); (with_reducible assumption); decide) | ((with_reducible apply nI_ne0); omega; omega) | with_reducible exact isB_0 | with_reducible exact isB_1 | with_reducible exact isB_bI _)] | rw [bd_r (by with_reducible assumption)] | rw [bd_s] | rw [bd2_s] | rw [bd3_s] | rw [nm_s] | rw [nI_clamp (by omega)] | rw [nI_1] | rw [e] | rw [if_pos (by first | with_reducible assumption | ((with_reducible refine nI_lt ?_ ?_); omega; omega) | ((with_reducible refine nI_nlt ?_ ?_); omega; omega) | with_reducible exact ne10 | with_reducible rfl)] | rw [if_neg (by first | with_reducible assumption | ((with_reducible refine nI_lt ?_ ?_); omega; omega) | ((with_reducible refine nI_nlt ?_ ?_); omega; omega) | with_reducible exact ne10 | with_reducible rfl)]))
        refine Or.inr (no (fun l => ?_))
        rw [vb] at l
        rcases l with l | ⟨l, -⟩
        · exact g1 (lt32.mpr (by rw [hx]; exact l))
        · exact g2 (eq32.mpr (by rw [hx]; exact l))
  · rintro s ⟨rfl, -, f⟩
    obtain ⟨M', e1, e2⟩ := go T.length (Nat.le_refl _) f (fun a ha => absurd (get_lt ha) (by omega))
    refine ⟨M', ?_, e2⟩
    show mX0_sortIn_B2 K R M q x y (nI T.length) = _
    unfold mX0_sortIn_B2
    (repeat (first | rw [ck_t (by first | with_reducible assumption | ((with_reducible apply ixA_of); (with_reducible assumption); omega; omega) | ((with_reducible apply isAr_of); (with_reducible assumption); decide) | ((with_reducible apply nI_ne0); omega; omega) | with_reducible exact isB_0 | with_reducible exact isB_1 | with_reducible exact isB_bI _)] | rw [bd_r (by with_reducible assumption)] | rw [bd_s] | rw [bd2_s] | rw [bd3_s] | rw [nm_s] | rw [nI_clamp (by omega)] | rw [nI_1] | rw [e] | rw [e1] | rw [if_pos (by first | with_reducible assumption | ((with_reducible refine nI_lt ?_ ?_); omega; omega) | ((with_reducible refine nI_nlt ?_ ?_); omega; omega) | with_reducible exact ne10 | with_reducible rfl)] | rw [if_neg (by first | with_reducible assumption | ((with_reducible refine nI_lt ?_ ?_); omega; omega) | ((with_reducible refine nI_nlt ?_ ?_); omega; omega) | with_reducible exact ne10 | with_reducible rfl)]))
    rfl
end TC
