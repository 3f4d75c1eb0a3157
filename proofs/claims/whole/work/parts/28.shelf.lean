/-! shelve, fetch, and what all calls ask first -/
section SQ
variable {K : Kk} {R : Rr} {M : Mm}
theorem isShelf_t {k : Nat} (h : k < 4) : mX7_isShelf K R M (nI k) = some 1 := by
  unfold mX7_isShelf
  rw [if_neg (nI_pos (by omega)), if_pos (show nI k < 4 from nI_lt (b := 4) h (by decide))]
theorem isShelf_f {x : Int32} (h : x < 0 ∨ nI 4 ≤ x) : mX7_isShelf K R M x = some 0 := by
  unfold mX7_isShelf
  by_cases h0 : x < 0
  · rw [if_pos h0]
  · rw [if_neg h0, if_neg (show ¬ x < 4 from Int32.not_lt.mpr (h.resolve_left h0))]
theorem isFigure_t {k : Nat} (h : k < 5) : mX7_isFigure K R M (nI k) = some 1 := by
  unfold mX7_isFigure
  rw [if_neg (nI_pos (by omega)), if_pos (show nI k < 5 from nI_lt (b := 5) h (by decide))]
theorem isFigure_f {x : Int32} (h : x < 0 ∨ nI 5 ≤ x) : mX7_isFigure K R M x = some 0 := by
  unfold mX7_isFigure
  by_cases h0 : x < 0
  · rw [if_pos h0]
  · rw [if_neg h0, if_neg (show ¬ x < 5 from Int32.not_lt.mpr (h.resolve_left h0))]
theorem isInN_t {k n : Nat} {b : Int64} (h : k < n) (hn : n < 2 ^ 31) (hb : b.toInt = (n : Int) - 1) : mX8_isIn K R M (nI k).toInt64 0 b = some 1 := isIn_t (by rw [i64_int, nI_int (by omega)]; show (0 : Int) ≤ _; omega) (by rw [i64_int, nI_int (by omega)]; omega)
theorem isInN_f {x : Int32} {n : Nat} {b : Int64} (h : x < 0 ∨ nI n ≤ x) (hn : n < 2 ^ 31) (hb : b.toInt = (n : Int) - 1) : mX8_isIn K R M x.toInt64 0 b = some 0 := isIn_f (by
  rw [i64_int]
  show ¬ ((0 : Int) ≤ _ ∧ _)
  rcases h with h | h
  · rw [lt32] at h
    have h : x.toInt < 0 := h
    omega
  · rw [le32, nI_int hn] at h
    omega)
end SQ
theorem psM.len {f : Nat → Int64} {ps : List Pc} (h : psM f 0 ps) : f 1480 = lN ps.length := h.1
theorem piecesM_ok {K : Kk} {R : Rr} {M : Mm} {m : Nat} {ps : List Pc} (hm : moA K R m) (h : psM (M.2 (m + 1)) 0 ps) : mX8_pieces K R M m = some (nI ps.length) := by
  unfold mX8_pieces
  rw [ck_t hm.1, mo_r0 hm, bd_s, ck_t (show ixA K (m + 1) 1 1480 from ixA_of (n := 1481) (i := 1480) (mo_a0 hm) (by decide) (by decide)), psM.len h, lN_i32]
/-- the copying loop of shelve, from the pieces to a shelf -/
theorem shelveM_ok {K : Kk} {R : Rr} {M : Mm} {m k : Nat} {ps : List Pc} (hm : moA K R m) (hk : k < 4) (h : psM (M.2 (m + 1)) 0 ps) : ∃ M', mX8_shelve K R M m (nI k) = some ((nI ps.length).toInt64, M') ∧ M'.1 = (pI M (m + 5) k 1).1 ∧ (∀ b, b ≠ m + 4 → M'.2 b = M.2 b) ∧ (∀ j, j < 1481 → M'.2 (m + 4) (1481 * k + j) = M.2 (m + 1) j) ∧ ∀ j, (j < 1481 * k ∨ 1481 * k + 1481 ≤ j) → M'.2 (m + 4) j = M.2 (m + 4) j := by
  have hL := lp_ind (f := mX8_shelve_L18 K R m (nI k)) (fun (i : Nat) (s : Int32 × Mm) => s.1 = nI i ∧ s.2.1 = M.1 ∧ (∀ b, b ≠ m + 4 → s.2.2 b = M.2 b) ∧ (∀ j, j < i → s.2.2 (m + 4) (1481 * k + j) = M.2 (m + 1) j) ∧ ∀ j, (j < 1481 * k ∨ 1481 * k + 1481 ≤ j) → s.2.2 (m + 4) j = M.2 (m + 4) j) (fun r => r.1 = (nI ps.length).toInt64 ∧ r.2.1 = (pI M (m + 5) k 1).1 ∧ (∀ b, b ≠ m + 4 → r.2.2 b = M.2 b) ∧ (∀ j, j < 1481 → r.2.2 (m + 4) (1481 * k + j) = M.2 (m + 1) j) ∧ ∀ j, (j < 1481 * k ∨ 1481 * k + 1481 ≤ j) → r.2.2 (m + 4) j = M.2 (m + 4) j) 1481 ?_ ?_
  · obtain ⟨⟨v, M'⟩, e1, e2, e3⟩ := hL 1481 0 (nI 0, M) rfl ⟨rfl, rfl, fun _ _ => rfl, fun j hj => absurd hj (by omega), fun _ _ => rfl⟩
    refine ⟨M', ?_, e3⟩
    have e2 : v = _ := e2
    subst e2
    unfold mX8_shelve
    rw [ck_t hm.1, isInN_t (n := 4) hk (by decide) (by decide), bd_s, if_neg (by decide), nm_s]
    exact e1
  · rintro i ⟨x, N⟩ hi ⟨rfl, f1, f2, f3, f4⟩
    have f1 : N.1 = M.1 := f1
    have f2 : ∀ b, b ≠ m + 4 → N.2 b = M.2 b := f2
    have f3 : ∀ j, j < i → N.2 (m + 4) (1481 * k + j) = M.2 (m + 1) j := f3
    have f4 : ∀ j, (j < 1481 * k ∨ 1481 * k + 1481 ≤ j) → N.2 (m + 4) j = M.2 (m + 4) j := f4
    refine Or.inl ⟨(nI (i + 1), pL N (m + 4) (1481 * k + i) (N.2 (m + 1) i)), ?_, rfl, f1, fun b hb => ?_, fun j hj => ?_, fun j hj => ?_⟩
    · show mX8_shelve_B18 K R m (nI k) (nI i) N = _
      unfold mX8_shelve_B18
      rw [if_pos (show nI i < 1481 from nI_lt (b := 1481) hi (by decide)), mo_r5 hm, bd_s, mo_r0 hm, bd_s, ck_t (ixA_of (mo_a0 hm) hi (by decide)), ixN (by omega) (by omega), ck_t (ixA_of (mo_a5 hm) (by omega) (by decide)), nm_s, nI_1, nm_s, nI_clamp (by omega), nI_clamp (by omega)]
    · show (pL N (m + 4) _ _).2 b = _
      rw [pL_n hb]; exact f2 b hb
    · show (pL N (m + 4) _ _).2 (m + 4) _ = _
      by_cases hji : j = i
      · subst hji; rw [pL_s, f2 _ (by omega)]
      · rw [pL_k (by omega)]; exact f3 j (by omega)
    · show (pL N (m + 4) _ _).2 (m + 4) j = _
      rw [pL_k (by omega)]; exact f4 j hj
  · rintro ⟨x, N⟩ ⟨rfl, f1, f2, f3, f4⟩
    have f1 : N.1 = M.1 := f1
    have f2 : ∀ b, b ≠ m + 4 → N.2 b = M.2 b := f2
    refine ⟨((nI ps.length).toInt64, pI N (m + 5) k 1), ?_, rfl, ?_, f2, f3, f4⟩
    · show mX8_shelve_B18 K R m (nI k) (nI 1481) N = _
      unfold mX8_shelve_B18
      have hp : psM ((pI N (m + 5) k (vp_nar .boolean 1)).2 (m + 1)) 0 ps := by rw [pI_l, f2 _ (by omega)]; exact h
      rw [if_neg (by decide), mo_r6 hm, bd_s, ck_t (ixA_of (mo_a6 hm) hk (by decide)), nm_s, nI_clamp (by omega), piecesM_ok hm hp, bd_s]
      rfl
    · show u2 N.1 (m + 5) k 1 = u2 M.1 (m + 5) k 1
      rw [f1]
/-- what a call finds: now's pieces -/
theorem now_ps {S : Sx} (hw : WF S) : ∃ ps, S.2.2.1[S.2.2.2.1]? = some ps ∧ isPs ps := by
  have h := hw.2.2.2.1
  exact ⟨_, List.getElem?_eq_getElem h, hw.2.2.2.2.2.1 _ _ (List.getElem?_eq_getElem h)⟩
theorem inv_shelve (o : Nat) (K : Kk) (R : Rr) (M : Mm) (a0 : Int32) (hI : Inv o K R M) : ∃ (v : Int64) (M1 : Mm) (M2 : Mm), mX7_shelve K R M o a0 = some (v, M1) ∧ mX8_shelve K R M1 (o + 2118) a0 = some (v, M2) ∧ Inv o K R M2 := by
  have hI0 := hI
  obtain ⟨hs, hm, S, hw, hc, ho⟩ := hI
  have hs0 := hs
  obtain ⟨s0, -, -, s2, s3, s4, -, -, -, -, -, -, -, -, -, -, -, -, sh, a5, a6, a7, -⟩ := hs
  obtain ⟨ps, hps, hpp⟩ := now_ps hw
  rcases pk_ix a0 (n := 4) (by decide) with h | h | ⟨k, hk, rfl⟩
  · exact ⟨_, M, M, by unfold mX7_shelve; rw [ck_t s0, isShelf_f (Or.inl h), bd_s, if_pos rfl], by unfold mX8_shelve; rw [ck_t hm.1, isInN_f (n := 4) (Or.inl h) (by decide) (by decide), bd_s, if_pos rfl], hI0⟩
  · exact ⟨_, M, M, by unfold mX7_shelve; rw [ck_t s0, isShelf_f (Or.inr h), bd_s, if_pos rfl], by unfold mX8_shelve; rw [ck_t hm.1, isInN_f (n := 4) (Or.inr h) (by decide) (by decide), bd_s, if_pos rfl], hI0⟩
  · have hw0 := hw
    obtain ⟨w1, w2, w3, w4, w5, w6, w7⟩ := hw
    obtain ⟨c1, c2, ⟨f, d, hf, c4, c5, c6⟩, c7⟩ := hc
    have h8 := hf.2.1 S.2.2.2.1 (by omega)
    obtain ⟨M1, e1, e2, e3, e4⟩ := pstake_ok (M := M) (a6 k hk).2 (cont_psA hs0 h8.1) (by show _ ∨ o + 22 + 162 * f S.2.2.2.1 + 162 ≤ _; omega) hpp.fit (c6 _ ps hps)
    generalize hM2 : pI M1 (o + 1967) k 1 = M2
    have x2 : ∀ b, b ≠ o + 1967 → M2.1 b = M1.1 b := fun b hb => by rw [← hM2, pI_n hb]
    have l2 : M2.2 = M.2 := by rw [← hM2, pI_l, e4]
    have x3 : ∀ b, b ≠ o + 1967 → (b < o + 1319 + 162 * k ∨ o + 1319 + 162 * k + 162 ≤ b) → M2.1 b = M.1 b := fun b h1 h2 => (x2 b h1).trans (e3 b h2).1
    have hq6 : psM (M2.2 (o + 2118 + 1)) 0 ps := by rw [l2]; exact ho.2.2.2.2.2.1 ps hps
    obtain ⟨M3, r1, r2, r3, r4, r5⟩ := shelveM_ok (M := M2) hm hk hq6
    refine ⟨(nI ps.length).toInt64, M2, M3, ?_, r1, hs0, hm, (S.1, S.2.1, S.2.2.1, S.2.2.2.1, va_up S.2.2.2.2 k (some ps)), ⟨w1, w2, w3, w4, w5, w6, fun j q hj hq => ?_⟩, ?_, ?_⟩
    · unfold mX7_shelve
      rw [ck_t s0, isShelf_t hk, bd_s, if_neg (by decide), s3, bd_s, ck_t (ixA_of a5 hk (by decide)), nI_clamp (by omega), (a6 k hk).1, bd_s, s2, bd_s, ck_t sh.1, now_ok hs0 hf c4 (by omega), bd_s, ck_t (a6 k hk).2.1, e1, bd_s, s4, bd_s, ck_t (ixA_of a7 hk (by decide)), nm_s]
      rw [show pI M1 (o + 1967) k (vp_nar .boolean 1) = M2 from hM2, x2 _ (by omega), e2.1]
    · have hq : va_up S.2.2.2.2 k (some ps) j = some q := hq
      by_cases hjk : j = k
      · subst hjk; rw [va_up_self] at hq; cases hq; exact hpp
      · rw [va_up_ne _ _ hjk] at hq; exact w7 j q hj hq
    · have g : ∀ b, b < o + 2118 → M3.1 b = M2.1 b := fun b hb => by rw [r2, pI_n (by omega)]
      have y : ∀ b, b < o + 2118 → b ≠ o + 1967 → (b < o + 1319 + 162 * k ∨ o + 1319 + 162 * k + 162 ≤ b) → M3.1 b = M.1 b := fun b h0 h1 h2 => (g b h0).trans (x3 b h1 h2)
      have rg : ∀ a l, a + 3 ≤ o + 1967 → (a + 3 ≤ o + 1319 + 162 * k ∨ o + 1319 + 162 * k + 162 ≤ a) → rgC M a l → rgC M3 a l := fun a l h1 h2 hr => ⟨by rw [y a (by omega) (by omega) (by omega)]; exact hr.1, fun i p hp => by rw [y (a + 1) (by omega) (by omega) (by omega), y (a + 2) (by omega) (by omega) (by omega)]; exact hr.2 i p hp⟩
      have pp : ∀ a q, fitP q → a + 162 ≤ o + 1967 → (a + 162 ≤ o + 1319 + 162 * k ∨ o + 1319 + 162 * k + 162 ≤ a) → psC M a q → psC M3 a q := fun a q hq h1 h2 hr => ⟨by rw [y a (by omega) (by omega) (by omega)]; exact hr.1, fun i p hp => by
        have hi := (List.getElem?_eq_some_iff.mp hp).1
        have := hq.1
        obtain ⟨b1, b2, b3, b4, b5⟩ := hr.2 i p hp
        have e := y (a + 2 + 4 * i) (by omega) (by omega) (by omega)
        exact ⟨rg _ _ (by omega) (by omega) b1, by rw [e]; exact b2, by rw [e]; exact b3, by rw [e]; exact b4, by rw [e]; exact b5⟩⟩
      refine ⟨rg _ _ (by omega) (by omega) c1, fun j hj => rg _ _ (by omega) (by omega) (c2 j hj), ⟨f, d, hf, by rw [y _ (by omega) (by omega) (by omega)]; exact c4, by rw [y _ (by omega) (by omega) (by omega)]; exact c5, fun i q hq => ?_⟩, fun j hj => ?_⟩
      · have hi : i < S.2.2.1.length := (List.getElem?_eq_some_iff.mp hq).1
        have := (hf.2.1 i (by omega)).1
        have hcd : cont o (f i) = o + 22 + 162 * f i := rfl
        exact pp _ _ (w6 i q hq).fit (by omega) (by omega) (c6 i q hq)
      · by_cases hjk : j = k
        · subst hjk
          show M3.1 (o + 1967) j = bI (va_up S.2.2.2.2 j (some ps) j).isSome ∧ ∀ q, va_up S.2.2.2.2 j (some ps) j = some q → _
          rw [va_up_self]
          refine ⟨by rw [g _ (by omega), ← hM2, pI_s]; rfl, fun q hq => ?_⟩
          cases hq
          refine ⟨by rw [g _ (by omega), x2 _ (by omega)]; exact e2.1, fun i p hp => ?_⟩
          have hi := (List.getElem?_eq_some_iff.mp hp).1
          have := hpp.1
          obtain ⟨⟨b1, b6⟩, b2, b3, b4, b5⟩ := e2.2 i p hp
          have e : ∀ x, x < o + 1967 → M3.1 x = M1.1 x := fun x hx => (g x (by omega)).trans (x2 x (by omega))
          exact ⟨⟨by rw [e _ (by omega)]; exact b1, fun x z hz => by rw [e _ (by omega), e _ (by omega)]; exact b6 x z hz⟩, by rw [e _ (by omega)]; exact b2, by rw [e _ (by omega)]; exact b3, by rw [e _ (by omega)]; exact b4, by rw [e _ (by omega)]; exact b5⟩
        · show M3.1 (o + 1967) j = bI (va_up S.2.2.2.2 k (some ps) j).isSome ∧ ∀ q, va_up S.2.2.2.2 k (some ps) j = some q → _
          rw [va_up_ne _ _ hjk]
          refine ⟨?_, fun q hq => pp _ _ (w7 j q hj hq).fit (by omega) (by omega) ((c7 j hj).2 q hq)⟩
          rw [g _ (by omega), ← hM2, pI_k hjk, (e3 _ (by omega)).1]
          exact (c7 j hj).1
    · obtain ⟨o1, o2, o3, o4, o5, o6, o7, o8, o9⟩ := ho
      have g1 : ∀ b, o + 2118 ≤ b → b ≠ o + 2118 + 5 → M3.1 b = M.1 b := fun b h1 h2 => by rw [r2, pI_n h2]; exact x3 b (by omega) (by omega)
      have g2 : ∀ b, b ≠ o + 2118 + 4 → M3.2 b = M.2 b := fun b h1 => by rw [r3 b h1, l2]
      refine ⟨by rw [g1 _ (by omega) (by omega)]; exact o1, by unfold ptM; rw [g2 _ (by omega), g2 _ (by omega)]; exact o2, fun j hj => ⟨by rw [g1 _ (by omega) (by omega)]; exact (o3 j hj).1, by unfold ptM; rw [g2 _ (by omega), g2 _ (by omega)]; exact (o3 j hj).2⟩, by rw [g1 _ (by omega) (by omega)]; exact o4, by rw [g1 _ (by omega) (by omega)]; exact o5, by rw [g2 _ (by omega)]; exact o6, by rw [g2 _ (by omega)]; exact o7, by rw [g2 _ (by omega)]; exact o8, fun j hj => ?_⟩
      show M3.1 (o + 2118 + 5) j = bI (va_up S.2.2.2.2 k (some ps) j).isSome ∧ ∀ q, va_up S.2.2.2.2 k (some ps) j = some q → _
      by_cases hjk : j = k
      · subst hjk
        rw [va_up_self]
        refine ⟨by rw [r2, pI_s]; rfl, fun q hq => ?_⟩
        cases hq
        refine hq6.eq hpp (fun i hi => ?_)
        rw [Nat.zero_add]
        exact r4 i hi
      · rw [va_up_ne _ _ hjk]
        refine ⟨by rw [r2, pI_k hjk, x3 _ (by omega) (by omega)]; exact (o9 j hj).1, fun q hq => ?_⟩
        refine ((o9 j hj).2 q hq).eq (w7 j q hj hq) (fun i hi => ?_)
        rw [r5 _ (by omega), l2]
