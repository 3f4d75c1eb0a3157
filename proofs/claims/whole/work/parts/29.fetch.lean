/-! fetch -/
theorem moH.fr {M M' : Mm} {m now : Nat} {hs : List (List Pc)} (h : moH M m hs now) (e : ∀ b, m ≤ b → b < m + 4 → M'.1 b = M.1 b ∧ M'.2 b = M.2 b) : moH M' m hs now := by
  obtain ⟨h1, h2, h3, h4, h5⟩ := h
  exact ⟨by rw [(e m (by omega) (by omega)).1]; exact h1, by rw [(e m (by omega) (by omega)).1]; exact h2, by rw [(e (m + 1) (by omega) (by omega)).2]; exact h3, by rw [(e (m + 2) (by omega) (by omega)).2]; exact h4, by rw [(e (m + 3) (by omega) (by omega)).2]; exact h5⟩
theorem fetchM_ok {K : Kk} {R : Rr} {M : Mm} {m k : Nat} {ps : List Pc} (hm : moA K R m) (hk : k < 4) (hp : isPs ps) (h : psM (M.2 (m + 4)) (1481 * k) ps) : ∃ M', lp (mX8_fetch_L35 K R m (nI k)) (0, M) = some ((nI ps.length).toInt64, M') ∧ M'.1 = M.1 ∧ (∀ b, b ≠ m + 1 → M'.2 b = M.2 b) ∧ psM (M'.2 (m + 1)) 0 ps := by
  have hL := lp_ind (f := mX8_fetch_L35 K R m (nI k)) (fun (i : Nat) (s : Int32 × Mm) => s.1 = nI i ∧ s.2.1 = M.1 ∧ (∀ b, b ≠ m + 1 → s.2.2 b = M.2 b) ∧ ∀ j, j < i → s.2.2 (m + 1) j = M.2 (m + 4) (1481 * k + j)) (fun r => r.1 = (nI ps.length).toInt64 ∧ r.2.1 = M.1 ∧ (∀ b, b ≠ m + 1 → r.2.2 b = M.2 b) ∧ psM (r.2.2 (m + 1)) 0 ps) 1481 ?_ ?_
  · obtain ⟨⟨v, M'⟩, e1, e2, e3⟩ := hL 1481 0 (nI 0, M) rfl ⟨rfl, rfl, fun _ _ => rfl, fun j hj => absurd hj (by omega)⟩
    have e2 : v = _ := e2
    subst e2
    exact ⟨M', e1, e3⟩
  · rintro i ⟨x, N⟩ hi ⟨rfl, f1, f2, f3⟩
    have f1 : N.1 = M.1 := f1
    have f2 : ∀ b, b ≠ m + 1 → N.2 b = M.2 b := f2
    have f3 : ∀ j, j < i → N.2 (m + 1) j = M.2 (m + 4) (1481 * k + j) := f3
    refine Or.inl ⟨(nI (i + 1), pL N (m + 1) i (N.2 (m + 4) (1481 * k + i))), ?_, rfl, f1, fun b hb => ?_, fun j hj => ?_⟩
    · show mX8_fetch_B35 K R m (nI k) (nI i) N = _
      unfold mX8_fetch_B35
      rw [if_pos (show nI i < 1481 from nI_lt (b := 1481) hi (by decide)), mo_r0 hm, bd_s, mo_r5 hm, bd_s, ixN (by omega) (by omega), ck_t (ixA_of (mo_a5 hm) (by omega) (by decide)), ck_t (ixA_of (mo_a0 hm) hi (by decide)), nm_s, nI_1, nm_s, nI_clamp (by omega), nI_clamp (by omega)]
    · show (pL N (m + 1) _ _).2 b = _
      rw [pL_n hb]; exact f2 b hb
    · show (pL N (m + 1) _ _).2 (m + 1) _ = _
      by_cases hji : j = i
      · subst hji; rw [pL_s, f2 _ (by omega)]
      · rw [pL_k hji]; exact f3 j (by omega)
  · rintro ⟨x, N⟩ ⟨rfl, f1, f2, f3⟩
    have f1 : N.1 = M.1 := f1
    have f2 : ∀ b, b ≠ m + 1 → N.2 b = M.2 b := f2
    have f3 : ∀ j, j < 1481 → N.2 (m + 1) j = M.2 (m + 4) (1481 * k + j) := f3
    have hN : psM (N.2 (m + 1)) 0 ps := h.eq hp (fun j hj => by rw [Nat.zero_add]; exact f3 j hj)
    refine ⟨((nI ps.length).toInt64, N), ?_, rfl, f1, f2, hN⟩
    show mX8_fetch_B35 K R m (nI k) (nI 1481) N = _
    unfold mX8_fetch_B35
    rw [if_neg (by decide), piecesM_ok hm hN, bd_s]
    rfl
/-- the class's way of a change: the draft's pieces become now's -/
theorem keepC {o : Nat} {K : Kk} {R : Rr} {M M1 : Mm} {S : Sx} {ps : List Pc} {f : Nat → Nat} {d : Nat} (hs : skC K R o) (hw : WF S) (hx : hiX R M o S.2.2.1 S.2.2.2.1 f d) (hp : psC M1 (cont o d) ps) (hps : isPs ps) (e : ∀ b, b < o + 1968 → (b < cont o d ∨ cont o d + 162 ≤ b) → M1.1 b = M.1 b) :
    ∃ R' M' f' d', mX1_keepDraft K R M1 (o + 20) = some (R', M') ∧ hiX R' M' o (pushH S.2.2.1 S.2.2.2.1 ps) (nowH S.2.2.2.1) f' d' ∧ Rh o R R' ∧ (∀ b, b ≠ o + 20 → M'.1 b = M1.1 b) ∧ M'.2 = M1.2 := by
  have hx1 : hiX R M1 o S.2.2.1 S.2.2.2.1 f d := hx.fr hw.2.2.2.2.1 (fun i q hq => (hw.2.2.2.2.2.1 i q hq).fit) (fun b hb h => e b (by omega) h)
  exact keep_ok hs hx1 hw.2.2.2.1 hw.2.2.2.2.1 hp (fun i q hq => (hw.2.2.2.2.2.1 i q hq).fit) hps.fit
theorem inv_fetch (o : Nat) (K : Kk) (R : Rr) (M : Mm) (a0 : Int32) (hI : Inv o K R M) : ∃ (v : Int64) (R1 : Rr) (M1 : Mm) (M2 : Mm), mX7_fetch K R M o a0 = some (v, R1, M1) ∧ mX8_fetch K R1 M1 (o + 2118) a0 = some (v, M2) ∧ Inv o K R1 M2 := by
  have hI0 := hI
  obtain ⟨hs, hm, S, hw, hc, ho⟩ := hI
  have hs0 := hs
  obtain ⟨s0, -, -, s2, s3, s4, -, -, -, -, -, -, -, -, -, -, -, -, sh, a5, a6, a7, -⟩ := hs
  obtain ⟨ps, hps, hpp⟩ := now_ps hw
  rcases pk_ix a0 (n := 4) (by decide) with h | h | ⟨k, hk, rfl⟩
  · exact ⟨_, R, M, M, by unfold mX7_fetch; rw [ck_t s0, isShelf_f (Or.inl h), bd_s, if_pos rfl], by unfold mX8_fetch; rw [ck_t hm.1, isInN_f (n := 4) (Or.inl h) (by decide) (by decide), bd_s, if_pos rfl], hI0⟩
  · exact ⟨_, R, M, M, by unfold mX7_fetch; rw [ck_t s0, isShelf_f (Or.inr h), bd_s, if_pos rfl], by unfold mX8_fetch; rw [ck_t hm.1, isInN_f (n := 4) (Or.inr h) (by decide) (by decide), bd_s, if_pos rfl], hI0⟩
  · have hc0 := hc
    obtain ⟨c1, c2, ⟨f, d, hx⟩, c7⟩ := hc
    have hr := moC_split.mp ho
    obtain ⟨l1, l2⟩ := c7 k hk
    obtain ⟨l3, l4⟩ := hr.1.2.2.2 k hk
    have hd1 : cont o d = o + 22 + 162 * d := rfl
    have hd8 := hx.1.1
    cases hsh : S.2.2.2.2 k with
    | none =>
      rw [hsh] at l1 l3
      replace l1 : M.1 (o + 1967) k = bI false := l1
      replace l3 : M.1 (o + 2118 + 5) k = bI false := l3
      refine ⟨-9000000000000000002, R, M, M, ?_, ?_, hI0⟩
      · unfold mX7_fetch
        rw [ck_t s0, isShelf_t hk, bd_s, if_neg (by decide), s4, bd_s, ck_t (ixA_of a7 hk (by decide)), nI_clamp (by omega), l1, if_pos (show bI false = 0 from rfl)]
      · unfold mX8_fetch
        rw [ck_t hm.1, isInN_t (n := 4) hk (by decide) (by decide), bd_s, if_neg (by decide), mo_r6 hm, bd_s, ck_t (ixA_of (mo_a6 hm) hk (by decide)), nI_clamp (by omega), l3, if_pos (show bI false = 0 from rfl)]
    | some q =>
      rw [hsh] at l1 l3
      replace l1 : M.1 (o + 1967) k = bI true := l1
      replace l3 : M.1 (o + 2118 + 5) k = bI true := l3
      have hq := hw.2.2.2.2.2.2 k q hk hsh
      obtain ⟨M9, e1, e2, e3, e4⟩ := draft_ok hs0 hx hw.2.2.2.1 hw.2.2.2.2.1 hps hpp.fit
      obtain ⟨M14, g1, g2, g3, g4⟩ := pstake_ok (M := M9) (cont_psA hs0 hd8) (a6 k hk).2 (by omega) hq.fit ((l2 q hsh).fr e3 hq.1 (by omega))
      have eM : ∀ b, (b < cont o d ∨ cont o d + 162 ≤ b) → M14.1 b = M.1 b ∧ M14.2 b = M.2 b := fun b hb => ⟨(g3 b hb).1.trans (e3 b hb).1, (g3 b hb).2.trans (e3 b hb).2⟩
      obtain ⟨R1, M17, f', d', k1, k2, k3, k4, k5⟩ := keepC hs0 hw hx g2 hq (fun b _ hb => (eM b hb).1)
      have eM2 : ∀ b, b ≠ o + 20 → (b < cont o d ∨ cont o d + 162 ≤ b) → M17.1 b = M.1 b ∧ M17.2 b = M.2 b := fun b h1 h2 => ⟨(k4 b h1).trans (eM b h2).1, by rw [k5]; exact (eM b h2).2⟩
      have hm1 := hm.rh k3
      have hs1 := hs0.rh k3
      have hH : moH M17 (o + 2118) S.2.2.1 S.2.2.2.1 := hr.2.fr (fun b h1 h2 => eM2 b (by omega) (by omega))
      obtain ⟨N, n1, n2, n3, n4, n5, n6, n7⟩ := keepM_ok hm1 hH hw.2.2.2.1 hw.2.2.2.2.1 hw.2.2.2.2.2.1
      have hsm : psM (N.2 (o + 2118 + 4)) (1481 * k) q := by rw [n6 _ (by omega), (eM2 _ (by omega) (by omega)).2]; exact l4 q hsh
      obtain ⟨M2, p1, p2, p3, p4⟩ := fetchM_ok hm1 hk hq hsm
      have hsz : M17.1 (o + 1319 + 162 * k) 1 = nI q.length := by rw [(eM2 _ (by omega) (by omega)).1]; exact (l2 q hsh).1
      obtain ⟨-, -, -, t2, t3, t4, -, -, -, -, -, -, -, -, -, -, -, -, th, b5, b6, b7, -⟩ := hs1
      refine ⟨(nI q.length).toInt64, R1, M17, M2, ?_, ?_, ?_⟩
      · unfold mX7_fetch
        rw [ck_t s0, isShelf_t hk, bd_s, if_neg (by decide), s4, bd_s, ck_t (ixA_of a7 hk (by decide)), nI_clamp (by omega), l1, if_neg (show ¬ bI true = 0 by decide), s2, bd_s, ck_t sh.1, e1, bd2_s, s3, bd_s, ck_t (ixA_of a5 hk (by decide)), (a6 k hk).1, bd_s, ck_t (cont_psA hs0 hd8).1, g1, bd_s, k1, bd2_s, t3, bd_s, ck_t (ixA_of b5 hk (by decide)), (b6 k hk).1, bd_s, ck_t (b6 k hk).2.1, hsz]
      · unfold mX8_fetch
        have l5 : M17.1 (o + 2118 + 5) k = bI true := by rw [(eM2 _ (by omega) (by omega)).1]; exact l3
        rw [ck_t hm1.1, isInN_t (n := 4) hk (by decide) (by decide), bd_s, if_neg (by decide), mo_r6 hm1, bd_s, ck_t (ixA_of (mo_a6 hm1) hk (by decide)), nI_clamp (by omega), l5, if_neg (show ¬ bI true = 0 by decide), n1, bd_s, nm_s]
        exact p1
      · refine inv_change (M1 := M17) hs0 hm hw hc0 ho hq k2 k3 (fun b hb => eM2 b (by omega) (by omega)) (fun b hb => ⟨?_, ?_⟩) (fun b h1 h2 => ⟨?_, ?_⟩) ?_ ?_ ?_ p4 (fun i x hi hx2 => ?_)
        · rw [p2, n5 b (by omega)]
        · rw [p3 b (by omega), n6 b (by omega)]
        · rw [p2, n5 b (by omega)]; exact (eM2 b (by omega) (by omega)).1
        · rw [p3 b (by omega), n6 b (by omega)]; exact (eM2 b (by omega) (by omega)).2
        · rw [p2, n4 12 (by decide) (by decide)]; exact congrFun (eM2 _ (by omega) (by omega)).1 12
        · rw [p2]; exact n2
        · rw [p2]; exact n3
        · rw [p3 _ (by omega)]; exact n7 i x hi hx2
