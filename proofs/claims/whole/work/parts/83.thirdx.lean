/-! third is told alike -/
section TX
variable {K : Kk} {R : Rr} {M : Mm} {m : Nat}
theorem copyM_ok {ps : List Pc} (hm : moA K R m) (hp : isPs ps) (h : psM (M.2 (m + 24)) 0 ps) : ∃ M', lp (mX8_third_L159 K R m) (0, M) = some ((nI ps.length).toInt64, M') ∧ psM (M'.2 (m + 1)) 0 ps ∧ FM m [] [1] M M' := by
  have r0 := mo_r0 hm
  have a0 := mo_a0 hm
  have r37 := mo_r37 hm
  have a37 := mo_a37 hm
  have run := lp_run (f := mX8_third_L159 K R m) (fun (i : Nat) (s : Int32 × Mm) => s.1 = nI i ∧ FM m [] [1] M s.2 ∧ ∀ t, t < i → s.2.2 (m + 1) t = M.2 (m + 24) t) 1481 (by
    rintro i ⟨z, N⟩ hi ⟨rfl, f1, f2⟩
    have f1 : FM m [] [1] M N := f1
    have f2 : ∀ t, t < i → N.2 (m + 1) t = M.2 (m + 24) t := f2
    have lt : nI i < 1481 := nI_lt (b := 1481) hi (by decide)
    refine ⟨(nI (i + 1), pL N (m + 1) i (N.2 (m + 24) i)), ?_, rfl, f1.pL (by decide), fun t ht => ?_⟩
    · show mX8_third_B159 K R m (nI i) N = _
      unfold mX8_third_B159
      (repeat (first | rw [ck_t (by first | with_reducible assumption | ((with_reducible apply ixA_of); (with_reducible assumption); omega; omega) | ((with_reducible apply isAr_of); (with_reducible assumption); decide) | ((with_reducible apply nI_ne0); omega; omega) | with_reducible exact isB_0 | with_reducible exact isB_1 | with_reducible exact isB_bI _)] | rw [bd_r (by with_reducible assumption)] | rw [bd_s] | rw [bd2_s] | rw [bd3_s] | rw [nm_s] | rw [nI_clamp (by omega)] | rw [nI_1] | rw [if_pos (lt)] | rw [if_pos (by first | with_reducible assumption | ((with_reducible refine nI_lt ?_ ?_); omega; omega) | ((with_reducible refine nI_nlt ?_ ?_); omega; omega) | with_reducible exact ne10 | with_reducible rfl)] | rw [if_neg (by first | with_reducible assumption | ((with_reducible refine nI_lt ?_ ?_); omega; omega) | ((with_reducible refine nI_nlt ?_ ?_); omega; omega) | with_reducible exact ne10 | with_reducible rfl)]))
    · show (pL N _ _ _).2 _ t = _
      by_cases w : t = i
      · subst w; rw [pL_s, f1.ar 24 (by decide)]
      · rw [pL_k w]; exact f2 t (by omega))
  obtain ⟨⟨z, N⟩, u1, rfl, u2, u3⟩ := run 1481 0 (nI 0, M) (by omega) ⟨rfl, FM.rf, fun t ht => absurd ht (by omega)⟩
  have u2 : FM m [] [1] M N := u2
  have u3 : ∀ t, t < 1481 → N.2 (m + 1) t = M.2 (m + 24) t := u3
  have hN : psM (N.2 (m + 1)) 0 ps := h.eq hp (fun j hj => by rw [Nat.zero_add]; exact u3 j hj)
  refine ⟨N, ?_, hN, u2⟩
  rw [show lp (mX8_third_L159 K R m) (0, M) = _ from u1]
  refine lp_out ?_
  show mX8_third_B159 K R m (nI 1481) N = _
  unfold mX8_third_B159
  (repeat (first | rw [ck_t (by first | with_reducible assumption | ((with_reducible apply ixA_of); (with_reducible assumption); omega; omega) | ((with_reducible apply isAr_of); (with_reducible assumption); decide) | ((with_reducible apply nI_ne0); omega; omega) | with_reducible exact isB_0 | with_reducible exact isB_1 | with_reducible exact isB_bI _)] | rw [bd_r (by with_reducible assumption)] | rw [bd_s] | rw [bd2_s] | rw [bd3_s] | rw [nm_s] | rw [nI_clamp (by omega)] | rw [nI_1] | rw [if_neg ((show ¬ nI 1481 < 1481 by decide))] | rw [bd_e (piecesM_ok hm hN)] | rw [if_pos (by first | with_reducible assumption | ((with_reducible refine nI_lt ?_ ?_); omega; omega) | ((with_reducible refine nI_nlt ?_ ?_); omega; omega) | with_reducible exact ne10 | with_reducible rfl)] | rw [if_neg (by first | with_reducible assumption | ((with_reducible refine nI_lt ?_ ?_); omega; omega) | ((with_reducible refine nI_nlt ?_ ?_); omega; omega) | with_reducible exact ne10 | with_reducible rfl)]))
  rfl
end TX
theorem inv_third (o : Nat) (K : Kk) (R : Rr) (M : Mm) (a0 : Int32) (hI : Inv o K R M) : ∃ (v : Int64) (R1 : Rr) (M1 : Mm) (M2 : Mm), mX7_third K R M o a0 = some (v, R1, M1) ∧ mX8_third K R1 M1 (o + 2118) a0 = some (v, M2) ∧ Inv o K R1 M2 := by
  have hI0 := hI
  obtain ⟨hs, hm, S, hw, hc, ho⟩ := hI
  have hs0 := hs
  obtain ⟨s0, -, -, s2, s3, s4, -, -, -, -, -, -, -, -, -, -, -, -, sh, a5, a6, a7, -⟩ := hs
  obtain ⟨ps, hps, hpp⟩ := now_ps hw
  rcases pk_ix a0 (n := 4) (by decide) with h | h | ⟨k, hk, rfl⟩
  · exact ⟨_, R, M, M, by unfold mX7_third; rw [ck_t s0, isShelf_f (Or.inl h), bd_s, if_pos rfl], by unfold mX8_third; rw [ck_t hm.1, isInN_f (n := 4) (Or.inl h) (by decide) (by decide), bd_s, if_pos rfl], hI0⟩
  · exact ⟨_, R, M, M, by unfold mX7_third; rw [ck_t s0, isShelf_f (Or.inr h), bd_s, if_pos rfl], by unfold mX8_third; rw [ck_t hm.1, isInN_f (n := 4) (Or.inr h) (by decide) (by decide), bd_s, if_pos rfl], hI0⟩
  · have hc0 := hc
    obtain ⟨c1, c2, ⟨f, d, hx⟩, c7⟩ := hc
    have hx : hiX R M o S.2.2.1 S.2.2.2.1 f d := hx
    have hr := moC_split.mp ho
    obtain ⟨l1, l2⟩ := c7 k hk
    obtain ⟨l3, l4⟩ := hr.1.2.2.2 k hk
    have hd1 : cont o d = o + 22 + 162 * d := rfl
    have hd8 := hx.1.1
    have hq6 : psM (M.2 (o + 2118 + 1)) 0 ps := ho.2.2.2.2.2.1 ps hps
    cases hsh : S.2.2.2.2 k with
    | none =>
      rw [hsh] at l1 l3
      replace l1 : M.1 (o + 1967) k = bI false := l1
      replace l3 : M.1 (o + 2118 + 5) k = bI false := l3
      refine ⟨-9000000000000000002, R, M, M, ?_, ?_, hI0⟩
      · unfold mX7_third
        rw [ck_t s0, isShelf_t hk, bd_s, if_neg (by decide), s4, bd_s, ck_t (ixA_of a7 hk (by decide)), nI_clamp (by omega), l1, if_pos (show bI false = 0 from rfl)]
      · unfold mX8_third
        rw [ck_t hm.1, isInN_t (n := 4) hk (by decide) (by decide), bd_s, if_neg (by decide), mo_r6 hm, bd_s, ck_t (ixA_of (mo_a6 hm) hk (by decide)), nI_clamp (by omega), l3, if_pos (show bI false = 0 from rfl)]
    | some qs =>
      rw [hsh] at l1 l3
      replace l1 : M.1 (o + 1967) k = bI true := l1
      replace l3 : M.1 (o + 2118 + 5) k = bI true := l3
      have hq := hw.2.2.2.2.2.2 k qs hk hsh
      have n7 : S.2.2.2.1 < 7 := by have := hw.2.2.2.1; have := hw.2.2.2.2.1; omega
      have fn := hx.1.2.1 S.2.2.2.1 n7
      have hcN : cont o (f S.2.2.2.1) = o + 22 + 162 * f S.2.2.2.1 := rfl
      have now := now_ok hs0 hx.1 hx.2.1 n7
      have hpsC : psC M (cont o (f S.2.2.2.1)) ps := hx.2.2.2 _ ps hps
      have emp := empty_ok (K := K) (M := M) hs0 hx.1
      have hcA := cont_psA hs0 fn.1
      have hdA := cont_psA hs0 hd8
      generalize hM14 : pI M (cont o d) 1 0 = M14 at emp
      have f14 : ∀ b, b ≠ cont o d → M14.1 b = M.1 b := fun b hb => by rw [← hM14, pI_n hb]
      have e14 : M14.2 = M.2 := by rw [← hM14]; rfl
      have NM : ∀ N, FT o (cont o d) M14 N → (∀ b, (b < cont o d ∨ cont o d + 162 ≤ b) → (b < o + 1973 ∨ o + 1991 ≤ b) → N.1 b = M.1 b) ∧ N.2 = M.2 := fun N g => ⟨fun b h1 h2 => (g.1 b h1 h2).trans (f14 b (by omega)), g.2.trans e14⟩
      have CH := fun (N : Mm) (g : FT o (cont o d) M14 N) (h1 : psC N (cont o d) (allF ps qs ps.length).2) (h2 : isPs (allF ps qs ps.length).2) => chg0 hs0 hm hw hc0 ho hx h2 h1 (fun b hb h => (NM N g).1 b h (by omega)) (NM N g).2 (fun b hb => (NM N g).1 b (by omega) (by omega))
      have hfin : ∀ N, FT o (cont o d) M14 N → psC N (cont o d) (allF ps qs ps.length).2 → isPs (allF ps qs ps.length).2 → ∃ r, finC K R o (cont o d) N = some r := fun N g h1 h2 => by
        obtain ⟨R1, M17, b1, -⟩ := CH N g h1 h2
        refine ⟨((M17.1 (cont o d) 1).toInt64, R1, M17), ?_⟩
        unfold finC
        rw [s2, bd_s, ck_t sh.1, b1, bd2_s, ck_t hdA.1]
      obtain ⟨r, t1, t2⟩ := thirdC_ok (M := M14) (qa := o + 1319 + 162 * k) hs0 hcA hdA (a6 k hk).2 (by omega) (by omega) (by omega) (by omega) (by omega) (by omega) (by omega) (hpsC.ev hpp.1 (fun b h1 h2 => f14 b (by omega))) ((l2 qs hsh).ev hq.1 (fun b h1 h2 => f14 b (by omega))) hpp hq ⟨by rw [← hM14, pI_s]; rfl, fun i p hp => by cases hp⟩ hfin
      have cls : mX7_third K R M o (nI k) = some r := by
        unfold mX7_third
        rw [ck_t s0, isShelf_t hk, bd_s, if_neg (by decide), s4, bd_s, ck_t (ixA_of a7 hk (by decide)), nI_clamp (by omega), l1, if_neg (show ¬ bI true = 0 by decide), s2, bd_s, ck_t sh.1, now, bd_s, s3, bd_s, ck_t (ixA_of a5 hk (by decide)), (a6 k hk).1, bd_s, emp, bd2_s, nm_s]
        exact t1
      have refH : ∀ (R1 : Rr) (N : Mm), moA K R1 (o + 2118) → N.1 (o + 2118 + 5) = M.1 (o + 2118 + 5) → mX8_third K R1 N (o + 2118) (nI k) = lp (mX8_third_L31 K R1 (o + 2118) (nI k)) (0, N) := fun R1 N h1 h2 => by
        unfold mX8_third
        rw [ck_t h1.1, isInN_t (n := 4) hk (by decide) (by decide), bd_s, if_neg (by decide), mo_r6 h1, bd_s, ck_t (ixA_of (mo_a6 h1) hk (by decide)), nI_clamp (by omega), h2, l3, if_neg (show ¬ bI true = 0 by decide), nm_s]
      rcases t2 with ⟨v, N, v0, v1, g, rfl⟩ | ⟨N, v1, g, h1, h2, hr2⟩
      · obtain ⟨k1, k2⟩ := NM N g
        obtain ⟨r', w1, w2⟩ := thirdM_ok (M := N) (ps := ps) (qs := qs) hm (by rw [k2]; exact hq6) hpp hk (by rw [k2]; exact l4 qs hsh) hq (fun N' z => absurd (v1.symm.trans z) v0)
        rcases w2 with ⟨v', N', x0, x1, x2, rfl⟩ | ⟨N', x1, -⟩
        · have : v' = v := x1.symm.trans v1
          subst this
          refine ⟨v', R, N, N', cls, by rw [refH R N hm (k1 _ (by omega) (by omega))]; exact w1, ?_⟩
          refine Inv_dr hs0 hm hw hc0 ho hx (fun b hb h => ⟨?_, ?_⟩) (fun b hb1 hb2 => ⟨?_, ?_⟩) ?_ ?_ ?_
          · rw [x2.1 b (by omega), k1 b h (by omega)]
          · rw [x2.2.2 b (fun j hj => by omega), k2]
          · rw [x2.1 b (by omega), k1 b (by omega) (by omega)]
          · rw [x2.2.2 b (fun j hj => by
              have : ∀ j : Nat, j ∈ [11, 12, 13, 14, 15, 16, 17, 18, 24, 25] → 11 ≤ j := by decide
              have := this j hj
              omega), k2]
          · rw [x2.sl 3 (by decide), k1 _ (by omega) (by omega)]
          · rw [x2.sl 4 (by decide), k1 _ (by omega) (by omega)]
          · rw [x2.sl 12 (by decide), k1 _ (by omega) (by omega)]
        · exact absurd (v1.symm.trans x1) v0
      · obtain ⟨k1, k2⟩ := NM N g
        obtain ⟨R1, M17, b1, b2, b3, b4, b5, b6, b7⟩ := CH N g h1 h2
        have fr : finC K R o (cont o d) N = some ((M17.1 (cont o d) 1).toInt64, R1, M17) := by
          unfold finC
          rw [s2, bd_s, ck_t sh.1, b1, bd2_s, ck_t hdA.1]
        have er : r = ((M17.1 (cont o d) 1).toInt64, R1, M17) := Option.some.inj (hr2.symm.trans fr)
        subst er
        have e17 : M17.1 (cont o d) 1 = nI (allF ps qs ps.length).2.length := by rw [b6 _ (by omega)]; exact h1.1
        have big : ∀ j : Nat, j ∈ [11, 12, 13, 14, 15, 16, 17, 18, 24, 25] → j = 0 ∨ 11 ≤ j := by decide
        have FN : ∀ N', FX (o + 2118) M17 N' → psM (N'.2 (o + 2118 + 24)) 0 (allF ps qs ps.length).2 → ∃ M2, finM K R1 (o + 2118) N' = some ((nI (allF ps qs ps.length).2.length).toInt64, M2) ∧ Inv o K R1 M2 := fun N' y1 y2 => by
          obtain ⟨Nk, n1, n2, n3⟩ := b7 N' _ _ y1 (by decide) (by decide) (by decide) big
          obtain ⟨M2, p1, p2, p3⟩ := copyM_ok (M := Nk) b4 h2 (by rw [n2.ar 24 (by decide)]; exact y2)
          refine ⟨M2, ?_, n3 M2 _ _ p3 (by decide) (by decide) (by decide) (by decide) p2⟩
          unfold finM
          rw [n1, bd_s, nm_s]
          exact p1
        obtain ⟨r', w1, w2⟩ := thirdM_ok (R := R1) (M := M17) (ps := ps) (qs := qs) b4 (by rw [b5]; exact hq6) hpp hk (by rw [b5]; exact l4 qs hsh) hq (fun N' _ y1 y2 _ => by
          obtain ⟨M2, p1, -⟩ := FN N' y1 y2
          exact ⟨_, p1⟩)
        rcases w2 with ⟨v', N', x0, x1, x2, rfl⟩ | ⟨N', x1, x2, x3, x4, x5⟩
        · exact absurd (x1.symm.trans v1) x0
        · obtain ⟨M2, p1, p2⟩ := FN N' x2 x3
          have er : r' = ((nI (allF ps qs ps.length).2.length).toInt64, M2) := Option.some.inj (x5.symm.trans p1)
          subst er
          refine ⟨_, R1, M17, M2, cls, ?_, p2⟩
          rw [refH R1 M17 b4 (by rw [b6 _ (by omega), k1 _ (by omega) (by omega)]), e17]
          exact w1
