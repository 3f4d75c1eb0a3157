/-! FRAMES -/
/-- M' is M but for the cells from lo on, below hi -/
def Fr (lo hi : Nat) (M M' : Mm) : Prop := ∀ b, (b < lo ∨ hi ≤ b) → M'.1 b = M.1 b ∧ M'.2 b = M.2 b
theorem Fr.rf {lo hi : Nat} {M : Mm} : Fr lo hi M M := fun _ _ => ⟨rfl, rfl⟩
theorem Fr.tr {lo hi : Nat} {M M2 M3 : Mm} (h : Fr lo hi M M2) (g : Fr lo hi M2 M3) : Fr lo hi M M3 := fun b hb => ⟨(g b hb).1.trans (h b hb).1, (g b hb).2.trans (h b hb).2⟩
theorem Fr.mono {lo hi lo' hi' : Nat} {M M' : Mm} (h : Fr lo hi M M') (h1 : lo' ≤ lo) (h2 : hi ≤ hi') : Fr lo' hi' M M' := fun b hb => h b (by omega)
theorem Fr.pI {lo hi a k : Nat} {v : Int32} {M M' : Mm} (h : Fr lo hi M M') (h1 : lo ≤ a) (h2 : a < hi) : Fr lo hi M (pI M' a k v) := fun b hb => ⟨(pI_n (by omega)).trans (h b hb).1, (h b hb).2⟩
theorem Fr.pL {lo hi a k : Nat} {v : Int64} {M M' : Mm} (h : Fr lo hi M M') (h1 : lo ≤ a) (h2 : a < hi) : Fr lo hi M (pL M' a k v) := fun b hb => ⟨(h b hb).1, (pL_n (by omega)).trans (h b hb).2⟩
theorem rgC.fr {lo hi a : Nat} {M M' : Mm} {l : List Pt} (h : rgC M a l) (f : Fr lo hi M M') (ha : a + 3 ≤ lo ∨ hi ≤ a) : rgC M' a l := by
  refine ⟨by rw [(f a (by omega)).1]; exact h.1, fun i p hp => ?_⟩
  rw [(f (a + 1) (by omega)).1, (f (a + 2) (by omega)).1]
  exact h.2 i p hp
theorem pcC.fr {lo hi a : Nat} {M M' : Mm} {p : Pc} (h : pcC M a p) (f : Fr lo hi M M') (ha : a + 4 ≤ lo ∨ hi ≤ a) : pcC M' a p := by
  obtain ⟨h1, h2, h3, h4, h5⟩ := h
  have e := (f a (by omega)).1
  exact ⟨h1.fr f (by omega), by rw [e]; exact h2, by rw [e]; exact h3, by rw [e]; exact h4, by rw [e]; exact h5⟩
theorem psC.fr {lo hi a : Nat} {M M' : Mm} {ps : List Pc} (h : psC M a ps) (f : Fr lo hi M M') (hn : ps.length ≤ 40) (ha : a + 162 ≤ lo ∨ hi ≤ a) : psC M' a ps := by
  refine ⟨by rw [(f a (by omega)).1]; exact h.1, fun i p hp => ?_⟩
  have hi := (List.getElem?_eq_some_iff.mp hp).1
  exact (h.2 i p hp).fr f (by omega)
/-- what lasts stays: only the scratch of both sides is written -/
def Kp (o : Nat) (M M' : Mm) : Prop := (∀ b, b < o + 1968 → M'.1 b = M.1 b ∧ M'.2 b = M.2 b) ∧ (∀ b, o + 2119 ≤ b → b < o + 2129 → M'.1 b = M.1 b ∧ M'.2 b = M.2 b) ∧ M'.1 (o + 2118) 3 = M.1 (o + 2118) 3 ∧ M'.1 (o + 2118) 4 = M.1 (o + 2118) 4 ∧ M'.1 (o + 2118) 12 = M.1 (o + 2118) 12
theorem Kp.rf {o : Nat} {M : Mm} : Kp o M M := ⟨fun _ _ => ⟨rfl, rfl⟩, fun _ _ _ => ⟨rfl, rfl⟩, rfl, rfl, rfl⟩
theorem Kp.tr {o : Nat} {M M2 M3 : Mm} (h : Kp o M M2) (g : Kp o M2 M3) : Kp o M M3 :=
  ⟨fun b hb => ⟨(g.1 b hb).1.trans (h.1 b hb).1, (g.1 b hb).2.trans (h.1 b hb).2⟩, fun b h1 h2 => ⟨(g.2.1 b h1 h2).1.trans (h.2.1 b h1 h2).1, (g.2.1 b h1 h2).2.trans (h.2.1 b h1 h2).2⟩, g.2.2.1.trans h.2.2.1, g.2.2.2.1.trans h.2.2.2.1, g.2.2.2.2.trans h.2.2.2.2⟩
theorem Kp.fr {o lo hi : Nat} {M M' : Mm} (f : Fr lo hi M M') (h : (o + 1968 ≤ lo ∧ hi ≤ o + 2118) ∨ o + 2129 ≤ lo) : Kp o M M' :=
  ⟨fun b hb => f b (by omega), fun b h1 h2 => f b (by omega), by rw [(f _ (by omega)).1], by rw [(f _ (by omega)).1], by rw [(f _ (by omega)).1]⟩
theorem clC.kp {R : Rr} {M M' : Mm} {o : Nat} {S : Sx} (hw : WF S) (h : clC R M o S) (k : Kp o M M') : clC R M' o S := by
  have f : ∀ b, b < o + 1968 → M'.1 b = M.1 b ∧ M'.2 b = M.2 b := k.1
  obtain ⟨h1, h2, ⟨g, d, h3, h4, h5, h6⟩, h7⟩ := h
  obtain ⟨w1, w2, w3, w4, w5, w6, w7⟩ := hw
  have rg : ∀ a l, a + 3 ≤ o + 1968 → rgC M a l → rgC M' a l := fun a l ha hr => ⟨by rw [(f a (by omega)).1]; exact hr.1, fun i p hp => by rw [(f (a + 1) (by omega)).1, (f (a + 2) (by omega)).1]; exact hr.2 i p hp⟩
  have pc : ∀ a p, a + 4 ≤ o + 1968 → pcC M a p → pcC M' a p := fun a p ha hp => by
    have e := (f a (by omega)).1
    exact ⟨rg _ _ (by omega) hp.1, by rw [e]; exact hp.2.1, by rw [e]; exact hp.2.2.1, by rw [e]; exact hp.2.2.2.1, by rw [e]; exact hp.2.2.2.2⟩
  have ps : ∀ a ps, a + 162 ≤ o + 1968 → ps.length ≤ 40 → psC M a ps → psC M' a ps := fun a ps ha hn hp => ⟨by rw [(f a (by omega)).1]; exact hp.1, fun i p hi => by
    have := (List.getElem?_eq_some_iff.mp hi).1
    exact pc _ _ (by omega) (hp.2 i p hi)⟩
  refine ⟨rg _ _ (by omega) h1, fun k hk => rg _ _ (by omega) (h2 k hk), ⟨g, d, h3, by rw [(f _ (by omega)).1]; exact h4, by rw [(f _ (by omega)).1]; exact h5, fun i q hq => ?_⟩, fun k hk => ⟨by rw [(f _ (by omega)).1]; exact (h7 k hk).1, fun q hq => ps _ _ (by omega) (w7 k q hk hq).1 ((h7 k hk).2 q hq)⟩⟩
  have hi := (List.getElem?_eq_some_iff.mp hq).1
  have := (h3.2.1 i (by omega)).1
  exact ps _ _ (by show o + 22 + 162 * g i + 162 ≤ _; omega) (w6 i q hq).1 (h6 i q hq)
theorem moC.kp {M M' : Mm} {o : Nat} {S : Sx} (h : moC M (o + 2118) S) (k : Kp o M M') : moC M' (o + 2118) S := by
  obtain ⟨-, f, k3, k4, k12⟩ := k
  obtain ⟨h1, h2, h3, h4, h5, h6, h7, h8, h9⟩ := h
  refine ⟨by rw [k12]; exact h1, fun i p hp => ?_, fun k hk => ⟨?_, fun i p hp => ?_⟩, by rw [k3]; exact h4, by rw [k4]; exact h5, ?_, ?_, ?_, fun k hk => ⟨?_, ?_⟩⟩
  · rw [(f (o + 2118 + 9) (by omega) (by omega)).2, (f (o + 2118 + 10) (by omega) (by omega)).2]; exact h2 i p hp
  · rw [(f (o + 2118 + 8) (by omega) (by omega)).1]; exact (h3 k hk).1
  · rw [(f (o + 2118 + 6) (by omega) (by omega)).2, (f (o + 2118 + 7) (by omega) (by omega)).2]; exact (h3 k hk).2 i p hp
  · rw [(f (o + 2118 + 1) (by omega) (by omega)).2]; exact h6
  · rw [(f (o + 2118 + 2) (by omega) (by omega)).2]; exact h7
  · rw [(f (o + 2118 + 3) (by omega) (by omega)).2]; exact h8
  · rw [(f (o + 2118 + 5) (by omega) (by omega)).1]; exact (h9 k hk).1
  · rw [(f (o + 2118 + 4) (by omega) (by omega)).2]; exact (h9 k hk).2
theorem Inv.kp {o : Nat} {K : Kk} {R : Rr} {M M' : Mm} (h : Inv o K R M) (k : Kp o M M') : Inv o K R M' := by
  obtain ⟨h1, h2, S, h3, h4, h5⟩ := h
  exact ⟨h1, h2, S, h3, h4.kp h3 k, h5.kp k⟩
/-! the corner in hand -/
section RG
variable {K : Kk} {R : Rr} {M : Mm} {a n : Nat} {l : List Pt} {x y : Int32}
theorem add_ok (hA : rgA K R a n) (h : rgC M a l) (hl : l.length < n) (hn : n < 2 ^ 20) : ∃ M', mX5_add K R M a x y = some M' ∧ rgC M' a (l ++ [(x.toInt, y.toInt)]) ∧ Fr a (a + 3) M M' ∧ M'.2 = M.2 := by
  obtain ⟨h0, h1, h2, h3, h4⟩ := hA
  obtain ⟨g1, g2⟩ := h
  have hc : (nI l.length).toNatClampNeg = l.length := nI_clamp (by omega)
  refine ⟨pI (pI (pI M (a + 1) l.length x) (a + 2) l.length y) a 2 (nI (l.length + 1)), ?_, ⟨?_, fun i p hp => ?_⟩, ((Fr.rf.pI (by omega) (by omega)).pI (by omega) (by omega)).pI (by omega) (by omega), rfl⟩
  · unfold mX5_add
    rw [ck_t h0, h1, bd_s, ck_t (isAr_of h3 (by decide)), alen_of h3, g1, if_pos (nI_lt hl (by omega)), ck_t (ixA_of h3 hl (by omega)), nm_s, h2, bd_s, hc]
    rw [pI_n (show a ≠ a + 1 by omega), g1, ck_t (ixA_of h4 hl (by omega)), nm_s, hc, pI_n (show a ≠ a + 2 by omega), pI_n (show a ≠ a + 1 by omega), g1, nI_1, nm_s]
  · rw [pI_s, List.length_append]; rfl
  · rw [pI_n (show a + 1 ≠ a by omega), pI_n (show a + 1 ≠ a + 2 by omega), pI_n (show a + 2 ≠ a by omega)]
    by_cases hi : i < l.length
    · rw [List.getElem?_append_left hi] at hp
      rw [pI_k (show i ≠ l.length by omega), pI_k (show i ≠ l.length by omega), pI_n (show a + 2 ≠ a + 1 by omega)]
      exact g2 i p hp
    · rw [List.getElem?_append_right (by omega)] at hp
      have hz : i - l.length < 1 := (List.getElem?_eq_some_iff.mp hp).1
      obtain rfl : i = l.length := by omega
      rw [Nat.sub_self] at hp
      cases hp
      exact ⟨by rw [pI_s], by rw [pI_s]⟩
theorem add_full (hA : rgA K R a n) (h : rgC M a l) (hl : n ≤ l.length) (hn : l.length < 2 ^ 31) : mX5_add K R M a x y = some M := by
  obtain ⟨h0, h1, h2, h3, h4⟩ := hA
  unfold mX5_add
  rw [ck_t h0, h1, bd_s, ck_t (isAr_of h3 (by decide)), alen_of h3, h.1, if_neg (nI_nlt hl hn)]
end RG
theorem inv_corner (o : Nat) (K : Kk) (R : Rr) (M : Mm) (a0 a1 : Int32) (hI : Inv o K R M) : ∃ (v : Int64) (M1 : Mm) (M2 : Mm), mX7_corner K R M o a0 a1 = some (v, M1) ∧ mX8_corner K R M1 (o + 2118) a0 a1 = some (v, M2) ∧ Inv o K R M2 := by
  have hI0 := hI
  obtain ⟨hs, hm, S, hw, hc, ho⟩ := hI
  obtain ⟨s0, s1, -, -, -, -, -, -, -, -, -, -, -, -, -, sh, -⟩ := hs
  unfold mX7_corner mX8_corner
  rw [ck_t s0]
  simp only [ck_t hm.1]
  by_cases hb : inB (a0.toInt, a1.toInt)
  · rw [isPlace_t hb, bd_s, if_neg (by decide), s1, bd_s, ck_t sh.1, hc.1.1]
    have hb2 : ∀ M', mX8_isPlace K R M' a0.toInt64 a1.toInt64 = some 1 := fun M' => isPlaceM_t (by rw [i64_int, i64_int]; exact hb)
    simp only [hb2, bd_s, if_neg (show ¬ (1 : Int32) = 0 by decide)]
    by_cases hn : S.1.length < 16
    · rw [if_pos (show nI S.1.length < 16 from nI_lt hn (by decide))]
      obtain ⟨M1, e1, r1, f1, l1⟩ := add_ok (x := a0) (y := a1) sh hc.1 hn (by decide)
      rw [e1, bd_s]
      have hi1 : M1.1 (o + 2118) 12 = nI S.1.length := by rw [(f1 _ (by omega)).1]; exact ho.1
      have hcl : (nI S.1.length).toNatClampNeg = S.1.length := nI_clamp (by omega)
      have h16 : ¬ nI S.1.length = 16 := fun q => by have := (nI_eq (by omega) (by decide : 16 < 2 ^ 31)).mp q; omega
      generalize hM2 : pI (pL (pL M1 (o + 2118 + 9) S.1.length a0.toInt64) (o + 2118 + 10) S.1.length a1.toInt64) (o + 2118) 12 (nI (S.1.length + 1)) = M2
      refine ⟨(nI (S.1.length + 1)).toInt64, M1, M2, ?_, ?_, ?_⟩
      · rw [r1.1, List.length_append]; rfl
      · rw [hi1, if_neg h16, mo_r10 hm, bd_s, ck_t (ixA_of (mo_a10 hm) hn (by decide)), nm_s, hcl, mo_r11 hm, bd_s, pL_i, hi1, ck_t (ixA_of (mo_a11 hm) hn (by decide)), nm_s, hcl, pL_i, pL_i, hi1, nI_1, nm_s, hM2]
        rw [← hM2, pI_s]
      · have hS : WF (S.1 ++ [(a0.toInt, a1.toInt)], S.2) := by
          obtain ⟨w1, w2, w3⟩ := hw
          refine ⟨by simp only [List.length_append, List.length_singleton]; omega, fun i p hp => ?_, w3⟩
          rcases List.mem_append.mp (List.mem_of_getElem? hp) with h | h
          · obtain ⟨j, hj⟩ := List.getElem?_of_mem h
            exact w2 j p hj
          · rw [List.mem_singleton.mp h]; exact hb
        have hk1 : ∀ b, (b < o + 1 ∨ o + 4 ≤ b) → M1.1 b = M.1 b ∧ M1.2 b = M.2 b := fun b hb => f1 b (by omega)
        refine ⟨hI0.1, hm, (S.1 ++ [(a0.toInt, a1.toInt)], S.2), hS, ?_, ?_⟩
        · -- the class: the hand alone has changed
          have f2 : Fr (o + 1) (o + 4) M M2 ∨ True := Or.inr trivial
          have e2 : ∀ b, b < o + 2118 → M2.1 b = M1.1 b ∧ M2.2 b = M1.2 b := fun b hb => by
            rw [← hM2]
            exact ⟨by rw [pI_n (by omega)]; rfl, by rw [pI_l, pL_n (by omega), pL_n (by omega)]⟩
          have f3 : ∀ b, (b < o + 1 ∨ o + 4 ≤ b) → b < o + 2118 → M2.1 b = M.1 b ∧ M2.2 b = M.2 b := fun b h1 h2 => ⟨(e2 b h2).1.trans (hk1 b h1).1, (e2 b h2).2.trans (hk1 b h1).2⟩
          obtain ⟨c1, c2, ⟨g, d, c3, c4, c5, c6⟩, c7⟩ := hc
          obtain ⟨w1, w2, w3, w4, w5, w6, w7⟩ := hw
          have rg : ∀ a l, o + 4 ≤ a → a + 3 ≤ o + 2118 → rgC M a l → rgC M2 a l := fun a l h1 h2 hr => ⟨by rw [(f3 a (by omega) (by omega)).1]; exact hr.1, fun i p hp => by rw [(f3 (a + 1) (by omega) (by omega)).1, (f3 (a + 2) (by omega) (by omega)).1]; exact hr.2 i p hp⟩
          have pc : ∀ a p, o + 4 ≤ a → a + 4 ≤ o + 2118 → pcC M a p → pcC M2 a p := fun a p h1 h2 hp => by
            have e := (f3 a (by omega) (by omega)).1
            exact ⟨rg _ _ (by omega) (by omega) hp.1, by rw [e]; exact hp.2.1, by rw [e]; exact hp.2.2.1, by rw [e]; exact hp.2.2.2.1, by rw [e]; exact hp.2.2.2.2⟩
          have ps : ∀ a ps, o + 4 ≤ a → a + 162 ≤ o + 2118 → ps.length ≤ 40 → psC M a ps → psC M2 a ps := fun a ps h1 h2 hn hp => ⟨by rw [(f3 a (by omega) (by omega)).1]; exact hp.1, fun i p hi => by
            have := (List.getElem?_eq_some_iff.mp hi).1
            exact pc _ _ (by omega) (by omega) (hp.2 i p hi)⟩
          refine ⟨?_, fun k hk => rg _ _ (by omega) (by omega) (c2 k hk), ⟨g, d, c3, by rw [(f3 _ (by omega) (by omega)).1]; exact c4, by rw [(f3 _ (by omega) (by omega)).1]; exact c5, fun i q hq => ?_⟩, fun k hk => ⟨by rw [(f3 _ (by omega) (by omega)).1]; exact (c7 k hk).1, fun q hq => ps _ _ (by omega) (by omega) (w7 k q hk hq).1 ((c7 k hk).2 q hq)⟩⟩
          · refine ⟨by rw [(e2 _ (by omega)).1]; exact r1.1, fun i p hp => ?_⟩
            rw [(e2 (o + 1 + 1) (by omega)).1, (e2 (o + 1 + 2) (by omega)).1]
            exact r1.2 i p hp
          · have hi : i < S.2.2.1.length := (List.getElem?_eq_some_iff.mp hq).1
            have := (c3.2.1 i (by omega)).1
            exact ps _ _ (by show o + 4 ≤ o + 22 + 162 * g i; omega) (by show o + 22 + 162 * g i + 162 ≤ _; omega) (w6 i q hq).1 (c6 i q hq)
        · obtain ⟨h1, h2, h3, h4, h5, h6, h7, h8, h9⟩ := ho
          have ei : ∀ b, b ≠ o + 2118 → o + 2118 ≤ b → M2.1 b = M.1 b := fun b h1 h2 => by rw [← hM2, pI_n h1]; exact (f1 b (by omega)).1
          have el : ∀ b, b ≠ o + 2118 + 9 → b ≠ o + 2118 + 10 → o + 2118 ≤ b → M2.2 b = M.2 b := fun b h1 h2 h3 => by rw [← hM2, pI_l, pL_n h2, pL_n h1]; exact (f1 b (by omega)).2
          have ek : ∀ k, k ≠ 12 → M2.1 (o + 2118) k = M.1 (o + 2118) k := fun k hk => by rw [← hM2, pI_k hk]; exact congrFun (f1 (o + 2118) (by omega)).1 k
          refine ⟨by rw [← hM2, pI_s, List.length_append]; rfl, fun i p hp => ?_, fun k hk => ⟨by rw [ei _ (by omega) (by omega)]; exact (h3 k hk).1, fun i p hp => by rw [el _ (by omega) (by omega) (by omega), el _ (by omega) (by omega) (by omega)]; exact (h3 k hk).2 i p hp⟩, by rw [ek 3 (by decide)]; exact h4, by rw [ek 4 (by decide)]; exact h5, by rw [el _ (by omega) (by omega) (by omega)]; exact h6, by rw [el _ (by omega) (by omega) (by omega)]; exact h7, by rw [el _ (by omega) (by omega) (by omega)]; exact h8, fun k hk => ⟨by rw [ei _ (by omega) (by omega)]; exact (h9 k hk).1, by rw [el _ (by omega) (by omega) (by omega)]; exact (h9 k hk).2⟩⟩
          rw [Nat.zero_add]
          rw [← hM2, pI_l, pL_n (show o + 2118 + 9 ≠ o + 2118 + 10 by omega)]
          by_cases hi : i < S.1.length
          · have hp' : S.1[i]? = some p := by
              have := hp
              simp only at this
              rwa [List.getElem?_append_left hi] at this
            rw [pL_k (show i ≠ S.1.length by omega), pL_k (show i ≠ S.1.length by omega), pL_n (show o + 2118 + 10 ≠ o + 2118 + 9 by omega), l1]
            have := h2 i p hp'
            rwa [Nat.zero_add] at this
          · have hp' : (S.1 ++ [(a0.toInt, a1.toInt)])[i]? = some p := hp
            rw [List.getElem?_append_right (by omega)] at hp'
            have hz : i - S.1.length < 1 := (List.getElem?_eq_some_iff.mp hp').1
            obtain rfl : i = S.1.length := by omega
            rw [Nat.sub_self] at hp'
            cases hp'
            exact ⟨by rw [pL_s, i64_int], by rw [pL_s, i64_int]⟩
    · have h16 : S.1.length = 16 := by have := hw.1; omega
      rw [if_neg (by rw [h16]; decide)]
      refine ⟨_, M, M, rfl, ?_, hI0⟩
      rw [ho.1, h16, if_pos (by decide)]
  · rw [isPlace_f hb, bd_s, if_pos rfl]
    have hb2 : ∀ M', mX8_isPlace K R M' a0.toInt64 a1.toInt64 = some 0 := fun M' => isPlaceM_f (by rw [i64_int, i64_int]; exact hb)
    exact ⟨_, M, M, rfl, by rw [hb2, bd_s, if_pos rfl], hI0⟩
