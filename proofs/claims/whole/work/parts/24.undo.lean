/-! undo, redo -/
theorem redo_ref {K : Kk} {R : Rr} {M : Mm} {m kp un : Nat} (hm : moA K R m) (h3 : M.1 m 3 = nI kp) (h4 : M.1 m 4 = nI (un + 1)) (hk : kp < 6) (hu : un < 6) : ∃ M', mX8_redo K R M m = some ((nI un).toInt64, M') ∧ M'.1 m 3 = nI (kp + 1) ∧ M'.1 m 4 = nI un ∧ (∀ k, k ≠ 3 → k ≠ 4 → M'.1 m k = M.1 m k) ∧ (∀ b, b ≠ m → M'.1 b = M.1 b) ∧ mvS M (M.1, M'.2) m 1481 (m + 2) (m + 3) kp un := by
  have hne : ¬ nI (un + 1) = 0 := nI_ne0 (by omega) (by omega)
  have hL : ∀ (d i : Nat) (s : Int32 × Mm), i + d = 1481 → (s.1 = nI i ∧ mvS M (M.1, s.2.2) m i (m + 2) (m + 3) kp un ∧ s.2.1 = (pI M m 4 (nI un)).1) → ∃ r, lp (mX8_redo_L23 K R m) s = some r ∧ (r.1 = (nI un).toInt64 ∧ r.2.1 = (pI (pI M m 4 (nI un)) m 3 (nI (kp + 1))).1 ∧ mvS M (M.1, r.2.2) m 1481 (m + 2) (m + 3) kp un) := by
    refine lp_ind (fun (i : Nat) (s : Int32 × Mm) => s.1 = nI i ∧ mvS M (M.1, s.2.2) m i (m + 2) (m + 3) kp un ∧ s.2.1 = (pI M m 4 (nI un)).1) _ 1481 ?_ ?_
    · rintro i ⟨j, N⟩ hi ⟨rfl, hv, hN⟩
      refine Or.inl ⟨(nI (i + 1), pL (pL N (m + 2) (1481 * kp + i) (N.2 (m + 1) i)) (m + 1) i (N.2 (m + 3) (1481 * un + i))), ?_, rfl, ?_, hN⟩
      · show mX8_redo_B23 K R m (nI i) N = _
        have hN : N.1 = (pI M m 4 (nI un)).1 := hN
        unfold mX8_redo_B23
        rw [if_pos (show nI i < 1481 from nI_lt (b := 1481) hi (by decide)), mo_r1 hm, bd_s, mo_r0 hm, bd_s, ck_t (ixA_of (mo_a0 hm) hi (by decide)), hN, pI_k (by decide), h3, ixN (by omega) (by omega), ck_t (ixA_of (mo_a1 hm) (by omega) (by decide)), nm_s, mo_r2 hm, bd_s, pL_i, hN, pI_s, ixN (by omega) (by omega), ck_t (ixA_of (mo_a2 hm) (by omega) (by decide)), nm_s, nI_1, nm_s, nI_clamp (by omega), nI_clamp (by omega), nI_clamp (by omega), pL_n (show m + 3 ≠ m + 2 by omega)]
      · have := hv.go (show m + 2 ≠ m + 1 by omega) (show m + 3 ≠ m + 1 by omega) (show m + 3 ≠ m + 2 by omega)
        exact this
    · rintro ⟨j, N⟩ ⟨rfl, hv, hN⟩
      refine ⟨((nI un).toInt64, pI N m 3 (nI (kp + 1))), ?_, rfl, ?_, hv⟩
      · show mX8_redo_B23 K R m (nI 1481) N = _
        have hN : N.1 = (pI M m 4 (nI un)).1 := hN
        unfold mX8_redo_B23
        rw [if_neg (by decide), hN, pI_k (by decide), h3, nI_1, nm_s, pI_k (by decide), hN, pI_s]
        rfl
      · have hN : N.1 = (pI M m 4 (nI un)).1 := hN
        show u2 N.1 m 3 _ = u2 (pI M m 4 (nI un)).1 m 3 _
        rw [hN]
  obtain ⟨r, hr, h1, h2, h5⟩ := hL 1481 0 (nI 0, pI M m 4 (nI un)) rfl ⟨rfl, ⟨rfl, fun _ _ _ => rfl, fun k hk => absurd hk (by omega), fun _ _ => rfl, fun _ _ => rfl⟩, rfl⟩
  refine ⟨r.2, ?_, ?_, ?_, fun k k3 k4 => ?_, fun b hb => ?_, h5⟩
  · unfold mX8_redo
    rw [ck_t hm.1, h4, if_neg hne, nI_pred, nm_s, nm_s]
    have e : lp (mX8_redo_L23 K R m) (0, pI M m 4 (nI un)) = some r := hr
    rw [e, ← h1]
  · rw [h2, pI_s]
  · rw [h2, pI_k (by decide), pI_s]
  · rw [h2, pI_k k3, pI_k k4]
  · rw [h2, pI_n hb, pI_n hb]
theorem undo_cls {K : Kk} {R : Rr} {M : Mm} {o n : Nat} (hs : skC K R o) (h : M.1 (o + 20) 2 = nI (n + 1)) (hn : n < 7) : mX7_undo K R M o = some ((nI n).toInt64, pI M (o + 20) 2 (nI n)) := by
  obtain ⟨s0, -, -, s2, -, -, -, -, -, -, -, -, -, -, -, -, -, -, sh, -⟩ := hs
  unfold mX7_undo mX1_stepBack mX1_kept
  rw [ck_t s0, s2, bd_s, ck_t sh.1, ck_t sh.1, h, if_neg (nI_ne0 (by omega) (by omega)), nI_pred, nm_s, bd2_s, if_neg (by decide), ck_t sh.1, bd_s, pI_s]
theorem undo_cls0 {K : Kk} {R : Rr} {M : Mm} {o : Nat} (hs : skC K R o) (h : M.1 (o + 20) 2 = nI 0) : mX7_undo K R M o = some (-9000000000000000002, M) := by
  obtain ⟨s0, -, -, s2, -, -, -, -, -, -, -, -, -, -, -, -, -, -, sh, -⟩ := hs
  unfold mX7_undo mX1_stepBack mX1_kept
  rw [ck_t s0, s2, bd_s, ck_t sh.1, ck_t sh.1, h, if_pos (by decide), bd2_s, if_pos rfl]
theorem redo_cls {K : Kk} {R : Rr} {M : Mm} {o n u : Nat} (hs : skC K R o) (h : M.1 (o + 20) 2 = nI n) (h2 : M.1 (o + 20) 3 = nI (n + 1 + u)) (hn : n + 1 + u < 7) : mX7_redo K R M o = some ((nI u).toInt64, pI M (o + 20) 2 (nI (n + 1))) := by
  obtain ⟨s0, -, -, s2, -, -, -, -, -, -, -, -, -, -, -, -, -, -, sh, -⟩ := hs
  unfold mX7_redo mX1_stepOn mX1_undone
  rw [ck_t s0, s2, bd_s, ck_t sh.1, ck_t sh.1, h, h2, if_pos (nI_lt (by omega) (by omega)), nI_1, nm_s, bd2_s, if_neg (by decide), ck_t sh.1, bd_s, pI_k (by decide), h2, pI_s, pk_sub (by omega), show n + 1 + u - (n + 1) = u by omega]
theorem redo_cls0 {K : Kk} {R : Rr} {M : Mm} {o n : Nat} (hs : skC K R o) (h : M.1 (o + 20) 2 = nI n) (h2 : M.1 (o + 20) 3 = nI n) (hn : n < 7) : mX7_redo K R M o = some (-9000000000000000002, M) := by
  obtain ⟨s0, -, -, s2, -, -, -, -, -, -, -, -, -, -, -, -, -, -, sh, -⟩ := hs
  unfold mX7_redo mX1_stepOn mX1_undone
  rw [ck_t s0, s2, bd_s, ck_t sh.1, ck_t sh.1, h, h2, if_neg (nI_nlt (Nat.le_refl _) (by omega)), bd2_s, if_pos rfl]
/-- the class's step to another time, the reference's move of the pieces: one state -/
theorem inv_time {o : Nat} {K : Kk} {R : Rr} {M M2 : Mm} {S : Sx} {now' : Nat} (hs : skC K R o) (hm : moA K R (o + 2118)) (hw : WF S) (hc : clC R M o S) (ho : moC M (o + 2118) S) (hn : now' < S.2.2.1.length)
    (e1 : ∀ b, b < o + 2118 → b ≠ o + 20 → M2.1 b = M.1 b ∧ M2.2 b = M.2 b) (e2 : ∀ k, k ≠ 2 → M2.1 (o + 20) k = M.1 (o + 20) k) (e3 : M2.1 (o + 20) 2 = nI now') (e4 : M2.2 (o + 20) = M.2 (o + 20))
    (f1 : ∀ b, o + 2122 ≤ b → M2.1 b = M.1 b ∧ M2.2 b = M.2 b) (f2 : M2.1 (o + 2118) 12 = M.1 (o + 2118) 12) (f3 : moH M2 (o + 2118) S.2.2.1 now') : Inv o K R M2 := by
  refine ⟨hs, hm, (S.1, S.2.1, S.2.2.1, now', S.2.2.2.2), hw.hist hn hw.2.2.2.2.1 hw.2.2.2.2.2.1, ?_, ?_⟩
  · refine hc.hist hw (fun b hb => e1 b (by omega) (by omega)) ?_ rfl rfl rfl
    obtain ⟨g, d, h3, h4, h5, h6⟩ := hc.2.2.1
    refine ⟨g, d, h3, e3, by rw [e2 3 (by decide)]; exact h5, fun i q hq => ?_⟩
    have h40 := (hw.2.2.2.2.2.1 i q hq).1
    have hi : i < S.2.2.1.length := (List.getElem?_eq_some_iff.mp hq).1
    have h7 := hw.2.2.2.2.1
    have hg := (h3.2.1 i (by omega)).1
    have hc2 : o + 22 ≤ cont o (g i) ∧ cont o (g i) + 162 ≤ o + 2118 := ⟨by show o + 22 ≤ o + 22 + 162 * g i; omega, by show o + 22 + 162 * g i + 162 ≤ _; omega⟩
    obtain ⟨p1, p2⟩ := h6 i q hq
    refine ⟨by rw [(e1 _ (by omega) (by omega)).1]; exact p1, fun j p hp => ?_⟩
    have hj := (List.getElem?_eq_some_iff.mp hp).1
    obtain ⟨⟨a1, a6⟩, a2, a3, a4, a5⟩ := p2 j p hp
    have ee : ∀ x, o + 22 ≤ x → x < o + 2118 → M2.1 x = M.1 x := fun x hx hx2 => (e1 x (by omega) (by omega)).1
    exact ⟨⟨by rw [ee _ (by omega) (by omega)]; exact a1, fun x y hxy => by rw [ee _ (by omega) (by omega), ee _ (by omega) (by omega)]; exact a6 x y hxy⟩, by rw [ee _ (by omega) (by omega)]; exact a2, by rw [ee _ (by omega) (by omega)]; exact a3, by rw [ee _ (by omega) (by omega)]; exact a4, by rw [ee _ (by omega) (by omega)]; exact a5⟩
  · exact moC_split.mpr ⟨(moC_split.mp ho).1.fr f2 (fun b h1 h2 => f1 b (by omega)) rfl rfl rfl, f3⟩
theorem inv_undo (o : Nat) (K : Kk) (R : Rr) (M : Mm) (hI : Inv o K R M) : ∃ (v : Int64) (M1 : Mm) (M2 : Mm), mX7_undo K R M o = some (v, M1) ∧ mX8_undo K R M1 (o + 2118) = some (v, M2) ∧ Inv o K R M2 := by
  have hI0 := hI
  obtain ⟨hs, hm, S, hw, hc, ho⟩ := hI
  have hr := moC_split.mp ho
  obtain ⟨k3, k4, q6, q7, q8⟩ := hr.2
  obtain ⟨g, d, h3, h4, h5, h6⟩ := hc.2.2.1
  have hlen := hw.2.2.2.2.1
  have hnow := hw.2.2.2.1
  cases hn : S.2.2.2.1 with
  | zero =>
    rw [hn] at h4 k3
    exact ⟨_, M, M, undo_cls0 hs h4, by unfold mX8_undo; rw [ck_t hm.1, k3, if_pos (by decide)], hI0⟩
  | succ n =>
    rw [hn] at h4 k3 k4 q6 q7 q8 hnow
    have e := undo_cls hs h4 (by omega)
    have k3' : (pI M (o + 20) 2 (nI n)).1 (o + 2118) 3 = nI (n + 1) := by rw [pI_n (by omega)]; exact k3
    have k4' : (pI M (o + 20) 2 (nI n)).1 (o + 2118) 4 = nI (S.2.2.1.length - 1 - (n + 1)) := by rw [pI_n (by omega)]; exact k4
    obtain ⟨M2, r1, r2, r3, r4, r5, r6⟩ := undo_ref hm k3' k4' (by omega) (by omega)
    obtain ⟨-, v2, v3, v4, v5⟩ := r6
    have v2 : ∀ b, b ≠ o + 2118 + 1 → b ≠ o + 2118 + 3 → M2.2 b = M.2 b := v2
    refine ⟨_, _, M2, e, r1, inv_time (now' := n) hs hm hw hc ho (by omega) (fun b h1 h2 => ⟨by rw [r5 b (by omega), pI_n h2], v2 b (by omega) (by omega)⟩) (fun k hk => by rw [r5 _ (by omega), pI_k hk]) (by rw [r5 _ (by omega), pI_s]) (v2 _ (by omega) (by omega)) (fun b h1 => ⟨by rw [r5 b (by omega), pI_n (by omega)], v2 b (by omega) (by omega)⟩) (by rw [r4 12 (by decide) (by decide), pI_n (by omega)]) ⟨r2, ?_, fun ps hp => ?_, fun i ps hi hp => ?_, fun j ps hj hp => ?_⟩⟩
    · rw [r3]; congr 1; omega
    · refine (q7 n ps (by omega) hp).eq (hw.2.2.2.2.2.1 n ps hp) (fun k hk => ?_)
      rw [Nat.zero_add]
      exact (v3 k hk).2
    · rw [show M2.2 (o + 2118 + 2) = M.2 (o + 2118 + 2) from v2 _ (by omega) (by omega)]
      exact q7 i ps (by omega) hp
    · by_cases hjn : n + 1 < S.2.2.1.length - 1 - j
      · refine (q8 j ps hjn hp).eq (hw.2.2.2.2.2.1 _ ps hp) (fun k hk => ?_)
        exact v5 _ (by omega)
      · have hj2 : S.2.2.1.length - 1 - j = n + 1 := by omega
        have hj3 : j = S.2.2.1.length - 1 - (n + 1) := by omega
        rw [hj2] at hp
        refine (q6 ps hp).eq (hw.2.2.2.2.2.1 _ ps hp) (fun k hk => ?_)
        rw [Nat.zero_add, hj3]
        exact (v3 k hk).1
theorem inv_redo (o : Nat) (K : Kk) (R : Rr) (M : Mm) (hI : Inv o K R M) : ∃ (v : Int64) (M1 : Mm) (M2 : Mm), mX7_redo K R M o = some (v, M1) ∧ mX8_redo K R M1 (o + 2118) = some (v, M2) ∧ Inv o K R M2 := by
  have hI0 := hI
  obtain ⟨hs, hm, S, hw, hc, ho⟩ := hI
  have hr := moC_split.mp ho
  obtain ⟨k3, k4, q6, q7, q8⟩ := hr.2
  obtain ⟨g, d, h3, h4, h5, h6⟩ := hc.2.2.1
  have hlen := hw.2.2.2.2.1
  have hnow := hw.2.2.2.1
  by_cases hu : S.2.2.1.length - 1 - S.2.2.2.1 = 0
  · rw [hu] at k4
    have hl : S.2.2.1.length - 1 = S.2.2.2.1 := by omega
    rw [hl] at h5
    exact ⟨_, M, M, redo_cls0 hs h4 h5 (by omega), by unfold mX8_redo; rw [ck_t hm.1, k4, if_pos (by decide)], hI0⟩
  · obtain ⟨u, hu2⟩ : ∃ u, S.2.2.1.length - 1 - S.2.2.2.1 = u + 1 := ⟨_, (Nat.succ_pred hu).symm⟩
    rw [hu2] at k4
    have hl : S.2.2.1.length - 1 = S.2.2.2.1 + 1 + u := by omega
    rw [hl] at h5
    have e := redo_cls hs h4 h5 (by omega)
    generalize hnn : S.2.2.2.1 = n at *
    have k3' : (pI M (o + 20) 2 (nI (n + 1))).1 (o + 2118) 3 = nI n := by rw [pI_n (by omega)]; exact k3
    have k4' : (pI M (o + 20) 2 (nI (n + 1))).1 (o + 2118) 4 = nI (u + 1) := by rw [pI_n (by omega)]; exact k4
    obtain ⟨M2, r1, r2, r3, r4, r5, r6⟩ := redo_ref hm k3' k4' (by omega) (by omega)
    obtain ⟨-, v2, v3, v4, v5⟩ := r6
    have v2 : ∀ b, b ≠ o + 2118 + 1 → b ≠ o + 2118 + 2 → M2.2 b = M.2 b := v2
    refine ⟨_, _, M2, e, r1, inv_time (now' := n + 1) hs hm hw hc ho (by omega) (fun b h1 h2 => ⟨by rw [r5 b (by omega), pI_n h2], v2 b (by omega) (by omega)⟩) (fun k hk => by rw [r5 _ (by omega), pI_k hk]) (by rw [r5 _ (by omega), pI_s]) (v2 _ (by omega) (by omega)) (fun b h1 => ⟨by rw [r5 b (by omega), pI_n (by omega)], v2 b (by omega) (by omega)⟩) (by rw [r4 12 (by decide) (by decide), pI_n (by omega)]) ⟨r2, ?_, fun ps hp => ?_, fun i ps hi hp => ?_, fun j ps hj hp => ?_⟩⟩
    · rw [r3]; congr 1; omega
    · have hj : S.2.2.1.length - 1 - u = n + 1 := by omega
      have hp2 := hp
      rw [← hj] at hp2
      refine (q8 u ps (by omega) hp2).eq (hw.2.2.2.2.2.1 _ ps hp) (fun k hk => ?_)
      rw [Nat.zero_add]
      exact (v3 k hk).2
    · by_cases hin : i < n
      · refine (q7 i ps hin hp).eq (hw.2.2.2.2.2.1 _ ps hp) (fun k hk => ?_)
        exact v5 _ (by omega)
      · obtain rfl : i = n := by omega
        refine (q6 ps hp).eq (hw.2.2.2.2.2.1 _ ps hp) (fun k hk => ?_)
        rw [Nat.zero_add]
        exact (v3 k hk).1
    · rw [show M2.2 (o + 2118 + 3) = M.2 (o + 2118 + 3) from v2 _ (by omega) (by omega)]
      exact q8 j ps (by omega) hp
