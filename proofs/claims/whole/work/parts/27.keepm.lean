/-! the reference keeps a change -/
theorem keepM_J {K : Kk} {R : Rr} {N : Mm} {m k : Nat} (hm : moA K R m) (h3 : N.1 m 3 = nI k) (hk : k < 6) : ∃ M', mX8_keep_J50 K R N m = some M' ∧ M'.1 = (pI (pI N m 3 (nI (k + 1))) m 4 0).1 ∧ (∀ b, b ≠ m + 2 → M'.2 b = N.2 b) ∧ (∀ j, j < 1481 → M'.2 (m + 2) (1481 * k + j) = N.2 (m + 1) j) ∧ ∀ j, j < 1481 * k → M'.2 (m + 2) j = N.2 (m + 2) j := by
  have hL := lp_ind (f := mX8_keep_L52 K R m) (fun (i : Nat) (s : Int32 × Mm) => s.1 = nI i ∧ s.2.1 = N.1 ∧ (∀ b, b ≠ m + 2 → s.2.2 b = N.2 b) ∧ (∀ j, j < i → s.2.2 (m + 2) (1481 * k + j) = N.2 (m + 1) j) ∧ ∀ j, j < 1481 * k → s.2.2 (m + 2) j = N.2 (m + 2) j) (fun M' => M'.1 = (pI (pI N m 3 (nI (k + 1))) m 4 0).1 ∧ (∀ b, b ≠ m + 2 → M'.2 b = N.2 b) ∧ (∀ j, j < 1481 → M'.2 (m + 2) (1481 * k + j) = N.2 (m + 1) j) ∧ ∀ j, j < 1481 * k → M'.2 (m + 2) j = N.2 (m + 2) j) 1481 ?_ ?_
  · obtain ⟨M', e1, e2⟩ := hL 1481 0 (nI 0, N) rfl ⟨rfl, rfl, fun _ _ => rfl, fun j hj => absurd hj (by omega), fun _ _ => rfl⟩
    refine ⟨M', ?_, e2⟩
    unfold mX8_keep_J50
    rw [nm_s]
    exact e1
  · rintro i ⟨x, N2⟩ hi ⟨rfl, f1, f2, f3, f4⟩
    have f1 : N2.1 = N.1 := f1
    have f2 : ∀ b, b ≠ m + 2 → N2.2 b = N.2 b := f2
    have f3 : ∀ j, j < i → N2.2 (m + 2) (1481 * k + j) = N.2 (m + 1) j := f3
    have f4 : ∀ j, j < 1481 * k → N2.2 (m + 2) j = N.2 (m + 2) j := f4
    refine Or.inl ⟨(nI (i + 1), pL N2 (m + 2) (1481 * k + i) (N2.2 (m + 1) i)), ?_, rfl, f1, fun b hb => ?_, fun j hj => ?_, fun j hj => ?_⟩
    · show mX8_keep_B52 K R m (nI i) N2 = _
      unfold mX8_keep_B52
      rw [if_pos (show nI i < 1481 from nI_lt (b := 1481) hi (by decide)), mo_r1 hm, bd_s, mo_r0 hm, bd_s, ck_t (ixA_of (mo_a0 hm) hi (by decide)), f1, h3, ixN (by omega) (by omega), ck_t (ixA_of (mo_a1 hm) (by omega) (by decide)), nm_s, nI_1, nm_s, nI_clamp (by omega), nI_clamp (by omega)]
    · show (pL N2 (m + 2) _ _).2 b = _
      rw [pL_n hb]; exact f2 b hb
    · show (pL N2 (m + 2) _ _).2 (m + 2) _ = _
      by_cases hji : j = i
      · subst hji; rw [pL_s, f2 _ (by omega)]
      · rw [pL_k (by omega)]; exact f3 j (by omega)
    · show (pL N2 (m + 2) _ _).2 (m + 2) _ = _
      rw [pL_k (by omega)]; exact f4 j hj
  · rintro ⟨x, N2⟩ ⟨rfl, f1, f2, f3, f4⟩
    have f1 : N2.1 = N.1 := f1
    refine ⟨pI (pI N2 m 3 (nI (k + 1))) m 4 0, ?_, ?_, f2, f3, f4⟩
    · show mX8_keep_B52 K R m (nI 1481) N2 = _
      unfold mX8_keep_B52
      rw [if_neg (by decide), f1, h3, nI_1, nm_s, nm_s]
      rfl
    · show u2 (u2 N2.1 m 3 _) m 4 _ = u2 (u2 N.1 m 3 _) m 4 _
      rw [f1]
theorem keepM_ok {K : Kk} {R : Rr} {M : Mm} {m now : Nat} {hs : List (List Pc)} (hm : moA K R m) (h : moH M m hs now) (hl : now < hs.length) (h7 : hs.length ≤ 7) (hw : ∀ (i : Nat) q, hs[i]? = some q → isPs q) : ∃ M', mX8_keep K R M m = some M' ∧ M'.1 m 3 = nI (nowH now) ∧ M'.1 m 4 = nI 0 ∧ (∀ k, k ≠ 3 → k ≠ 4 → M'.1 m k = M.1 m k) ∧ (∀ b, b ≠ m → M'.1 b = M.1 b) ∧ (∀ b, b ≠ m + 2 → M'.2 b = M.2 b) ∧ ∀ (i : Nat) q, i < nowH now → hs[if now = 6 then i + 1 else i]? = some q → psM (M'.2 (m + 2)) (1481 * i) q := by
  obtain ⟨k3, k4, q6, q7, q8⟩ := h
  by_cases h6 : now = 6
  · subst h6
    have hL := lp_ind (f := mX8_keep_L11 K R m) (fun (i : Nat) (s : Int32 × Mm) => s.1 = nI i ∧ s.2.1 = M.1 ∧ (∀ b, b ≠ m + 2 → s.2.2 b = M.2 b) ∧ (∀ j, j < i → s.2.2 (m + 2) j = M.2 (m + 2) (j + 1481)) ∧ ∀ j, i ≤ j → s.2.2 (m + 2) j = M.2 (m + 2) j) (fun M' => M'.1 = (pI (pI (pI M m 3 (nI 5)) m 3 (nI 6)) m 4 0).1 ∧ (∀ b, b ≠ m + 2 → M'.2 b = M.2 b) ∧ (∀ j, j < 1481 → M'.2 (m + 2) (7405 + j) = M.2 (m + 1) j) ∧ ∀ j, j < 7405 → M'.2 (m + 2) j = M.2 (m + 2) (j + 1481)) 7405 ?_ ?_
    · obtain ⟨M', e1, e2, e3, e4, e5⟩ := hL 7405 0 (nI 0, M) rfl ⟨rfl, rfl, fun _ _ => rfl, fun j hj => absurd hj (by omega), fun _ _ => rfl⟩
      refine ⟨M', ?_, ?_, ?_, fun k h3 h4 => ?_, fun b hb => ?_, e3, fun i q hi hq => ?_⟩
      · unfold mX8_keep
        rw [ck_t hm.1, k3, if_pos (by decide), nm_s]
        exact e1
      · rw [e2, pI_k (by decide), pI_s]; rfl
      · rw [e2, pI_s]; rfl
      · rw [e2, pI_k h4, pI_k h3, pI_k h3]
      · rw [e2, pI_n hb, pI_n hb, pI_n hb]
      · rw [if_pos rfl] at hq
        have hi : i < 6 := hi
        by_cases hi5 : i < 5
        · refine (q7 (i + 1) q (by omega) hq).eq (hw _ q hq) (fun k hk => ?_)
          rw [e5 _ (by omega), show 1481 * i + k + 1481 = 1481 * (i + 1) + k by omega]
        · obtain rfl : i = 5 := by omega
          refine (q6 q hq).eq (hw _ q hq) (fun k hk => ?_)
          rw [Nat.zero_add]
          exact e4 k hk
    · rintro i ⟨x, N⟩ hi ⟨rfl, f1, f2, f3, f4⟩
      have f1 : N.1 = M.1 := f1
      have f2 : ∀ b, b ≠ m + 2 → N.2 b = M.2 b := f2
      have f3 : ∀ j, j < i → N.2 (m + 2) j = M.2 (m + 2) (j + 1481) := f3
      have f4 : ∀ j, i ≤ j → N.2 (m + 2) j = M.2 (m + 2) j := f4
      refine Or.inl ⟨(nI (i + 1), pL N (m + 2) i (N.2 (m + 2) (i + 1481))), ?_, rfl, f1, fun b hb => ?_, fun j hj => ?_, fun j hj => ?_⟩
      · show mX8_keep_B11 K R m (nI i) N = _
        unfold mX8_keep_B11
        rw [if_pos (show nI i < 7405 from nI_lt (b := 7405) hi (by decide)), mo_r1 hm, bd_s, show nI i + 1481 = nI (i + 1481) from nI_add i 1481, ck_t (ixA_of (mo_a1 hm) (by omega) (by decide)), ck_t (ixA_of (mo_a1 hm) (by omega) (by decide)), nm_s, nI_1, nm_s, nI_clamp (by omega), nI_clamp (by omega)]
      · show (pL N (m + 2) _ _).2 b = _
        rw [pL_n hb]; exact f2 b hb
      · show (pL N (m + 2) _ _).2 (m + 2) j = _
        by_cases hji : j = i
        · subst hji; rw [pL_s, f4 _ (by omega)]
        · rw [pL_k hji]; exact f3 j (by omega)
      · show (pL N (m + 2) _ _).2 (m + 2) j = _
        rw [pL_k (by omega)]; exact f4 j (by omega)
    · rintro ⟨x, N⟩ ⟨rfl, f1, f2, f3, f4⟩
      have f1 : N.1 = M.1 := f1
      have f2 : ∀ b, b ≠ m + 2 → N.2 b = M.2 b := f2
      have f3 : ∀ j, j < 7405 → N.2 (m + 2) j = M.2 (m + 2) (j + 1481) := f3
      obtain ⟨M', g1, g2, g3, g4, g5⟩ := keepM_J (N := pI N m 3 (nI 5)) hm pI_s (by decide)
      refine ⟨M', ?_, ?_, fun b hb => (g3 b hb).trans (f2 b hb), fun j hj => ?_, fun j hj => ?_⟩
      · show mX8_keep_B11 K R m (nI 7405) N = _
        unfold mX8_keep_B11
        rw [if_neg (by decide), f1, k3, show nI 6 - 1 = nI 5 from rfl, nm_s, g1]
        rfl
      · rw [g2]
        show u2 (u2 (u2 N.1 m 3 _) m 3 _) m 4 _ = u2 (u2 (u2 M.1 m 3 _) m 3 _) m 4 _
        rw [f1]
      · have := g4 j hj
        rw [show 7405 + j = 1481 * 5 + j by omega, this]
        show N.2 (m + 1) j = _
        rw [f2 _ (by omega)]
      · rw [g5 j (by omega)]; exact f3 j hj
  · have hne : ¬ nI now = 6 := fun q => h6 ((nI_eq (by omega) (by decide : 6 < 2 ^ 31)).mp q)
    obtain ⟨M', g1, g2, g3, g4, g5⟩ := keepM_J (N := M) hm k3 (by omega)
    have hnh : nowH now = now + 1 := if_neg h6
    refine ⟨M', ?_, ?_, ?_, fun k h3 h4 => ?_, fun b hb => ?_, g3, fun i q hi hq => ?_⟩
    · unfold mX8_keep
      rw [ck_t hm.1, k3, if_neg hne]
      exact g1
    · rw [g2, pI_k (by decide), pI_s, hnh]
    · rw [g2, pI_s]; rfl
    · rw [g2, pI_k h4, pI_k h3]
    · rw [g2, pI_n hb, pI_n hb]
    · rw [hnh] at hi
      rw [if_neg h6] at hq
      by_cases hi5 : i < now
      · refine (q7 i q hi5 hq).eq (hw _ q hq) (fun k hk => g5 _ (by omega))
      · obtain rfl : i = now := by omega
        refine (q6 q hq).eq (hw _ q hq) (fun k hk => ?_)
        rw [Nat.zero_add]
        exact g4 k hk
/-- a change that both sides have kept, with the same pieces then -/
theorem inv_change {o : Nat} {K : Kk} {R R1 : Rr} {M M1 M2 : Mm} {S : Sx} {ps : List Pc} {f : Nat → Nat} {d : Nat} (hs : skC K R o) (hm : moA K R (o + 2118)) (hw : WF S) (hc : clC R M o S) (ho : moC M (o + 2118) S) (hps : isPs ps)
    (hx : hiX R1 M1 o (pushH S.2.2.1 S.2.2.2.1 ps) (nowH S.2.2.2.1) f d) (hr : Rh o R R1) (e1 : ∀ b, b < o + 20 ∨ (o + 1318 ≤ b ∧ b < o + 1968) → M1.1 b = M.1 b ∧ M1.2 b = M.2 b)
    (e2 : ∀ b, b < o + 1968 → M2.1 b = M1.1 b ∧ M2.2 b = M1.2 b) (e3 : ∀ b, o + 2118 + 4 ≤ b → b < o + 2118 + 11 → M2.1 b = M.1 b ∧ M2.2 b = M.2 b) (e4 : M2.1 (o + 2118) 12 = M.1 (o + 2118) 12)
    (e5 : M2.1 (o + 2118) 3 = nI (nowH S.2.2.2.1)) (e6 : M2.1 (o + 2118) 4 = nI 0) (e7 : psM (M2.2 (o + 2118 + 1)) 0 ps) (e8 : ∀ (i : Nat) q, i < nowH S.2.2.2.1 → S.2.2.1[if S.2.2.2.1 = 6 then i + 1 else i]? = some q → psM (M2.2 (o + 2118 + 2)) (1481 * i) q) : Inv o K R1 M2 := by
  obtain ⟨w1, w2, w3, w4, w5, w6, w7⟩ := hw
  have hlen := pushH_len (ps := ps) w4 w5
  have hn7 : nowH S.2.2.2.1 ≤ 6 := by unfold nowH; split <;> omega
  refine ⟨hs.rh hr, hm.rh hr, (S.1, S.2.1, pushH S.2.2.1 S.2.2.2.1 ps, nowH S.2.2.2.1, S.2.2.2.2), ?_, ?_, ?_⟩
  · exact WF.hist ⟨w1, w2, w3, w4, w5, w6, w7⟩ (by omega) (by omega) (pushH_all w4 w5 hps w6)
  · refine hc.hist ⟨w1, w2, w3, w4, w5, w6, w7⟩ (fun b hb => ⟨(e2 b (by omega)).1.trans (e1 b hb).1, (e2 b (by omega)).2.trans (e1 b hb).2⟩) ?_ rfl rfl rfl
    have := hx.fr (M' := M2) (by omega) (fun i q hq => (pushH_all w4 w5 hps w6 i q hq).fit) (fun b hb _ => (e2 b (by omega)).1)
    obtain ⟨x1, x2, x3, x4⟩ := this
    exact ⟨f, d, x1, x2, x3, x4⟩
  · refine moC_split.mpr ⟨(moC_split.mp ho).1.fr e4 (fun b h1 h2 => e3 b h1 h2) rfl rfl rfl, e5, ?_, fun q hq => ?_, fun i q hi hq => ?_, fun j q hj hq => ?_⟩
    · rw [e6]; show nI 0 = nI ((pushH S.2.2.1 S.2.2.2.1 ps).length - 1 - nowH S.2.2.2.1); rw [hlen]; congr 1; omega
    · have := (pushH_last (ps := ps) w4 w5).symm.trans hq
      cases this; exact e7
    · have hq2 : (pushH S.2.2.1 S.2.2.2.1 ps)[i]? = some q := hq
      rw [pushH_at w4 w5 hi] at hq2
      exact e8 i q hi hq2
    · have hj2 : nowH S.2.2.2.1 < (pushH S.2.2.1 S.2.2.2.1 ps).length - 1 - j := hj
      rw [hlen] at hj2
      omega
