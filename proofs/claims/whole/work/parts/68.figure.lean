/-! figure told alike -/
section FX
variable {K : Kk} {R : Rr} {M : Mm}
theorem rgC.ev {M' : Mm} {a : Nat} {l : List Pt} (h : rgC M a l) (e : ∀ b, a ≤ b → b < a + 3 → M'.1 b = M.1 b) : rgC M' a l := by
  refine ⟨by rw [e a (by omega) (by omega)]; exact h.1, fun i p hp => ?_⟩
  rw [e (a + 1) (by omega) (by omega), e (a + 2) (by omega) (by omega)]
  exact h.2 i p hp
theorem pcC.ev {M' : Mm} {a : Nat} {P : Pc} (h : pcC M a P) (e : ∀ b, a ≤ b → b < a + 4 → M'.1 b = M.1 b) : pcC M' a P := by
  obtain ⟨h1, h2, h3, h4, h5⟩ := h
  have e0 := e a (by omega) (by omega)
  exact ⟨h1.ev (fun b b1 b2 => e b (by omega) (by omega)), by rw [e0]; exact h2, by rw [e0]; exact h3, by rw [e0]; exact h4, by rw [e0]; exact h5⟩
theorem psC.ev {M' : Mm} {a : Nat} {ps : List Pc} (h : psC M a ps) (hn : ps.length ≤ 40) (e : ∀ b, a ≤ b → b < a + 162 → M'.1 b = M.1 b) : psC M' a ps := by
  refine ⟨by rw [e a (by omega) (by omega)]; exact h.1, fun i p hp => ?_⟩
  have hi := get_lt hp
  exact (h.2 i p hp).ev (fun b b1 b2 => e b (by omega) (by omega))
theorem inv_figs {o : Nat} {M2 : Mm} {S : Sx} {F : Nat → List Pt} (hs : skC K R o) (hm : moA K R (o + 2118)) (hw : WF S) (hc : clC R M o S) (ho : moC M (o + 2118) S) (c1 : rgC M2 (o + 1) []) (c2 : ∀ j, j < 5 → rgC M2 (o + 5 + 3 * j) (F j)) (e : ∀ b, o + 20 ≤ b → b < o + 1968 → M2.1 b = M.1 b) (m1 : M2.1 (o + 2118) 12 = 0) (m2 : ∀ j, j < 5 → fgM M2 (o + 2118) j (F j)) (k3 : M2.1 (o + 2118) 3 = M.1 (o + 2118) 3) (k4 : M2.1 (o + 2118) 4 = M.1 (o + 2118) 4) (e5 : M2.1 (o + 2118 + 5) = M.1 (o + 2118 + 5)) (ea : ∀ j, 1 ≤ j → j ≤ 4 → M2.2 (o + 2118 + j) = M.2 (o + 2118 + j)) (hF : ∀ j, j < 5 → F j = [] ∨ isRg (F j)) : Inv o K R M2 := by
  obtain ⟨w1, w2, w3, w4, w5, w6, w7⟩ := hw
  obtain ⟨d1, d2, ⟨g, d, d3, d4, d5, d6⟩, d7⟩ := hc
  obtain ⟨h1, h2, h3, h4, h5, h6, h7, h8, h9⟩ := ho
  refine ⟨hs, hm, ([], F, S.2.2), ⟨by simp, fun i p hp => by simp at hp, hF, w4, w5, w6, w7⟩, ⟨c1, c2, ⟨g, d, d3, by rw [e _ (by omega) (by omega)]; exact d4, by rw [e _ (by omega) (by omega)]; exact d5, fun i q hq => ?_⟩, fun k hk => ⟨by rw [e _ (by omega) (by omega)]; exact (d7 k hk).1, fun q hq => ((d7 k hk).2 q hq).ev (w7 k q hk hq).1 (fun b b1 b2 => e b (by omega) (by omega))⟩⟩, ?_⟩
  · have hi : i < S.2.2.1.length := get_lt hq
    have := (d3.2.1 i (by omega)).1
    exact (d6 i q hq).ev (w6 i q hq).1 (fun b b1 b2 => e b (by show o + 20 ≤ b; have : o + 22 + 162 * g i ≤ b := b1; omega) (by have : b < o + 22 + 162 * g i + 162 := b2; omega))
  · refine ⟨m1, fun i p hp => by simp at hp, m2, by rw [k3]; exact h4, by rw [k4]; exact h5, by rw [ea 1 (by omega) (by omega)]; exact h6, by rw [ea 2 (by omega) (by omega)]; exact h7, by rw [ea 3 (by omega) (by omega)]; exact h8, fun k hk => ⟨by rw [e5]; exact (h9 k hk).1, by rw [ea 4 (by omega) (by omega)]; exact (h9 k hk).2⟩⟩
theorem outermost_0 {m : Nat} (hm : moA K R m) (h : M.1 m 21 = nI 0) : mX8_outermost K R M m = some (pI M m 24 0) := by
  have h0 := hm.1
  have e : (pI M m 24 0).1 m 21 = nI 0 := by rw [pI_k (by decide)]; exact h
  unfold mX8_outermost
  (repeat (first | rw [ck_t (by first | with_reducible assumption | ((with_reducible apply ixA_of); (with_reducible assumption); omega; omega) | ((with_reducible apply isAr_of); (with_reducible assumption); decide) | ((with_reducible apply nI_ne0); omega; omega) | with_reducible exact isB_0 | with_reducible exact isB_1 | with_reducible exact isB_bI _)] | rw [bd_r (by with_reducible assumption)] | rw [bd_s] | rw [bd2_s] | rw [bd3_s] | rw [nm_s] | rw [nI_clamp (by omega)] | rw [nI_1] | rw [e] | rw [if_pos (show nI 0 = 0 from rfl)] | rw [if_pos (by first | with_reducible assumption | ((with_reducible refine nI_lt ?_ ?_); omega; omega) | ((with_reducible refine nI_nlt ?_ ?_); omega; omega) | with_reducible exact ne10 | with_reducible rfl)] | rw [if_neg (by first | with_reducible assumption | ((with_reducible refine nI_lt ?_ ?_); omega; omega) | ((with_reducible refine nI_nlt ?_ ?_); omega; omega) | with_reducible exact ne10 | with_reducible rfl)]))
theorem figM_loop {m k : Nat} {L : List Pt} (hm : moA K R m) (h : rM M m 24 17 18 L) (hL : L.length ≤ 16) (hk : k < 5) : ∃ M', lp (mX8_figure_L122 K R m (nI k)) (0, M) = some ((nI L.length).toInt64, M') ∧ ptM M' (m + 6) (m + 7) (16 * k) L ∧ (∀ j, (j < 16 * k ∨ 16 * k + 16 ≤ j) → M'.2 (m + 6) j = M.2 (m + 6) j ∧ M'.2 (m + 7) j = M.2 (m + 7) j) ∧ FM m [] [6, 7] M M' := by
  have r7 := mo_r7 hm
  have r8 := mo_r8 hm
  have a7 := mo_a7 hm
  have a8 := mo_a8 hm
  have r22 := mo_r22 hm
  have r23 := mo_r23 hm
  have a22 := mo_a22 hm
  have a23 := mo_a23 hm
  have hW := lp_ind (f := mX8_figure_L122 K R m (nI k)) (fun (i : Nat) (s : Int32 × Mm) => s.1 = nI i ∧ (∀ (t : Nat) q, t < i → L[t]? = some q → (s.2.2 (m + 6) (16 * k + t)).toInt = q.1 ∧ (s.2.2 (m + 7) (16 * k + t)).toInt = q.2) ∧ (∀ j, (j < 16 * k ∨ 16 * k + 16 ≤ j) → s.2.2 (m + 6) j = M.2 (m + 6) j ∧ s.2.2 (m + 7) j = M.2 (m + 7) j) ∧ FM m [] [6, 7] M s.2) (fun r => r.1 = (nI L.length).toInt64 ∧ ptM r.2 (m + 6) (m + 7) (16 * k) L ∧ (∀ j, (j < 16 * k ∨ 16 * k + 16 ≤ j) → r.2.2 (m + 6) j = M.2 (m + 6) j ∧ r.2.2 (m + 7) j = M.2 (m + 7) j) ∧ FM m [] [6, 7] M r.2) L.length ?_ ?_
  · obtain ⟨⟨v, M'⟩, e1, rfl, e2⟩ := hW L.length 0 (0, M) (by omega) ⟨rfl, fun t q ht => absurd ht (by omega), fun j _ => ⟨rfl, rfl⟩, FM.rf⟩
    exact ⟨M', e1, e2⟩
  · rintro i ⟨z, N⟩ hi ⟨rfl, f1, f2, f3⟩
    have f1 : ∀ (t : Nat) q, t < i → L[t]? = some q → (N.2 (m + 6) (16 * k + t)).toInt = q.1 ∧ (N.2 (m + 7) (16 * k + t)).toInt = q.2 := f1
    have f2 : ∀ j, (j < 16 * k ∨ 16 * k + 16 ≤ j) → N.2 (m + 6) j = M.2 (m + 6) j ∧ N.2 (m + 7) j = M.2 (m + 7) j := f2
    have f3 : FM m [] [6, 7] M N := f3
    have hN := h.fr f3 (by decide) (by decide) (by decide)
    have e := hN.1
    obtain ⟨c, hc⟩ := get_ex hi
    obtain ⟨u1, u2⟩ := hN.2 _ _ hc
    have j16 : (16 : Int32) * nI k + nI i = nI (16 * k + i) := ix16 k i
    have z1 : ixA K (m + 6) 1 (nI (16 * k + i)) := ixA_of a7 (by omega) (by omega)
    have z2 : ixA K (m + 7) 1 (nI (16 * k + i)) := ixA_of a8 (by omega) (by omega)
    generalize hN2 : pL (pL N (m + 6) (16 * k + i) (N.2 (m + 17) i)) (m + 7) (16 * k + i) (N.2 (m + 18) i) = N2
    refine Or.inl ⟨(nI (i + 1), N2), ?_, rfl, fun t q ht hq => ?_, fun j hj => ?_, by rw [← hN2]; exact (f3.pL (by decide)).pL (by decide)⟩
    · show mX8_figure_B122 K R m (nI k) (nI i) N = _
      unfold mX8_figure_B122
      (repeat (first | rw [ck_t (by first | with_reducible assumption | ((with_reducible apply ixA_of); (with_reducible assumption); omega; omega) | ((with_reducible apply isAr_of); (with_reducible assumption); decide) | ((with_reducible apply nI_ne0); omega; omega) | with_reducible exact isB_0 | with_reducible exact isB_1 | with_reducible exact isB_bI _)] | rw [bd_r (by with_reducible assumption)] | rw [bd_s] | rw [bd2_s] | rw [bd3_s] | rw [nm_s] | rw [nI_clamp (by omega)] | rw [nI_1] | rw [pL_i] | rw [e] | rw [j16] | rw [pL_n (show m + 18 ≠ m + 6 by omega)] | rw [hN2] | rw [if_pos (by first | with_reducible assumption | ((with_reducible refine nI_lt ?_ ?_); omega; omega) | ((with_reducible refine nI_nlt ?_ ?_); omega; omega) | with_reducible exact ne10 | with_reducible rfl)] | rw [if_neg (by first | with_reducible assumption | ((with_reducible refine nI_lt ?_ ?_); omega; omega) | ((with_reducible refine nI_nlt ?_ ?_); omega; omega) | with_reducible exact ne10 | with_reducible rfl)]))
    · show (N2.2 (m + 6) _).toInt = _ ∧ (N2.2 (m + 7) _).toInt = _
      rw [← hN2, pL_n (show m + 6 ≠ m + 7 by omega)]
      by_cases hti : t = i
      · subst hti
        rw [pL_s, pL_s, get_un hq hc]; exact ⟨u1, u2⟩
      · rw [pL_k (by omega), pL_k (by omega), pL_n (show m + 7 ≠ m + 6 by omega)]
        exact f1 t q (by omega) hq
    · show N2.2 (m + 6) j = _ ∧ N2.2 (m + 7) j = _
      rw [← hN2, pL_n (show m + 6 ≠ m + 7 by omega), pL_k (by omega), pL_k (by omega), pL_n (show m + 7 ≠ m + 6 by omega)]
      exact f2 j hj
  · rintro ⟨z, N⟩ ⟨rfl, f1, f2, f3⟩
    have f3 : FM m [] [6, 7] M N := f3
    have e := (h.fr f3 (by decide) (by decide) (by decide)).1
    refine ⟨((nI L.length).toInt64, N), ?_, rfl, fun t q hq => f1 t q (get_lt hq) hq, f2, f3⟩
    show mX8_figure_B122 K R m (nI k) (nI L.length) N = _
    unfold mX8_figure_B122
    (repeat (first | rw [ck_t (by first | with_reducible assumption | ((with_reducible apply ixA_of); (with_reducible assumption); omega; omega) | ((with_reducible apply isAr_of); (with_reducible assumption); decide) | ((with_reducible apply nI_ne0); omega; omega) | with_reducible exact isB_0 | with_reducible exact isB_1 | with_reducible exact isB_bI _)] | rw [bd_r (by with_reducible assumption)] | rw [bd_s] | rw [bd2_s] | rw [bd3_s] | rw [nm_s] | rw [nI_clamp (by omega)] | rw [nI_1] | rw [e] | rw [if_pos (by first | with_reducible assumption | ((with_reducible refine nI_lt ?_ ?_); omega; omega) | ((with_reducible refine nI_nlt ?_ ?_); omega; omega) | with_reducible exact ne10 | with_reducible rfl)] | rw [if_neg (by first | with_reducible assumption | ((with_reducible refine nI_lt ?_ ?_); omega; omega) | ((with_reducible refine nI_nlt ?_ ?_); omega; omega) | with_reducible exact ne10 | with_reducible rfl)]))
    rfl
/-- the reference up to its verdict -/
theorem figM_ok {m k : Nat} {H : List Pt} (hm : moA K R m) (h : rM M m 12 9 10 H) (hH : H.length ≤ 16) (hB : inBs H) (hk : k < 5) : ∃ s N, mX8_figure K R M m (nI k) = mX8_figure_J96 K R N m (nI k) s ∧ FM m [21, 24] [15, 16, 17, 18] M N ∧ iv s (AL (oneL H) ∧ 3 ≤ (oneL H).length) ∧ (s = 1 → rM N m 24 17 18 (norm (oneL H))) := by
  have h0 := hm.1
  have r10 := mo_r10 hm
  have r11 := mo_r11 hm
  have a10 := mo_a10 hm
  have a11 := mo_a11 hm
  have front : mX8_figure K R M m (nI k) = lp (mX8_figure_L22 K R m (nI k)) (0, pI M m 21 0) := by
    unfold mX8_figure
    (repeat (first | rw [ck_t (by first | with_reducible assumption | ((with_reducible apply ixA_of); (with_reducible assumption); omega; omega) | ((with_reducible apply isAr_of); (with_reducible assumption); decide) | ((with_reducible apply nI_ne0); omega; omega) | with_reducible exact isB_0 | with_reducible exact isB_1 | with_reducible exact isB_bI _)] | rw [bd_r (by with_reducible assumption)] | rw [bd_s] | rw [bd2_s] | rw [bd3_s] | rw [nm_s] | rw [nI_clamp (by omega)] | rw [nI_1] | rw [bd_e (isInN_t (n := 5) hk (by decide) (by decide))] | rw [bd_e (begin_ok hm)] | rw [if_pos (by first | with_reducible assumption | ((with_reducible refine nI_lt ?_ ?_); omega; omega) | ((with_reducible refine nI_nlt ?_ ?_); omega; omega) | with_reducible exact ne10 | with_reducible rfl)] | rw [if_neg (by first | with_reducible assumption | ((with_reducible refine nI_lt ?_ ?_); omega; omega) | ((with_reducible refine nI_nlt ?_ ?_); omega; omega) | with_reducible exact ne10 | with_reducible rfl)]))
  have hW := lp_run (f := mX8_figure_L22 K R m (nI k)) (fun (i : Nat) (s : Int32 × Mm) => s.1 = nI i ∧ rM s.2 m 21 15 16 (H.take i) ∧ FM m [21] [15, 16] M s.2) H.length ?_ H.length 0 (0, pI M m 21 0) (by omega) ⟨rfl, ⟨pI_s, fun i c hc => by simp at hc⟩, FM.rf.pI (by decide)⟩
  · obtain ⟨⟨z, N⟩, e1, rfl, e2, e3⟩ := hW
    have e2 : rM N m 21 15 16 (H.take H.length) := e2
    have e3 : FM m [21] [15, 16] M N := e3
    rw [List.take_length] at e2
    have hN := h.fr e3 (by decide) (by decide) (by decide)
    have e12 := hN.1
    rw [front, e1]
    by_cases hz : H = []
    · subst hz
      have o1 := outermost_0 hm e2.1
      refine ⟨0, pI N m 24 0, ?_, (e3.mo (by decide) (by decide)).pI (by decide), Or.inr ⟨rfl, fun q => by have := q.2; rw [oneL_len] at this; simp at this⟩, fun q => absurd q (by decide)⟩
      have ex : ∀ r, mX8_figure_J96 K R (pI N m 24 0) m (nI k) 0 = r → lp (mX8_figure_L22 K R m (nI k)) (nI ([] : List Pt).length, N) = r := fun r hr => by
        have J : mX8_figure_J96 K R (pI N m 24 0) m (nI k) 0 = some (-9000000000000000002, pI (pI N m 24 0) m 12 0) := by
          unfold mX8_figure_J96
          (repeat (first | rw [ck_t (by first | with_reducible assumption | ((with_reducible apply ixA_of); (with_reducible assumption); omega; omega) | ((with_reducible apply isAr_of); (with_reducible assumption); decide) | ((with_reducible apply nI_ne0); omega; omega) | with_reducible exact isB_0 | with_reducible exact isB_1 | with_reducible exact isB_bI _)] | rw [bd_r (by with_reducible assumption)] | rw [bd_s] | rw [bd2_s] | rw [bd3_s] | rw [nm_s] | rw [nI_clamp (by omega)] | rw [nI_1] | rw [if_pos (by first | with_reducible assumption | ((with_reducible refine nI_lt ?_ ?_); omega; omega) | ((with_reducible refine nI_nlt ?_ ?_); omega; omega) | with_reducible exact ne10 | with_reducible rfl)] | rw [if_neg (by first | with_reducible assumption | ((with_reducible refine nI_lt ?_ ?_); omega; omega) | ((with_reducible refine nI_nlt ?_ ?_); omega; omega) | with_reducible exact ne10 | with_reducible rfl)]))
        rw [J] at hr
        rw [← hr]
        refine lp_out ?_
        show mX8_figure_B22 K R m (nI k) (nI 0) N = _
        have e12 : N.1 m 12 = nI 0 := e12
        unfold mX8_figure_B22
        (repeat (first | rw [ck_t (by first | with_reducible assumption | ((with_reducible apply ixA_of); (with_reducible assumption); omega; omega) | ((with_reducible apply isAr_of); (with_reducible assumption); decide) | ((with_reducible apply nI_ne0); omega; omega) | with_reducible exact isB_0 | with_reducible exact isB_1 | with_reducible exact isB_bI _)] | rw [bd_r (by with_reducible assumption)] | rw [bd_s] | rw [bd2_s] | rw [bd3_s] | rw [nm_s] | rw [nI_clamp (by omega)] | rw [nI_1] | rw [e12] | rw [bd_e (o1)] | rw [pI_s] | rw [if_pos (show (0 : Int32) < 3 by decide)] | rw [if_pos (by first | with_reducible assumption | ((with_reducible refine nI_lt ?_ ?_); omega; omega) | ((with_reducible refine nI_nlt ?_ ?_); omega; omega) | with_reducible exact ne10 | with_reducible rfl)] | rw [if_neg (by first | with_reducible assumption | ((with_reducible refine nI_lt ?_ ?_); omega; omega) | ((with_reducible refine nI_nlt ?_ ?_); omega; omega) | with_reducible exact ne10 | with_reducible rfl)]))
        unfold mX8_figure_J95
        rw [J]
        rfl
      exact ex _ rfl
    · obtain ⟨L, hL, hl⟩ := hull_ex hz
      have lpos : 0 < L.length := by obtain ⟨f, f1, -⟩ := hL; exact get_lt f1
      have hpos : 0 < H.length := by
        rcases Nat.eq_zero_or_pos H.length with z | z
        · exact absurd (List.eq_nil_of_length_eq_zero z) hz
        · exact z
      obtain ⟨N2, o1, o2, o3⟩ := outermost_ok hm e2 (by omega) hB.m (by omega) hL
      have hN2 := hN.fr o3 (by decide) (by decide) (by decide)
      have F : FM m [21, 24] [15, 16, 17, 18] M N2 := (e3.mo (by decide) (by decide)).tr (o3.mo (by decide) (by decide))
      have f12 := hN2.1
      have f24 := o2.1
      have bad : ∀ r, mX8_figure_J96 K R N2 m (nI k) 0 = some r → mX8_figure_J95 K R N2 m (nI k) = some r := fun r h => h
      have J0 : mX8_figure_J96 K R N2 m (nI k) 0 = some (-9000000000000000002, pI N2 m 12 0) := by
        unfold mX8_figure_J96
        (repeat (first | rw [ck_t (by first | with_reducible assumption | ((with_reducible apply ixA_of); (with_reducible assumption); omega; omega) | ((with_reducible apply isAr_of); (with_reducible assumption); decide) | ((with_reducible apply nI_ne0); omega; omega) | with_reducible exact isB_0 | with_reducible exact isB_1 | with_reducible exact isB_bI _)] | rw [bd_r (by with_reducible assumption)] | rw [bd_s] | rw [bd2_s] | rw [bd3_s] | rw [nm_s] | rw [nI_clamp (by omega)] | rw [nI_1] | rw [if_pos (by first | with_reducible assumption | ((with_reducible refine nI_lt ?_ ?_); omega; omega) | ((with_reducible refine nI_nlt ?_ ?_); omega; omega) | with_reducible exact ne10 | with_reducible rfl)] | rw [if_neg (by first | with_reducible assumption | ((with_reducible refine nI_lt ?_ ?_); omega; omega) | ((with_reducible refine nI_nlt ?_ ?_); omega; omega) | with_reducible exact ne10 | with_reducible rfl)]))
      have out0 : mX8_figure_B22 K R m (nI k) (nI H.length) N = some (.inr (-9000000000000000002, pI N2 m 12 0)) → lp (mX8_figure_L22 K R m (nI k)) (nI H.length, N) = mX8_figure_J96 K R N2 m (nI k) 0 := fun hh => by
        rw [J0]; exact lp_out hh
      have nog : ¬ (3 ≤ L.length ∧ L.length = H.length ∧ (gsP H L true ∨ gsP H L false)) → ¬ (AL (oneL H) ∧ 3 ≤ (oneL H).length) := fun hn q => by
        obtain ⟨g1, g2, g3, -⟩ := fig_ring hL q.1 q.2
        exact hn ⟨g1, g2, g3⟩
      by_cases c1 : L.length < 3
      · refine ⟨0, N2, out0 ?_, F, Or.inr ⟨rfl, nog (fun q => by omega)⟩, fun q => absurd q (by decide)⟩
        unfold mX8_figure_B22
        (repeat (first | rw [ck_t (by first | with_reducible assumption | ((with_reducible apply ixA_of); (with_reducible assumption); omega; omega) | ((with_reducible apply isAr_of); (with_reducible assumption); decide) | ((with_reducible apply nI_ne0); omega; omega) | with_reducible exact isB_0 | with_reducible exact isB_1 | with_reducible exact isB_bI _)] | rw [bd_r (by with_reducible assumption)] | rw [bd_s] | rw [bd2_s] | rw [bd3_s] | rw [nm_s] | rw [nI_clamp (by omega)] | rw [nI_1] | rw [e12] | rw [bd_e (o1)] | rw [f24] | rw [if_pos (show nI L.length < 3 from nI_lt (b := 3) c1 (by decide))] | rw [if_pos (by first | with_reducible assumption | ((with_reducible refine nI_lt ?_ ?_); omega; omega) | ((with_reducible refine nI_nlt ?_ ?_); omega; omega) | with_reducible exact ne10 | with_reducible rfl)] | rw [if_neg (by first | with_reducible assumption | ((with_reducible refine nI_lt ?_ ?_); omega; omega) | ((with_reducible refine nI_nlt ?_ ?_); omega; omega) | with_reducible exact ne10 | with_reducible rfl)]))
        unfold mX8_figure_J95
        rw [J0]
        rfl
      · by_cases c2 : L.length = H.length
        · obtain ⟨f, f1, f2, -⟩ := id hL
          obtain ⟨v, v1, v2⟩ := goesAs_ok (w := 1) (s := true) hm hN2 o2 hH c2 hpos ⟨f, f1, f2⟩ (Or.inl ⟨rfl, rfl⟩)
          obtain ⟨w, w1, w2⟩ := goesAs_ok (w := -1) (s := false) hm hN2 o2 hH c2 hpos ⟨f, f1, f2⟩ (Or.inr ⟨rfl, rfl⟩)
          have good : (gsP H L true ∨ gsP H L false) → ∃ s N2', lp (mX8_figure_L22 K R m (nI k)) (nI H.length, N) = mX8_figure_J96 K R N2' m (nI k) s ∧ FM m [21, 24] [15, 16, 17, 18] M N2' ∧ iv s (AL (oneL H) ∧ 3 ≤ (oneL H).length) ∧ (s = 1 → rM N2' m 24 17 18 (norm (oneL H))) := fun hg => by
            obtain ⟨g1, g2, g3⟩ := fig_good hL (by omega) c2 hg
            refine ⟨1, N2, ?_, F, Or.inl ⟨rfl, g1, g2⟩, fun _ => by rw [← g3]; exact o2⟩
            have r2 : rM (pI (pI N2 m 12 0) (m + 8) k (N2.1 m 24)) m 24 17 18 L := ⟨by rw [pI_n (by omega), pI_k (by decide)]; exact f24, fun i p hp => o2.2 i p hp⟩
            obtain ⟨M', q1, -⟩ := figM_loop (k := k) hm r2 (by omega) hk
            have a9 := mo_a9 hm
            have r9 := mo_r9 hm
            have J1 : mX8_figure_J96 K R N2 m (nI k) 1 = some ((nI L.length).toInt64, M') := by
              unfold mX8_figure_J96
              (repeat (first | rw [ck_t (by first | with_reducible assumption | ((with_reducible apply ixA_of); (with_reducible assumption); omega; omega) | ((with_reducible apply isAr_of); (with_reducible assumption); decide) | ((with_reducible apply nI_ne0); omega; omega) | with_reducible exact isB_0 | with_reducible exact isB_1 | with_reducible exact isB_bI _)] | rw [bd_r (by with_reducible assumption)] | rw [bd_s] | rw [bd2_s] | rw [bd3_s] | rw [nm_s] | rw [nI_clamp (by omega)] | rw [nI_1] | rw [if_neg (ne10)] | rw [pI_k (show (24 : Nat) ≠ 12 by decide)] | rw [if_pos (by first | with_reducible assumption | ((with_reducible refine nI_lt ?_ ?_); omega; omega) | ((with_reducible refine nI_nlt ?_ ?_); omega; omega) | with_reducible exact ne10 | with_reducible rfl)] | rw [if_neg (by first | with_reducible assumption | ((with_reducible refine nI_lt ?_ ?_); omega; omega) | ((with_reducible refine nI_nlt ?_ ?_); omega; omega) | with_reducible exact ne10 | with_reducible rfl)]))
              exact q1
            rw [J1]
            refine lp_out ?_
            show mX8_figure_B22 K R m (nI k) (nI H.length) N = _
            unfold mX8_figure_B22
            (repeat (first | rw [ck_t (by first | with_reducible assumption | ((with_reducible apply ixA_of); (with_reducible assumption); omega; omega) | ((with_reducible apply isAr_of); (with_reducible assumption); decide) | ((with_reducible apply nI_ne0); omega; omega) | with_reducible exact isB_0 | with_reducible exact isB_1 | with_reducible exact isB_bI _)] | rw [bd_r (by with_reducible assumption)] | rw [bd_s] | rw [bd2_s] | rw [bd3_s] | rw [nm_s] | rw [nI_clamp (by omega)] | rw [nI_1] | rw [e12] | rw [bd_e (o1)] | rw [f24] | rw [if_neg (show ¬ nI L.length < 3 from nI_nlt (b := 3) (by omega) (by omega))] | rw [f12] | rw [if_pos (show nI L.length = nI H.length by rw [c2])] | rw [bd_e (v1)] | rw [if_pos (by first | with_reducible assumption | ((with_reducible refine nI_lt ?_ ?_); omega; omega) | ((with_reducible refine nI_nlt ?_ ?_); omega; omega) | with_reducible exact ne10 | with_reducible rfl)] | rw [if_neg (by first | with_reducible assumption | ((with_reducible refine nI_lt ?_ ?_); omega; omega) | ((with_reducible refine nI_nlt ?_ ?_); omega; omega) | with_reducible exact ne10 | with_reducible rfl)]))
            rcases v2 with ⟨rfl, v2⟩ | ⟨rfl, v2⟩
            · rw [if_neg ne10]
              unfold mX8_figure_J91
              rw [J1]
              rfl
            · rw [if_pos rfl, bd_e w1]
              rcases w2 with ⟨rfl, w2⟩ | ⟨rfl, w2⟩
              · rw [if_neg ne10]
                unfold mX8_figure_J91
                rw [J1]
                rfl
              · rcases hg with z | z
                · exact absurd z v2
                · exact absurd z w2
          by_cases hg : gsP H L true ∨ gsP H L false
          · exact good hg
          · refine ⟨0, N2, out0 ?_, F, Or.inr ⟨rfl, nog (fun q => hg q.2.2)⟩, fun q => absurd q (by decide)⟩
            unfold mX8_figure_B22
            (repeat (first | rw [ck_t (by first | with_reducible assumption | ((with_reducible apply ixA_of); (with_reducible assumption); omega; omega) | ((with_reducible apply isAr_of); (with_reducible assumption); decide) | ((with_reducible apply nI_ne0); omega; omega) | with_reducible exact isB_0 | with_reducible exact isB_1 | with_reducible exact isB_bI _)] | rw [bd_r (by with_reducible assumption)] | rw [bd_s] | rw [bd2_s] | rw [bd3_s] | rw [nm_s] | rw [nI_clamp (by omega)] | rw [nI_1] | rw [e12] | rw [bd_e (o1)] | rw [f24] | rw [if_neg (show ¬ nI L.length < 3 from nI_nlt (b := 3) (by omega) (by omega))] | rw [f12] | rw [if_pos (show nI L.length = nI H.length by rw [c2])] | rw [bd_e (v1)] | rw [if_pos (by first | with_reducible assumption | ((with_reducible refine nI_lt ?_ ?_); omega; omega) | ((with_reducible refine nI_nlt ?_ ?_); omega; omega) | with_reducible exact ne10 | with_reducible rfl)] | rw [if_neg (by first | with_reducible assumption | ((with_reducible refine nI_lt ?_ ?_); omega; omega) | ((with_reducible refine nI_nlt ?_ ?_); omega; omega) | with_reducible exact ne10 | with_reducible rfl)]))
            rcases v2 with ⟨rfl, v2⟩ | ⟨rfl, v2⟩
            · exact absurd (Or.inl v2) hg
            · rw [if_pos rfl, bd_e w1]
              rcases w2 with ⟨rfl, w2⟩ | ⟨rfl, w2⟩
              · exact absurd (Or.inr w2) hg
              · rw [if_pos rfl]
                unfold mX8_figure_J95
                rw [J0]
                rfl
        · refine ⟨0, N2, out0 ?_, F, Or.inr ⟨rfl, nog (fun q => c2 q.2.1)⟩, fun q => absurd q (by decide)⟩
          unfold mX8_figure_B22
          (repeat (first | rw [ck_t (by first | with_reducible assumption | ((with_reducible apply ixA_of); (with_reducible assumption); omega; omega) | ((with_reducible apply isAr_of); (with_reducible assumption); decide) | ((with_reducible apply nI_ne0); omega; omega) | with_reducible exact isB_0 | with_reducible exact isB_1 | with_reducible exact isB_bI _)] | rw [bd_r (by with_reducible assumption)] | rw [bd_s] | rw [bd2_s] | rw [bd3_s] | rw [nm_s] | rw [nI_clamp (by omega)] | rw [nI_1] | rw [e12] | rw [bd_e (o1)] | rw [f24] | rw [if_neg (show ¬ nI L.length < 3 from nI_nlt (b := 3) (by omega) (by omega))] | rw [f12] | rw [if_neg (nI_ne c2 (by omega) (by omega))] | rw [if_pos (by first | with_reducible assumption | ((with_reducible refine nI_lt ?_ ?_); omega; omega) | ((with_reducible refine nI_nlt ?_ ?_); omega; omega) | with_reducible exact ne10 | with_reducible rfl)] | rw [if_neg (by first | with_reducible assumption | ((with_reducible refine nI_lt ?_ ?_); omega; omega) | ((with_reducible refine nI_nlt ?_ ?_); omega; omega) | with_reducible exact ne10 | with_reducible rfl)]))
          unfold mX8_figure_J95
          rw [J0]
          rfl
  · rintro i ⟨z, N⟩ hi ⟨rfl, f1, f2⟩
    have f1 : rM N m 21 15 16 (H.take i) := f1
    have f2 : FM m [21] [15, 16] M N := f2
    have hN := h.fr f2 (by decide) (by decide) (by decide)
    have e := hN.1
    obtain ⟨c, hc⟩ := get_ex hi
    have pc := hN.pt hc
    obtain ⟨N2, d1, d2, d3⟩ := point_ok (x := N.2 (m + 9) i) (y := N.2 (m + 10) i) hm f1 (by rw [List.length_take]; omega)
    refine ⟨(nI (i + 1), N2), ?_, rfl, ?_, f2.tr d3⟩
    · show mX8_figure_B22 K R m (nI k) (nI i) N = _
      unfold mX8_figure_B22
      (repeat (first | rw [ck_t (by first | with_reducible assumption | ((with_reducible apply ixA_of); (with_reducible assumption); omega; omega) | ((with_reducible apply isAr_of); (with_reducible assumption); decide) | ((with_reducible apply nI_ne0); omega; omega) | with_reducible exact isB_0 | with_reducible exact isB_1 | with_reducible exact isB_bI _)] | rw [bd_r (by with_reducible assumption)] | rw [bd_s] | rw [bd2_s] | rw [bd3_s] | rw [nm_s] | rw [nI_clamp (by omega)] | rw [nI_1] | rw [e] | rw [bd_e (d1)] | rw [if_pos (by first | with_reducible assumption | ((with_reducible refine nI_lt ?_ ?_); omega; omega) | ((with_reducible refine nI_nlt ?_ ?_); omega; omega) | with_reducible exact ne10 | with_reducible rfl)] | rw [if_neg (by first | with_reducible assumption | ((with_reducible refine nI_lt ?_ ?_); omega; omega) | ((with_reducible refine nI_nlt ?_ ?_); omega; omega) | with_reducible exact ne10 | with_reducible rfl)]))
    · show rM N2 m 21 15 16 (H.take (i + 1))
      rw [take_app hc, pc]
      exact d2
end FX
theorem inv_figure (o : Nat) (K : Kk) (R : Rr) (M : Mm) (a0 : Int32) (hI : Inv o K R M) : ∃ (v : Int64) (M1 : Mm) (M2 : Mm), mX7_figure K R M o a0 = some (v, M1) ∧ mX8_figure K R M1 (o + 2118) a0 = some (v, M2) ∧ Inv o K R M2 := by
  have hI0 := hI
  obtain ⟨hs, hm, S, hw, hc, ho⟩ := hI
  have hs0 := hs
  have m0 := hm.1
  obtain ⟨s0, s1, s2, -, -, -, -, -, -, -, s9, -, -, -, -, hh, b1, b2, -, -, -, -, -, -, -, -, r1, -⟩ := hs
  rcases cases_n a0 5 (by decide) with h | ⟨k, hk, rfl⟩
  · refine ⟨-9000000000000000001, M, M, ?_, ?_, hI0⟩
    · unfold mX7_figure
      (repeat (first | rw [ck_t (by first | with_reducible assumption | ((with_reducible apply ixA_of); (with_reducible assumption); omega; omega) | ((with_reducible apply isAr_of); (with_reducible assumption); decide) | ((with_reducible apply nI_ne0); omega; omega) | with_reducible exact isB_0 | with_reducible exact isB_1 | with_reducible exact isB_bI _)] | rw [bd_r (by with_reducible assumption)] | rw [bd_s] | rw [bd2_s] | rw [bd3_s] | rw [nm_s] | rw [nI_clamp (by omega)] | rw [nI_1] | rw [bd_e (isFigure_f h)] | rw [if_pos (by first | with_reducible assumption | ((with_reducible refine nI_lt ?_ ?_); omega; omega) | ((with_reducible refine nI_nlt ?_ ?_); omega; omega) | with_reducible exact ne10 | with_reducible rfl)] | rw [if_neg (by first | with_reducible assumption | ((with_reducible refine nI_lt ?_ ?_); omega; omega) | ((with_reducible refine nI_nlt ?_ ?_); omega; omega) | with_reducible exact ne10 | with_reducible rfl)]))
    · unfold mX8_figure
      (repeat (first | rw [ck_t (by first | with_reducible assumption | ((with_reducible apply ixA_of); (with_reducible assumption); omega; omega) | ((with_reducible apply isAr_of); (with_reducible assumption); decide) | ((with_reducible apply nI_ne0); omega; omega) | with_reducible exact isB_0 | with_reducible exact isB_1 | with_reducible exact isB_bI _)] | rw [bd_r (by with_reducible assumption)] | rw [bd_s] | rw [bd2_s] | rw [bd3_s] | rw [nm_s] | rw [nI_clamp (by omega)] | rw [nI_1] | rw [bd_e (isInN_f (n := 5) h (by decide) (by decide))] | rw [if_pos (by first | with_reducible assumption | ((with_reducible refine nI_lt ?_ ?_); omega; omega) | ((with_reducible refine nI_nlt ?_ ?_); omega; omega) | with_reducible exact ne10 | with_reducible rfl)] | rw [if_neg (by first | with_reducible assumption | ((with_reducible refine nI_lt ?_ ?_); omega; omega) | ((with_reducible refine nI_nlt ?_ ?_); omega; omega) | with_reducible exact ne10 | with_reducible rfl)]))
  · obtain ⟨w1, w2, w3, w4, w5, w6, w7⟩ := id hw
    obtain ⟨d1, d2, dh, d7⟩ := id hc
    obtain ⟨h1, h2, h3, h4, h5, h6, h7, h8, h9⟩ := id ho
    have hB : inBs S.1 := w2
    obtain ⟨k1, k2⟩ := b2 k hk
    have k20 := k2.1
    have hh0 := hh.1
    have r10 := r1.1
    have t0 := isFigure_t (K := K) (R := R) (M := M) hk
    -- the class: the hand, told either way round, to the first ring
    have take1 : ∃ M25, rgC M25 (o + 1985) (oneL S.1) ∧ Fr (o + 1985) (o + 1988) M M25 ∧ M25.2 = M.2 ∧ mX7_figure K R M o (nI k) = mX7_figure_J48 K R M25 o (nI k) := by
      obtain ⟨v, v1, v2⟩ := areaC_ok (R := R) hh d1 w1 (by omega) (by decide) hB
      have z0 : (0 : Int64).toInt = 0 := rfl
      by_cases ha : area S.1 < 0
      · obtain ⟨M25, e1, e2, e3, e4⟩ := takeBack_ok (M := M) r1 hh (by omega) d1 (by omega) w1 (by decide) (by decide)
        refine ⟨M25, by unfold oneL; rw [if_pos ha]; exact e2, e3, e4, ?_⟩
        unfold mX7_figure
        (repeat (first | rw [ck_t (by first | with_reducible assumption | ((with_reducible apply ixA_of); (with_reducible assumption); omega; omega) | ((with_reducible apply isAr_of); (with_reducible assumption); decide) | ((with_reducible apply nI_ne0); omega; omega) | with_reducible exact isB_0 | with_reducible exact isB_1 | with_reducible exact isB_bI _)] | rw [bd_r (by with_reducible assumption)] | rw [bd_s] | rw [bd2_s] | rw [bd3_s] | rw [nm_s] | rw [nI_clamp (by omega)] | rw [nI_1] | rw [bd_e (t0)] | rw [bd_e (v1)] | rw [if_pos (show v < 0 by rw [lt64, z0, v2]; exact ha)] | rw [bd_e (e1)] | rw [if_pos (by first | with_reducible assumption | ((with_reducible refine nI_lt ?_ ?_); omega; omega) | ((with_reducible refine nI_nlt ?_ ?_); omega; omega) | with_reducible exact ne10 | with_reducible rfl)] | rw [if_neg (by first | with_reducible assumption | ((with_reducible refine nI_lt ?_ ?_); omega; omega) | ((with_reducible refine nI_nlt ?_ ?_); omega; omega) | with_reducible exact ne10 | with_reducible rfl)]))
      · obtain ⟨M22, e1, e2, e3, e4⟩ := take_ok (M := M) r1 hh (by omega) (by omega) w1 (by decide) d1
        refine ⟨M22, by unfold oneL; rw [if_neg ha]; exact e2, e3, e4, ?_⟩
        unfold mX7_figure
        (repeat (first | rw [ck_t (by first | with_reducible assumption | ((with_reducible apply ixA_of); (with_reducible assumption); omega; omega) | ((with_reducible apply isAr_of); (with_reducible assumption); decide) | ((with_reducible apply nI_ne0); omega; omega) | with_reducible exact isB_0 | with_reducible exact isB_1 | with_reducible exact isB_bI _)] | rw [bd_r (by with_reducible assumption)] | rw [bd_s] | rw [bd2_s] | rw [bd3_s] | rw [nm_s] | rw [nI_clamp (by omega)] | rw [nI_1] | rw [bd_e (t0)] | rw [bd_e (v1)] | rw [if_neg (show ¬ v < 0 by rw [lt64, z0, v2]; exact ha)] | rw [bd_e (e1)] | rw [if_pos (by first | with_reducible assumption | ((with_reducible refine nI_lt ?_ ?_); omega; omega) | ((with_reducible refine nI_nlt ?_ ?_); omega; omega) | with_reducible exact ne10 | with_reducible rfl)] | rw [if_neg (by first | with_reducible assumption | ((with_reducible refine nI_lt ?_ ?_); omega; omega) | ((with_reducible refine nI_nlt ?_ ?_); omega; omega) | with_reducible exact ne10 | with_reducible rfl)]))
    obtain ⟨M25, e1, e2, e3, e4⟩ := take1
    have oB : inBs (oneL S.1) := inBs_of (fun p hp => hB.m p (oneL_mem.mp hp))
    have oL : (oneL S.1).length ≤ 16 := by rw [oneL_len]; exact w1
    generalize hM5 : pI M25 (o + 1) 2 0 = M5
    have f5 : Fr (o + 1) (o + 2) M25 M5 := by rw [← hM5]; exact Fr.rf.pI (by omega) (by omega)
    have e5 : rgC M5 (o + 1985) (oneL S.1) := e1.fr f5 (by omega)
    have hand0 : rgC M5 (o + 1) [] := ⟨by rw [← hM5, pI_s]; rfl, fun i p hp => by simp at hp⟩
    have l5 : M5.2 = M.2 := by rw [← hM5]; exact e3
    have hi5 : ∀ b, (b < o + 1 ∨ o + 2 ≤ b) → (b < o + 1985 ∨ o + 1988 ≤ b) → M5.1 b = M.1 b := fun b x y => by rw [(f5 b (by omega)).1, (e2 b (by omega)).1]
    obtain ⟨v, v1, v2⟩ := isRing_ok (R := R) r1 e5 (by omega) (by decide) oB
    rw [e4]
    have ref : ∀ M1 : Mm, (∀ b, o + 2118 ≤ b → M1.1 b = M.1 b) → M1.2 = M.2 → ∃ s N, mX8_figure K R M1 (o + 2118) (nI k) = mX8_figure_J96 K R N (o + 2118) (nI k) s ∧ FM (o + 2118) [21, 24] [15, 16, 17, 18] M1 N ∧ iv s (AL (oneL S.1) ∧ 3 ≤ (oneL S.1).length) ∧ (s = 1 → rM N (o + 2118) 24 17 18 (norm (oneL S.1))) := fun M1 x1 x2 => by
      refine figM_ok hm ⟨by rw [x1 _ (by omega)]; exact h1, fun i p hp => ?_⟩ w1 hB hk
      rw [x2]
      have := h2 i p hp
      rwa [Nat.zero_add] at this
    rcases v2 with ⟨rfl, v2⟩ | ⟨rfl, v2⟩
    · -- a ring
      have hC := AL_Cv v2.1
      have h3' := v2.2
      obtain ⟨n1, n2, n3, n4⟩ := GW_norm hC h3'
      obtain ⟨kk, hkk⟩ := isLs_ex (l := oneL S.1) (fun q => by rw [q] at h3'; simp at h3') (hC.ds h3')
      obtain ⟨M13, g1, g2, g3, g4⟩ := takeMoved_ok (M := M5) (t := 1) (x := 0) (y := 0) (ti := 1) (a := 0) (b := 0) k2 r1 (by omega) oL (by omega) (by decide) (by decide) e5 oB rfl (Or.inl rfl) rfl rfl (by omega) (by omega) (by rw [map_id']; exact hkk)
      rw [map_id'] at g2
      have hi13 : ∀ b, (b < o + 1 ∨ o + 2 ≤ b) → (b < o + 5 + 3 * k ∨ o + 5 + 3 * k + 3 ≤ b) → (b < o + 1985 ∨ o + 1988 ≤ b) → M13.1 b = M.1 b := fun b x y z => by rw [(g3 b (by omega)).1, hi5 b x z]
      obtain ⟨s, N, u1, u2, u3, u4⟩ := ref M13 (fun b hb => hi13 b (by omega) (by omega) (by omega)) (g4.trans l5)
      have s1' : s = 1 := by
        rcases u3 with ⟨z, -⟩ | ⟨-, z⟩
        · exact z
        · exact absurd v2 z
      subst s1'
      have rN := u4 rfl
      have r2 : rM (pI (pI N (o + 2118) 12 0) (o + 2118 + 8) k (N.1 (o + 2118) 24)) (o + 2118) 24 17 18 (norm (oneL S.1)) := ⟨by rw [pI_n (by omega), pI_k (by decide)]; exact rN.1, fun i p hp => rN.2 i p hp⟩
      obtain ⟨M2, y1, y2, y3, y4⟩ := figM_loop (k := k) hm r2 (by rw [n4]; exact oL) hk
      have a9 := mo_a9 hm
      have r9 := mo_r9 hm
      have N2 : ∀ b, b ≠ o + 2118 → b ≠ o + 2118 + 8 → M2.1 b = M13.1 b := fun b x y => by rw [y4.1 b x, pI_n y, pI_n x, u2.1 b x]
      refine ⟨(nI (norm (oneL S.1)).length).toInt64, M13, M2, ?_, ?_, ?_⟩
      · unfold mX7_figure_J48
        (repeat (first | rw [ck_t (by first | with_reducible assumption | ((with_reducible apply ixA_of); (with_reducible assumption); omega; omega) | ((with_reducible apply isAr_of); (with_reducible assumption); decide) | ((with_reducible apply nI_ne0); omega; omega) | with_reducible exact isB_0 | with_reducible exact isB_1 | with_reducible exact isB_bI _)] | rw [bd_r (by with_reducible assumption)] | rw [bd_s] | rw [bd2_s] | rw [bd3_s] | rw [nm_s] | rw [nI_clamp (by omega)] | rw [nI_1] | rw [hM5] | rw [bd_e (v1)] | rw [if_neg (ne10)] | rw [bd_e (g1)] | rw [g2.1] | rw [if_pos (by first | with_reducible assumption | ((with_reducible refine nI_lt ?_ ?_); omega; omega) | ((with_reducible refine nI_nlt ?_ ?_); omega; omega) | with_reducible exact ne10 | with_reducible rfl)] | rw [if_neg (by first | with_reducible assumption | ((with_reducible refine nI_lt ?_ ?_); omega; omega) | ((with_reducible refine nI_nlt ?_ ?_); omega; omega) | with_reducible exact ne10 | with_reducible rfl)]))
      · rw [u1]
        unfold mX8_figure_J96
        (repeat (first | rw [ck_t (by first | with_reducible assumption | ((with_reducible apply ixA_of); (with_reducible assumption); omega; omega) | ((with_reducible apply isAr_of); (with_reducible assumption); decide) | ((with_reducible apply nI_ne0); omega; omega) | with_reducible exact isB_0 | with_reducible exact isB_1 | with_reducible exact isB_bI _)] | rw [bd_r (by with_reducible assumption)] | rw [bd_s] | rw [bd2_s] | rw [bd3_s] | rw [nm_s] | rw [nI_clamp (by omega)] | rw [nI_1] | rw [if_neg (ne10)] | rw [pI_k (show (24 : Nat) ≠ 12 by decide)] | rw [if_pos (by first | with_reducible assumption | ((with_reducible refine nI_lt ?_ ?_); omega; omega) | ((with_reducible refine nI_nlt ?_ ?_); omega; omega) | with_reducible exact ne10 | with_reducible rfl)] | rw [if_neg (by first | with_reducible assumption | ((with_reducible refine nI_lt ?_ ?_); omega; omega) | ((with_reducible refine nI_nlt ?_ ?_); omega; omega) | with_reducible exact ne10 | with_reducible rfl)]))
        exact y1
      · refine inv_figs (F := fun j => if j = k then norm (oneL S.1) else S.2.1 j) hs0 hm hw hc ho ?_ (fun j hj => ?_) (fun b x y => ?_) ?_ (fun j hj => ?_) ?_ ?_ ?_ (fun j x y => ?_) (fun j hj => ?_)
        · exact (hand0.fr g3 (by omega)).ev (fun b x y => N2 b (by omega) (by omega))
        · by_cases z : j = k
          · subst z
            rw [if_pos rfl]
            exact g2.ev (fun b x y => N2 b (by omega) (by omega))
          · rw [if_neg z]
            exact (d2 j hj).ev (fun b x y => by rw [N2 b (by omega) (by omega), hi13 b (by omega) (by omega) (by omega)])
        · rw [N2 b (by omega) (by omega), hi13 b (by omega) (by omega) (by omega)]
        · rw [y4.sl 12 (by decide), pI_n (by omega), pI_s]
        · by_cases z : j = k
          · subst z
            rw [if_pos rfl]
            refine ⟨?_, y2⟩
            rw [y4.1 _ (by omega), pI_s, rN.1]
          · rw [if_neg z]
            refine ⟨?_, fun i p hp => ?_⟩
            · rw [y4.1 _ (by omega), pI_k z, pI_n (by omega), u2.1 _ (by omega), hi13 _ (by omega) (by omega) (by omega)]
              exact (h3 j hj).1
            · have lj : (S.2.1 j).length ≤ 16 := by
                rcases w3 j hj with q | q
                · rw [q]; simp
                · exact q.2.1
              have hi := get_lt hp
              obtain ⟨q1, q2⟩ := y3 (16 * j + i) (by omega)
              rw [q1, q2]
              show (N.2 _ _).toInt = _ ∧ (N.2 _ _).toInt = _
              rw [u2.ar 6 (by decide), u2.ar 7 (by decide), g4, l5]
              exact (h3 j hj).2 i p hp
        · rw [y4.sl 3 (by decide), pI_n (by omega), pI_k (by decide), u2.sl 3 (by decide), hi13 _ (by omega) (by omega) (by omega)]
        · rw [y4.sl 4 (by decide), pI_n (by omega), pI_k (by decide), u2.sl 4 (by decide), hi13 _ (by omega) (by omega) (by omega)]
        · rw [N2 _ (by omega) (by omega), hi13 _ (by omega) (by omega) (by omega)]
        · have q1 := y4.2.2 (o + 2118 + j) (fun i hi => by rcases List.mem_cons.mp hi with q | q; omega; rw [List.mem_singleton.mp q]; omega)
          have q2 := u2.2.2 (o + 2118 + j) (fun i hi => by
            have : 15 ≤ i := by
              simp only [List.mem_cons, List.not_mem_nil, or_false] at hi
              omega
            omega)
          rw [q1]
          show N.2 _ = _
          rw [q2, g4, l5]
        · by_cases z : j = k
          · subst z
            rw [if_pos rfl]
            exact Or.inr ⟨by rw [n4]; exact h3', by rw [n4]; exact oL, n2, n3, fun i p hp => oB.m p (norm_mem.mp (get_mem hp))⟩
          · rw [if_neg z]; exact w3 j hj
    · -- none
      obtain ⟨s, N, u1, u2, u3, u4⟩ := ref M5 (fun b hb => hi5 b (by omega) (by omega)) l5
      have s0' : s = 0 := by
        rcases u3 with ⟨-, z⟩ | ⟨z, -⟩
        · exact absurd z v2
        · exact z
      subst s0'
      refine ⟨-9000000000000000002, M5, pI N (o + 2118) 12 0, ?_, ?_, ?_⟩
      · unfold mX7_figure_J48
        (repeat (first | rw [ck_t (by first | with_reducible assumption | ((with_reducible apply ixA_of); (with_reducible assumption); omega; omega) | ((with_reducible apply isAr_of); (with_reducible assumption); decide) | ((with_reducible apply nI_ne0); omega; omega) | with_reducible exact isB_0 | with_reducible exact isB_1 | with_reducible exact isB_bI _)] | rw [bd_r (by with_reducible assumption)] | rw [bd_s] | rw [bd2_s] | rw [bd3_s] | rw [nm_s] | rw [nI_clamp (by omega)] | rw [nI_1] | rw [hM5] | rw [bd_e (v1)] | rw [if_pos (by first | with_reducible assumption | ((with_reducible refine nI_lt ?_ ?_); omega; omega) | ((with_reducible refine nI_nlt ?_ ?_); omega; omega) | with_reducible exact ne10 | with_reducible rfl)] | rw [if_neg (by first | with_reducible assumption | ((with_reducible refine nI_lt ?_ ?_); omega; omega) | ((with_reducible refine nI_nlt ?_ ?_); omega; omega) | with_reducible exact ne10 | with_reducible rfl)]))
      · rw [u1]
        unfold mX8_figure_J96
        (repeat (first | rw [ck_t (by first | with_reducible assumption | ((with_reducible apply ixA_of); (with_reducible assumption); omega; omega) | ((with_reducible apply isAr_of); (with_reducible assumption); decide) | ((with_reducible apply nI_ne0); omega; omega) | with_reducible exact isB_0 | with_reducible exact isB_1 | with_reducible exact isB_bI _)] | rw [bd_r (by with_reducible assumption)] | rw [bd_s] | rw [bd2_s] | rw [bd3_s] | rw [nm_s] | rw [nI_clamp (by omega)] | rw [nI_1] | rw [if_pos (by first | with_reducible assumption | ((with_reducible refine nI_lt ?_ ?_); omega; omega) | ((with_reducible refine nI_nlt ?_ ?_); omega; omega) | with_reducible exact ne10 | with_reducible rfl)] | rw [if_neg (by first | with_reducible assumption | ((with_reducible refine nI_lt ?_ ?_); omega; omega) | ((with_reducible refine nI_nlt ?_ ?_); omega; omega) | with_reducible exact ne10 | with_reducible rfl)]))
      · have N2 : ∀ b, b ≠ o + 2118 → (pI N (o + 2118) 12 0).1 b = M5.1 b := fun b x => by rw [pI_n x, u2.1 b x]
        refine inv_figs (F := S.2.1) hs0 hm hw hc ho ?_ (fun j hj => ?_) (fun b x y => ?_) pI_s (fun j hj => ⟨?_, fun i p hp => ?_⟩) ?_ ?_ ?_ (fun j x y => ?_) w3
        · exact hand0.ev (fun b x y => N2 b (by omega))
        · exact (d2 j hj).ev (fun b x y => by rw [N2 b (by omega), hi5 b (by omega) (by omega)])
        · rw [N2 b (by omega), hi5 b (by omega) (by omega)]
        · rw [N2 _ (by omega), hi5 _ (by omega) (by omega)]; exact (h3 j hj).1
        · show (N.2 _ _).toInt = _ ∧ (N.2 _ _).toInt = _
          rw [u2.ar 6 (by decide), u2.ar 7 (by decide), l5]
          exact (h3 j hj).2 i p hp
        · rw [pI_k (by decide), u2.sl 3 (by decide), hi5 _ (by omega) (by omega)]
        · rw [pI_k (by decide), u2.sl 4 (by decide), hi5 _ (by omega) (by omega)]
        · rw [N2 _ (by omega), hi5 _ (by omega) (by omega)]
        · show N.2 _ = _
          rw [u2.2.2 (o + 2118 + j) (fun i hi => by
            have : 15 ≤ i := by
              simp only [List.mem_cons, List.not_mem_nil, or_false] at hi
              omega
            omega), l5]
