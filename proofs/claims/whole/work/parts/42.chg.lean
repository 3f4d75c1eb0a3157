/-! A CHANGE, whole: both sides keep, then the reference writes -/
section CHG
variable {K : Kk} {R : Rr} {M : Mm}
theorem chg {o : Nat} {M1 : Mm} {S : Sx} {ps : List Pc} {f : Nat → Nat} {d : Nat} (hs : skC K R o) (hm : moA K R (o + 2118)) (hw : WF S) (hc : clC R M o S) (ho : moC M (o + 2118) S) (hx : hiX R M o S.2.2.1 S.2.2.2.1 f d) (hpp : isPs ps) (h1 : psC M1 (cont o d) ps) (e : ∀ b, b < o + 1968 → (b < cont o d ∨ cont o d + 162 ≤ b) → M1.1 b = M.1 b) (eL : M1.2 = M.2) (eH : ∀ b, o + 2118 ≤ b → M1.1 b = M.1 b) :
    ∃ R1 M17, mX1_keepDraft K R M1 (o + 20) = some (R1, M17) ∧ Rh o R R1 ∧ skC K R1 o ∧ moA K R1 (o + 2118) ∧ M17.2 = M.2 ∧ (∀ b, b ≠ o + 20 → M17.1 b = M1.1 b) ∧
      ∀ (Mx : Mm) (is0 as0 : List Nat), FM (o + 2118) is0 as0 M17 Mx → 3 ∉ is0 → 4 ∉ is0 → 12 ∉ is0 → (∀ j, j ∈ as0 → 11 ≤ j) →
        ∃ N, mX8_keep K R1 Mx (o + 2118) = some N ∧ FM (o + 2118) [3, 4] [2] Mx N ∧
          ∀ (M2 : Mm) (is as : List Nat), FM (o + 2118) is as N M2 → 3 ∉ is → 4 ∉ is → 12 ∉ is → (∀ j, j ∈ as → j = 1 ∨ 11 ≤ j) → psM (M2.2 (o + 2118 + 1)) 0 ps → Inv o K R1 M2 := by
  obtain ⟨R1, M17, f', d', k1, k2, k3, k4, k5⟩ := keepC hs hw hx h1 hpp e
  have hm1 := hm.rh k3
  have hd8 := hx.1.1
  have hd1 : cont o d = o + 22 + 162 * d := rfl
  refine ⟨R1, M17, k1, k3, hs.rh k3, hm1, k5.trans eL, k4, fun Mx is0 as0 hF h3 h4 h12 ha => ?_⟩
  have hr := moC_split.mp ho
  have e17 : ∀ b, o + 2118 ≤ b → M17.1 b = M.1 b := fun b hb => (k4 b (by omega)).trans (eH b hb)
  have hH : moH Mx (o + 2118) S.2.2.1 S.2.2.2.1 := by
    obtain ⟨a1, a2, a3, a4, a5⟩ := hr.2
    have s3 := hF.sl 3 h3
    have s4 := hF.sl 4 h4
    have r1 := hF.ar 1 (fun z => by have := ha 1 z; omega)
    have r2 := hF.ar 2 (fun z => by have := ha 2 z; omega)
    have r3 := hF.ar 3 (fun z => by have := ha 3 z; omega)
    rw [e17 _ (by omega)] at s3 s4
    rw [k5, eL] at r1 r2 r3
    exact ⟨s3.trans a1, s4.trans a2, by rw [r1]; exact a3, by rw [r2]; exact a4, by rw [r3]; exact a5⟩
  obtain ⟨N, n1, n2, n3, n4, n5, n6, n7⟩ := keepM_ok hm1 hH hw.2.2.2.1 hw.2.2.2.2.1 hw.2.2.2.2.2.1
  refine ⟨N, n1, ⟨n5, fun k hk => n4 k (fun q => hk (by rw [q]; decide)) (fun q => hk (by rw [q]; decide)), fun b hb => n6 b (hb 2 (by decide))⟩, fun M2 is as hG g3 g4 g12 ga hps => ?_⟩
  refine inv_change (M1 := M17) hs hm hw hc ho hpp k2 k3 (fun b hb => ⟨(k4 b (by omega)).trans (e b (by omega) (by omega)), by rw [k5, eL]⟩) (fun b hb => ⟨?_, ?_⟩) (fun b h1 h2 => ⟨?_, ?_⟩) ?_ ?_ ?_ hps (fun i x hi hx2 => ?_)
  · rw [hG.1 b (by omega), n5 b (by omega), hF.1 b (by omega)]
  · rw [hG.2.2 b (fun j hj => by have := ga j hj; omega), n6 b (by omega), hF.2.2 b (fun j hj => by have := ha j hj; omega)]
  · rw [hG.1 b (by omega), n5 b (by omega), hF.1 b (by omega)]; exact e17 b (by omega)
  · rw [hG.2.2 b (fun j hj => by have := ga j hj; omega), n6 b (by omega), hF.2.2 b (fun j hj => by have := ha j hj; omega), k5, eL]
  · rw [hG.sl 12 g12, n4 12 (by decide) (by decide), hF.sl 12 h12, e17 _ (by omega)]
  · rw [hG.sl 3 g3]; exact n2
  · rw [hG.sl 4 g4]; exact n3
  · rw [hG.ar 2 (fun z => by have := ga 2 z; omega)]; exact n7 i x hi hx2
theorem psC_set {c p : Nat} {ps : List Pc} {P : Pc} {M1 M2 : Mm} (h : psC M1 c ps) (hp : p < ps.length) (f : Fr (c + 2 + 4 * p) (c + 2 + 4 * p + 4) M1 M2) (g : pcC M2 (c + 2 + 4 * p) P) : psC M2 c (ps.set p P) := by
  refine ⟨by rw [(f c (by omega)).1, List.length_set]; exact h.1, fun i q hq => ?_⟩
  rw [List.getElem?_set] at hq
  by_cases hi : p = i
  · subst hi
    rw [if_pos rfl, if_pos hp] at hq
    cases hq; exact g
  · rw [if_neg hi] at hq
    exact (h.2 i q hq).fr f (by omega)
theorem pcM_eq {f g : Nat → Int64} {q : Nat} {P : Pc} (h : pcM f q P) (hl : P.1.length ≤ 16) (e : ∀ k, k < 37 → g (q + k) = f (q + k)) : pcM g q P := by
  obtain ⟨h1, h2, h3, h4, h5, h6⟩ := h
  have e0 := e 0 (by decide)
  rw [Nat.add_zero] at e0
  refine ⟨by rw [e0]; exact h1, fun i c hc => ?_, by rw [e 33 (by decide)]; exact h3, by rw [e 34 (by decide)]; exact h4, by rw [e 35 (by decide)]; exact h5, by rw [e 36 (by decide)]; exact h6⟩
  have hi := get_lt hc
  have a1 := e (1 + 2 * i) (by omega)
  have a2 := e (2 + 2 * i) (by omega)
  rw [← Nat.add_assoc] at a1 a2
  rw [a1, a2]
  exact h2 i c hc
theorem psM_set {f g : Nat → Int64} {p : Nat} {ps : List Pc} {P : Pc} (h : psM f 0 ps) (hf : fitP ps) (hp : p < ps.length) (e : ∀ k, (k < 37 * p ∨ 37 * p + 37 ≤ k) → g k = f k) (hg : pcM g (37 * p) P) : psM g 0 (ps.set p P) := by
  have h40 := hf.1
  refine ⟨by rw [e _ (by omega), List.length_set]; exact h.1, fun i q hq => ?_⟩
  rw [Nat.zero_add]
  rw [List.getElem?_set] at hq
  by_cases hi : p = i
  · subst hi
    rw [if_pos rfl, if_pos hp] at hq
    cases hq; exact hg
  · rw [if_neg hi] at hq
    exact pcM_eq (h.pc hq) (hf.2 i q hq) (fun k hk => e _ (by omega))
theorem isPs_set {p : Nat} {ps : List Pc} {P : Pc} (h : isPs ps) (hP : isPc P) : isPs (ps.set p P) := by
  refine ⟨by rw [List.length_set]; exact h.1, fun i q hq => ?_⟩
  rw [List.getElem?_set] at hq
  by_cases hi : p = i
  · rw [if_pos hi] at hq
    split at hq
    · cases hq; exact hP
    · cases hq
  · rw [if_neg hi] at hq; exact h.2 i q hq
/-- what a call that changes begins with -/
theorem hi_of {o : Nat} {S : Sx} (hc : clC R M o S) : ∃ f d, hiX R M o S.2.2.1 S.2.2.2.1 f d := hc.2.2.1
theorem moveM_ok {m p : Nat} {t a b : Int64} (hm : moA K R m) (hp : p < 40) : mX8_move K R M m (nI p) t a b = some (pL (pL (pL M (m + 1) (37 * p + 33) t) (m + 1) (37 * p + 34) a) (m + 1) (37 * p + 35) b) := by
  have h0 := hm.1
  have h1 := mo_r0 hm
  have h2 := mo_a0 hm
  have i1 : (37 : Int32) * nI p + 33 = nI (37 * p + 33) := ix37 p 33
  have i2 : (37 : Int32) * nI p + 34 = nI (37 * p + 34) := ix37 p 34
  have i3 : (37 : Int32) * nI p + 35 = nI (37 * p + 35) := ix37 p 35
  unfold mX8_move
  (repeat (first | rw [ck_t (by first | with_reducible assumption | ((with_reducible apply ixA_of); (with_reducible assumption); omega; omega) | ((with_reducible apply isAr_of); (with_reducible assumption); decide) | ((with_reducible apply nI_ne0); omega; omega) | with_reducible exact isB_0 | with_reducible exact isB_1 | with_reducible exact isB_bI _)] | rw [bd_r (by with_reducible assumption)] | rw [bd_s] | rw [bd2_s] | rw [bd3_s] | rw [nm_s] | rw [nI_clamp (by omega)] | rw [nI_1] | rw [i1] | rw [i2] | rw [i3] | rw [if_pos (by first | with_reducible assumption | ((with_reducible refine nI_lt ?_ ?_); omega; omega) | ((with_reducible refine nI_nlt ?_ ?_); omega; omega) | with_reducible exact ne10 | with_reducible rfl)] | rw [if_neg (by first | with_reducible assumption | ((with_reducible refine nI_lt ?_ ?_); omega; omega) | ((with_reducible refine nI_nlt ?_ ?_); omega; omega) | with_reducible exact ne10 | with_reducible rfl)]))
end CHG
theorem inv_aside (o : Nat) (K : Kk) (R : Rr) (M : Mm) (a0 a1 : Int32) (hI : Inv o K R M) : ∃ (v : Int64) (R1 : Rr) (M1 : Mm) (M2 : Mm), mX7_aside K R M o a0 a1 = some (v, R1, M1) ∧ mX8_aside K R1 M1 (o + 2118) a0 a1 = some (v, M2) ∧ Inv o K R1 M2 := by
  have hI0 := hI
  obtain ⟨hs, hm, S, hw, hc, ho⟩ := hI
  have hs0 := hs
  have m0 := hm.1
  obtain ⟨ps, hps, hpp⟩ := now_ps hw
  obtain ⟨c, hc1, hc2, hcA, hcC, hnow⟩ := now_at hs0 hw hc hps
  obtain ⟨f, d, hx⟩ := hi_of hc
  have hq6 : psM (M.2 (o + 2118 + 1)) 0 ps := ho.2.2.2.2.2.1 ps hps
  have h40 := hpp.1
  have hn := hcC.1
  obtain ⟨s0, -, -, s2, -, -, -, -, -, -, s9, s10, -, -, -, -, -, -, ⟨i0, -⟩, -, -, -, -, -, -, -, r1, r2, -⟩ := hs
  rcases cases_n a0 ps.length (by omega) with h | ⟨p, hp, rfl⟩
  · refine ⟨-9000000000000000001, R, M, M, ?_, ?_, hI0⟩
    · unfold mX7_aside
      (repeat (first | rw [ck_t (by first | with_reducible assumption | ((with_reducible apply ixA_of); (with_reducible assumption); omega; omega) | ((with_reducible apply isAr_of); (with_reducible assumption); decide) | ((with_reducible apply nI_ne0); omega; omega) | with_reducible exact isB_0 | with_reducible exact isB_1 | with_reducible exact isB_bI _)] | rw [bd_r (by with_reducible assumption)] | rw [bd_s] | rw [bd2_s] | rw [bd3_s] | rw [nm_s] | rw [nI_clamp (by omega)] | rw [nI_1] | rw [bd_e (isPiece_f hs0 hcA hn (hnow M rfl) h)] | rw [if_pos (by first | with_reducible assumption | ((with_reducible refine nI_lt ?_ ?_); omega; omega) | ((with_reducible refine nI_nlt ?_ ?_); omega; omega) | with_reducible exact ne10 | with_reducible rfl)] | rw [if_neg (by first | with_reducible assumption | ((with_reducible refine nI_lt ?_ ?_); omega; omega) | ((with_reducible refine nI_nlt ?_ ?_); omega; omega) | with_reducible exact ne10 | with_reducible rfl)]))
    · unfold mX8_aside
      (repeat (first | rw [ck_t (by first | with_reducible assumption | ((with_reducible apply ixA_of); (with_reducible assumption); omega; omega) | ((with_reducible apply isAr_of); (with_reducible assumption); decide) | ((with_reducible apply nI_ne0); omega; omega) | with_reducible exact isB_0 | with_reducible exact isB_1 | with_reducible exact isB_bI _)] | rw [bd_r (by with_reducible assumption)] | rw [bd_s] | rw [bd2_s] | rw [bd3_s] | rw [nm_s] | rw [nI_clamp (by omega)] | rw [nI_1] | rw [bd_e (isPieceM_f hm hq6 h h40)] | rw [if_pos (by first | with_reducible assumption | ((with_reducible refine nI_lt ?_ ?_); omega; omega) | ((with_reducible refine nI_nlt ?_ ?_); omega; omega) | with_reducible exact ne10 | with_reducible rfl)] | rw [if_neg (by first | with_reducible assumption | ((with_reducible refine nI_lt ?_ ?_); omega; omega) | ((with_reducible refine nI_nlt ?_ ?_); omega; omega) | with_reducible exact ne10 | with_reducible rfl)]))
  · have q1 := isPiece_t hs0 hcA hn (hnow M rfl) hp h40
    have q2 := isPieceM_t hm hq6 hp h40
    rcases cases_n a1 2 (by omega) with h | ⟨k, hk, rfl⟩
    · refine ⟨-9000000000000000001, R, M, M, ?_, ?_, hI0⟩
      · unfold mX7_aside
        by_cases h0 : a1 < 0
        · (repeat (first | rw [ck_t (by first | with_reducible assumption | ((with_reducible apply ixA_of); (with_reducible assumption); omega; omega) | ((with_reducible apply isAr_of); (with_reducible assumption); decide) | ((with_reducible apply nI_ne0); omega; omega) | with_reducible exact isB_0 | with_reducible exact isB_1 | with_reducible exact isB_bI _)] | rw [bd_r (by with_reducible assumption)] | rw [bd_s] | rw [bd2_s] | rw [bd3_s] | rw [nm_s] | rw [nI_clamp (by omega)] | rw [nI_1] | rw [bd_e (q1)] | rw [if_pos (by first | with_reducible assumption | ((with_reducible refine nI_lt ?_ ?_); omega; omega) | ((with_reducible refine nI_nlt ?_ ?_); omega; omega) | with_reducible exact ne10 | with_reducible rfl)] | rw [if_neg (by first | with_reducible assumption | ((with_reducible refine nI_lt ?_ ?_); omega; omega) | ((with_reducible refine nI_nlt ?_ ?_); omega; omega) | with_reducible exact ne10 | with_reducible rfl)]))
        · have h1 : ¬ a1 ≤ 1 := fun z => by
            have h := h.resolve_left h0
            rw [le32, nI_int (by decide)] at h
            rw [le32] at z
            have z : a1.toInt ≤ 1 := z
            omega
          (repeat (first | rw [ck_t (by first | with_reducible assumption | ((with_reducible apply ixA_of); (with_reducible assumption); omega; omega) | ((with_reducible apply isAr_of); (with_reducible assumption); decide) | ((with_reducible apply nI_ne0); omega; omega) | with_reducible exact isB_0 | with_reducible exact isB_1 | with_reducible exact isB_bI _)] | rw [bd_r (by with_reducible assumption)] | rw [bd_s] | rw [bd2_s] | rw [bd3_s] | rw [nm_s] | rw [nI_clamp (by omega)] | rw [nI_1] | rw [bd_e (q1)] | rw [if_pos (by first | with_reducible assumption | ((with_reducible refine nI_lt ?_ ?_); omega; omega) | ((with_reducible refine nI_nlt ?_ ?_); omega; omega) | with_reducible exact ne10 | with_reducible rfl)] | rw [if_neg (by first | with_reducible assumption | ((with_reducible refine nI_lt ?_ ?_); omega; omega) | ((with_reducible refine nI_nlt ?_ ?_); omega; omega) | with_reducible exact ne10 | with_reducible rfl)]))
      · unfold mX8_aside
        (repeat (first | rw [ck_t (by first | with_reducible assumption | ((with_reducible apply ixA_of); (with_reducible assumption); omega; omega) | ((with_reducible apply isAr_of); (with_reducible assumption); decide) | ((with_reducible apply nI_ne0); omega; omega) | with_reducible exact isB_0 | with_reducible exact isB_1 | with_reducible exact isB_bI _)] | rw [bd_r (by with_reducible assumption)] | rw [bd_s] | rw [bd2_s] | rw [bd3_s] | rw [nm_s] | rw [nI_clamp (by omega)] | rw [nI_1] | rw [bd_e (q2)] | rw [bd_e (isInN_f (n := 2) h (by decide) (by decide))] | rw [if_pos (by first | with_reducible assumption | ((with_reducible refine nI_lt ?_ ?_); omega; omega) | ((with_reducible refine nI_nlt ?_ ?_); omega; omega) | with_reducible exact ne10 | with_reducible rfl)] | rw [if_neg (by first | with_reducible assumption | ((with_reducible refine nI_lt ?_ ?_); omega; omega) | ((with_reducible refine nI_nlt ?_ ?_); omega; omega) | with_reducible exact ne10 | with_reducible rfl)]))
    · obtain ⟨P, hP⟩ := get_ex hp
      have iP := hpp.2 p P hP
      have sP := iP.1.2.1
      have hcA0 := hcA
      obtain ⟨g0, g1, g2, g3⟩ := hcA
      obtain ⟨k1, k2⟩ := g3 p (by omega)
      have k20 := k2.1
      have pC := hcC.2 p P hP
      obtain ⟨t, t1, t2⟩ := triC_ok k2 pC sP
      have hk0 : ¬ nI k < 0 := nI_pos (by omega)
      have hk1 : nI k ≤ 1 := nI_le (b := 1) (by omega) (by decide)
      have y := isInN_t (K := K) (R := R) (M := M) (n := 2) (b := 1) hk (by decide) (by decide)
      by_cases no : k = 1 ∧ ¬ P.1.length = 3
      · obtain ⟨rfl, no⟩ := no
        refine ⟨-9000000000000000002, R, M, M, ?_, ?_, hI0⟩
        · unfold mX7_aside
          rcases t2 with ⟨rfl, t2⟩ | ⟨rfl, t2⟩
          · exact absurd t2 no
          · (repeat (first | rw [ck_t (by first | with_reducible assumption | ((with_reducible apply ixA_of); (with_reducible assumption); omega; omega) | ((with_reducible apply isAr_of); (with_reducible assumption); decide) | ((with_reducible apply nI_ne0); omega; omega) | with_reducible exact isB_0 | with_reducible exact isB_1 | with_reducible exact isB_bI _)] | rw [bd_r (by with_reducible assumption)] | rw [bd_s] | rw [bd2_s] | rw [bd3_s] | rw [nm_s] | rw [nI_clamp (by omega)] | rw [nI_1] | rw [bd_e (q1)] | rw [bd_e (hnow M rfl)] | rw [if_pos (show nI 1 = 1 from rfl)] | rw [bd_e (t1)] | rw [if_pos (by first | with_reducible assumption | ((with_reducible refine nI_lt ?_ ?_); omega; omega) | ((with_reducible refine nI_nlt ?_ ?_); omega; omega) | with_reducible exact ne10 | with_reducible rfl)] | rw [if_neg (by first | with_reducible assumption | ((with_reducible refine nI_lt ?_ ?_); omega; omega) | ((with_reducible refine nI_nlt ?_ ?_); omega; omega) | with_reducible exact ne10 | with_reducible rfl)]))
        · unfold mX8_aside
          (repeat (first | rw [ck_t (by first | with_reducible assumption | ((with_reducible apply ixA_of); (with_reducible assumption); omega; omega) | ((with_reducible apply isAr_of); (with_reducible assumption); decide) | ((with_reducible apply nI_ne0); omega; omega) | with_reducible exact isB_0 | with_reducible exact isB_1 | with_reducible exact isB_bI _)] | rw [bd_r (by with_reducible assumption)] | rw [bd_s] | rw [bd2_s] | rw [bd3_s] | rw [nm_s] | rw [nI_clamp (by omega)] | rw [nI_1] | rw [bd_e (q2)] | rw [bd_e (y)] | rw [if_pos (show nI 1 = 1 from rfl)] | rw [bd_e (size_ok hm hq6 hP h40)] | rw [if_neg (show ¬ nI P.1.length = 3 from fun z => no ((nI_eq (by omega) (by decide : 3 < 2 ^ 31)).mp z))] | rw [if_pos (by first | with_reducible assumption | ((with_reducible refine nI_lt ?_ ?_); omega; omega) | ((with_reducible refine nI_nlt ?_ ?_); omega; omega) | with_reducible exact ne10 | with_reducible rfl)] | rw [if_neg (by first | with_reducible assumption | ((with_reducible refine nI_lt ?_ ?_); omega; omega) | ((with_reducible refine nI_nlt ?_ ?_); omega; omega) | with_reducible exact ne10 | with_reducible rfl)]))
      · -- the change
        have hd8 := hx.1.1
        obtain ⟨M19, d1, d2, d3, d4⟩ := draft_ok hs0 hx hw.2.2.2.1 hw.2.2.2.2.1 hps hpp.fit
        have hcd : cont o d = o + 22 + 162 * d := rfl
        have hdA := cont_psA hs0 hd8
        obtain ⟨e0, e1, e2, e3⟩ := hdA
        obtain ⟨l1, l2⟩ := e3 p (by omega)
        have l20 := l2.1
        generalize hcd0 : cont o d = cd at *
        let P' : Pc := (P.1, P.2.1, P.2.2.1, P.2.2.2.1, decide (k = 1))
        have iP' : isPc P' := iP
        generalize hM9 : pI M19 (cd + 2 + 4 * p) 4 (bI (decide (k = 1))) = M9
        have f9 : Fr (cd + 2 + 4 * p) (cd + 2 + 4 * p + 4) M19 M9 := by rw [← hM9]; exact Fr.rf.pI (by omega) (by omega)
        have p9 : pcC M9 (cd + 2 + 4 * p) P' := by
          obtain ⟨⟨a1, a2⟩, a3, a4, a5, a6⟩ := d2.2 p P hP
          have en : ∀ b, b ≠ cd + 2 + 4 * p → M9.1 b = M19.1 b := fun b hb => by rw [← hM9, pI_n hb]
          have ek : ∀ j, j ≠ 4 → M9.1 (cd + 2 + 4 * p) j = M19.1 (cd + 2 + 4 * p) j := fun j hj => by rw [← hM9, pI_k hj]
          exact ⟨⟨by rw [en _ (by omega)]; exact a1, fun i q hq => by rw [en _ (by omega), en _ (by omega)]; exact a2 i q hq⟩, by rw [ek 1 (by decide)]; exact a3, by rw [ek 2 (by decide)]; exact a4, by rw [ek 3 (by decide)]; exact a5, by rw [← hM9, pI_s]⟩
        have hps9 := psC_set d2 hp f9 p9
        subst hcd0
        obtain ⟨R1, M17, c1, c2, c3, c4, c5, c6, c7⟩ := chg hs0 hm hw hc ho hx (isPs_set hpp iP') hps9 (fun b hb h => by rw [(f9 b (by omega)).1, (d3 b h).1]) (by rw [← hM9]; exact d4) (fun b hb => by rw [(f9 b (by omega)).1, (d3 b (by omega)).1])
        obtain ⟨N, n1, n2, n3⟩ := c7 M17 [] [] FM.rf (by decide) (by decide) (by decide) (fun j hj => by cases hj)
        have hq17 : psM (M17.2 (o + 2118 + 1)) 0 ps := by rw [c5]; exact hq6
        have hqN := hq17.fr n2 (by decide)
        have c40 := c4.1
        have cr0 := mo_r0 c4
        have ca0 := mo_a0 c4
        have j36 : (37 : Int32) * nI p + 36 = nI (37 * p + 36) := ix37 p 36
        have q2' := isPieceM_t c4 hq17 hp h40
        have y' := isInN_t (K := K) (R := R1) (M := M17) (n := 2) (b := 1) hk (by decide) (by decide)
        have y36 : mX8_get K R1 N (o + 2118) (nI p) 36 = some (bL P.2.2.2.2) := by rw [get_ok (a1 := 36) (w := 36) c4 rfl (by omega) (by omega), (hqN.pc hP).2.2.2.2.2]
        have sz := size_ok c4 hq17 hP h40
        have hb1 : (nI k).toInt64 = bL (decide (k = 1)) := by
          match k, hk with
          | 0, _ => rfl
          | 1, _ => rfl
        have jm : mX8_aside_J40 K R1 M17 (o + 2118) (nI p) (nI k) = some (bL P.2.2.2.2, pL N (o + 2118 + 1) (37 * p + 36) (bL (decide (k = 1)))) := by
          unfold mX8_aside_J40
          (repeat (first | rw [ck_t (by first | with_reducible assumption | ((with_reducible apply ixA_of); (with_reducible assumption); omega; omega) | ((with_reducible apply isAr_of); (with_reducible assumption); decide) | ((with_reducible apply nI_ne0); omega; omega) | with_reducible exact isB_0 | with_reducible exact isB_1 | with_reducible exact isB_bI _)] | rw [bd_r (by with_reducible assumption)] | rw [bd_s] | rw [bd2_s] | rw [bd3_s] | rw [nm_s] | rw [nI_clamp (by omega)] | rw [nI_1] | rw [bd_e (n1)] | rw [bd_e (y36)] | rw [j36] | rw [hb1] | rw [if_pos (by first | with_reducible assumption | ((with_reducible refine nI_lt ?_ ?_); omega; omega) | ((with_reducible refine nI_nlt ?_ ?_); omega; omega) | with_reducible exact ne10 | with_reducible rfl)] | rw [if_neg (by first | with_reducible assumption | ((with_reducible refine nI_lt ?_ ?_); omega; omega) | ((with_reducible refine nI_nlt ?_ ?_); omega; omega) | with_reducible exact ne10 | with_reducible rfl)]))
        refine ⟨bL P.2.2.2.2, R1, M17, _, ?_, ?_, n3 (pL N (o + 2118 + 1) (37 * p + 36) (bL (decide (k = 1)))) [] [1] (FM.rf.pL (by decide)) (by decide) (by decide) (by decide) (fun j hj => Or.inl (List.mem_singleton.mp hj)) ?_⟩
        · have J86 : ∀ x, mX7_aside_J86 K R M19 o x (cont o d + 2 + 4 * p) (bI (decide (k = 1))) = some (x, R1, M17) := fun x => by
            unfold mX7_aside_J86
            rw [ck_t l20, ck_t (isB_bI _), nm_s, hM9]
            (repeat (first | rw [ck_t (by first | with_reducible assumption | ((with_reducible apply ixA_of); (with_reducible assumption); omega; omega) | ((with_reducible apply isAr_of); (with_reducible assumption); decide) | ((with_reducible apply nI_ne0); omega; omega) | with_reducible exact isB_0 | with_reducible exact isB_1 | with_reducible exact isB_bI _)] | rw [bd_r (by with_reducible assumption)] | rw [bd_s] | rw [bd2_s] | rw [bd3_s] | rw [nm_s] | rw [nI_clamp (by omega)] | rw [nI_1] | rw [bd2_e (c1)] | rw [if_pos (by first | with_reducible assumption | ((with_reducible refine nI_lt ?_ ?_); omega; omega) | ((with_reducible refine nI_nlt ?_ ?_); omega; omega) | with_reducible exact ne10 | with_reducible rfl)] | rw [if_neg (by first | with_reducible assumption | ((with_reducible refine nI_lt ?_ ?_); omega; omega) | ((with_reducible refine nI_nlt ?_ ?_); omega; omega) | with_reducible exact ne10 | with_reducible rfl)]))
          have J62 : ∀ x, mX7_aside_J62 K R M o (nI p) (nI k) x = some (x, R1, M17) := fun x => by
            unfold mX7_aside_J62
            (repeat (first | rw [ck_t (by first | with_reducible assumption | ((with_reducible apply ixA_of); (with_reducible assumption); omega; omega) | ((with_reducible apply isAr_of); (with_reducible assumption); decide) | ((with_reducible apply nI_ne0); omega; omega) | with_reducible exact isB_0 | with_reducible exact isB_1 | with_reducible exact isB_bI _)] | rw [bd_r (by with_reducible assumption)] | rw [bd_s] | rw [bd2_s] | rw [bd3_s] | rw [nm_s] | rw [nI_clamp (by omega)] | rw [nI_1] | rw [bd2_e (d1)] | rw [if_pos (by first | with_reducible assumption | ((with_reducible refine nI_lt ?_ ?_); omega; omega) | ((with_reducible refine nI_nlt ?_ ?_); omega; omega) | with_reducible exact ne10 | with_reducible rfl)] | rw [if_neg (by first | with_reducible assumption | ((with_reducible refine nI_lt ?_ ?_); omega; omega) | ((with_reducible refine nI_nlt ?_ ?_); omega; omega) | with_reducible exact ne10 | with_reducible rfl)]))
            match k, hk with
            | 0, _ => rw [if_neg (show ¬ nI 0 = 1 by decide)]; exact J86 x
            | 1, _ => rw [if_pos (show nI 1 = 1 from rfl)]; exact J86 x
          have J50 : mX7_aside_J50 K R M o (nI p) (nI k) (c + 2 + 4 * p) = some (bL P.2.2.2.2, R1, M17) := by
            unfold mX7_aside_J50
            (repeat (first | rw [ck_t (by first | with_reducible assumption | ((with_reducible apply ixA_of); (with_reducible assumption); omega; omega) | ((with_reducible apply isAr_of); (with_reducible assumption); decide) | ((with_reducible apply nI_ne0); omega; omega) | with_reducible exact isB_0 | with_reducible exact isB_1 | with_reducible exact isB_bI _)] | rw [bd_r (by with_reducible assumption)] | rw [bd_s] | rw [bd2_s] | rw [bd3_s] | rw [nm_s] | rw [nI_clamp (by omega)] | rw [nI_1] | rw [pC.2.2.2.2] | rw [if_pos (by first | with_reducible assumption | ((with_reducible refine nI_lt ?_ ?_); omega; omega) | ((with_reducible refine nI_nlt ?_ ?_); omega; omega) | with_reducible exact ne10 | with_reducible rfl)] | rw [if_neg (by first | with_reducible assumption | ((with_reducible refine nI_lt ?_ ?_); omega; omega) | ((with_reducible refine nI_nlt ?_ ?_); omega; omega) | with_reducible exact ne10 | with_reducible rfl)]))
            cases P.2.2.2.2 with
            | false => rw [if_pos (show bI false = 0 from rfl)]; exact J62 0
            | true => rw [if_neg (show ¬ bI true = 0 by decide)]; exact J62 1
          unfold mX7_aside
          (repeat (first | rw [ck_t (by first | with_reducible assumption | ((with_reducible apply ixA_of); (with_reducible assumption); omega; omega) | ((with_reducible apply isAr_of); (with_reducible assumption); decide) | ((with_reducible apply nI_ne0); omega; omega) | with_reducible exact isB_0 | with_reducible exact isB_1 | with_reducible exact isB_bI _)] | rw [bd_r (by with_reducible assumption)] | rw [bd_s] | rw [bd2_s] | rw [bd3_s] | rw [nm_s] | rw [nI_clamp (by omega)] | rw [nI_1] | rw [bd_e (q1)] | rw [bd_e (hnow M rfl)] | rw [if_pos (by first | with_reducible assumption | ((with_reducible refine nI_lt ?_ ?_); omega; omega) | ((with_reducible refine nI_nlt ?_ ?_); omega; omega) | with_reducible exact ne10 | with_reducible rfl)] | rw [if_neg (by first | with_reducible assumption | ((with_reducible refine nI_lt ?_ ?_); omega; omega) | ((with_reducible refine nI_nlt ?_ ?_); omega; omega) | with_reducible exact ne10 | with_reducible rfl)]))
          by_cases h1 : nI k = 1
          · have hk1 : k = 1 := (nI_eq (by omega) (by decide : 1 < 2 ^ 31)).mp h1
            rw [if_pos h1, bd_e t1]
            rcases t2 with ⟨rfl, t2⟩ | ⟨rfl, t2⟩
            · rw [if_neg ne10]; exact J50
            · exact absurd ⟨hk1, t2⟩ no
          · rw [if_neg h1]; exact J50
        · unfold mX8_aside
          (repeat (first | rw [ck_t (by first | with_reducible assumption | ((with_reducible apply ixA_of); (with_reducible assumption); omega; omega) | ((with_reducible apply isAr_of); (with_reducible assumption); decide) | ((with_reducible apply nI_ne0); omega; omega) | with_reducible exact isB_0 | with_reducible exact isB_1 | with_reducible exact isB_bI _)] | rw [bd_r (by with_reducible assumption)] | rw [bd_s] | rw [bd2_s] | rw [bd3_s] | rw [nm_s] | rw [nI_clamp (by omega)] | rw [nI_1] | rw [bd_e (q2')] | rw [bd_e (y')] | rw [if_pos (by first | with_reducible assumption | ((with_reducible refine nI_lt ?_ ?_); omega; omega) | ((with_reducible refine nI_nlt ?_ ?_); omega; omega) | with_reducible exact ne10 | with_reducible rfl)] | rw [if_neg (by first | with_reducible assumption | ((with_reducible refine nI_lt ?_ ?_); omega; omega) | ((with_reducible refine nI_nlt ?_ ?_); omega; omega) | with_reducible exact ne10 | with_reducible rfl)]))
          by_cases h1 : nI k = 1
          · have hk1 : k = 1 := (nI_eq (by omega) (by decide : 1 < 2 ^ 31)).mp h1
            have h3 : nI P.1.length = 3 := by
              by_cases z : P.1.length = 3
              · rw [z]; rfl
              · exact absurd ⟨hk1, z⟩ no
            rw [if_pos h1, bd_e sz, if_pos h3]; exact jm
          · rw [if_neg h1]; exact jm
        · refine psM_set (P := P') hqN hpp.fit hp (fun j hj => pL_k (by omega)) ?_
          obtain ⟨a1, a2, a3, a4, a5, a6⟩ := hqN.pc hP
          refine ⟨by rw [pL_k (by omega)]; exact a1, fun i q hq => ?_, by rw [pL_k (by omega)]; exact a3, by rw [pL_k (by omega)]; exact a4, by rw [pL_k (by omega)]; exact a5, pL_s⟩
          have hi : i < P.1.length := get_lt hq
          rw [pL_k (by omega), pL_k (by omega)]
          exact a2 i q hq
