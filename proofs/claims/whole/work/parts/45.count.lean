/-! sums of areas, count -/
def arP (ps : List Pc) (j : Nat) : Int := match ps[j]? with
  | some P => if P.2.2.2.2 = true then 0 else area P.1
  | none => 0
theorem arP_of {ps : List Pc} {j : Nat} {P : Pc} (h : ps[j]? = some P) : arP ps j = if P.2.2.2.2 = true then 0 else area P.1 := by unfold arP; rw [h]
theorem arP_b {ps : List Pc} (h : isPs ps) (j : Nat) : -400000000000 ≤ arP ps j ∧ arP ps j ≤ 400000000000 := by
  cases hj : ps[j]? with
  | none => unfold arP; rw [hj]; simp
  | some P =>
    rw [arP_of hj]
    have iP := h.2 j P hj
    have := area_b iP.1.B iP.1.2.1
    split <;> omega
theorem arS_b {ps : List Pc} (h : isPs ps) : ∀ n : Nat, n ≤ 40 → -400000000000 * (n : Int) ≤ sumN (arP ps) n ∧ sumN (arP ps) n ≤ 400000000000 * (n : Int)
  | 0, _ => by simp [sumN]
  | n + 1, hn => by
    have a := arS_b h n (by omega)
    have b := arP_b h n
    simp only [sumN]
    omega
section CNT
variable {K : Kk} {R : Rr} {M : Mm}
theorem bI_ne {b : Bool} : (bI b = 0) ↔ b = false := by cases b <;> simp [bI]
theorem areasC_ok {c : Nat} {ps : List Pc} (hA : psA K R c) (h : psC M c ps) (hpp : isPs ps) : ∃ v, mX4_twiceArea K R M c = some v ∧ v.toInt = sumN (arP ps) ps.length := by
  obtain ⟨g0, g1, g2, g3⟩ := hA
  have e := h.1
  have h40 := hpp.1
  have hL := lp_ind (f := mX4_twiceArea_L4 K R M c) (fun (i : Nat) (s : Int64 × Int32) => s.2 = nI i ∧ s.1.toInt = sumN (arP ps) i) (fun v => v.toInt = sumN (arP ps) ps.length) ps.length ?_ ?_
  · obtain ⟨v, e1, e2⟩ := hL ps.length 0 (0, nI 0) (by omega) ⟨rfl, rfl⟩
    refine ⟨v, ?_, e2⟩
    unfold mX4_twiceArea
    (repeat (first | rw [ck_t (by first | with_reducible assumption | ((with_reducible apply ixA_of); (with_reducible assumption); omega; omega) | ((with_reducible apply isAr_of); (with_reducible assumption); decide) | ((with_reducible apply nI_ne0); omega; omega) | with_reducible exact isB_0 | with_reducible exact isB_1 | with_reducible exact isB_bI _)] | rw [bd_r (by with_reducible assumption)] | rw [bd_s] | rw [bd2_s] | rw [bd3_s] | rw [nm_s] | rw [nI_clamp (by omega)] | rw [nI_1] | rw [if_pos (by first | with_reducible assumption | ((with_reducible refine nI_lt ?_ ?_); omega; omega) | ((with_reducible refine nI_nlt ?_ ?_); omega; omega) | with_reducible exact ne10 | with_reducible rfl)] | rw [if_neg (by first | with_reducible assumption | ((with_reducible refine nI_lt ?_ ?_); omega; omega) | ((with_reducible refine nI_nlt ?_ ?_); omega; omega) | with_reducible exact ne10 | with_reducible rfl)]))
    exact e1
  · rintro i ⟨s, z⟩ hi ⟨rfl, f⟩
    have f : s.toInt = sumN (arP ps) i := f
    obtain ⟨P, hP⟩ := get_ex hi
    have iP := hpp.2 i P hP
    have sP := iP.1.2.1
    obtain ⟨k1, k2⟩ := g3 i (by omega)
    obtain ⟨k20, kr, ka⟩ := k2
    have kaO := ka.1
    have pC := h.2 i P hP
    have b1 := arP_b hpp i
    have b2 := arS_b hpp i (by omega)
    have ho : ∀ w : Int64, mX4_twiceArea_J41 K R M c (nI i) s w = some (.inl (s + w, nI (i + 1))) := fun w => by unfold mX4_twiceArea_J41; (repeat (first | rw [ck_t (by first | with_reducible assumption | ((with_reducible apply ixA_of); (with_reducible assumption); omega; omega) | ((with_reducible apply isAr_of); (with_reducible assumption); decide) | ((with_reducible apply nI_ne0); omega; omega) | with_reducible exact isB_0 | with_reducible exact isB_1 | with_reducible exact isB_bI _)] | rw [bd_r (by with_reducible assumption)] | rw [bd_s] | rw [bd2_s] | rw [bd3_s] | rw [nm_s] | rw [nI_clamp (by omega)] | rw [nI_1] | rw [if_pos (by first | with_reducible assumption | ((with_reducible refine nI_lt ?_ ?_); omega; omega) | ((with_reducible refine nI_nlt ?_ ?_); omega; omega) | with_reducible exact ne10 | with_reducible rfl)] | rw [if_neg (by first | with_reducible assumption | ((with_reducible refine nI_lt ?_ ?_); omega; omega) | ((with_reducible refine nI_nlt ?_ ?_); omega; omega) | with_reducible exact ne10 | with_reducible rfl)]))
    left
    show ∃ s', mX4_twiceArea_B4 K R M c s (nI i) = some (.inl s') ∧ _
    unfold mX4_twiceArea_B4
    (repeat (first | rw [ck_t (by first | with_reducible assumption | ((with_reducible apply ixA_of); (with_reducible assumption); omega; omega) | ((with_reducible apply isAr_of); (with_reducible assumption); decide) | ((with_reducible apply nI_ne0); omega; omega) | with_reducible exact isB_0 | with_reducible exact isB_1 | with_reducible exact isB_bI _)] | rw [bd_r (by with_reducible assumption)] | rw [bd_s] | rw [bd2_s] | rw [bd3_s] | rw [nm_s] | rw [nI_clamp (by omega)] | rw [nI_1] | rw [e] | rw [pC.2.2.2.2] | rw [if_pos (by first | with_reducible assumption | ((with_reducible refine nI_lt ?_ ?_); omega; omega) | ((with_reducible refine nI_nlt ?_ ?_); omega; omega) | with_reducible exact ne10 | with_reducible rfl)] | rw [if_neg (by first | with_reducible assumption | ((with_reducible refine nI_lt ?_ ?_); omega; omega) | ((with_reducible refine nI_nlt ?_ ?_); omega; omega) | with_reducible exact ne10 | with_reducible rfl)]))
    have aw : ∀ w : Int64, w.toInt = arP ps i → (s + w).toInt = sumN (arP ps) (i + 1) := fun w hw => by
      rw [add64 (by rw [f, hw]; omega) (by rw [f, hw]; omega), f, hw]; rfl
    cases hb : P.2.2.2.2 with
    | true =>
      rw [if_neg (by decide)]
      exact ⟨_, ho 0, rfl, aw 0 (by rw [arP_of hP, if_pos hb]; rfl)⟩
    | false =>
      obtain ⟨w, w1, w2⟩ := areaC_ok ka pC.1 (by omega) (by omega) (by decide) iP.1.B
      rw [if_pos (by decide)]
      (repeat (first | rw [ck_t (by first | with_reducible assumption | ((with_reducible apply ixA_of); (with_reducible assumption); omega; omega) | ((with_reducible apply isAr_of); (with_reducible assumption); decide) | ((with_reducible apply nI_ne0); omega; omega) | with_reducible exact isB_0 | with_reducible exact isB_1 | with_reducible exact isB_bI _)] | rw [bd_r (by with_reducible assumption)] | rw [bd_s] | rw [bd2_s] | rw [bd3_s] | rw [nm_s] | rw [nI_clamp (by omega)] | rw [nI_1] | rw [bd_e (w1)] | rw [if_pos (by first | with_reducible assumption | ((with_reducible refine nI_lt ?_ ?_); omega; omega) | ((with_reducible refine nI_nlt ?_ ?_); omega; omega) | with_reducible exact ne10 | with_reducible rfl)] | rw [if_neg (by first | with_reducible assumption | ((with_reducible refine nI_lt ?_ ?_); omega; omega) | ((with_reducible refine nI_nlt ?_ ?_); omega; omega) | with_reducible exact ne10 | with_reducible rfl)]))
      exact ⟨_, ho w, rfl, aw w (by rw [arP_of hP, hb]; exact w2)⟩
  · rintro ⟨s, z⟩ ⟨rfl, f⟩
    refine ⟨s, ?_, f⟩
    show mX4_twiceArea_B4 K R M c s (nI ps.length) = _
    unfold mX4_twiceArea_B4
    (repeat (first | rw [ck_t (by first | with_reducible assumption | ((with_reducible apply ixA_of); (with_reducible assumption); omega; omega) | ((with_reducible apply isAr_of); (with_reducible assumption); decide) | ((with_reducible apply nI_ne0); omega; omega) | with_reducible exact isB_0 | with_reducible exact isB_1 | with_reducible exact isB_bI _)] | rw [bd_r (by with_reducible assumption)] | rw [bd_s] | rw [bd2_s] | rw [bd3_s] | rw [nm_s] | rw [nI_clamp (by omega)] | rw [nI_1] | rw [e] | rw [if_pos (by first | with_reducible assumption | ((with_reducible refine nI_lt ?_ ?_); omega; omega) | ((with_reducible refine nI_nlt ?_ ?_); omega; omega) | with_reducible exact ne10 | with_reducible rfl)] | rw [if_neg (by first | with_reducible assumption | ((with_reducible refine nI_lt ?_ ?_); omega; omega) | ((with_reducible refine nI_nlt ?_ ?_); omega; omega) | with_reducible exact ne10 | with_reducible rfl)]))
    rfl
theorem isLaid_ok {m p : Nat} {P : Pc} {ps : List Pc} (hm : moA K R m) (hps : psM (M.2 (m + 1)) 0 ps) (hp : ps[p]? = some P) (h40 : ps.length ≤ 40) : ∃ v, mX8_isLaid K R M m (nI p) = some v ∧ iv v (P.2.2.2.2 = false) := by
  have h0 := hm.1
  have hpl := get_lt hp
  have e36 := (hps.pc hp).2.2.2.2.2
  have g36 : mX8_get K R M m (nI p) 36 = some (bL P.2.2.2.2) := by rw [get_ok (a1 := 36) (w := 36) hm rfl (by omega) (by omega), e36]
  unfold mX8_isLaid
  (repeat (first | rw [ck_t (by first | with_reducible assumption | ((with_reducible apply ixA_of); (with_reducible assumption); omega; omega) | ((with_reducible apply isAr_of); (with_reducible assumption); decide) | ((with_reducible apply nI_ne0); omega; omega) | with_reducible exact isB_0 | with_reducible exact isB_1 | with_reducible exact isB_bI _)] | rw [bd_r (by with_reducible assumption)] | rw [bd_s] | rw [bd2_s] | rw [bd3_s] | rw [nm_s] | rw [nI_clamp (by omega)] | rw [nI_1] | rw [bd_e (g36)] | rw [if_pos (by first | with_reducible assumption | ((with_reducible refine nI_lt ?_ ?_); omega; omega) | ((with_reducible refine nI_nlt ?_ ?_); omega; omega) | with_reducible exact ne10 | with_reducible rfl)] | rw [if_neg (by first | with_reducible assumption | ((with_reducible refine nI_lt ?_ ?_); omega; omega) | ((with_reducible refine nI_nlt ?_ ?_); omega; omega) | with_reducible exact ne10 | with_reducible rfl)]))
  cases P.2.2.2.2 with
  | false => exact ⟨1, by rw [if_pos (by decide)], Or.inl ⟨rfl, rfl⟩⟩
  | true => exact ⟨0, by rw [if_neg (by decide)], Or.inr ⟨rfl, by decide⟩⟩
theorem areasM_ok {m : Nat} {ps : List Pc} (hm : moA K R m) (hps : psM (M.2 (m + 1)) 0 ps) (hpp : isPs ps) : ∃ v M', mX8_allAreas K R M m = some (v, M') ∧ v.toInt = sumN (arP ps) ps.length ∧ FM m [15, 21, 24] [11, 12, 15, 16, 17, 18] M M' := by
  have h0 := hm.1
  have h40 := hpp.1
  have hL := lp_ind (f := mX8_allAreas_L4 K R m) (fun (i : Nat) (s : Int64 × Int32 × Mm) => s.2.1 = nI i ∧ s.1.toInt = sumN (arP ps) i ∧ FM m [15, 21, 24] [11, 12, 15, 16, 17, 18] M s.2.2) (fun v => v.1.toInt = sumN (arP ps) ps.length ∧ FM m [15, 21, 24] [11, 12, 15, 16, 17, 18] M v.2) ps.length ?_ ?_
  · obtain ⟨⟨v, M'⟩, e1, e2, e3⟩ := hL ps.length 0 (0, nI 0, M) (by omega) ⟨rfl, rfl, FM.rf⟩
    refine ⟨v, M', ?_, e2, e3⟩
    unfold mX8_allAreas
    (repeat (first | rw [ck_t (by first | with_reducible assumption | ((with_reducible apply ixA_of); (with_reducible assumption); omega; omega) | ((with_reducible apply isAr_of); (with_reducible assumption); decide) | ((with_reducible apply nI_ne0); omega; omega) | with_reducible exact isB_0 | with_reducible exact isB_1 | with_reducible exact isB_bI _)] | rw [bd_r (by with_reducible assumption)] | rw [bd_s] | rw [bd2_s] | rw [bd3_s] | rw [nm_s] | rw [nI_clamp (by omega)] | rw [nI_1] | rw [if_pos (by first | with_reducible assumption | ((with_reducible refine nI_lt ?_ ?_); omega; omega) | ((with_reducible refine nI_nlt ?_ ?_); omega; omega) | with_reducible exact ne10 | with_reducible rfl)] | rw [if_neg (by first | with_reducible assumption | ((with_reducible refine nI_lt ?_ ?_); omega; omega) | ((with_reducible refine nI_nlt ?_ ?_); omega; omega) | with_reducible exact ne10 | with_reducible rfl)]))
    exact e1
  · rintro i ⟨s, z, N⟩ hi ⟨rfl, f, f2⟩
    have f : s.toInt = sumN (arP ps) i := f
    have f2 : FM m [15, 21, 24] [11, 12, 15, 16, 17, 18] M N := f2
    have hN := hps.fr f2 (by decide)
    obtain ⟨P, hP⟩ := get_ex hi
    have iP := hpp.2 i P hP
    have sP := iP.1.2.1
    have b1 := arP_b hpp i
    have b2 := arS_b hpp i (by omega)
    have ho : ∀ (N : Mm) (w : Int64), mX8_allAreas_J30 K R N m (nI i) s w = some (.inl (s + w, nI (i + 1), N)) := fun N w => by unfold mX8_allAreas_J30; (repeat (first | rw [ck_t (by first | with_reducible assumption | ((with_reducible apply ixA_of); (with_reducible assumption); omega; omega) | ((with_reducible apply isAr_of); (with_reducible assumption); decide) | ((with_reducible apply nI_ne0); omega; omega) | with_reducible exact isB_0 | with_reducible exact isB_1 | with_reducible exact isB_bI _)] | rw [bd_r (by with_reducible assumption)] | rw [bd_s] | rw [bd2_s] | rw [bd3_s] | rw [nm_s] | rw [nI_clamp (by omega)] | rw [nI_1] | rw [if_pos (by first | with_reducible assumption | ((with_reducible refine nI_lt ?_ ?_); omega; omega) | ((with_reducible refine nI_nlt ?_ ?_); omega; omega) | with_reducible exact ne10 | with_reducible rfl)] | rw [if_neg (by first | with_reducible assumption | ((with_reducible refine nI_lt ?_ ?_); omega; omega) | ((with_reducible refine nI_nlt ?_ ?_); omega; omega) | with_reducible exact ne10 | with_reducible rfl)]))
    left
    show ∃ s', mX8_allAreas_B4 K R m s (nI i) N = some (.inl s') ∧ _
    obtain ⟨v, v1, v2⟩ := isLaid_ok hm hN hP h40
    unfold mX8_allAreas_B4
    (repeat (first | rw [ck_t (by first | with_reducible assumption | ((with_reducible apply ixA_of); (with_reducible assumption); omega; omega) | ((with_reducible apply isAr_of); (with_reducible assumption); decide) | ((with_reducible apply nI_ne0); omega; omega) | with_reducible exact isB_0 | with_reducible exact isB_1 | with_reducible exact isB_bI _)] | rw [bd_r (by with_reducible assumption)] | rw [bd_s] | rw [bd2_s] | rw [bd3_s] | rw [nm_s] | rw [nI_clamp (by omega)] | rw [nI_1] | rw [bd_e (piecesM_ok hm hN)] | rw [bd_e (v1)] | rw [if_pos (by first | with_reducible assumption | ((with_reducible refine nI_lt ?_ ?_); omega; omega) | ((with_reducible refine nI_nlt ?_ ?_); omega; omega) | with_reducible exact ne10 | with_reducible rfl)] | rw [if_neg (by first | with_reducible assumption | ((with_reducible refine nI_lt ?_ ?_); omega; omega) | ((with_reducible refine nI_nlt ?_ ?_); omega; omega) | with_reducible exact ne10 | with_reducible rfl)]))
    have aw : ∀ w : Int64, w.toInt = arP ps i → (s + w).toInt = sumN (arP ps) (i + 1) := fun w hw => by
      rw [add64 (by rw [f, hw]; omega) (by rw [f, hw]; omega), f, hw]; rfl
    rcases v2 with ⟨rfl, v2⟩ | ⟨rfl, v2⟩
    · obtain ⟨w, N2, w1, w2, w3⟩ := areaOf_ok hm hN hP h40 iP
      rw [if_neg ne10, bd2_e w1]
      exact ⟨_, ho N2 w, rfl, aw w (by rw [arP_of hP, v2]; exact w2), f2.tr w3⟩
    · rw [if_pos rfl]
      exact ⟨_, ho N 0, rfl, aw 0 (by rw [arP_of hP, if_pos (by simpa using v2)]; rfl), f2⟩
  · rintro ⟨s, z, N⟩ ⟨rfl, f, f2⟩
    have f2 : FM m [15, 21, 24] [11, 12, 15, 16, 17, 18] M N := f2
    have hN := hps.fr f2 (by decide)
    refine ⟨(s, N), ?_, f, f2⟩
    show mX8_allAreas_B4 K R m s (nI ps.length) N = _
    unfold mX8_allAreas_B4
    (repeat (first | rw [ck_t (by first | with_reducible assumption | ((with_reducible apply ixA_of); (with_reducible assumption); omega; omega) | ((with_reducible apply isAr_of); (with_reducible assumption); decide) | ((with_reducible apply nI_ne0); omega; omega) | with_reducible exact isB_0 | with_reducible exact isB_1 | with_reducible exact isB_bI _)] | rw [bd_r (by with_reducible assumption)] | rw [bd_s] | rw [bd2_s] | rw [bd3_s] | rw [nm_s] | rw [nI_clamp (by omega)] | rw [nI_1] | rw [bd_e (piecesM_ok hm hN)] | rw [if_pos (by first | with_reducible assumption | ((with_reducible refine nI_lt ?_ ?_); omega; omega) | ((with_reducible refine nI_nlt ?_ ?_); omega; omega) | with_reducible exact ne10 | with_reducible rfl)] | rw [if_neg (by first | with_reducible assumption | ((with_reducible refine nI_lt ?_ ?_); omega; omega) | ((with_reducible refine nI_nlt ?_ ?_); omega; omega) | with_reducible exact ne10 | with_reducible rfl)]))
    rfl
theorem told_ok {o : Nat} {g : Nat → List Pt} (hs : skC K R o) (h : ∀ k, k < 5 → rgC M (o + 5 + 3 * k) (g k)) (hl : ∀ k, k < 5 → (g k).length ≤ 16) : mX7_figuresTold K R M o = some (lN (cntB (fun k => decide ((g k).length ≠ 0)) 5)) := by
  obtain ⟨s0, -, s1, -, -, -, -, -, -, -, -, -, -, -, -, -, b1, b2, -⟩ := hs
  have hL := lp_ind (f := mX7_figuresTold_L4 K R M o) (fun (i : Nat) (s : Int64 × Int32) => s.2 = nI i ∧ s.1 = lN (cntB (fun k => decide ((g k).length ≠ 0)) i)) (fun v => v = lN (cntB (fun k => decide ((g k).length ≠ 0)) 5)) 5 ?_ ?_
  · obtain ⟨v, e1, rfl⟩ := hL 5 0 (0, nI 0) rfl ⟨rfl, rfl⟩
    unfold mX7_figuresTold
    (repeat (first | rw [ck_t (by first | with_reducible assumption | ((with_reducible apply ixA_of); (with_reducible assumption); omega; omega) | ((with_reducible apply isAr_of); (with_reducible assumption); decide) | ((with_reducible apply nI_ne0); omega; omega) | with_reducible exact isB_0 | with_reducible exact isB_1 | with_reducible exact isB_bI _)] | rw [bd_r (by with_reducible assumption)] | rw [bd_s] | rw [bd2_s] | rw [bd3_s] | rw [nm_s] | rw [nI_clamp (by omega)] | rw [nI_1] | rw [if_pos (by first | with_reducible assumption | ((with_reducible refine nI_lt ?_ ?_); omega; omega) | ((with_reducible refine nI_nlt ?_ ?_); omega; omega) | with_reducible exact ne10 | with_reducible rfl)] | rw [if_neg (by first | with_reducible assumption | ((with_reducible refine nI_lt ?_ ?_); omega; omega) | ((with_reducible refine nI_nlt ?_ ?_); omega; omega) | with_reducible exact ne10 | with_reducible rfl)]))
    exact e1
  · rintro i ⟨s, z⟩ hi ⟨rfl, f⟩
    have f : s = _ := f
    subst f
    obtain ⟨k1, k2⟩ := b2 i hi
    have k20 := k2.1
    have e := (h i hi).1
    have li := hl i hi
    have ho : ∀ (s w : Int64), mX7_figuresTold_J27 K R M o (nI i) s w = some (.inl (s + w, nI (i + 1))) := fun s w => by unfold mX7_figuresTold_J27; (repeat (first | rw [ck_t (by first | with_reducible assumption | ((with_reducible apply ixA_of); (with_reducible assumption); omega; omega) | ((with_reducible apply isAr_of); (with_reducible assumption); decide) | ((with_reducible apply nI_ne0); omega; omega) | with_reducible exact isB_0 | with_reducible exact isB_1 | with_reducible exact isB_bI _)] | rw [bd_r (by with_reducible assumption)] | rw [bd_s] | rw [bd2_s] | rw [bd3_s] | rw [nm_s] | rw [nI_clamp (by omega)] | rw [nI_1] | rw [if_pos (by first | with_reducible assumption | ((with_reducible refine nI_lt ?_ ?_); omega; omega) | ((with_reducible refine nI_nlt ?_ ?_); omega; omega) | with_reducible exact ne10 | with_reducible rfl)] | rw [if_neg (by first | with_reducible assumption | ((with_reducible refine nI_lt ?_ ?_); omega; omega) | ((with_reducible refine nI_nlt ?_ ?_); omega; omega) | with_reducible exact ne10 | with_reducible rfl)]))
    left
    show ∃ s', mX7_figuresTold_B4 K R M o (lN (cntB (fun k => decide ((g k).length ≠ 0)) i)) (nI i) = some (.inl s') ∧ _
    unfold mX7_figuresTold_B4
    (repeat (first | rw [ck_t (by first | with_reducible assumption | ((with_reducible apply ixA_of); (with_reducible assumption); omega; omega) | ((with_reducible apply isAr_of); (with_reducible assumption); decide) | ((with_reducible apply nI_ne0); omega; omega) | with_reducible exact isB_0 | with_reducible exact isB_1 | with_reducible exact isB_bI _)] | rw [bd_r (by with_reducible assumption)] | rw [bd_s] | rw [bd2_s] | rw [bd3_s] | rw [nm_s] | rw [nI_clamp (by omega)] | rw [nI_1] | rw [if_pos (show nI i < 5 from nI_lt (b := 5) hi (by decide))] | rw [e] | rw [if_pos (by first | with_reducible assumption | ((with_reducible refine nI_lt ?_ ?_); omega; omega) | ((with_reducible refine nI_nlt ?_ ?_); omega; omega) | with_reducible exact ne10 | with_reducible rfl)] | rw [if_neg (by first | with_reducible assumption | ((with_reducible refine nI_lt ?_ ?_); omega; omega) | ((with_reducible refine nI_nlt ?_ ?_); omega; omega) | with_reducible exact ne10 | with_reducible rfl)]))
    by_cases c : (g i).length = 0
    · rw [if_pos (by rw [c]; rfl)]
      refine ⟨_, ho _ 0, rfl, ?_⟩
      rw [cntB_n (by simp [c])]
      exact lN_add _ 0
    · rw [if_neg (nI_ne0 (by omega) (by omega))]
      refine ⟨_, ho _ 1, rfl, ?_⟩
      rw [cntB_s (by simp [c])]
      exact lN_1 _
  · rintro ⟨s, z⟩ ⟨rfl, f⟩
    refine ⟨s, ?_, f⟩
    show mX7_figuresTold_B4 K R M o s (nI 5) = _
    unfold mX7_figuresTold_B4
    rw [if_neg (by decide)]
    rfl
theorem laidC_ok {o : Nat} {g : Nat → Option (List Pc)} (hs : skC K R o) (h : ∀ k, k < 4 → M.1 (o + 1967) k = bI (g k).isSome) : mX7_plansLaid K R M o = some (lN (cntB (fun k => (g k).isSome) 4)) := by
  obtain ⟨s0, -, -, -, -, s4, -, -, -, -, -, -, -, -, -, -, -, -, -, -, -, b7, -⟩ := hs
  have hL := lp_ind (f := mX7_plansLaid_L4 K R M o) (fun (i : Nat) (s : Int64 × Int32) => s.2 = nI i ∧ s.1 = lN (cntB (fun k => (g k).isSome) i)) (fun v => v = lN (cntB (fun k => (g k).isSome) 4)) 4 ?_ ?_
  · obtain ⟨v, e1, rfl⟩ := hL 4 0 (0, nI 0) rfl ⟨rfl, rfl⟩
    unfold mX7_plansLaid
    (repeat (first | rw [ck_t (by first | with_reducible assumption | ((with_reducible apply ixA_of); (with_reducible assumption); omega; omega) | ((with_reducible apply isAr_of); (with_reducible assumption); decide) | ((with_reducible apply nI_ne0); omega; omega) | with_reducible exact isB_0 | with_reducible exact isB_1 | with_reducible exact isB_bI _)] | rw [bd_r (by with_reducible assumption)] | rw [bd_s] | rw [bd2_s] | rw [bd3_s] | rw [nm_s] | rw [nI_clamp (by omega)] | rw [nI_1] | rw [if_pos (by first | with_reducible assumption | ((with_reducible refine nI_lt ?_ ?_); omega; omega) | ((with_reducible refine nI_nlt ?_ ?_); omega; omega) | with_reducible exact ne10 | with_reducible rfl)] | rw [if_neg (by first | with_reducible assumption | ((with_reducible refine nI_lt ?_ ?_); omega; omega) | ((with_reducible refine nI_nlt ?_ ?_); omega; omega) | with_reducible exact ne10 | with_reducible rfl)]))
    exact e1
  · rintro i ⟨s, z⟩ hi ⟨rfl, f⟩
    have f : s = _ := f
    subst f
    have ho : ∀ (s w : Int64), mX7_plansLaid_J24 K R M o (nI i) s w = some (.inl (s + w, nI (i + 1))) := fun s w => by unfold mX7_plansLaid_J24; (repeat (first | rw [ck_t (by first | with_reducible assumption | ((with_reducible apply ixA_of); (with_reducible assumption); omega; omega) | ((with_reducible apply isAr_of); (with_reducible assumption); decide) | ((with_reducible apply nI_ne0); omega; omega) | with_reducible exact isB_0 | with_reducible exact isB_1 | with_reducible exact isB_bI _)] | rw [bd_r (by with_reducible assumption)] | rw [bd_s] | rw [bd2_s] | rw [bd3_s] | rw [nm_s] | rw [nI_clamp (by omega)] | rw [nI_1] | rw [if_pos (by first | with_reducible assumption | ((with_reducible refine nI_lt ?_ ?_); omega; omega) | ((with_reducible refine nI_nlt ?_ ?_); omega; omega) | with_reducible exact ne10 | with_reducible rfl)] | rw [if_neg (by first | with_reducible assumption | ((with_reducible refine nI_lt ?_ ?_); omega; omega) | ((with_reducible refine nI_nlt ?_ ?_); omega; omega) | with_reducible exact ne10 | with_reducible rfl)]))
    left
    show ∃ s', mX7_plansLaid_B4 K R M o (lN (cntB (fun k => (g k).isSome) i)) (nI i) = some (.inl s') ∧ _
    unfold mX7_plansLaid_B4
    (repeat (first | rw [ck_t (by first | with_reducible assumption | ((with_reducible apply ixA_of); (with_reducible assumption); omega; omega) | ((with_reducible apply isAr_of); (with_reducible assumption); decide) | ((with_reducible apply nI_ne0); omega; omega) | with_reducible exact isB_0 | with_reducible exact isB_1 | with_reducible exact isB_bI _)] | rw [bd_r (by with_reducible assumption)] | rw [bd_s] | rw [bd2_s] | rw [bd3_s] | rw [nm_s] | rw [nI_clamp (by omega)] | rw [nI_1] | rw [if_pos (show nI i < 4 from nI_lt (b := 4) hi (by decide))] | rw [h i hi] | rw [if_pos (by first | with_reducible assumption | ((with_reducible refine nI_lt ?_ ?_); omega; omega) | ((with_reducible refine nI_nlt ?_ ?_); omega; omega) | with_reducible exact ne10 | with_reducible rfl)] | rw [if_neg (by first | with_reducible assumption | ((with_reducible refine nI_lt ?_ ?_); omega; omega) | ((with_reducible refine nI_nlt ?_ ?_); omega; omega) | with_reducible exact ne10 | with_reducible rfl)]))
    cases c : (g i).isSome with
    | false =>
      rw [if_pos (by decide)]
      refine ⟨_, ho _ 0, rfl, ?_⟩
      rw [cntB_n c]
      exact lN_add _ 0
    | true =>
      rw [if_neg (by decide)]
      refine ⟨_, ho _ 1, rfl, ?_⟩
      rw [cntB_s c]
      exact lN_1 _
  · rintro ⟨s, z⟩ ⟨rfl, f⟩
    refine ⟨s, ?_, f⟩
    show mX7_plansLaid_B4 K R M o s (nI 4) = _
    unfold mX7_plansLaid_B4
    rw [if_neg (by decide)]
    rfl
theorem toldM_ok {m : Nat} {g : Nat → List Pt} (hm : moA K R m) (h : ∀ k, k < 5 → M.1 (m + 8) k = nI (g k).length) (hl : ∀ k, k < 5 → (g k).length ≤ 16) : lp (mX8_count_L58 K R M m) (0, 0) = some (lN (cntB (fun k => decide ((g k).length ≠ 0)) 5), M) := by
  have h1 := mo_r9 hm
  have h2 := mo_a9 hm
  have hL := lp_ind (f := mX8_count_L58 K R M m) (fun (i : Nat) (s : Int32 × Int32) => s.2 = nI i ∧ s.1 = nI (cntB (fun k => decide ((g k).length ≠ 0)) i)) (fun v => v = (lN (cntB (fun k => decide ((g k).length ≠ 0)) 5), M)) 5 ?_ ?_
  · obtain ⟨v, e1, rfl⟩ := hL 5 0 (nI 0, nI 0) rfl ⟨rfl, rfl⟩
    exact e1
  · rintro i ⟨s, z⟩ hi ⟨rfl, f⟩
    have f : s = _ := f
    subst f
    have e := h i hi
    have li := hl i hi
    have ho : ∀ (s w : Int32), mX8_count_J78 K R M m (nI i) s w = some (.inl (s + w, nI (i + 1))) := fun s w => by unfold mX8_count_J78; (repeat (first | rw [ck_t (by first | with_reducible assumption | ((with_reducible apply ixA_of); (with_reducible assumption); omega; omega) | ((with_reducible apply isAr_of); (with_reducible assumption); decide) | ((with_reducible apply nI_ne0); omega; omega) | with_reducible exact isB_0 | with_reducible exact isB_1 | with_reducible exact isB_bI _)] | rw [bd_r (by with_reducible assumption)] | rw [bd_s] | rw [bd2_s] | rw [bd3_s] | rw [nm_s] | rw [nI_clamp (by omega)] | rw [nI_1] | rw [if_pos (by first | with_reducible assumption | ((with_reducible refine nI_lt ?_ ?_); omega; omega) | ((with_reducible refine nI_nlt ?_ ?_); omega; omega) | with_reducible exact ne10 | with_reducible rfl)] | rw [if_neg (by first | with_reducible assumption | ((with_reducible refine nI_lt ?_ ?_); omega; omega) | ((with_reducible refine nI_nlt ?_ ?_); omega; omega) | with_reducible exact ne10 | with_reducible rfl)]))
    left
    show ∃ s', mX8_count_B58 K R M m (nI (cntB (fun k => decide ((g k).length ≠ 0)) i)) (nI i) = some (.inl s') ∧ _
    unfold mX8_count_B58
    (repeat (first | rw [ck_t (by first | with_reducible assumption | ((with_reducible apply ixA_of); (with_reducible assumption); omega; omega) | ((with_reducible apply isAr_of); (with_reducible assumption); decide) | ((with_reducible apply nI_ne0); omega; omega) | with_reducible exact isB_0 | with_reducible exact isB_1 | with_reducible exact isB_bI _)] | rw [bd_r (by with_reducible assumption)] | rw [bd_s] | rw [bd2_s] | rw [bd3_s] | rw [nm_s] | rw [nI_clamp (by omega)] | rw [nI_1] | rw [if_pos (show nI i < 5 from nI_lt (b := 5) hi (by decide))] | rw [e] | rw [if_pos (by first | with_reducible assumption | ((with_reducible refine nI_lt ?_ ?_); omega; omega) | ((with_reducible refine nI_nlt ?_ ?_); omega; omega) | with_reducible exact ne10 | with_reducible rfl)] | rw [if_neg (by first | with_reducible assumption | ((with_reducible refine nI_lt ?_ ?_); omega; omega) | ((with_reducible refine nI_nlt ?_ ?_); omega; omega) | with_reducible exact ne10 | with_reducible rfl)]))
    by_cases c : (g i).length = 0
    · rw [if_pos (by rw [c]; decide)]
      refine ⟨_, ho _ 0, rfl, ?_⟩
      rw [cntB_n (by simp [c])]
      exact nI_add _ 0
    · rw [if_neg (nI_nle (by omega) (by omega))]
      refine ⟨_, ho _ 1, rfl, ?_⟩
      rw [cntB_s (by simp [c])]
      exact nI_1 _
  · rintro ⟨s, z⟩ ⟨rfl, f⟩
    have f : s = _ := f
    subst f
    have := cntB_le (fun k => decide ((g k).length ≠ 0)) 5
    refine ⟨_, ?_, rfl⟩
    show mX8_count_B58 K R M m _ (nI 5) = _
    unfold mX8_count_B58
    rw [if_neg (by decide), ← nI_i64 (by omega)]
    rfl
theorem laidM_ok {m : Nat} {g : Nat → Option (List Pc)} (hm : moA K R m) (h : ∀ k, k < 4 → M.1 (m + 5) k = bI (g k).isSome) : lp (mX8_count_L103 K R M m) (0, 0) = some (lN (cntB (fun k => (g k).isSome) 4), M) := by
  have h1 := mo_r6 hm
  have h2 := mo_a6 hm
  have hL := lp_ind (f := mX8_count_L103 K R M m) (fun (i : Nat) (s : Int32 × Int32) => s.2 = nI i ∧ s.1 = nI (cntB (fun k => (g k).isSome) i)) (fun v => v = (lN (cntB (fun k => (g k).isSome) 4), M)) 4 ?_ ?_
  · obtain ⟨v, e1, rfl⟩ := hL 4 0 (nI 0, nI 0) rfl ⟨rfl, rfl⟩
    exact e1
  · rintro i ⟨s, z⟩ hi ⟨rfl, f⟩
    have f : s = _ := f
    subst f
    have ho : ∀ (s w : Int32), mX8_count_J123 K R M m (nI i) s w = some (.inl (s + w, nI (i + 1))) := fun s w => by unfold mX8_count_J123; (repeat (first | rw [ck_t (by first | with_reducible assumption | ((with_reducible apply ixA_of); (with_reducible assumption); omega; omega) | ((with_reducible apply isAr_of); (with_reducible assumption); decide) | ((with_reducible apply nI_ne0); omega; omega) | with_reducible exact isB_0 | with_reducible exact isB_1 | with_reducible exact isB_bI _)] | rw [bd_r (by with_reducible assumption)] | rw [bd_s] | rw [bd2_s] | rw [bd3_s] | rw [nm_s] | rw [nI_clamp (by omega)] | rw [nI_1] | rw [if_pos (by first | with_reducible assumption | ((with_reducible refine nI_lt ?_ ?_); omega; omega) | ((with_reducible refine nI_nlt ?_ ?_); omega; omega) | with_reducible exact ne10 | with_reducible rfl)] | rw [if_neg (by first | with_reducible assumption | ((with_reducible refine nI_lt ?_ ?_); omega; omega) | ((with_reducible refine nI_nlt ?_ ?_); omega; omega) | with_reducible exact ne10 | with_reducible rfl)]))
    left
    show ∃ s', mX8_count_B103 K R M m (nI (cntB (fun k => (g k).isSome) i)) (nI i) = some (.inl s') ∧ _
    unfold mX8_count_B103
    (repeat (first | rw [ck_t (by first | with_reducible assumption | ((with_reducible apply ixA_of); (with_reducible assumption); omega; omega) | ((with_reducible apply isAr_of); (with_reducible assumption); decide) | ((with_reducible apply nI_ne0); omega; omega) | with_reducible exact isB_0 | with_reducible exact isB_1 | with_reducible exact isB_bI _)] | rw [bd_r (by with_reducible assumption)] | rw [bd_s] | rw [bd2_s] | rw [bd3_s] | rw [nm_s] | rw [nI_clamp (by omega)] | rw [nI_1] | rw [if_pos (show nI i < 4 from nI_lt (b := 4) hi (by decide))] | rw [h i hi] | rw [if_pos (by first | with_reducible assumption | ((with_reducible refine nI_lt ?_ ?_); omega; omega) | ((with_reducible refine nI_nlt ?_ ?_); omega; omega) | with_reducible exact ne10 | with_reducible rfl)] | rw [if_neg (by first | with_reducible assumption | ((with_reducible refine nI_lt ?_ ?_); omega; omega) | ((with_reducible refine nI_nlt ?_ ?_); omega; omega) | with_reducible exact ne10 | with_reducible rfl)]))
    cases c : (g i).isSome with
    | false =>
      rw [if_pos (by decide)]
      refine ⟨_, ho _ 0, rfl, ?_⟩
      rw [cntB_n c]
      exact nI_add _ 0
    | true =>
      rw [if_neg (by decide)]
      refine ⟨_, ho _ 1, rfl, ?_⟩
      rw [cntB_s c]
      exact nI_1 _
  · rintro ⟨s, z⟩ ⟨rfl, f⟩
    have f : s = _ := f
    subst f
    have := cntB_le (fun k => (g k).isSome) 4
    refine ⟨_, ?_, rfl⟩
    show mX8_count_B103 K R M m _ (nI 4) = _
    unfold mX8_count_B103
    rw [if_neg (by decide), ← nI_i64 (by omega)]
    rfl
end CNT
theorem inv_count (o : Nat) (K : Kk) (R : Rr) (M : Mm) (a0 : Int32) (hI : Inv o K R M) : ∃ (v : Int64) (M2 : Mm), mX7_count K R M o a0 = some (v) ∧ mX8_count K R M (o + 2118) a0 = some (v, M2) ∧ Inv o K R M2 := by
  have hI0 := hI
  obtain ⟨hs, hm, S, hw, hc, ho⟩ := hI
  have hs0 := hs
  have m0 := hm.1
  obtain ⟨ps, hps, hpp⟩ := now_ps hw
  obtain ⟨c, hc1, hc2, hcA, hcC, hnow⟩ := now_at hs0 hw hc hps
  obtain ⟨f, d, hf, hx1, hx2, hx3⟩ := hi_of hc
  have hq6 : psM (M.2 (o + 2118 + 1)) 0 ps := ho.2.2.2.2.2.1 ps hps
  have h40 := hpp.1
  have hn := hcC.1
  have g0 := hcA.1
  obtain ⟨s0, sh, -, s2, -, -, -, -, -, -, s9, s10, -, -, -, rh, -, -, ⟨i0, -⟩, -, -, -, -, -, -, -, r1, r2, -⟩ := hs
  have rh0 := rh.1
  have hlen : ∀ k, k < 5 → (S.2.1 k).length ≤ 16 := fun k hk => by
    rcases hw.2.2.1 k hk with h | h
    · rw [h]; exact Nat.zero_le _
    · exact h.2.1
  have w4 := hw.2.2.2.1
  have w5 := hw.2.2.2.2.1
  rcases cases_n a0 7 (by omega) with h | ⟨k, hk, rfl⟩
  · have ne : ∀ k, k < 7 → ¬ a0 = nI k := fun k hk q => by
      subst q
      rcases h with h | h
      · exact nI_pos (by omega) h
      · have := (nI_leI (by decide : 7 < 2 ^ 31) (show k < 2 ^ 31 by omega)).mp h
        omega
    have n0 : ¬ a0 = 0 := ne 0 (by decide)
    have n1 : ¬ a0 = 1 := ne 1 (by decide)
    have n2 : ¬ a0 = 2 := ne 2 (by decide)
    have n3 : ¬ a0 = 3 := ne 3 (by decide)
    have n4 : ¬ a0 = 4 := ne 4 (by decide)
    have n5 : ¬ a0 = 5 := ne 5 (by decide)
    have n6 : ¬ a0 = 6 := ne 6 (by decide)
    refine ⟨-9000000000000000001, M, ?_, ?_, hI0⟩
    · unfold mX7_count
      (repeat (first | rw [ck_t (by first | with_reducible assumption | ((with_reducible apply ixA_of); (with_reducible assumption); omega; omega) | ((with_reducible apply isAr_of); (with_reducible assumption); decide) | ((with_reducible apply nI_ne0); omega; omega) | with_reducible exact isB_0 | with_reducible exact isB_1 | with_reducible exact isB_bI _)] | rw [bd_r (by with_reducible assumption)] | rw [bd_s] | rw [bd2_s] | rw [bd3_s] | rw [nm_s] | rw [nI_clamp (by omega)] | rw [nI_1] | rw [if_pos (by first | with_reducible assumption | ((with_reducible refine nI_lt ?_ ?_); omega; omega) | ((with_reducible refine nI_nlt ?_ ?_); omega; omega) | with_reducible exact ne10 | with_reducible rfl)] | rw [if_neg (by first | with_reducible assumption | ((with_reducible refine nI_lt ?_ ?_); omega; omega) | ((with_reducible refine nI_nlt ?_ ?_); omega; omega) | with_reducible exact ne10 | with_reducible rfl)]))
    · unfold mX8_count
      (repeat (first | rw [ck_t (by first | with_reducible assumption | ((with_reducible apply ixA_of); (with_reducible assumption); omega; omega) | ((with_reducible apply isAr_of); (with_reducible assumption); decide) | ((with_reducible apply nI_ne0); omega; omega) | with_reducible exact isB_0 | with_reducible exact isB_1 | with_reducible exact isB_bI _)] | rw [bd_r (by with_reducible assumption)] | rw [bd_s] | rw [bd2_s] | rw [bd3_s] | rw [nm_s] | rw [nI_clamp (by omega)] | rw [nI_1] | rw [if_pos (by first | with_reducible assumption | ((with_reducible refine nI_lt ?_ ?_); omega; omega) | ((with_reducible refine nI_nlt ?_ ?_); omega; omega) | with_reducible exact ne10 | with_reducible rfl)] | rw [if_neg (by first | with_reducible assumption | ((with_reducible refine nI_lt ?_ ?_); omega; omega) | ((with_reducible refine nI_nlt ?_ ?_); omega; omega) | with_reducible exact ne10 | with_reducible rfl)]))
  · have n0 : ∀ j : Nat, j < 7 → j ≠ k → ¬ nI k = nI j := fun j hj hjk q => hjk ((nI_eq (by omega) (by omega)).mp q).symm
    have e0 : k ≠ 0 → ¬ nI k = 0 := fun h => n0 0 (by omega) (Ne.symm h)
    have e1 : k ≠ 1 → ¬ nI k = 1 := fun h => n0 1 (by omega) (Ne.symm h)
    have e2 : k ≠ 2 → ¬ nI k = 2 := fun h => n0 2 (by omega) (Ne.symm h)
    have e3 : k ≠ 3 → ¬ nI k = 3 := fun h => n0 3 (by omega) (Ne.symm h)
    have e4 : k ≠ 4 → ¬ nI k = 4 := fun h => n0 4 (by omega) (Ne.symm h)
    have e5 : k ≠ 5 → ¬ nI k = 5 := fun h => n0 5 (by omega) (Ne.symm h)
    match k, hk with
    | 0, _ =>
      refine ⟨(nI ps.length).toInt64, M, ?_, ?_, hI0⟩
      · unfold mX7_count
        (repeat (first | rw [ck_t (by first | with_reducible assumption | ((with_reducible apply ixA_of); (with_reducible assumption); omega; omega) | ((with_reducible apply isAr_of); (with_reducible assumption); decide) | ((with_reducible apply nI_ne0); omega; omega) | with_reducible exact isB_0 | with_reducible exact isB_1 | with_reducible exact isB_bI _)] | rw [bd_r (by with_reducible assumption)] | rw [bd_s] | rw [bd2_s] | rw [bd3_s] | rw [nm_s] | rw [nI_clamp (by omega)] | rw [nI_1] | rw [if_pos (show nI 0 = 0 from rfl)] | rw [bd_e (hnow M rfl)] | rw [hn] | rw [if_pos (by first | with_reducible assumption | ((with_reducible refine nI_lt ?_ ?_); omega; omega) | ((with_reducible refine nI_nlt ?_ ?_); omega; omega) | with_reducible exact ne10 | with_reducible rfl)] | rw [if_neg (by first | with_reducible assumption | ((with_reducible refine nI_lt ?_ ?_); omega; omega) | ((with_reducible refine nI_nlt ?_ ?_); omega; omega) | with_reducible exact ne10 | with_reducible rfl)]))
      · unfold mX8_count
        (repeat (first | rw [ck_t (by first | with_reducible assumption | ((with_reducible apply ixA_of); (with_reducible assumption); omega; omega) | ((with_reducible apply isAr_of); (with_reducible assumption); decide) | ((with_reducible apply nI_ne0); omega; omega) | with_reducible exact isB_0 | with_reducible exact isB_1 | with_reducible exact isB_bI _)] | rw [bd_r (by with_reducible assumption)] | rw [bd_s] | rw [bd2_s] | rw [bd3_s] | rw [nm_s] | rw [nI_clamp (by omega)] | rw [nI_1] | rw [if_pos (show nI 0 = 0 from rfl)] | rw [bd_e (piecesM_ok hm hq6)] | rw [if_pos (by first | with_reducible assumption | ((with_reducible refine nI_lt ?_ ?_); omega; omega) | ((with_reducible refine nI_nlt ?_ ?_); omega; omega) | with_reducible exact ne10 | with_reducible rfl)] | rw [if_neg (by first | with_reducible assumption | ((with_reducible refine nI_lt ?_ ?_); omega; omega) | ((with_reducible refine nI_nlt ?_ ?_); omega; omega) | with_reducible exact ne10 | with_reducible rfl)]))
    | 1, _ =>
      refine ⟨(nI S.1.length).toInt64, M, ?_, ?_, hI0⟩
      · unfold mX7_count
        (repeat (first | rw [ck_t (by first | with_reducible assumption | ((with_reducible apply ixA_of); (with_reducible assumption); omega; omega) | ((with_reducible apply isAr_of); (with_reducible assumption); decide) | ((with_reducible apply nI_ne0); omega; omega) | with_reducible exact isB_0 | with_reducible exact isB_1 | with_reducible exact isB_bI _)] | rw [bd_r (by with_reducible assumption)] | rw [bd_s] | rw [bd2_s] | rw [bd3_s] | rw [nm_s] | rw [nI_clamp (by omega)] | rw [nI_1] | rw [if_neg (e0 (by decide))] | rw [if_pos (show nI 1 = 1 from rfl)] | rw [hc.1.1] | rw [if_pos (by first | with_reducible assumption | ((with_reducible refine nI_lt ?_ ?_); omega; omega) | ((with_reducible refine nI_nlt ?_ ?_); omega; omega) | with_reducible exact ne10 | with_reducible rfl)] | rw [if_neg (by first | with_reducible assumption | ((with_reducible refine nI_lt ?_ ?_); omega; omega) | ((with_reducible refine nI_nlt ?_ ?_); omega; omega) | with_reducible exact ne10 | with_reducible rfl)]))
      · unfold mX8_count
        (repeat (first | rw [ck_t (by first | with_reducible assumption | ((with_reducible apply ixA_of); (with_reducible assumption); omega; omega) | ((with_reducible apply isAr_of); (with_reducible assumption); decide) | ((with_reducible apply nI_ne0); omega; omega) | with_reducible exact isB_0 | with_reducible exact isB_1 | with_reducible exact isB_bI _)] | rw [bd_r (by with_reducible assumption)] | rw [bd_s] | rw [bd2_s] | rw [bd3_s] | rw [nm_s] | rw [nI_clamp (by omega)] | rw [nI_1] | rw [if_neg (e0 (by decide))] | rw [if_pos (show nI 1 = 1 from rfl)] | rw [ho.1] | rw [if_pos (by first | with_reducible assumption | ((with_reducible refine nI_lt ?_ ?_); omega; omega) | ((with_reducible refine nI_nlt ?_ ?_); omega; omega) | with_reducible exact ne10 | with_reducible rfl)] | rw [if_neg (by first | with_reducible assumption | ((with_reducible refine nI_lt ?_ ?_); omega; omega) | ((with_reducible refine nI_nlt ?_ ?_); omega; omega) | with_reducible exact ne10 | with_reducible rfl)]))
    | 2, _ =>
      refine ⟨lN (cntB (fun k => decide ((S.2.1 k).length ≠ 0)) 5), M, ?_, ?_, hI0⟩
      · unfold mX7_count
        (repeat (first | rw [ck_t (by first | with_reducible assumption | ((with_reducible apply ixA_of); (with_reducible assumption); omega; omega) | ((with_reducible apply isAr_of); (with_reducible assumption); decide) | ((with_reducible apply nI_ne0); omega; omega) | with_reducible exact isB_0 | with_reducible exact isB_1 | with_reducible exact isB_bI _)] | rw [bd_r (by with_reducible assumption)] | rw [bd_s] | rw [bd2_s] | rw [bd3_s] | rw [nm_s] | rw [nI_clamp (by omega)] | rw [nI_1] | rw [if_neg (e0 (by decide))] | rw [if_neg (e1 (by decide))] | rw [if_pos (show nI 2 = 2 from rfl)] | rw [bd_e (told_ok hs0 hc.2.1 hlen)] | rw [if_pos (by first | with_reducible assumption | ((with_reducible refine nI_lt ?_ ?_); omega; omega) | ((with_reducible refine nI_nlt ?_ ?_); omega; omega) | with_reducible exact ne10 | with_reducible rfl)] | rw [if_neg (by first | with_reducible assumption | ((with_reducible refine nI_lt ?_ ?_); omega; omega) | ((with_reducible refine nI_nlt ?_ ?_); omega; omega) | with_reducible exact ne10 | with_reducible rfl)]))
      · unfold mX8_count
        (repeat (first | rw [ck_t (by first | with_reducible assumption | ((with_reducible apply ixA_of); (with_reducible assumption); omega; omega) | ((with_reducible apply isAr_of); (with_reducible assumption); decide) | ((with_reducible apply nI_ne0); omega; omega) | with_reducible exact isB_0 | with_reducible exact isB_1 | with_reducible exact isB_bI _)] | rw [bd_r (by with_reducible assumption)] | rw [bd_s] | rw [bd2_s] | rw [bd3_s] | rw [nm_s] | rw [nI_clamp (by omega)] | rw [nI_1] | rw [if_neg (e0 (by decide))] | rw [if_neg (e1 (by decide))] | rw [if_pos (show nI 2 = 2 from rfl)] | rw [if_pos (by first | with_reducible assumption | ((with_reducible refine nI_lt ?_ ?_); omega; omega) | ((with_reducible refine nI_nlt ?_ ?_); omega; omega) | with_reducible exact ne10 | with_reducible rfl)] | rw [if_neg (by first | with_reducible assumption | ((with_reducible refine nI_lt ?_ ?_); omega; omega) | ((with_reducible refine nI_nlt ?_ ?_); omega; omega) | with_reducible exact ne10 | with_reducible rfl)]))
        exact toldM_ok hm (fun k hk => (ho.2.2.1 k hk).1) hlen
    | 3, _ =>
      refine ⟨(nI S.2.2.2.1).toInt64, M, ?_, ?_, hI0⟩
      · unfold mX7_count mX1_kept
        (repeat (first | rw [ck_t (by first | with_reducible assumption | ((with_reducible apply ixA_of); (with_reducible assumption); omega; omega) | ((with_reducible apply isAr_of); (with_reducible assumption); decide) | ((with_reducible apply nI_ne0); omega; omega) | with_reducible exact isB_0 | with_reducible exact isB_1 | with_reducible exact isB_bI _)] | rw [bd_r (by with_reducible assumption)] | rw [bd_s] | rw [bd2_s] | rw [bd3_s] | rw [nm_s] | rw [nI_clamp (by omega)] | rw [nI_1] | rw [if_neg (e0 (by decide))] | rw [if_neg (e1 (by decide))] | rw [if_neg (e2 (by decide))] | rw [if_pos (show nI 3 = 3 from rfl)] | rw [hx1] | rw [if_pos (by first | with_reducible assumption | ((with_reducible refine nI_lt ?_ ?_); omega; omega) | ((with_reducible refine nI_nlt ?_ ?_); omega; omega) | with_reducible exact ne10 | with_reducible rfl)] | rw [if_neg (by first | with_reducible assumption | ((with_reducible refine nI_lt ?_ ?_); omega; omega) | ((with_reducible refine nI_nlt ?_ ?_); omega; omega) | with_reducible exact ne10 | with_reducible rfl)]))
      · unfold mX8_count
        (repeat (first | rw [ck_t (by first | with_reducible assumption | ((with_reducible apply ixA_of); (with_reducible assumption); omega; omega) | ((with_reducible apply isAr_of); (with_reducible assumption); decide) | ((with_reducible apply nI_ne0); omega; omega) | with_reducible exact isB_0 | with_reducible exact isB_1 | with_reducible exact isB_bI _)] | rw [bd_r (by with_reducible assumption)] | rw [bd_s] | rw [bd2_s] | rw [bd3_s] | rw [nm_s] | rw [nI_clamp (by omega)] | rw [nI_1] | rw [if_neg (e0 (by decide))] | rw [if_neg (e1 (by decide))] | rw [if_neg (e2 (by decide))] | rw [if_pos (show nI 3 = 3 from rfl)] | rw [ho.2.2.2.1] | rw [if_pos (by first | with_reducible assumption | ((with_reducible refine nI_lt ?_ ?_); omega; omega) | ((with_reducible refine nI_nlt ?_ ?_); omega; omega) | with_reducible exact ne10 | with_reducible rfl)] | rw [if_neg (by first | with_reducible assumption | ((with_reducible refine nI_lt ?_ ?_); omega; omega) | ((with_reducible refine nI_nlt ?_ ?_); omega; omega) | with_reducible exact ne10 | with_reducible rfl)]))
    | 4, _ =>
      refine ⟨(nI (S.2.2.1.length - 1 - S.2.2.2.1)).toInt64, M, ?_, ?_, hI0⟩
      · unfold mX7_count mX1_undone
        (repeat (first | rw [ck_t (by first | with_reducible assumption | ((with_reducible apply ixA_of); (with_reducible assumption); omega; omega) | ((with_reducible apply isAr_of); (with_reducible assumption); decide) | ((with_reducible apply nI_ne0); omega; omega) | with_reducible exact isB_0 | with_reducible exact isB_1 | with_reducible exact isB_bI _)] | rw [bd_r (by with_reducible assumption)] | rw [bd_s] | rw [bd2_s] | rw [bd3_s] | rw [nm_s] | rw [nI_clamp (by omega)] | rw [nI_1] | rw [if_neg (e0 (by decide))] | rw [if_neg (e1 (by decide))] | rw [if_neg (e2 (by decide))] | rw [if_neg (e3 (by decide))] | rw [if_pos (show nI 4 = 4 from rfl)] | rw [hx1] | rw [hx2] | rw [pk_sub (show S.2.2.2.1 ≤ S.2.2.1.length - 1 by omega)] | rw [if_pos (by first | with_reducible assumption | ((with_reducible refine nI_lt ?_ ?_); omega; omega) | ((with_reducible refine nI_nlt ?_ ?_); omega; omega) | with_reducible exact ne10 | with_reducible rfl)] | rw [if_neg (by first | with_reducible assumption | ((with_reducible refine nI_lt ?_ ?_); omega; omega) | ((with_reducible refine nI_nlt ?_ ?_); omega; omega) | with_reducible exact ne10 | with_reducible rfl)]))
      · unfold mX8_count
        (repeat (first | rw [ck_t (by first | with_reducible assumption | ((with_reducible apply ixA_of); (with_reducible assumption); omega; omega) | ((with_reducible apply isAr_of); (with_reducible assumption); decide) | ((with_reducible apply nI_ne0); omega; omega) | with_reducible exact isB_0 | with_reducible exact isB_1 | with_reducible exact isB_bI _)] | rw [bd_r (by with_reducible assumption)] | rw [bd_s] | rw [bd2_s] | rw [bd3_s] | rw [nm_s] | rw [nI_clamp (by omega)] | rw [nI_1] | rw [if_neg (e0 (by decide))] | rw [if_neg (e1 (by decide))] | rw [if_neg (e2 (by decide))] | rw [if_neg (e3 (by decide))] | rw [if_pos (show nI 4 = 4 from rfl)] | rw [ho.2.2.2.2.1] | rw [if_pos (by first | with_reducible assumption | ((with_reducible refine nI_lt ?_ ?_); omega; omega) | ((with_reducible refine nI_nlt ?_ ?_); omega; omega) | with_reducible exact ne10 | with_reducible rfl)] | rw [if_neg (by first | with_reducible assumption | ((with_reducible refine nI_lt ?_ ?_); omega; omega) | ((with_reducible refine nI_nlt ?_ ?_); omega; omega) | with_reducible exact ne10 | with_reducible rfl)]))
    | 5, _ =>
      refine ⟨lN (cntB (fun k => (S.2.2.2.2 k).isSome) 4), M, ?_, ?_, hI0⟩
      · unfold mX7_count
        (repeat (first | rw [ck_t (by first | with_reducible assumption | ((with_reducible apply ixA_of); (with_reducible assumption); omega; omega) | ((with_reducible apply isAr_of); (with_reducible assumption); decide) | ((with_reducible apply nI_ne0); omega; omega) | with_reducible exact isB_0 | with_reducible exact isB_1 | with_reducible exact isB_bI _)] | rw [bd_r (by with_reducible assumption)] | rw [bd_s] | rw [bd2_s] | rw [bd3_s] | rw [nm_s] | rw [nI_clamp (by omega)] | rw [nI_1] | rw [if_neg (e0 (by decide))] | rw [if_neg (e1 (by decide))] | rw [if_neg (e2 (by decide))] | rw [if_neg (e3 (by decide))] | rw [if_neg (e4 (by decide))] | rw [if_pos (show nI 5 = 5 from rfl)] | rw [bd_e (laidC_ok hs0 (fun k hk => (hc.2.2.2 k hk).1))] | rw [if_pos (by first | with_reducible assumption | ((with_reducible refine nI_lt ?_ ?_); omega; omega) | ((with_reducible refine nI_nlt ?_ ?_); omega; omega) | with_reducible exact ne10 | with_reducible rfl)] | rw [if_neg (by first | with_reducible assumption | ((with_reducible refine nI_lt ?_ ?_); omega; omega) | ((with_reducible refine nI_nlt ?_ ?_); omega; omega) | with_reducible exact ne10 | with_reducible rfl)]))
      · unfold mX8_count
        (repeat (first | rw [ck_t (by first | with_reducible assumption | ((with_reducible apply ixA_of); (with_reducible assumption); omega; omega) | ((with_reducible apply isAr_of); (with_reducible assumption); decide) | ((with_reducible apply nI_ne0); omega; omega) | with_reducible exact isB_0 | with_reducible exact isB_1 | with_reducible exact isB_bI _)] | rw [bd_r (by with_reducible assumption)] | rw [bd_s] | rw [bd2_s] | rw [bd3_s] | rw [nm_s] | rw [nI_clamp (by omega)] | rw [nI_1] | rw [if_neg (e0 (by decide))] | rw [if_neg (e1 (by decide))] | rw [if_neg (e2 (by decide))] | rw [if_neg (e3 (by decide))] | rw [if_neg (e4 (by decide))] | rw [if_pos (show nI 5 = 5 from rfl)] | rw [if_pos (by first | with_reducible assumption | ((with_reducible refine nI_lt ?_ ?_); omega; omega) | ((with_reducible refine nI_nlt ?_ ?_); omega; omega) | with_reducible exact ne10 | with_reducible rfl)] | rw [if_neg (by first | with_reducible assumption | ((with_reducible refine nI_lt ?_ ?_); omega; omega) | ((with_reducible refine nI_nlt ?_ ?_); omega; omega) | with_reducible exact ne10 | with_reducible rfl)]))
        exact laidM_ok hm (fun k hk => (ho.2.2.2.2.2.2.2.2 k hk).1)
    | 6, _ =>
      obtain ⟨v, v1, v2⟩ := areasC_ok hcA hcC hpp
      obtain ⟨w, M2, w1, w2, w3⟩ := areasM_ok hm hq6 hpp
      obtain rfl : v = w := eq64.mpr (v2.trans w2.symm)
      refine ⟨v, M2, ?_, ?_, hI0.kp (w3.kp (by decide) (by decide) (by decide) (by decide))⟩
      · unfold mX7_count
        (repeat (first | rw [ck_t (by first | with_reducible assumption | ((with_reducible apply ixA_of); (with_reducible assumption); omega; omega) | ((with_reducible apply isAr_of); (with_reducible assumption); decide) | ((with_reducible apply nI_ne0); omega; omega) | with_reducible exact isB_0 | with_reducible exact isB_1 | with_reducible exact isB_bI _)] | rw [bd_r (by with_reducible assumption)] | rw [bd_s] | rw [bd2_s] | rw [bd3_s] | rw [nm_s] | rw [nI_clamp (by omega)] | rw [nI_1] | rw [if_neg (e0 (by decide))] | rw [if_neg (e1 (by decide))] | rw [if_neg (e2 (by decide))] | rw [if_neg (e3 (by decide))] | rw [if_neg (e4 (by decide))] | rw [if_neg (e5 (by decide))] | rw [if_pos (show nI 6 = 6 from rfl)] | rw [bd_e (hnow M rfl)] | rw [bd_e (v1)] | rw [if_pos (by first | with_reducible assumption | ((with_reducible refine nI_lt ?_ ?_); omega; omega) | ((with_reducible refine nI_nlt ?_ ?_); omega; omega) | with_reducible exact ne10 | with_reducible rfl)] | rw [if_neg (by first | with_reducible assumption | ((with_reducible refine nI_lt ?_ ?_); omega; omega) | ((with_reducible refine nI_nlt ?_ ?_); omega; omega) | with_reducible exact ne10 | with_reducible rfl)]))
      · unfold mX8_count
        (repeat (first | rw [ck_t (by first | with_reducible assumption | ((with_reducible apply ixA_of); (with_reducible assumption); omega; omega) | ((with_reducible apply isAr_of); (with_reducible assumption); decide) | ((with_reducible apply nI_ne0); omega; omega) | with_reducible exact isB_0 | with_reducible exact isB_1 | with_reducible exact isB_bI _)] | rw [bd_r (by with_reducible assumption)] | rw [bd_s] | rw [bd2_s] | rw [bd3_s] | rw [nm_s] | rw [nI_clamp (by omega)] | rw [nI_1] | rw [if_neg (e0 (by decide))] | rw [if_neg (e1 (by decide))] | rw [if_neg (e2 (by decide))] | rw [if_neg (e3 (by decide))] | rw [if_neg (e4 (by decide))] | rw [if_neg (e5 (by decide))] | rw [if_pos (show nI 6 = 6 from rfl)] | rw [bd2_e (w1)] | rw [if_pos (by first | with_reducible assumption | ((with_reducible refine nI_lt ?_ ?_); omega; omega) | ((with_reducible refine nI_nlt ?_ ?_); omega; omega) | with_reducible exact ne10 | with_reducible rfl)] | rw [if_neg (by first | with_reducible assumption | ((with_reducible refine nI_lt ?_ ?_); omega; omega) | ((with_reducible refine nI_nlt ?_ ?_); omega; omega) | with_reducible exact ne10 | with_reducible rfl)]))
