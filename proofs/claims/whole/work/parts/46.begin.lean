/-! a ring becomes an origin; begin -/
section ORG
variable {K : Kk} {R : Rr} {M : Mm}
theorem mvP_id (p : Pt) : mvP 1 0 0 p = p := by unfold mvP; exact Prod.ext (by simp) (by simp)
theorem map_id' (l : List Pt) : l.map (mvP 1 0 0) = l := by
  rw [show (mvP 1 0 0) = id from funext mvP_id]; exact List.map_id l
theorem norm_id {l : List Pt} (h : lstF l) : norm (l.map (mvP 1 0 0)) = l := by rw [map_id', norm_F h]
theorem isRg.ls {l : List Pt} (h : isRg l) : isLs l 0 := isLs_0 h.2.2.2.1 (fun q => by have := h.1; rw [q] at this; simp at this)
theorem originOf_L157 {m p k : Nat} {L : List Pt} (hm : moA K R m) (hp : p < 40) (h : rM M m 24 17 18 L) (hl : L.length ≤ 16) (hk : k < L.length) : ∃ M', lp (mX8_originOf_L157 K R m (nI p) (nI k)) (0, M) = some M' ∧ (∀ (i : Nat) q, (rotL k L)[i]? = some q → (M'.2 (m + 1) (37 * p + 1 + 2 * i)).toInt = q.1 ∧ (M'.2 (m + 1) (37 * p + 2 + 2 * i)).toInt = q.2) ∧ FM m [] [1] M M' ∧ ∀ j, (j < 37 * p + 1 ∨ 37 * p + 33 ≤ j) → M'.2 (m + 1) j = M.2 (m + 1) j := by
  have h1 := mo_r0 hm
  have h2 := mo_a0 hm
  have h5 := mo_r22 hm
  have h6 := mo_r23 hm
  have h7 := mo_a22 hm
  have h8 := mo_a23 hm
  have hL := lp_ind (f := mX8_originOf_L157 K R m (nI p) (nI k)) (fun (i : Nat) (s : Int32 × Mm) => s.1 = nI i ∧ (∀ (j : Nat) q, j < i → (rotL k L)[j]? = some q → (s.2.2 (m + 1) (37 * p + 1 + 2 * j)).toInt = q.1 ∧ (s.2.2 (m + 1) (37 * p + 2 + 2 * j)).toInt = q.2) ∧ FM m [] [1] M s.2 ∧ ∀ j, (j < 37 * p + 1 ∨ 37 * p + 33 ≤ j) → s.2.2 (m + 1) j = M.2 (m + 1) j) (fun M' => (∀ (i : Nat) q, (rotL k L)[i]? = some q → (M'.2 (m + 1) (37 * p + 1 + 2 * i)).toInt = q.1 ∧ (M'.2 (m + 1) (37 * p + 2 + 2 * i)).toInt = q.2) ∧ FM m [] [1] M M' ∧ ∀ j, (j < 37 * p + 1 ∨ 37 * p + 33 ≤ j) → M'.2 (m + 1) j = M.2 (m + 1) j) L.length ?_ ?_
  · exact hL L.length 0 (nI 0, M) (by omega) ⟨rfl, fun j q hj => absurd hj (by omega), FM.rf, fun j _ => rfl⟩
  · rintro i ⟨x, N⟩ hi ⟨rfl, f1, f2, f3⟩
    have f1 : ∀ (j : Nat) q, j < i → (rotL k L)[j]? = some q → (N.2 (m + 1) (37 * p + 1 + 2 * j)).toInt = q.1 ∧ (N.2 (m + 1) (37 * p + 2 + 2 * j)).toInt = q.2 := f1
    have f2 : FM m [] [1] M N := f2
    have f3 : ∀ j, (j < 37 * p + 1 ∨ 37 * p + 33 ≤ j) → N.2 (m + 1) j = M.2 (m + 1) j := f3
    have hN := h.fr f2 (by decide) (by decide) (by decide)
    have e := hN.1
    have hmod : (k + i) % L.length < L.length := Nat.mod_lt _ (by omega)
    obtain ⟨c, hc⟩ := get_ex hmod
    obtain ⟨c1, c2⟩ := hN.2 _ _ hc
    have hr : (rotL k L)[i]? = some c := by rw [rotL_get hk hi]; exact hc
    have j1 : (37 : Int32) * nI p + 1 + 2 * nI i = nI (37 * p + 1 + 2 * i) := by
      rw [show (37 : Int32) * nI p + 1 = nI (37 * p + 1) from ix37 p 1, show (2 : Int32) = nI 2 from rfl, pk_mul, nI_add]
    have j2 : (37 : Int32) * nI p + 2 + 2 * nI i = nI (37 * p + 2 + 2 * i) := by
      rw [show (37 : Int32) * nI p + 2 = nI (37 * p + 2) from ix37 p 2, show (2 : Int32) = nI 2 from rfl, pk_mul, nI_add]
    have z1 : ixA K (m + 1) 1 (nI (37 * p + 1 + 2 * i)) := ixA_of h2 (by omega) (by omega)
    have z2 : ixA K (m + 1) 1 (nI (37 * p + 2 + 2 * i)) := ixA_of h2 (by omega) (by omega)
    generalize hN2 : pL (pL N (m + 1) (37 * p + 1 + 2 * i) (N.2 (m + 17) ((k + i) % L.length))) (m + 1) (37 * p + 2 + 2 * i) (N.2 (m + 18) ((k + i) % L.length)) = N2
    refine Or.inl ⟨(nI (i + 1), N2), ?_, rfl, fun j q hj hq => ?_, by rw [← hN2]; exact (f2.pL (by decide)).pL (by decide), fun j hj => ?_⟩
    · show mX8_originOf_B157 K R m (nI p) (nI k) (nI i) N = _
      unfold mX8_originOf_B157
      (repeat (first | rw [ck_t (by first | with_reducible assumption | ((with_reducible apply ixA_of); (with_reducible assumption); omega; omega) | ((with_reducible apply isAr_of); (with_reducible assumption); decide) | ((with_reducible apply nI_ne0); omega; omega) | with_reducible exact isB_0 | with_reducible exact isB_1 | with_reducible exact isB_bI _)] | rw [bd_r (by with_reducible assumption)] | rw [bd_s] | rw [bd2_s] | rw [bd3_s] | rw [nm_s] | rw [nI_clamp (by omega)] | rw [nI_1] | rw [pL_i] | rw [e] | rw [nI_add] | rw [pk_rem (by omega) (by omega) (by omega)] | rw [j1] | rw [j2] | rw [pL_n (show m + 18 ≠ m + 1 by omega)] | rw [hN2] | rw [if_pos (by first | with_reducible assumption | ((with_reducible refine nI_lt ?_ ?_); omega; omega) | ((with_reducible refine nI_nlt ?_ ?_); omega; omega) | with_reducible exact ne10 | with_reducible rfl)] | rw [if_neg (by first | with_reducible assumption | ((with_reducible refine nI_lt ?_ ?_); omega; omega) | ((with_reducible refine nI_nlt ?_ ?_); omega; omega) | with_reducible exact ne10 | with_reducible rfl)]))
    · show (N2.2 (m + 1) _).toInt = _ ∧ (N2.2 (m + 1) _).toInt = _
      rw [← hN2]
      by_cases hji : j = i
      · subst hji
        rw [pL_k (by omega), pL_s, pL_s, get_un hq hr]
        exact ⟨c1, c2⟩
      · rw [pL_k (by omega), pL_k (by omega), pL_k (by omega), pL_k (by omega)]
        exact f1 j q (by omega) hq
    · show N2.2 (m + 1) j = _
      rw [← hN2, pL_k (by omega), pL_k (by omega)]
      exact f3 j hj
  · rintro ⟨x, N⟩ ⟨rfl, f1, f2, f3⟩
    have f2 : FM m [] [1] M N := f2
    have e := (h.fr f2 (by decide) (by decide) (by decide)).1
    refine ⟨N, ?_, fun j q hq => f1 j q (by have := get_lt hq; rw [rotL_len] at this; exact this) hq, f2, f3⟩
    show mX8_originOf_B157 K R m (nI p) (nI k) (nI L.length) N = _
    unfold mX8_originOf_B157
    (repeat (first | rw [ck_t (by first | with_reducible assumption | ((with_reducible apply ixA_of); (with_reducible assumption); omega; omega) | ((with_reducible apply isAr_of); (with_reducible assumption); decide) | ((with_reducible apply nI_ne0); omega; omega) | with_reducible exact isB_0 | with_reducible exact isB_1 | with_reducible exact isB_bI _)] | rw [bd_r (by with_reducible assumption)] | rw [bd_s] | rw [bd2_s] | rw [bd3_s] | rw [nm_s] | rw [nI_clamp (by omega)] | rw [nI_1] | rw [e] | rw [if_pos (by first | with_reducible assumption | ((with_reducible refine nI_lt ?_ ?_); omega; omega) | ((with_reducible refine nI_nlt ?_ ?_); omega; omega) | with_reducible exact ne10 | with_reducible rfl)] | rw [if_neg (by first | with_reducible assumption | ((with_reducible refine nI_lt ?_ ?_); omega; omega) | ((with_reducible refine nI_nlt ?_ ?_); omega; omega) | with_reducible exact ne10 | with_reducible rfl)]))
    rfl
/-- the first ring as a piece's origin, its corners moved already -/
theorem originOf_L62 {m p k : Nat} {L : List Pt} (hm : moA K R m) (hp : p < 40) (h : rM M m 24 17 18 L) (hl : L.length ≤ 16) (hk : isLs L k) : ∃ M', lp (mX8_originOf_L62 K R M m (nI p)) (0, 1) = some M' ∧ M'.2 (m + 1) (37 * p) = lN L.length ∧ (∀ (i : Nat) q, (norm L)[i]? = some q → (M'.2 (m + 1) (37 * p + 1 + 2 * i)).toInt = q.1 ∧ (M'.2 (m + 1) (37 * p + 2 + 2 * i)).toInt = q.2) ∧ FM m [] [1] M M' ∧ ∀ j, (j < 37 * p ∨ 37 * p + 33 ≤ j) → M'.2 (m + 1) j = M.2 (m + 1) j := by
  have h1 := mo_r0 hm
  have h2 := mo_a0 hm
  have h5 := mo_r22 hm
  have h6 := mo_r23 hm
  have h7 := mo_a22 hm
  have h8 := mo_a23 hm
  have e := h.1
  have hkl := isLs_lt hk
  rw [norm_of hk]
  have hL := lp_ind (f := mX8_originOf_L62 K R M m (nI p)) (fun (i : Nat) (s : Int32 × Int32) => s.2 = nI i ∧ 0 < i ∧ ∃ c q, c < i ∧ s.1 = nI c ∧ L[c]? = some q ∧ ∀ j p, j < i → L[j]? = some p → p = q ∨ ltP q p) (fun M' => M'.2 (m + 1) (37 * p) = lN L.length ∧ (∀ (i : Nat) q, (rotL k L)[i]? = some q → (M'.2 (m + 1) (37 * p + 1 + 2 * i)).toInt = q.1 ∧ (M'.2 (m + 1) (37 * p + 2 + 2 * i)).toInt = q.2) ∧ FM m [] [1] M M' ∧ ∀ j, (j < 37 * p ∨ 37 * p + 33 ≤ j) → M'.2 (m + 1) j = M.2 (m + 1) j) L.length ?_ ?_
  · obtain ⟨q, hq⟩ := get_ex (l := L) (i := 0) (by omega)
    exact hL (L.length - 1) 1 (nI 0, nI 1) (by omega) ⟨rfl, by omega, 0, q, by omega, rfl, hq, fun j p hj hp => by
      obtain rfl : j = 0 := by omega
      exact Or.inl (get_un hp hq)⟩
  · rintro i ⟨x, y⟩ hi ⟨rfl, hi0, c, q, hc, rfl, hq, hall⟩
    obtain ⟨r, hr⟩ := get_ex hi
    have vp := h.pt hr
    have vq := h.pt hq
    have go : ∀ k2 q2, k2 < i + 1 → L[k2]? = some q2 → (q2 = q ∨ ltP q2 q) → (r = q2 ∨ ltP q2 r) → ∃ k q, k < i + 1 ∧ nI k2 = nI k ∧ L[k]? = some q ∧ ∀ j p, j < i + 1 → L[j]? = some p → p = q ∨ ltP q p := fun k2 q2 hk2 hq2 hle hp2 => by
      refine ⟨k2, q2, hk2, rfl, hq2, fun j p3 hj hp3 => ?_⟩
      by_cases hji : j = i
      · subst hji; rw [get_un hp3 hr]; exact hp2
      · rcases hall j p3 (by omega) hp3 with g | g
        · rw [g]; rcases hle with g2 | g2
          · exact Or.inl g2.symm
          · exact Or.inr g2
        · rcases hle with g2 | g2
          · rw [g2]; exact Or.inr g
          · exact Or.inr (ltP_tr g2 g)
    have tk : mX8_originOf_J125 K R M m (nI p) (nI i) = some (.inl (nI i, nI (i + 1))) := by unfold mX8_originOf_J125 mX8_originOf_J132; (repeat (first | rw [ck_t (by first | with_reducible assumption | ((with_reducible apply ixA_of); (with_reducible assumption); omega; omega) | ((with_reducible apply isAr_of); (with_reducible assumption); decide) | ((with_reducible apply nI_ne0); omega; omega) | with_reducible exact isB_0 | with_reducible exact isB_1 | with_reducible exact isB_bI _)] | rw [bd_r (by with_reducible assumption)] | rw [bd_s] | rw [bd2_s] | rw [bd3_s] | rw [nm_s] | rw [nI_clamp (by omega)] | rw [nI_1] | rw [if_pos (by first | with_reducible assumption | ((with_reducible refine nI_lt ?_ ?_); omega; omega) | ((with_reducible refine nI_nlt ?_ ?_); omega; omega) | with_reducible exact ne10 | with_reducible rfl)] | rw [if_neg (by first | with_reducible assumption | ((with_reducible refine nI_lt ?_ ?_); omega; omega) | ((with_reducible refine nI_nlt ?_ ?_); omega; omega) | with_reducible exact ne10 | with_reducible rfl)]))
    have kp : mX8_originOf_J130 K R M m (nI p) (nI c) (nI i) = some (.inl (nI c, nI (i + 1))) := by unfold mX8_originOf_J130 mX8_originOf_J132; (repeat (first | rw [ck_t (by first | with_reducible assumption | ((with_reducible apply ixA_of); (with_reducible assumption); omega; omega) | ((with_reducible apply isAr_of); (with_reducible assumption); decide) | ((with_reducible apply nI_ne0); omega; omega) | with_reducible exact isB_0 | with_reducible exact isB_1 | with_reducible exact isB_bI _)] | rw [bd_r (by with_reducible assumption)] | rw [bd_s] | rw [bd2_s] | rw [bd3_s] | rw [nm_s] | rw [nI_clamp (by omega)] | rw [nI_1] | rw [if_pos (by first | with_reducible assumption | ((with_reducible refine nI_lt ?_ ?_); omega; omega) | ((with_reducible refine nI_nlt ?_ ?_); omega; omega) | with_reducible exact ne10 | with_reducible rfl)] | rw [if_neg (by first | with_reducible assumption | ((with_reducible refine nI_lt ?_ ?_); omega; omega) | ((with_reducible refine nI_nlt ?_ ?_); omega; omega) | with_reducible exact ne10 | with_reducible rfl)]))
    have e3 : mX8_originOf_B62 K R M m (nI p) (nI c) (nI i) = some (.inl (nI i, nI (i + 1))) ∧ ltP r q ∨ mX8_originOf_B62 K R M m (nI p) (nI c) (nI i) = some (.inl (nI c, nI (i + 1))) ∧ ¬ ltP r q := by
      unfold mX8_originOf_B62
      by_cases c1 : M.2 (m + 17) i < M.2 (m + 17) c
      · refine Or.inl ⟨?_, by rw [vp, vq]; exact Or.inl (lt64.mp c1)⟩
        (repeat (first | rw [ck_t (by first | with_reducible assumption | ((with_reducible apply ixA_of); (with_reducible assumption); omega; omega) | ((with_reducible apply isAr_of); (with_reducible assumption); decide) | ((with_reducible apply nI_ne0); omega; omega) | with_reducible exact isB_0 | with_reducible exact isB_1 | with_reducible exact isB_bI _)] | rw [bd_r (by with_reducible assumption)] | rw [bd_s] | rw [bd2_s] | rw [bd3_s] | rw [nm_s] | rw [nI_clamp (by omega)] | rw [nI_1] | rw [e] | rw [if_pos (by first | with_reducible assumption | ((with_reducible refine nI_lt ?_ ?_); omega; omega) | ((with_reducible refine nI_nlt ?_ ?_); omega; omega) | with_reducible exact ne10 | with_reducible rfl)] | rw [if_neg (by first | with_reducible assumption | ((with_reducible refine nI_lt ?_ ?_); omega; omega) | ((with_reducible refine nI_nlt ?_ ?_); omega; omega) | with_reducible exact ne10 | with_reducible rfl)]))
        exact tk
      · by_cases c2 : M.2 (m + 17) i = M.2 (m + 17) c
        · by_cases c3 : M.2 (m + 18) i < M.2 (m + 18) c
          · refine Or.inl ⟨?_, by rw [vp, vq]; exact Or.inr ⟨eq64.mp c2, lt64.mp c3⟩⟩
            (repeat (first | rw [ck_t (by first | with_reducible assumption | ((with_reducible apply ixA_of); (with_reducible assumption); omega; omega) | ((with_reducible apply isAr_of); (with_reducible assumption); decide) | ((with_reducible apply nI_ne0); omega; omega) | with_reducible exact isB_0 | with_reducible exact isB_1 | with_reducible exact isB_bI _)] | rw [bd_r (by with_reducible assumption)] | rw [bd_s] | rw [bd2_s] | rw [bd3_s] | rw [nm_s] | rw [nI_clamp (by omega)] | rw [nI_1] | rw [e] | rw [if_pos (by first | with_reducible assumption | ((with_reducible refine nI_lt ?_ ?_); omega; omega) | ((with_reducible refine nI_nlt ?_ ?_); omega; omega) | with_reducible exact ne10 | with_reducible rfl)] | rw [if_neg (by first | with_reducible assumption | ((with_reducible refine nI_lt ?_ ?_); omega; omega) | ((with_reducible refine nI_nlt ?_ ?_); omega; omega) | with_reducible exact ne10 | with_reducible rfl)]))
            exact tk
          · refine Or.inr ⟨?_, by rw [vp, vq]; rw [lt64] at c1 c3; rintro (g | ⟨-, g⟩) <;> simp only at g <;> omega⟩
            (repeat (first | rw [ck_t (by first | with_reducible assumption | ((with_reducible apply ixA_of); (with_reducible assumption); omega; omega) | ((with_reducible apply isAr_of); (with_reducible assumption); decide) | ((with_reducible apply nI_ne0); omega; omega) | with_reducible exact isB_0 | with_reducible exact isB_1 | with_reducible exact isB_bI _)] | rw [bd_r (by with_reducible assumption)] | rw [bd_s] | rw [bd2_s] | rw [bd3_s] | rw [nm_s] | rw [nI_clamp (by omega)] | rw [nI_1] | rw [e] | rw [if_pos (by first | with_reducible assumption | ((with_reducible refine nI_lt ?_ ?_); omega; omega) | ((with_reducible refine nI_nlt ?_ ?_); omega; omega) | with_reducible exact ne10 | with_reducible rfl)] | rw [if_neg (by first | with_reducible assumption | ((with_reducible refine nI_lt ?_ ?_); omega; omega) | ((with_reducible refine nI_nlt ?_ ?_); omega; omega) | with_reducible exact ne10 | with_reducible rfl)]))
            exact kp
        · refine Or.inr ⟨?_, by rw [vp, vq]; rw [lt64] at c1; rw [eq64] at c2; rintro (g | ⟨g, -⟩) <;> simp only at g <;> omega⟩
          (repeat (first | rw [ck_t (by first | with_reducible assumption | ((with_reducible apply ixA_of); (with_reducible assumption); omega; omega) | ((with_reducible apply isAr_of); (with_reducible assumption); decide) | ((with_reducible apply nI_ne0); omega; omega) | with_reducible exact isB_0 | with_reducible exact isB_1 | with_reducible exact isB_bI _)] | rw [bd_r (by with_reducible assumption)] | rw [bd_s] | rw [bd2_s] | rw [bd3_s] | rw [nm_s] | rw [nI_clamp (by omega)] | rw [nI_1] | rw [e] | rw [if_pos (by first | with_reducible assumption | ((with_reducible refine nI_lt ?_ ?_); omega; omega) | ((with_reducible refine nI_nlt ?_ ?_); omega; omega) | with_reducible exact ne10 | with_reducible rfl)] | rw [if_neg (by first | with_reducible assumption | ((with_reducible refine nI_lt ?_ ?_); omega; omega) | ((with_reducible refine nI_nlt ?_ ?_); omega; omega) | with_reducible exact ne10 | with_reducible rfl)]))
          exact kp
    rcases e3 with ⟨e3, c0⟩ | ⟨e3, c0⟩
    · exact Or.inl ⟨(nI i, nI (i + 1)), e3, rfl, by omega, go i r (by omega) hr (Or.inr c0) (Or.inl rfl)⟩
    · refine Or.inl ⟨(nI c, nI (i + 1)), e3, rfl, by omega, go c q (by omega) hq (Or.inl rfl) ?_⟩
      rcases ltP_tot r q with g | g | g
      · exact absurd g c0
      · exact Or.inl g
      · exact Or.inr g
  · rintro ⟨x, y⟩ ⟨rfl, hi0, c, q, hc, rfl, hq, hall⟩
    have hck : c = k := by
      obtain ⟨f, k1, k2⟩ := hk
      by_cases hck : c = k
      · exact hck
      · have g1 := k2 c _ hck hq
        rcases hall k f hkl k1 with g2 | g2
        · rw [g2] at g1; exact absurd g1 ltP_irr
        · exact absurd g2 (fun z => ltP_asy g1 z)
    subst hck
    have j0 : (37 : Int32) * nI p = nI (37 * p) := by rw [show (37 : Int32) = nI 37 from rfl, pk_mul]
    have z0 : ixA K (m + 1) 1 (nI (37 * p)) := ixA_of h2 (by omega) (by omega)
    generalize hN : pL M (m + 1) (37 * p) (lN L.length) = N
    have fN : FM m [] [1] M N := by rw [← hN]; exact FM.rf.pL (by decide)
    obtain ⟨M', g1, g2, g3, g4⟩ := originOf_L157 hm hp (h.fr fN (by decide) (by decide) (by decide)) hl hkl
    refine ⟨M', ?_, by rw [g4 _ (by omega), ← hN, pL_s], g2, fN.tr g3, fun j hj => by rw [g4 _ (by omega), ← hN, pL_k (by omega)]⟩
    show mX8_originOf_B62 K R M m (nI p) (nI c) (nI L.length) = _
    unfold mX8_originOf_B62
    (repeat (first | rw [ck_t (by first | with_reducible assumption | ((with_reducible apply ixA_of); (with_reducible assumption); omega; omega) | ((with_reducible apply isAr_of); (with_reducible assumption); decide) | ((with_reducible apply nI_ne0); omega; omega) | with_reducible exact isB_0 | with_reducible exact isB_1 | with_reducible exact isB_bI _)] | rw [bd_r (by with_reducible assumption)] | rw [bd_s] | rw [bd2_s] | rw [bd3_s] | rw [nm_s] | rw [nI_clamp (by omega)] | rw [nI_1] | rw [e] | rw [j0] | rw [nI_i64 (show L.length < 2 ^ 31 by omega)] | rw [hN] | rw [if_pos (by first | with_reducible assumption | ((with_reducible refine nI_lt ?_ ?_); omega; omega) | ((with_reducible refine nI_nlt ?_ ?_); omega; omega) | with_reducible exact ne10 | with_reducible rfl)] | rw [if_neg (by first | with_reducible assumption | ((with_reducible refine nI_lt ?_ ?_); omega; omega) | ((with_reducible refine nI_nlt ?_ ?_); omega; omega) | with_reducible exact ne10 | with_reducible rfl)]))
    rw [show lp (mX8_originOf_L157 K R m (nI p) (nI c)) (0, N) = some M' from g1]
    rfl
theorem originOf_ok {m p : Nat} {L : List Pt} {t x y : Int64} {ti a b : Int} (hm : moA K R m) (hp : p < 40) (h : rM M m 24 17 18 L) (hl : L.length ≤ 16) (hB : inBs L) (ht : t.toInt = ti) (h1 : ti = 1 ∨ ti = -1) (hx : x.toInt = a) (hy : y.toInt = b) (ba : -1000000 ≤ a ∧ a ≤ 1000000) (bb : -1000000 ≤ b ∧ b ≤ 1000000) (hk : ∃ k, isLs (L.map (mvP ti (-ti * a) (-ti * b))) k) :
    ∃ M', mX8_originOf K R M m (nI p) t x y = some M' ∧ M'.2 (m + 1) (37 * p) = lN L.length ∧ (∀ (i : Nat) q, (norm (L.map (mvP ti (-ti * a) (-ti * b))))[i]? = some q → (M'.2 (m + 1) (37 * p + 1 + 2 * i)).toInt = q.1 ∧ (M'.2 (m + 1) (37 * p + 2 + 2 * i)).toInt = q.2) ∧ FM m [] [1, 17, 18] M M' ∧ ∀ j, (j < 37 * p ∨ 37 * p + 33 ≤ j) → M'.2 (m + 1) j = M.2 (m + 1) j := by
  have h0 := hm.1
  have h5 := mo_r22 hm
  have h6 := mo_r23 hm
  have h7 := mo_a22 hm
  have h8 := mo_a23 hm
  obtain ⟨k, hk⟩ := hk
  have hW := lp_ind (f := mX8_originOf_L3 K R m (nI p) t x y) (fun (i : Nat) (s : Int32 × Mm) => s.1 = nI i ∧ FM m [] [17, 18] M s.2 ∧ ∀ (j : Nat) q, L[j]? = some q → (s.2.2 (m + 17) j).toInt = (if j < i then (mvP ti (-ti * a) (-ti * b) q).1 else q.1) ∧ (s.2.2 (m + 18) j).toInt = (if j < i then (mvP ti (-ti * a) (-ti * b) q).2 else q.2)) (fun M' => M'.2 (m + 1) (37 * p) = lN L.length ∧ (∀ (i : Nat) q, (norm (L.map (mvP ti (-ti * a) (-ti * b))))[i]? = some q → (M'.2 (m + 1) (37 * p + 1 + 2 * i)).toInt = q.1 ∧ (M'.2 (m + 1) (37 * p + 2 + 2 * i)).toInt = q.2) ∧ FM m [] [1, 17, 18] M M' ∧ ∀ j, (j < 37 * p ∨ 37 * p + 33 ≤ j) → M'.2 (m + 1) j = M.2 (m + 1) j) L.length ?_ ?_
  · obtain ⟨M', e1, e2⟩ := hW L.length 0 (nI 0, M) (by omega) ⟨rfl, FM.rf, fun j q hq => by rw [if_neg (by omega), if_neg (by omega)]; exact h.2 j q hq⟩
    refine ⟨M', ?_, e2⟩
    unfold mX8_originOf
    (repeat (first | rw [ck_t (by first | with_reducible assumption | ((with_reducible apply ixA_of); (with_reducible assumption); omega; omega) | ((with_reducible apply isAr_of); (with_reducible assumption); decide) | ((with_reducible apply nI_ne0); omega; omega) | with_reducible exact isB_0 | with_reducible exact isB_1 | with_reducible exact isB_bI _)] | rw [bd_r (by with_reducible assumption)] | rw [bd_s] | rw [bd2_s] | rw [bd3_s] | rw [nm_s] | rw [nI_clamp (by omega)] | rw [nI_1] | rw [if_pos (by first | with_reducible assumption | ((with_reducible refine nI_lt ?_ ?_); omega; omega) | ((with_reducible refine nI_nlt ?_ ?_); omega; omega) | with_reducible exact ne10 | with_reducible rfl)] | rw [if_neg (by first | with_reducible assumption | ((with_reducible refine nI_lt ?_ ?_); omega; omega) | ((with_reducible refine nI_nlt ?_ ?_); omega; omega) | with_reducible exact ne10 | with_reducible rfl)]))
    exact e1
  · rintro i ⟨z, N⟩ hi ⟨rfl, f1, f2⟩
    have f1 : FM m [] [17, 18] M N := f1
    have f2 : ∀ (j : Nat) q, L[j]? = some q → (N.2 (m + 17) j).toInt = (if j < i then (mvP ti (-ti * a) (-ti * b) q).1 else q.1) ∧ (N.2 (m + 18) j).toInt = (if j < i then (mvP ti (-ti * a) (-ti * b) q).2 else q.2) := f2
    have e : N.1 m 24 = nI L.length := (f1.sl 24 (by decide)).trans h.1
    obtain ⟨c, hc⟩ := get_ex hi
    obtain ⟨c1, c2⟩ := f2 i c hc
    rw [if_neg (by omega)] at c1 c2
    obtain ⟨b1, b2, b3, b4⟩ := hB i c hc
    have m1 : (t * (N.2 (m + 17) i - x)).toInt = ti * (c.1 - a) := pm1_mul64 ht h1 (by rw [sub64 (by rw [c1, hx]; omega) (by rw [c1, hx]; omega), c1, hx]) (by omega) (by omega)
    have m2 : (t * (N.2 (m + 18) i - y)).toInt = ti * (c.2 - b) := pm1_mul64 ht h1 (by rw [sub64 (by rw [c2, hy]; omega) (by rw [c2, hy]; omega), c2, hy]) (by omega) (by omega)
    generalize hN2 : pL (pL N (m + 17) i (t * (N.2 (m + 17) i - x))) (m + 18) i (t * (N.2 (m + 18) i - y)) = N2
    refine Or.inl ⟨(nI (i + 1), N2), ?_, rfl, by rw [← hN2]; exact (f1.pL (by decide)).pL (by decide), fun j q hq => ?_⟩
    · show mX8_originOf_B3 K R m (nI p) t x y (nI i) N = _
      unfold mX8_originOf_B3
      (repeat (first | rw [ck_t (by first | with_reducible assumption | ((with_reducible apply ixA_of); (with_reducible assumption); omega; omega) | ((with_reducible apply isAr_of); (with_reducible assumption); decide) | ((with_reducible apply nI_ne0); omega; omega) | with_reducible exact isB_0 | with_reducible exact isB_1 | with_reducible exact isB_bI _)] | rw [bd_r (by with_reducible assumption)] | rw [bd_s] | rw [bd2_s] | rw [bd3_s] | rw [nm_s] | rw [nI_clamp (by omega)] | rw [nI_1] | rw [e] | rw [pL_n (show m + 18 ≠ m + 17 by omega)] | rw [hN2] | rw [if_pos (by first | with_reducible assumption | ((with_reducible refine nI_lt ?_ ?_); omega; omega) | ((with_reducible refine nI_nlt ?_ ?_); omega; omega) | with_reducible exact ne10 | with_reducible rfl)] | rw [if_neg (by first | with_reducible assumption | ((with_reducible refine nI_lt ?_ ?_); omega; omega) | ((with_reducible refine nI_nlt ?_ ?_); omega; omega) | with_reducible exact ne10 | with_reducible rfl)]))
    · show (N2.2 (m + 17) j).toInt = _ ∧ (N2.2 (m + 18) j).toInt = _
      rw [← hN2, pL_n (show m + 17 ≠ m + 18 by omega)]
      by_cases hji : j = i
      · subst hji
        rw [pL_s, pL_s, if_pos (by omega), if_pos (by omega), get_un hq hc, m1, m2]
        unfold mvP
        rcases h1 with r | r <;> rw [r] <;> simp only <;> omega
      · rw [pL_k hji, pL_k hji, pL_n (show m + 18 ≠ m + 17 by omega)]
        have := f2 j q hq
        by_cases g : j < i
        · rw [if_pos g, if_pos g] at this
          rw [if_pos (by omega), if_pos (by omega)]; exact this
        · rw [if_neg g, if_neg g] at this
          rw [if_neg (by omega), if_neg (by omega)]; exact this
  · rintro ⟨z, N⟩ ⟨rfl, f1, f2⟩
    have f1 : FM m [] [17, 18] M N := f1
    have f2 : ∀ (j : Nat) q, L[j]? = some q → (N.2 (m + 17) j).toInt = (if j < L.length then (mvP ti (-ti * a) (-ti * b) q).1 else q.1) ∧ (N.2 (m + 18) j).toInt = (if j < L.length then (mvP ti (-ti * a) (-ti * b) q).2 else q.2) := f2
    have e : N.1 m 24 = nI L.length := (f1.sl 24 (by decide)).trans h.1
    have hN : rM N m 24 17 18 (L.map (mvP ti (-ti * a) (-ti * b))) := by
      refine ⟨by rw [List.length_map]; exact e, fun i q hq => ?_⟩
      obtain ⟨c, hc, rfl⟩ := get_map hq
      have := f2 i c hc
      rw [if_pos (get_lt hc), if_pos (get_lt hc)] at this
      exact this
    obtain ⟨M', g1, g2, g3, g4, g5⟩ := originOf_L62 hm hp hN (by rw [List.length_map]; exact hl) hk
    refine ⟨M', ?_, by rw [g2, List.length_map], g3, (f1.mo (by decide) (by decide)).tr (g4.mo (by decide) (by decide)), fun j hj => by rw [g5 j hj, f1.ar 1 (by decide)]⟩
    show mX8_originOf_B3 K R m (nI p) t x y (nI L.length) N = _
    unfold mX8_originOf_B3
    (repeat (first | rw [ck_t (by first | with_reducible assumption | ((with_reducible apply ixA_of); (with_reducible assumption); omega; omega) | ((with_reducible apply isAr_of); (with_reducible assumption); decide) | ((with_reducible apply nI_ne0); omega; omega) | with_reducible exact isB_0 | with_reducible exact isB_1 | with_reducible exact isB_bI _)] | rw [bd_r (by with_reducible assumption)] | rw [bd_s] | rw [bd2_s] | rw [bd3_s] | rw [nm_s] | rw [nI_clamp (by omega)] | rw [nI_1] | rw [e] | rw [if_pos (by first | with_reducible assumption | ((with_reducible refine nI_lt ?_ ?_); omega; omega) | ((with_reducible refine nI_nlt ?_ ?_); omega; omega) | with_reducible exact ne10 | with_reducible rfl)] | rw [if_neg (by first | with_reducible assumption | ((with_reducible refine nI_lt ?_ ?_); omega; omega) | ((with_reducible refine nI_nlt ?_ ?_); omega; omega) | with_reducible exact ne10 | with_reducible rfl)]))
    rw [show lp (mX8_originOf_L62 K R N m (nI p)) (0, 1) = some M' from g1]
    rfl
/-- a piece like another one is put behind the pieces -/
theorem padd_ok {c q : Nat} {ps : List Pc} {P : Pc} (hA : psA K R c) (hq : pcA K R q) (hd : c + 162 ≤ q ∨ q + 4 ≤ c) (h : psC M c ps) (hn : ps.length < 40) (hP : pcC M q P) (hl : P.1.length ≤ 16) : ∃ M', mX4_add K R M c q = some M' ∧ psC M' c (ps ++ [P]) ∧ Fr c (c + 162) M M' ∧ M'.2 = M.2 := by
  obtain ⟨a0, a1, a2, a3⟩ := hA
  have q0 := hq.1
  obtain ⟨k1, k2⟩ := a3 ps.length hn
  have k20 := k2.1
  have e := h.1
  obtain ⟨M7, d1, d2, d3, d4⟩ := ptake_ok (M := M) k2 hq (by omega) hl hP
  have e7 : M7.1 c 1 = nI ps.length := by rw [(d3 c (by omega)).1]; exact e
  refine ⟨pI M7 c 1 (nI (ps.length + 1)), ?_, ⟨by rw [pI_s, List.length_append]; rfl, fun i p hp => ?_⟩, (d3.mono (by omega) (by omega)).pI (by omega) (by omega), d4⟩
  · unfold mX4_add
    (repeat (first | rw [ck_t (by first | with_reducible assumption | ((with_reducible apply ixA_of); (with_reducible assumption); omega; omega) | ((with_reducible apply isAr_of); (with_reducible assumption); decide) | ((with_reducible apply nI_ne0); omega; omega) | with_reducible exact isB_0 | with_reducible exact isB_1 | with_reducible exact isB_bI _)] | rw [bd_r (by with_reducible assumption)] | rw [bd_s] | rw [bd2_s] | rw [bd3_s] | rw [nm_s] | rw [nI_clamp (by omega)] | rw [nI_1] | rw [e] | rw [if_pos (show nI ps.length < 40 from nI_lt (b := 40) hn (by decide))] | rw [bd_e (d1)] | rw [e7] | rw [if_pos (by first | with_reducible assumption | ((with_reducible refine nI_lt ?_ ?_); omega; omega) | ((with_reducible refine nI_nlt ?_ ?_); omega; omega) | with_reducible exact ne10 | with_reducible rfl)] | rw [if_neg (by first | with_reducible assumption | ((with_reducible refine nI_lt ?_ ?_); omega; omega) | ((with_reducible refine nI_nlt ?_ ?_); omega; omega) | with_reducible exact ne10 | with_reducible rfl)]))
  · have f9 : Fr c (c + 1) M7 (pI M7 c 1 (nI (ps.length + 1))) := Fr.rf.pI (by omega) (by omega)
    rcases get_app hp with ⟨hi, hp⟩ | ⟨hi, hq2⟩
    · exact ((h.2 i p hp).fr d3 (by omega)).fr f9 (by omega)
    · subst hi hq2
      exact d2.fr f9 (by omega)
theorem empty_ok {o d : Nat} {f : Nat → Nat} (hs : skC K R o) (hf : hiR R o f d) : mX1_emptyDraft K R M (o + 20) = some (cont o d, pI M (cont o d) 1 0) := by
  obtain ⟨-, -, -, -, -, -, -, -, -, -, -, -, -, -, -, -, -, -, ⟨i0, i1, i2, i3⟩, -⟩ := hs
  have g0 := (i3 d hf.1).1
  have r1 := hf.2.2.2.1
  have g0 : isO K (cont o d) 4 := g0
  unfold mX1_emptyDraft
  (repeat (first | rw [ck_t (by first | with_reducible assumption | ((with_reducible apply ixA_of); (with_reducible assumption); omega; omega) | ((with_reducible apply isAr_of); (with_reducible assumption); decide) | ((with_reducible apply nI_ne0); omega; omega) | with_reducible exact isB_0 | with_reducible exact isB_1 | with_reducible exact isB_bI _)] | rw [bd_r (by with_reducible assumption)] | rw [bd_s] | rw [bd2_s] | rw [bd3_s] | rw [nm_s] | rw [nI_clamp (by omega)] | rw [nI_1] | rw [if_pos (by first | with_reducible assumption | ((with_reducible refine nI_lt ?_ ?_); omega; omega) | ((with_reducible refine nI_nlt ?_ ?_); omega; omega) | with_reducible exact ne10 | with_reducible rfl)] | rw [if_neg (by first | with_reducible assumption | ((with_reducible refine nI_lt ?_ ?_); omega; omega) | ((with_reducible refine nI_nlt ?_ ?_); omega; omega) | with_reducible exact ne10 | with_reducible rfl)]))
theorem setOrigin_ok {q r n : Nat} {P : Pc} {l : List Pt} (hq : pcA K R q) (hr : rgA K R r n) (hd : r + 3 ≤ q ∨ q + 4 ≤ r) (h : rgC M r l) (hl : l.length ≤ 16) (hl2 : l.length ≤ n) (hn : n < 2 ^ 20) (hB : inBs l) (hk : ∃ k, isLs l k) (hP : pcC M q P) : ∃ M', mX3_setOrigin K R M q r = some M' ∧ pcC M' q (norm l, P.2.1, P.2.2.1, P.2.2.2.1, false) ∧ Fr q (q + 4) M M' ∧ M'.2 = M.2 := by
  obtain ⟨a0, a1, a2⟩ := hq
  have a20 := a2.1
  have r0 := hr.1
  obtain ⟨k, hk⟩ := hk
  obtain ⟨M4, d1, d2, d3, d4⟩ := takeMoved_ok (M := M) (t := 1) (x := 0) (y := 0) (ti := 1) (a := 0) (b := 0) a2 hr (by omega) hl hl2 (by decide) hn h hB rfl (Or.inl rfl) rfl rfl (by omega) (by omega) (by rw [map_id']; exact hk)
  rw [map_id'] at d2
  obtain ⟨h1, h2, h3, h4, h5⟩ := hP
  refine ⟨pI M4 q 4 0, ?_, ⟨⟨by rw [pI_n (by omega)]; exact d2.1, fun i p hp => by rw [pI_n (by omega), pI_n (by omega)]; exact d2.2 i p hp⟩, ?_, ?_, ?_, pI_s⟩, (d3.mono (by omega) (by omega)).pI (by omega) (by omega), d4⟩
  · unfold mX3_setOrigin
    (repeat (first | rw [ck_t (by first | with_reducible assumption | ((with_reducible apply ixA_of); (with_reducible assumption); omega; omega) | ((with_reducible apply isAr_of); (with_reducible assumption); decide) | ((with_reducible apply nI_ne0); omega; omega) | with_reducible exact isB_0 | with_reducible exact isB_1 | with_reducible exact isB_bI _)] | rw [bd_r (by with_reducible assumption)] | rw [bd_s] | rw [bd2_s] | rw [bd3_s] | rw [nm_s] | rw [nI_clamp (by omega)] | rw [nI_1] | rw [bd_e (d1)] | rw [if_pos (by first | with_reducible assumption | ((with_reducible refine nI_lt ?_ ?_); omega; omega) | ((with_reducible refine nI_nlt ?_ ?_); omega; omega) | with_reducible exact ne10 | with_reducible rfl)] | rw [if_neg (by first | with_reducible assumption | ((with_reducible refine nI_lt ?_ ?_); omega; omega) | ((with_reducible refine nI_nlt ?_ ?_); omega; omega) | with_reducible exact ne10 | with_reducible rfl)]))
  · rw [pI_k (by decide), (d3 q (by omega)).1]; exact h2
  · rw [pI_k (by decide), (d3 q (by omega)).1]; exact h3
  · rw [pI_k (by decide), (d3 q (by omega)).1]; exact h4
end ORG
theorem inv_begin (o : Nat) (K : Kk) (R : Rr) (M : Mm) (a0 : Int32) (hI : Inv o K R M) : ∃ (v : Int64) (R1 : Rr) (M1 : Mm) (M2 : Mm), mX7_begin K R M o a0 = some (v, R1, M1) ∧ mX8_begin K R1 M1 (o + 2118) a0 = some (v, M2) ∧ Inv o K R1 M2 := by
  have hI0 := hI
  obtain ⟨hs, hm, S, hw, hc, ho⟩ := hI
  have hs0 := hs
  have m0 := hm.1
  have m9 := mo_r9 hm
  have ma9 := mo_a9 hm
  obtain ⟨f, d, hx⟩ := hi_of hc
  obtain ⟨s0, -, s1, s2, -, -, -, -, -, s8, -, -, -, -, -, -, b1, b2, ⟨i0, -⟩, -, -, -, -, -, -, p1, -⟩ := hs
  rcases cases_n a0 5 (by decide) with h | ⟨k, hk, rfl⟩
  · refine ⟨-9000000000000000001, R, M, M, ?_, ?_, hI0⟩
    · unfold mX7_begin
      (repeat (first | rw [ck_t (by first | with_reducible assumption | ((with_reducible apply ixA_of); (with_reducible assumption); omega; omega) | ((with_reducible apply isAr_of); (with_reducible assumption); decide) | ((with_reducible apply nI_ne0); omega; omega) | with_reducible exact isB_0 | with_reducible exact isB_1 | with_reducible exact isB_bI _)] | rw [bd_r (by with_reducible assumption)] | rw [bd_s] | rw [bd2_s] | rw [bd3_s] | rw [nm_s] | rw [nI_clamp (by omega)] | rw [nI_1] | rw [bd_e (isFigure_f h)] | rw [if_pos (by first | with_reducible assumption | ((with_reducible refine nI_lt ?_ ?_); omega; omega) | ((with_reducible refine nI_nlt ?_ ?_); omega; omega) | with_reducible exact ne10 | with_reducible rfl)] | rw [if_neg (by first | with_reducible assumption | ((with_reducible refine nI_lt ?_ ?_); omega; omega) | ((with_reducible refine nI_nlt ?_ ?_); omega; omega) | with_reducible exact ne10 | with_reducible rfl)]))
    · unfold mX8_begin
      (repeat (first | rw [ck_t (by first | with_reducible assumption | ((with_reducible apply ixA_of); (with_reducible assumption); omega; omega) | ((with_reducible apply isAr_of); (with_reducible assumption); decide) | ((with_reducible apply nI_ne0); omega; omega) | with_reducible exact isB_0 | with_reducible exact isB_1 | with_reducible exact isB_bI _)] | rw [bd_r (by with_reducible assumption)] | rw [bd_s] | rw [bd2_s] | rw [bd3_s] | rw [nm_s] | rw [nI_clamp (by omega)] | rw [nI_1] | rw [bd_e (isInN_f (n := 5) h (by decide) (by decide))] | rw [if_pos (by first | with_reducible assumption | ((with_reducible refine nI_lt ?_ ?_); omega; omega) | ((with_reducible refine nI_nlt ?_ ?_); omega; omega) | with_reducible exact ne10 | with_reducible rfl)] | rw [if_neg (by first | with_reducible assumption | ((with_reducible refine nI_lt ?_ ?_); omega; omega) | ((with_reducible refine nI_nlt ?_ ?_); omega; omega) | with_reducible exact ne10 | with_reducible rfl)]))
  · obtain ⟨k1, k2⟩ := b2 k hk
    have k20 := k2.1
    have hC := hc.2.1 k hk
    have hM : fgM M (o + 2118) k (S.2.1 k) := ho.2.2.1 k hk
    have eC := hC.1
    have t0 := isFigure_t (K := K) (R := R) (M := M) hk
    rcases hw.2.2.1 k hk with h | h
    · have eM := hM.1
      rw [h] at eC eM
      have eC : M.1 (o + 5 + 3 * k) 2 = 0 := eC
      have eM : M.1 (o + 2118 + 8) k = 0 := eM
      refine ⟨-9000000000000000002, R, M, M, ?_, ?_, hI0⟩
      · unfold mX7_begin
        (repeat (first | rw [ck_t (by first | with_reducible assumption | ((with_reducible apply ixA_of); (with_reducible assumption); omega; omega) | ((with_reducible apply isAr_of); (with_reducible assumption); decide) | ((with_reducible apply nI_ne0); omega; omega) | with_reducible exact isB_0 | with_reducible exact isB_1 | with_reducible exact isB_bI _)] | rw [bd_r (by with_reducible assumption)] | rw [bd_s] | rw [bd2_s] | rw [bd3_s] | rw [nm_s] | rw [nI_clamp (by omega)] | rw [nI_1] | rw [bd_e (t0)] | rw [if_pos (by first | with_reducible assumption | ((with_reducible refine nI_lt ?_ ?_); omega; omega) | ((with_reducible refine nI_nlt ?_ ?_); omega; omega) | with_reducible exact ne10 | with_reducible rfl)] | rw [if_neg (by first | with_reducible assumption | ((with_reducible refine nI_lt ?_ ?_); omega; omega) | ((with_reducible refine nI_nlt ?_ ?_); omega; omega) | with_reducible exact ne10 | with_reducible rfl)]))
      · unfold mX8_begin
        (repeat (first | rw [ck_t (by first | with_reducible assumption | ((with_reducible apply ixA_of); (with_reducible assumption); omega; omega) | ((with_reducible apply isAr_of); (with_reducible assumption); decide) | ((with_reducible apply nI_ne0); omega; omega) | with_reducible exact isB_0 | with_reducible exact isB_1 | with_reducible exact isB_bI _)] | rw [bd_r (by with_reducible assumption)] | rw [bd_s] | rw [bd2_s] | rw [bd3_s] | rw [nm_s] | rw [nI_clamp (by omega)] | rw [nI_1] | rw [bd_e (isInN_t (n := 5) (b := 4) hk (by decide) (by decide))] | rw [if_pos (by first | with_reducible assumption | ((with_reducible refine nI_lt ?_ ?_); omega; omega) | ((with_reducible refine nI_nlt ?_ ?_); omega; omega) | with_reducible exact ne10 | with_reducible rfl)] | rw [if_neg (by first | with_reducible assumption | ((with_reducible refine nI_lt ?_ ?_); omega; omega) | ((with_reducible refine nI_nlt ?_ ?_); omega; omega) | with_reducible exact ne10 | with_reducible rfl)]))
    · generalize S.2.1 k = l at hC hM eC h
      have p10 := p1.1
      have l16 := h.2.1
      have lB := h.B
      have ne : ¬ nI l.length = 0 := nI_ne0 (by have := h.1; omega) (by omega)
      have nm : norm l = l := norm_F h.2.2.2.1
      have hd8 := hx.1.1
      have hcd : cont o d = o + 22 + 162 * d := rfl
      -- the class
      generalize hM10 : pI (pI (pI M (o + 1981) 1 1) (o + 1981) 2 0) (o + 1981) 3 0 = M10
      have f10 : Fr (o + 1981) (o + 1985) M M10 := by rw [← hM10]; exact ((Fr.rf.pI (by omega) (by omega)).pI (by omega) (by omega)).pI (by omega) (by omega)
      have hf10 := hC.fr f10 (by omega)
      obtain ⟨a0, a1, a2⟩ := p1
      have a20 := a2.1
      have p1 : pcA K R (o + 1981) := ⟨a0, a1, a2⟩
      obtain ⟨M4, d1, d2, d3, d4⟩ := takeMoved_ok (M := M10) (t := 1) (x := 0) (y := 0) (ti := 1) (a := 0) (b := 0) a2 k2 (by omega) l16 l16 (by decide) (by decide) hf10 lB rfl (Or.inl rfl) rfl rfl (by omega) (by omega) (by rw [map_id']; exact h.ls)
      rw [norm_id h.2.2.2.1] at d2
      generalize hM12 : pI M4 (o + 1981) 4 0 = M12
      have f12 : Fr (o + 1981) (o + 1985) M M12 := by rw [← hM12]; exact (f10.tr (d3.mono (by omega) (by omega))).pI (by omega) (by omega)
      let P : Pc := (l, 1, 0, 0, false)
      have iP : isPc P := ⟨h, Or.inl rfl, fun i c hc => by
        show inB (mvP 1 0 0 c)
        rw [mvP_id]; exact lB i c hc⟩
      have q12 : pcC M12 (o + 1981) P := by
        have e4 := (d3 (o + 1981) (by omega)).1
        refine ⟨⟨by rw [← hM12, pI_n (by omega)]; exact d2.1, fun i p hp => by rw [← hM12, pI_n (by omega), pI_n (by omega)]; exact d2.2 i p hp⟩, ?_, ?_, ?_, by rw [← hM12, pI_s]; rfl⟩
        · rw [← hM12, pI_k (by decide), e4, ← hM10, pI_k (by decide), pI_k (by decide), pI_s]; rfl
        · rw [← hM12, pI_k (by decide), e4, ← hM10, pI_k (by decide), pI_s]; rfl
        · rw [← hM12, pI_k (by decide), e4, ← hM10, pI_s]; rfl
      have l12 : M12.2 = M.2 := by rw [← hM12, pI_l, d4, ← hM10]; rfl
      have dA := cont_psA hs0 hd8
      have e15 : psC (pI M12 (cont o d) 1 0) (cont o d) [] := ⟨pI_s, fun i p hp => by simp at hp⟩
      obtain ⟨M17, g1, g2, g3, g4⟩ := padd_ok (M := pI M12 (cont o d) 1 0) dA p1 (by omega) e15 (by decide) (q12.fr (Fr.rf.pI (lo := cont o d) (hi := cont o d + 1) (by omega) (by omega)) (by omega)) l16
      have dA0 := dA.1
      have f17 : ∀ b, (b < cont o d ∨ cont o d + 162 ≤ b) → M17.1 b = M12.1 b := fun b hb => by rw [(g3 b hb).1, pI_n (by omega)]
      have hpp : isPs [P] := ⟨by show 1 ≤ 40; decide, fun i p hp => by
        match i, hp with
        | 0, hp => cases hp; exact iP⟩
      obtain ⟨R1, M20, c1, c2, c3, c4, c5, c6, c7⟩ := chg hs0 hm hw hc ho hx hpp g2 (fun b hb h => by rw [f17 b h, (f12 b (by omega)).1]) (by rw [g4, pI_l]; exact l12) (fun b hb => by rw [f17 b (by omega), (f12 b (by omega)).1])
      -- the reference
      obtain ⟨N, n1, n2, n3⟩ := c7 M20 [] [] FM.rf (by decide) (by decide) (by decide) (fun j hj => by cases hj)
      have c40 := c4.1
      have x0 := mo_r0 c4
      have xa := mo_a0 c4
      have x7 := mo_r7 c4
      have xa7 := mo_a7 c4
      have x8 := mo_r8 c4
      have xa8 := mo_a8 c4
      have x9 := mo_r9 c4
      have xa9 := mo_a9 c4
      have x22 := mo_r22 c4
      have x23 := mo_r23 c4
      have xa22 := mo_a22 c4
      have xa23 := mo_a23 c4
      have e20 : ∀ b, o + 2118 ≤ b → M20.1 b = M.1 b := fun b hb => by rw [c6 b (by omega), f17 b (by omega), (f12 b (by omega)).1]
      have eM : M20.1 (o + 2118 + 8) k = nI l.length := by rw [e20 _ (by omega)]; exact hM.1
      have eN : N.1 (o + 2118 + 8) k = nI l.length := by rw [n2.1 _ (by omega)]; exact eM
      have pN : ptM N (o + 2118 + 6) (o + 2118 + 7) (16 * k) l := by
        unfold ptM
        rw [n2.ar 6 (by decide), n2.ar 7 (by decide), c5]; exact hM.2
      generalize hN1 : pI (pL N (o + 2118 + 1) 1480 1) (o + 2118) 24 (nI l.length) = N1
      have fN1 : FM (o + 2118) [24] [1, 17, 18] N N1 := by rw [← hN1]; exact (FM.rf.pL (by decide)).pI (by decide)
      have z1480 : ixA K (o + 2118 + 1) 1 1480 := ixA_of (i := 1480) xa (by decide) (by decide)
      have z36 : ixA K (o + 2118 + 1) 1 36 := ixA_of (i := 36) xa (by decide) (by decide)
      have hW := lp_ind (f := mX8_begin_L54 K R1 (o + 2118) (nI k)) (fun (i : Nat) (s : Int32 × Mm) => s.1 = nI i ∧ FM (o + 2118) [] [17, 18] N1 s.2 ∧ ∀ (j : Nat) q, j < i → l[j]? = some q → (s.2.2 (o + 2118 + 17) j).toInt = q.1 ∧ (s.2.2 (o + 2118 + 18) j).toInt = q.2) (fun r => r.1 = 0 ∧ FM (o + 2118) [24] [1, 17, 18] N r.2 ∧ psM (r.2.2 (o + 2118 + 1)) 0 [P]) l.length ?_ ?_
      · obtain ⟨⟨v, M2⟩, w1, w2, w3, w4⟩ := hW l.length 0 (nI 0, N1) (by omega) ⟨rfl, FM.rf, fun j q hj => absurd hj (by omega)⟩
        have w2 : v = 0 := w2
        subst w2
        refine ⟨0, R1, M20, M2, ?_, ?_, n3 M2 [24] [1, 17, 18] w3 (by decide) (by decide) (by decide) (by decide) w4⟩
        · have dA0 : isO K (cont o d) 4 := dA0
          unfold mX7_begin mX3_setOrigin
          (repeat (first | rw [ck_t (by first | with_reducible assumption | ((with_reducible apply ixA_of); (with_reducible assumption); omega; omega) | ((with_reducible apply isAr_of); (with_reducible assumption); decide) | ((with_reducible apply nI_ne0); omega; omega) | with_reducible exact isB_0 | with_reducible exact isB_1 | with_reducible exact isB_bI _)] | rw [bd_r (by with_reducible assumption)] | rw [bd_s] | rw [bd2_s] | rw [bd3_s] | rw [nm_s] | rw [nI_clamp (by omega)] | rw [nI_1] | rw [bd_e (t0)] | rw [eC] | rw [bd_e (setMove_ok a0)] | rw [hM10] | rw [bd_e (d1)] | rw [hM12] | rw [bd2_e (empty_ok hs0 hx.1)] | rw [bd_e (g1)] | rw [bd2_e (c1)] | rw [if_pos (by first | with_reducible assumption | ((with_reducible refine nI_lt ?_ ?_); omega; omega) | ((with_reducible refine nI_nlt ?_ ?_); omega; omega) | with_reducible exact ne10 | with_reducible rfl)] | rw [if_neg (by first | with_reducible assumption | ((with_reducible refine nI_lt ?_ ?_); omega; omega) | ((with_reducible refine nI_nlt ?_ ?_); omega; omega) | with_reducible exact ne10 | with_reducible rfl)]))
        · unfold mX8_begin
          (repeat (first | rw [ck_t (by first | with_reducible assumption | ((with_reducible apply ixA_of); (with_reducible assumption); omega; omega) | ((with_reducible apply isAr_of); (with_reducible assumption); decide) | ((with_reducible apply nI_ne0); omega; omega) | with_reducible exact isB_0 | with_reducible exact isB_1 | with_reducible exact isB_bI _)] | rw [bd_r (by with_reducible assumption)] | rw [bd_s] | rw [bd2_s] | rw [bd3_s] | rw [nm_s] | rw [nI_clamp (by omega)] | rw [nI_1] | rw [bd_e (isInN_t (n := 5) (b := 4) hk (by decide) (by decide))] | rw [eM] | rw [bd_e (n1)] | rw [eN] | rw [hN1] | rw [if_pos (by first | with_reducible assumption | ((with_reducible refine nI_lt ?_ ?_); omega; omega) | ((with_reducible refine nI_nlt ?_ ?_); omega; omega) | with_reducible exact ne10 | with_reducible rfl)] | rw [if_neg (by first | with_reducible assumption | ((with_reducible refine nI_lt ?_ ?_); omega; omega) | ((with_reducible refine nI_nlt ?_ ?_); omega; omega) | with_reducible exact ne10 | with_reducible rfl)]))
          rw [show (pL N (o + 2118 + 1) 1480 1).1 (o + 2118 + 8) k = nI l.length from eN, hN1]
          exact w1
      · rintro i ⟨z, Q⟩ hi ⟨rfl, q1, q2⟩
        have q1 : FM (o + 2118) [] [17, 18] N1 Q := q1
        have e24 : Q.1 (o + 2118) 24 = nI l.length := by rw [q1.sl 24 (by decide), ← hN1, pI_s]
        obtain ⟨c, hc⟩ := get_ex hi
        have r6 : Q.2 (o + 2118 + 6) = N.2 (o + 2118 + 6) := by rw [q1.ar 6 (by decide), fN1.ar 6 (by decide)]
        have r7 : Q.2 (o + 2118 + 7) = N.2 (o + 2118 + 7) := by rw [q1.ar 7 (by decide), fN1.ar 7 (by decide)]
        obtain ⟨v1, v2⟩ := pN i c hc
        generalize hQ2 : pL (pL Q (o + 2118 + 17) i (Q.2 (o + 2118 + 6) (16 * k + i))) (o + 2118 + 18) i (Q.2 (o + 2118 + 7) (16 * k + i)) = Q2
        refine Or.inl ⟨(nI (i + 1), Q2), ?_, rfl, by rw [← hQ2]; exact (q1.pL (by decide)).pL (by decide), fun j q hj hq => ?_⟩
        · show mX8_begin_B54 K R1 (o + 2118) (nI k) (nI i) Q = _
          unfold mX8_begin_B54
          (repeat (first | rw [ck_t (by first | with_reducible assumption | ((with_reducible apply ixA_of); (with_reducible assumption); omega; omega) | ((with_reducible apply isAr_of); (with_reducible assumption); decide) | ((with_reducible apply nI_ne0); omega; omega) | with_reducible exact isB_0 | with_reducible exact isB_1 | with_reducible exact isB_bI _)] | rw [bd_r (by with_reducible assumption)] | rw [bd_s] | rw [bd2_s] | rw [bd3_s] | rw [nm_s] | rw [nI_clamp (by omega)] | rw [nI_1] | rw [e24] | rw [ix16] | rw [pL_n (show o + 2118 + 7 ≠ o + 2118 + 17 by omega)] | rw [hQ2] | rw [if_pos (by first | with_reducible assumption | ((with_reducible refine nI_lt ?_ ?_); omega; omega) | ((with_reducible refine nI_nlt ?_ ?_); omega; omega) | with_reducible exact ne10 | with_reducible rfl)] | rw [if_neg (by first | with_reducible assumption | ((with_reducible refine nI_lt ?_ ?_); omega; omega) | ((with_reducible refine nI_nlt ?_ ?_); omega; omega) | with_reducible exact ne10 | with_reducible rfl)]))
        · show (Q2.2 (o + 2118 + 17) j).toInt = _ ∧ (Q2.2 (o + 2118 + 18) j).toInt = _
          rw [← hQ2, pL_n (show o + 2118 + 17 ≠ o + 2118 + 18 by omega)]
          by_cases hji : j = i
          · subst hji
            rw [pL_s, pL_s, get_un hq hc, r6, r7]
            exact ⟨v1, v2⟩
          · rw [pL_k hji, pL_k hji, pL_n (show o + 2118 + 18 ≠ o + 2118 + 17 by omega)]
            exact q2 j q (by omega) hq
      · rintro ⟨z, Q⟩ ⟨rfl, q1, q2⟩
        have q1 : FM (o + 2118) [] [17, 18] N1 Q := q1
        have e24 : Q.1 (o + 2118) 24 = nI l.length := by rw [q1.sl 24 (by decide), ← hN1, pI_s]
        have rQ : rM Q (o + 2118) 24 17 18 l := ⟨e24, fun i p hp => q2 i p (get_lt hp) hp⟩
        obtain ⟨M16, o1, o2, o3, o4, o5⟩ := originOf_ok (p := 0) (t := 1) (x := 0) (y := 0) (ti := 1) (a := 0) (b := 0) c4 (by decide) rQ l16 lB rfl (Or.inl rfl) rfl rfl (by omega) (by omega) ⟨0, by rw [show ((-1 : Int) * 0) = 0 from rfl, map_id']; exact h.ls⟩
        rw [show ((-1 : Int) * 0) = 0 from rfl, norm_id h.2.2.2.1] at o3
        have om := moveM_ok (M := M16) (p := 0) (t := 1) (a := 0) (b := 0) c4 (by decide)
        generalize hM2 : pL (pL (pL (pL M16 (o + 2118 + 1) (37 * 0 + 33) 1) (o + 2118 + 1) (37 * 0 + 34) 0) (o + 2118 + 1) (37 * 0 + 35) 0) (o + 2118 + 1) 36 0 = M2
        refine ⟨(0, M2), ?_, rfl, ?_, ?_⟩
        · show mX8_begin_B54 K R1 (o + 2118) (nI k) (nI l.length) Q = _
          have o1 : mX8_originOf K R1 Q (o + 2118) 0 1 0 0 = some M16 := o1
          have om : mX8_move K R1 M16 (o + 2118) 0 1 0 0 = _ := om
          unfold mX8_begin_B54
          (repeat (first | rw [ck_t (by first | with_reducible assumption | ((with_reducible apply ixA_of); (with_reducible assumption); omega; omega) | ((with_reducible apply isAr_of); (with_reducible assumption); decide) | ((with_reducible apply nI_ne0); omega; omega) | with_reducible exact isB_0 | with_reducible exact isB_1 | with_reducible exact isB_bI _)] | rw [bd_r (by with_reducible assumption)] | rw [bd_s] | rw [bd2_s] | rw [bd3_s] | rw [nm_s] | rw [nI_clamp (by omega)] | rw [nI_1] | rw [e24] | rw [bd_e (o1)] | rw [bd_e (om)] | rw [if_pos (by first | with_reducible assumption | ((with_reducible refine nI_lt ?_ ?_); omega; omega) | ((with_reducible refine nI_nlt ?_ ?_); omega; omega) | with_reducible exact ne10 | with_reducible rfl)] | rw [if_neg (by first | with_reducible assumption | ((with_reducible refine nI_lt ?_ ?_); omega; omega) | ((with_reducible refine nI_nlt ?_ ?_); omega; omega) | with_reducible exact ne10 | with_reducible rfl)]))
          rw [hM2]
          rfl
        · show FM (o + 2118) [24] [1, 17, 18] N M2
          rw [← hM2]
          exact ((((((fN1.tr (q1.mo (by decide) (by decide))).tr (o4.mo (by decide) (by decide))).pL (by decide)).pL (by decide)).pL (by decide)).pL (by decide))
        · show psM (M2.2 (o + 2118 + 1)) 0 [P]
          have k1480 : M2.2 (o + 2118 + 1) 1480 = 1 := by
            rw [← hM2, pL_k (by decide), pL_k (by decide), pL_k (by decide), pL_k (by decide), o5 _ (by omega), q1.ar 1 (by decide), ← hN1, pI_l, pL_s]
          refine ⟨k1480, fun i p hp => ?_⟩
          match i, hp with
          | 0, hp =>
            cases hp
            have ek : ∀ j, j < 33 → M2.2 (o + 2118 + 1) j = M16.2 (o + 2118 + 1) j := fun j hj => by rw [← hM2, pL_k (by omega), pL_k (by omega), pL_k (by omega), pL_k (by omega)]
            refine ⟨by rw [ek _ (by omega)]; exact o2, fun j q hq => ?_, ?_, ?_, ?_, ?_⟩
            · have hj : j < l.length := get_lt hq
              rw [ek _ (by omega), ek _ (by omega)]
              exact o3 j q hq
            · rw [← hM2, pL_k (by decide), pL_k (by decide), pL_k (by decide)]; exact congrArg Int64.toInt pL_s
            · rw [← hM2, pL_k (by decide), pL_k (by decide)]; exact congrArg Int64.toInt pL_s
            · rw [← hM2, pL_k (by decide)]; exact congrArg Int64.toInt pL_s
            · rw [← hM2]; exact pL_s
