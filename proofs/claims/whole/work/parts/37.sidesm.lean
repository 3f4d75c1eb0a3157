/-! WHAT LIES WITHIN, WHAT PARTS: the reference -/
section SDM
variable {K : Kk} {R : Rr} {M : Mm} {m : Nat} {l l2 : List Pt}
theorem hasA_ok {x y : Int64} (hm : moA K R m) (h : rM M m 15 11 12 l) (hl : l.length ≤ 20) (hB : inBs l) (hp : inB (x.toInt, y.toInt)) : ∃ v, mX8_hasA K R M m x y = some v ∧ iv v (inP l (x.toInt, y.toInt)) := by
  have h0 := hm.1
  have h1 := mo_r13 hm
  have h2 := mo_r14 hm
  have h3 := mo_a13 hm
  have h4 := mo_a14 hm
  have e := h.1
  have hL := lp_ind (f := mX8_hasA_L6 K R M m x y) (fun (i : Nat) (s : Int32 × Int32) => s.2 = nI i ∧ iv s.1 (∀ (j : Nat) a b, j < i → l[j]? = some a → l[(j + 1) % l.length]? = some b → 0 ≤ crs a b (x.toInt, y.toInt))) (fun v => iv v (inP l (x.toInt, y.toInt))) l.length ?_ ?_
  · obtain ⟨v, e1, e2⟩ := hL l.length 0 (1, nI 0) (by omega) ⟨rfl, Or.inl ⟨rfl, fun j a b hj => absurd hj (by omega)⟩⟩
    refine ⟨v, ?_, e2⟩
    unfold mX8_hasA
    repeat (first | rw [ck_t (by first | with_reducible assumption | ((with_reducible apply ixA_of); (with_reducible assumption); omega; omega) | ((with_reducible apply isAr_of); (with_reducible assumption); decide) | ((with_reducible apply nI_ne0); omega; omega) | with_reducible exact isB_0 | with_reducible exact isB_1 | with_reducible exact isB_bI _)] | rw [bd_r (by with_reducible assumption)] | rw [bd_s] | rw [bd2_s] | rw [bd3_s] | rw [nm_s] | rw [nI_clamp (by omega)] | rw [nI_1] | rw [if_pos (by first | with_reducible assumption | ((with_reducible refine nI_lt ?_ ?_); omega; omega) | ((with_reducible refine nI_nlt ?_ ?_); omega; omega) | with_reducible exact ne10 | with_reducible rfl)] | rw [if_neg (by first | with_reducible assumption | ((with_reducible refine nI_lt ?_ ?_); omega; omega) | ((with_reducible refine nI_nlt ?_ ?_); omega; omega) | with_reducible exact ne10 | with_reducible rfl)])
    exact e1
  · rintro i ⟨s, z⟩ hi ⟨rfl, f⟩
    obtain ⟨a, ha⟩ := get_ex hi
    have hj := mod_lt' hi
    obtain ⟨b, hb⟩ := get_ex hj
    have Ba := hB _ _ ha
    have Bb := hB _ _ hb
    rw [h.pt ha] at Ba
    rw [h.pt hb] at Bb
    obtain ⟨v, e1, e2⟩ := sideM_ok (K := K) (R := R) (M := M) Ba Bb hp
    rw [← h.pt ha, ← h.pt hb] at e2
    have k0 : mX8_hasA_J74 K R M m x y (nI i) 0 = some (.inl (0, nI (i + 1))) := by unfold mX8_hasA_J74; repeat (first | rw [ck_t (by first | with_reducible assumption | ((with_reducible apply ixA_of); (with_reducible assumption); omega; omega) | ((with_reducible apply isAr_of); (with_reducible assumption); decide) | ((with_reducible apply nI_ne0); omega; omega) | with_reducible exact isB_0 | with_reducible exact isB_1 | with_reducible exact isB_bI _)] | rw [bd_r (by with_reducible assumption)] | rw [bd_s] | rw [bd2_s] | rw [bd3_s] | rw [nm_s] | rw [nI_clamp (by omega)] | rw [nI_1] | rw [if_pos (by first | with_reducible assumption | ((with_reducible refine nI_lt ?_ ?_); omega; omega) | ((with_reducible refine nI_nlt ?_ ?_); omega; omega) | with_reducible exact ne10 | with_reducible rfl)] | rw [if_neg (by first | with_reducible assumption | ((with_reducible refine nI_lt ?_ ?_); omega; omega) | ((with_reducible refine nI_nlt ?_ ?_); omega; omega) | with_reducible exact ne10 | with_reducible rfl)])
    have k1 : mX8_hasA_J74 K R M m x y (nI i) 1 = some (.inl (1, nI (i + 1))) := by unfold mX8_hasA_J74; repeat (first | rw [ck_t (by first | with_reducible assumption | ((with_reducible apply ixA_of); (with_reducible assumption); omega; omega) | ((with_reducible apply isAr_of); (with_reducible assumption); decide) | ((with_reducible apply nI_ne0); omega; omega) | with_reducible exact isB_0 | with_reducible exact isB_1 | with_reducible exact isB_bI _)] | rw [bd_r (by with_reducible assumption)] | rw [bd_s] | rw [bd2_s] | rw [bd3_s] | rw [nm_s] | rw [nI_clamp (by omega)] | rw [nI_1] | rw [if_pos (by first | with_reducible assumption | ((with_reducible refine nI_lt ?_ ?_); omega; omega) | ((with_reducible refine nI_nlt ?_ ?_); omega; omega) | with_reducible exact ne10 | with_reducible rfl)] | rw [if_neg (by first | with_reducible assumption | ((with_reducible refine nI_lt ?_ ?_); omega; omega) | ((with_reducible refine nI_nlt ?_ ?_); omega; omega) | with_reducible exact ne10 | with_reducible rfl)])
    have k2 : mX8_hasA_J73 K R M m x y (nI i) = some (.inl (0, nI (i + 1))) := by unfold mX8_hasA_J73; exact k0
    show (∃ s', mX8_hasA_B6 K R M m x y s (nI i) = _ ∧ _) ∨ _
    left
    rcases f with ⟨rfl, f⟩ | ⟨rfl, f⟩
    · by_cases c : v < 0
      · refine ⟨(0, nI (i + 1)), ?_, rfl, Or.inr ⟨rfl, fun z => ?_⟩⟩
        · unfold mX8_hasA_B6
          repeat (first | rw [ck_t (by first | with_reducible assumption | ((with_reducible apply ixA_of); (with_reducible assumption); omega; omega) | ((with_reducible apply isAr_of); (with_reducible assumption); decide) | ((with_reducible apply nI_ne0); omega; omega) | with_reducible exact isB_0 | with_reducible exact isB_1 | with_reducible exact isB_bI _)] | rw [bd_r (by with_reducible assumption)] | rw [bd_s] | rw [bd2_s] | rw [bd3_s] | rw [nm_s] | rw [nI_clamp (by omega)] | rw [nI_1] | rw [e] | rw [pk_rem (by omega) (by omega) (by omega)] | rw [bd_e (e1)] | rw [if_pos (by first | with_reducible assumption | ((with_reducible refine nI_lt ?_ ?_); omega; omega) | ((with_reducible refine nI_nlt ?_ ?_); omega; omega) | with_reducible exact ne10 | with_reducible rfl)] | rw [if_neg (by first | with_reducible assumption | ((with_reducible refine nI_lt ?_ ?_); omega; omega) | ((with_reducible refine nI_nlt ?_ ?_); omega; omega) | with_reducible exact ne10 | with_reducible rfl)])
          exact k2
        · have := z i a b (by omega) ha hb
          rw [lt64, e2] at c
          have c : crs a b (x.toInt, y.toInt) < 0 := c
          omega
      · refine ⟨(1, nI (i + 1)), ?_, rfl, Or.inl ⟨rfl, fun j a' b' hj ha' hb' => ?_⟩⟩
        · unfold mX8_hasA_B6
          repeat (first | rw [ck_t (by first | with_reducible assumption | ((with_reducible apply ixA_of); (with_reducible assumption); omega; omega) | ((with_reducible apply isAr_of); (with_reducible assumption); decide) | ((with_reducible apply nI_ne0); omega; omega) | with_reducible exact isB_0 | with_reducible exact isB_1 | with_reducible exact isB_bI _)] | rw [bd_r (by with_reducible assumption)] | rw [bd_s] | rw [bd2_s] | rw [bd3_s] | rw [nm_s] | rw [nI_clamp (by omega)] | rw [nI_1] | rw [e] | rw [pk_rem (by omega) (by omega) (by omega)] | rw [bd_e (e1)] | rw [if_pos (by first | with_reducible assumption | ((with_reducible refine nI_lt ?_ ?_); omega; omega) | ((with_reducible refine nI_nlt ?_ ?_); omega; omega) | with_reducible exact ne10 | with_reducible rfl)] | rw [if_neg (by first | with_reducible assumption | ((with_reducible refine nI_lt ?_ ?_); omega; omega) | ((with_reducible refine nI_nlt ?_ ?_); omega; omega) | with_reducible exact ne10 | with_reducible rfl)])
          exact k1
        · by_cases hji : j = i
          · subst hji
            rw [get_un ha' ha, get_un hb' hb]
            rw [lt64, e2] at c
            have c : ¬ crs a b (x.toInt, y.toInt) < 0 := c
            omega
          · exact f j a' b' (by omega) ha' hb'
    · refine ⟨(0, nI (i + 1)), ?_, rfl, Or.inr ⟨rfl, fun z => f (fun j a' b' hj => z j a' b' (by omega))⟩⟩
      unfold mX8_hasA_B6
      repeat (first | rw [ck_t (by first | with_reducible assumption | ((with_reducible apply ixA_of); (with_reducible assumption); omega; omega) | ((with_reducible apply isAr_of); (with_reducible assumption); decide) | ((with_reducible apply nI_ne0); omega; omega) | with_reducible exact isB_0 | with_reducible exact isB_1 | with_reducible exact isB_bI _)] | rw [bd_r (by with_reducible assumption)] | rw [bd_s] | rw [bd2_s] | rw [bd3_s] | rw [nm_s] | rw [nI_clamp (by omega)] | rw [nI_1] | rw [e] | rw [pk_rem (by omega) (by omega) (by omega)] | rw [if_pos (by first | with_reducible assumption | ((with_reducible refine nI_lt ?_ ?_); omega; omega) | ((with_reducible refine nI_nlt ?_ ?_); omega; omega) | with_reducible exact ne10 | with_reducible rfl)] | rw [if_neg (by first | with_reducible assumption | ((with_reducible refine nI_lt ?_ ?_); omega; omega) | ((with_reducible refine nI_nlt ?_ ?_); omega; omega) | with_reducible exact ne10 | with_reducible rfl)])
      exact k2
  · rintro ⟨s, z⟩ ⟨rfl, f⟩
    have f : iv s _ := f
    refine ⟨s, ?_, f.congr ⟨fun z i a b ha hb => z i a b (get_lt ha) ha hb, fun z i a b _ ha hb => z i a b ha hb⟩⟩
    have hb := f.b
    show mX8_hasA_B6 K R M m x y s (nI l.length) = _
    unfold mX8_hasA_B6
    repeat (first | rw [ck_t (by first | with_reducible assumption | ((with_reducible apply ixA_of); (with_reducible assumption); omega; omega) | ((with_reducible apply isAr_of); (with_reducible assumption); decide) | ((with_reducible apply nI_ne0); omega; omega) | with_reducible exact isB_0 | with_reducible exact isB_1 | with_reducible exact isB_bI _)] | rw [bd_r (by with_reducible assumption)] | rw [bd_s] | rw [bd2_s] | rw [bd3_s] | rw [nm_s] | rw [nI_clamp (by omega)] | rw [nI_1] | rw [e] | rw [if_pos (by first | with_reducible assumption | ((with_reducible refine nI_lt ?_ ?_); omega; omega) | ((with_reducible refine nI_nlt ?_ ?_); omega; omega) | with_reducible exact ne10 | with_reducible rfl)] | rw [if_neg (by first | with_reducible assumption | ((with_reducible refine nI_lt ?_ ?_); omega; omega) | ((with_reducible refine nI_nlt ?_ ?_); omega; omega) | with_reducible exact ne10 | with_reducible rfl)])
    rfl
theorem hasB_ok {x y : Int64} (hm : moA K R m) (h : rM M m 18 13 14 l) (hl : l.length ≤ 20) (hB : inBs l) (hp : inB (x.toInt, y.toInt)) : ∃ v, mX8_hasB K R M m x y = some v ∧ iv v (inP l (x.toInt, y.toInt)) := by
  have h0 := hm.1
  have h1 := mo_r16 hm
  have h2 := mo_r17 hm
  have h3 := mo_a16 hm
  have h4 := mo_a17 hm
  have e := h.1
  have hL := lp_ind (f := mX8_hasB_L6 K R M m x y) (fun (i : Nat) (s : Int32 × Int32) => s.2 = nI i ∧ iv s.1 (∀ (j : Nat) a b, j < i → l[j]? = some a → l[(j + 1) % l.length]? = some b → 0 ≤ crs a b (x.toInt, y.toInt))) (fun v => iv v (inP l (x.toInt, y.toInt))) l.length ?_ ?_
  · obtain ⟨v, e1, e2⟩ := hL l.length 0 (1, nI 0) (by omega) ⟨rfl, Or.inl ⟨rfl, fun j a b hj => absurd hj (by omega)⟩⟩
    refine ⟨v, ?_, e2⟩
    unfold mX8_hasB
    repeat (first | rw [ck_t (by first | with_reducible assumption | ((with_reducible apply ixA_of); (with_reducible assumption); omega; omega) | ((with_reducible apply isAr_of); (with_reducible assumption); decide) | ((with_reducible apply nI_ne0); omega; omega) | with_reducible exact isB_0 | with_reducible exact isB_1 | with_reducible exact isB_bI _)] | rw [bd_r (by with_reducible assumption)] | rw [bd_s] | rw [bd2_s] | rw [bd3_s] | rw [nm_s] | rw [nI_clamp (by omega)] | rw [nI_1] | rw [if_pos (by first | with_reducible assumption | ((with_reducible refine nI_lt ?_ ?_); omega; omega) | ((with_reducible refine nI_nlt ?_ ?_); omega; omega) | with_reducible exact ne10 | with_reducible rfl)] | rw [if_neg (by first | with_reducible assumption | ((with_reducible refine nI_lt ?_ ?_); omega; omega) | ((with_reducible refine nI_nlt ?_ ?_); omega; omega) | with_reducible exact ne10 | with_reducible rfl)])
    exact e1
  · rintro i ⟨s, z⟩ hi ⟨rfl, f⟩
    obtain ⟨a, ha⟩ := get_ex hi
    have hj := mod_lt' hi
    obtain ⟨b, hb⟩ := get_ex hj
    have Ba := hB _ _ ha
    have Bb := hB _ _ hb
    rw [h.pt ha] at Ba
    rw [h.pt hb] at Bb
    obtain ⟨v, e1, e2⟩ := sideM_ok (K := K) (R := R) (M := M) Ba Bb hp
    rw [← h.pt ha, ← h.pt hb] at e2
    have k0 : mX8_hasB_J74 K R M m x y (nI i) 0 = some (.inl (0, nI (i + 1))) := by unfold mX8_hasB_J74; repeat (first | rw [ck_t (by first | with_reducible assumption | ((with_reducible apply ixA_of); (with_reducible assumption); omega; omega) | ((with_reducible apply isAr_of); (with_reducible assumption); decide) | ((with_reducible apply nI_ne0); omega; omega) | with_reducible exact isB_0 | with_reducible exact isB_1 | with_reducible exact isB_bI _)] | rw [bd_r (by with_reducible assumption)] | rw [bd_s] | rw [bd2_s] | rw [bd3_s] | rw [nm_s] | rw [nI_clamp (by omega)] | rw [nI_1] | rw [if_pos (by first | with_reducible assumption | ((with_reducible refine nI_lt ?_ ?_); omega; omega) | ((with_reducible refine nI_nlt ?_ ?_); omega; omega) | with_reducible exact ne10 | with_reducible rfl)] | rw [if_neg (by first | with_reducible assumption | ((with_reducible refine nI_lt ?_ ?_); omega; omega) | ((with_reducible refine nI_nlt ?_ ?_); omega; omega) | with_reducible exact ne10 | with_reducible rfl)])
    have k1 : mX8_hasB_J74 K R M m x y (nI i) 1 = some (.inl (1, nI (i + 1))) := by unfold mX8_hasB_J74; repeat (first | rw [ck_t (by first | with_reducible assumption | ((with_reducible apply ixA_of); (with_reducible assumption); omega; omega) | ((with_reducible apply isAr_of); (with_reducible assumption); decide) | ((with_reducible apply nI_ne0); omega; omega) | with_reducible exact isB_0 | with_reducible exact isB_1 | with_reducible exact isB_bI _)] | rw [bd_r (by with_reducible assumption)] | rw [bd_s] | rw [bd2_s] | rw [bd3_s] | rw [nm_s] | rw [nI_clamp (by omega)] | rw [nI_1] | rw [if_pos (by first | with_reducible assumption | ((with_reducible refine nI_lt ?_ ?_); omega; omega) | ((with_reducible refine nI_nlt ?_ ?_); omega; omega) | with_reducible exact ne10 | with_reducible rfl)] | rw [if_neg (by first | with_reducible assumption | ((with_reducible refine nI_lt ?_ ?_); omega; omega) | ((with_reducible refine nI_nlt ?_ ?_); omega; omega) | with_reducible exact ne10 | with_reducible rfl)])
    have k2 : mX8_hasB_J73 K R M m x y (nI i) = some (.inl (0, nI (i + 1))) := by unfold mX8_hasB_J73; exact k0
    show (∃ s', mX8_hasB_B6 K R M m x y s (nI i) = _ ∧ _) ∨ _
    left
    rcases f with ⟨rfl, f⟩ | ⟨rfl, f⟩
    · by_cases c : v < 0
      · refine ⟨(0, nI (i + 1)), ?_, rfl, Or.inr ⟨rfl, fun z => ?_⟩⟩
        · unfold mX8_hasB_B6
          repeat (first | rw [ck_t (by first | with_reducible assumption | ((with_reducible apply ixA_of); (with_reducible assumption); omega; omega) | ((with_reducible apply isAr_of); (with_reducible assumption); decide) | ((with_reducible apply nI_ne0); omega; omega) | with_reducible exact isB_0 | with_reducible exact isB_1 | with_reducible exact isB_bI _)] | rw [bd_r (by with_reducible assumption)] | rw [bd_s] | rw [bd2_s] | rw [bd3_s] | rw [nm_s] | rw [nI_clamp (by omega)] | rw [nI_1] | rw [e] | rw [pk_rem (by omega) (by omega) (by omega)] | rw [bd_e (e1)] | rw [if_pos (by first | with_reducible assumption | ((with_reducible refine nI_lt ?_ ?_); omega; omega) | ((with_reducible refine nI_nlt ?_ ?_); omega; omega) | with_reducible exact ne10 | with_reducible rfl)] | rw [if_neg (by first | with_reducible assumption | ((with_reducible refine nI_lt ?_ ?_); omega; omega) | ((with_reducible refine nI_nlt ?_ ?_); omega; omega) | with_reducible exact ne10 | with_reducible rfl)])
          exact k2
        · have := z i a b (by omega) ha hb
          rw [lt64, e2] at c
          have c : crs a b (x.toInt, y.toInt) < 0 := c
          omega
      · refine ⟨(1, nI (i + 1)), ?_, rfl, Or.inl ⟨rfl, fun j a' b' hj ha' hb' => ?_⟩⟩
        · unfold mX8_hasB_B6
          repeat (first | rw [ck_t (by first | with_reducible assumption | ((with_reducible apply ixA_of); (with_reducible assumption); omega; omega) | ((with_reducible apply isAr_of); (with_reducible assumption); decide) | ((with_reducible apply nI_ne0); omega; omega) | with_reducible exact isB_0 | with_reducible exact isB_1 | with_reducible exact isB_bI _)] | rw [bd_r (by with_reducible assumption)] | rw [bd_s] | rw [bd2_s] | rw [bd3_s] | rw [nm_s] | rw [nI_clamp (by omega)] | rw [nI_1] | rw [e] | rw [pk_rem (by omega) (by omega) (by omega)] | rw [bd_e (e1)] | rw [if_pos (by first | with_reducible assumption | ((with_reducible refine nI_lt ?_ ?_); omega; omega) | ((with_reducible refine nI_nlt ?_ ?_); omega; omega) | with_reducible exact ne10 | with_reducible rfl)] | rw [if_neg (by first | with_reducible assumption | ((with_reducible refine nI_lt ?_ ?_); omega; omega) | ((with_reducible refine nI_nlt ?_ ?_); omega; omega) | with_reducible exact ne10 | with_reducible rfl)])
          exact k1
        · by_cases hji : j = i
          · subst hji
            rw [get_un ha' ha, get_un hb' hb]
            rw [lt64, e2] at c
            have c : ¬ crs a b (x.toInt, y.toInt) < 0 := c
            omega
          · exact f j a' b' (by omega) ha' hb'
    · refine ⟨(0, nI (i + 1)), ?_, rfl, Or.inr ⟨rfl, fun z => f (fun j a' b' hj => z j a' b' (by omega))⟩⟩
      unfold mX8_hasB_B6
      repeat (first | rw [ck_t (by first | with_reducible assumption | ((with_reducible apply ixA_of); (with_reducible assumption); omega; omega) | ((with_reducible apply isAr_of); (with_reducible assumption); decide) | ((with_reducible apply nI_ne0); omega; omega) | with_reducible exact isB_0 | with_reducible exact isB_1 | with_reducible exact isB_bI _)] | rw [bd_r (by with_reducible assumption)] | rw [bd_s] | rw [bd2_s] | rw [bd3_s] | rw [nm_s] | rw [nI_clamp (by omega)] | rw [nI_1] | rw [e] | rw [pk_rem (by omega) (by omega) (by omega)] | rw [if_pos (by first | with_reducible assumption | ((with_reducible refine nI_lt ?_ ?_); omega; omega) | ((with_reducible refine nI_nlt ?_ ?_); omega; omega) | with_reducible exact ne10 | with_reducible rfl)] | rw [if_neg (by first | with_reducible assumption | ((with_reducible refine nI_lt ?_ ?_); omega; omega) | ((with_reducible refine nI_nlt ?_ ?_); omega; omega) | with_reducible exact ne10 | with_reducible rfl)])
      exact k2
  · rintro ⟨s, z⟩ ⟨rfl, f⟩
    have f : iv s _ := f
    refine ⟨s, ?_, f.congr ⟨fun z i a b ha hb => z i a b (get_lt ha) ha hb, fun z i a b _ ha hb => z i a b ha hb⟩⟩
    have hb := f.b
    show mX8_hasB_B6 K R M m x y s (nI l.length) = _
    unfold mX8_hasB_B6
    repeat (first | rw [ck_t (by first | with_reducible assumption | ((with_reducible apply ixA_of); (with_reducible assumption); omega; omega) | ((with_reducible apply isAr_of); (with_reducible assumption); decide) | ((with_reducible apply nI_ne0); omega; omega) | with_reducible exact isB_0 | with_reducible exact isB_1 | with_reducible exact isB_bI _)] | rw [bd_r (by with_reducible assumption)] | rw [bd_s] | rw [bd2_s] | rw [bd3_s] | rw [nm_s] | rw [nI_clamp (by omega)] | rw [nI_1] | rw [e] | rw [if_pos (by first | with_reducible assumption | ((with_reducible refine nI_lt ?_ ?_); omega; omega) | ((with_reducible refine nI_nlt ?_ ?_); omega; omega) | with_reducible exact ne10 | with_reducible rfl)] | rw [if_neg (by first | with_reducible assumption | ((with_reducible refine nI_lt ?_ ?_); omega; omega) | ((with_reducible refine nI_nlt ?_ ?_); omega; omega) | with_reducible exact ne10 | with_reducible rfl)])
    rfl
theorem partsM_in {i : Nat} (hm : moA K R m) (h : rM M m 15 11 12 l) (hl : l.length ≤ 20) (hB : inBs l) (h2 : rM M m 18 13 14 l2) (hl2 : l2.length ≤ 20) (hB2 : inBs l2) (hi : i < l.length) : (noL l i l2 ∧ lp (mX8_parts_L24 K R M m (nI i) (nI ((i + 1) % l.length))) (1, 0) = some (.inr 1)) ∨ (¬ noL l i l2 ∧ lp (mX8_parts_L24 K R M m (nI i) (nI ((i + 1) % l.length))) (1, 0) = some (.inl (nI (i + 1)))) := by
  have h1 := mo_r13 hm
  have h2' := mo_r14 hm
  have h3 := mo_a13 hm
  have h4 := mo_a14 hm
  have h5 := mo_r16 hm
  have h6 := mo_r17 hm
  have h7 := mo_a16 hm
  have h8 := mo_a17 hm
  have e := h2.1
  have hj := mod_lt' hi
  obtain ⟨a, ha⟩ := get_ex hi
  obtain ⟨b, hb⟩ := get_ex hj
  have Ba := hB _ _ ha
  have Bb := hB _ _ hb
  rw [h.pt ha] at Ba
  rw [h.pt hb] at Bb
  have nl : noL l i l2 ↔ ∀ (j : Nat) p, l2[j]? = some p → crs a b p ≤ 0 := ⟨fun z => z a b ha hb, fun z a' b' ha' hb' => by rw [get_un ha' ha, get_un hb' hb]; exact z⟩
  have hL := lp_ind (f := mX8_parts_L24 K R M m (nI i) (nI ((i + 1) % l.length))) (fun (k : Nat) (s : Int32 × Int32) => s.2 = nI k ∧ iv s.1 (∀ (j : Nat) p, j < k → l2[j]? = some p → crs a b p ≤ 0)) (fun r => (noL l i l2 ∧ r = .inr 1) ∨ (¬ noL l i l2 ∧ r = .inl (nI (i + 1)))) l2.length ?_ ?_
  · obtain ⟨v, e1, e2⟩ := hL l2.length 0 (1, nI 0) (by omega) ⟨rfl, Or.inl ⟨rfl, fun j a hj => absurd hj (by omega)⟩⟩
    rcases e2 with ⟨z, rfl⟩ | ⟨z, rfl⟩
    · exact Or.inl ⟨z, e1⟩
    · exact Or.inr ⟨z, e1⟩
  · rintro k ⟨s, z⟩ hk ⟨rfl, f⟩
    obtain ⟨p, hp⟩ := get_ex hk
    have Bp := hB2 _ _ hp
    rw [h2.pt hp] at Bp
    obtain ⟨v, e1, e2⟩ := sideM_ok (K := K) (R := R) (M := M) Ba Bb Bp
    rw [← h.pt ha, ← h.pt hb, ← h2.pt hp] at e2
    have k0 : ∀ t, mX8_parts_J88 K R M m (nI i) (nI ((i + 1) % l.length)) (nI k) t = some (.inl (t, nI (k + 1))) := fun t => by unfold mX8_parts_J88; repeat (first | rw [ck_t (by first | with_reducible assumption | ((with_reducible apply ixA_of); (with_reducible assumption); omega; omega) | ((with_reducible apply isAr_of); (with_reducible assumption); decide) | ((with_reducible apply nI_ne0); omega; omega) | with_reducible exact isB_0 | with_reducible exact isB_1 | with_reducible exact isB_bI _)] | rw [bd_r (by with_reducible assumption)] | rw [bd_s] | rw [bd2_s] | rw [bd3_s] | rw [nm_s] | rw [nI_clamp (by omega)] | rw [nI_1] | rw [if_pos (by first | with_reducible assumption | ((with_reducible refine nI_lt ?_ ?_); omega; omega) | ((with_reducible refine nI_nlt ?_ ?_); omega; omega) | with_reducible exact ne10 | with_reducible rfl)] | rw [if_neg (by first | with_reducible assumption | ((with_reducible refine nI_lt ?_ ?_); omega; omega) | ((with_reducible refine nI_nlt ?_ ?_); omega; omega) | with_reducible exact ne10 | with_reducible rfl)])
    have k2 : mX8_parts_J87 K R M m (nI i) (nI ((i + 1) % l.length)) (nI k) = some (.inl (0, nI (k + 1))) := by unfold mX8_parts_J87; exact k0 0
    show (∃ s', mX8_parts_B24 K R M m (nI i) (nI ((i + 1) % l.length)) s (nI k) = _ ∧ _) ∨ _
    left
    rcases f with ⟨rfl, f⟩ | ⟨rfl, f⟩
    · by_cases c : v ≤ 0
      · refine ⟨(1, nI (k + 1)), ?_, rfl, Or.inl ⟨rfl, fun j p' hj hp' => ?_⟩⟩
        · unfold mX8_parts_B24
          repeat (first | rw [ck_t (by first | with_reducible assumption | ((with_reducible apply ixA_of); (with_reducible assumption); omega; omega) | ((with_reducible apply isAr_of); (with_reducible assumption); decide) | ((with_reducible apply nI_ne0); omega; omega) | with_reducible exact isB_0 | with_reducible exact isB_1 | with_reducible exact isB_bI _)] | rw [bd_r (by with_reducible assumption)] | rw [bd_s] | rw [bd2_s] | rw [bd3_s] | rw [nm_s] | rw [nI_clamp (by omega)] | rw [nI_1] | rw [e] | rw [bd_e (e1)] | rw [if_pos (by first | with_reducible assumption | ((with_reducible refine nI_lt ?_ ?_); omega; omega) | ((with_reducible refine nI_nlt ?_ ?_); omega; omega) | with_reducible exact ne10 | with_reducible rfl)] | rw [if_neg (by first | with_reducible assumption | ((with_reducible refine nI_lt ?_ ?_); omega; omega) | ((with_reducible refine nI_nlt ?_ ?_); omega; omega) | with_reducible exact ne10 | with_reducible rfl)])
          exact k0 1
        · by_cases hji : j = k
          · subst hji
            rw [get_un hp' hp]
            rw [le64, e2] at c
            exact c
          · exact f j p' (by omega) hp'
      · refine ⟨(0, nI (k + 1)), ?_, rfl, Or.inr ⟨rfl, fun z => ?_⟩⟩
        · unfold mX8_parts_B24
          repeat (first | rw [ck_t (by first | with_reducible assumption | ((with_reducible apply ixA_of); (with_reducible assumption); omega; omega) | ((with_reducible apply isAr_of); (with_reducible assumption); decide) | ((with_reducible apply nI_ne0); omega; omega) | with_reducible exact isB_0 | with_reducible exact isB_1 | with_reducible exact isB_bI _)] | rw [bd_r (by with_reducible assumption)] | rw [bd_s] | rw [bd2_s] | rw [bd3_s] | rw [nm_s] | rw [nI_clamp (by omega)] | rw [nI_1] | rw [e] | rw [bd_e (e1)] | rw [if_pos (by first | with_reducible assumption | ((with_reducible refine nI_lt ?_ ?_); omega; omega) | ((with_reducible refine nI_nlt ?_ ?_); omega; omega) | with_reducible exact ne10 | with_reducible rfl)] | rw [if_neg (by first | with_reducible assumption | ((with_reducible refine nI_lt ?_ ?_); omega; omega) | ((with_reducible refine nI_nlt ?_ ?_); omega; omega) | with_reducible exact ne10 | with_reducible rfl)])
          exact k2
        · rw [le64, e2] at c
          exact c (z k p (by omega) hp)
    · refine ⟨(0, nI (k + 1)), ?_, rfl, Or.inr ⟨rfl, fun z => f (fun j p' hj => z j p' (by omega))⟩⟩
      unfold mX8_parts_B24
      repeat (first | rw [ck_t (by first | with_reducible assumption | ((with_reducible apply ixA_of); (with_reducible assumption); omega; omega) | ((with_reducible apply isAr_of); (with_reducible assumption); decide) | ((with_reducible apply nI_ne0); omega; omega) | with_reducible exact isB_0 | with_reducible exact isB_1 | with_reducible exact isB_bI _)] | rw [bd_r (by with_reducible assumption)] | rw [bd_s] | rw [bd2_s] | rw [bd3_s] | rw [nm_s] | rw [nI_clamp (by omega)] | rw [nI_1] | rw [e] | rw [if_pos (by first | with_reducible assumption | ((with_reducible refine nI_lt ?_ ?_); omega; omega) | ((with_reducible refine nI_nlt ?_ ?_); omega; omega) | with_reducible exact ne10 | with_reducible rfl)] | rw [if_neg (by first | with_reducible assumption | ((with_reducible refine nI_lt ?_ ?_); omega; omega) | ((with_reducible refine nI_nlt ?_ ?_); omega; omega) | with_reducible exact ne10 | with_reducible rfl)])
      exact k2
  · rintro ⟨s, z⟩ ⟨rfl, f⟩
    have f2 : iv s (noL l i l2) := iv.congr f (by rw [nl]; exact ⟨fun z j p hp => z j p (get_lt hp) hp, fun z j p _ hp => z j p hp⟩)
    show ∃ r, mX8_parts_B24 K R M m (nI i) (nI ((i + 1) % l.length)) s (nI l2.length) = some (.inr r) ∧ _
    unfold mX8_parts_B24
    repeat (first | rw [ck_t (by first | with_reducible assumption | ((with_reducible apply ixA_of); (with_reducible assumption); omega; omega) | ((with_reducible apply isAr_of); (with_reducible assumption); decide) | ((with_reducible apply nI_ne0); omega; omega) | with_reducible exact isB_0 | with_reducible exact isB_1 | with_reducible exact isB_bI _)] | rw [bd_r (by with_reducible assumption)] | rw [bd_s] | rw [bd2_s] | rw [bd3_s] | rw [nm_s] | rw [nI_clamp (by omega)] | rw [nI_1] | rw [e] | rw [if_pos (by first | with_reducible assumption | ((with_reducible refine nI_lt ?_ ?_); omega; omega) | ((with_reducible refine nI_nlt ?_ ?_); omega; omega) | with_reducible exact ne10 | with_reducible rfl)] | rw [if_neg (by first | with_reducible assumption | ((with_reducible refine nI_lt ?_ ?_); omega; omega) | ((with_reducible refine nI_nlt ?_ ?_); omega; omega) | with_reducible exact ne10 | with_reducible rfl)])
    rcases f2 with ⟨rfl, f2⟩ | ⟨rfl, f2⟩
    · exact ⟨_, by rw [if_neg ne10]; rfl, Or.inl ⟨f2, rfl⟩⟩
    · exact ⟨_, by repeat (first | rw [ck_t (by first | with_reducible assumption | ((with_reducible apply ixA_of); (with_reducible assumption); omega; omega) | ((with_reducible apply isAr_of); (with_reducible assumption); decide) | ((with_reducible apply nI_ne0); omega; omega) | with_reducible exact isB_0 | with_reducible exact isB_1 | with_reducible exact isB_bI _)] | rw [bd_r (by with_reducible assumption)] | rw [bd_s] | rw [bd2_s] | rw [bd3_s] | rw [nm_s] | rw [nI_clamp (by omega)] | rw [nI_1] | rw [if_pos (by first | with_reducible assumption | ((with_reducible refine nI_lt ?_ ?_); omega; omega) | ((with_reducible refine nI_nlt ?_ ?_); omega; omega) | with_reducible exact ne10 | with_reducible rfl)] | rw [if_neg (by first | with_reducible assumption | ((with_reducible refine nI_lt ?_ ?_); omega; omega) | ((with_reducible refine nI_nlt ?_ ?_); omega; omega) | with_reducible exact ne10 | with_reducible rfl)]); rfl, Or.inr ⟨f2, rfl⟩⟩
theorem partsM_ok (hm : moA K R m) (h : rM M m 15 11 12 l) (hl : l.length ≤ 20) (hB : inBs l) (h2 : rM M m 18 13 14 l2) (hl2 : l2.length ≤ 20) (hB2 : inBs l2) : ∃ v, mX8_parts K R M m = some v ∧ iv v (ptsF l l2) := by
  have h0 := hm.1
  have e := h.1
  have hL := lp_ind (f := mX8_parts_L2 K R M m) (fun (i : Nat) (s : Int32) => s = nI i ∧ ∀ j, j < i → ¬ noL l j l2) (fun v => iv v (ptsF l l2)) l.length ?_ ?_
  · obtain ⟨v, e1, e2⟩ := hL l.length 0 (nI 0) (by omega) ⟨rfl, fun j hj => absurd hj (by omega)⟩
    refine ⟨v, ?_, e2⟩
    unfold mX8_parts
    repeat (first | rw [ck_t (by first | with_reducible assumption | ((with_reducible apply ixA_of); (with_reducible assumption); omega; omega) | ((with_reducible apply isAr_of); (with_reducible assumption); decide) | ((with_reducible apply nI_ne0); omega; omega) | with_reducible exact isB_0 | with_reducible exact isB_1 | with_reducible exact isB_bI _)] | rw [bd_r (by with_reducible assumption)] | rw [bd_s] | rw [bd2_s] | rw [bd3_s] | rw [nm_s] | rw [nI_clamp (by omega)] | rw [nI_1] | rw [if_pos (by first | with_reducible assumption | ((with_reducible refine nI_lt ?_ ?_); omega; omega) | ((with_reducible refine nI_nlt ?_ ?_); omega; omega) | with_reducible exact ne10 | with_reducible rfl)] | rw [if_neg (by first | with_reducible assumption | ((with_reducible refine nI_lt ?_ ?_); omega; omega) | ((with_reducible refine nI_nlt ?_ ?_); omega; omega) | with_reducible exact ne10 | with_reducible rfl)])
    exact e1
  · rintro i s hi ⟨rfl, f⟩
    show (∃ s', mX8_parts_B2 K R M m (nI i) = _ ∧ _) ∨ ∃ r', mX8_parts_B2 K R M m (nI i) = _ ∧ _
    rcases partsM_in hm h hl hB h2 hl2 hB2 hi with ⟨z, e1⟩ | ⟨z, e1⟩
    · refine Or.inr ⟨1, ?_, Or.inl ⟨rfl, i, hi, z⟩⟩
      unfold mX8_parts_B2
      repeat (first | rw [ck_t (by first | with_reducible assumption | ((with_reducible apply ixA_of); (with_reducible assumption); omega; omega) | ((with_reducible apply isAr_of); (with_reducible assumption); decide) | ((with_reducible apply nI_ne0); omega; omega) | with_reducible exact isB_0 | with_reducible exact isB_1 | with_reducible exact isB_bI _)] | rw [bd_r (by with_reducible assumption)] | rw [bd_s] | rw [bd2_s] | rw [bd3_s] | rw [nm_s] | rw [nI_clamp (by omega)] | rw [nI_1] | rw [e] | rw [pk_rem (by omega) (by omega) (by omega)] | rw [if_pos (by first | with_reducible assumption | ((with_reducible refine nI_lt ?_ ?_); omega; omega) | ((with_reducible refine nI_nlt ?_ ?_); omega; omega) | with_reducible exact ne10 | with_reducible rfl)] | rw [if_neg (by first | with_reducible assumption | ((with_reducible refine nI_lt ?_ ?_); omega; omega) | ((with_reducible refine nI_nlt ?_ ?_); omega; omega) | with_reducible exact ne10 | with_reducible rfl)])
      exact e1
    · refine Or.inl ⟨nI (i + 1), ?_, rfl, fun j hj => ?_⟩
      · unfold mX8_parts_B2
        repeat (first | rw [ck_t (by first | with_reducible assumption | ((with_reducible apply ixA_of); (with_reducible assumption); omega; omega) | ((with_reducible apply isAr_of); (with_reducible assumption); decide) | ((with_reducible apply nI_ne0); omega; omega) | with_reducible exact isB_0 | with_reducible exact isB_1 | with_reducible exact isB_bI _)] | rw [bd_r (by with_reducible assumption)] | rw [bd_s] | rw [bd2_s] | rw [bd3_s] | rw [nm_s] | rw [nI_clamp (by omega)] | rw [nI_1] | rw [e] | rw [pk_rem (by omega) (by omega) (by omega)] | rw [if_pos (by first | with_reducible assumption | ((with_reducible refine nI_lt ?_ ?_); omega; omega) | ((with_reducible refine nI_nlt ?_ ?_); omega; omega) | with_reducible exact ne10 | with_reducible rfl)] | rw [if_neg (by first | with_reducible assumption | ((with_reducible refine nI_lt ?_ ?_); omega; omega) | ((with_reducible refine nI_nlt ?_ ?_); omega; omega) | with_reducible exact ne10 | with_reducible rfl)])
        exact e1
      · by_cases hji : j = i
        · subst hji; exact z
        · exact f j (by omega)
  · rintro s ⟨rfl, f⟩
    refine ⟨0, ?_, Or.inr ⟨rfl, fun ⟨i, hi, z⟩ => f i hi z⟩⟩
    show mX8_parts_B2 K R M m (nI l.length) = _
    unfold mX8_parts_B2
    repeat (first | rw [ck_t (by first | with_reducible assumption | ((with_reducible apply ixA_of); (with_reducible assumption); omega; omega) | ((with_reducible apply isAr_of); (with_reducible assumption); decide) | ((with_reducible apply nI_ne0); omega; omega) | with_reducible exact isB_0 | with_reducible exact isB_1 | with_reducible exact isB_bI _)] | rw [bd_r (by with_reducible assumption)] | rw [bd_s] | rw [bd2_s] | rw [bd3_s] | rw [nm_s] | rw [nI_clamp (by omega)] | rw [nI_1] | rw [e] | rw [if_pos (by first | with_reducible assumption | ((with_reducible refine nI_lt ?_ ?_); omega; omega) | ((with_reducible refine nI_nlt ?_ ?_); omega; omega) | with_reducible exact ne10 | with_reducible rfl)] | rw [if_neg (by first | with_reducible assumption | ((with_reducible refine nI_lt ?_ ?_); omega; omega) | ((with_reducible refine nI_nlt ?_ ?_); omega; omega) | with_reducible exact ne10 | with_reducible rfl)])
    rfl
theorem isOver_ok {p q : Nat} {P Q : Pc} {ps : List Pc} (hm : moA K R m) (hps : psM (M.2 (m + 1)) 0 ps) (hp : ps[p]? = some P) (hq : ps[q]? = some Q) (h40 : ps.length ≤ 40) (hP : isPc P) (hQ : isPc Q) : ∃ v M', mX8_isOver K R M m (nI p) (nI q) = some (v, M') ∧ iv v (ovr (plc P) (plc Q)) ∧ FM m [15, 18, 21, 24] [11, 12, 13, 14, 15, 16, 17, 18] M M' := by
  have h0 := hm.1
  have lP := (plc_ok hP).2.2.2.1
  have lQ := (plc_ok hQ).2.2.2.1
  have BP := inBs_of (plc_ok hP).2.2.2.2
  have BQ := inBs_of (plc_ok hQ).2.2.2.2
  have sP := hP.1.2.1
  have sQ := hQ.1.2.1
  obtain ⟨M2, a1, a2, a3⟩ := lookB_ok hm hps hq h40 hQ
  have hps2 := hps.fr a3 (by decide)
  obtain ⟨M3, b1, b2, b3⟩ := lookA_ok hm hps2 hp h40 hP
  obtain ⟨v, c1, c2⟩ := partsM_ok hm b2 (by omega) BP (a2.fr b3 (by decide) (by decide) (by decide)) (by omega) BQ
  have hps3 := hps2.fr b3 (by decide)
  obtain ⟨M5, d1, d2, d3⟩ := lookB_ok hm hps3 hp h40 hP
  have hps5 := hps3.fr d3 (by decide)
  obtain ⟨M6, e1, e2, e3⟩ := lookA_ok hm hps5 hq h40 hQ
  obtain ⟨w, f1, f2⟩ := partsM_ok hm e2 (by omega) BQ (d2.fr e3 (by decide) (by decide) (by decide)) (by omega) BP
  have hF : FM m [15, 18, 21, 24] [11, 12, 13, 14, 15, 16, 17, 18] M M6 := ((a3.tr (b3.mo (by decide) (by decide))).tr d3).tr (e3.mo (by decide) (by decide))
  unfold mX8_isOver
  repeat (first | rw [ck_t (by first | with_reducible assumption | ((with_reducible apply ixA_of); (with_reducible assumption); omega; omega) | ((with_reducible apply isAr_of); (with_reducible assumption); decide) | ((with_reducible apply nI_ne0); omega; omega) | with_reducible exact isB_0 | with_reducible exact isB_1 | with_reducible exact isB_bI _)] | rw [bd_r (by with_reducible assumption)] | rw [bd_s] | rw [bd2_s] | rw [bd3_s] | rw [nm_s] | rw [nI_clamp (by omega)] | rw [nI_1] | rw [bd_e (a1)] | rw [bd_e (b1)] | rw [bd_e (c1)] | rw [bd_e (d1)] | rw [bd_e (e1)] | rw [if_pos (by first | with_reducible assumption | ((with_reducible refine nI_lt ?_ ?_); omega; omega) | ((with_reducible refine nI_nlt ?_ ?_); omega; omega) | with_reducible exact ne10 | with_reducible rfl)] | rw [if_neg (by first | with_reducible assumption | ((with_reducible refine nI_lt ?_ ?_); omega; omega) | ((with_reducible refine nI_nlt ?_ ?_); omega; omega) | with_reducible exact ne10 | with_reducible rfl)])
  rcases c2 with ⟨rfl, c2⟩ | ⟨rfl, c2⟩
  · exact ⟨0, M6, by rw [if_neg ne10], Or.inr ⟨rfl, fun z => z.1 c2⟩, hF⟩
  · rw [if_pos rfl, bd_e f1]
    rcases f2 with ⟨rfl, f2⟩ | ⟨rfl, f2⟩
    · exact ⟨0, M6, by rw [if_neg ne10], Or.inr ⟨rfl, fun z => z.2 f2⟩, hF⟩
    · exact ⟨1, M6, by rw [if_pos rfl], Or.inl ⟨rfl, c2, f2⟩, hF⟩
end SDM
