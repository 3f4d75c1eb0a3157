/-! GIFT WRAPPING: what the reference's outermost gives -/
/-- i lies outside the way from a to b, or on it and farther -/
def out (a b p : Pt) : Prop := crs a b p < 0 ∨ (crs a b p = 0 ∧ 0 < dot a b p ∧ dot a b b < dot a p p)
def Ed (S : List Pt) (a b : Pt) : Prop := b ∈ S ∧ b ≠ a ∧ ∀ p, p ∈ S → p = a ∨ p = b ∨ (¬ out a b p ∧ out a p b)
def GW (S L : List Pt) : Prop := ∃ f, L[0]? = some f ∧ f ∈ S ∧ (∀ p, p ∈ S → p = f ∨ ltP f p) ∧ (∀ (i : Nat) b, 0 < i → L[i]? = some b → b ≠ f) ∧ ((L.length = 1 ∧ ∀ p, p ∈ S → p = f) ∨ ∀ (i : Nat) a b, L[i]? = some a → L[(i + 1) % L.length]? = some b → Ed S a b)
theorem ltP_irr {a : Pt} (h : ltP a a) : False := by unfold ltP at h; omega
theorem ltP_asy {a b : Pt} (h : ltP a b) (g : ltP b a) : False := by unfold ltP at h g; omega
theorem ltP_tr {a b c : Pt} (h : ltP a b) (g : ltP b c) : ltP a c := by unfold ltP at h g ⊢; omega
theorem ltP_tot (a b : Pt) : ltP a b ∨ a = b ∨ ltP b a := by
  unfold ltP
  rcases Int.lt_trichotomy a.1 b.1 with h | h | h
  · exact Or.inl (Or.inl h)
  · rcases Int.lt_trichotomy a.2 b.2 with g | g | g
    · exact Or.inl (Or.inr ⟨h, g⟩)
    · exact Or.inr (Or.inl (Prod.ext h g))
    · exact Or.inr (Or.inr (Or.inr ⟨h.symm, g⟩))
  · exact Or.inr (Or.inr (Or.inl h))
theorem nout_self {a b : Pt} : ¬ out a b b := by
  unfold out
  rintro (h | ⟨h1, h2, h3⟩)
  · have : crs a b b = 0 := by unfold crs; rw [Int.mul_comm]; omega
    omega
  · omega
section OUT
variable {K : Kk} {R : Rr} {M : Mm} {m : Nat} {S : List Pt}
theorem rM.at {s x y i : Nat} {p : Pt} (h : rM M m s x y S) (hp : S[i]? = some p) : (M.2 (m + x) i).toInt = p.1 ∧ (M.2 (m + y) i).toInt = p.2 := h.2 i p hp
theorem rM.pt {s x y i : Nat} {p : Pt} (h : rM M m s x y S) (hp : S[i]? = some p) : p = ((M.2 (m + x) i).toInt, (M.2 (m + y) i).toInt) := Prod.ext (h.2 i p hp).1.symm (h.2 i p hp).2.symm
theorem leastPoint_ok {f : Pt} (hm : moA K R m) (h : rM M m 21 15 16 S) (hS : S.length < 601) (hf : f ∈ S) (hl : ∀ p, p ∈ S → p = f ∨ ltP f p) : ∃ k, mX8_leastPoint K R M m = some (nI k) ∧ S[k]? = some f := by
  have h0 := hm.1
  have h1 := mo_r19 hm
  have h2 := mo_r20 hm
  have h3 := mo_a19 hm
  have h4 := mo_a20 hm
  have e := h.1
  have hpos : 0 < S.length := by obtain ⟨i, hi, _⟩ := mem_get hf; omega
  have hL := lp_ind (f := mX8_leastPoint_L4 K R M m) (fun (i : Nat) (s : Int32 × Int32) => s.2 = nI i ∧ 0 < i ∧ ∃ k q, k < i ∧ s.1 = nI k ∧ S[k]? = some q ∧ ∀ j p, j < i → S[j]? = some p → p = q ∨ ltP q p) (fun r => ∃ k, r = nI k ∧ S[k]? = some f) S.length ?_ ?_
  · obtain ⟨q, hq⟩ := get_ex hpos
    obtain ⟨r, e1, k, rfl, e2⟩ := hL (S.length - 1) 1 (nI 0, nI 1) (by omega) ⟨rfl, by omega, 0, q, by omega, rfl, hq, fun j p hj hp => by
      obtain rfl : j = 0 := by omega
      exact Or.inl (get_un hp hq)⟩
    refine ⟨k, ?_, e2⟩
    unfold mX8_leastPoint
    repeat (first | rw [ck_t (by first | with_reducible assumption | ((with_reducible apply ixA_of); (with_reducible assumption); omega; decide) | ((with_reducible apply isAr_of); (with_reducible assumption); decide) | with_reducible exact isB_0 | with_reducible exact isB_1 | with_reducible exact isB_bI _)] | rw [bd_r (by with_reducible assumption)] | rw [bd_s] | rw [bd2_s] | rw [bd3_s] | rw [nm_s] | rw [nI_clamp (by omega)] | rw [nI_1] | rw [if_pos (by first | with_reducible assumption | ((with_reducible refine nI_lt ?_ ?_); omega; omega) | ((with_reducible refine nI_nlt ?_ ?_); omega; omega) | with_reducible exact ne10 | with_reducible rfl)] | rw [if_neg (by first | with_reducible assumption | ((with_reducible refine nI_lt ?_ ?_); omega; omega) | ((with_reducible refine nI_nlt ?_ ?_); omega; omega) | with_reducible exact ne10 | with_reducible rfl)])
    exact e1
  · rintro i ⟨x, y⟩ hi ⟨rfl, hi0, k, q, hk, rfl, hq, hall⟩
    obtain ⟨p, hp⟩ := get_ex hi
    have vp := h.pt hp
    have vq := h.pt hq
    have go : ∀ k2 q2, k2 < i + 1 → S[k2]? = some q2 → (q2 = q ∨ ltP q2 q) → (p = q2 ∨ ltP q2 p) → ∃ k q, k < i + 1 ∧ nI k2 = nI k ∧ S[k]? = some q ∧ ∀ j p, j < i + 1 → S[j]? = some p → p = q ∨ ltP q p := fun k2 q2 hk2 hq2 hle hp2 => by
      refine ⟨k2, q2, hk2, rfl, hq2, fun j p3 hj hp3 => ?_⟩
      by_cases hji : j = i
      · subst hji; rw [get_un hp3 hp]; exact hp2
      · rcases hall j p3 (by omega) hp3 with g | g
        · rw [g]; rcases hle with g2 | g2
          · exact Or.inl g2.symm
          · exact Or.inr g2
        · rcases hle with g2 | g2
          · rw [g2]; exact Or.inr g
          · exact Or.inr (ltP_tr g2 g)
    have e3 : mX8_leastPoint_B4 K R M m (nI k) (nI i) = some (.inl (nI i, nI (i + 1))) ∧ ltP p q ∨ mX8_leastPoint_B4 K R M m (nI k) (nI i) = some (.inl (nI k, nI (i + 1))) ∧ ¬ ltP p q := by
      unfold mX8_leastPoint_B4
      by_cases c1 : M.2 (m + 15) i < M.2 (m + 15) k
      · refine Or.inl ⟨?_, by rw [vp, vq]; exact Or.inl (lt64.mp c1)⟩
        repeat (first | rw [ck_t (by first | with_reducible assumption | ((with_reducible apply ixA_of); (with_reducible assumption); omega; decide) | ((with_reducible apply isAr_of); (with_reducible assumption); decide) | with_reducible exact isB_0 | with_reducible exact isB_1 | with_reducible exact isB_bI _)] | rw [bd_r (by with_reducible assumption)] | rw [bd_s] | rw [bd2_s] | rw [bd3_s] | rw [nm_s] | rw [nI_clamp (by omega)] | rw [nI_1] | rw [e] | rw [if_pos (by first | with_reducible assumption | ((with_reducible refine nI_lt ?_ ?_); omega; omega) | ((with_reducible refine nI_nlt ?_ ?_); omega; omega) | with_reducible exact ne10 | with_reducible rfl)] | rw [if_neg (by first | with_reducible assumption | ((with_reducible refine nI_lt ?_ ?_); omega; omega) | ((with_reducible refine nI_nlt ?_ ?_); omega; omega) | with_reducible exact ne10 | with_reducible rfl)])
        unfold mX8_leastPoint_J60 mX8_leastPoint_J62
        repeat (first | rw [ck_t (by first | with_reducible assumption | ((with_reducible apply ixA_of); (with_reducible assumption); omega; decide) | ((with_reducible apply isAr_of); (with_reducible assumption); decide) | with_reducible exact isB_0 | with_reducible exact isB_1 | with_reducible exact isB_bI _)] | rw [bd_r (by with_reducible assumption)] | rw [bd_s] | rw [bd2_s] | rw [bd3_s] | rw [nm_s] | rw [nI_clamp (by omega)] | rw [nI_1] | rw [if_pos (by first | with_reducible assumption | ((with_reducible refine nI_lt ?_ ?_); omega; omega) | ((with_reducible refine nI_nlt ?_ ?_); omega; omega) | with_reducible exact ne10 | with_reducible rfl)] | rw [if_neg (by first | with_reducible assumption | ((with_reducible refine nI_lt ?_ ?_); omega; omega) | ((with_reducible refine nI_nlt ?_ ?_); omega; omega) | with_reducible exact ne10 | with_reducible rfl)])
      · by_cases c2 : M.2 (m + 15) i = M.2 (m + 15) k
        · by_cases c3 : M.2 (m + 16) i < M.2 (m + 16) k
          · refine Or.inl ⟨?_, by rw [vp, vq]; exact Or.inr ⟨eq64.mp c2, lt64.mp c3⟩⟩
            repeat (first | rw [ck_t (by first | with_reducible assumption | ((with_reducible apply ixA_of); (with_reducible assumption); omega; decide) | ((with_reducible apply isAr_of); (with_reducible assumption); decide) | with_reducible exact isB_0 | with_reducible exact isB_1 | with_reducible exact isB_bI _)] | rw [bd_r (by with_reducible assumption)] | rw [bd_s] | rw [bd2_s] | rw [bd3_s] | rw [nm_s] | rw [nI_clamp (by omega)] | rw [nI_1] | rw [e] | rw [if_pos (by first | with_reducible assumption | ((with_reducible refine nI_lt ?_ ?_); omega; omega) | ((with_reducible refine nI_nlt ?_ ?_); omega; omega) | with_reducible exact ne10 | with_reducible rfl)] | rw [if_neg (by first | with_reducible assumption | ((with_reducible refine nI_lt ?_ ?_); omega; omega) | ((with_reducible refine nI_nlt ?_ ?_); omega; omega) | with_reducible exact ne10 | with_reducible rfl)])
            unfold mX8_leastPoint_J60 mX8_leastPoint_J62
            repeat (first | rw [ck_t (by first | with_reducible assumption | ((with_reducible apply ixA_of); (with_reducible assumption); omega; decide) | ((with_reducible apply isAr_of); (with_reducible assumption); decide) | with_reducible exact isB_0 | with_reducible exact isB_1 | with_reducible exact isB_bI _)] | rw [bd_r (by with_reducible assumption)] | rw [bd_s] | rw [bd2_s] | rw [bd3_s] | rw [nm_s] | rw [nI_clamp (by omega)] | rw [nI_1] | rw [if_pos (by first | with_reducible assumption | ((with_reducible refine nI_lt ?_ ?_); omega; omega) | ((with_reducible refine nI_nlt ?_ ?_); omega; omega) | with_reducible exact ne10 | with_reducible rfl)] | rw [if_neg (by first | with_reducible assumption | ((with_reducible refine nI_lt ?_ ?_); omega; omega) | ((with_reducible refine nI_nlt ?_ ?_); omega; omega) | with_reducible exact ne10 | with_reducible rfl)])
          · refine Or.inr ⟨?_, by rw [vp, vq]; rw [lt64] at c1 c3; rintro (g | ⟨-, g⟩) <;> simp only at g <;> omega⟩
            repeat (first | rw [ck_t (by first | with_reducible assumption | ((with_reducible apply ixA_of); (with_reducible assumption); omega; decide) | ((with_reducible apply isAr_of); (with_reducible assumption); decide) | with_reducible exact isB_0 | with_reducible exact isB_1 | with_reducible exact isB_bI _)] | rw [bd_r (by with_reducible assumption)] | rw [bd_s] | rw [bd2_s] | rw [bd3_s] | rw [nm_s] | rw [nI_clamp (by omega)] | rw [nI_1] | rw [e] | rw [if_pos (by first | with_reducible assumption | ((with_reducible refine nI_lt ?_ ?_); omega; omega) | ((with_reducible refine nI_nlt ?_ ?_); omega; omega) | with_reducible exact ne10 | with_reducible rfl)] | rw [if_neg (by first | with_reducible assumption | ((with_reducible refine nI_lt ?_ ?_); omega; omega) | ((with_reducible refine nI_nlt ?_ ?_); omega; omega) | with_reducible exact ne10 | with_reducible rfl)])
            unfold mX8_leastPoint_J62
            repeat (first | rw [ck_t (by first | with_reducible assumption | ((with_reducible apply ixA_of); (with_reducible assumption); omega; decide) | ((with_reducible apply isAr_of); (with_reducible assumption); decide) | with_reducible exact isB_0 | with_reducible exact isB_1 | with_reducible exact isB_bI _)] | rw [bd_r (by with_reducible assumption)] | rw [bd_s] | rw [bd2_s] | rw [bd3_s] | rw [nm_s] | rw [nI_clamp (by omega)] | rw [nI_1] | rw [if_pos (by first | with_reducible assumption | ((with_reducible refine nI_lt ?_ ?_); omega; omega) | ((with_reducible refine nI_nlt ?_ ?_); omega; omega) | with_reducible exact ne10 | with_reducible rfl)] | rw [if_neg (by first | with_reducible assumption | ((with_reducible refine nI_lt ?_ ?_); omega; omega) | ((with_reducible refine nI_nlt ?_ ?_); omega; omega) | with_reducible exact ne10 | with_reducible rfl)])
        · refine Or.inr ⟨?_, by rw [vp, vq]; rw [lt64] at c1; rw [eq64] at c2; rintro (g | ⟨g, -⟩) <;> simp only at g <;> omega⟩
          repeat (first | rw [ck_t (by first | with_reducible assumption | ((with_reducible apply ixA_of); (with_reducible assumption); omega; decide) | ((with_reducible apply isAr_of); (with_reducible assumption); decide) | with_reducible exact isB_0 | with_reducible exact isB_1 | with_reducible exact isB_bI _)] | rw [bd_r (by with_reducible assumption)] | rw [bd_s] | rw [bd2_s] | rw [bd3_s] | rw [nm_s] | rw [nI_clamp (by omega)] | rw [nI_1] | rw [e] | rw [if_pos (by first | with_reducible assumption | ((with_reducible refine nI_lt ?_ ?_); omega; omega) | ((with_reducible refine nI_nlt ?_ ?_); omega; omega) | with_reducible exact ne10 | with_reducible rfl)] | rw [if_neg (by first | with_reducible assumption | ((with_reducible refine nI_lt ?_ ?_); omega; omega) | ((with_reducible refine nI_nlt ?_ ?_); omega; omega) | with_reducible exact ne10 | with_reducible rfl)])
          unfold mX8_leastPoint_J62
          repeat (first | rw [ck_t (by first | with_reducible assumption | ((with_reducible apply ixA_of); (with_reducible assumption); omega; decide) | ((with_reducible apply isAr_of); (with_reducible assumption); decide) | with_reducible exact isB_0 | with_reducible exact isB_1 | with_reducible exact isB_bI _)] | rw [bd_r (by with_reducible assumption)] | rw [bd_s] | rw [bd2_s] | rw [bd3_s] | rw [nm_s] | rw [nI_clamp (by omega)] | rw [nI_1] | rw [if_pos (by first | with_reducible assumption | ((with_reducible refine nI_lt ?_ ?_); omega; omega) | ((with_reducible refine nI_nlt ?_ ?_); omega; omega) | with_reducible exact ne10 | with_reducible rfl)] | rw [if_neg (by first | with_reducible assumption | ((with_reducible refine nI_lt ?_ ?_); omega; omega) | ((with_reducible refine nI_nlt ?_ ?_); omega; omega) | with_reducible exact ne10 | with_reducible rfl)])
    rcases e3 with ⟨e3, c⟩ | ⟨e3, c⟩
    · exact Or.inl ⟨(nI i, nI (i + 1)), e3, rfl, by omega, go i p (by omega) hp (Or.inr c) (Or.inl rfl)⟩
    · refine Or.inl ⟨(nI k, nI (i + 1)), e3, rfl, by omega, go k q (by omega) hq (Or.inl rfl) ?_⟩
      rcases ltP_tot p q with g | g | g
      · exact absurd g c
      · exact Or.inl g
      · exact Or.inr g
  · rintro ⟨x, y⟩ ⟨rfl, hi0, k, q, hk, rfl, hq, hall⟩
    refine ⟨nI k, ?_, k, rfl, ?_⟩
    · show mX8_leastPoint_B4 K R M m (nI k) (nI S.length) = _
      unfold mX8_leastPoint_B4
      repeat (first | rw [ck_t (by first | with_reducible assumption | ((with_reducible apply ixA_of); (with_reducible assumption); omega; decide) | ((with_reducible apply isAr_of); (with_reducible assumption); decide) | with_reducible exact isB_0 | with_reducible exact isB_1 | with_reducible exact isB_bI _)] | rw [bd_r (by with_reducible assumption)] | rw [bd_s] | rw [bd2_s] | rw [bd3_s] | rw [nm_s] | rw [nI_clamp (by omega)] | rw [nI_1] | rw [e] | rw [if_pos (by first | with_reducible assumption | ((with_reducible refine nI_lt ?_ ?_); omega; omega) | ((with_reducible refine nI_nlt ?_ ?_); omega; omega) | with_reducible exact ne10 | with_reducible rfl)] | rw [if_neg (by first | with_reducible assumption | ((with_reducible refine nI_lt ?_ ?_); omega; omega) | ((with_reducible refine nI_nlt ?_ ?_); omega; omega) | with_reducible exact ne10 | with_reducible rfl)])
      rfl
    · have hqf : q = f := by
        obtain ⟨j, hj, hjf⟩ := mem_get hf
        rcases hall j f hj hjf with g | g
        · exact g.symm
        · rcases hl q (get_mem hq) with g2 | g2
          · exact g2
          · exact absurd g2 (fun z => ltP_asy g z)
      rw [← hqf]; exact hq
theorem isOuter_ok {i j k : Nat} {a b p : Pt} (hm : moA K R m) (h : rM M m 21 15 16 S) (hS : S.length < 601) (hB : ∀ p, p ∈ S → inB p) (ha : S[i]? = some a) (hb : S[j]? = some b) (hp : S[k]? = some p) : ∃ v, mX8_isOuter K R M m (nI i) (nI j) (nI k) = some v ∧ ((v = 0 ∧ ¬ out a b p) ∨ (v = 1 ∧ out a b p)) := by
  have h0 := hm.1
  have h1 := mo_r19 hm
  have h2 := mo_r20 hm
  have h3 := mo_a19 hm
  have h4 := mo_a20 hm
  have li := get_lt ha
  have lj := get_lt hb
  have lk := get_lt hp
  have va := h.pt ha
  have vb := h.pt hb
  have vp := h.pt hp
  have Ba := hB _ (get_mem ha)
  have Bb := hB _ (get_mem hb)
  have Bp := hB _ (get_mem hp)
  rw [va] at Ba
  rw [vb] at Bb
  rw [vp] at Bp
  obtain ⟨v, e1, e2⟩ := sideM_ok (K := K) (R := R) (M := M) Ba Bb Bp
  rw [← va, ← vb, ← vp] at e2
  have d1 := (dot64 Bb Ba Bb Ba).trans (show _ = dot a b b by rw [va, vb]; rfl)
  have d2 := (dot64 Bp Ba Bp Ba).trans (show _ = dot a p p by rw [va, vp]; rfl)
  have d3 := (dot64 Bb Ba Bp Ba).trans (show _ = dot a b p by rw [va, vb, vp]; rfl)
  unfold mX8_isOuter
  repeat (first | rw [ck_t (by first | with_reducible assumption | ((with_reducible apply ixA_of); (with_reducible assumption); omega; decide) | ((with_reducible apply isAr_of); (with_reducible assumption); decide) | with_reducible exact isB_0 | with_reducible exact isB_1 | with_reducible exact isB_bI _)] | rw [bd_r (by with_reducible assumption)] | rw [bd_s] | rw [bd2_s] | rw [bd3_s] | rw [nm_s] | rw [nI_clamp (by omega)] | rw [nI_1] | rw [bd_e (e1)] | rw [if_pos (by first | with_reducible assumption | ((with_reducible refine nI_lt ?_ ?_); omega; omega) | ((with_reducible refine nI_nlt ?_ ?_); omega; omega) | with_reducible exact ne10 | with_reducible rfl)] | rw [if_neg (by first | with_reducible assumption | ((with_reducible refine nI_lt ?_ ?_); omega; omega) | ((with_reducible refine nI_nlt ?_ ?_); omega; omega) | with_reducible exact ne10 | with_reducible rfl)])
  by_cases c0 : v = 0
  · have z : crs a b p = 0 := by rw [← e2, c0]; rfl
    repeat (first | rw [ck_t (by first | with_reducible assumption | ((with_reducible apply ixA_of); (with_reducible assumption); omega; decide) | ((with_reducible apply isAr_of); (with_reducible assumption); decide) | with_reducible exact isB_0 | with_reducible exact isB_1 | with_reducible exact isB_bI _)] | rw [bd_r (by with_reducible assumption)] | rw [bd_s] | rw [bd2_s] | rw [bd3_s] | rw [nm_s] | rw [nI_clamp (by omega)] | rw [nI_1] | rw [if_pos (by first | with_reducible assumption | ((with_reducible refine nI_lt ?_ ?_); omega; omega) | ((with_reducible refine nI_nlt ?_ ?_); omega; omega) | with_reducible exact ne10 | with_reducible rfl)] | rw [if_neg (by first | with_reducible assumption | ((with_reducible refine nI_lt ?_ ?_); omega; omega) | ((with_reducible refine nI_nlt ?_ ?_); omega; omega) | with_reducible exact ne10 | with_reducible rfl)])
    unfold mX8_isOuter_J240
    by_cases c1 : dot a b p ≤ 0
    · exact ⟨0, by rw [if_pos (le64.mpr (by rw [d3]; exact c1)), if_pos rfl], Or.inl ⟨rfl, by unfold out; omega⟩⟩
    · rw [if_neg (fun q => c1 (by rw [le64, d3] at q; exact q)), if_neg ne10]
      by_cases c2 : dot a p p ≤ dot a b b
      · exact ⟨0, by rw [if_pos (le64.mpr (by rw [d1, d2]; exact c2))], Or.inl ⟨rfl, by unfold out; omega⟩⟩
      · exact ⟨1, by rw [if_neg (fun q => c2 (by rw [le64, d1, d2] at q; exact q))], Or.inr ⟨rfl, by unfold out; omega⟩⟩
  · have z : crs a b p ≠ 0 := fun q => c0 (eq64.mpr (e2.trans q))
    rw [if_neg c0]
    by_cases c1 : crs a b p < 0
    · exact ⟨1, by rw [if_pos (lt64.mpr (by rw [e2]; exact c1))], Or.inr ⟨rfl, Or.inl c1⟩⟩
    · exact ⟨0, by rw [if_neg (fun q => c1 (by rw [lt64, e2] at q; exact q))], Or.inl ⟨rfl, by unfold out; omega⟩⟩
end OUT
