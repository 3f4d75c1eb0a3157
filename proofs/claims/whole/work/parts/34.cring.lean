/-! THE CLASS'S RINGS: corners by index, moves -/
def inBs (l : List Pt) : Prop := ∀ (i : Nat) p, l[i]? = some p → inB p
theorem inBs.m {l : List Pt} (h : inBs l) : ∀ p, p ∈ l → inB p := fun p hp => by obtain ⟨i, _, hi⟩ := mem_get hp; exact h i p hi
theorem inBs_of {l : List Pt} (h : ∀ p, p ∈ l → inB p) : inBs l := fun _ p hp => h p (get_mem hp)
theorem isRg.B {l : List Pt} (h : isRg l) : inBs l := h.2.2.2.2
theorem mod_in {i n : Nat} (h : i < n) : i % n = i := Nat.mod_eq_of_lt h
theorem mod_out {i n : Nat} (h : n ≤ i) (h2 : i < 2 * n) : i % n = i - n := by rw [Nat.mod_eq_sub_mod h, Nat.mod_eq_of_lt (by omega)]
section CR
variable {K : Kk} {R : Rr} {M : Mm} {r n : Nat} {l : List Pt}
theorem rgC.pt {i : Nat} {p : Pt} (h : rgC M r l) (hp : l[i]? = some p) : p = ((M.1 (r + 1) i).toInt, (M.1 (r + 2) i).toInt) := Prod.ext (h.2 i p hp).1.symm (h.2 i p hp).2.symm
theorem wrap_ok {i : Nat} (hA : rgA K R r n) (h : rgC M r l) (hl : l.length < 2 ^ 20) (hi : i < 2 * l.length) : mX5_wrap K R M r (nI i) = some (nI (i % l.length)) := by
  have h0 := hA.1
  have e := h.1
  unfold mX5_wrap
  by_cases c : i < l.length
  · rw [mod_in c]
    repeat (first | rw [ck_t (by first | with_reducible assumption | ((with_reducible apply ixA_of); (with_reducible assumption); omega; decide) | ((with_reducible apply isAr_of); (with_reducible assumption); decide) | with_reducible exact isB_0 | with_reducible exact isB_1 | with_reducible exact isB_bI _)] | rw [bd_r (by with_reducible assumption)] | rw [bd_s] | rw [bd2_s] | rw [bd3_s] | rw [nm_s] | rw [nI_clamp (by omega)] | rw [nI_1] | rw [e] | rw [if_pos (by first | with_reducible assumption | ((with_reducible refine nI_lt ?_ ?_); omega; omega) | ((with_reducible refine nI_nlt ?_ ?_); omega; omega) | with_reducible exact ne10 | with_reducible rfl)] | rw [if_neg (by first | with_reducible assumption | ((with_reducible refine nI_lt ?_ ?_); omega; omega) | ((with_reducible refine nI_nlt ?_ ?_); omega; omega) | with_reducible exact ne10 | with_reducible rfl)])
  · rw [mod_out (by omega) hi]
    repeat (first | rw [ck_t (by first | with_reducible assumption | ((with_reducible apply ixA_of); (with_reducible assumption); omega; decide) | ((with_reducible apply isAr_of); (with_reducible assumption); decide) | with_reducible exact isB_0 | with_reducible exact isB_1 | with_reducible exact isB_bI _)] | rw [bd_r (by with_reducible assumption)] | rw [bd_s] | rw [bd2_s] | rw [bd3_s] | rw [nm_s] | rw [nI_clamp (by omega)] | rw [nI_1] | rw [e] | rw [pk_sub (show l.length ≤ i by omega)] | rw [if_pos (by first | with_reducible assumption | ((with_reducible refine nI_lt ?_ ?_); omega; omega) | ((with_reducible refine nI_nlt ?_ ?_); omega; omega) | with_reducible exact ne10 | with_reducible rfl)] | rw [if_neg (by first | with_reducible assumption | ((with_reducible refine nI_lt ?_ ?_); omega; omega) | ((with_reducible refine nI_nlt ?_ ?_); omega; omega) | with_reducible exact ne10 | with_reducible rfl)])
theorem sideAt_ok {i j : Nat} {a b : Pt} {x y : Int32} (hA : rgA K R r n) (h : rgC M r l) (hl : l.length ≤ n) (hn : n < 2 ^ 20) (hB : inBs l) (ha : l[i]? = some a) (hb : l[j]? = some b) (hp : inB (x.toInt, y.toInt)) : ∃ v, mX5_sideAt K R M r (nI i) (nI j) x y = some v ∧ v.toInt = crs a b (x.toInt, y.toInt) := by
  obtain ⟨h0, h1, h2, h3, h4⟩ := hA
  have li := get_lt ha
  have lj := get_lt hb
  have x3 : ∀ k, k < l.length → ixA K (r + 1) 0 (nI k) := fun k hk => ixA_of h3 (by omega) (by omega)
  have x4 : ∀ k, k < l.length → ixA K (r + 2) 0 (nI k) := fun k hk => ixA_of h4 (by omega) (by omega)
  have y1 := x3 i li
  have y2 := x3 j lj
  have y3 := x4 i li
  have y4 := x4 j lj
  have Ba := hB i a ha
  have Bb := hB j b hb
  rw [h.pt ha] at Ba
  rw [h.pt hb] at Bb
  unfold mX5_sideAt
  repeat (first | rw [ck_t (by first | with_reducible assumption | ((with_reducible apply ixA_of); (with_reducible assumption); omega; decide) | ((with_reducible apply isAr_of); (with_reducible assumption); decide) | with_reducible exact isB_0 | with_reducible exact isB_1 | with_reducible exact isB_bI _)] | rw [bd_r (by with_reducible assumption)] | rw [bd_s] | rw [bd2_s] | rw [bd3_s] | rw [nm_s] | rw [nI_clamp (by omega)] | rw [nI_1] | rw [if_pos (by first | with_reducible assumption | ((with_reducible refine nI_lt ?_ ?_); omega; omega) | ((with_reducible refine nI_nlt ?_ ?_); omega; omega) | with_reducible exact ne10 | with_reducible rfl)] | rw [if_neg (by first | with_reducible assumption | ((with_reducible refine nI_lt ?_ ?_); omega; omega) | ((with_reducible refine nI_nlt ?_ ?_); omega; omega) | with_reducible exact ne10 | with_reducible rfl)])
  unfold mX7_sideOf
  rw [bd_s]
  refine ⟨_, rfl, ?_⟩
  rw [h.pt ha, h.pt hb]
  refine (crs64 (x := (M.1 (r + 1) j).toInt64) (y := (M.1 (r + 2) j).toInt64) (z := (M.1 (r + 1) i).toInt64) (w := (M.1 (r + 2) i).toInt64) (x' := x.toInt64) (y' := y.toInt64) (z' := (M.1 (r + 1) i).toInt64) (w' := (M.1 (r + 2) i).toInt64) ?_ ?_ ?_ ?_).trans ?_
  · rw [i64_int, i64_int]; exact Bb
  · rw [i64_int, i64_int]; exact Ba
  · rw [i64_int, i64_int]; exact hp
  · rw [i64_int, i64_int]; exact Ba
  · simp only [i64_int]; rfl
theorem pm1_mul {t : Int32} {ti x : Int} {y : Int32} (ht : t.toInt = ti) (h1 : ti = 1 ∨ ti = -1) (hy : y.toInt = x) (hb : -2000000 ≤ x) (hb2 : x ≤ 2000000) : (t * y).toInt = ti * x := by
  rw [mul32 (by rw [ht, hy]; rcases h1 with rfl | rfl <;> omega) (by rw [ht, hy]; rcases h1 with rfl | rfl <;> omega), ht, hy]
theorem leastTurned_ok {t : Int32} {ti a b : Int} {k : Nat} (hA : rgA K R r n) (h : rgC M r l) (hl : l.length ≤ n) (hn : n < 2 ^ 20) (hB : inBs l) (ht : t.toInt = ti) (h1 : ti = 1 ∨ ti = -1) (hk : isLs (l.map (mvP ti a b)) k) : mX5_leastTurned K R M r t = some (nI k) := by
  obtain ⟨h0, h5, h2, h3, h4⟩ := hA
  have e := h.1
  have hkl := isLs_lt hk
  rw [List.length_map] at hkl
  have x3 : ∀ k, k < l.length → ixA K (r + 1) 0 (nI k) := fun k hk => ixA_of h3 (by omega) (by omega)
  have x4 : ∀ k, k < l.length → ixA K (r + 2) 0 (nI k) := fun k hk => ixA_of h4 (by omega) (by omega)
  have hL := lp_ind (f := mX5_leastTurned_L4 K R M r t) (fun (i : Nat) (s : Int32 × Int32) => s.2 = nI i ∧ 0 < i ∧ ∃ c q, c < i ∧ s.1 = nI c ∧ l[c]? = some q ∧ ∀ j p, j < i → l[j]? = some p → mvP ti a b p = mvP ti a b q ∨ ltP (mvP ti a b q) (mvP ti a b p)) (fun r => r = nI k) l.length ?_ ?_
  · obtain ⟨q, hq⟩ := get_ex (l := l) (i := 0) (by omega)
    obtain ⟨r', e1, rfl⟩ := hL (l.length - 1) 1 (nI 0, nI 1) (by omega) ⟨rfl, by omega, 0, q, by omega, rfl, hq, fun j p hj hp => by
      obtain rfl : j = 0 := by omega
      exact Or.inl (by rw [get_un hp hq])⟩
    unfold mX5_leastTurned
    repeat (first | rw [ck_t (by first | with_reducible assumption | ((with_reducible apply ixA_of); (with_reducible assumption); omega; decide) | ((with_reducible apply isAr_of); (with_reducible assumption); decide) | with_reducible exact isB_0 | with_reducible exact isB_1 | with_reducible exact isB_bI _)] | rw [bd_r (by with_reducible assumption)] | rw [bd_s] | rw [bd2_s] | rw [bd3_s] | rw [nm_s] | rw [nI_clamp (by omega)] | rw [nI_1] | rw [if_pos (by first | with_reducible assumption | ((with_reducible refine nI_lt ?_ ?_); omega; omega) | ((with_reducible refine nI_nlt ?_ ?_); omega; omega) | with_reducible exact ne10 | with_reducible rfl)] | rw [if_neg (by first | with_reducible assumption | ((with_reducible refine nI_lt ?_ ?_); omega; omega) | ((with_reducible refine nI_nlt ?_ ?_); omega; omega) | with_reducible exact ne10 | with_reducible rfl)])
    exact e1
  · rintro i ⟨x, y⟩ hi ⟨rfl, hi0, c, q, hc, rfl, hq, hall⟩
    obtain ⟨p, hp⟩ := get_ex hi
    have vp := h.pt hp
    have vq := h.pt hq
    have Bp := hB _ _ hp
    have Bq := hB _ _ hq
    rw [vp] at Bp
    rw [vq] at Bq
    obtain ⟨p1, p2, p3, p4⟩ := Bp
    obtain ⟨q1, q2, q3, q4⟩ := Bq
    simp only at p1 p2 p3 p4 q1 q2 q3 q4
    have s1 : (t * (M.1 (r + 1) c - M.1 (r + 1) i)).toInt = ti * (q.1 - p.1) := pm1_mul ht h1 (by rw [sub32 (by omega) (by omega), vp, vq]) (by rw [vp, vq]; simp only; omega) (by rw [vp, vq]; simp only; omega)
    have s2 : (t * (M.1 (r + 2) c - M.1 (r + 2) i)).toInt = ti * (q.2 - p.2) := pm1_mul ht h1 (by rw [sub32 (by omega) (by omega), vp, vq]) (by rw [vp, vq]; simp only; omega) (by rw [vp, vq]; simp only; omega)
    have y1 := x3 i hi
    have y2 := x3 c (by omega)
    have y3 := x4 i hi
    have y4 := x4 c (by omega)
    have go : ∀ k2 q2, k2 < i + 1 → l[k2]? = some q2 → (mvP ti a b q2 = mvP ti a b q ∨ ltP (mvP ti a b q2) (mvP ti a b q)) → (mvP ti a b p = mvP ti a b q2 ∨ ltP (mvP ti a b q2) (mvP ti a b p)) → ∃ k q, k < i + 1 ∧ nI k2 = nI k ∧ l[k]? = some q ∧ ∀ j p, j < i + 1 → l[j]? = some p → mvP ti a b p = mvP ti a b q ∨ ltP (mvP ti a b q) (mvP ti a b p) := fun k2 q2 hk2 hq2 hle hp2 => by
      refine ⟨k2, q2, hk2, rfl, hq2, fun j p3 hj hp3 => ?_⟩
      by_cases hji : j = i
      · subst hji; rw [get_un hp3 hp]; exact hp2
      · rcases hall j p3 (by omega) hp3 with g | g
        · rw [g]; rcases hle with g2 | g2
          · exact Or.inl g2.symm
          · exact Or.inr g2
        · rcases hle with g2 | g2
          · rw [g2]; exact Or.inr g
          · exact Or.inr (ltP_tr g2 g)
    have lt_iff : ltP (mvP ti a b p) (mvP ti a b q) ↔ 0 < ti * (q.1 - p.1) ∨ (ti * (q.1 - p.1) = 0 ∧ 0 < ti * (q.2 - p.2)) := by
      unfold ltP mvP
      rcases h1 with rfl | rfl <;> simp only <;> omega
    have e3 : mX5_leastTurned_B4 K R M r t (nI c) (nI i) = some (.inl (nI i, nI (i + 1))) ∧ ltP (mvP ti a b p) (mvP ti a b q) ∨ mX5_leastTurned_B4 K R M r t (nI c) (nI i) = some (.inl (nI c, nI (i + 1))) ∧ ¬ ltP (mvP ti a b p) (mvP ti a b q) := by
      rw [lt_iff, ← s1, ← s2]
      unfold mX5_leastTurned_B4
      repeat (first | rw [ck_t (by first | with_reducible assumption | ((with_reducible apply ixA_of); (with_reducible assumption); omega; decide) | ((with_reducible apply isAr_of); (with_reducible assumption); decide) | with_reducible exact isB_0 | with_reducible exact isB_1 | with_reducible exact isB_bI _)] | rw [bd_r (by with_reducible assumption)] | rw [bd_s] | rw [bd2_s] | rw [bd3_s] | rw [nm_s] | rw [nI_clamp (by omega)] | rw [nI_1] | rw [e] | rw [if_pos (by first | with_reducible assumption | ((with_reducible refine nI_lt ?_ ?_); omega; omega) | ((with_reducible refine nI_nlt ?_ ?_); omega; omega) | with_reducible exact ne10 | with_reducible rfl)] | rw [if_neg (by first | with_reducible assumption | ((with_reducible refine nI_lt ?_ ?_); omega; omega) | ((with_reducible refine nI_nlt ?_ ?_); omega; omega) | with_reducible exact ne10 | with_reducible rfl)])
      generalize t * (M.1 (r + 1) c - M.1 (r + 1) i) = u
      generalize t * (M.1 (r + 2) c - M.1 (r + 2) i) = v
      have z0 : (0 : Int32).toInt = 0 := rfl
      have tk : mX5_leastTurned_J61 K R M r t (nI i) = some (.inl (nI i, nI (i + 1))) := by unfold mX5_leastTurned_J61 mX5_leastTurned_J63; repeat (first | rw [ck_t (by first | with_reducible assumption | ((with_reducible apply ixA_of); (with_reducible assumption); omega; decide) | ((with_reducible apply isAr_of); (with_reducible assumption); decide) | with_reducible exact isB_0 | with_reducible exact isB_1 | with_reducible exact isB_bI _)] | rw [bd_r (by with_reducible assumption)] | rw [bd_s] | rw [bd2_s] | rw [bd3_s] | rw [nm_s] | rw [nI_clamp (by omega)] | rw [nI_1] | rw [if_pos (by first | with_reducible assumption | ((with_reducible refine nI_lt ?_ ?_); omega; omega) | ((with_reducible refine nI_nlt ?_ ?_); omega; omega) | with_reducible exact ne10 | with_reducible rfl)] | rw [if_neg (by first | with_reducible assumption | ((with_reducible refine nI_lt ?_ ?_); omega; omega) | ((with_reducible refine nI_nlt ?_ ?_); omega; omega) | with_reducible exact ne10 | with_reducible rfl)])
      have kp : mX5_leastTurned_J63 K R M r t (nI c) (nI i) = some (.inl (nI c, nI (i + 1))) := by unfold mX5_leastTurned_J63; repeat (first | rw [ck_t (by first | with_reducible assumption | ((with_reducible apply ixA_of); (with_reducible assumption); omega; decide) | ((with_reducible apply isAr_of); (with_reducible assumption); decide) | with_reducible exact isB_0 | with_reducible exact isB_1 | with_reducible exact isB_bI _)] | rw [bd_r (by with_reducible assumption)] | rw [bd_s] | rw [bd2_s] | rw [bd3_s] | rw [nm_s] | rw [nI_clamp (by omega)] | rw [nI_1] | rw [if_pos (by first | with_reducible assumption | ((with_reducible refine nI_lt ?_ ?_); omega; omega) | ((with_reducible refine nI_nlt ?_ ?_); omega; omega) | with_reducible exact ne10 | with_reducible rfl)] | rw [if_neg (by first | with_reducible assumption | ((with_reducible refine nI_lt ?_ ?_); omega; omega) | ((with_reducible refine nI_nlt ?_ ?_); omega; omega) | with_reducible exact ne10 | with_reducible rfl)])
      by_cases c1 : u ≤ 0
      · rw [if_pos c1]
        rw [le32, z0] at c1
        by_cases c2 : u = 0
        · rw [if_pos c2]
          rw [eq32, z0] at c2
          by_cases c3 : v ≤ 0
          · rw [if_pos c3]
            rw [le32, z0] at c3
            exact Or.inr ⟨kp, by omega⟩
          · rw [if_neg c3]
            rw [le32, z0] at c3
            exact Or.inl ⟨tk, by omega⟩
        · rw [if_neg c2]
          rw [eq32, z0] at c2
          exact Or.inr ⟨kp, by omega⟩
      · rw [if_neg c1]
        rw [le32, z0] at c1
        exact Or.inl ⟨tk, by omega⟩
    rcases e3 with ⟨e3, c0⟩ | ⟨e3, c0⟩
    · exact Or.inl ⟨(nI i, nI (i + 1)), e3, rfl, by omega, go i p (by omega) hp (Or.inr c0) (Or.inl rfl)⟩
    · refine Or.inl ⟨(nI c, nI (i + 1)), e3, rfl, by omega, go c q (by omega) hq (Or.inl rfl) ?_⟩
      rcases ltP_tot (mvP ti a b p) (mvP ti a b q) with g | g | g
      · exact absurd g c0
      · exact Or.inl g
      · exact Or.inr g
  · rintro ⟨x, y⟩ ⟨rfl, hi0, c, q, hc, rfl, hq, hall⟩
    refine ⟨nI c, ?_, ?_⟩
    · show mX5_leastTurned_B4 K R M r t (nI c) (nI l.length) = _
      unfold mX5_leastTurned_B4
      repeat (first | rw [ck_t (by first | with_reducible assumption | ((with_reducible apply ixA_of); (with_reducible assumption); omega; decide) | ((with_reducible apply isAr_of); (with_reducible assumption); decide) | with_reducible exact isB_0 | with_reducible exact isB_1 | with_reducible exact isB_bI _)] | rw [bd_r (by with_reducible assumption)] | rw [bd_s] | rw [bd2_s] | rw [bd3_s] | rw [nm_s] | rw [nI_clamp (by omega)] | rw [nI_1] | rw [e] | rw [if_pos (by first | with_reducible assumption | ((with_reducible refine nI_lt ?_ ?_); omega; omega) | ((with_reducible refine nI_nlt ?_ ?_); omega; omega) | with_reducible exact ne10 | with_reducible rfl)] | rw [if_neg (by first | with_reducible assumption | ((with_reducible refine nI_lt ?_ ?_); omega; omega) | ((with_reducible refine nI_nlt ?_ ?_); omega; omega) | with_reducible exact ne10 | with_reducible rfl)])
      rfl
    · obtain ⟨f, k1, k2⟩ := hk
      by_cases hck : c = k
      · rw [hck]
      · obtain ⟨f', hf', rfl⟩ := get_map k1
        have g1 := k2 c _ hck (map_get hq)
        rcases hall k f' hkl hf' with g2 | g2
        · rw [g2] at g1; exact absurd g1 ltP_irr
        · exact absurd g2 (fun z => ltP_asy g1 z)
theorem takeMoved_ok {q n2 k : Nat} {t x y : Int32} {ti a b : Int} (hr : rgA K R r n) (hq : rgA K R q n2) (hd : r + 3 ≤ q ∨ q + 3 ≤ r) (hl : l.length ≤ n) (hl2 : l.length ≤ n2) (hn : n < 2 ^ 20) (hn2 : n2 < 2 ^ 20) (h : rgC M q l) (hB : inBs l) (ht : t.toInt = ti) (h1 : ti = 1 ∨ ti = -1) (hx : x.toInt = a) (hy : y.toInt = b) (ba : -1000000 ≤ a ∧ a ≤ 1000000) (bb : -1000000 ≤ b ∧ b ≤ 1000000) (hk : isLs (l.map (mvP ti a b)) k) :
    ∃ M', mX5_takeMoved K R M r q t x y = some M' ∧ rgC M' r (norm (l.map (mvP ti a b))) ∧ Fr r (r + 3) M M' ∧ M'.2 = M.2 := by
  have h0 := hr.1
  obtain ⟨g0, g1, g2, g3, g4⟩ := hq
  have hq : rgA K R q n2 := ⟨g0, g1, g2, g3, g4⟩
  have hkl := isLs_lt hk
  rw [norm_of hk]
  generalize hLL : l.map (mvP ti a b) = L at hk ⊢
  have hlen : L.length = l.length := by rw [← hLL, List.length_map]
  rw [hLL, hlen] at hkl
  have x3 : ∀ k, k < l.length → ixA K (q + 1) 0 (nI k) := fun k hk => ixA_of g3 (by omega) (by omega)
  have x4 : ∀ k, k < l.length → ixA K (q + 2) 0 (nI k) := fun k hk => ixA_of g4 (by omega) (by omega)
  have hlen2 : (rotL k L).length = l.length := by rw [rotL_len, hlen]
  have e1 := leastTurned_ok (M := M) (a := a) (b := b) hq h hl2 hn2 hB ht h1 (by rw [hLL]; exact hk)
  have hW := lp_ind (f := mX5_takeMoved_L15 K R r q t x y (nI k)) (fun (i : Nat) (s : Int32 × Mm) => s.1 = nI i ∧ rgC s.2 r ((rotL k L).take i) ∧ Fr r (r + 3) M s.2 ∧ s.2.2 = M.2) (fun M' => rgC M' r (rotL k L) ∧ Fr r (r + 3) M M' ∧ M'.2 = M.2) l.length ?_ ?_
  · obtain ⟨M', e2, e3⟩ := hW l.length 0 (nI 0, pI M r 2 0) (by omega) ⟨rfl, ⟨pI_s, fun i p hp => by simp at hp⟩, Fr.rf.pI (by omega) (by omega), rfl⟩
    refine ⟨M', ?_, e3⟩
    unfold mX5_takeMoved
    repeat (first | rw [ck_t (by first | with_reducible assumption | ((with_reducible apply ixA_of); (with_reducible assumption); omega; decide) | ((with_reducible apply isAr_of); (with_reducible assumption); decide) | with_reducible exact isB_0 | with_reducible exact isB_1 | with_reducible exact isB_bI _)] | rw [bd_r (by with_reducible assumption)] | rw [bd_s] | rw [bd2_s] | rw [bd3_s] | rw [nm_s] | rw [nI_clamp (by omega)] | rw [nI_1] | rw [bd_e (e1)] | rw [if_pos (by first | with_reducible assumption | ((with_reducible refine nI_lt ?_ ?_); omega; omega) | ((with_reducible refine nI_nlt ?_ ?_); omega; omega) | with_reducible exact ne10 | with_reducible rfl)] | rw [if_neg (by first | with_reducible assumption | ((with_reducible refine nI_lt ?_ ?_); omega; omega) | ((with_reducible refine nI_nlt ?_ ?_); omega; omega) | with_reducible exact ne10 | with_reducible rfl)])
    exact e2
  · rintro i ⟨z, N⟩ hi ⟨rfl, f1, f2, f3⟩
    have f1 : rgC N r ((rotL k L).take i) := f1
    have f2 : Fr r (r + 3) M N := f2
    have hN := h.fr f2 (by omega)
    have eN := hN.1
    have hmod : (k + i) % l.length < l.length := Nat.mod_lt _ (by omega)
    obtain ⟨p, hp⟩ := get_ex hmod
    have hp2 : (rotL k L)[i]? = some (mvP ti a b p) := by rw [rotL_get (by omega) (by omega), hlen, ← hLL]; exact map_get hp
    have w1 := wrap_ok (M := N) (i := k + i) hq hN (by omega) (by omega)
    rw [← nI_add] at w1
    have y1 := x3 _ hmod
    have y2 := x4 _ hmod
    have vp := hN.pt hp
    obtain ⟨p1, p2, p3, p4⟩ := hB _ _ hp
    have m1 : (t * N.1 (q + 1) ((k + i) % l.length)).toInt = ti * p.1 := pm1_mul ht h1 (by rw [vp]) (by omega) (by omega)
    have m2 : (t * N.1 (q + 2) ((k + i) % l.length)).toInt = ti * p.2 := pm1_mul ht h1 (by rw [vp]) (by omega) (by omega)
    have b1 : -100000 ≤ ti * p.1 ∧ ti * p.1 ≤ 100000 := by rcases h1 with rfl | rfl <;> omega
    have b2 : -100000 ≤ ti * p.2 ∧ ti * p.2 ≤ 100000 := by rcases h1 with rfl | rfl <;> omega
    have a1 : (t * N.1 (q + 1) ((k + i) % l.length) + x).toInt = ti * p.1 + a := by rw [add32 (by omega) (by omega), m1, hx]
    have a2 : (t * N.1 (q + 2) ((k + i) % l.length) + y).toInt = ti * p.2 + b := by rw [add32 (by omega) (by omega), m2, hy]
    have lt : ((rotL k L).take i).length = i := by rw [List.length_take]; omega
    obtain ⟨N2, d1, d2, d3, d4⟩ := add_ok (M := N) (x := t * N.1 (q + 1) ((k + i) % l.length) + x) (y := t * N.1 (q + 2) ((k + i) % l.length) + y) hr f1 (by omega) hn
    refine Or.inl ⟨(nI (i + 1), N2), ?_, rfl, ?_, f2.tr d3, d4.trans f3⟩
    · show mX5_takeMoved_B15 K R r q t x y (nI k) (nI i) N = _
      have y3 : ixA K (q + 1) 0 (nI ((k + i) % l.length)) := y1
      unfold mX5_takeMoved_B15
      repeat (first | rw [ck_t (by first | with_reducible assumption | ((with_reducible apply ixA_of); (with_reducible assumption); omega; decide) | ((with_reducible apply isAr_of); (with_reducible assumption); decide) | with_reducible exact isB_0 | with_reducible exact isB_1 | with_reducible exact isB_bI _)] | rw [bd_r (by with_reducible assumption)] | rw [bd_s] | rw [bd2_s] | rw [bd3_s] | rw [nm_s] | rw [nI_clamp (by omega)] | rw [nI_1] | rw [eN] | rw [bd_e (w1)] | rw [bd_e (d1)] | rw [if_pos (by first | with_reducible assumption | ((with_reducible refine nI_lt ?_ ?_); omega; omega) | ((with_reducible refine nI_nlt ?_ ?_); omega; omega) | with_reducible exact ne10 | with_reducible rfl)] | rw [if_neg (by first | with_reducible assumption | ((with_reducible refine nI_lt ?_ ?_); omega; omega) | ((with_reducible refine nI_nlt ?_ ?_); omega; omega) | with_reducible exact ne10 | with_reducible rfl)])
    · have : (rotL k L).take (i + 1) = (rotL k L).take i ++ [mvP ti a b p] := by
        rw [List.take_succ, hp2]; rfl
      show rgC N2 r ((rotL k L).take (i + 1))
      rw [this]
      rw [a1, a2] at d2
      exact d2
  · rintro ⟨z, N⟩ ⟨rfl, f1, f2, f3⟩
    have f1 : rgC N r ((rotL k L).take l.length) := f1
    rw [← hlen2, List.take_length] at f1
    have f2 : Fr r (r + 3) M N := f2
    have eN := (h.fr f2 (by omega)).1
    refine ⟨N, ?_, f1, f2, f3⟩
    show mX5_takeMoved_B15 K R r q t x y (nI k) (nI l.length) N = _
    unfold mX5_takeMoved_B15
    repeat (first | rw [ck_t (by first | with_reducible assumption | ((with_reducible apply ixA_of); (with_reducible assumption); omega; decide) | ((with_reducible apply isAr_of); (with_reducible assumption); decide) | with_reducible exact isB_0 | with_reducible exact isB_1 | with_reducible exact isB_bI _)] | rw [bd_r (by with_reducible assumption)] | rw [bd_s] | rw [bd2_s] | rw [bd3_s] | rw [nm_s] | rw [nI_clamp (by omega)] | rw [nI_1] | rw [eN] | rw [if_pos (by first | with_reducible assumption | ((with_reducible refine nI_lt ?_ ?_); omega; omega) | ((with_reducible refine nI_nlt ?_ ?_); omega; omega) | with_reducible exact ne10 | with_reducible rfl)] | rw [if_neg (by first | with_reducible assumption | ((with_reducible refine nI_lt ?_ ?_); omega; omega) | ((with_reducible refine nI_nlt ?_ ?_); omega; omega) | with_reducible exact ne10 | with_reducible rfl)])
    rfl
/-- the move of a well made piece is not large -/
theorem isPc.mv {P : Pc} (h : isPc P) : (-200000 ≤ P.2.2.1 ∧ P.2.2.1 ≤ 200000) ∧ (-200000 ≤ P.2.2.2.1 ∧ P.2.2.2.1 ≤ 200000) := by
  obtain ⟨⟨h1, h2, h3, h4, h5⟩, h6, h7⟩ := h
  obtain ⟨c, hc⟩ := get_ex (l := P.1) (i := 0) (by omega)
  obtain ⟨a1, a2, a3, a4⟩ := h5 0 c hc
  obtain ⟨b1, b2, b3, b4⟩ := h7 0 c hc
  unfold mvP at b1 b2 b3 b4
  simp only at b1 b2 b3 b4
  rcases h6 with e | e <;> rw [e] at b1 b2 b3 b4 <;> omega
theorem isPc.ls {P : Pc} (h : isPc P) : ∃ k, isLs (mvL P) k := by
  obtain ⟨⟨h1, h2, h3, h4, h5⟩, h6, h7⟩ := h
  refine isLs_ex (fun q => ?_) ((h3.map h6).ds (by rw [List.length_map]; exact h1))
  have : (mvL P).length = 0 := by rw [q]; rfl
  rw [List.length_map] at this
  omega
theorem placeInto_ok {q : Nat} {P : Pc} (hr : rgA K R r n) (hq : pcA K R q) (hd : r + 3 ≤ q ∨ q + 4 ≤ r) (hP : isPc P) (hn : 16 ≤ n) (hn2 : n < 2 ^ 20) (h : pcC M q P) : ∃ M', mX3_placeInto K R M q r = some M' ∧ rgC M' r (plc P) ∧ Fr r (r + 3) M M' ∧ M'.2 = M.2 := by
  obtain ⟨a0, a1, a2⟩ := hq
  obtain ⟨h1, h2, h3, h4, h5⟩ := h
  have h16 := hP.1.2.1
  have hmv := hP.mv
  obtain ⟨k, hk⟩ := hP.ls
  have h0 := hr.1
  obtain ⟨M', e1, e2⟩ := takeMoved_ok (M := M) (n := n) hr a2 (by omega) (by omega) h16 hn2 (by decide) h1 hP.1.B h2 hP.2.1 h3 h4 (by omega) (by omega) hk
  refine ⟨M', ?_, e2⟩
  unfold mX3_placeInto
  repeat (first | rw [ck_t (by first | with_reducible assumption | ((with_reducible apply ixA_of); (with_reducible assumption); omega; decide) | ((with_reducible apply isAr_of); (with_reducible assumption); decide) | with_reducible exact isB_0 | with_reducible exact isB_1 | with_reducible exact isB_bI _)] | rw [bd_r (by with_reducible assumption)] | rw [bd_s] | rw [bd2_s] | rw [bd3_s] | rw [nm_s] | rw [nI_clamp (by omega)] | rw [nI_1] | rw [bd_e (e1)] | rw [if_pos (by first | with_reducible assumption | ((with_reducible refine nI_lt ?_ ?_); omega; omega) | ((with_reducible refine nI_nlt ?_ ?_); omega; omega) | with_reducible exact ne10 | with_reducible rfl)] | rw [if_neg (by first | with_reducible assumption | ((with_reducible refine nI_lt ?_ ?_); omega; omega) | ((with_reducible refine nI_nlt ?_ ?_); omega; omega) | with_reducible exact ne10 | with_reducible rfl)])
end CR
