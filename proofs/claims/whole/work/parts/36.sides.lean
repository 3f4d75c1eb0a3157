/-! WHAT LIES WITHIN, WHAT PARTS: on both sides -/
def iv (v : Int32) (c : Prop) : Prop := (v = 1 ∧ c) ∨ (v = 0 ∧ ¬ c)
def inP (l : List Pt) (p : Pt) : Prop := ∀ (i : Nat) a b, l[i]? = some a → l[(i + 1) % l.length]? = some b → 0 ≤ crs a b p
def noL (l : List Pt) (i : Nat) (q : List Pt) : Prop := ∀ a b, l[i]? = some a → l[(i + 1) % l.length]? = some b → ∀ (j : Nat) p, q[j]? = some p → crs a b p ≤ 0
def ptsF (l q : List Pt) : Prop := ∃ i, i < l.length ∧ noL l i q
def ovr (l q : List Pt) : Prop := ¬ ptsF l q ∧ ¬ ptsF q l
theorem iv.b {v : Int32} {c : Prop} (h : iv v c) : isB v := by
  rcases h with ⟨rfl, _⟩ | ⟨rfl, _⟩
  · exact isB_1
  · exact isB_0
theorem iv.un {v w : Int32} {c : Prop} (h : iv v c) (g : iv w c) : v = w := by
  rcases h with ⟨rfl, h⟩ | ⟨rfl, h⟩ <;> rcases g with ⟨rfl, g⟩ | ⟨rfl, g⟩ <;> first | rfl | exact absurd h g | exact absurd g h
theorem iv.congr {v : Int32} {c d : Prop} (h : iv v c) (e : c ↔ d) : iv v d := by
  rcases h with ⟨h1, h⟩ | ⟨h1, h⟩
  · exact Or.inl ⟨h1, e.mp h⟩
  · exact Or.inr ⟨h1, fun q => h (e.mpr q)⟩
theorem mod_lt' {i n : Nat} (h : i < n) : (i + 1) % n < n := Nat.mod_lt _ (by omega)
section SD
variable {K : Kk} {R : Rr} {M : Mm} {r n : Nat} {l : List Pt}
theorem holds_ok {x y : Int32} (hA : rgA K R r n) (h : rgC M r l) (hl : l.length ≤ n) (hn : n < 2 ^ 20) (hB : inBs l) (hp : inB (x.toInt, y.toInt)) : ∃ v, mX5_holds K R M r x y = some v ∧ iv v (inP l (x.toInt, y.toInt)) := by
  have h0 := hA.1
  have e := h.1
  have hL := lp_ind (f := mX5_holds_L2 K R M r x y) (fun (i : Nat) (s : Int32) => s = nI i ∧ ∀ (j : Nat) a b, j < i → l[j]? = some a → l[(j + 1) % l.length]? = some b → 0 ≤ crs a b (x.toInt, y.toInt)) (fun v => iv v (inP l (x.toInt, y.toInt))) l.length ?_ ?_
  · obtain ⟨v, e1, e2⟩ := hL l.length 0 (nI 0) (by omega) ⟨rfl, fun j a b hj => absurd hj (by omega)⟩
    refine ⟨v, ?_, e2⟩
    unfold mX5_holds
    repeat (first | rw [ck_t (by first | with_reducible assumption | ((with_reducible apply ixA_of); (with_reducible assumption); omega; omega) | ((with_reducible apply isAr_of); (with_reducible assumption); decide) | ((with_reducible apply nI_ne0); omega; omega) | with_reducible exact isB_0 | with_reducible exact isB_1 | with_reducible exact isB_bI _)] | rw [bd_r (by with_reducible assumption)] | rw [bd_s] | rw [bd2_s] | rw [bd3_s] | rw [nm_s] | rw [nI_clamp (by omega)] | rw [nI_1] | rw [if_pos (by first | with_reducible assumption | ((with_reducible refine nI_lt ?_ ?_); omega; omega) | ((with_reducible refine nI_nlt ?_ ?_); omega; omega) | with_reducible exact ne10 | with_reducible rfl)] | rw [if_neg (by first | with_reducible assumption | ((with_reducible refine nI_lt ?_ ?_); omega; omega) | ((with_reducible refine nI_nlt ?_ ?_); omega; omega) | with_reducible exact ne10 | with_reducible rfl)])
    exact e1
  · rintro i s hi ⟨rfl, f⟩
    obtain ⟨a, ha⟩ := get_ex hi
    obtain ⟨b, hb⟩ := get_ex (mod_lt' hi)
    have w := wrap_ok (i := i + 1) hA h (by omega) (by omega)
    obtain ⟨v, e1, e2⟩ := sideAt_ok hA h hl hn hB ha hb hp
    show (∃ s', mX5_holds_B2 K R M r x y (nI i) = _ ∧ _) ∨ ∃ r', mX5_holds_B2 K R M r x y (nI i) = _ ∧ _
    by_cases c : v < 0
    · refine Or.inr ⟨0, ?_, Or.inr ⟨rfl, fun q => ?_⟩⟩
      · unfold mX5_holds_B2
        repeat (first | rw [ck_t (by first | with_reducible assumption | ((with_reducible apply ixA_of); (with_reducible assumption); omega; omega) | ((with_reducible apply isAr_of); (with_reducible assumption); decide) | ((with_reducible apply nI_ne0); omega; omega) | with_reducible exact isB_0 | with_reducible exact isB_1 | with_reducible exact isB_bI _)] | rw [bd_r (by with_reducible assumption)] | rw [bd_s] | rw [bd2_s] | rw [bd3_s] | rw [nm_s] | rw [nI_clamp (by omega)] | rw [nI_1] | rw [e] | rw [bd_e (w)] | rw [bd_e (e1)] | rw [if_pos (by first | with_reducible assumption | ((with_reducible refine nI_lt ?_ ?_); omega; omega) | ((with_reducible refine nI_nlt ?_ ?_); omega; omega) | with_reducible exact ne10 | with_reducible rfl)] | rw [if_neg (by first | with_reducible assumption | ((with_reducible refine nI_lt ?_ ?_); omega; omega) | ((with_reducible refine nI_nlt ?_ ?_); omega; omega) | with_reducible exact ne10 | with_reducible rfl)])
        rfl
      · have := q i a b ha hb
        rw [lt64, e2] at c
        have c : crs a b (x.toInt, y.toInt) < 0 := c
        omega
    · refine Or.inl ⟨nI (i + 1), ?_, rfl, fun j a' b' hj ha' hb' => ?_⟩
      · unfold mX5_holds_B2
        repeat (first | rw [ck_t (by first | with_reducible assumption | ((with_reducible apply ixA_of); (with_reducible assumption); omega; omega) | ((with_reducible apply isAr_of); (with_reducible assumption); decide) | ((with_reducible apply nI_ne0); omega; omega) | with_reducible exact isB_0 | with_reducible exact isB_1 | with_reducible exact isB_bI _)] | rw [bd_r (by with_reducible assumption)] | rw [bd_s] | rw [bd2_s] | rw [bd3_s] | rw [nm_s] | rw [nI_clamp (by omega)] | rw [nI_1] | rw [e] | rw [bd_e (w)] | rw [bd_e (e1)] | rw [if_pos (by first | with_reducible assumption | ((with_reducible refine nI_lt ?_ ?_); omega; omega) | ((with_reducible refine nI_nlt ?_ ?_); omega; omega) | with_reducible exact ne10 | with_reducible rfl)] | rw [if_neg (by first | with_reducible assumption | ((with_reducible refine nI_lt ?_ ?_); omega; omega) | ((with_reducible refine nI_nlt ?_ ?_); omega; omega) | with_reducible exact ne10 | with_reducible rfl)])
      · by_cases hji : j = i
        · subst hji
          rw [get_un ha' ha, get_un hb' hb]
          rw [lt64, e2] at c
          have c : ¬ crs a b (x.toInt, y.toInt) < 0 := c
          omega
        · exact f j a' b' (by omega) ha' hb'
  · rintro s ⟨rfl, f⟩
    refine ⟨1, ?_, Or.inl ⟨rfl, fun i a b ha hb => f i a b (get_lt ha) ha hb⟩⟩
    show mX5_holds_B2 K R M r x y (nI l.length) = _
    unfold mX5_holds_B2
    repeat (first | rw [ck_t (by first | with_reducible assumption | ((with_reducible apply ixA_of); (with_reducible assumption); omega; omega) | ((with_reducible apply isAr_of); (with_reducible assumption); decide) | ((with_reducible apply nI_ne0); omega; omega) | with_reducible exact isB_0 | with_reducible exact isB_1 | with_reducible exact isB_bI _)] | rw [bd_r (by with_reducible assumption)] | rw [bd_s] | rw [bd2_s] | rw [bd3_s] | rw [nm_s] | rw [nI_clamp (by omega)] | rw [nI_1] | rw [e] | rw [if_pos (by first | with_reducible assumption | ((with_reducible refine nI_lt ?_ ?_); omega; omega) | ((with_reducible refine nI_nlt ?_ ?_); omega; omega) | with_reducible exact ne10 | with_reducible rfl)] | rw [if_neg (by first | with_reducible assumption | ((with_reducible refine nI_lt ?_ ?_); omega; omega) | ((with_reducible refine nI_nlt ?_ ?_); omega; omega) | with_reducible exact ne10 | with_reducible rfl)])
    rfl
theorem isInBounds_ok (hA : rgA K R r n) (h : rgC M r l) (hl : l.length ≤ n) (hn : n < 2 ^ 20) : ∃ v, mX5_isInBounds K R M r = some v ∧ iv v (inBs l) := by
  obtain ⟨h0, h1, h2, h3, h4⟩ := hA
  have e := h.1
  have hL := lp_ind (f := mX5_isInBounds_L2 K R M r) (fun (i : Nat) (s : Int32) => s = nI i ∧ ∀ (j : Nat) a, j < i → l[j]? = some a → inB a) (fun v => iv v (inBs l)) l.length ?_ ?_
  · obtain ⟨v, e1, e2⟩ := hL l.length 0 (nI 0) (by omega) ⟨rfl, fun j a hj => absurd hj (by omega)⟩
    refine ⟨v, ?_, e2⟩
    unfold mX5_isInBounds
    repeat (first | rw [ck_t (by first | with_reducible assumption | ((with_reducible apply ixA_of); (with_reducible assumption); omega; omega) | ((with_reducible apply isAr_of); (with_reducible assumption); decide) | ((with_reducible apply nI_ne0); omega; omega) | with_reducible exact isB_0 | with_reducible exact isB_1 | with_reducible exact isB_bI _)] | rw [bd_r (by with_reducible assumption)] | rw [bd_s] | rw [bd2_s] | rw [bd3_s] | rw [nm_s] | rw [nI_clamp (by omega)] | rw [nI_1] | rw [if_pos (by first | with_reducible assumption | ((with_reducible refine nI_lt ?_ ?_); omega; omega) | ((with_reducible refine nI_nlt ?_ ?_); omega; omega) | with_reducible exact ne10 | with_reducible rfl)] | rw [if_neg (by first | with_reducible assumption | ((with_reducible refine nI_lt ?_ ?_); omega; omega) | ((with_reducible refine nI_nlt ?_ ?_); omega; omega) | with_reducible exact ne10 | with_reducible rfl)])
    exact e1
  · rintro i s hi ⟨rfl, f⟩
    obtain ⟨a, ha⟩ := get_ex hi
    have va := h.pt ha
    show (∃ s', mX5_isInBounds_B2 K R M r (nI i) = _ ∧ _) ∨ ∃ r', mX5_isInBounds_B2 K R M r (nI i) = _ ∧ _
    by_cases c : inB a
    · refine Or.inl ⟨nI (i + 1), ?_, rfl, fun j a' hj ha' => ?_⟩
      · rw [va] at c
        unfold mX5_isInBounds_B2
        repeat (first | rw [ck_t (by first | with_reducible assumption | ((with_reducible apply ixA_of); (with_reducible assumption); omega; omega) | ((with_reducible apply isAr_of); (with_reducible assumption); decide) | ((with_reducible apply nI_ne0); omega; omega) | with_reducible exact isB_0 | with_reducible exact isB_1 | with_reducible exact isB_bI _)] | rw [bd_r (by with_reducible assumption)] | rw [bd_s] | rw [bd2_s] | rw [bd3_s] | rw [nm_s] | rw [nI_clamp (by omega)] | rw [nI_1] | rw [e] | rw [bd_e (isPlace_t c)] | rw [if_pos (by first | with_reducible assumption | ((with_reducible refine nI_lt ?_ ?_); omega; omega) | ((with_reducible refine nI_nlt ?_ ?_); omega; omega) | with_reducible exact ne10 | with_reducible rfl)] | rw [if_neg (by first | with_reducible assumption | ((with_reducible refine nI_lt ?_ ?_); omega; omega) | ((with_reducible refine nI_nlt ?_ ?_); omega; omega) | with_reducible exact ne10 | with_reducible rfl)])
      · by_cases hji : j = i
        · subst hji
          rw [get_un ha' ha]; exact c
        · exact f j a' (by omega) ha'
    · refine Or.inr ⟨0, ?_, Or.inr ⟨rfl, fun q => c (q i a ha)⟩⟩
      rw [va] at c
      unfold mX5_isInBounds_B2
      repeat (first | rw [ck_t (by first | with_reducible assumption | ((with_reducible apply ixA_of); (with_reducible assumption); omega; omega) | ((with_reducible apply isAr_of); (with_reducible assumption); decide) | ((with_reducible apply nI_ne0); omega; omega) | with_reducible exact isB_0 | with_reducible exact isB_1 | with_reducible exact isB_bI _)] | rw [bd_r (by with_reducible assumption)] | rw [bd_s] | rw [bd2_s] | rw [bd3_s] | rw [nm_s] | rw [nI_clamp (by omega)] | rw [nI_1] | rw [e] | rw [bd_e (isPlace_f c)] | rw [if_pos (by first | with_reducible assumption | ((with_reducible refine nI_lt ?_ ?_); omega; omega) | ((with_reducible refine nI_nlt ?_ ?_); omega; omega) | with_reducible exact ne10 | with_reducible rfl)] | rw [if_neg (by first | with_reducible assumption | ((with_reducible refine nI_lt ?_ ?_); omega; omega) | ((with_reducible refine nI_nlt ?_ ?_); omega; omega) | with_reducible exact ne10 | with_reducible rfl)])
      rfl
  · rintro s ⟨rfl, f⟩
    refine ⟨1, ?_, Or.inl ⟨rfl, fun i a ha => f i a (get_lt ha) ha⟩⟩
    show mX5_isInBounds_B2 K R M r (nI l.length) = _
    unfold mX5_isInBounds_B2
    repeat (first | rw [ck_t (by first | with_reducible assumption | ((with_reducible apply ixA_of); (with_reducible assumption); omega; omega) | ((with_reducible apply isAr_of); (with_reducible assumption); decide) | ((with_reducible apply nI_ne0); omega; omega) | with_reducible exact isB_0 | with_reducible exact isB_1 | with_reducible exact isB_bI _)] | rw [bd_r (by with_reducible assumption)] | rw [bd_s] | rw [bd2_s] | rw [bd3_s] | rw [nm_s] | rw [nI_clamp (by omega)] | rw [nI_1] | rw [e] | rw [if_pos (by first | with_reducible assumption | ((with_reducible refine nI_lt ?_ ?_); omega; omega) | ((with_reducible refine nI_nlt ?_ ?_); omega; omega) | with_reducible exact ne10 | with_reducible rfl)] | rw [if_neg (by first | with_reducible assumption | ((with_reducible refine nI_lt ?_ ?_); omega; omega) | ((with_reducible refine nI_nlt ?_ ?_); omega; omega) | with_reducible exact ne10 | with_reducible rfl)])
    rfl
section two
variable {q n2 : Nat} {l2 : List Pt}
theorem holdsAll_ok (hA : rgA K R r n) (h : rgC M r l) (hl : l.length ≤ n) (hn : n < 2 ^ 20) (hB : inBs l) (hA2 : rgA K R q n2) (h2 : rgC M q l2) (hl2 : l2.length ≤ n2) (hn2 : n2 < 2 ^ 20) (hB2 : inBs l2) : ∃ v, mX5_holdsAll K R M r q = some v ∧ iv v (∀ (j : Nat) p, l2[j]? = some p → inP l p) := by
  obtain ⟨g0, g1, g2, g3, g4⟩ := hA2
  have h0 := hA.1
  have e := h2.1
  have hL := lp_ind (f := mX5_holdsAll_L2 K R M r q) (fun (i : Nat) (s : Int32) => s = nI i ∧ ∀ (j : Nat) p, j < i → l2[j]? = some p → inP l p) (fun v => iv v (∀ (j : Nat) p, l2[j]? = some p → inP l p)) l2.length ?_ ?_
  · obtain ⟨v, e1, e2⟩ := hL l2.length 0 (nI 0) (by omega) ⟨rfl, fun j a hj => absurd hj (by omega)⟩
    refine ⟨v, ?_, e2⟩
    unfold mX5_holdsAll
    repeat (first | rw [ck_t (by first | with_reducible assumption | ((with_reducible apply ixA_of); (with_reducible assumption); omega; omega) | ((with_reducible apply isAr_of); (with_reducible assumption); decide) | ((with_reducible apply nI_ne0); omega; omega) | with_reducible exact isB_0 | with_reducible exact isB_1 | with_reducible exact isB_bI _)] | rw [bd_r (by with_reducible assumption)] | rw [bd_s] | rw [bd2_s] | rw [bd3_s] | rw [nm_s] | rw [nI_clamp (by omega)] | rw [nI_1] | rw [if_pos (by first | with_reducible assumption | ((with_reducible refine nI_lt ?_ ?_); omega; omega) | ((with_reducible refine nI_nlt ?_ ?_); omega; omega) | with_reducible exact ne10 | with_reducible rfl)] | rw [if_neg (by first | with_reducible assumption | ((with_reducible refine nI_lt ?_ ?_); omega; omega) | ((with_reducible refine nI_nlt ?_ ?_); omega; omega) | with_reducible exact ne10 | with_reducible rfl)])
    exact e1
  · rintro i s hi ⟨rfl, f⟩
    obtain ⟨a, ha⟩ := get_ex hi
    have va := h2.pt ha
    have Ba := hB2 i a ha
    rw [va] at Ba
    obtain ⟨v, e1, e2⟩ := holds_ok hA h hl hn hB Ba
    rw [← va] at e2
    show (∃ s', mX5_holdsAll_B2 K R M r q (nI i) = _ ∧ _) ∨ ∃ r', mX5_holdsAll_B2 K R M r q (nI i) = _ ∧ _
    rcases e2 with ⟨rfl, e2⟩ | ⟨rfl, e2⟩
    · refine Or.inl ⟨nI (i + 1), ?_, rfl, fun j a' hj ha' => ?_⟩
      · unfold mX5_holdsAll_B2
        repeat (first | rw [ck_t (by first | with_reducible assumption | ((with_reducible apply ixA_of); (with_reducible assumption); omega; omega) | ((with_reducible apply isAr_of); (with_reducible assumption); decide) | ((with_reducible apply nI_ne0); omega; omega) | with_reducible exact isB_0 | with_reducible exact isB_1 | with_reducible exact isB_bI _)] | rw [bd_r (by with_reducible assumption)] | rw [bd_s] | rw [bd2_s] | rw [bd3_s] | rw [nm_s] | rw [nI_clamp (by omega)] | rw [nI_1] | rw [e] | rw [bd_e (e1)] | rw [if_pos (by first | with_reducible assumption | ((with_reducible refine nI_lt ?_ ?_); omega; omega) | ((with_reducible refine nI_nlt ?_ ?_); omega; omega) | with_reducible exact ne10 | with_reducible rfl)] | rw [if_neg (by first | with_reducible assumption | ((with_reducible refine nI_lt ?_ ?_); omega; omega) | ((with_reducible refine nI_nlt ?_ ?_); omega; omega) | with_reducible exact ne10 | with_reducible rfl)])
      · by_cases hji : j = i
        · subst hji
          rw [get_un ha' ha]; exact e2
        · exact f j a' (by omega) ha'
    · refine Or.inr ⟨0, ?_, Or.inr ⟨rfl, fun q => e2 (q i a ha)⟩⟩
      unfold mX5_holdsAll_B2
      repeat (first | rw [ck_t (by first | with_reducible assumption | ((with_reducible apply ixA_of); (with_reducible assumption); omega; omega) | ((with_reducible apply isAr_of); (with_reducible assumption); decide) | ((with_reducible apply nI_ne0); omega; omega) | with_reducible exact isB_0 | with_reducible exact isB_1 | with_reducible exact isB_bI _)] | rw [bd_r (by with_reducible assumption)] | rw [bd_s] | rw [bd2_s] | rw [bd3_s] | rw [nm_s] | rw [nI_clamp (by omega)] | rw [nI_1] | rw [e] | rw [bd_e (e1)] | rw [if_pos (by first | with_reducible assumption | ((with_reducible refine nI_lt ?_ ?_); omega; omega) | ((with_reducible refine nI_nlt ?_ ?_); omega; omega) | with_reducible exact ne10 | with_reducible rfl)] | rw [if_neg (by first | with_reducible assumption | ((with_reducible refine nI_lt ?_ ?_); omega; omega) | ((with_reducible refine nI_nlt ?_ ?_); omega; omega) | with_reducible exact ne10 | with_reducible rfl)])
      rfl
  · rintro s ⟨rfl, f⟩
    refine ⟨1, ?_, Or.inl ⟨rfl, fun i a ha => f i a (get_lt ha) ha⟩⟩
    show mX5_holdsAll_B2 K R M r q (nI l2.length) = _
    unfold mX5_holdsAll_B2
    repeat (first | rw [ck_t (by first | with_reducible assumption | ((with_reducible apply ixA_of); (with_reducible assumption); omega; omega) | ((with_reducible apply isAr_of); (with_reducible assumption); decide) | ((with_reducible apply nI_ne0); omega; omega) | with_reducible exact isB_0 | with_reducible exact isB_1 | with_reducible exact isB_bI _)] | rw [bd_r (by with_reducible assumption)] | rw [bd_s] | rw [bd2_s] | rw [bd3_s] | rw [nm_s] | rw [nI_clamp (by omega)] | rw [nI_1] | rw [e] | rw [if_pos (by first | with_reducible assumption | ((with_reducible refine nI_lt ?_ ?_); omega; omega) | ((with_reducible refine nI_nlt ?_ ?_); omega; omega) | with_reducible exact ne10 | with_reducible rfl)] | rw [if_neg (by first | with_reducible assumption | ((with_reducible refine nI_lt ?_ ?_); omega; omega) | ((with_reducible refine nI_nlt ?_ ?_); omega; omega) | with_reducible exact ne10 | with_reducible rfl)])
    rfl
theorem isNoneLeft_ok {i : Nat} (hA : rgA K R r n) (h : rgC M r l) (hl : l.length ≤ n) (hn : n < 2 ^ 20) (hB : inBs l) (hA2 : rgA K R q n2) (h2 : rgC M q l2) (hl2 : l2.length ≤ n2) (hn2 : n2 < 2 ^ 20) (hB2 : inBs l2) (hi : i < l.length) : ∃ v, mX5_isNoneLeftOfSide K R M r (nI i) q = some v ∧ iv v (noL l i l2) := by
  obtain ⟨g0, g1, g2, g3, g4⟩ := hA2
  have h0 := hA.1
  have e := h2.1
  obtain ⟨a, ha⟩ := get_ex hi
  obtain ⟨b, hb⟩ := get_ex (mod_lt' hi)
  have w := wrap_ok (i := i + 1) hA h (by omega) (by omega)
  have hL := lp_ind (f := mX5_isNoneLeftOfSide_L11 K R M r (nI i) q (nI ((i + 1) % l.length))) (fun (k : Nat) (s : Int32) => s = nI k ∧ ∀ (j : Nat) p, j < k → l2[j]? = some p → crs a b p ≤ 0) (fun v => iv v (noL l i l2)) l2.length ?_ ?_
  · obtain ⟨v, e1, e2⟩ := hL l2.length 0 (nI 0) (by omega) ⟨rfl, fun j a hj => absurd hj (by omega)⟩
    refine ⟨v, ?_, e2⟩
    unfold mX5_isNoneLeftOfSide
    repeat (first | rw [ck_t (by first | with_reducible assumption | ((with_reducible apply ixA_of); (with_reducible assumption); omega; omega) | ((with_reducible apply isAr_of); (with_reducible assumption); decide) | ((with_reducible apply nI_ne0); omega; omega) | with_reducible exact isB_0 | with_reducible exact isB_1 | with_reducible exact isB_bI _)] | rw [bd_r (by with_reducible assumption)] | rw [bd_s] | rw [bd2_s] | rw [bd3_s] | rw [nm_s] | rw [nI_clamp (by omega)] | rw [nI_1] | rw [bd_e (w)] | rw [if_pos (by first | with_reducible assumption | ((with_reducible refine nI_lt ?_ ?_); omega; omega) | ((with_reducible refine nI_nlt ?_ ?_); omega; omega) | with_reducible exact ne10 | with_reducible rfl)] | rw [if_neg (by first | with_reducible assumption | ((with_reducible refine nI_lt ?_ ?_); omega; omega) | ((with_reducible refine nI_nlt ?_ ?_); omega; omega) | with_reducible exact ne10 | with_reducible rfl)])
    exact e1
  · rintro k s hk ⟨rfl, f⟩
    obtain ⟨p, hp⟩ := get_ex hk
    have vp := h2.pt hp
    have Bp := hB2 k p hp
    rw [vp] at Bp
    obtain ⟨v, e1, e2⟩ := sideAt_ok hA h hl hn hB ha hb Bp
    rw [← vp] at e2
    show (∃ s', mX5_isNoneLeftOfSide_B11 K R M r (nI i) q (nI ((i + 1) % l.length)) (nI k) = _ ∧ _) ∨ ∃ r', mX5_isNoneLeftOfSide_B11 K R M r (nI i) q (nI ((i + 1) % l.length)) (nI k) = _ ∧ _
    by_cases c : v ≤ 0
    · refine Or.inl ⟨nI (k + 1), ?_, rfl, fun j p' hj hp' => ?_⟩
      · unfold mX5_isNoneLeftOfSide_B11
        repeat (first | rw [ck_t (by first | with_reducible assumption | ((with_reducible apply ixA_of); (with_reducible assumption); omega; omega) | ((with_reducible apply isAr_of); (with_reducible assumption); decide) | ((with_reducible apply nI_ne0); omega; omega) | with_reducible exact isB_0 | with_reducible exact isB_1 | with_reducible exact isB_bI _)] | rw [bd_r (by with_reducible assumption)] | rw [bd_s] | rw [bd2_s] | rw [bd3_s] | rw [nm_s] | rw [nI_clamp (by omega)] | rw [nI_1] | rw [e] | rw [bd_e (e1)] | rw [if_pos (by first | with_reducible assumption | ((with_reducible refine nI_lt ?_ ?_); omega; omega) | ((with_reducible refine nI_nlt ?_ ?_); omega; omega) | with_reducible exact ne10 | with_reducible rfl)] | rw [if_neg (by first | with_reducible assumption | ((with_reducible refine nI_lt ?_ ?_); omega; omega) | ((with_reducible refine nI_nlt ?_ ?_); omega; omega) | with_reducible exact ne10 | with_reducible rfl)])
      · by_cases hji : j = k
        · subst hji
          rw [get_un hp' hp]
          rw [le64, e2] at c
          exact c
        · exact f j p' (by omega) hp'
    · refine Or.inr ⟨0, ?_, Or.inr ⟨rfl, fun z => ?_⟩⟩
      · unfold mX5_isNoneLeftOfSide_B11
        repeat (first | rw [ck_t (by first | with_reducible assumption | ((with_reducible apply ixA_of); (with_reducible assumption); omega; omega) | ((with_reducible apply isAr_of); (with_reducible assumption); decide) | ((with_reducible apply nI_ne0); omega; omega) | with_reducible exact isB_0 | with_reducible exact isB_1 | with_reducible exact isB_bI _)] | rw [bd_r (by with_reducible assumption)] | rw [bd_s] | rw [bd2_s] | rw [bd3_s] | rw [nm_s] | rw [nI_clamp (by omega)] | rw [nI_1] | rw [e] | rw [bd_e (e1)] | rw [if_pos (by first | with_reducible assumption | ((with_reducible refine nI_lt ?_ ?_); omega; omega) | ((with_reducible refine nI_nlt ?_ ?_); omega; omega) | with_reducible exact ne10 | with_reducible rfl)] | rw [if_neg (by first | with_reducible assumption | ((with_reducible refine nI_lt ?_ ?_); omega; omega) | ((with_reducible refine nI_nlt ?_ ?_); omega; omega) | with_reducible exact ne10 | with_reducible rfl)])
        rfl
      · rw [le64, e2] at c
        exact c (z a b ha hb k p hp)
  · rintro s ⟨rfl, f⟩
    refine ⟨1, ?_, Or.inl ⟨rfl, fun a' b' ha' hb' j p hp => ?_⟩⟩
    · show mX5_isNoneLeftOfSide_B11 K R M r (nI i) q (nI ((i + 1) % l.length)) (nI l2.length) = _
      unfold mX5_isNoneLeftOfSide_B11
      repeat (first | rw [ck_t (by first | with_reducible assumption | ((with_reducible apply ixA_of); (with_reducible assumption); omega; omega) | ((with_reducible apply isAr_of); (with_reducible assumption); decide) | ((with_reducible apply nI_ne0); omega; omega) | with_reducible exact isB_0 | with_reducible exact isB_1 | with_reducible exact isB_bI _)] | rw [bd_r (by with_reducible assumption)] | rw [bd_s] | rw [bd2_s] | rw [bd3_s] | rw [nm_s] | rw [nI_clamp (by omega)] | rw [nI_1] | rw [e] | rw [if_pos (by first | with_reducible assumption | ((with_reducible refine nI_lt ?_ ?_); omega; omega) | ((with_reducible refine nI_nlt ?_ ?_); omega; omega) | with_reducible exact ne10 | with_reducible rfl)] | rw [if_neg (by first | with_reducible assumption | ((with_reducible refine nI_lt ?_ ?_); omega; omega) | ((with_reducible refine nI_nlt ?_ ?_); omega; omega) | with_reducible exact ne10 | with_reducible rfl)])
      rfl
    · rw [get_un ha' ha, get_un hb' hb]
      exact f j p (get_lt hp) hp
theorem hasSide_ok (hA : rgA K R r n) (h : rgC M r l) (hl : l.length ≤ n) (hn : n < 2 ^ 20) (hB : inBs l) (hA2 : rgA K R q n2) (h2 : rgC M q l2) (hl2 : l2.length ≤ n2) (hn2 : n2 < 2 ^ 20) (hB2 : inBs l2) : ∃ v, mX5_hasSidePartingFrom K R M r q = some v ∧ iv v (ptsF l l2) := by
  have h0 := hA.1
  have g0 := hA2.1
  have e := h.1
  have hL := lp_ind (f := mX5_hasSidePartingFrom_L2 K R M r q) (fun (i : Nat) (s : Int32) => s = nI i ∧ ∀ (j : Nat), j < i → ¬ noL l j l2) (fun v => iv v (ptsF l l2)) l.length ?_ ?_
  · obtain ⟨v, e1, e2⟩ := hL l.length 0 (nI 0) (by omega) ⟨rfl, fun j hj => absurd hj (by omega)⟩
    refine ⟨v, ?_, e2⟩
    unfold mX5_hasSidePartingFrom
    repeat (first | rw [ck_t (by first | with_reducible assumption | ((with_reducible apply ixA_of); (with_reducible assumption); omega; omega) | ((with_reducible apply isAr_of); (with_reducible assumption); decide) | ((with_reducible apply nI_ne0); omega; omega) | with_reducible exact isB_0 | with_reducible exact isB_1 | with_reducible exact isB_bI _)] | rw [bd_r (by with_reducible assumption)] | rw [bd_s] | rw [bd2_s] | rw [bd3_s] | rw [nm_s] | rw [nI_clamp (by omega)] | rw [nI_1] | rw [if_pos (by first | with_reducible assumption | ((with_reducible refine nI_lt ?_ ?_); omega; omega) | ((with_reducible refine nI_nlt ?_ ?_); omega; omega) | with_reducible exact ne10 | with_reducible rfl)] | rw [if_neg (by first | with_reducible assumption | ((with_reducible refine nI_lt ?_ ?_); omega; omega) | ((with_reducible refine nI_nlt ?_ ?_); omega; omega) | with_reducible exact ne10 | with_reducible rfl)])
    exact e1
  · rintro i s hi ⟨rfl, f⟩
    obtain ⟨v, e1, e2⟩ := isNoneLeft_ok hA h hl hn hB hA2 h2 hl2 hn2 hB2 hi
    show (∃ s', mX5_hasSidePartingFrom_B2 K R M r q (nI i) = _ ∧ _) ∨ ∃ r', mX5_hasSidePartingFrom_B2 K R M r q (nI i) = _ ∧ _
    rcases e2 with ⟨rfl, e2⟩ | ⟨rfl, e2⟩
    · refine Or.inr ⟨1, ?_, Or.inl ⟨rfl, i, hi, e2⟩⟩
      unfold mX5_hasSidePartingFrom_B2
      repeat (first | rw [ck_t (by first | with_reducible assumption | ((with_reducible apply ixA_of); (with_reducible assumption); omega; omega) | ((with_reducible apply isAr_of); (with_reducible assumption); decide) | ((with_reducible apply nI_ne0); omega; omega) | with_reducible exact isB_0 | with_reducible exact isB_1 | with_reducible exact isB_bI _)] | rw [bd_r (by with_reducible assumption)] | rw [bd_s] | rw [bd2_s] | rw [bd3_s] | rw [nm_s] | rw [nI_clamp (by omega)] | rw [nI_1] | rw [e] | rw [bd_e (e1)] | rw [if_pos (by first | with_reducible assumption | ((with_reducible refine nI_lt ?_ ?_); omega; omega) | ((with_reducible refine nI_nlt ?_ ?_); omega; omega) | with_reducible exact ne10 | with_reducible rfl)] | rw [if_neg (by first | with_reducible assumption | ((with_reducible refine nI_lt ?_ ?_); omega; omega) | ((with_reducible refine nI_nlt ?_ ?_); omega; omega) | with_reducible exact ne10 | with_reducible rfl)])
      rfl
    · refine Or.inl ⟨nI (i + 1), ?_, rfl, fun j hj => ?_⟩
      · unfold mX5_hasSidePartingFrom_B2
        repeat (first | rw [ck_t (by first | with_reducible assumption | ((with_reducible apply ixA_of); (with_reducible assumption); omega; omega) | ((with_reducible apply isAr_of); (with_reducible assumption); decide) | ((with_reducible apply nI_ne0); omega; omega) | with_reducible exact isB_0 | with_reducible exact isB_1 | with_reducible exact isB_bI _)] | rw [bd_r (by with_reducible assumption)] | rw [bd_s] | rw [bd2_s] | rw [bd3_s] | rw [nm_s] | rw [nI_clamp (by omega)] | rw [nI_1] | rw [e] | rw [bd_e (e1)] | rw [if_pos (by first | with_reducible assumption | ((with_reducible refine nI_lt ?_ ?_); omega; omega) | ((with_reducible refine nI_nlt ?_ ?_); omega; omega) | with_reducible exact ne10 | with_reducible rfl)] | rw [if_neg (by first | with_reducible assumption | ((with_reducible refine nI_lt ?_ ?_); omega; omega) | ((with_reducible refine nI_nlt ?_ ?_); omega; omega) | with_reducible exact ne10 | with_reducible rfl)])
      · by_cases hji : j = i
        · subst hji; exact e2
        · exact f j (by omega)
  · rintro s ⟨rfl, f⟩
    refine ⟨0, ?_, Or.inr ⟨rfl, fun ⟨i, hi, z⟩ => f i hi z⟩⟩
    show mX5_hasSidePartingFrom_B2 K R M r q (nI l.length) = _
    unfold mX5_hasSidePartingFrom_B2
    repeat (first | rw [ck_t (by first | with_reducible assumption | ((with_reducible apply ixA_of); (with_reducible assumption); omega; omega) | ((with_reducible apply isAr_of); (with_reducible assumption); decide) | ((with_reducible apply nI_ne0); omega; omega) | with_reducible exact isB_0 | with_reducible exact isB_1 | with_reducible exact isB_bI _)] | rw [bd_r (by with_reducible assumption)] | rw [bd_s] | rw [bd2_s] | rw [bd3_s] | rw [nm_s] | rw [nI_clamp (by omega)] | rw [nI_1] | rw [e] | rw [if_pos (by first | with_reducible assumption | ((with_reducible refine nI_lt ?_ ?_); omega; omega) | ((with_reducible refine nI_nlt ?_ ?_); omega; omega) | with_reducible exact ne10 | with_reducible rfl)] | rw [if_neg (by first | with_reducible assumption | ((with_reducible refine nI_lt ?_ ?_); omega; omega) | ((with_reducible refine nI_nlt ?_ ?_); omega; omega) | with_reducible exact ne10 | with_reducible rfl)])
    rfl
theorem liesOver_ok (hA : rgA K R r n) (h : rgC M r l) (hl : l.length ≤ n) (hn : n < 2 ^ 20) (hB : inBs l) (hA2 : rgA K R q n2) (h2 : rgC M q l2) (hl2 : l2.length ≤ n2) (hn2 : n2 < 2 ^ 20) (hB2 : inBs l2) : ∃ v, mX5_liesOver K R M r q = some v ∧ iv v (ovr l l2) := by
  have h0 := hA.1
  have g0 := hA2.1
  obtain ⟨v, e1, e2⟩ := hasSide_ok hA h hl hn hB hA2 h2 hl2 hn2 hB2
  obtain ⟨w, d1, d2⟩ := hasSide_ok hA2 h2 hl2 hn2 hB2 hA h hl hn hB
  unfold mX5_liesOver
  repeat (first | rw [ck_t (by first | with_reducible assumption | ((with_reducible apply ixA_of); (with_reducible assumption); omega; omega) | ((with_reducible apply isAr_of); (with_reducible assumption); decide) | ((with_reducible apply nI_ne0); omega; omega) | with_reducible exact isB_0 | with_reducible exact isB_1 | with_reducible exact isB_bI _)] | rw [bd_r (by with_reducible assumption)] | rw [bd_s] | rw [bd2_s] | rw [bd3_s] | rw [nm_s] | rw [nI_clamp (by omega)] | rw [nI_1] | rw [bd_e (e1)] | rw [if_pos (by first | with_reducible assumption | ((with_reducible refine nI_lt ?_ ?_); omega; omega) | ((with_reducible refine nI_nlt ?_ ?_); omega; omega) | with_reducible exact ne10 | with_reducible rfl)] | rw [if_neg (by first | with_reducible assumption | ((with_reducible refine nI_lt ?_ ?_); omega; omega) | ((with_reducible refine nI_nlt ?_ ?_); omega; omega) | with_reducible exact ne10 | with_reducible rfl)])
  rcases e2 with ⟨rfl, e2⟩ | ⟨rfl, e2⟩
  · exact ⟨0, by rw [if_neg ne10], Or.inr ⟨rfl, fun z => z.1 e2⟩⟩
  · rw [if_pos rfl, bd_e d1]
    rcases d2 with ⟨rfl, d2⟩ | ⟨rfl, d2⟩
    · exact ⟨0, by rw [if_neg ne10], Or.inr ⟨rfl, fun z => z.2 d2⟩⟩
    · exact ⟨1, by rw [if_pos rfl], Or.inl ⟨rfl, e2, d2⟩⟩
end two
end SD
