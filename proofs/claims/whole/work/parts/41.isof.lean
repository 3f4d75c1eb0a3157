/-! isOf, about -/
def slab (l : List Pt) : Prop := l.length = 4 ∧ (gp l 1).1 - (gp l 0).1 = (gp l 2).1 - (gp l 3).1 ∧ (gp l 1).2 - (gp l 0).2 = (gp l 2).2 - (gp l 3).2
def upi (l : List Pt) (i : Nat) : Prop := (gp l i).1 = (gp l ((i + 1) % l.length)).1 ∨ (gp l i).2 = (gp l ((i + 1) % l.length)).2
def upr (l : List Pt) : Prop := ∀ i, i < l.length → upi l i
theorem slab_rot {l : List Pt} {k : Nat} (hk : k < l.length) (h : slab l) : slab (rotL k l) := by
  obtain ⟨h1, h2, h3⟩ := h
  refine ⟨by rw [rotL_len]; exact h1, ?_⟩
  rw [gp_rot hk (by omega), gp_rot hk (by omega), gp_rot hk (by omega), gp_rot hk (by omega), h1]
  rw [h1] at hk
  match k, hk with
  | 0, _ => exact ⟨h2, h3⟩
  | 1, _ => show _ - (gp l 1).1 = (gp l 3).1 - (gp l 0).1 ∧ (gp l 2).2 - (gp l 1).2 = (gp l 3).2 - (gp l 0).2; show (gp l 2).1 - _ = _ ∧ _; omega
  | 2, _ => show (gp l 3).1 - (gp l 2).1 = (gp l 0).1 - (gp l 1).1 ∧ (gp l 3).2 - (gp l 2).2 = (gp l 0).2 - (gp l 1).2; omega
  | 3, _ => show (gp l 0).1 - (gp l 3).1 = (gp l 1).1 - (gp l 2).1 ∧ (gp l 0).2 - (gp l 3).2 = (gp l 1).2 - (gp l 2).2; omega
theorem rot_rot {l : List Pt} {k : Nat} (hk : k < l.length) : ∃ j, j < l.length ∧ rotL j (rotL k l) = l := by
  by_cases h0 : k = 0
  · exact ⟨0, by omega, by rw [h0, rotL_0, rotL_0]⟩
  · refine ⟨l.length - k, by omega, ?_⟩
    unfold rotL
    have e : (l.drop k).length = l.length - k := List.length_drop
    rw [List.drop_left' e, List.take_left' e, List.take_append_drop]
theorem slab_rot_iff {l : List Pt} {k : Nat} (hk : k < l.length) : slab (rotL k l) ↔ slab l := by
  refine ⟨fun h => ?_, slab_rot hk⟩
  obtain ⟨j, hj, e⟩ := rot_rot hk
  have := slab_rot (l := rotL k l) (k := j) (by rw [rotL_len]; exact hj) h
  rwa [e] at this
theorem slab_map {l : List Pt} {t a b : Int} (ht : t = 1 ∨ t = -1) : slab (l.map (mvP t a b)) ↔ slab l := by
  unfold slab
  rw [List.length_map]
  constructor
  · rintro ⟨h1, h2, h3⟩
    refine ⟨h1, ?_⟩
    rw [gp_map (by omega), gp_map (by omega), gp_map (by omega), gp_map (by omega)] at h2 h3
    unfold mvP at h2 h3
    simp only at h2 h3
    rcases ht with rfl | rfl <;> omega
  · rintro ⟨h1, h2, h3⟩
    refine ⟨h1, ?_⟩
    rw [gp_map (by omega), gp_map (by omega), gp_map (by omega), gp_map (by omega)]
    unfold mvP
    simp only
    rcases ht with rfl | rfl <;> omega
theorem upr_rot {l : List Pt} {k : Nat} (hk : k < l.length) (h : upr l) : upr (rotL k l) := by
  intro i hi
  rw [rotL_len] at hi
  have := h ((k + i) % l.length) (Nat.mod_lt _ (by omega))
  unfold upi at this ⊢
  rw [rotL_len, gp_rot hk hi, gp_rot hk (mod_lt' hi), Nat.add_mod_mod, ← Nat.add_assoc]
  rw [Nat.mod_add_mod] at this
  exact this
theorem upr_rot_iff {l : List Pt} {k : Nat} (hk : k < l.length) : upr (rotL k l) ↔ upr l := by
  refine ⟨fun h => ?_, upr_rot hk⟩
  obtain ⟨j, hj, e⟩ := rot_rot hk
  have := upr_rot (l := rotL k l) (k := j) (by rw [rotL_len]; exact hj) h
  rwa [e] at this
theorem upi_map {l : List Pt} {t a b : Int} {i : Nat} (ht : t = 1 ∨ t = -1) (hi : i < l.length) : upi (l.map (mvP t a b)) i ↔ upi l i := by
  unfold upi
  rw [List.length_map, gp_map hi, gp_map (mod_lt' hi)]
  unfold mvP
  simp only
  rcases ht with rfl | rfl <;> omega
theorem upr_map {l : List Pt} {t a b : Int} (ht : t = 1 ∨ t = -1) : upr (l.map (mvP t a b)) ↔ upr l := by
  unfold upr
  rw [List.length_map]
  exact ⟨fun h i hi => (upi_map ht hi).mp (h i hi), fun h i hi => (upi_map ht hi).mpr (h i hi)⟩
theorem slab_plc {P : Pc} (h : isPc P) : slab (plc P) ↔ slab P.1 := by
  obtain ⟨k, hk⟩ := h.ls
  rw [show plc P = norm (mvL P) from rfl, norm_of hk, slab_rot_iff (isLs_lt hk), slab_map h.2.1]
theorem upr_plc {P : Pc} (h : isPc P) : upr (plc P) ↔ upr P.1 := by
  obtain ⟨k, hk⟩ := h.ls
  rw [show plc P = norm (mvL P) from rfl, norm_of hk, upr_rot_iff (isLs_lt hk), upr_map h.2.1]
/-- of a slab two sides show whether it is upright -/
theorem slab_up {l : List Pt} (h : slab l) : upr l ↔ upi l 0 ∧ upi l 1 := by
  obtain ⟨h1, h2, h3⟩ := h
  refine ⟨fun h => ⟨h 0 (by omega), h 1 (by omega)⟩, fun ⟨a, b⟩ i hi => ?_⟩
  unfold upi at a b ⊢
  rw [h1] at a b hi ⊢
  match i, hi with
  | 0, _ => exact a
  | 1, _ => exact b
  | 2, _ =>
    have a : (gp l 0).1 = (gp l 1).1 ∨ (gp l 0).2 = (gp l 1).2 := a
    show (gp l 2).1 = (gp l 3).1 ∨ (gp l 2).2 = (gp l 3).2
    omega
  | 3, _ =>
    have b : (gp l 1).1 = (gp l 2).1 ∨ (gp l 1).2 = (gp l 2).2 := b
    show (gp l 3).1 = (gp l 0).1 ∨ (gp l 3).2 = (gp l 0).2
    omega
section ISO
variable {K : Kk} {R : Rr} {M : Mm}
theorem slabC_ok {r n : Nat} {l : List Pt} (hA : rgA K R r n) (h : rgC M r l) (hl : l.length ≤ n) (hn : n < 2 ^ 20) (hB : inBs l) : ∃ v, mX5_isSlab K R M r = some v ∧ iv v (slab l) := by
  obtain ⟨h0, h1, h2, h3, h4⟩ := hA
  have e := h.1
  unfold mX5_isSlab
  by_cases c4 : l.length = 4
  · have e4 : M.1 r 2 = 4 := by rw [e, c4]; rfl
    have x : ∀ k, k < 4 → ixA K (r + 1) 0 (nI k) ∧ ixA K (r + 2) 0 (nI k) := fun k hk => ⟨ixA_of h3 (by omega) (by omega), ixA_of h4 (by omega) (by omega)⟩
    have x0 : ixA K (r + 1) 0 0 := (x 0 (by omega)).1
    have x1 : ixA K (r + 1) 0 1 := (x 1 (by omega)).1
    have x2 : ixA K (r + 1) 0 2 := (x 2 (by omega)).1
    have x3 : ixA K (r + 1) 0 3 := (x 3 (by omega)).1
    have y0 : ixA K (r + 2) 0 0 := (x 0 (by omega)).2
    have y1 : ixA K (r + 2) 0 1 := (x 1 (by omega)).2
    have y2 : ixA K (r + 2) 0 2 := (x 2 (by omega)).2
    have y3 : ixA K (r + 2) 0 3 := (x 3 (by omega)).2
    have df : ∀ i j, i < 4 → j < 4 → (M.1 (r + 1) i - M.1 (r + 1) j).toInt = (gp l i).1 - (gp l j).1 ∧ (M.1 (r + 2) i - M.1 (r + 2) j).toInt = (gp l i).2 - (gp l j).2 := fun i j hi hj => by
      have gi := gp_get (l := l) (i := i) (by omega)
      have gj := gp_get (l := l) (i := j) (by omega)
      obtain ⟨a1, a2⟩ := h.2 _ _ gi
      obtain ⟨b1, b2⟩ := h.2 _ _ gj
      obtain ⟨u1, u2, u3, u4⟩ := hB _ _ gi
      obtain ⟨v1, v2, v3, v4⟩ := hB _ _ gj
      exact ⟨by rw [sub32 (by omega) (by omega), a1, b1], by rw [sub32 (by omega) (by omega), a2, b2]⟩
    have d1 : (M.1 (r + 1) 1 - M.1 (r + 1) 0 = M.1 (r + 1) 2 - M.1 (r + 1) 3) ↔ (gp l 1).1 - (gp l 0).1 = (gp l 2).1 - (gp l 3).1 := by
      rw [eq32, (df 1 0 (by omega) (by omega)).1, (df 2 3 (by omega) (by omega)).1]
    have d2 : (M.1 (r + 2) 1 - M.1 (r + 2) 0 = M.1 (r + 2) 2 - M.1 (r + 2) 3) ↔ (gp l 1).2 - (gp l 0).2 = (gp l 2).2 - (gp l 3).2 := by
      rw [eq32, (df 1 0 (by omega) (by omega)).2, (df 2 3 (by omega) (by omega)).2]
    (repeat (first | rw [ck_t (by first | with_reducible assumption | ((with_reducible apply ixA_of); (with_reducible assumption); omega; omega) | ((with_reducible apply isAr_of); (with_reducible assumption); decide) | ((with_reducible apply nI_ne0); omega; omega) | with_reducible exact isB_0 | with_reducible exact isB_1 | with_reducible exact isB_bI _)] | rw [bd_r (by with_reducible assumption)] | rw [bd_s] | rw [bd2_s] | rw [bd3_s] | rw [nm_s] | rw [nI_clamp (by omega)] | rw [nI_1] | rw [if_pos (by first | with_reducible assumption | ((with_reducible refine nI_lt ?_ ?_); omega; omega) | ((with_reducible refine nI_nlt ?_ ?_); omega; omega) | with_reducible exact ne10 | with_reducible rfl)] | rw [if_neg (by first | with_reducible assumption | ((with_reducible refine nI_lt ?_ ?_); omega; omega) | ((with_reducible refine nI_nlt ?_ ?_); omega; omega) | with_reducible exact ne10 | with_reducible rfl)]))
    by_cases c1 : M.1 (r + 1) 1 - M.1 (r + 1) 0 = M.1 (r + 1) 2 - M.1 (r + 1) 3
    · by_cases c2 : M.1 (r + 2) 1 - M.1 (r + 2) 0 = M.1 (r + 2) 2 - M.1 (r + 2) 3
      · (repeat (first | rw [ck_t (by first | with_reducible assumption | ((with_reducible apply ixA_of); (with_reducible assumption); omega; omega) | ((with_reducible apply isAr_of); (with_reducible assumption); decide) | ((with_reducible apply nI_ne0); omega; omega) | with_reducible exact isB_0 | with_reducible exact isB_1 | with_reducible exact isB_bI _)] | rw [bd_r (by with_reducible assumption)] | rw [bd_s] | rw [bd2_s] | rw [bd3_s] | rw [nm_s] | rw [nI_clamp (by omega)] | rw [nI_1] | rw [if_pos (by first | with_reducible assumption | ((with_reducible refine nI_lt ?_ ?_); omega; omega) | ((with_reducible refine nI_nlt ?_ ?_); omega; omega) | with_reducible exact ne10 | with_reducible rfl)] | rw [if_neg (by first | with_reducible assumption | ((with_reducible refine nI_lt ?_ ?_); omega; omega) | ((with_reducible refine nI_nlt ?_ ?_); omega; omega) | with_reducible exact ne10 | with_reducible rfl)]))
        exact ⟨1, rfl, Or.inl ⟨rfl, c4, d1.mp c1, d2.mp c2⟩⟩
      · (repeat (first | rw [ck_t (by first | with_reducible assumption | ((with_reducible apply ixA_of); (with_reducible assumption); omega; omega) | ((with_reducible apply isAr_of); (with_reducible assumption); decide) | ((with_reducible apply nI_ne0); omega; omega) | with_reducible exact isB_0 | with_reducible exact isB_1 | with_reducible exact isB_bI _)] | rw [bd_r (by with_reducible assumption)] | rw [bd_s] | rw [bd2_s] | rw [bd3_s] | rw [nm_s] | rw [nI_clamp (by omega)] | rw [nI_1] | rw [if_pos (by first | with_reducible assumption | ((with_reducible refine nI_lt ?_ ?_); omega; omega) | ((with_reducible refine nI_nlt ?_ ?_); omega; omega) | with_reducible exact ne10 | with_reducible rfl)] | rw [if_neg (by first | with_reducible assumption | ((with_reducible refine nI_lt ?_ ?_); omega; omega) | ((with_reducible refine nI_nlt ?_ ?_); omega; omega) | with_reducible exact ne10 | with_reducible rfl)]))
        exact ⟨0, rfl, Or.inr ⟨rfl, fun z => c2 (d2.mpr z.2.2)⟩⟩
    · (repeat (first | rw [ck_t (by first | with_reducible assumption | ((with_reducible apply ixA_of); (with_reducible assumption); omega; omega) | ((with_reducible apply isAr_of); (with_reducible assumption); decide) | ((with_reducible apply nI_ne0); omega; omega) | with_reducible exact isB_0 | with_reducible exact isB_1 | with_reducible exact isB_bI _)] | rw [bd_r (by with_reducible assumption)] | rw [bd_s] | rw [bd2_s] | rw [bd3_s] | rw [nm_s] | rw [nI_clamp (by omega)] | rw [nI_1] | rw [if_pos (by first | with_reducible assumption | ((with_reducible refine nI_lt ?_ ?_); omega; omega) | ((with_reducible refine nI_nlt ?_ ?_); omega; omega) | with_reducible exact ne10 | with_reducible rfl)] | rw [if_neg (by first | with_reducible assumption | ((with_reducible refine nI_lt ?_ ?_); omega; omega) | ((with_reducible refine nI_nlt ?_ ?_); omega; omega) | with_reducible exact ne10 | with_reducible rfl)]))
      exact ⟨0, rfl, Or.inr ⟨rfl, fun z => c1 (d1.mpr z.2.1)⟩⟩
  · have e4 : ¬ M.1 r 2 = 4 := by rw [e]; exact fun q => c4 ((nI_eq (by omega) (by decide : 4 < 2 ^ 31)).mp q)
    (repeat (first | rw [ck_t (by first | with_reducible assumption | ((with_reducible apply ixA_of); (with_reducible assumption); omega; omega) | ((with_reducible apply isAr_of); (with_reducible assumption); decide) | ((with_reducible apply nI_ne0); omega; omega) | with_reducible exact isB_0 | with_reducible exact isB_1 | with_reducible exact isB_bI _)] | rw [bd_r (by with_reducible assumption)] | rw [bd_s] | rw [bd2_s] | rw [bd3_s] | rw [nm_s] | rw [nI_clamp (by omega)] | rw [nI_1] | rw [if_pos (by first | with_reducible assumption | ((with_reducible refine nI_lt ?_ ?_); omega; omega) | ((with_reducible refine nI_nlt ?_ ?_); omega; omega) | with_reducible exact ne10 | with_reducible rfl)] | rw [if_neg (by first | with_reducible assumption | ((with_reducible refine nI_lt ?_ ?_); omega; omega) | ((with_reducible refine nI_nlt ?_ ?_); omega; omega) | with_reducible exact ne10 | with_reducible rfl)]))
    exact ⟨0, rfl, Or.inr ⟨rfl, fun z => c4 z.1⟩⟩
theorem goes_ok {r n i : Nat} {l : List Pt} {x : Int32} (hA : rgA K R r n) (h : rgC M r l) (hl : l.length ≤ n) (hn : n < 2 ^ 20) (hi : i < l.length) (hx : x = nI i) : ∃ v, mX5_goesAlongOrUp K R M r x = some v ∧ iv v (upi l i) := by
  subst hx
  obtain ⟨h0, h1, h2, h3, h4⟩ := hA
  have hA : rgA K R r n := ⟨h0, h1, h2, h3, h4⟩
  have hj := mod_lt' hi
  have w := wrap_ok (i := i + 1) hA h (by omega) (by omega)
  have pi := h.pt (gp_get hi)
  have pj := h.pt (gp_get hj)
  have d1 : M.1 (r + 1) i = M.1 (r + 1) ((i + 1) % l.length) ↔ (gp l i).1 = (gp l ((i + 1) % l.length)).1 := by rw [eq32, pi, pj]
  have d2 : M.1 (r + 2) i = M.1 (r + 2) ((i + 1) % l.length) ↔ (gp l i).2 = (gp l ((i + 1) % l.length)).2 := by rw [eq32, pi, pj]
  unfold mX5_goesAlongOrUp
  (repeat (first | rw [ck_t (by first | with_reducible assumption | ((with_reducible apply ixA_of); (with_reducible assumption); omega; omega) | ((with_reducible apply isAr_of); (with_reducible assumption); decide) | ((with_reducible apply nI_ne0); omega; omega) | with_reducible exact isB_0 | with_reducible exact isB_1 | with_reducible exact isB_bI _)] | rw [bd_r (by with_reducible assumption)] | rw [bd_s] | rw [bd2_s] | rw [bd3_s] | rw [nm_s] | rw [nI_clamp (by omega)] | rw [nI_1] | rw [bd_e (w)] | rw [if_pos (by first | with_reducible assumption | ((with_reducible refine nI_lt ?_ ?_); omega; omega) | ((with_reducible refine nI_nlt ?_ ?_); omega; omega) | with_reducible exact ne10 | with_reducible rfl)] | rw [if_neg (by first | with_reducible assumption | ((with_reducible refine nI_lt ?_ ?_); omega; omega) | ((with_reducible refine nI_nlt ?_ ?_); omega; omega) | with_reducible exact ne10 | with_reducible rfl)]))
  by_cases c1 : M.1 (r + 1) i = M.1 (r + 1) ((i + 1) % l.length)
  · (repeat (first | rw [ck_t (by first | with_reducible assumption | ((with_reducible apply ixA_of); (with_reducible assumption); omega; omega) | ((with_reducible apply isAr_of); (with_reducible assumption); decide) | ((with_reducible apply nI_ne0); omega; omega) | with_reducible exact isB_0 | with_reducible exact isB_1 | with_reducible exact isB_bI _)] | rw [bd_r (by with_reducible assumption)] | rw [bd_s] | rw [bd2_s] | rw [bd3_s] | rw [nm_s] | rw [nI_clamp (by omega)] | rw [nI_1] | rw [if_pos (by first | with_reducible assumption | ((with_reducible refine nI_lt ?_ ?_); omega; omega) | ((with_reducible refine nI_nlt ?_ ?_); omega; omega) | with_reducible exact ne10 | with_reducible rfl)] | rw [if_neg (by first | with_reducible assumption | ((with_reducible refine nI_lt ?_ ?_); omega; omega) | ((with_reducible refine nI_nlt ?_ ?_); omega; omega) | with_reducible exact ne10 | with_reducible rfl)]))
    exact ⟨1, rfl, Or.inl ⟨rfl, Or.inl (d1.mp c1)⟩⟩
  · by_cases c2 : M.1 (r + 2) i = M.1 (r + 2) ((i + 1) % l.length)
    · (repeat (first | rw [ck_t (by first | with_reducible assumption | ((with_reducible apply ixA_of); (with_reducible assumption); omega; omega) | ((with_reducible apply isAr_of); (with_reducible assumption); decide) | ((with_reducible apply nI_ne0); omega; omega) | with_reducible exact isB_0 | with_reducible exact isB_1 | with_reducible exact isB_bI _)] | rw [bd_r (by with_reducible assumption)] | rw [bd_s] | rw [bd2_s] | rw [bd3_s] | rw [nm_s] | rw [nI_clamp (by omega)] | rw [nI_1] | rw [if_pos (by first | with_reducible assumption | ((with_reducible refine nI_lt ?_ ?_); omega; omega) | ((with_reducible refine nI_nlt ?_ ?_); omega; omega) | with_reducible exact ne10 | with_reducible rfl)] | rw [if_neg (by first | with_reducible assumption | ((with_reducible refine nI_lt ?_ ?_); omega; omega) | ((with_reducible refine nI_nlt ?_ ?_); omega; omega) | with_reducible exact ne10 | with_reducible rfl)]))
      exact ⟨1, rfl, Or.inl ⟨rfl, Or.inr (d2.mp c2)⟩⟩
    · (repeat (first | rw [ck_t (by first | with_reducible assumption | ((with_reducible apply ixA_of); (with_reducible assumption); omega; omega) | ((with_reducible apply isAr_of); (with_reducible assumption); decide) | ((with_reducible apply nI_ne0); omega; omega) | with_reducible exact isB_0 | with_reducible exact isB_1 | with_reducible exact isB_bI _)] | rw [bd_r (by with_reducible assumption)] | rw [bd_s] | rw [bd2_s] | rw [bd3_s] | rw [nm_s] | rw [nI_clamp (by omega)] | rw [nI_1] | rw [if_pos (by first | with_reducible assumption | ((with_reducible refine nI_lt ?_ ?_); omega; omega) | ((with_reducible refine nI_nlt ?_ ?_); omega; omega) | with_reducible exact ne10 | with_reducible rfl)] | rw [if_neg (by first | with_reducible assumption | ((with_reducible refine nI_lt ?_ ?_); omega; omega) | ((with_reducible refine nI_nlt ?_ ?_); omega; omega) | with_reducible exact ne10 | with_reducible rfl)]))
      exact ⟨0, rfl, Or.inr ⟨rfl, fun z => z.elim (fun z => c1 (d1.mpr z)) (fun z => c2 (d2.mpr z))⟩⟩
theorem triC_ok {q : Nat} {P : Pc} (hA : pcA K R q) (h : pcC M q P) (hl : P.1.length ≤ 16) : ∃ v, mX3_isTriangle K R M q = some v ∧ iv v (P.1.length = 3) := by
  obtain ⟨a0, a1, a2⟩ := hA
  have a20 := a2.1
  have e := h.1.1
  unfold mX3_isTriangle
  (repeat (first | rw [ck_t (by first | with_reducible assumption | ((with_reducible apply ixA_of); (with_reducible assumption); omega; omega) | ((with_reducible apply isAr_of); (with_reducible assumption); decide) | ((with_reducible apply nI_ne0); omega; omega) | with_reducible exact isB_0 | with_reducible exact isB_1 | with_reducible exact isB_bI _)] | rw [bd_r (by with_reducible assumption)] | rw [bd_s] | rw [bd2_s] | rw [bd3_s] | rw [nm_s] | rw [nI_clamp (by omega)] | rw [nI_1] | rw [if_pos (by first | with_reducible assumption | ((with_reducible refine nI_lt ?_ ?_); omega; omega) | ((with_reducible refine nI_nlt ?_ ?_); omega; omega) | with_reducible exact ne10 | with_reducible rfl)] | rw [if_neg (by first | with_reducible assumption | ((with_reducible refine nI_lt ?_ ?_); omega; omega) | ((with_reducible refine nI_nlt ?_ ?_); omega; omega) | with_reducible exact ne10 | with_reducible rfl)]))
  by_cases c : P.1.length = 3
  · have e3 : M.1 (q + 1) 2 = 3 := by rw [e, c]; rfl
    exact ⟨1, by rw [if_pos e3], Or.inl ⟨rfl, c⟩⟩
  · have e3 : ¬ M.1 (q + 1) 2 = 3 := by rw [e]; exact fun z => c ((nI_eq (by omega) (by decide : 3 < 2 ^ 31)).mp z)
    exact ⟨0, by rw [if_neg e3], Or.inr ⟨rfl, c⟩⟩
def kind (P : Pc) : Nat → Prop
  | 0 => True
  | 1 => P.1.length = 3
  | 2 => slab P.1
  | 3 => slab P.1 ∧ upr P.1
  | _ => P.1.length = 3 ∧ P.2.2.2.2 = true
theorem kindC_ok {q k : Nat} {P : Pc} (hA : pcA K R q) (h : pcC M q P) (hP : isPc P) (hk : k < 5) : ∃ v, mX3_isOfKind K R M q (nI k) = some v ∧ iv v (kind P k) := by
  have hA0 := hA
  have h16 := hP.1.2.1
  have h3 := hP.1.1
  obtain ⟨t, t1, t2⟩ := triC_ok hA h h16
  have tb := t2.b
  obtain ⟨a0, a1, a2⟩ := hA
  have a20 := a2.1
  obtain ⟨s, s1, s2⟩ := slabC_ok a2 h.1 h16 (by decide) hP.1.B
  have sb := s2.b
  unfold mX3_isOfKind
  match k, hk with
  | 0, _ =>
    (repeat (first | rw [ck_t (by first | with_reducible assumption | ((with_reducible apply ixA_of); (with_reducible assumption); omega; omega) | ((with_reducible apply isAr_of); (with_reducible assumption); decide) | ((with_reducible apply nI_ne0); omega; omega) | with_reducible exact isB_0 | with_reducible exact isB_1 | with_reducible exact isB_bI _)] | rw [bd_r (by with_reducible assumption)] | rw [bd_s] | rw [bd2_s] | rw [bd3_s] | rw [nm_s] | rw [nI_clamp (by omega)] | rw [nI_1] | rw [if_pos (show nI 0 = 0 from rfl)] | rw [if_pos (by first | with_reducible assumption | ((with_reducible refine nI_lt ?_ ?_); omega; omega) | ((with_reducible refine nI_nlt ?_ ?_); omega; omega) | with_reducible exact ne10 | with_reducible rfl)] | rw [if_neg (by first | with_reducible assumption | ((with_reducible refine nI_lt ?_ ?_); omega; omega) | ((with_reducible refine nI_nlt ?_ ?_); omega; omega) | with_reducible exact ne10 | with_reducible rfl)]))
    exact ⟨1, rfl, Or.inl ⟨rfl, trivial⟩⟩
  | 1, _ =>
    (repeat (first | rw [ck_t (by first | with_reducible assumption | ((with_reducible apply ixA_of); (with_reducible assumption); omega; omega) | ((with_reducible apply isAr_of); (with_reducible assumption); decide) | ((with_reducible apply nI_ne0); omega; omega) | with_reducible exact isB_0 | with_reducible exact isB_1 | with_reducible exact isB_bI _)] | rw [bd_r (by with_reducible assumption)] | rw [bd_s] | rw [bd2_s] | rw [bd3_s] | rw [nm_s] | rw [nI_clamp (by omega)] | rw [nI_1] | rw [if_neg (show ¬ nI 1 = 0 by decide)] | rw [if_pos (show nI 1 = 1 from rfl)] | rw [bd_e (t1)] | rw [if_pos (by first | with_reducible assumption | ((with_reducible refine nI_lt ?_ ?_); omega; omega) | ((with_reducible refine nI_nlt ?_ ?_); omega; omega) | with_reducible exact ne10 | with_reducible rfl)] | rw [if_neg (by first | with_reducible assumption | ((with_reducible refine nI_lt ?_ ?_); omega; omega) | ((with_reducible refine nI_nlt ?_ ?_); omega; omega) | with_reducible exact ne10 | with_reducible rfl)]))
    exact ⟨t, rfl, t2⟩
  | 2, _ =>
    (repeat (first | rw [ck_t (by first | with_reducible assumption | ((with_reducible apply ixA_of); (with_reducible assumption); omega; omega) | ((with_reducible apply isAr_of); (with_reducible assumption); decide) | ((with_reducible apply nI_ne0); omega; omega) | with_reducible exact isB_0 | with_reducible exact isB_1 | with_reducible exact isB_bI _)] | rw [bd_r (by with_reducible assumption)] | rw [bd_s] | rw [bd2_s] | rw [bd3_s] | rw [nm_s] | rw [nI_clamp (by omega)] | rw [nI_1] | rw [if_neg (show ¬ nI 2 = 0 by decide)] | rw [if_neg (show ¬ nI 2 = 1 by decide)] | rw [if_pos (show nI 2 = 2 from rfl)] | rw [bd_e (s1)] | rw [if_pos (by first | with_reducible assumption | ((with_reducible refine nI_lt ?_ ?_); omega; omega) | ((with_reducible refine nI_nlt ?_ ?_); omega; omega) | with_reducible exact ne10 | with_reducible rfl)] | rw [if_neg (by first | with_reducible assumption | ((with_reducible refine nI_lt ?_ ?_); omega; omega) | ((with_reducible refine nI_nlt ?_ ?_); omega; omega) | with_reducible exact ne10 | with_reducible rfl)]))
    exact ⟨s, rfl, s2⟩
  | 3, _ =>
    (repeat (first | rw [ck_t (by first | with_reducible assumption | ((with_reducible apply ixA_of); (with_reducible assumption); omega; omega) | ((with_reducible apply isAr_of); (with_reducible assumption); decide) | ((with_reducible apply nI_ne0); omega; omega) | with_reducible exact isB_0 | with_reducible exact isB_1 | with_reducible exact isB_bI _)] | rw [bd_r (by with_reducible assumption)] | rw [bd_s] | rw [bd2_s] | rw [bd3_s] | rw [nm_s] | rw [nI_clamp (by omega)] | rw [nI_1] | rw [if_neg (show ¬ nI 3 = 0 by decide)] | rw [if_neg (show ¬ nI 3 = 1 by decide)] | rw [if_neg (show ¬ nI 3 = 2 by decide)] | rw [if_pos (show nI 3 = 3 from rfl)] | rw [bd_e (s1)] | rw [if_pos (by first | with_reducible assumption | ((with_reducible refine nI_lt ?_ ?_); omega; omega) | ((with_reducible refine nI_nlt ?_ ?_); omega; omega) | with_reducible exact ne10 | with_reducible rfl)] | rw [if_neg (by first | with_reducible assumption | ((with_reducible refine nI_lt ?_ ?_); omega; omega) | ((with_reducible refine nI_nlt ?_ ?_); omega; omega) | with_reducible exact ne10 | with_reducible rfl)]))
    rcases s2 with ⟨rfl, s2⟩ | ⟨rfl, s2⟩
    · rw [if_neg ne10]
      have h4 := s2.1
      obtain ⟨u, u1, u2⟩ := goes_ok (x := 0) (i := 0) a2 h.1 h16 (by decide) (by omega) rfl
      obtain ⟨w, w1, w2⟩ := goes_ok (x := 1) (i := 1) a2 h.1 h16 (by decide) (by omega) rfl
      rw [bd_e u1]
      rcases u2 with ⟨rfl, u2⟩ | ⟨rfl, u2⟩
      · rw [if_neg ne10, bd_e w1]
        rcases w2 with ⟨rfl, w2⟩ | ⟨rfl, w2⟩
        · exact ⟨1, by rw [if_neg ne10], Or.inl ⟨rfl, s2, (slab_up s2).mpr ⟨u2, w2⟩⟩⟩
        · exact ⟨0, by rw [if_pos rfl], Or.inr ⟨rfl, fun z => w2 ((slab_up s2).mp z.2).2⟩⟩
      · exact ⟨0, by rw [if_pos rfl], Or.inr ⟨rfl, fun z => u2 ((slab_up s2).mp z.2).1⟩⟩
    · exact ⟨0, by rw [if_pos rfl], Or.inr ⟨rfl, fun z => s2 z.1⟩⟩
  | 4, _ =>
    (repeat (first | rw [ck_t (by first | with_reducible assumption | ((with_reducible apply ixA_of); (with_reducible assumption); omega; omega) | ((with_reducible apply isAr_of); (with_reducible assumption); decide) | ((with_reducible apply nI_ne0); omega; omega) | with_reducible exact isB_0 | with_reducible exact isB_1 | with_reducible exact isB_bI _)] | rw [bd_r (by with_reducible assumption)] | rw [bd_s] | rw [bd2_s] | rw [bd3_s] | rw [nm_s] | rw [nI_clamp (by omega)] | rw [nI_1] | rw [if_neg (show ¬ nI 4 = 0 by decide)] | rw [if_neg (show ¬ nI 4 = 1 by decide)] | rw [if_neg (show ¬ nI 4 = 2 by decide)] | rw [if_neg (show ¬ nI 4 = 3 by decide)] | rw [bd_e (t1)] | rw [if_pos (by first | with_reducible assumption | ((with_reducible refine nI_lt ?_ ?_); omega; omega) | ((with_reducible refine nI_nlt ?_ ?_); omega; omega) | with_reducible exact ne10 | with_reducible rfl)] | rw [if_neg (by first | with_reducible assumption | ((with_reducible refine nI_lt ?_ ?_); omega; omega) | ((with_reducible refine nI_nlt ?_ ?_); omega; omega) | with_reducible exact ne10 | with_reducible rfl)]))
    rcases t2 with ⟨rfl, t2⟩ | ⟨rfl, t2⟩
    · rw [if_neg ne10]
      have e4 := h.2.2.2.2
      cases hb : P.2.2.2.2 with
      | false =>
        rw [hb] at e4
        exact ⟨0, by rw [if_pos (show M.1 q 4 = 0 from e4)], Or.inr ⟨rfl, fun z => by have := z.2; rw [hb] at this; cases this⟩⟩
      | true =>
        rw [hb] at e4
        exact ⟨1, by rw [if_neg (by rw [e4]; decide)], Or.inl ⟨rfl, t2, hb⟩⟩
    · exact ⟨0, by rw [if_pos rfl], Or.inr ⟨rfl, fun z => t2 z.1⟩⟩
theorem slabM_ok {m : Nat} {l : List Pt} (hm : moA K R m) (h : rM M m 15 11 12 l) (hl : l.length ≤ 20) (hB : inBs l) : ∃ v, mX8_isSlab K R M m = some v ∧ iv v (slab l) := by
  have h0 := hm.1
  have h1 := mo_r13 hm
  have h2 := mo_r14 hm
  have h3 := mo_a13 hm
  have h4 := mo_a14 hm
  have e := h.1
  unfold mX8_isSlab
  by_cases c4 : l.length = 4
  · have e4 : M.1 m 15 = 4 := by rw [e, c4]; rfl
    have x : ∀ k, k < 4 → ixA K (m + 11) 1 (nI k) ∧ ixA K (m + 12) 1 (nI k) := fun k hk => ⟨ixA_of h3 (by omega) (by omega), ixA_of h4 (by omega) (by omega)⟩
    have x0 : ixA K (m + 11) 1 0 := (x 0 (by omega)).1
    have x1 : ixA K (m + 11) 1 1 := (x 1 (by omega)).1
    have x2 : ixA K (m + 11) 1 2 := (x 2 (by omega)).1
    have x3 : ixA K (m + 11) 1 3 := (x 3 (by omega)).1
    have y0 : ixA K (m + 12) 1 0 := (x 0 (by omega)).2
    have y1 : ixA K (m + 12) 1 1 := (x 1 (by omega)).2
    have y2 : ixA K (m + 12) 1 2 := (x 2 (by omega)).2
    have y3 : ixA K (m + 12) 1 3 := (x 3 (by omega)).2
    have df : ∀ i j, i < 4 → j < 4 → (M.2 (m + 11) i + M.2 (m + 11) j).toInt = (gp l i).1 + (gp l j).1 ∧ (M.2 (m + 12) i + M.2 (m + 12) j).toInt = (gp l i).2 + (gp l j).2 := fun i j hi hj => by
      have gi := gp_get (l := l) (i := i) (by omega)
      have gj := gp_get (l := l) (i := j) (by omega)
      obtain ⟨a1, a2⟩ := h.2 _ _ gi
      obtain ⟨b1, b2⟩ := h.2 _ _ gj
      obtain ⟨u1, u2, u3, u4⟩ := hB _ _ gi
      obtain ⟨v1, v2, v3, v4⟩ := hB _ _ gj
      exact ⟨by rw [add64 (by omega) (by omega), a1, b1], by rw [add64 (by omega) (by omega), a2, b2]⟩
    have d1 : (M.2 (m + 11) 0 + M.2 (m + 11) 2 = M.2 (m + 11) 1 + M.2 (m + 11) 3) ↔ (gp l 1).1 - (gp l 0).1 = (gp l 2).1 - (gp l 3).1 := by
      rw [eq64, (df 0 2 (by omega) (by omega)).1, (df 1 3 (by omega) (by omega)).1]; omega
    have d2 : (M.2 (m + 12) 0 + M.2 (m + 12) 2 = M.2 (m + 12) 1 + M.2 (m + 12) 3) ↔ (gp l 1).2 - (gp l 0).2 = (gp l 2).2 - (gp l 3).2 := by
      rw [eq64, (df 0 2 (by omega) (by omega)).2, (df 1 3 (by omega) (by omega)).2]; omega
    (repeat (first | rw [ck_t (by first | with_reducible assumption | ((with_reducible apply ixA_of); (with_reducible assumption); omega; omega) | ((with_reducible apply isAr_of); (with_reducible assumption); decide) | ((with_reducible apply nI_ne0); omega; omega) | with_reducible exact isB_0 | with_reducible exact isB_1 | with_reducible exact isB_bI _)] | rw [bd_r (by with_reducible assumption)] | rw [bd_s] | rw [bd2_s] | rw [bd3_s] | rw [nm_s] | rw [nI_clamp (by omega)] | rw [nI_1] | rw [if_pos (by first | with_reducible assumption | ((with_reducible refine nI_lt ?_ ?_); omega; omega) | ((with_reducible refine nI_nlt ?_ ?_); omega; omega) | with_reducible exact ne10 | with_reducible rfl)] | rw [if_neg (by first | with_reducible assumption | ((with_reducible refine nI_lt ?_ ?_); omega; omega) | ((with_reducible refine nI_nlt ?_ ?_); omega; omega) | with_reducible exact ne10 | with_reducible rfl)]))
    by_cases c1 : M.2 (m + 11) 0 + M.2 (m + 11) 2 = M.2 (m + 11) 1 + M.2 (m + 11) 3
    · by_cases c2 : M.2 (m + 12) 0 + M.2 (m + 12) 2 = M.2 (m + 12) 1 + M.2 (m + 12) 3
      · (repeat (first | rw [ck_t (by first | with_reducible assumption | ((with_reducible apply ixA_of); (with_reducible assumption); omega; omega) | ((with_reducible apply isAr_of); (with_reducible assumption); decide) | ((with_reducible apply nI_ne0); omega; omega) | with_reducible exact isB_0 | with_reducible exact isB_1 | with_reducible exact isB_bI _)] | rw [bd_r (by with_reducible assumption)] | rw [bd_s] | rw [bd2_s] | rw [bd3_s] | rw [nm_s] | rw [nI_clamp (by omega)] | rw [nI_1] | rw [if_pos (by first | with_reducible assumption | ((with_reducible refine nI_lt ?_ ?_); omega; omega) | ((with_reducible refine nI_nlt ?_ ?_); omega; omega) | with_reducible exact ne10 | with_reducible rfl)] | rw [if_neg (by first | with_reducible assumption | ((with_reducible refine nI_lt ?_ ?_); omega; omega) | ((with_reducible refine nI_nlt ?_ ?_); omega; omega) | with_reducible exact ne10 | with_reducible rfl)]))
        exact ⟨1, rfl, Or.inl ⟨rfl, c4, d1.mp c1, d2.mp c2⟩⟩
      · (repeat (first | rw [ck_t (by first | with_reducible assumption | ((with_reducible apply ixA_of); (with_reducible assumption); omega; omega) | ((with_reducible apply isAr_of); (with_reducible assumption); decide) | ((with_reducible apply nI_ne0); omega; omega) | with_reducible exact isB_0 | with_reducible exact isB_1 | with_reducible exact isB_bI _)] | rw [bd_r (by with_reducible assumption)] | rw [bd_s] | rw [bd2_s] | rw [bd3_s] | rw [nm_s] | rw [nI_clamp (by omega)] | rw [nI_1] | rw [if_pos (by first | with_reducible assumption | ((with_reducible refine nI_lt ?_ ?_); omega; omega) | ((with_reducible refine nI_nlt ?_ ?_); omega; omega) | with_reducible exact ne10 | with_reducible rfl)] | rw [if_neg (by first | with_reducible assumption | ((with_reducible refine nI_lt ?_ ?_); omega; omega) | ((with_reducible refine nI_nlt ?_ ?_); omega; omega) | with_reducible exact ne10 | with_reducible rfl)]))
        exact ⟨0, rfl, Or.inr ⟨rfl, fun z => c2 (d2.mpr z.2.2)⟩⟩
    · (repeat (first | rw [ck_t (by first | with_reducible assumption | ((with_reducible apply ixA_of); (with_reducible assumption); omega; omega) | ((with_reducible apply isAr_of); (with_reducible assumption); decide) | ((with_reducible apply nI_ne0); omega; omega) | with_reducible exact isB_0 | with_reducible exact isB_1 | with_reducible exact isB_bI _)] | rw [bd_r (by with_reducible assumption)] | rw [bd_s] | rw [bd2_s] | rw [bd3_s] | rw [nm_s] | rw [nI_clamp (by omega)] | rw [nI_1] | rw [if_pos (by first | with_reducible assumption | ((with_reducible refine nI_lt ?_ ?_); omega; omega) | ((with_reducible refine nI_nlt ?_ ?_); omega; omega) | with_reducible exact ne10 | with_reducible rfl)] | rw [if_neg (by first | with_reducible assumption | ((with_reducible refine nI_lt ?_ ?_); omega; omega) | ((with_reducible refine nI_nlt ?_ ?_); omega; omega) | with_reducible exact ne10 | with_reducible rfl)]))
      exact ⟨0, rfl, Or.inr ⟨rfl, fun z => c1 (d1.mpr z.2.1)⟩⟩
  · have e4 : ¬ M.1 m 15 = 4 := by rw [e]; exact fun q => c4 ((nI_eq (by omega) (by decide : 4 < 2 ^ 31)).mp q)
    (repeat (first | rw [ck_t (by first | with_reducible assumption | ((with_reducible apply ixA_of); (with_reducible assumption); omega; omega) | ((with_reducible apply isAr_of); (with_reducible assumption); decide) | ((with_reducible apply nI_ne0); omega; omega) | with_reducible exact isB_0 | with_reducible exact isB_1 | with_reducible exact isB_bI _)] | rw [bd_r (by with_reducible assumption)] | rw [bd_s] | rw [bd2_s] | rw [bd3_s] | rw [nm_s] | rw [nI_clamp (by omega)] | rw [nI_1] | rw [if_pos (by first | with_reducible assumption | ((with_reducible refine nI_lt ?_ ?_); omega; omega) | ((with_reducible refine nI_nlt ?_ ?_); omega; omega) | with_reducible exact ne10 | with_reducible rfl)] | rw [if_neg (by first | with_reducible assumption | ((with_reducible refine nI_lt ?_ ?_); omega; omega) | ((with_reducible refine nI_nlt ?_ ?_); omega; omega) | with_reducible exact ne10 | with_reducible rfl)]))
    exact ⟨0, rfl, Or.inr ⟨rfl, fun z => c4 z.1⟩⟩
theorem uprM_ok {m : Nat} {l : List Pt} (hm : moA K R m) (h : rM M m 15 11 12 l) (hl : l.length ≤ 20) : ∃ v, mX8_isUpright K R M m = some v ∧ iv v (upr l) := by
  have h0 := hm.1
  have h1 := mo_r13 hm
  have h2 := mo_r14 hm
  have h3 := mo_a13 hm
  have h4 := mo_a14 hm
  have e := h.1
  have hL := lp_ind (f := mX8_isUpright_L4 K R M m) (fun (i : Nat) (s : Int32 × Int32) => s.2 = nI i ∧ iv s.1 (∀ j, j < i → upi l j)) (fun v => iv v (upr l)) l.length ?_ ?_
  · obtain ⟨v, e1, e2⟩ := hL l.length 0 (1, nI 0) (by omega) ⟨rfl, Or.inl ⟨rfl, fun j hj => absurd hj (by omega)⟩⟩
    refine ⟨v, ?_, e2⟩
    unfold mX8_isUpright
    (repeat (first | rw [ck_t (by first | with_reducible assumption | ((with_reducible apply ixA_of); (with_reducible assumption); omega; omega) | ((with_reducible apply isAr_of); (with_reducible assumption); decide) | ((with_reducible apply nI_ne0); omega; omega) | with_reducible exact isB_0 | with_reducible exact isB_1 | with_reducible exact isB_bI _)] | rw [bd_r (by with_reducible assumption)] | rw [bd_s] | rw [bd2_s] | rw [bd3_s] | rw [nm_s] | rw [nI_clamp (by omega)] | rw [nI_1] | rw [if_pos (by first | with_reducible assumption | ((with_reducible refine nI_lt ?_ ?_); omega; omega) | ((with_reducible refine nI_nlt ?_ ?_); omega; omega) | with_reducible exact ne10 | with_reducible rfl)] | rw [if_neg (by first | with_reducible assumption | ((with_reducible refine nI_lt ?_ ?_); omega; omega) | ((with_reducible refine nI_nlt ?_ ?_); omega; omega) | with_reducible exact ne10 | with_reducible rfl)]))
    exact e1
  · rintro i ⟨s, z⟩ hi ⟨rfl, f⟩
    have hj := mod_lt' hi
    have pi := h.pt (gp_get hi)
    have pj := h.pt (gp_get hj)
    have d1 : M.2 (m + 11) i = M.2 (m + 11) ((i + 1) % l.length) ↔ (gp l i).1 = (gp l ((i + 1) % l.length)).1 := by rw [eq64, pi, pj]
    have d2 : M.2 (m + 12) i = M.2 (m + 12) ((i + 1) % l.length) ↔ (gp l i).2 = (gp l ((i + 1) % l.length)).2 := by rw [eq64, pi, pj]
    have k0 : ∀ t, mX8_isUpright_J62 K R M m (nI i) t = some (.inl (t, nI (i + 1))) := fun t => by unfold mX8_isUpright_J62; (repeat (first | rw [ck_t (by first | with_reducible assumption | ((with_reducible apply ixA_of); (with_reducible assumption); omega; omega) | ((with_reducible apply isAr_of); (with_reducible assumption); decide) | ((with_reducible apply nI_ne0); omega; omega) | with_reducible exact isB_0 | with_reducible exact isB_1 | with_reducible exact isB_bI _)] | rw [bd_r (by with_reducible assumption)] | rw [bd_s] | rw [bd2_s] | rw [bd3_s] | rw [nm_s] | rw [nI_clamp (by omega)] | rw [nI_1] | rw [if_pos (by first | with_reducible assumption | ((with_reducible refine nI_lt ?_ ?_); omega; omega) | ((with_reducible refine nI_nlt ?_ ?_); omega; omega) | with_reducible exact ne10 | with_reducible rfl)] | rw [if_neg (by first | with_reducible assumption | ((with_reducible refine nI_lt ?_ ?_); omega; omega) | ((with_reducible refine nI_nlt ?_ ?_); omega; omega) | with_reducible exact ne10 | with_reducible rfl)]))
    have k2 : mX8_isUpright_J61 K R M m (nI i) = some (.inl (0, nI (i + 1))) := k0 0
    have k3 : mX8_isUpright_J57 K R M m (nI i) = some (.inl (1, nI (i + 1))) := k0 1
    show (∃ s', mX8_isUpright_B4 K R M m s (nI i) = _ ∧ _) ∨ _
    left
    have ad : ∀ u, upi l i → (∀ j, j < i → upi l j) → u = (1 : Int32) → iv u (∀ j, j < i + 1 → upi l j) := fun u z y hu => Or.inl ⟨hu, fun j hj => by
      by_cases q : j = i
      · rw [q]; exact z
      · exact y j (by omega)⟩
    unfold mX8_isUpright_B4
    (repeat (first | rw [ck_t (by first | with_reducible assumption | ((with_reducible apply ixA_of); (with_reducible assumption); omega; omega) | ((with_reducible apply isAr_of); (with_reducible assumption); decide) | ((with_reducible apply nI_ne0); omega; omega) | with_reducible exact isB_0 | with_reducible exact isB_1 | with_reducible exact isB_bI _)] | rw [bd_r (by with_reducible assumption)] | rw [bd_s] | rw [bd2_s] | rw [bd3_s] | rw [nm_s] | rw [nI_clamp (by omega)] | rw [nI_1] | rw [e] | rw [pk_rem (by omega) (by omega) (by omega)] | rw [if_pos (by first | with_reducible assumption | ((with_reducible refine nI_lt ?_ ?_); omega; omega) | ((with_reducible refine nI_nlt ?_ ?_); omega; omega) | with_reducible exact ne10 | with_reducible rfl)] | rw [if_neg (by first | with_reducible assumption | ((with_reducible refine nI_lt ?_ ?_); omega; omega) | ((with_reducible refine nI_nlt ?_ ?_); omega; omega) | with_reducible exact ne10 | with_reducible rfl)]))
    rcases f with ⟨hs, f⟩ | ⟨hs, f⟩
    · have hs : s = 1 := hs
      subst hs
      by_cases c1 : M.2 (m + 11) i = M.2 (m + 11) ((i + 1) % l.length)
      · (repeat (first | rw [ck_t (by first | with_reducible assumption | ((with_reducible apply ixA_of); (with_reducible assumption); omega; omega) | ((with_reducible apply isAr_of); (with_reducible assumption); decide) | ((with_reducible apply nI_ne0); omega; omega) | with_reducible exact isB_0 | with_reducible exact isB_1 | with_reducible exact isB_bI _)] | rw [bd_r (by with_reducible assumption)] | rw [bd_s] | rw [bd2_s] | rw [bd3_s] | rw [nm_s] | rw [nI_clamp (by omega)] | rw [nI_1] | rw [if_pos (by first | with_reducible assumption | ((with_reducible refine nI_lt ?_ ?_); omega; omega) | ((with_reducible refine nI_nlt ?_ ?_); omega; omega) | with_reducible exact ne10 | with_reducible rfl)] | rw [if_neg (by first | with_reducible assumption | ((with_reducible refine nI_lt ?_ ?_); omega; omega) | ((with_reducible refine nI_nlt ?_ ?_); omega; omega) | with_reducible exact ne10 | with_reducible rfl)]))
        exact ⟨_, k3, rfl, ad 1 (Or.inl (d1.mp c1)) f rfl⟩
      · by_cases c2 : M.2 (m + 12) i = M.2 (m + 12) ((i + 1) % l.length)
        · (repeat (first | rw [ck_t (by first | with_reducible assumption | ((with_reducible apply ixA_of); (with_reducible assumption); omega; omega) | ((with_reducible apply isAr_of); (with_reducible assumption); decide) | ((with_reducible apply nI_ne0); omega; omega) | with_reducible exact isB_0 | with_reducible exact isB_1 | with_reducible exact isB_bI _)] | rw [bd_r (by with_reducible assumption)] | rw [bd_s] | rw [bd2_s] | rw [bd3_s] | rw [nm_s] | rw [nI_clamp (by omega)] | rw [nI_1] | rw [if_pos (by first | with_reducible assumption | ((with_reducible refine nI_lt ?_ ?_); omega; omega) | ((with_reducible refine nI_nlt ?_ ?_); omega; omega) | with_reducible exact ne10 | with_reducible rfl)] | rw [if_neg (by first | with_reducible assumption | ((with_reducible refine nI_lt ?_ ?_); omega; omega) | ((with_reducible refine nI_nlt ?_ ?_); omega; omega) | with_reducible exact ne10 | with_reducible rfl)]))
          exact ⟨_, k3, rfl, ad 1 (Or.inr (d2.mp c2)) f rfl⟩
        · (repeat (first | rw [ck_t (by first | with_reducible assumption | ((with_reducible apply ixA_of); (with_reducible assumption); omega; omega) | ((with_reducible apply isAr_of); (with_reducible assumption); decide) | ((with_reducible apply nI_ne0); omega; omega) | with_reducible exact isB_0 | with_reducible exact isB_1 | with_reducible exact isB_bI _)] | rw [bd_r (by with_reducible assumption)] | rw [bd_s] | rw [bd2_s] | rw [bd3_s] | rw [nm_s] | rw [nI_clamp (by omega)] | rw [nI_1] | rw [if_pos (by first | with_reducible assumption | ((with_reducible refine nI_lt ?_ ?_); omega; omega) | ((with_reducible refine nI_nlt ?_ ?_); omega; omega) | with_reducible exact ne10 | with_reducible rfl)] | rw [if_neg (by first | with_reducible assumption | ((with_reducible refine nI_lt ?_ ?_); omega; omega) | ((with_reducible refine nI_nlt ?_ ?_); omega; omega) | with_reducible exact ne10 | with_reducible rfl)]))
          exact ⟨_, k2, rfl, Or.inr ⟨rfl, fun z => (z i (by omega)).elim (fun z => c1 (d1.mpr z)) (fun z => c2 (d2.mpr z))⟩⟩
    · have hs : s = 0 := hs
      subst hs
      (repeat (first | rw [ck_t (by first | with_reducible assumption | ((with_reducible apply ixA_of); (with_reducible assumption); omega; omega) | ((with_reducible apply isAr_of); (with_reducible assumption); decide) | ((with_reducible apply nI_ne0); omega; omega) | with_reducible exact isB_0 | with_reducible exact isB_1 | with_reducible exact isB_bI _)] | rw [bd_r (by with_reducible assumption)] | rw [bd_s] | rw [bd2_s] | rw [bd3_s] | rw [nm_s] | rw [nI_clamp (by omega)] | rw [nI_1] | rw [if_pos (by first | with_reducible assumption | ((with_reducible refine nI_lt ?_ ?_); omega; omega) | ((with_reducible refine nI_nlt ?_ ?_); omega; omega) | with_reducible exact ne10 | with_reducible rfl)] | rw [if_neg (by first | with_reducible assumption | ((with_reducible refine nI_lt ?_ ?_); omega; omega) | ((with_reducible refine nI_nlt ?_ ?_); omega; omega) | with_reducible exact ne10 | with_reducible rfl)]))
      exact ⟨_, k2, rfl, Or.inr ⟨rfl, fun z => f (fun j hj => z j (by omega))⟩⟩
  · rintro ⟨s, z⟩ ⟨rfl, f⟩
    have f : iv s _ := f
    have hb := f.b
    refine ⟨s, ?_, f⟩
    show mX8_isUpright_B4 K R M m s (nI l.length) = _
    unfold mX8_isUpright_B4
    (repeat (first | rw [ck_t (by first | with_reducible assumption | ((with_reducible apply ixA_of); (with_reducible assumption); omega; omega) | ((with_reducible apply isAr_of); (with_reducible assumption); decide) | ((with_reducible apply nI_ne0); omega; omega) | with_reducible exact isB_0 | with_reducible exact isB_1 | with_reducible exact isB_bI _)] | rw [bd_r (by with_reducible assumption)] | rw [bd_s] | rw [bd2_s] | rw [bd3_s] | rw [nm_s] | rw [nI_clamp (by omega)] | rw [nI_1] | rw [e] | rw [if_pos (by first | with_reducible assumption | ((with_reducible refine nI_lt ?_ ?_); omega; omega) | ((with_reducible refine nI_nlt ?_ ?_); omega; omega) | with_reducible exact ne10 | with_reducible rfl)] | rw [if_neg (by first | with_reducible assumption | ((with_reducible refine nI_lt ?_ ?_); omega; omega) | ((with_reducible refine nI_nlt ?_ ?_); omega; omega) | with_reducible exact ne10 | with_reducible rfl)]))
    rfl
end ISO
theorem cases_n (x : Int32) (n : Nat) (hn : n < 2 ^ 31) : (x < 0 ∨ nI n ≤ x) ∨ ∃ k, k < n ∧ x = nI k := by
  rcases pk_ix x hn with h | h | h
  · exact Or.inl (Or.inl h)
  · exact Or.inl (Or.inr h)
  · exact Or.inr h
theorem inv_isOf (o : Nat) (K : Kk) (R : Rr) (M : Mm) (a0 a1 : Int32) (hI : Inv o K R M) : ∃ (v : Int64) (M2 : Mm), mX7_isOf K R M o a0 a1 = some (v) ∧ mX8_isOf K R M (o + 2118) a0 a1 = some (v, M2) ∧ Inv o K R M2 := by
  have hI0 := hI
  obtain ⟨hs, hm, S, hw, hc, ho⟩ := hI
  have hs0 := hs
  have m0 := hm.1
  obtain ⟨ps, hps, hpp⟩ := now_ps hw
  obtain ⟨c, hc1, hc2, hcA, hcC, hnow⟩ := now_at hs0 hw hc hps
  have hq6 : psM (M.2 (o + 2118 + 1)) 0 ps := ho.2.2.2.2.2.1 ps hps
  have h40 := hpp.1
  have hn := hcC.1
  obtain ⟨s0, -, -, s2, -, -, -, -, -, -, s9, s10, -, -, -, -, -, -, ⟨i0, -⟩, -, -, -, -, -, -, -, r1, r2, -⟩ := hs
  rcases cases_n a0 ps.length (by omega) with h | ⟨p, hp, rfl⟩
  · refine ⟨-9000000000000000001, M, ?_, ?_, hI0⟩
    · unfold mX7_isOf
      (repeat (first | rw [ck_t (by first | with_reducible assumption | ((with_reducible apply ixA_of); (with_reducible assumption); omega; omega) | ((with_reducible apply isAr_of); (with_reducible assumption); decide) | ((with_reducible apply nI_ne0); omega; omega) | with_reducible exact isB_0 | with_reducible exact isB_1 | with_reducible exact isB_bI _)] | rw [bd_r (by with_reducible assumption)] | rw [bd_s] | rw [bd2_s] | rw [bd3_s] | rw [nm_s] | rw [nI_clamp (by omega)] | rw [nI_1] | rw [bd_e (isPiece_f hs0 hcA hn (hnow M rfl) h)] | rw [if_pos (by first | with_reducible assumption | ((with_reducible refine nI_lt ?_ ?_); omega; omega) | ((with_reducible refine nI_nlt ?_ ?_); omega; omega) | with_reducible exact ne10 | with_reducible rfl)] | rw [if_neg (by first | with_reducible assumption | ((with_reducible refine nI_lt ?_ ?_); omega; omega) | ((with_reducible refine nI_nlt ?_ ?_); omega; omega) | with_reducible exact ne10 | with_reducible rfl)]))
    · unfold mX8_isOf
      (repeat (first | rw [ck_t (by first | with_reducible assumption | ((with_reducible apply ixA_of); (with_reducible assumption); omega; omega) | ((with_reducible apply isAr_of); (with_reducible assumption); decide) | ((with_reducible apply nI_ne0); omega; omega) | with_reducible exact isB_0 | with_reducible exact isB_1 | with_reducible exact isB_bI _)] | rw [bd_r (by with_reducible assumption)] | rw [bd_s] | rw [bd2_s] | rw [bd3_s] | rw [nm_s] | rw [nI_clamp (by omega)] | rw [nI_1] | rw [bd_e (isPieceM_f hm hq6 h h40)] | rw [if_pos (by first | with_reducible assumption | ((with_reducible refine nI_lt ?_ ?_); omega; omega) | ((with_reducible refine nI_nlt ?_ ?_); omega; omega) | with_reducible exact ne10 | with_reducible rfl)] | rw [if_neg (by first | with_reducible assumption | ((with_reducible refine nI_lt ?_ ?_); omega; omega) | ((with_reducible refine nI_nlt ?_ ?_); omega; omega) | with_reducible exact ne10 | with_reducible rfl)]))
  · have q1 := isPiece_t hs0 hcA hn (hnow M rfl) hp h40
    have q2 := isPieceM_t hm hq6 hp h40
    rcases cases_n a1 5 (by omega) with h | ⟨k, hk, rfl⟩
    · refine ⟨-9000000000000000001, M, ?_, ?_, hI0⟩
      · unfold mX7_isOf
        by_cases h0 : a1 < 0
        · (repeat (first | rw [ck_t (by first | with_reducible assumption | ((with_reducible apply ixA_of); (with_reducible assumption); omega; omega) | ((with_reducible apply isAr_of); (with_reducible assumption); decide) | ((with_reducible apply nI_ne0); omega; omega) | with_reducible exact isB_0 | with_reducible exact isB_1 | with_reducible exact isB_bI _)] | rw [bd_r (by with_reducible assumption)] | rw [bd_s] | rw [bd2_s] | rw [bd3_s] | rw [nm_s] | rw [nI_clamp (by omega)] | rw [nI_1] | rw [bd_e (q1)] | rw [if_pos (by first | with_reducible assumption | ((with_reducible refine nI_lt ?_ ?_); omega; omega) | ((with_reducible refine nI_nlt ?_ ?_); omega; omega) | with_reducible exact ne10 | with_reducible rfl)] | rw [if_neg (by first | with_reducible assumption | ((with_reducible refine nI_lt ?_ ?_); omega; omega) | ((with_reducible refine nI_nlt ?_ ?_); omega; omega) | with_reducible exact ne10 | with_reducible rfl)]))
        · have h1 : ¬ a1 < 5 := Int32.not_lt.mpr (h.resolve_left h0)
          (repeat (first | rw [ck_t (by first | with_reducible assumption | ((with_reducible apply ixA_of); (with_reducible assumption); omega; omega) | ((with_reducible apply isAr_of); (with_reducible assumption); decide) | ((with_reducible apply nI_ne0); omega; omega) | with_reducible exact isB_0 | with_reducible exact isB_1 | with_reducible exact isB_bI _)] | rw [bd_r (by with_reducible assumption)] | rw [bd_s] | rw [bd2_s] | rw [bd3_s] | rw [nm_s] | rw [nI_clamp (by omega)] | rw [nI_1] | rw [bd_e (q1)] | rw [if_pos (by first | with_reducible assumption | ((with_reducible refine nI_lt ?_ ?_); omega; omega) | ((with_reducible refine nI_nlt ?_ ?_); omega; omega) | with_reducible exact ne10 | with_reducible rfl)] | rw [if_neg (by first | with_reducible assumption | ((with_reducible refine nI_lt ?_ ?_); omega; omega) | ((with_reducible refine nI_nlt ?_ ?_); omega; omega) | with_reducible exact ne10 | with_reducible rfl)]))
      · unfold mX8_isOf
        (repeat (first | rw [ck_t (by first | with_reducible assumption | ((with_reducible apply ixA_of); (with_reducible assumption); omega; omega) | ((with_reducible apply isAr_of); (with_reducible assumption); decide) | ((with_reducible apply nI_ne0); omega; omega) | with_reducible exact isB_0 | with_reducible exact isB_1 | with_reducible exact isB_bI _)] | rw [bd_r (by with_reducible assumption)] | rw [bd_s] | rw [bd2_s] | rw [bd3_s] | rw [nm_s] | rw [nI_clamp (by omega)] | rw [nI_1] | rw [bd_e (q2)] | rw [bd_e (isInN_f (n := 5) h (by decide) (by decide))] | rw [if_pos (by first | with_reducible assumption | ((with_reducible refine nI_lt ?_ ?_); omega; omega) | ((with_reducible refine nI_nlt ?_ ?_); omega; omega) | with_reducible exact ne10 | with_reducible rfl)] | rw [if_neg (by first | with_reducible assumption | ((with_reducible refine nI_lt ?_ ?_); omega; omega) | ((with_reducible refine nI_nlt ?_ ?_); omega; omega) | with_reducible exact ne10 | with_reducible rfl)]))
    · obtain ⟨P, hP⟩ := get_ex hp
      have iP := hpp.2 p P hP
      obtain ⟨g0, g1, g2, g3⟩ := hcA
      obtain ⟨k1, k2⟩ := g3 p (by omega)
      have k20 := k2.1
      obtain ⟨v, v1, v2⟩ := kindC_ok k2 (hcC.2 p P hP) iP hk
      obtain ⟨N, l1, l2, l3⟩ := lookA_ok hm hq6 hP h40 iP
      have hN := hq6.fr l3 (by decide)
      have lP := (plc_ok iP).2.2.2.1
      have BP := inBs_of (plc_ok iP).2.2.2.2
      have sP := iP.1.2.1
      have e15 : N.1 (o + 2118) 15 = nI P.1.length := by rw [l2.1, lP]
      have j1 : mX8_isOf_J106 K R N = some (1, N) := by unfold mX8_isOf_J106 mX8_isOf_J111; rw [if_neg ne10]
      have j0 : mX8_isOf_J110 K R N = some (0, N) := by unfold mX8_isOf_J110 mX8_isOf_J111; rw [if_pos rfl]
      have tri : ∀ (A B : Option (Int64 × Mm)), (P.1.length = 3 → (if N.1 (o + 2118) 15 = 3 then A else B) = A) ∧ (¬ P.1.length = 3 → (if N.1 (o + 2118) 15 = 3 then A else B) = B) := fun A B => by
        refine ⟨fun z => if_pos (by rw [e15, z]; rfl), fun z => if_neg (by rw [e15]; exact fun q => z ((nI_eq (by omega) (by decide : 3 < 2 ^ 31)).mp q))⟩
      refine ⟨v.toInt64, N, ?_, ?_, hI0.kp (l3.kp (by decide) (by decide) (by decide) (by decide))⟩
      · unfold mX7_isOf
        (repeat (first | rw [ck_t (by first | with_reducible assumption | ((with_reducible apply ixA_of); (with_reducible assumption); omega; omega) | ((with_reducible apply isAr_of); (with_reducible assumption); decide) | ((with_reducible apply nI_ne0); omega; omega) | with_reducible exact isB_0 | with_reducible exact isB_1 | with_reducible exact isB_bI _)] | rw [bd_r (by with_reducible assumption)] | rw [bd_s] | rw [bd2_s] | rw [bd3_s] | rw [nm_s] | rw [nI_clamp (by omega)] | rw [nI_1] | rw [bd_e (q1)] | rw [if_neg (nI_pos (show k < 2 ^ 31 by omega))] | rw [if_pos (show nI k < 5 from nI_lt (b := 5) hk (by decide))] | rw [bd_e (hnow M rfl)] | rw [bd_e (v1)] | rw [if_pos (by first | with_reducible assumption | ((with_reducible refine nI_lt ?_ ?_); omega; omega) | ((with_reducible refine nI_nlt ?_ ?_); omega; omega) | with_reducible exact ne10 | with_reducible rfl)] | rw [if_neg (by first | with_reducible assumption | ((with_reducible refine nI_lt ?_ ?_); omega; omega) | ((with_reducible refine nI_nlt ?_ ?_); omega; omega) | with_reducible exact ne10 | with_reducible rfl)]))
        rcases v2 with ⟨rfl, _⟩ | ⟨rfl, _⟩
        · rw [if_neg ne10]; rfl
        · rw [if_pos rfl]; rfl
      · have ans : ∀ (X : Option (Int64 × Mm)), ((kind P k ∧ X = some (1, N)) ∨ (¬ kind P k ∧ X = some (0, N))) → X = some (v.toInt64, N) := fun X hX => by
          rcases v2 with ⟨rfl, v2⟩ | ⟨rfl, v2⟩ <;> rcases hX with ⟨y, rfl⟩ | ⟨y, rfl⟩ <;> first | rfl | exact absurd y v2 | exact absurd v2 y
        unfold mX8_isOf
        (repeat (first | rw [ck_t (by first | with_reducible assumption | ((with_reducible apply ixA_of); (with_reducible assumption); omega; omega) | ((with_reducible apply isAr_of); (with_reducible assumption); decide) | ((with_reducible apply nI_ne0); omega; omega) | with_reducible exact isB_0 | with_reducible exact isB_1 | with_reducible exact isB_bI _)] | rw [bd_r (by with_reducible assumption)] | rw [bd_s] | rw [bd2_s] | rw [bd3_s] | rw [nm_s] | rw [nI_clamp (by omega)] | rw [nI_1] | rw [bd_e (q2)] | rw [bd_e (isInN_t (n := 5) hk (by decide) (by decide))] | rw [bd_e (l1)] | rw [if_pos (by first | with_reducible assumption | ((with_reducible refine nI_lt ?_ ?_); omega; omega) | ((with_reducible refine nI_nlt ?_ ?_); omega; omega) | with_reducible exact ne10 | with_reducible rfl)] | rw [if_neg (by first | with_reducible assumption | ((with_reducible refine nI_lt ?_ ?_); omega; omega) | ((with_reducible refine nI_nlt ?_ ?_); omega; omega) | with_reducible exact ne10 | with_reducible rfl)]))
        apply ans
        obtain ⟨s, s1, s2⟩ := slabM_ok hm l2 (by omega) BP
        have s3 := s2.congr (slab_plc iP)
        obtain ⟨u, u1, u2⟩ := uprM_ok hm l2 (by omega)
        have u3 := u2.congr (upr_plc iP)
        clear s2 u2
        match k, hk with
        | 0, _ => exact Or.inl ⟨trivial, by (repeat (first | rw [ck_t (by first | with_reducible assumption | ((with_reducible apply ixA_of); (with_reducible assumption); omega; omega) | ((with_reducible apply isAr_of); (with_reducible assumption); decide) | ((with_reducible apply nI_ne0); omega; omega) | with_reducible exact isB_0 | with_reducible exact isB_1 | with_reducible exact isB_bI _)] | rw [bd_r (by with_reducible assumption)] | rw [bd_s] | rw [bd2_s] | rw [bd3_s] | rw [nm_s] | rw [nI_clamp (by omega)] | rw [nI_1] | rw [if_pos (show nI 0 = 0 from rfl)] | rw [if_pos (by first | with_reducible assumption | ((with_reducible refine nI_lt ?_ ?_); omega; omega) | ((with_reducible refine nI_nlt ?_ ?_); omega; omega) | with_reducible exact ne10 | with_reducible rfl)] | rw [if_neg (by first | with_reducible assumption | ((with_reducible refine nI_lt ?_ ?_); omega; omega) | ((with_reducible refine nI_nlt ?_ ?_); omega; omega) | with_reducible exact ne10 | with_reducible rfl)])); exact j1⟩
        | 1, _ =>
          by_cases z : P.1.length = 3
          · exact Or.inl ⟨z, by (repeat (first | rw [ck_t (by first | with_reducible assumption | ((with_reducible apply ixA_of); (with_reducible assumption); omega; omega) | ((with_reducible apply isAr_of); (with_reducible assumption); decide) | ((with_reducible apply nI_ne0); omega; omega) | with_reducible exact isB_0 | with_reducible exact isB_1 | with_reducible exact isB_bI _)] | rw [bd_r (by with_reducible assumption)] | rw [bd_s] | rw [bd2_s] | rw [bd3_s] | rw [nm_s] | rw [nI_clamp (by omega)] | rw [nI_1] | rw [if_neg (show ¬ nI 1 = 0 by decide)] | rw [if_pos (show nI 1 = 1 from rfl)] | rw [(tri _ _).1 z] | rw [if_pos (by first | with_reducible assumption | ((with_reducible refine nI_lt ?_ ?_); omega; omega) | ((with_reducible refine nI_nlt ?_ ?_); omega; omega) | with_reducible exact ne10 | with_reducible rfl)] | rw [if_neg (by first | with_reducible assumption | ((with_reducible refine nI_lt ?_ ?_); omega; omega) | ((with_reducible refine nI_nlt ?_ ?_); omega; omega) | with_reducible exact ne10 | with_reducible rfl)])); exact j1⟩
          · exact Or.inr ⟨z, by (repeat (first | rw [ck_t (by first | with_reducible assumption | ((with_reducible apply ixA_of); (with_reducible assumption); omega; omega) | ((with_reducible apply isAr_of); (with_reducible assumption); decide) | ((with_reducible apply nI_ne0); omega; omega) | with_reducible exact isB_0 | with_reducible exact isB_1 | with_reducible exact isB_bI _)] | rw [bd_r (by with_reducible assumption)] | rw [bd_s] | rw [bd2_s] | rw [bd3_s] | rw [nm_s] | rw [nI_clamp (by omega)] | rw [nI_1] | rw [if_neg (show ¬ nI 1 = 0 by decide)] | rw [if_pos (show nI 1 = 1 from rfl)] | rw [(tri _ _).2 z] | rw [if_pos (by first | with_reducible assumption | ((with_reducible refine nI_lt ?_ ?_); omega; omega) | ((with_reducible refine nI_nlt ?_ ?_); omega; omega) | with_reducible exact ne10 | with_reducible rfl)] | rw [if_neg (by first | with_reducible assumption | ((with_reducible refine nI_lt ?_ ?_); omega; omega) | ((with_reducible refine nI_nlt ?_ ?_); omega; omega) | with_reducible exact ne10 | with_reducible rfl)])); exact j0⟩
        | 2, _ =>
          rcases s3 with ⟨rfl, s3⟩ | ⟨rfl, s3⟩
          · exact Or.inl ⟨s3, by (repeat (first | rw [ck_t (by first | with_reducible assumption | ((with_reducible apply ixA_of); (with_reducible assumption); omega; omega) | ((with_reducible apply isAr_of); (with_reducible assumption); decide) | ((with_reducible apply nI_ne0); omega; omega) | with_reducible exact isB_0 | with_reducible exact isB_1 | with_reducible exact isB_bI _)] | rw [bd_r (by with_reducible assumption)] | rw [bd_s] | rw [bd2_s] | rw [bd3_s] | rw [nm_s] | rw [nI_clamp (by omega)] | rw [nI_1] | rw [if_neg (show ¬ nI 2 = 0 by decide)] | rw [if_neg (show ¬ nI 2 = 1 by decide)] | rw [if_pos (show nI 2 = 2 from rfl)] | rw [bd_e (s1)] | rw [if_pos (by first | with_reducible assumption | ((with_reducible refine nI_lt ?_ ?_); omega; omega) | ((with_reducible refine nI_nlt ?_ ?_); omega; omega) | with_reducible exact ne10 | with_reducible rfl)] | rw [if_neg (by first | with_reducible assumption | ((with_reducible refine nI_lt ?_ ?_); omega; omega) | ((with_reducible refine nI_nlt ?_ ?_); omega; omega) | with_reducible exact ne10 | with_reducible rfl)])); exact j1⟩
          · exact Or.inr ⟨s3, by (repeat (first | rw [ck_t (by first | with_reducible assumption | ((with_reducible apply ixA_of); (with_reducible assumption); omega; omega) | ((with_reducible apply isAr_of); (with_reducible assumption); decide) | ((with_reducible apply nI_ne0); omega; omega) | with_reducible exact isB_0 | with_reducible exact isB_1 | with_reducible exact isB_bI _)] | rw [bd_r (by with_reducible assumption)] | rw [bd_s] | rw [bd2_s] | rw [bd3_s] | rw [nm_s] | rw [nI_clamp (by omega)] | rw [nI_1] | rw [if_neg (show ¬ nI 2 = 0 by decide)] | rw [if_neg (show ¬ nI 2 = 1 by decide)] | rw [if_pos (show nI 2 = 2 from rfl)] | rw [bd_e (s1)] | rw [if_pos (by first | with_reducible assumption | ((with_reducible refine nI_lt ?_ ?_); omega; omega) | ((with_reducible refine nI_nlt ?_ ?_); omega; omega) | with_reducible exact ne10 | with_reducible rfl)] | rw [if_neg (by first | with_reducible assumption | ((with_reducible refine nI_lt ?_ ?_); omega; omega) | ((with_reducible refine nI_nlt ?_ ?_); omega; omega) | with_reducible exact ne10 | with_reducible rfl)])); exact j0⟩
        | 3, _ =>
          rcases s3 with ⟨rfl, s3⟩ | ⟨rfl, s3⟩
          · rcases u3 with ⟨rfl, u3⟩ | ⟨rfl, u3⟩
            · exact Or.inl ⟨⟨s3, u3⟩, by (repeat (first | rw [ck_t (by first | with_reducible assumption | ((with_reducible apply ixA_of); (with_reducible assumption); omega; omega) | ((with_reducible apply isAr_of); (with_reducible assumption); decide) | ((with_reducible apply nI_ne0); omega; omega) | with_reducible exact isB_0 | with_reducible exact isB_1 | with_reducible exact isB_bI _)] | rw [bd_r (by with_reducible assumption)] | rw [bd_s] | rw [bd2_s] | rw [bd3_s] | rw [nm_s] | rw [nI_clamp (by omega)] | rw [nI_1] | rw [if_neg (show ¬ nI 3 = 0 by decide)] | rw [if_neg (show ¬ nI 3 = 1 by decide)] | rw [if_neg (show ¬ nI 3 = 2 by decide)] | rw [if_pos (show nI 3 = 3 from rfl)] | rw [bd_e (s1)] | rw [bd_e (u1)] | rw [if_pos (by first | with_reducible assumption | ((with_reducible refine nI_lt ?_ ?_); omega; omega) | ((with_reducible refine nI_nlt ?_ ?_); omega; omega) | with_reducible exact ne10 | with_reducible rfl)] | rw [if_neg (by first | with_reducible assumption | ((with_reducible refine nI_lt ?_ ?_); omega; omega) | ((with_reducible refine nI_nlt ?_ ?_); omega; omega) | with_reducible exact ne10 | with_reducible rfl)])); exact j1⟩
            · exact Or.inr ⟨fun z => u3 z.2, by (repeat (first | rw [ck_t (by first | with_reducible assumption | ((with_reducible apply ixA_of); (with_reducible assumption); omega; omega) | ((with_reducible apply isAr_of); (with_reducible assumption); decide) | ((with_reducible apply nI_ne0); omega; omega) | with_reducible exact isB_0 | with_reducible exact isB_1 | with_reducible exact isB_bI _)] | rw [bd_r (by with_reducible assumption)] | rw [bd_s] | rw [bd2_s] | rw [bd3_s] | rw [nm_s] | rw [nI_clamp (by omega)] | rw [nI_1] | rw [if_neg (show ¬ nI 3 = 0 by decide)] | rw [if_neg (show ¬ nI 3 = 1 by decide)] | rw [if_neg (show ¬ nI 3 = 2 by decide)] | rw [if_pos (show nI 3 = 3 from rfl)] | rw [bd_e (s1)] | rw [bd_e (u1)] | rw [if_pos (by first | with_reducible assumption | ((with_reducible refine nI_lt ?_ ?_); omega; omega) | ((with_reducible refine nI_nlt ?_ ?_); omega; omega) | with_reducible exact ne10 | with_reducible rfl)] | rw [if_neg (by first | with_reducible assumption | ((with_reducible refine nI_lt ?_ ?_); omega; omega) | ((with_reducible refine nI_nlt ?_ ?_); omega; omega) | with_reducible exact ne10 | with_reducible rfl)])); exact j0⟩
          · exact Or.inr ⟨fun z => s3 z.1, by (repeat (first | rw [ck_t (by first | with_reducible assumption | ((with_reducible apply ixA_of); (with_reducible assumption); omega; omega) | ((with_reducible apply isAr_of); (with_reducible assumption); decide) | ((with_reducible apply nI_ne0); omega; omega) | with_reducible exact isB_0 | with_reducible exact isB_1 | with_reducible exact isB_bI _)] | rw [bd_r (by with_reducible assumption)] | rw [bd_s] | rw [bd2_s] | rw [bd3_s] | rw [nm_s] | rw [nI_clamp (by omega)] | rw [nI_1] | rw [if_neg (show ¬ nI 3 = 0 by decide)] | rw [if_neg (show ¬ nI 3 = 1 by decide)] | rw [if_neg (show ¬ nI 3 = 2 by decide)] | rw [if_pos (show nI 3 = 3 from rfl)] | rw [bd_e (s1)] | rw [if_pos (by first | with_reducible assumption | ((with_reducible refine nI_lt ?_ ?_); omega; omega) | ((with_reducible refine nI_nlt ?_ ?_); omega; omega) | with_reducible exact ne10 | with_reducible rfl)] | rw [if_neg (by first | with_reducible assumption | ((with_reducible refine nI_lt ?_ ?_); omega; omega) | ((with_reducible refine nI_nlt ?_ ?_); omega; omega) | with_reducible exact ne10 | with_reducible rfl)])); exact j0⟩
        | 4, _ =>
          have e36 := (hN.pc hP).2.2.2.2.2
          have g36 : mX8_get K R N (o + 2118) (nI p) 36 = some (bL P.2.2.2.2) := by rw [get_ok (a1 := 36) (w := 36) hm rfl (by omega) (by omega), e36]
          by_cases z : P.1.length = 3
          · cases hb : P.2.2.2.2 with
            | false => exact Or.inr ⟨fun q => (by have := q.2; rw [hb] at this; exact Bool.false_ne_true this), by (repeat (first | rw [ck_t (by first | with_reducible assumption | ((with_reducible apply ixA_of); (with_reducible assumption); omega; omega) | ((with_reducible apply isAr_of); (with_reducible assumption); decide) | ((with_reducible apply nI_ne0); omega; omega) | with_reducible exact isB_0 | with_reducible exact isB_1 | with_reducible exact isB_bI _)] | rw [bd_r (by with_reducible assumption)] | rw [bd_s] | rw [bd2_s] | rw [bd3_s] | rw [nm_s] | rw [nI_clamp (by omega)] | rw [nI_1] | rw [if_neg (show ¬ nI 4 = 0 by decide)] | rw [if_neg (show ¬ nI 4 = 1 by decide)] | rw [if_neg (show ¬ nI 4 = 2 by decide)] | rw [if_neg (show ¬ nI 4 = 3 by decide)] | rw [(tri _ _).1 z] | rw [bd_e (g36)] | rw [hb] | rw [if_neg (show ¬ bL false = 1 by decide)] | rw [if_pos (by first | with_reducible assumption | ((with_reducible refine nI_lt ?_ ?_); omega; omega) | ((with_reducible refine nI_nlt ?_ ?_); omega; omega) | with_reducible exact ne10 | with_reducible rfl)] | rw [if_neg (by first | with_reducible assumption | ((with_reducible refine nI_lt ?_ ?_); omega; omega) | ((with_reducible refine nI_nlt ?_ ?_); omega; omega) | with_reducible exact ne10 | with_reducible rfl)])); exact j0⟩
            | true => exact Or.inl ⟨⟨z, hb⟩, by (repeat (first | rw [ck_t (by first | with_reducible assumption | ((with_reducible apply ixA_of); (with_reducible assumption); omega; omega) | ((with_reducible apply isAr_of); (with_reducible assumption); decide) | ((with_reducible apply nI_ne0); omega; omega) | with_reducible exact isB_0 | with_reducible exact isB_1 | with_reducible exact isB_bI _)] | rw [bd_r (by with_reducible assumption)] | rw [bd_s] | rw [bd2_s] | rw [bd3_s] | rw [nm_s] | rw [nI_clamp (by omega)] | rw [nI_1] | rw [if_neg (show ¬ nI 4 = 0 by decide)] | rw [if_neg (show ¬ nI 4 = 1 by decide)] | rw [if_neg (show ¬ nI 4 = 2 by decide)] | rw [if_neg (show ¬ nI 4 = 3 by decide)] | rw [(tri _ _).1 z] | rw [bd_e (g36)] | rw [hb] | rw [if_pos (show bL true = 1 from rfl)] | rw [if_pos (by first | with_reducible assumption | ((with_reducible refine nI_lt ?_ ?_); omega; omega) | ((with_reducible refine nI_nlt ?_ ?_); omega; omega) | with_reducible exact ne10 | with_reducible rfl)] | rw [if_neg (by first | with_reducible assumption | ((with_reducible refine nI_lt ?_ ?_); omega; omega) | ((with_reducible refine nI_nlt ?_ ?_); omega; omega) | with_reducible exact ne10 | with_reducible rfl)])); exact j1⟩
          · exact Or.inr ⟨fun q => z q.1, by (repeat (first | rw [ck_t (by first | with_reducible assumption | ((with_reducible apply ixA_of); (with_reducible assumption); omega; omega) | ((with_reducible apply isAr_of); (with_reducible assumption); decide) | ((with_reducible apply nI_ne0); omega; omega) | with_reducible exact isB_0 | with_reducible exact isB_1 | with_reducible exact isB_bI _)] | rw [bd_r (by with_reducible assumption)] | rw [bd_s] | rw [bd2_s] | rw [bd3_s] | rw [nm_s] | rw [nI_clamp (by omega)] | rw [nI_1] | rw [if_neg (show ¬ nI 4 = 0 by decide)] | rw [if_neg (show ¬ nI 4 = 1 by decide)] | rw [if_neg (show ¬ nI 4 = 2 by decide)] | rw [if_neg (show ¬ nI 4 = 3 by decide)] | rw [(tri _ _).2 z] | rw [if_pos (by first | with_reducible assumption | ((with_reducible refine nI_lt ?_ ?_); omega; omega) | ((with_reducible refine nI_nlt ?_ ?_); omega; omega) | with_reducible exact ne10 | with_reducible rfl)] | rw [if_neg (by first | with_reducible assumption | ((with_reducible refine nI_lt ?_ ?_); omega; omega) | ((with_reducible refine nI_nlt ?_ ?_); omega; omega) | with_reducible exact ne10 | with_reducible rfl)])); exact j0⟩
theorem inv_about (o : Nat) (K : Kk) (R : Rr) (M : Mm) (a0 a1 : Int32) (hI : Inv o K R M) : ∃ (v : Int64) (M2 : Mm), mX7_about K R M o a0 a1 = some (v) ∧ mX8_about K R M (o + 2118) a0 a1 = some (v, M2) ∧ Inv o K R M2 := by
  have hI0 := hI
  obtain ⟨hs, hm, S, hw, hc, ho⟩ := hI
  have hs0 := hs
  have m0 := hm.1
  obtain ⟨ps, hps, hpp⟩ := now_ps hw
  obtain ⟨c, hc1, hc2, hcA, hcC, hnow⟩ := now_at hs0 hw hc hps
  have hq6 : psM (M.2 (o + 2118 + 1)) 0 ps := ho.2.2.2.2.2.1 ps hps
  have h40 := hpp.1
  have hn := hcC.1
  obtain ⟨s0, -, -, s2, -, -, -, -, -, -, s9, s10, -, -, -, -, -, -, ⟨i0, -⟩, -, -, -, -, -, -, -, r1, r2, -⟩ := hs
  rcases cases_n a0 ps.length (by omega) with h | ⟨p, hp, rfl⟩
  · refine ⟨-9000000000000000001, M, ?_, ?_, hI0⟩
    · unfold mX7_about
      (repeat (first | rw [ck_t (by first | with_reducible assumption | ((with_reducible apply ixA_of); (with_reducible assumption); omega; omega) | ((with_reducible apply isAr_of); (with_reducible assumption); decide) | ((with_reducible apply nI_ne0); omega; omega) | with_reducible exact isB_0 | with_reducible exact isB_1 | with_reducible exact isB_bI _)] | rw [bd_r (by with_reducible assumption)] | rw [bd_s] | rw [bd2_s] | rw [bd3_s] | rw [nm_s] | rw [nI_clamp (by omega)] | rw [nI_1] | rw [bd_e (isPiece_f hs0 hcA hn (hnow M rfl) h)] | rw [if_pos (by first | with_reducible assumption | ((with_reducible refine nI_lt ?_ ?_); omega; omega) | ((with_reducible refine nI_nlt ?_ ?_); omega; omega) | with_reducible exact ne10 | with_reducible rfl)] | rw [if_neg (by first | with_reducible assumption | ((with_reducible refine nI_lt ?_ ?_); omega; omega) | ((with_reducible refine nI_nlt ?_ ?_); omega; omega) | with_reducible exact ne10 | with_reducible rfl)]))
    · unfold mX8_about
      (repeat (first | rw [ck_t (by first | with_reducible assumption | ((with_reducible apply ixA_of); (with_reducible assumption); omega; omega) | ((with_reducible apply isAr_of); (with_reducible assumption); decide) | ((with_reducible apply nI_ne0); omega; omega) | with_reducible exact isB_0 | with_reducible exact isB_1 | with_reducible exact isB_bI _)] | rw [bd_r (by with_reducible assumption)] | rw [bd_s] | rw [bd2_s] | rw [bd3_s] | rw [nm_s] | rw [nI_clamp (by omega)] | rw [nI_1] | rw [bd_e (isPieceM_f hm hq6 h h40)] | rw [if_pos (by first | with_reducible assumption | ((with_reducible refine nI_lt ?_ ?_); omega; omega) | ((with_reducible refine nI_nlt ?_ ?_); omega; omega) | with_reducible exact ne10 | with_reducible rfl)] | rw [if_neg (by first | with_reducible assumption | ((with_reducible refine nI_lt ?_ ?_); omega; omega) | ((with_reducible refine nI_nlt ?_ ?_); omega; omega) | with_reducible exact ne10 | with_reducible rfl)]))
  · have q1 := isPiece_t hs0 hcA hn (hnow M rfl) hp h40
    have q2 := isPieceM_t hm hq6 hp h40
    obtain ⟨P, hP⟩ := get_ex hp
    have iP := hpp.2 p P hP
    obtain ⟨g0, g1, g2, g3⟩ := hcA
    obtain ⟨k1, k2⟩ := g3 p (by omega)
    obtain ⟨k20, kr, ka⟩ := k2
    have kaO := ka.1
    have pC := hcC.2 p P hP
    have pM := hq6.pc hP
    have sP := iP.1.2.1
    rcases cases_n a1 6 (by omega) with h | ⟨k, hk, rfl⟩
    · have ne : ∀ k, k < 6 → ¬ a1 = nI k := fun k hk q => by
        subst q
        rcases h with h | h
        · exact nI_pos (by omega) h
        · have := (nI_leI (by decide : 6 < 2 ^ 31) (show k < 2 ^ 31 by omega)).mp h
          omega
      have n0 : ¬ a1 = 0 := ne 0 (by decide)
      have n1 : ¬ a1 = 1 := ne 1 (by decide)
      have n2 : ¬ a1 = 2 := ne 2 (by decide)
      have n3 : ¬ a1 = 3 := ne 3 (by decide)
      have n4 : ¬ a1 = 4 := ne 4 (by decide)
      have n5 : ¬ a1 = 5 := ne 5 (by decide)
      refine ⟨-9000000000000000001, M, ?_, ?_, hI0⟩
      · unfold mX7_about
        (repeat (first | rw [ck_t (by first | with_reducible assumption | ((with_reducible apply ixA_of); (with_reducible assumption); omega; omega) | ((with_reducible apply isAr_of); (with_reducible assumption); decide) | ((with_reducible apply nI_ne0); omega; omega) | with_reducible exact isB_0 | with_reducible exact isB_1 | with_reducible exact isB_bI _)] | rw [bd_r (by with_reducible assumption)] | rw [bd_s] | rw [bd2_s] | rw [bd3_s] | rw [nm_s] | rw [nI_clamp (by omega)] | rw [nI_1] | rw [bd_e (q1)] | rw [bd_e (hnow M rfl)] | rw [if_pos (by first | with_reducible assumption | ((with_reducible refine nI_lt ?_ ?_); omega; omega) | ((with_reducible refine nI_nlt ?_ ?_); omega; omega) | with_reducible exact ne10 | with_reducible rfl)] | rw [if_neg (by first | with_reducible assumption | ((with_reducible refine nI_lt ?_ ?_); omega; omega) | ((with_reducible refine nI_nlt ?_ ?_); omega; omega) | with_reducible exact ne10 | with_reducible rfl)]))
      · unfold mX8_about
        (repeat (first | rw [ck_t (by first | with_reducible assumption | ((with_reducible apply ixA_of); (with_reducible assumption); omega; omega) | ((with_reducible apply isAr_of); (with_reducible assumption); decide) | ((with_reducible apply nI_ne0); omega; omega) | with_reducible exact isB_0 | with_reducible exact isB_1 | with_reducible exact isB_bI _)] | rw [bd_r (by with_reducible assumption)] | rw [bd_s] | rw [bd2_s] | rw [bd3_s] | rw [nm_s] | rw [nI_clamp (by omega)] | rw [nI_1] | rw [bd_e (q2)] | rw [bd_e (isInN_f (n := 6) h (by decide) (by decide))] | rw [if_pos (by first | with_reducible assumption | ((with_reducible refine nI_lt ?_ ?_); omega; omega) | ((with_reducible refine nI_nlt ?_ ?_); omega; omega) | with_reducible exact ne10 | with_reducible rfl)] | rw [if_neg (by first | with_reducible assumption | ((with_reducible refine nI_lt ?_ ?_); omega; omega) | ((with_reducible refine nI_nlt ?_ ?_); omega; omega) | with_reducible exact ne10 | with_reducible rfl)]))
    · have y := isInN_t (K := K) (R := R) (M := M) (n := 6) (b := 5) hk (by decide) (by decide)
      have gt : ∀ (x : Int32) w, x = nI w → w < 37 → mX8_get K R M (o + 2118) (nI p) x = some (M.2 (o + 2118 + 1) (37 * p + w)) := fun x w hx hw => get_ok hm hx (by omega) hw
      match k, hk with
      | 0, _ =>
        refine ⟨(nI P.1.length).toInt64, M, ?_, ?_, hI0⟩
        · unfold mX7_about
          (repeat (first | rw [ck_t (by first | with_reducible assumption | ((with_reducible apply ixA_of); (with_reducible assumption); omega; omega) | ((with_reducible apply isAr_of); (with_reducible assumption); decide) | ((with_reducible apply nI_ne0); omega; omega) | with_reducible exact isB_0 | with_reducible exact isB_1 | with_reducible exact isB_bI _)] | rw [bd_r (by with_reducible assumption)] | rw [bd_s] | rw [bd2_s] | rw [bd3_s] | rw [nm_s] | rw [nI_clamp (by omega)] | rw [nI_1] | rw [bd_e (q1)] | rw [bd_e (hnow M rfl)] | rw [if_pos (show nI 0 = 0 from rfl)] | rw [pC.1.1] | rw [if_pos (by first | with_reducible assumption | ((with_reducible refine nI_lt ?_ ?_); omega; omega) | ((with_reducible refine nI_nlt ?_ ?_); omega; omega) | with_reducible exact ne10 | with_reducible rfl)] | rw [if_neg (by first | with_reducible assumption | ((with_reducible refine nI_lt ?_ ?_); omega; omega) | ((with_reducible refine nI_nlt ?_ ?_); omega; omega) | with_reducible exact ne10 | with_reducible rfl)]))
        · unfold mX8_about
          (repeat (first | rw [ck_t (by first | with_reducible assumption | ((with_reducible apply ixA_of); (with_reducible assumption); omega; omega) | ((with_reducible apply isAr_of); (with_reducible assumption); decide) | ((with_reducible apply nI_ne0); omega; omega) | with_reducible exact isB_0 | with_reducible exact isB_1 | with_reducible exact isB_bI _)] | rw [bd_r (by with_reducible assumption)] | rw [bd_s] | rw [bd2_s] | rw [bd3_s] | rw [nm_s] | rw [nI_clamp (by omega)] | rw [nI_1] | rw [bd_e (q2)] | rw [bd_e (y)] | rw [if_pos (show nI 0 = 0 from rfl)] | rw [bd_e (size_ok hm hq6 hP h40)] | rw [if_pos (by first | with_reducible assumption | ((with_reducible refine nI_lt ?_ ?_); omega; omega) | ((with_reducible refine nI_nlt ?_ ?_); omega; omega) | with_reducible exact ne10 | with_reducible rfl)] | rw [if_neg (by first | with_reducible assumption | ((with_reducible refine nI_lt ?_ ?_); omega; omega) | ((with_reducible refine nI_nlt ?_ ?_); omega; omega) | with_reducible exact ne10 | with_reducible rfl)]))
      | 1, _ =>
        obtain ⟨v, v1, v2⟩ := areaC_ok ka pC.1 (by omega) (by omega) (by decide) iP.1.B
        obtain ⟨w, N, w1, w2, w3⟩ := areaOf_ok hm hq6 hP h40 iP
        obtain rfl : v = w := eq64.mpr (v2.trans w2.symm)
        refine ⟨v, N, ?_, ?_, hI0.kp (w3.kp (by decide) (by decide) (by decide) (by decide))⟩
        · unfold mX7_about
          (repeat (first | rw [ck_t (by first | with_reducible assumption | ((with_reducible apply ixA_of); (with_reducible assumption); omega; omega) | ((with_reducible apply isAr_of); (with_reducible assumption); decide) | ((with_reducible apply nI_ne0); omega; omega) | with_reducible exact isB_0 | with_reducible exact isB_1 | with_reducible exact isB_bI _)] | rw [bd_r (by with_reducible assumption)] | rw [bd_s] | rw [bd2_s] | rw [bd3_s] | rw [nm_s] | rw [nI_clamp (by omega)] | rw [nI_1] | rw [bd_e (q1)] | rw [bd_e (hnow M rfl)] | rw [if_neg (show ¬ nI 1 = 0 by decide)] | rw [if_pos (show nI 1 = 1 from rfl)] | rw [bd_e (v1)] | rw [if_pos (by first | with_reducible assumption | ((with_reducible refine nI_lt ?_ ?_); omega; omega) | ((with_reducible refine nI_nlt ?_ ?_); omega; omega) | with_reducible exact ne10 | with_reducible rfl)] | rw [if_neg (by first | with_reducible assumption | ((with_reducible refine nI_lt ?_ ?_); omega; omega) | ((with_reducible refine nI_nlt ?_ ?_); omega; omega) | with_reducible exact ne10 | with_reducible rfl)]))
        · unfold mX8_about
          (repeat (first | rw [ck_t (by first | with_reducible assumption | ((with_reducible apply ixA_of); (with_reducible assumption); omega; omega) | ((with_reducible apply isAr_of); (with_reducible assumption); decide) | ((with_reducible apply nI_ne0); omega; omega) | with_reducible exact isB_0 | with_reducible exact isB_1 | with_reducible exact isB_bI _)] | rw [bd_r (by with_reducible assumption)] | rw [bd_s] | rw [bd2_s] | rw [bd3_s] | rw [nm_s] | rw [nI_clamp (by omega)] | rw [nI_1] | rw [bd_e (q2)] | rw [bd_e (y)] | rw [if_neg (show ¬ nI 1 = 0 by decide)] | rw [if_pos (show nI 1 = 1 from rfl)] | rw [bd2_e (w1)] | rw [if_pos (by first | with_reducible assumption | ((with_reducible refine nI_lt ?_ ?_); omega; omega) | ((with_reducible refine nI_nlt ?_ ?_); omega; omega) | with_reducible exact ne10 | with_reducible rfl)] | rw [if_neg (by first | with_reducible assumption | ((with_reducible refine nI_lt ?_ ?_); omega; omega) | ((with_reducible refine nI_nlt ?_ ?_); omega; omega) | with_reducible exact ne10 | with_reducible rfl)]))
      | 2, _ =>
        refine ⟨M.2 (o + 2118 + 1) (37 * p + 33), M, ?_, ?_, hI0⟩
        · unfold mX7_about
          (repeat (first | rw [ck_t (by first | with_reducible assumption | ((with_reducible apply ixA_of); (with_reducible assumption); omega; omega) | ((with_reducible apply isAr_of); (with_reducible assumption); decide) | ((with_reducible apply nI_ne0); omega; omega) | with_reducible exact isB_0 | with_reducible exact isB_1 | with_reducible exact isB_bI _)] | rw [bd_r (by with_reducible assumption)] | rw [bd_s] | rw [bd2_s] | rw [bd3_s] | rw [nm_s] | rw [nI_clamp (by omega)] | rw [nI_1] | rw [bd_e (q1)] | rw [bd_e (hnow M rfl)] | rw [if_neg (show ¬ nI 2 = 0 by decide)] | rw [if_neg (show ¬ nI 2 = 1 by decide)] | rw [if_pos (show nI 2 = 2 from rfl)] | rw [if_pos (by first | with_reducible assumption | ((with_reducible refine nI_lt ?_ ?_); omega; omega) | ((with_reducible refine nI_nlt ?_ ?_); omega; omega) | with_reducible exact ne10 | with_reducible rfl)] | rw [if_neg (by first | with_reducible assumption | ((with_reducible refine nI_lt ?_ ?_); omega; omega) | ((with_reducible refine nI_nlt ?_ ?_); omega; omega) | with_reducible exact ne10 | with_reducible rfl)]))
          congr 1
          rw [eq64, i64_int, pC.2.1, pM.2.2.1]
        · unfold mX8_about
          (repeat (first | rw [ck_t (by first | with_reducible assumption | ((with_reducible apply ixA_of); (with_reducible assumption); omega; omega) | ((with_reducible apply isAr_of); (with_reducible assumption); decide) | ((with_reducible apply nI_ne0); omega; omega) | with_reducible exact isB_0 | with_reducible exact isB_1 | with_reducible exact isB_bI _)] | rw [bd_r (by with_reducible assumption)] | rw [bd_s] | rw [bd2_s] | rw [bd3_s] | rw [nm_s] | rw [nI_clamp (by omega)] | rw [nI_1] | rw [bd_e (q2)] | rw [bd_e (y)] | rw [if_neg (show ¬ nI 2 = 0 by decide)] | rw [if_neg (show ¬ nI 2 = 1 by decide)] | rw [if_pos (show nI 2 = 2 from rfl)] | rw [bd_e (gt 33 33 rfl (by decide))] | rw [if_pos (by first | with_reducible assumption | ((with_reducible refine nI_lt ?_ ?_); omega; omega) | ((with_reducible refine nI_nlt ?_ ?_); omega; omega) | with_reducible exact ne10 | with_reducible rfl)] | rw [if_neg (by first | with_reducible assumption | ((with_reducible refine nI_lt ?_ ?_); omega; omega) | ((with_reducible refine nI_nlt ?_ ?_); omega; omega) | with_reducible exact ne10 | with_reducible rfl)]))
      | 3, _ =>
        refine ⟨M.2 (o + 2118 + 1) (37 * p + 34), M, ?_, ?_, hI0⟩
        · unfold mX7_about
          (repeat (first | rw [ck_t (by first | with_reducible assumption | ((with_reducible apply ixA_of); (with_reducible assumption); omega; omega) | ((with_reducible apply isAr_of); (with_reducible assumption); decide) | ((with_reducible apply nI_ne0); omega; omega) | with_reducible exact isB_0 | with_reducible exact isB_1 | with_reducible exact isB_bI _)] | rw [bd_r (by with_reducible assumption)] | rw [bd_s] | rw [bd2_s] | rw [bd3_s] | rw [nm_s] | rw [nI_clamp (by omega)] | rw [nI_1] | rw [bd_e (q1)] | rw [bd_e (hnow M rfl)] | rw [if_neg (show ¬ nI 3 = 0 by decide)] | rw [if_neg (show ¬ nI 3 = 1 by decide)] | rw [if_neg (show ¬ nI 3 = 2 by decide)] | rw [if_pos (show nI 3 = 3 from rfl)] | rw [if_pos (by first | with_reducible assumption | ((with_reducible refine nI_lt ?_ ?_); omega; omega) | ((with_reducible refine nI_nlt ?_ ?_); omega; omega) | with_reducible exact ne10 | with_reducible rfl)] | rw [if_neg (by first | with_reducible assumption | ((with_reducible refine nI_lt ?_ ?_); omega; omega) | ((with_reducible refine nI_nlt ?_ ?_); omega; omega) | with_reducible exact ne10 | with_reducible rfl)]))
          congr 1
          rw [eq64, i64_int, pC.2.2.1, pM.2.2.2.1]
        · unfold mX8_about
          (repeat (first | rw [ck_t (by first | with_reducible assumption | ((with_reducible apply ixA_of); (with_reducible assumption); omega; omega) | ((with_reducible apply isAr_of); (with_reducible assumption); decide) | ((with_reducible apply nI_ne0); omega; omega) | with_reducible exact isB_0 | with_reducible exact isB_1 | with_reducible exact isB_bI _)] | rw [bd_r (by with_reducible assumption)] | rw [bd_s] | rw [bd2_s] | rw [bd3_s] | rw [nm_s] | rw [nI_clamp (by omega)] | rw [nI_1] | rw [bd_e (q2)] | rw [bd_e (y)] | rw [if_neg (show ¬ nI 3 = 0 by decide)] | rw [if_neg (show ¬ nI 3 = 1 by decide)] | rw [if_neg (show ¬ nI 3 = 2 by decide)] | rw [if_pos (show nI 3 = 3 from rfl)] | rw [bd_e (gt 34 34 rfl (by decide))] | rw [if_pos (by first | with_reducible assumption | ((with_reducible refine nI_lt ?_ ?_); omega; omega) | ((with_reducible refine nI_nlt ?_ ?_); omega; omega) | with_reducible exact ne10 | with_reducible rfl)] | rw [if_neg (by first | with_reducible assumption | ((with_reducible refine nI_lt ?_ ?_); omega; omega) | ((with_reducible refine nI_nlt ?_ ?_); omega; omega) | with_reducible exact ne10 | with_reducible rfl)]))
      | 4, _ =>
        refine ⟨M.2 (o + 2118 + 1) (37 * p + 35), M, ?_, ?_, hI0⟩
        · unfold mX7_about
          (repeat (first | rw [ck_t (by first | with_reducible assumption | ((with_reducible apply ixA_of); (with_reducible assumption); omega; omega) | ((with_reducible apply isAr_of); (with_reducible assumption); decide) | ((with_reducible apply nI_ne0); omega; omega) | with_reducible exact isB_0 | with_reducible exact isB_1 | with_reducible exact isB_bI _)] | rw [bd_r (by with_reducible assumption)] | rw [bd_s] | rw [bd2_s] | rw [bd3_s] | rw [nm_s] | rw [nI_clamp (by omega)] | rw [nI_1] | rw [bd_e (q1)] | rw [bd_e (hnow M rfl)] | rw [if_neg (show ¬ nI 4 = 0 by decide)] | rw [if_neg (show ¬ nI 4 = 1 by decide)] | rw [if_neg (show ¬ nI 4 = 2 by decide)] | rw [if_neg (show ¬ nI 4 = 3 by decide)] | rw [if_pos (show nI 4 = 4 from rfl)] | rw [if_pos (by first | with_reducible assumption | ((with_reducible refine nI_lt ?_ ?_); omega; omega) | ((with_reducible refine nI_nlt ?_ ?_); omega; omega) | with_reducible exact ne10 | with_reducible rfl)] | rw [if_neg (by first | with_reducible assumption | ((with_reducible refine nI_lt ?_ ?_); omega; omega) | ((with_reducible refine nI_nlt ?_ ?_); omega; omega) | with_reducible exact ne10 | with_reducible rfl)]))
          congr 1
          rw [eq64, i64_int, pC.2.2.2.1, pM.2.2.2.2.1]
        · unfold mX8_about
          (repeat (first | rw [ck_t (by first | with_reducible assumption | ((with_reducible apply ixA_of); (with_reducible assumption); omega; omega) | ((with_reducible apply isAr_of); (with_reducible assumption); decide) | ((with_reducible apply nI_ne0); omega; omega) | with_reducible exact isB_0 | with_reducible exact isB_1 | with_reducible exact isB_bI _)] | rw [bd_r (by with_reducible assumption)] | rw [bd_s] | rw [bd2_s] | rw [bd3_s] | rw [nm_s] | rw [nI_clamp (by omega)] | rw [nI_1] | rw [bd_e (q2)] | rw [bd_e (y)] | rw [if_neg (show ¬ nI 4 = 0 by decide)] | rw [if_neg (show ¬ nI 4 = 1 by decide)] | rw [if_neg (show ¬ nI 4 = 2 by decide)] | rw [if_neg (show ¬ nI 4 = 3 by decide)] | rw [if_pos (show nI 4 = 4 from rfl)] | rw [bd_e (gt 35 35 rfl (by decide))] | rw [if_pos (by first | with_reducible assumption | ((with_reducible refine nI_lt ?_ ?_); omega; omega) | ((with_reducible refine nI_nlt ?_ ?_); omega; omega) | with_reducible exact ne10 | with_reducible rfl)] | rw [if_neg (by first | with_reducible assumption | ((with_reducible refine nI_lt ?_ ?_); omega; omega) | ((with_reducible refine nI_nlt ?_ ?_); omega; omega) | with_reducible exact ne10 | with_reducible rfl)]))
      | 5, _ =>
        refine ⟨bL P.2.2.2.2, M, ?_, ?_, hI0⟩
        · unfold mX7_about
          (repeat (first | rw [ck_t (by first | with_reducible assumption | ((with_reducible apply ixA_of); (with_reducible assumption); omega; omega) | ((with_reducible apply isAr_of); (with_reducible assumption); decide) | ((with_reducible apply nI_ne0); omega; omega) | with_reducible exact isB_0 | with_reducible exact isB_1 | with_reducible exact isB_bI _)] | rw [bd_r (by with_reducible assumption)] | rw [bd_s] | rw [bd2_s] | rw [bd3_s] | rw [nm_s] | rw [nI_clamp (by omega)] | rw [nI_1] | rw [bd_e (q1)] | rw [bd_e (hnow M rfl)] | rw [if_neg (show ¬ nI 5 = 0 by decide)] | rw [if_neg (show ¬ nI 5 = 1 by decide)] | rw [if_neg (show ¬ nI 5 = 2 by decide)] | rw [if_neg (show ¬ nI 5 = 3 by decide)] | rw [if_neg (show ¬ nI 5 = 4 by decide)] | rw [if_pos (show nI 5 = 5 from rfl)] | rw [pC.2.2.2.2] | rw [if_pos (by first | with_reducible assumption | ((with_reducible refine nI_lt ?_ ?_); omega; omega) | ((with_reducible refine nI_nlt ?_ ?_); omega; omega) | with_reducible exact ne10 | with_reducible rfl)] | rw [if_neg (by first | with_reducible assumption | ((with_reducible refine nI_lt ?_ ?_); omega; omega) | ((with_reducible refine nI_nlt ?_ ?_); omega; omega) | with_reducible exact ne10 | with_reducible rfl)]))
          cases P.2.2.2.2 with
          | false => exact if_pos rfl
          | true => exact if_neg (by decide)
        · unfold mX8_about
          (repeat (first | rw [ck_t (by first | with_reducible assumption | ((with_reducible apply ixA_of); (with_reducible assumption); omega; omega) | ((with_reducible apply isAr_of); (with_reducible assumption); decide) | ((with_reducible apply nI_ne0); omega; omega) | with_reducible exact isB_0 | with_reducible exact isB_1 | with_reducible exact isB_bI _)] | rw [bd_r (by with_reducible assumption)] | rw [bd_s] | rw [bd2_s] | rw [bd3_s] | rw [nm_s] | rw [nI_clamp (by omega)] | rw [nI_1] | rw [bd_e (q2)] | rw [bd_e (y)] | rw [if_neg (show ¬ nI 5 = 0 by decide)] | rw [if_neg (show ¬ nI 5 = 1 by decide)] | rw [if_neg (show ¬ nI 5 = 2 by decide)] | rw [if_neg (show ¬ nI 5 = 3 by decide)] | rw [if_neg (show ¬ nI 5 = 4 by decide)] | rw [bd_e (gt 36 36 rfl (by decide))] | rw [pM.2.2.2.2.2] | rw [if_pos (by first | with_reducible assumption | ((with_reducible refine nI_lt ?_ ?_); omega; omega) | ((with_reducible refine nI_nlt ?_ ?_); omega; omega) | with_reducible exact ne10 | with_reducible rfl)] | rw [if_neg (by first | with_reducible assumption | ((with_reducible refine nI_lt ?_ ?_); omega; omega) | ((with_reducible refine nI_nlt ?_ ?_); omega; omega) | with_reducible exact ne10 | with_reducible rfl)]))
