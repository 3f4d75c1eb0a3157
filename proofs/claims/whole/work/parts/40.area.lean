/-! AREAS -/
def gp (l : List Pt) (i : Nat) : Pt := l[i]?.getD (0, 0)
theorem gp_of {l : List Pt} {i : Nat} {p : Pt} (h : l[i]? = some p) : gp l i = p := by unfold gp; rw [h]; rfl
theorem gp_get {l : List Pt} {i : Nat} (h : i < l.length) : l[i]? = some (gp l i) := by obtain ⟨p, hp⟩ := get_ex h; rw [gp_of hp]; exact hp
def tm (l : List Pt) (i : Nat) : Int := (gp l i).1 * (gp l ((i + 1) % l.length)).2 - (gp l ((i + 1) % l.length)).1 * (gp l i).2
def sumN (f : Nat → Int) : Nat → Int
  | 0 => 0
  | n + 1 => sumN f n + f n
def area (l : List Pt) : Int := sumN (tm l) l.length
theorem sumN_ext {f g : Nat → Int} : ∀ {n : Nat}, (∀ i, i < n → f i = g i) → sumN f n = sumN g n
  | 0, _ => rfl
  | n + 1, h => by
    show sumN f n + f n = sumN g n + g n
    rw [sumN_ext (fun i hi => h i (by omega)), h n (by omega)]
theorem sumN_add (f : Nat → Int) (a : Nat) : ∀ b, sumN f (a + b) = sumN f a + sumN (fun i => f (a + i)) b
  | 0 => by show sumN f a = sumN f a + 0; omega
  | b + 1 => by
    show sumN f (a + b) + f (a + b) = sumN f a + (sumN (fun i => f (a + i)) b + f (a + b))
    rw [sumN_add f a b]; omega
theorem sumN_shift (f : Nat → Int) {n k : Nat} (hk : k ≤ n) : sumN (fun i => f ((k + i) % n)) n = sumN f n := by
  have a := sumN_add (fun i => f ((k + i) % n)) (n - k) k
  have b := sumN_add f k (n - k)
  rw [show n - k + k = n by omega] at a
  rw [show k + (n - k) = n by omega] at b
  rw [a, b]
  have c : sumN (fun i => f ((k + i) % n)) (n - k) = sumN (fun i => f (k + i)) (n - k) := sumN_ext (fun i hi => by rw [Nat.mod_eq_of_lt (by omega)])
  have d : sumN (fun i => f ((k + (n - k + i)) % n)) k = sumN f k := sumN_ext (fun i hi => by
    rw [show k + (n - k + i) = i + n by omega, Nat.add_mod_right, Nat.mod_eq_of_lt (by omega)])
  rw [c, d]; omega
theorem gp_rot {l : List Pt} {k i : Nat} (hk : k < l.length) (hi : i < l.length) : gp (rotL k l) i = gp l ((k + i) % l.length) := by
  unfold gp; rw [rotL_get hk hi]
theorem tm_rot {l : List Pt} {k i : Nat} (hk : k < l.length) (hi : i < l.length) : tm (rotL k l) i = tm l ((k + i) % l.length) := by
  unfold tm
  rw [rotL_len, gp_rot hk hi, gp_rot hk (mod_lt' hi), Nat.add_mod_mod, Nat.mod_add_mod, Nat.add_assoc]
theorem area_rot {l : List Pt} {k : Nat} (hk : k < l.length) : area (rotL k l) = area l := by
  unfold area
  rw [rotL_len, sumN_ext (fun i hi => tm_rot hk hi), sumN_shift (tm l) (by omega)]
theorem area_norm {l : List Pt} (h : ∃ k, isLs l k) : area (norm l) = area l := by
  obtain ⟨k, hk⟩ := h
  rw [norm_of hk, area_rot (isLs_lt hk)]
theorem gp_map {l : List Pt} {f : Pt → Pt} {i : Nat} (h : i < l.length) : gp (l.map f) i = f (gp l i) := gp_of (map_get (gp_get h))
theorem area_map {l : List Pt} {t a b : Int} (ht : t = 1 ∨ t = -1) : area (l.map (mvP t a b)) = area l := by
  have key : ∀ m, m ≤ l.length → sumN (tm (l.map (mvP t a b))) m = sumN (tm l) m + t * b * (sumN (fun i => (gp l i).1) m - sumN (fun i => (gp l ((1 + i) % l.length)).1) m) + t * a * (sumN (fun i => (gp l ((1 + i) % l.length)).2) m - sumN (fun i => (gp l i).2) m) := by
    intro m
    induction m with
    | zero => intro _; simp [sumN]
    | succ m ih =>
      intro hm
      have h1 := ih (by omega)
      have h2 : tm (l.map (mvP t a b)) m = tm l m + t * b * ((gp l m).1 - (gp l ((1 + m) % l.length)).1) + t * a * ((gp l ((1 + m) % l.length)).2 - (gp l m).2) := by
        unfold tm
        rw [List.length_map, gp_map (by omega), gp_map (mod_lt' (by omega)), Nat.add_comm 1 m]
        generalize gp l m = p
        generalize gp l ((m + 1) % l.length) = q
        unfold mvP
        rcases ht with rfl | rfl <;> grind
      simp only [sumN]
      rw [h1, h2]
      grind
  have e := key l.length (Nat.le_refl _)
  unfold area
  rw [List.length_map, e]
  by_cases h0 : l.length = 0
  · rw [h0]; simp [sumN]
  · rw [sumN_shift (fun i => (gp l i).1) (n := l.length) (k := 1) (by omega), sumN_shift (fun i => (gp l i).2) (n := l.length) (k := 1) (by omega)]
    grind
theorem area_plc {P : Pc} (h : isPc P) : area (plc P) = area P.1 := by
  rw [show plc P = norm (mvL P) from rfl, area_norm h.ls, area_map h.2.1]
theorem tm_b {l : List Pt} {i : Nat} (hB : inBs l) (hi : i < l.length) : -20000000000 ≤ tm l i ∧ tm l i ≤ 20000000000 := by
  obtain ⟨a1, a2, a3, a4⟩ := hB _ _ (gp_get hi)
  obtain ⟨b1, b2, b3, b4⟩ := hB _ _ (gp_get (mod_lt' hi))
  have u := mulb a1 a2 b3 b4
  have v := mulb b1 b2 a3 a4
  unfold tm
  omega
theorem sum_b {l : List Pt} (hB : inBs l) : ∀ m, m ≤ l.length → -20000000000 * (m : Int) ≤ sumN (tm l) m ∧ sumN (tm l) m ≤ 20000000000 * (m : Int)
  | 0, _ => by simp [sumN]
  | m + 1, h => by
    have a := sum_b hB m (by omega)
    have b := tm_b hB (i := m) (by omega)
    simp only [sumN]
    omega
theorem area_b {l : List Pt} (hB : inBs l) (hl : l.length ≤ 16) : -400000000000 ≤ area l ∧ area l ≤ 400000000000 := by
  have := sum_b hB l.length (Nat.le_refl _)
  unfold area
  omega
theorem shoe64 {x y z w : Int64} (h1 : inB (x.toInt, y.toInt)) (h2 : inB (z.toInt, w.toInt)) : (x * w - z * y).toInt = x.toInt * w.toInt - z.toInt * y.toInt := by
  obtain ⟨a1, a2, a3, a4⟩ := h1
  obtain ⟨b1, b2, b3, b4⟩ := h2
  simp only at *
  have u := mulb a1 a2 b3 b4
  have v := mulb b1 b2 a3 a4
  have m1 : (x * w).toInt = x.toInt * w.toInt := mul64b (by omega) (by omega) (by omega) (by omega)
  have m2 : (z * y).toInt = z.toInt * y.toInt := mul64b (by omega) (by omega) (by omega) (by omega)
  rw [sub64 (by omega) (by omega), m1, m2]
section ARE
variable {K : Kk} {R : Rr} {M : Mm}
theorem areaC_ok {r n : Nat} {l : List Pt} (hA : rgA K R r n) (h : rgC M r l) (hl : l.length ≤ n) (hl2 : l.length ≤ 100) (hn : n < 2 ^ 20) (hB : inBs l) : ∃ v, mX5_twiceArea K R M r = some v ∧ v.toInt = area l := by
  obtain ⟨h0, h1, h2, h3, h4⟩ := hA
  have hA : rgA K R r n := ⟨h0, h1, h2, h3, h4⟩
  have e := h.1
  have hL := lp_ind (f := mX5_twiceArea_L4 K R M r) (fun (i : Nat) (s : Int64 × Int32) => s.2 = nI i ∧ s.1.toInt = sumN (tm l) i) (fun v => v.toInt = area l) l.length ?_ ?_
  · obtain ⟨v, e1, e2⟩ := hL l.length 0 (0, nI 0) (by omega) ⟨rfl, rfl⟩
    refine ⟨v, ?_, e2⟩
    unfold mX5_twiceArea
    repeat (first | rw [ck_t (by first | with_reducible assumption | ((with_reducible apply ixA_of); (with_reducible assumption); omega; omega) | ((with_reducible apply isAr_of); (with_reducible assumption); decide) | ((with_reducible apply nI_ne0); omega; omega) | with_reducible exact isB_0 | with_reducible exact isB_1 | with_reducible exact isB_bI _)] | rw [bd_r (by with_reducible assumption)] | rw [bd_s] | rw [bd2_s] | rw [bd3_s] | rw [nm_s] | rw [nI_clamp (by omega)] | rw [nI_1] | rw [if_pos (by first | with_reducible assumption | ((with_reducible refine nI_lt ?_ ?_); omega; omega) | ((with_reducible refine nI_nlt ?_ ?_); omega; omega) | with_reducible exact ne10 | with_reducible rfl)] | rw [if_neg (by first | with_reducible assumption | ((with_reducible refine nI_lt ?_ ?_); omega; omega) | ((with_reducible refine nI_nlt ?_ ?_); omega; omega) | with_reducible exact ne10 | with_reducible rfl)])
    exact e1
  · rintro i ⟨s, z⟩ hi ⟨rfl, f⟩
    have f : s.toInt = sumN (tm l) i := f
    have hj := mod_lt' hi
    have w := wrap_ok (i := i + 1) hA h (by omega) (by omega)
    have pi := h.pt (gp_get hi)
    have pj := h.pt (gp_get hj)
    have Bi := hB _ _ (gp_get hi)
    have Bj := hB _ _ (gp_get hj)
    rw [pi] at Bi
    rw [pj] at Bj
    have sh := shoe64 (x := (M.1 (r + 1) i).toInt64) (y := (M.1 (r + 2) i).toInt64) (z := (M.1 (r + 1) ((i + 1) % l.length)).toInt64) (w := (M.1 (r + 2) ((i + 1) % l.length)).toInt64) (by rw [i64_int, i64_int]; exact Bi) (by rw [i64_int, i64_int]; exact Bj)
    have st : (M.1 (r + 1) i).toInt64.toInt * (M.1 (r + 2) ((i + 1) % l.length)).toInt64.toInt - (M.1 (r + 1) ((i + 1) % l.length)).toInt64.toInt * (M.1 (r + 2) i).toInt64.toInt = tm l i := by
      unfold tm; rw [pi, pj]; simp only [i64_int]
    rw [st] at sh
    have b1 := tm_b hB hi
    have b2 := sum_b hB i (by omega)
    refine Or.inl ⟨(s + ((M.1 (r + 1) i).toInt64 * (M.1 (r + 2) ((i + 1) % l.length)).toInt64 - (M.1 (r + 1) ((i + 1) % l.length)).toInt64 * (M.1 (r + 2) i).toInt64), nI (i + 1)), ?_, rfl, ?_⟩
    · show mX5_twiceArea_B4 K R M r s (nI i) = _
      unfold mX5_twiceArea_B4
      repeat (first | rw [ck_t (by first | with_reducible assumption | ((with_reducible apply ixA_of); (with_reducible assumption); omega; omega) | ((with_reducible apply isAr_of); (with_reducible assumption); decide) | ((with_reducible apply nI_ne0); omega; omega) | with_reducible exact isB_0 | with_reducible exact isB_1 | with_reducible exact isB_bI _)] | rw [bd_r (by with_reducible assumption)] | rw [bd_s] | rw [bd2_s] | rw [bd3_s] | rw [nm_s] | rw [nI_clamp (by omega)] | rw [nI_1] | rw [e] | rw [bd_e (w)] | rw [if_pos (by first | with_reducible assumption | ((with_reducible refine nI_lt ?_ ?_); omega; omega) | ((with_reducible refine nI_nlt ?_ ?_); omega; omega) | with_reducible exact ne10 | with_reducible rfl)] | rw [if_neg (by first | with_reducible assumption | ((with_reducible refine nI_lt ?_ ?_); omega; omega) | ((with_reducible refine nI_nlt ?_ ?_); omega; omega) | with_reducible exact ne10 | with_reducible rfl)])
    · show (s + _).toInt = sumN (tm l) i + tm l i
      rw [add64 (by rw [f, sh]; omega) (by rw [f, sh]; omega), f, sh]
  · rintro ⟨s, z⟩ ⟨rfl, f⟩
    refine ⟨s, ?_, f⟩
    show mX5_twiceArea_B4 K R M r s (nI l.length) = _
    unfold mX5_twiceArea_B4
    repeat (first | rw [ck_t (by first | with_reducible assumption | ((with_reducible apply ixA_of); (with_reducible assumption); omega; omega) | ((with_reducible apply isAr_of); (with_reducible assumption); decide) | ((with_reducible apply nI_ne0); omega; omega) | with_reducible exact isB_0 | with_reducible exact isB_1 | with_reducible exact isB_bI _)] | rw [bd_r (by with_reducible assumption)] | rw [bd_s] | rw [bd2_s] | rw [bd3_s] | rw [nm_s] | rw [nI_clamp (by omega)] | rw [nI_1] | rw [e] | rw [if_pos (by first | with_reducible assumption | ((with_reducible refine nI_lt ?_ ?_); omega; omega) | ((with_reducible refine nI_nlt ?_ ?_); omega; omega) | with_reducible exact ne10 | with_reducible rfl)] | rw [if_neg (by first | with_reducible assumption | ((with_reducible refine nI_lt ?_ ?_); omega; omega) | ((with_reducible refine nI_nlt ?_ ?_); omega; omega) | with_reducible exact ne10 | with_reducible rfl)])
    rfl
theorem areaOf_ok {m p : Nat} {P : Pc} {ps : List Pc} (hm : moA K R m) (hps : psM (M.2 (m + 1)) 0 ps) (hp : ps[p]? = some P) (h40 : ps.length ≤ 40) (hP : isPc P) : ∃ v M', mX8_areaOf K R M m (nI p) = some (v, M') ∧ v.toInt = area P.1 ∧ FM m [15, 21, 24] [11, 12, 15, 16, 17, 18] M M' := by
  have h0 := hm.1
  have h1 := mo_r13 hm
  have h2 := mo_r14 hm
  have h3 := mo_a13 hm
  have h4 := mo_a14 hm
  obtain ⟨N, a1, h, a3⟩ := lookA_ok hm hps hp h40 hP
  obtain ⟨-, -, -, lP, BP⟩ := plc_ok hP
  have hB := inBs_of BP
  have s16 := hP.1.2.1
  rw [← area_plc hP]
  generalize plc P = l at h lP hB ⊢
  have e := h.1
  have hL := lp_ind (f := mX8_areaOf_L10 K R N m) (fun (i : Nat) (s : Int64 × Int32) => s.2 = nI i ∧ s.1.toInt = sumN (tm l) i) (fun v => v.1.toInt = area l ∧ v.2 = N) l.length ?_ ?_
  · obtain ⟨⟨v, N'⟩, e1, e2, e3⟩ := hL l.length 0 (0, nI 0) (by omega) ⟨rfl, rfl⟩
    have e3 : N' = N := e3
    subst e3
    refine ⟨v, N', ?_, e2, a3⟩
    unfold mX8_areaOf
    repeat (first | rw [ck_t (by first | with_reducible assumption | ((with_reducible apply ixA_of); (with_reducible assumption); omega; omega) | ((with_reducible apply isAr_of); (with_reducible assumption); decide) | ((with_reducible apply nI_ne0); omega; omega) | with_reducible exact isB_0 | with_reducible exact isB_1 | with_reducible exact isB_bI _)] | rw [bd_r (by with_reducible assumption)] | rw [bd_s] | rw [bd2_s] | rw [bd3_s] | rw [nm_s] | rw [nI_clamp (by omega)] | rw [nI_1] | rw [bd_e (a1)] | rw [if_pos (by first | with_reducible assumption | ((with_reducible refine nI_lt ?_ ?_); omega; omega) | ((with_reducible refine nI_nlt ?_ ?_); omega; omega) | with_reducible exact ne10 | with_reducible rfl)] | rw [if_neg (by first | with_reducible assumption | ((with_reducible refine nI_lt ?_ ?_); omega; omega) | ((with_reducible refine nI_nlt ?_ ?_); omega; omega) | with_reducible exact ne10 | with_reducible rfl)])
    exact e1
  · rintro i ⟨s, z⟩ hi ⟨rfl, f⟩
    have f : s.toInt = sumN (tm l) i := f
    have hj := mod_lt' hi
    have pi := h.pt (gp_get hi)
    have pj := h.pt (gp_get hj)
    have Bi := hB _ _ (gp_get hi)
    have Bj := hB _ _ (gp_get hj)
    rw [pi] at Bi
    rw [pj] at Bj
    have sh := shoe64 Bi Bj
    have st : (N.2 (m + 11) i).toInt * (N.2 (m + 12) ((i + 1) % l.length)).toInt - (N.2 (m + 11) ((i + 1) % l.length)).toInt * (N.2 (m + 12) i).toInt = tm l i := by
      unfold tm; rw [pi, pj]
    rw [st] at sh
    have b1 := tm_b hB hi
    have b2 := sum_b hB i (by omega)
    refine Or.inl ⟨(s + (N.2 (m + 11) i * N.2 (m + 12) ((i + 1) % l.length) - N.2 (m + 11) ((i + 1) % l.length) * N.2 (m + 12) i), nI (i + 1)), ?_, rfl, ?_⟩
    · show mX8_areaOf_B10 K R N m s (nI i) = _
      unfold mX8_areaOf_B10
      repeat (first | rw [ck_t (by first | with_reducible assumption | ((with_reducible apply ixA_of); (with_reducible assumption); omega; omega) | ((with_reducible apply isAr_of); (with_reducible assumption); decide) | ((with_reducible apply nI_ne0); omega; omega) | with_reducible exact isB_0 | with_reducible exact isB_1 | with_reducible exact isB_bI _)] | rw [bd_r (by with_reducible assumption)] | rw [bd_s] | rw [bd2_s] | rw [bd3_s] | rw [nm_s] | rw [nI_clamp (by omega)] | rw [nI_1] | rw [e] | rw [pk_rem (by omega) (by omega) (by omega)] | rw [if_pos (by first | with_reducible assumption | ((with_reducible refine nI_lt ?_ ?_); omega; omega) | ((with_reducible refine nI_nlt ?_ ?_); omega; omega) | with_reducible exact ne10 | with_reducible rfl)] | rw [if_neg (by first | with_reducible assumption | ((with_reducible refine nI_lt ?_ ?_); omega; omega) | ((with_reducible refine nI_nlt ?_ ?_); omega; omega) | with_reducible exact ne10 | with_reducible rfl)])
    · show (s + _).toInt = sumN (tm l) i + tm l i
      rw [add64 (by rw [f, sh]; omega) (by rw [f, sh]; omega), f, sh]
  · rintro ⟨s, z⟩ ⟨rfl, f⟩
    refine ⟨(s, N), ?_, f, rfl⟩
    show mX8_areaOf_B10 K R N m s (nI l.length) = _
    unfold mX8_areaOf_B10
    repeat (first | rw [ck_t (by first | with_reducible assumption | ((with_reducible apply ixA_of); (with_reducible assumption); omega; omega) | ((with_reducible apply isAr_of); (with_reducible assumption); decide) | ((with_reducible apply nI_ne0); omega; omega) | with_reducible exact isB_0 | with_reducible exact isB_1 | with_reducible exact isB_bI _)] | rw [bd_r (by with_reducible assumption)] | rw [bd_s] | rw [bd2_s] | rw [bd3_s] | rw [nm_s] | rw [nI_clamp (by omega)] | rw [nI_1] | rw [e] | rw [if_pos (by first | with_reducible assumption | ((with_reducible refine nI_lt ?_ ?_); omega; omega) | ((with_reducible refine nI_nlt ?_ ?_); omega; omega) | with_reducible exact ne10 | with_reducible rfl)] | rw [if_neg (by first | with_reducible assumption | ((with_reducible refine nI_lt ?_ ?_); omega; omega) | ((with_reducible refine nI_nlt ?_ ?_); omega; omega) | with_reducible exact ne10 | with_reducible rfl)])
    rfl
/-- a figure of the reference -/
def fgM (M : Mm) (m k : Nat) (l : List Pt) : Prop := M.1 (m + 8) k = nI l.length ∧ ptM M (m + 6) (m + 7) (16 * k) l
theorem ix16 (p w : Nat) : (16 : Int32) * nI p + nI w = nI (16 * p + w) := by rw [show (16 : Int32) = nI 16 from rfl, pk_mul, nI_add]
theorem figureArea_ok {m k : Nat} {l : List Pt} (hm : moA K R m) (hk : k < 5) (h : fgM M m k l) (hl : l.length ≤ 16) (hB : inBs l) : ∃ v, mX8_figureArea K R M m (nI k) = some v ∧ v.toInt = area l := by
  have h0 := hm.1
  have h1 := mo_r7 hm
  have h2 := mo_r8 hm
  have h3 := mo_a7 hm
  have h4 := mo_a8 hm
  have h5 := mo_r9 hm
  have h6 := mo_a9 hm
  obtain ⟨e, hp⟩ := h
  have hL := lp_ind (f := mX8_figureArea_L13 K R M m (nI k) (nI l.length)) (fun (i : Nat) (s : Int64 × Int32) => s.2 = nI i ∧ s.1.toInt = sumN (tm l) i) (fun v => v.toInt = area l) l.length ?_ ?_
  · obtain ⟨v, e1, e2⟩ := hL l.length 0 (0, nI 0) (by omega) ⟨rfl, rfl⟩
    refine ⟨v, ?_, e2⟩
    unfold mX8_figureArea
    repeat (first | rw [ck_t (by first | with_reducible assumption | ((with_reducible apply ixA_of); (with_reducible assumption); omega; omega) | ((with_reducible apply isAr_of); (with_reducible assumption); decide) | ((with_reducible apply nI_ne0); omega; omega) | with_reducible exact isB_0 | with_reducible exact isB_1 | with_reducible exact isB_bI _)] | rw [bd_r (by with_reducible assumption)] | rw [bd_s] | rw [bd2_s] | rw [bd3_s] | rw [nm_s] | rw [nI_clamp (by omega)] | rw [nI_1] | rw [e] | rw [if_pos (by first | with_reducible assumption | ((with_reducible refine nI_lt ?_ ?_); omega; omega) | ((with_reducible refine nI_nlt ?_ ?_); omega; omega) | with_reducible exact ne10 | with_reducible rfl)] | rw [if_neg (by first | with_reducible assumption | ((with_reducible refine nI_lt ?_ ?_); omega; omega) | ((with_reducible refine nI_nlt ?_ ?_); omega; omega) | with_reducible exact ne10 | with_reducible rfl)])
    exact e1
  · rintro i ⟨s, z⟩ hi ⟨rfl, f⟩
    have f : s.toInt = sumN (tm l) i := f
    have hj := mod_lt' hi
    have pi : gp l i = ((M.2 (m + 6) (16 * k + i)).toInt, (M.2 (m + 7) (16 * k + i)).toInt) := Prod.ext (hp _ _ (gp_get hi)).1.symm (hp _ _ (gp_get hi)).2.symm
    have pj : gp l ((i + 1) % l.length) = ((M.2 (m + 6) (16 * k + (i + 1) % l.length)).toInt, (M.2 (m + 7) (16 * k + (i + 1) % l.length)).toInt) := Prod.ext (hp _ _ (gp_get hj)).1.symm (hp _ _ (gp_get hj)).2.symm
    have Bi := hB _ _ (gp_get hi)
    have Bj := hB _ _ (gp_get hj)
    rw [pi] at Bi
    rw [pj] at Bj
    have sh := shoe64 Bi Bj
    have st : (M.2 (m + 6) (16 * k + i)).toInt * (M.2 (m + 7) (16 * k + (i + 1) % l.length)).toInt - (M.2 (m + 6) (16 * k + (i + 1) % l.length)).toInt * (M.2 (m + 7) (16 * k + i)).toInt = tm l i := by
      unfold tm; rw [pi, pj]
    rw [st] at sh
    have b1 := tm_b hB hi
    have b2 := sum_b hB i (by omega)
    refine Or.inl ⟨(s + (M.2 (m + 6) (16 * k + i) * M.2 (m + 7) (16 * k + (i + 1) % l.length) - M.2 (m + 6) (16 * k + (i + 1) % l.length) * M.2 (m + 7) (16 * k + i)), nI (i + 1)), ?_, rfl, ?_⟩
    · show mX8_figureArea_B13 K R M m (nI k) (nI l.length) s (nI i) = _
      unfold mX8_figureArea_B13
      repeat (first | rw [ck_t (by first | with_reducible assumption | ((with_reducible apply ixA_of); (with_reducible assumption); omega; omega) | ((with_reducible apply isAr_of); (with_reducible assumption); decide) | ((with_reducible apply nI_ne0); omega; omega) | with_reducible exact isB_0 | with_reducible exact isB_1 | with_reducible exact isB_bI _)] | rw [bd_r (by with_reducible assumption)] | rw [bd_s] | rw [bd2_s] | rw [bd3_s] | rw [nm_s] | rw [nI_clamp (by omega)] | rw [nI_1] | rw [pk_rem (by omega) (by omega) (by omega)] | rw [ix16] | rw [if_pos (by first | with_reducible assumption | ((with_reducible refine nI_lt ?_ ?_); omega; omega) | ((with_reducible refine nI_nlt ?_ ?_); omega; omega) | with_reducible exact ne10 | with_reducible rfl)] | rw [if_neg (by first | with_reducible assumption | ((with_reducible refine nI_lt ?_ ?_); omega; omega) | ((with_reducible refine nI_nlt ?_ ?_); omega; omega) | with_reducible exact ne10 | with_reducible rfl)])
    · show (s + _).toInt = sumN (tm l) i + tm l i
      rw [add64 (by rw [f, sh]; omega) (by rw [f, sh]; omega), f, sh]
  · rintro ⟨s, z⟩ ⟨rfl, f⟩
    refine ⟨s, ?_, f⟩
    show mX8_figureArea_B13 K R M m (nI k) (nI l.length) s (nI l.length) = _
    unfold mX8_figureArea_B13
    repeat (first | rw [ck_t (by first | with_reducible assumption | ((with_reducible apply ixA_of); (with_reducible assumption); omega; omega) | ((with_reducible apply isAr_of); (with_reducible assumption); decide) | ((with_reducible apply nI_ne0); omega; omega) | with_reducible exact isB_0 | with_reducible exact isB_1 | with_reducible exact isB_bI _)] | rw [bd_r (by with_reducible assumption)] | rw [bd_s] | rw [bd2_s] | rw [bd3_s] | rw [nm_s] | rw [nI_clamp (by omega)] | rw [nI_1] | rw [if_pos (by first | with_reducible assumption | ((with_reducible refine nI_lt ?_ ?_); omega; omega) | ((with_reducible refine nI_nlt ?_ ?_); omega; omega) | with_reducible exact ne10 | with_reducible rfl)] | rw [if_neg (by first | with_reducible assumption | ((with_reducible refine nI_lt ?_ ?_); omega; omega) | ((with_reducible refine nI_nlt ?_ ?_); omega; omega) | with_reducible exact ne10 | with_reducible rfl)])
    rfl
end ARE
theorem inv_area (o : Nat) (K : Kk) (R : Rr) (M : Mm) (a0 : Int32) (hI : Inv o K R M) : ∃ (v : Int64), mX7_area K R M o a0 = some (v) ∧ mX8_area K R M (o + 2118) a0 = some (v) ∧ Inv o K R M := by
  have hI0 := hI
  obtain ⟨hs, hm, S, hw, hc, ho⟩ := hI
  have m0 := hm.1
  have m9 := mo_r9 hm
  have ma9 := mo_a9 hm
  obtain ⟨s0, -, s1, -, -, -, -, -, -, -, -, -, -, -, -, -, b1, b2, -⟩ := hs
  rcases pk_ix a0 (n := 5) (by decide) with h | h | ⟨k, hk, rfl⟩
  · refine ⟨-9000000000000000001, ?_, ?_, hI0⟩
    · unfold mX7_area
      repeat (first | rw [ck_t (by first | with_reducible assumption | ((with_reducible apply ixA_of); (with_reducible assumption); omega; omega) | ((with_reducible apply isAr_of); (with_reducible assumption); decide) | ((with_reducible apply nI_ne0); omega; omega) | with_reducible exact isB_0 | with_reducible exact isB_1 | with_reducible exact isB_bI _)] | rw [bd_r (by with_reducible assumption)] | rw [bd_s] | rw [bd2_s] | rw [bd3_s] | rw [nm_s] | rw [nI_clamp (by omega)] | rw [nI_1] | rw [bd_e (isFigure_f (Or.inl h))] | rw [if_pos (by first | with_reducible assumption | ((with_reducible refine nI_lt ?_ ?_); omega; omega) | ((with_reducible refine nI_nlt ?_ ?_); omega; omega) | with_reducible exact ne10 | with_reducible rfl)] | rw [if_neg (by first | with_reducible assumption | ((with_reducible refine nI_lt ?_ ?_); omega; omega) | ((with_reducible refine nI_nlt ?_ ?_); omega; omega) | with_reducible exact ne10 | with_reducible rfl)])
    · unfold mX8_area
      repeat (first | rw [ck_t (by first | with_reducible assumption | ((with_reducible apply ixA_of); (with_reducible assumption); omega; omega) | ((with_reducible apply isAr_of); (with_reducible assumption); decide) | ((with_reducible apply nI_ne0); omega; omega) | with_reducible exact isB_0 | with_reducible exact isB_1 | with_reducible exact isB_bI _)] | rw [bd_r (by with_reducible assumption)] | rw [bd_s] | rw [bd2_s] | rw [bd3_s] | rw [nm_s] | rw [nI_clamp (by omega)] | rw [nI_1] | rw [bd_e (isInN_f (n := 5) (Or.inl h) (by decide) (by decide))] | rw [if_pos (by first | with_reducible assumption | ((with_reducible refine nI_lt ?_ ?_); omega; omega) | ((with_reducible refine nI_nlt ?_ ?_); omega; omega) | with_reducible exact ne10 | with_reducible rfl)] | rw [if_neg (by first | with_reducible assumption | ((with_reducible refine nI_lt ?_ ?_); omega; omega) | ((with_reducible refine nI_nlt ?_ ?_); omega; omega) | with_reducible exact ne10 | with_reducible rfl)])
  · refine ⟨-9000000000000000001, ?_, ?_, hI0⟩
    · unfold mX7_area
      repeat (first | rw [ck_t (by first | with_reducible assumption | ((with_reducible apply ixA_of); (with_reducible assumption); omega; omega) | ((with_reducible apply isAr_of); (with_reducible assumption); decide) | ((with_reducible apply nI_ne0); omega; omega) | with_reducible exact isB_0 | with_reducible exact isB_1 | with_reducible exact isB_bI _)] | rw [bd_r (by with_reducible assumption)] | rw [bd_s] | rw [bd2_s] | rw [bd3_s] | rw [nm_s] | rw [nI_clamp (by omega)] | rw [nI_1] | rw [bd_e (isFigure_f (Or.inr h))] | rw [if_pos (by first | with_reducible assumption | ((with_reducible refine nI_lt ?_ ?_); omega; omega) | ((with_reducible refine nI_nlt ?_ ?_); omega; omega) | with_reducible exact ne10 | with_reducible rfl)] | rw [if_neg (by first | with_reducible assumption | ((with_reducible refine nI_lt ?_ ?_); omega; omega) | ((with_reducible refine nI_nlt ?_ ?_); omega; omega) | with_reducible exact ne10 | with_reducible rfl)])
    · unfold mX8_area
      repeat (first | rw [ck_t (by first | with_reducible assumption | ((with_reducible apply ixA_of); (with_reducible assumption); omega; omega) | ((with_reducible apply isAr_of); (with_reducible assumption); decide) | ((with_reducible apply nI_ne0); omega; omega) | with_reducible exact isB_0 | with_reducible exact isB_1 | with_reducible exact isB_bI _)] | rw [bd_r (by with_reducible assumption)] | rw [bd_s] | rw [bd2_s] | rw [bd3_s] | rw [nm_s] | rw [nI_clamp (by omega)] | rw [nI_1] | rw [bd_e (isInN_f (n := 5) (Or.inr h) (by decide) (by decide))] | rw [if_pos (by first | with_reducible assumption | ((with_reducible refine nI_lt ?_ ?_); omega; omega) | ((with_reducible refine nI_nlt ?_ ?_); omega; omega) | with_reducible exact ne10 | with_reducible rfl)] | rw [if_neg (by first | with_reducible assumption | ((with_reducible refine nI_lt ?_ ?_); omega; omega) | ((with_reducible refine nI_nlt ?_ ?_); omega; omega) | with_reducible exact ne10 | with_reducible rfl)])
  · obtain ⟨k1, k2⟩ := b2 k hk
    have k20 := k2.1
    have hC := hc.2.1 k hk
    have hM : fgM M (o + 2118) k (S.2.1 k) := ho.2.2.1 k hk
    have eC := hC.1
    have eM := hM.1
    have t0 := isFigure_t (K := K) (R := R) (M := M) hk
    have t1 := isInN_t (K := K) (R := R) (M := M) (b := 4) hk (by decide) (by decide)
    rcases hw.2.2.1 k hk with h | h
    · rw [h] at eC eM
      have eC : M.1 (o + 5 + 3 * k) 2 = 0 := eC
      have eM : M.1 (o + 2118 + 8) k = 0 := eM
      refine ⟨-9000000000000000002, ?_, ?_, hI0⟩
      · unfold mX7_area
        repeat (first | rw [ck_t (by first | with_reducible assumption | ((with_reducible apply ixA_of); (with_reducible assumption); omega; omega) | ((with_reducible apply isAr_of); (with_reducible assumption); decide) | ((with_reducible apply nI_ne0); omega; omega) | with_reducible exact isB_0 | with_reducible exact isB_1 | with_reducible exact isB_bI _)] | rw [bd_r (by with_reducible assumption)] | rw [bd_s] | rw [bd2_s] | rw [bd3_s] | rw [nm_s] | rw [nI_clamp (by omega)] | rw [nI_1] | rw [bd_e (t0)] | rw [if_pos (by first | with_reducible assumption | ((with_reducible refine nI_lt ?_ ?_); omega; omega) | ((with_reducible refine nI_nlt ?_ ?_); omega; omega) | with_reducible exact ne10 | with_reducible rfl)] | rw [if_neg (by first | with_reducible assumption | ((with_reducible refine nI_lt ?_ ?_); omega; omega) | ((with_reducible refine nI_nlt ?_ ?_); omega; omega) | with_reducible exact ne10 | with_reducible rfl)])
      · unfold mX8_area
        repeat (first | rw [ck_t (by first | with_reducible assumption | ((with_reducible apply ixA_of); (with_reducible assumption); omega; omega) | ((with_reducible apply isAr_of); (with_reducible assumption); decide) | ((with_reducible apply nI_ne0); omega; omega) | with_reducible exact isB_0 | with_reducible exact isB_1 | with_reducible exact isB_bI _)] | rw [bd_r (by with_reducible assumption)] | rw [bd_s] | rw [bd2_s] | rw [bd3_s] | rw [nm_s] | rw [nI_clamp (by omega)] | rw [nI_1] | rw [bd_e (t1)] | rw [if_pos (by first | with_reducible assumption | ((with_reducible refine nI_lt ?_ ?_); omega; omega) | ((with_reducible refine nI_nlt ?_ ?_); omega; omega) | with_reducible exact ne10 | with_reducible rfl)] | rw [if_neg (by first | with_reducible assumption | ((with_reducible refine nI_lt ?_ ?_); omega; omega) | ((with_reducible refine nI_nlt ?_ ?_); omega; omega) | with_reducible exact ne10 | with_reducible rfl)])
    · obtain ⟨f1, f2, f3, f4, f5⟩ := h
      have ne : ¬ nI (S.2.1 k).length = 0 := nI_ne0 (by omega) (by omega)
      obtain ⟨v, d1, d2⟩ := areaC_ok k2 hC (by omega) (by omega) (by decide) f5
      obtain ⟨w, g1, g2⟩ := figureArea_ok hm hk hM (by omega) f5
      obtain rfl : v = w := eq64.mpr (d2.trans g2.symm)
      refine ⟨v, ?_, ?_, hI0⟩
      · unfold mX7_area
        repeat (first | rw [ck_t (by first | with_reducible assumption | ((with_reducible apply ixA_of); (with_reducible assumption); omega; omega) | ((with_reducible apply isAr_of); (with_reducible assumption); decide) | ((with_reducible apply nI_ne0); omega; omega) | with_reducible exact isB_0 | with_reducible exact isB_1 | with_reducible exact isB_bI _)] | rw [bd_r (by with_reducible assumption)] | rw [bd_s] | rw [bd2_s] | rw [bd3_s] | rw [nm_s] | rw [nI_clamp (by omega)] | rw [nI_1] | rw [bd_e (t0)] | rw [eC] | rw [bd_e (d1)] | rw [if_pos (by first | with_reducible assumption | ((with_reducible refine nI_lt ?_ ?_); omega; omega) | ((with_reducible refine nI_nlt ?_ ?_); omega; omega) | with_reducible exact ne10 | with_reducible rfl)] | rw [if_neg (by first | with_reducible assumption | ((with_reducible refine nI_lt ?_ ?_); omega; omega) | ((with_reducible refine nI_nlt ?_ ?_); omega; omega) | with_reducible exact ne10 | with_reducible rfl)])
      · unfold mX8_area
        repeat (first | rw [ck_t (by first | with_reducible assumption | ((with_reducible apply ixA_of); (with_reducible assumption); omega; omega) | ((with_reducible apply isAr_of); (with_reducible assumption); decide) | ((with_reducible apply nI_ne0); omega; omega) | with_reducible exact isB_0 | with_reducible exact isB_1 | with_reducible exact isB_bI _)] | rw [bd_r (by with_reducible assumption)] | rw [bd_s] | rw [bd2_s] | rw [bd3_s] | rw [nm_s] | rw [nI_clamp (by omega)] | rw [nI_1] | rw [bd_e (t1)] | rw [eM] | rw [bd_e (g1)] | rw [if_pos (by first | with_reducible assumption | ((with_reducible refine nI_lt ?_ ?_); omega; omega) | ((with_reducible refine nI_nlt ?_ ?_); omega; omega) | with_reducible exact ne10 | with_reducible rfl)] | rw [if_neg (by first | with_reducible assumption | ((with_reducible refine nI_lt ?_ ?_); omega; omega) | ((with_reducible refine nI_nlt ?_ ?_); omega; omega) | with_reducible exact ne10 | with_reducible rfl)])
