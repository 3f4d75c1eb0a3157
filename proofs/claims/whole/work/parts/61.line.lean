/-! THE LINE of the class -/
def lnC (M : Mm) (a : Nat) (A B : Pt) : Prop := (M.1 a 2).toInt = A.1 ∧ (M.1 a 3).toInt = A.2 ∧ (M.1 a 4).toInt = B.1 - A.1 ∧ (M.1 a 5).toInt = B.2 - A.2
def lnB (A B : Pt) : Prop := inB A ∧ -200000 ≤ B.1 - A.1 ∧ B.1 - A.1 ≤ 200000 ∧ -200000 ≤ B.2 - A.2 ∧ B.2 - A.2 ≤ 200000
theorem lnB_of {a b : Pt} (ha : inB a) (hb : inB b) : lnB a b := by unfold lnB; unfold inB at *; omega
theorem crsL_b {A B p : Pt} (h : lnB A B) (hp : inB p) : -80000000000 ≤ crs A B p ∧ crs A B p ≤ 80000000000 := by
  obtain ⟨⟨a1, a2, a3, a4⟩, b1, b2, b3, b4⟩ := h
  obtain ⟨p1, p2, p3, p4⟩ := hp
  have u := mulb (x := B.1 - A.1) (y := p.2 - A.2) (B := 200000) (C := 200000) (by omega) (by omega) (by omega) (by omega)
  have v := mulb (x := B.2 - A.2) (y := p.1 - A.1) (B := 200000) (C := 200000) (by omega) (by omega) (by omega) (by omega)
  unfold crs
  omega
theorem onw_B {x y z : Pt} {w0 w1 : Int} (h : onw x y z w0 w1) (hy : inB y) (hz : inB z) : inB x := by
  obtain ⟨h0, h1, h2⟩ := h
  have g' : ∀ (G : Hp) (c : Pt), gv G (hpt c) = G.1 * c.1 + G.2.1 * c.2 + G.2.2 := fun G c => by unfold gv hpt; simp
  have le : ∀ G : Hp, gv G (hpt y) ≤ 0 → gv G (hpt z) ≤ 0 → gv G (hpt x) ≤ 0 := fun G g1 g2 => by
    have e := h2 G
    have m1 := Int.mul_nonpos_of_nonneg_of_nonpos (show 0 ≤ w0 by omega) g1
    have m2 := Int.mul_nonpos_of_nonneg_of_nonpos h1 g2
    rcases ilg 0 (gv G (hpt x)) with r | r
    · have := Int.mul_pos (show 0 < w0 + w1 by omega) r; omega
    · exact r
  unfold inB at hy hz
  have f1 := le (1, 0, -100000) (by rw [g']; simp only; omega) (by rw [g']; simp only; omega)
  have f2 := le (-1, 0, -100000) (by rw [g']; simp only; omega) (by rw [g']; simp only; omega)
  have f3 := le (0, 1, -100000) (by rw [g']; simp only; omega) (by rw [g']; simp only; omega)
  have f4 := le (0, -1, -100000) (by rw [g']; simp only; omega) (by rw [g']; simp only; omega)
  rw [g'] at f1 f2 f3 f4
  unfold inB
  simp only at f1 f2 f3 f4
  omega
theorem s32 {s : Int} {u : Int} (hs : s = 1) : s * u = u := by rw [hs]; omega
section LC
variable {K : Kk} {R : Rr} {M : Mm} {a : Nat} {A B : Pt}
theorem lnC.eq {M' : Mm} (h : lnC M a A B) (e : ∀ k, 2 ≤ k → k ≤ 5 → M'.1 a k = M.1 a k) : lnC M' a A B := by
  obtain ⟨h1, h2, h3, h4⟩ := h
  exact ⟨by rw [e 2 (by decide) (by decide)]; exact h1, by rw [e 3 (by decide) (by decide)]; exact h2, by rw [e 4 (by decide) (by decide)]; exact h3, by rw [e 5 (by decide) (by decide)]; exact h4⟩
theorem lset_ok {x y z w : Int32} (ho : isO K a 2) (hx : x.toInt = A.1) (hy : y.toInt = A.2) (hz : z.toInt = B.1 - A.1) (hw : w.toInt = B.2 - A.2) : ∃ M', mX2_set K R M a x y z w = some M' ∧ lnC M' a A B ∧ Fr a (a + 1) M M' ∧ M'.2 = M.2 := by
  refine ⟨pI (pI (pI (pI M a 2 x) a 3 y) a 4 z) a 5 w, by unfold mX2_set; (repeat (first | rw [ck_t (by first | with_reducible assumption | ((with_reducible apply ixA_of); (with_reducible assumption); omega; omega) | ((with_reducible apply isAr_of); (with_reducible assumption); decide) | ((with_reducible apply nI_ne0); omega; omega) | with_reducible exact isB_0 | with_reducible exact isB_1 | with_reducible exact isB_bI _)] | rw [bd_r (by with_reducible assumption)] | rw [bd_s] | rw [bd2_s] | rw [bd3_s] | rw [nm_s] | rw [nI_clamp (by omega)] | rw [nI_1] | rw [if_pos (by first | with_reducible assumption | ((with_reducible refine nI_lt ?_ ?_); omega; omega) | ((with_reducible refine nI_nlt ?_ ?_); omega; omega) | with_reducible exact ne10 | with_reducible rfl)] | rw [if_neg (by first | with_reducible assumption | ((with_reducible refine nI_lt ?_ ?_); omega; omega) | ((with_reducible refine nI_nlt ?_ ?_); omega; omega) | with_reducible exact ne10 | with_reducible rfl)])), ⟨?_, ?_, ?_, ?_⟩, (((Fr.rf.pI (by omega) (by omega)).pI (by omega) (by omega)).pI (by omega) (by omega)).pI (by omega) (by omega), rfl⟩
  · rw [pI_k (by decide), pI_k (by decide), pI_k (by decide), pI_s]; exact hx
  · rw [pI_k (by decide), pI_k (by decide), pI_s]; exact hy
  · rw [pI_k (by decide), pI_s]; exact hz
  · rw [pI_s]; exact hw
theorem lside_ok {x y : Int32} (ho : isO K a 2) (h : lnC M a A B) (hB : lnB A B) (hp : inB (x.toInt, y.toInt)) : ∃ v, mX2_side K R M a x y = some v ∧ v.toInt = crs A B (x.toInt, y.toInt) := by
  obtain ⟨h1, h2, h3, h4⟩ := h
  have hb := crsL_b hB hp
  obtain ⟨⟨a1, a2, a3, a4⟩, b1, b2, b3, b4⟩ := hB
  have hp' := hp
  obtain ⟨p1, p2, p3, p4⟩ := hp
  simp only at p1 p2 p3 p4
  refine ⟨_, by unfold mX2_side; rw [ck_t ho], ?_⟩
  have e1 : (y - M.1 a 3).toInt64.toInt = y.toInt - A.2 := by rw [i64_int, sub32 (by omega) (by omega), h2]
  have e2 : (x - M.1 a 2).toInt64.toInt = x.toInt - A.1 := by rw [i64_int, sub32 (by omega) (by omega), h1]
  have m1 : ((M.1 a 4).toInt64 * (y - M.1 a 3).toInt64).toInt = (B.1 - A.1) * (y.toInt - A.2) := by rw [mul64b (by rw [i64_int]; omega) (by rw [i64_int]; omega) (by omega) (by omega), e1, i64_int, h3]
  have m2 : ((M.1 a 5).toInt64 * (x - M.1 a 2).toInt64).toInt = (B.2 - A.2) * (x.toInt - A.1) := by rw [mul64b (by rw [i64_int]; omega) (by rw [i64_int]; omega) (by omega) (by omega), e2, i64_int, h4]
  have u := mulb (x := B.1 - A.1) (y := y.toInt - A.2) (B := 200000) (C := 200000) (by omega) (by omega) (by omega) (by omega)
  have v := mulb (x := B.2 - A.2) (y := x.toInt - A.1) (B := 200000) (C := 200000) (by omega) (by omega) (by omega) (by omega)
  rw [sub64 (by rw [m1, m2]; omega) (by rw [m1, m2]; omega), m1, m2]
  rfl
theorem cntS_le (A B : Pt) (s : Int) (l : List Pt) : ∀ i, cntS A B s l i ≤ i
  | 0 => Nat.le_refl _
  | i + 1 => by
    have := cntS_le A B s l i
    show cntS A B s l i + @ite _ (0 < s * crs A B (vx l i)) (Classical.propDecidable _) 1 0 ≤ _
    split <;> omega
theorem cntS_t {A B : Pt} {s : Int} {l : List Pt} {i : Nat} (h : 0 < s * crs A B (vx l i)) : cntS A B s l (i + 1) = cntS A B s l i + 1 := by
  show cntS A B s l i + @ite _ (0 < s * crs A B (vx l i)) (Classical.propDecidable _) 1 0 = _
  rw [if_pos h]
theorem cntS_f {A B : Pt} {s : Int} {l : List Pt} {i : Nat} (h : ¬ 0 < s * crs A B (vx l i)) : cntS A B s l (i + 1) = cntS A B s l i := by
  show cntS A B s l i + @ite _ (0 < s * crs A B (vx l i)) (Classical.propDecidable _) 1 0 = _
  rw [if_neg h]; rfl
theorem weigh_ok {q n : Nat} {l : List Pt} (ho : isO K a 2) (h : lnC M a A B) (hB : lnB A B) (hq : rgA K R q n) (hd : a + 1 ≤ q ∨ q + 3 ≤ a) (hl : rgC M q l) (hn : l.length ≤ n) (hn2 : n < 2 ^ 20) (bl : inBs l) : ∃ M', mX2_weigh K R M a q = some M' ∧ M'.1 a 6 = nI (cntS A B 1 l l.length) ∧ M'.1 a 7 = nI (cntS A B (-1) l l.length) ∧ lnC M' a A B ∧ Fr a (a + 1) M M' ∧ M'.2 = M.2 := by
  obtain ⟨q0, q1, q2, q3, q4⟩ := hq
  have hW := lp_ind (f := mX2_weigh_L12 K R a q) (fun (i : Nat) (s : Int32 × Mm) => s.1 = nI i ∧ s.2.1 a 6 = nI (cntS A B 1 l i) ∧ s.2.1 a 7 = nI (cntS A B (-1) l i) ∧ lnC s.2 a A B ∧ Fr a (a + 1) M s.2 ∧ s.2.2 = M.2) (fun M' => M'.1 a 6 = nI (cntS A B 1 l l.length) ∧ M'.1 a 7 = nI (cntS A B (-1) l l.length) ∧ lnC M' a A B ∧ Fr a (a + 1) M M' ∧ M'.2 = M.2) l.length ?_ ?_
  · obtain ⟨M', e1, e2⟩ := hW l.length 0 (nI 0, pI (pI M a 6 0) a 7 0) (by omega) ⟨rfl, by rw [pI_k (by decide), pI_s]; rfl, by rw [pI_s]; rfl, h.eq (fun k k1 k2 => by rw [pI_k (by omega), pI_k (by omega)]), (Fr.rf.pI (by omega) (by omega)).pI (by omega) (by omega), rfl⟩
    refine ⟨M', ?_, e2⟩
    unfold mX2_weigh
    (repeat (first | rw [ck_t (by first | with_reducible assumption | ((with_reducible apply ixA_of); (with_reducible assumption); omega; omega) | ((with_reducible apply isAr_of); (with_reducible assumption); decide) | ((with_reducible apply nI_ne0); omega; omega) | with_reducible exact isB_0 | with_reducible exact isB_1 | with_reducible exact isB_bI _)] | rw [bd_r (by with_reducible assumption)] | rw [bd_s] | rw [bd2_s] | rw [bd3_s] | rw [nm_s] | rw [nI_clamp (by omega)] | rw [nI_1] | rw [if_pos (by first | with_reducible assumption | ((with_reducible refine nI_lt ?_ ?_); omega; omega) | ((with_reducible refine nI_nlt ?_ ?_); omega; omega) | with_reducible exact ne10 | with_reducible rfl)] | rw [if_neg (by first | with_reducible assumption | ((with_reducible refine nI_lt ?_ ?_); omega; omega) | ((with_reducible refine nI_nlt ?_ ?_); omega; omega) | with_reducible exact ne10 | with_reducible rfl)]))
    exact e1
  · rintro i ⟨z, N⟩ hi ⟨rfl, f1, f2, f3, f4, f5⟩
    have f1 : N.1 a 6 = nI (cntS A B 1 l i) := f1
    have f2 : N.1 a 7 = nI (cntS A B (-1) l i) := f2
    have f3 : lnC N a A B := f3
    have f4 : Fr a (a + 1) M N := f4
    have f5 : N.2 = M.2 := f5
    have hN := hl.fr f4 (by omega)
    have e := hN.1
    have gi := gp_get hi
    obtain ⟨u1, u2⟩ := hN.2 _ _ gi
    have bp := bl _ _ gi
    have pe : gp l i = ((N.1 (q + 1) i).toInt, (N.1 (q + 2) i).toInt) := Prod.ext u1.symm u2.symm
    rw [pe] at bp
    obtain ⟨v, v1, v2⟩ := lside_ok (R := R) ho f3 hB bp
    rw [← pe, ← vx_lt hi] at v2
    have c1 := cntS_le A B 1 l i
    have c2 := cntS_le A B (-1) l i
    have z0 : (0 : Int64).toInt = 0 := rfl
    have fin : ∀ u w : Int32, u = nI (cntS A B 1 l (i + 1)) → w = nI (cntS A B (-1) l (i + 1)) → mX2_weigh_B12 K R a q (nI i) N = some (.inl (nI (i + 1), pI (pI N a 6 u) a 7 w)) → (∃ s', mX2_weigh_B12 K R a q (nI i) N = some (.inl s') ∧ s'.1 = nI (i + 1) ∧ s'.2.1 a 6 = nI (cntS A B 1 l (i + 1)) ∧ s'.2.1 a 7 = nI (cntS A B (-1) l (i + 1)) ∧ lnC s'.2 a A B ∧ Fr a (a + 1) M s'.2 ∧ s'.2.2 = M.2) := fun u w hu hw hg => ⟨_, hg, rfl, by show (pI (pI N a 6 u) a 7 w).1 a 6 = _; rw [pI_k (by decide), pI_s]; exact hu, by show (pI (pI N a 6 u) a 7 w).1 a 7 = _; rw [pI_s]; exact hw, f3.eq (fun k k1 k2 => by show (pI (pI N a 6 u) a 7 w).1 a k = _; rw [pI_k (by omega), pI_k (by omega)]), (f4.pI (by omega) (by omega)).pI (by omega) (by omega), f5⟩
    left
    show ∃ s', mX2_weigh_B12 K R a q (nI i) N = some (.inl s') ∧ _
    rcases Int.lt_trichotomy (crs A B (vx l i)) 0 with w | w | w
    · have k1 : v ≤ 0 := by rw [le64, z0]; omega
      have k2 : v < 0 := by rw [lt64, z0]; omega
      refine fin (nI (cntS A B 1 l i)) (nI (cntS A B (-1) l i + 1)) (by rw [cntS_f (by omega)]) (by rw [cntS_t (by omega)]) ?_
      unfold mX2_weigh_B12
      (repeat (first | rw [ck_t (by first | with_reducible assumption | ((with_reducible apply ixA_of); (with_reducible assumption); omega; omega) | ((with_reducible apply isAr_of); (with_reducible assumption); decide) | ((with_reducible apply nI_ne0); omega; omega) | with_reducible exact isB_0 | with_reducible exact isB_1 | with_reducible exact isB_bI _)] | rw [bd_r (by with_reducible assumption)] | rw [bd_s] | rw [bd2_s] | rw [bd3_s] | rw [nm_s] | rw [nI_clamp (by omega)] | rw [nI_1] | rw [e] | rw [bd_e (v1)] | rw [f1] | rw [if_pos (by first | with_reducible assumption | ((with_reducible refine nI_lt ?_ ?_); omega; omega) | ((with_reducible refine nI_nlt ?_ ?_); omega; omega) | with_reducible exact ne10 | with_reducible rfl)] | rw [if_neg (by first | with_reducible assumption | ((with_reducible refine nI_lt ?_ ?_); omega; omega) | ((with_reducible refine nI_nlt ?_ ?_); omega; omega) | with_reducible exact ne10 | with_reducible rfl)]))
      unfold mX2_weigh_J53
      (repeat (first | rw [ck_t (by first | with_reducible assumption | ((with_reducible apply ixA_of); (with_reducible assumption); omega; omega) | ((with_reducible apply isAr_of); (with_reducible assumption); decide) | ((with_reducible apply nI_ne0); omega; omega) | with_reducible exact isB_0 | with_reducible exact isB_1 | with_reducible exact isB_bI _)] | rw [bd_r (by with_reducible assumption)] | rw [bd_s] | rw [bd2_s] | rw [bd3_s] | rw [nm_s] | rw [nI_clamp (by omega)] | rw [nI_1] | rw [Int32.add_zero] | rw [pI_k (show (7 : Nat) ≠ 6 by decide)] | rw [f2] | rw [if_pos (by first | with_reducible assumption | ((with_reducible refine nI_lt ?_ ?_); omega; omega) | ((with_reducible refine nI_nlt ?_ ?_); omega; omega) | with_reducible exact ne10 | with_reducible rfl)] | rw [if_neg (by first | with_reducible assumption | ((with_reducible refine nI_lt ?_ ?_); omega; omega) | ((with_reducible refine nI_nlt ?_ ?_); omega; omega) | with_reducible exact ne10 | with_reducible rfl)]))
      unfold mX2_weigh_J73
      (repeat (first | rw [ck_t (by first | with_reducible assumption | ((with_reducible apply ixA_of); (with_reducible assumption); omega; omega) | ((with_reducible apply isAr_of); (with_reducible assumption); decide) | ((with_reducible apply nI_ne0); omega; omega) | with_reducible exact isB_0 | with_reducible exact isB_1 | with_reducible exact isB_bI _)] | rw [bd_r (by with_reducible assumption)] | rw [bd_s] | rw [bd2_s] | rw [bd3_s] | rw [nm_s] | rw [nI_clamp (by omega)] | rw [nI_1] | rw [if_pos (by first | with_reducible assumption | ((with_reducible refine nI_lt ?_ ?_); omega; omega) | ((with_reducible refine nI_nlt ?_ ?_); omega; omega) | with_reducible exact ne10 | with_reducible rfl)] | rw [if_neg (by first | with_reducible assumption | ((with_reducible refine nI_lt ?_ ?_); omega; omega) | ((with_reducible refine nI_nlt ?_ ?_); omega; omega) | with_reducible exact ne10 | with_reducible rfl)]))
    · have k1 : v ≤ 0 := by rw [le64, z0]; omega
      have k2 : ¬ v < 0 := by rw [lt64, z0]; omega
      refine fin (nI (cntS A B 1 l i)) (nI (cntS A B (-1) l i)) (by rw [cntS_f (by omega)]) (by rw [cntS_f (by omega)]) ?_
      unfold mX2_weigh_B12
      (repeat (first | rw [ck_t (by first | with_reducible assumption | ((with_reducible apply ixA_of); (with_reducible assumption); omega; omega) | ((with_reducible apply isAr_of); (with_reducible assumption); decide) | ((with_reducible apply nI_ne0); omega; omega) | with_reducible exact isB_0 | with_reducible exact isB_1 | with_reducible exact isB_bI _)] | rw [bd_r (by with_reducible assumption)] | rw [bd_s] | rw [bd2_s] | rw [bd3_s] | rw [nm_s] | rw [nI_clamp (by omega)] | rw [nI_1] | rw [e] | rw [bd_e (v1)] | rw [f1] | rw [if_pos (by first | with_reducible assumption | ((with_reducible refine nI_lt ?_ ?_); omega; omega) | ((with_reducible refine nI_nlt ?_ ?_); omega; omega) | with_reducible exact ne10 | with_reducible rfl)] | rw [if_neg (by first | with_reducible assumption | ((with_reducible refine nI_lt ?_ ?_); omega; omega) | ((with_reducible refine nI_nlt ?_ ?_); omega; omega) | with_reducible exact ne10 | with_reducible rfl)]))
      unfold mX2_weigh_J53
      (repeat (first | rw [ck_t (by first | with_reducible assumption | ((with_reducible apply ixA_of); (with_reducible assumption); omega; omega) | ((with_reducible apply isAr_of); (with_reducible assumption); decide) | ((with_reducible apply nI_ne0); omega; omega) | with_reducible exact isB_0 | with_reducible exact isB_1 | with_reducible exact isB_bI _)] | rw [bd_r (by with_reducible assumption)] | rw [bd_s] | rw [bd2_s] | rw [bd3_s] | rw [nm_s] | rw [nI_clamp (by omega)] | rw [nI_1] | rw [Int32.add_zero] | rw [pI_k (show (7 : Nat) ≠ 6 by decide)] | rw [f2] | rw [if_pos (by first | with_reducible assumption | ((with_reducible refine nI_lt ?_ ?_); omega; omega) | ((with_reducible refine nI_nlt ?_ ?_); omega; omega) | with_reducible exact ne10 | with_reducible rfl)] | rw [if_neg (by first | with_reducible assumption | ((with_reducible refine nI_lt ?_ ?_); omega; omega) | ((with_reducible refine nI_nlt ?_ ?_); omega; omega) | with_reducible exact ne10 | with_reducible rfl)]))
      unfold mX2_weigh_J73
      (repeat (first | rw [ck_t (by first | with_reducible assumption | ((with_reducible apply ixA_of); (with_reducible assumption); omega; omega) | ((with_reducible apply isAr_of); (with_reducible assumption); decide) | ((with_reducible apply nI_ne0); omega; omega) | with_reducible exact isB_0 | with_reducible exact isB_1 | with_reducible exact isB_bI _)] | rw [bd_r (by with_reducible assumption)] | rw [bd_s] | rw [bd2_s] | rw [bd3_s] | rw [nm_s] | rw [nI_clamp (by omega)] | rw [nI_1] | rw [Int32.add_zero] | rw [if_pos (by first | with_reducible assumption | ((with_reducible refine nI_lt ?_ ?_); omega; omega) | ((with_reducible refine nI_nlt ?_ ?_); omega; omega) | with_reducible exact ne10 | with_reducible rfl)] | rw [if_neg (by first | with_reducible assumption | ((with_reducible refine nI_lt ?_ ?_); omega; omega) | ((with_reducible refine nI_nlt ?_ ?_); omega; omega) | with_reducible exact ne10 | with_reducible rfl)]))
    · have k1 : ¬ v ≤ 0 := by rw [le64, z0]; omega
      have k2 : ¬ v < 0 := by rw [lt64, z0]; omega
      refine fin (nI (cntS A B 1 l i + 1)) (nI (cntS A B (-1) l i)) (by rw [cntS_t (by omega)]) (by rw [cntS_f (by omega)]) ?_
      unfold mX2_weigh_B12
      (repeat (first | rw [ck_t (by first | with_reducible assumption | ((with_reducible apply ixA_of); (with_reducible assumption); omega; omega) | ((with_reducible apply isAr_of); (with_reducible assumption); decide) | ((with_reducible apply nI_ne0); omega; omega) | with_reducible exact isB_0 | with_reducible exact isB_1 | with_reducible exact isB_bI _)] | rw [bd_r (by with_reducible assumption)] | rw [bd_s] | rw [bd2_s] | rw [bd3_s] | rw [nm_s] | rw [nI_clamp (by omega)] | rw [nI_1] | rw [e] | rw [bd_e (v1)] | rw [f1] | rw [if_pos (by first | with_reducible assumption | ((with_reducible refine nI_lt ?_ ?_); omega; omega) | ((with_reducible refine nI_nlt ?_ ?_); omega; omega) | with_reducible exact ne10 | with_reducible rfl)] | rw [if_neg (by first | with_reducible assumption | ((with_reducible refine nI_lt ?_ ?_); omega; omega) | ((with_reducible refine nI_nlt ?_ ?_); omega; omega) | with_reducible exact ne10 | with_reducible rfl)]))
      unfold mX2_weigh_J53
      (repeat (first | rw [ck_t (by first | with_reducible assumption | ((with_reducible apply ixA_of); (with_reducible assumption); omega; omega) | ((with_reducible apply isAr_of); (with_reducible assumption); decide) | ((with_reducible apply nI_ne0); omega; omega) | with_reducible exact isB_0 | with_reducible exact isB_1 | with_reducible exact isB_bI _)] | rw [bd_r (by with_reducible assumption)] | rw [bd_s] | rw [bd2_s] | rw [bd3_s] | rw [nm_s] | rw [nI_clamp (by omega)] | rw [nI_1] | rw [pI_k (show (7 : Nat) ≠ 6 by decide)] | rw [f2] | rw [if_pos (by first | with_reducible assumption | ((with_reducible refine nI_lt ?_ ?_); omega; omega) | ((with_reducible refine nI_nlt ?_ ?_); omega; omega) | with_reducible exact ne10 | with_reducible rfl)] | rw [if_neg (by first | with_reducible assumption | ((with_reducible refine nI_lt ?_ ?_); omega; omega) | ((with_reducible refine nI_nlt ?_ ?_); omega; omega) | with_reducible exact ne10 | with_reducible rfl)]))
      unfold mX2_weigh_J73
      (repeat (first | rw [ck_t (by first | with_reducible assumption | ((with_reducible apply ixA_of); (with_reducible assumption); omega; omega) | ((with_reducible apply isAr_of); (with_reducible assumption); decide) | ((with_reducible apply nI_ne0); omega; omega) | with_reducible exact isB_0 | with_reducible exact isB_1 | with_reducible exact isB_bI _)] | rw [bd_r (by with_reducible assumption)] | rw [bd_s] | rw [bd2_s] | rw [bd3_s] | rw [nm_s] | rw [nI_clamp (by omega)] | rw [nI_1] | rw [Int32.add_zero] | rw [if_pos (by first | with_reducible assumption | ((with_reducible refine nI_lt ?_ ?_); omega; omega) | ((with_reducible refine nI_nlt ?_ ?_); omega; omega) | with_reducible exact ne10 | with_reducible rfl)] | rw [if_neg (by first | with_reducible assumption | ((with_reducible refine nI_lt ?_ ?_); omega; omega) | ((with_reducible refine nI_nlt ?_ ?_); omega; omega) | with_reducible exact ne10 | with_reducible rfl)]))
  · rintro ⟨z, N⟩ ⟨rfl, f1, f2, f3, f4, f5⟩
    have f4 : Fr a (a + 1) M N := f4
    have e := (hl.fr f4 (by omega)).1
    refine ⟨N, ?_, f1, f2, f3, f4, f5⟩
    show mX2_weigh_B12 K R a q (nI l.length) N = _
    unfold mX2_weigh_B12
    (repeat (first | rw [ck_t (by first | with_reducible assumption | ((with_reducible apply ixA_of); (with_reducible assumption); omega; omega) | ((with_reducible apply isAr_of); (with_reducible assumption); decide) | ((with_reducible apply nI_ne0); omega; omega) | with_reducible exact isB_0 | with_reducible exact isB_1 | with_reducible exact isB_bI _)] | rw [bd_r (by with_reducible assumption)] | rw [bd_s] | rw [bd2_s] | rw [bd3_s] | rw [nm_s] | rw [nI_clamp (by omega)] | rw [nI_1] | rw [e] | rw [if_pos (by first | with_reducible assumption | ((with_reducible refine nI_lt ?_ ?_); omega; omega) | ((with_reducible refine nI_nlt ?_ ?_); omega; omega) | with_reducible exact ne10 | with_reducible rfl)] | rw [if_neg (by first | with_reducible assumption | ((with_reducible refine nI_lt ?_ ?_); omega; omega) | ((with_reducible refine nI_nlt ?_ ?_); omega; omega) | with_reducible exact ne10 | with_reducible rfl)]))
    rfl
theorem crossesC_ok {c1 c2 : Nat} (ho : isO K a 2) (h1 : M.1 a 6 = nI c1) (h2 : M.1 a 7 = nI c2) (b1 : c1 ≤ 100) (b2 : c2 ≤ 100) : ∃ v, mX2_crosses K R M a = some v ∧ iv v (0 < c1 ∧ 0 < c2) := by
  unfold mX2_crosses
  by_cases z1 : 0 < c1
  · by_cases z2 : 0 < c2
    · exact ⟨1, by (repeat (first | rw [ck_t (by first | with_reducible assumption | ((with_reducible apply ixA_of); (with_reducible assumption); omega; omega) | ((with_reducible apply isAr_of); (with_reducible assumption); decide) | ((with_reducible apply nI_ne0); omega; omega) | with_reducible exact isB_0 | with_reducible exact isB_1 | with_reducible exact isB_bI _)] | rw [bd_r (by with_reducible assumption)] | rw [bd_s] | rw [bd2_s] | rw [bd3_s] | rw [nm_s] | rw [nI_clamp (by omega)] | rw [nI_1] | rw [h1] | rw [h2] | rw [if_neg (nI_nle z1 (by omega))] | rw [if_neg (nI_nle z2 (by omega))] | rw [if_pos (by first | with_reducible assumption | ((with_reducible refine nI_lt ?_ ?_); omega; omega) | ((with_reducible refine nI_nlt ?_ ?_); omega; omega) | with_reducible exact ne10 | with_reducible rfl)] | rw [if_neg (by first | with_reducible assumption | ((with_reducible refine nI_lt ?_ ?_); omega; omega) | ((with_reducible refine nI_nlt ?_ ?_); omega; omega) | with_reducible exact ne10 | with_reducible rfl)])), Or.inl ⟨rfl, z1, z2⟩⟩
    · obtain rfl : c2 = 0 := by omega
      exact ⟨0, by (repeat (first | rw [ck_t (by first | with_reducible assumption | ((with_reducible apply ixA_of); (with_reducible assumption); omega; omega) | ((with_reducible apply isAr_of); (with_reducible assumption); decide) | ((with_reducible apply nI_ne0); omega; omega) | with_reducible exact isB_0 | with_reducible exact isB_1 | with_reducible exact isB_bI _)] | rw [bd_r (by with_reducible assumption)] | rw [bd_s] | rw [bd2_s] | rw [bd3_s] | rw [nm_s] | rw [nI_clamp (by omega)] | rw [nI_1] | rw [h1] | rw [h2] | rw [if_neg (nI_nle z1 (by omega))] | rw [if_pos (show nI 0 ≤ 0 by decide)] | rw [if_pos (by first | with_reducible assumption | ((with_reducible refine nI_lt ?_ ?_); omega; omega) | ((with_reducible refine nI_nlt ?_ ?_); omega; omega) | with_reducible exact ne10 | with_reducible rfl)] | rw [if_neg (by first | with_reducible assumption | ((with_reducible refine nI_lt ?_ ?_); omega; omega) | ((with_reducible refine nI_nlt ?_ ?_); omega; omega) | with_reducible exact ne10 | with_reducible rfl)])), Or.inr ⟨rfl, by omega⟩⟩
  · obtain rfl : c1 = 0 := by omega
    exact ⟨0, by (repeat (first | rw [ck_t (by first | with_reducible assumption | ((with_reducible apply ixA_of); (with_reducible assumption); omega; omega) | ((with_reducible apply isAr_of); (with_reducible assumption); decide) | ((with_reducible apply nI_ne0); omega; omega) | with_reducible exact isB_0 | with_reducible exact isB_1 | with_reducible exact isB_bI _)] | rw [bd_r (by with_reducible assumption)] | rw [bd_s] | rw [bd2_s] | rw [bd3_s] | rw [nm_s] | rw [nI_clamp (by omega)] | rw [nI_1] | rw [h1] | rw [if_pos (show nI 0 ≤ 0 by decide)] | rw [if_pos (by first | with_reducible assumption | ((with_reducible refine nI_lt ?_ ?_); omega; omega) | ((with_reducible refine nI_nlt ?_ ?_); omega; omega) | with_reducible exact ne10 | with_reducible rfl)] | rw [if_neg (by first | with_reducible assumption | ((with_reducible refine nI_lt ?_ ?_); omega; omega) | ((with_reducible refine nI_nlt ?_ ?_); omega; omega) | with_reducible exact ne10 | with_reducible rfl)])), Or.inr ⟨rfl, by omega⟩⟩
theorem overfillsC_ok {c1 c2 : Nat} (ho : isO K a 2) (h1 : M.1 a 6 = nI c1) (h2 : M.1 a 7 = nI c2) (b1 : c1 ≤ 100) (b2 : c2 ≤ 100) : ∃ v, mX2_overfills K R M a = some v ∧ iv v (16 < c1 + 2 ∨ 16 < c2 + 2) := by
  unfold mX2_overfills
  rw [ck_t ho, h1, h2]
  have sum : ∀ c : Nat, c ≤ 100 → (nI c + 2 ≤ 16 ↔ c + 2 ≤ 16) := fun c hc => by
    rw [show nI c + 2 = nI (c + 2) from nI_add c 2, le32, nI_int (by omega)]
    show ((c + 2 : Nat) : Int) ≤ 16 ↔ _
    omega
  by_cases z : c1 < c2
  · rw [if_pos (nI_lt z (by omega))]
    by_cases w : c2 + 2 ≤ 16
    · exact ⟨0, by rw [if_pos ((sum c2 b2).mpr w)], Or.inr ⟨rfl, by omega⟩⟩
    · exact ⟨1, by rw [if_neg (fun q => w ((sum c2 b2).mp q))], Or.inl ⟨rfl, by omega⟩⟩
  · rw [if_neg (nI_nlt (by omega) (by omega))]
    by_cases w : c1 + 2 ≤ 16
    · exact ⟨0, by rw [if_pos ((sum c1 b1).mpr w)], Or.inr ⟨rfl, by omega⟩⟩
    · exact ⟨1, by rw [if_neg (fun q => w ((sum c1 b1).mp q))], Or.inl ⟨rfl, by omega⟩⟩
theorem between_ok {x y z w : Int32} {p q : Pt} (ho : isO K a 2) (h : lnC M a A B) (hB : lnB A B) (hp : inB p) (hq : inB q) (e1 : p = (x.toInt, y.toInt)) (e2 : q = (z.toInt, w.toInt)) : ∃ v, mX2_isBetween K R M a x y z w = some v ∧ iv v (opp (crs A B p) (crs A B q)) := by
  subst e1 e2
  obtain ⟨u, u1, u2⟩ := lside_ok (R := R) ho h hB hp
  obtain ⟨v, v1, v2⟩ := lside_ok (R := R) ho h hB hq
  have z0 : (0 : Int64).toInt = 0 := rfl
  have k1 : u ≤ 0 ↔ crs A B (x.toInt, y.toInt) ≤ 0 := by rw [le64, z0, u2]
  have k2 : v ≤ 0 ↔ crs A B (z.toInt, w.toInt) ≤ 0 := by rw [le64, z0, v2]
  have k3 : u < 0 ↔ crs A B (x.toInt, y.toInt) < 0 := by rw [lt64, z0, u2]
  have k4 : v < 0 ↔ crs A B (z.toInt, w.toInt) < 0 := by rw [lt64, z0, v2]
  unfold mX2_isBetween opp
  (repeat (first | rw [ck_t (by first | with_reducible assumption | ((with_reducible apply ixA_of); (with_reducible assumption); omega; omega) | ((with_reducible apply isAr_of); (with_reducible assumption); decide) | ((with_reducible apply nI_ne0); omega; omega) | with_reducible exact isB_0 | with_reducible exact isB_1 | with_reducible exact isB_bI _)] | rw [bd_r (by with_reducible assumption)] | rw [bd_s] | rw [bd2_s] | rw [bd3_s] | rw [nm_s] | rw [nI_clamp (by omega)] | rw [nI_1] | rw [bd_e (u1)] | rw [bd_e (v1)] | rw [if_pos (by first | with_reducible assumption | ((with_reducible refine nI_lt ?_ ?_); omega; omega) | ((with_reducible refine nI_nlt ?_ ?_); omega; omega) | with_reducible exact ne10 | with_reducible rfl)] | rw [if_neg (by first | with_reducible assumption | ((with_reducible refine nI_lt ?_ ?_); omega; omega) | ((with_reducible refine nI_nlt ?_ ?_); omega; omega) | with_reducible exact ne10 | with_reducible rfl)]))
  by_cases c1 : u ≤ 0
  · rw [if_pos c1]
    unfold mX2_isBetween_J31 mX2_isBetween_J45
    by_cases c2 : u < 0
    · rw [if_pos c2]
      by_cases c3 : v ≤ 0
      · exact ⟨0, by rw [if_pos c3], Or.inr ⟨rfl, by rw [k1] at c1; rw [k2] at c3; omega⟩⟩
      · exact ⟨1, by rw [if_neg c3], Or.inl ⟨rfl, by rw [k3] at c2; rw [k2] at c3; omega⟩⟩
    · exact ⟨0, by rw [if_neg c2], Or.inr ⟨rfl, by rw [k1] at c1; rw [k3] at c2; omega⟩⟩
  · rw [if_neg c1]
    unfold mX2_isBetween_J31 mX2_isBetween_J45
    by_cases c4 : v < 0
    · exact ⟨1, by rw [if_pos c4], Or.inl ⟨rfl, by rw [k1] at c1; rw [k4] at c4; omega⟩⟩
    · rw [if_neg c4, if_neg (fun q => c1 (by rw [k3] at q; rw [k1]; omega))]
      exact ⟨0, rfl, Or.inr ⟨rfl, by rw [k1] at c1; rw [k4] at c4; omega⟩⟩
theorem meet_ok {x y z w : Int32} {p q : Pt} (ho : isO K a 2) (h : lnC M a A B) (hB : lnB A B) (hp : inB p) (hq : inB q) (e1 : p = (x.toInt, y.toInt)) (e2 : q = (z.toInt, w.toInt)) (hop : opp (crs A B p) (crs A B q)) : (whl A B p q ∧ ∃ M', mX2_meet K R M a x y z w = some (1, M') ∧ ((M'.1 a 0).toInt, (M'.1 a 1).toInt) = mtP A B p q ∧ (∀ k, 2 ≤ k → M'.1 a k = M.1 a k) ∧ Fr a (a + 1) M M' ∧ M'.2 = M.2) ∨ (¬ whl A B p q ∧ mX2_meet K R M a x y z w = some (0, M)) := by
  have bu := crsL_b hB hp
  have bv := crsL_b hB hq
  have B1 := hp
  have B2 := hq
  subst e1 e2
  obtain ⟨u, u1, u2⟩ := lside_ok (R := R) ho h hB hp
  obtain ⟨v, v1, v2⟩ := lside_ok (R := R) ho h hB hq
  obtain ⟨p1, p2, p3, p4⟩ := hp
  obtain ⟨q1, q2, q3, q4⟩ := hq
  simp only at p1 p2 p3 p4 q1 q2 q3 q4
  have z0 : (0 : Int64).toInt = 0 := rfl
  have d4 : (u - v).toInt = crs A B (x.toInt, y.toInt) - crs A B (z.toInt, w.toInt) := by rw [sub64 (by omega) (by omega), u2, v2]
  have n4 : ¬ u - v = 0 := by rw [eq64, z0, d4]; unfold opp at hop; omega
  have s1 : (z - x).toInt64.toInt = z.toInt - x.toInt := by rw [i64_int, sub32 (by omega) (by omega)]
  have s2 : (w - y).toInt64.toInt = w.toInt - y.toInt := by rw [i64_int, sub32 (by omega) (by omega)]
  have b6 := mulb (x := z.toInt - x.toInt) (y := crs A B (x.toInt, y.toInt)) (B := 200000) (C := 80000000000) (by omega) (by omega) (by omega) (by omega)
  have b7 := mulb (x := w.toInt - y.toInt) (y := crs A B (x.toInt, y.toInt)) (B := 200000) (C := 80000000000) (by omega) (by omega) (by omega) (by omega)
  have m6 : ((z - x).toInt64 * u).toInt = (z.toInt - x.toInt) * crs A B (x.toInt, y.toInt) := by rw [mul64 (by rw [s1, u2]; omega) (by rw [s1, u2]; omega), s1, u2]
  have m7 : ((w - y).toInt64 * u).toInt = (w.toInt - y.toInt) * crs A B (x.toInt, y.toInt) := by rw [mul64 (by rw [s2, u2]; omega) (by rw [s2, u2]; omega), s2, u2]
  have r6 : (z - x).toInt64 * u - (z - x).toInt64 * u / (u - v) * (u - v) = 0 ↔ (crs A B (x.toInt, y.toInt) - crs A B (z.toInt, w.toInt)) ∣ (z.toInt - x.toInt) * crs A B (x.toInt, y.toInt) := by
    rw [eq64, z0, rem64 (by omega) (by omega), m6, d4]
    exact ⟨Int.dvd_of_tmod_eq_zero, Int.tmod_eq_zero_of_dvd⟩
  have r7 : (w - y).toInt64 * u - (w - y).toInt64 * u / (u - v) * (u - v) = 0 ↔ (crs A B (x.toInt, y.toInt) - crs A B (z.toInt, w.toInt)) ∣ (w.toInt - y.toInt) * crs A B (x.toInt, y.toInt) := by
    rw [eq64, z0, rem64 (by omega) (by omega), m7, d4]
    exact ⟨Int.dvd_of_tmod_eq_zero, Int.tmod_eq_zero_of_dvd⟩
  have t6 : ((z - x).toInt64 * u / (u - v)).toInt = ((z.toInt - x.toInt) * crs A B (x.toInt, y.toInt)).tdiv (crs A B (x.toInt, y.toInt) - crs A B (z.toInt, w.toInt)) := by rw [div64 (by omega) (by omega), m6, d4]
  have t7 : ((w - y).toInt64 * u / (u - v)).toInt = ((w.toInt - y.toInt) * crs A B (x.toInt, y.toInt)).tdiv (crs A B (x.toInt, y.toInt) - crs A B (z.toInt, w.toInt)) := by rw [div64 (by omega) (by omega), m7, d4]
  by_cases g6 : (z - x).toInt64 * u - (z - x).toInt64 * u / (u - v) * (u - v) = 0
  · by_cases g7 : (w - y).toInt64 * u - (w - y).toInt64 * u / (u - v) * (u - v) = 0
    · have hw : whl A B (x.toInt, y.toInt) (z.toInt, w.toInt) := ⟨r6.mp g6, r7.mp g7⟩
      obtain ⟨w0, w1, m1, -, -⟩ := mt_on hop hw
      obtain ⟨c1, c2, c3, c4⟩ := onw_B m1 B1 B2
      have x1 : (mtP A B (x.toInt, y.toInt) (z.toInt, w.toInt)).1 = x.toInt + ((z.toInt - x.toInt) * crs A B (x.toInt, y.toInt)).tdiv (crs A B (x.toInt, y.toInt) - crs A B (z.toInt, w.toInt)) := rfl
      have x2 : (mtP A B (x.toInt, y.toInt) (z.toInt, w.toInt)).2 = y.toInt + ((w.toInt - y.toInt) * crs A B (x.toInt, y.toInt)).tdiv (crs A B (x.toInt, y.toInt) - crs A B (z.toInt, w.toInt)) := rfl
      have y1 : (x.toInt64 + (z - x).toInt64 * u / (u - v)).toInt = (mtP A B (x.toInt, y.toInt) (z.toInt, w.toInt)).1 := by rw [add64 (by rw [i64_int, t6]; omega) (by rw [i64_int, t6]; omega), i64_int, t6, x1]
      have y2 : (y.toInt64 + (w - y).toInt64 * u / (u - v)).toInt = (mtP A B (x.toInt, y.toInt) (z.toInt, w.toInt)).2 := by rw [add64 (by rw [i64_int, t7]; omega) (by rw [i64_int, t7]; omega), i64_int, t7, x2]
      refine Or.inl ⟨hw, pI (pI M a 0 (x.toInt64 + (z - x).toInt64 * u / (u - v)).toInt32) a 1 (y.toInt64 + (w - y).toInt64 * u / (u - v)).toInt32, ?_, ?_, fun k hk => by rw [pI_k (by omega), pI_k (by omega)], (Fr.rf.pI (by omega) (by omega)).pI (by omega) (by omega), rfl⟩
      · unfold mX2_meet
        (repeat (first | rw [ck_t (by first | with_reducible assumption | ((with_reducible apply ixA_of); (with_reducible assumption); omega; omega) | ((with_reducible apply isAr_of); (with_reducible assumption); decide) | ((with_reducible apply nI_ne0); omega; omega) | with_reducible exact isB_0 | with_reducible exact isB_1 | with_reducible exact isB_bI _)] | rw [bd_r (by with_reducible assumption)] | rw [bd_s] | rw [bd2_s] | rw [bd3_s] | rw [nm_s] | rw [nI_clamp (by omega)] | rw [nI_1] | rw [bd_e (u1)] | rw [bd_e (v1)] | rw [if_pos (by first | with_reducible assumption | ((with_reducible refine nI_lt ?_ ?_); omega; omega) | ((with_reducible refine nI_nlt ?_ ?_); omega; omega) | with_reducible exact ne10 | with_reducible rfl)] | rw [if_neg (by first | with_reducible assumption | ((with_reducible refine nI_lt ?_ ?_); omega; omega) | ((with_reducible refine nI_nlt ?_ ?_); omega; omega) | with_reducible exact ne10 | with_reducible rfl)]))
      · rw [pI_k (by decide), pI_s, pI_s, toi32 (by omega) (by omega), toi32 (by omega) (by omega), y1, y2]
    · refine Or.inr ⟨fun q => g7 (r7.mpr q.2), ?_⟩
      unfold mX2_meet
      (repeat (first | rw [ck_t (by first | with_reducible assumption | ((with_reducible apply ixA_of); (with_reducible assumption); omega; omega) | ((with_reducible apply isAr_of); (with_reducible assumption); decide) | ((with_reducible apply nI_ne0); omega; omega) | with_reducible exact isB_0 | with_reducible exact isB_1 | with_reducible exact isB_bI _)] | rw [bd_r (by with_reducible assumption)] | rw [bd_s] | rw [bd2_s] | rw [bd3_s] | rw [nm_s] | rw [nI_clamp (by omega)] | rw [nI_1] | rw [bd_e (u1)] | rw [bd_e (v1)] | rw [if_pos (by first | with_reducible assumption | ((with_reducible refine nI_lt ?_ ?_); omega; omega) | ((with_reducible refine nI_nlt ?_ ?_); omega; omega) | with_reducible exact ne10 | with_reducible rfl)] | rw [if_neg (by first | with_reducible assumption | ((with_reducible refine nI_lt ?_ ?_); omega; omega) | ((with_reducible refine nI_nlt ?_ ?_); omega; omega) | with_reducible exact ne10 | with_reducible rfl)]))
  · refine Or.inr ⟨fun q => g6 (r6.mpr q.1), ?_⟩
    unfold mX2_meet
    (repeat (first | rw [ck_t (by first | with_reducible assumption | ((with_reducible apply ixA_of); (with_reducible assumption); omega; omega) | ((with_reducible apply isAr_of); (with_reducible assumption); decide) | ((with_reducible apply nI_ne0); omega; omega) | with_reducible exact isB_0 | with_reducible exact isB_1 | with_reducible exact isB_bI _)] | rw [bd_r (by with_reducible assumption)] | rw [bd_s] | rw [bd2_s] | rw [bd3_s] | rw [nm_s] | rw [nI_clamp (by omega)] | rw [nI_1] | rw [bd_e (u1)] | rw [bd_e (v1)] | rw [if_pos (by first | with_reducible assumption | ((with_reducible refine nI_lt ?_ ?_); omega; omega) | ((with_reducible refine nI_nlt ?_ ?_); omega; omega) | with_reducible exact ne10 | with_reducible rfl)] | rw [if_neg (by first | with_reducible assumption | ((with_reducible refine nI_lt ?_ ?_); omega; omega) | ((with_reducible refine nI_nlt ?_ ?_); omega; omega) | with_reducible exact ne10 | with_reducible rfl)]))
end LC
