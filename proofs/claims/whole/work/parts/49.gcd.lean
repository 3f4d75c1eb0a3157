/-! THE GREATEST COMMON DIVISOR, on both sides -/
theorem div32 {a b : Int32} (hb : b.toInt ≠ -1) : (a / b).toInt = a.toInt.tdiv b.toInt := by
  rw [Int32.toInt_div]
  have h1 := Int32.le_toInt a
  have h2 := Int32.toInt_lt a
  have h3 : (a.toInt.tdiv b.toInt).natAbs ≤ a.toInt.natAbs := by rw [Int.natAbs_tdiv]; exact Nat.div_le_self _ _
  by_cases h : a.toInt.tdiv b.toInt = 2 ^ 31
  · exfalso
    have ha : a.toInt.natAbs = 2 ^ 31 := by omega
    rw [show a.toInt.tdiv b.toInt = 2 ^ 31 from h] at h3
    have e := congrArg Int.natAbs h
    rw [Int.natAbs_tdiv, ha] at e
    have e2 : 2 ^ 31 / b.toInt.natAbs = 2 ^ 31 := e
    have hb1 : b.toInt.natAbs = 1 := by
      rcases Nat.lt_or_ge b.toInt.natAbs 2 with q | q
      · rcases Nat.eq_zero_or_pos b.toInt.natAbs with z | z
        · rw [z] at e2; simp at e2
        · omega
      · have : 2 ^ 31 / b.toInt.natAbs ≤ 2 ^ 31 / 2 := Nat.div_le_div_left q (by omega)
        omega
    have hb2 : b.toInt = 1 := by omega
    rw [hb2, Int.tdiv_one] at h
    omega
  · rw [Int.bmod_eq_of_le (by omega) (by omega)]
theorem div64 {a b : Int64} (h1 : -2 ^ 62 ≤ a.toInt) (h2 : a.toInt ≤ 2 ^ 62) : (a / b).toInt = a.toInt.tdiv b.toInt := by
  rw [Int64.toInt_div]
  have h3 : (a.toInt.tdiv b.toInt).natAbs ≤ a.toInt.natAbs := by rw [Int.natAbs_tdiv]; exact Nat.div_le_self _ _
  rw [Int.bmod_eq_of_le (by omega) (by omega)]
theorem rem64 {a b : Int64} (h1 : -2 ^ 61 ≤ a.toInt) (h2 : a.toInt ≤ 2 ^ 61) : (a - a / b * b).toInt = a.toInt.tmod b.toInt := by
  have hd := div64 (b := b) (a := a) (by omega) (by omega)
  have e := Int.tdiv_mul_add_tmod a.toInt b.toInt
  have h3 : (a.toInt.tmod b.toInt).natAbs ≤ a.toInt.natAbs := by rw [Int.natAbs_tmod]; exact Nat.mod_le _ _
  have hm : (a / b * b).toInt = a.toInt.tdiv b.toInt * b.toInt := by
    rw [mul64 (by rw [hd]; omega) (by rw [hd]; omega), hd]
  rw [sub64 (by rw [hm]; omega) (by rw [hm]; omega), hm]
  omega
theorem lN_rem {a b : Nat} (ha : a < 2 ^ 31) (hb : b < 2 ^ 31) : lN a - lN a / lN b * lN b = lN (a % b) := by
  rw [eq64, rem64 (by rw [lN_int ha]; omega) (by rw [lN_int ha]; omega), lN_int ha, lN_int hb, lN_int (Nat.lt_of_le_of_lt (Nat.mod_le _ _) ha)]
  exact (Int.ofNat_tmod a b).symm
/-- the steps of the way down: at an even one b is small, at an odd one a -/
def dn (i a b : Nat) : Prop := (∃ n, i = 2 * n ∧ b < 2 ^ (18 - n)) ∨ (∃ n, i = 2 * n + 1 ∧ a < 2 ^ (18 - n) ∧ b < a)
theorem dn_step {i a b : Nat} (h : dn i a b) (hb : b ≠ 0) : dn (i + 1) b (a % b) := by
  have hlt : a % b < b := Nat.mod_lt _ (by omega)
  rcases h with ⟨n, h1, h2⟩ | ⟨n, h1, h2, h3⟩
  · exact Or.inr ⟨n, by omega, h2, hlt⟩
  · refine Or.inl ⟨n + 1, by omega, ?_⟩
    have h4 : a % b ≤ a - b := by
      rw [Nat.mod_eq_sub_mod (by omega)]; exact Nat.mod_le _ _
    by_cases hn : n < 18
    · have e : 2 ^ (18 - n) = 2 * 2 ^ (18 - (n + 1)) := by
        rw [show 18 - n = (18 - (n + 1)) + 1 by omega, Nat.pow_succ]; omega
      omega
    · rw [show 18 - n = 0 by omega] at h2
      simp at h2
      omega
theorem dn_end {a b : Nat} (h : dn 36 a b) : b = 0 := by
  rcases h with ⟨n, h1, h2⟩ | ⟨n, h1, h2, h3⟩
  · have : n = 18 := by omega
    subst this
    simp at h2; exact h2
  · omega
section GCD
variable {K : Kk} {R : Rr} {M : Mm}
theorem gcdC_ok {a b : Nat} (ha : a ≤ 200000) (hb : b ≤ 200000) : mX6_greatestDivisor K R M (nI a) (nI b) = some (nI (Nat.gcd a b)) := by
  have hL := lp_ind (f := mX6_greatestDivisor_L7 K R M) (fun (i : Nat) (s : Int32 × Int32 × Int32) => ∃ x y, s = (nI x, nI y, nI i) ∧ x ≤ 200000 ∧ y ≤ 200000 ∧ dn i x y ∧ Nat.gcd x y = Nat.gcd a b) (fun v => v = nI (Nat.gcd a b)) 36 ?_ ?_
  · obtain ⟨v, e1, rfl⟩ := hL 36 0 (nI a, nI b, nI 0) rfl ⟨a, b, rfl, ha, hb, Or.inl ⟨0, rfl, by show b < 2 ^ 18; omega⟩, rfl⟩
    unfold mX6_greatestDivisor
    (repeat (first | rw [ck_t (by first | with_reducible assumption | ((with_reducible apply ixA_of); (with_reducible assumption); omega; omega) | ((with_reducible apply isAr_of); (with_reducible assumption); decide) | ((with_reducible apply nI_ne0); omega; omega) | with_reducible exact isB_0 | with_reducible exact isB_1 | with_reducible exact isB_bI _)] | rw [bd_r (by with_reducible assumption)] | rw [bd_s] | rw [bd2_s] | rw [bd3_s] | rw [nm_s] | rw [nI_clamp (by omega)] | rw [nI_1] | rw [if_pos (by first | with_reducible assumption | ((with_reducible refine nI_lt ?_ ?_); omega; omega) | ((with_reducible refine nI_nlt ?_ ?_); omega; omega) | with_reducible exact ne10 | with_reducible rfl)] | rw [if_neg (by first | with_reducible assumption | ((with_reducible refine nI_lt ?_ ?_); omega; omega) | ((with_reducible refine nI_nlt ?_ ?_); omega; omega) | with_reducible exact ne10 | with_reducible rfl)]))
    exact e1
  · rintro i s hi ⟨x, y, rfl, hx, hy, hd, hg⟩
    show (∃ s', mX6_greatestDivisor_B7 K R M (nI x) (nI y) (nI i) = _ ∧ _) ∨ ∃ r, mX6_greatestDivisor_B7 K R M (nI x) (nI y) (nI i) = _ ∧ _
    unfold mX6_greatestDivisor_B7
    rw [if_pos (show nI i < 64 from nI_lt (b := 64) (by omega) (by decide))]
    by_cases h0 : y = 0
    · subst h0
      rw [if_pos (show nI 0 = 0 from rfl)]
      refine Or.inr ⟨nI x, rfl, ?_⟩
      rw [← hg, Nat.gcd_zero_right]
    · rw [if_neg (nI_ne0 (by omega) (by omega))]
      have : x % y ≤ x := Nat.mod_le _ _
      refine Or.inl ⟨(nI y, nI (x % y), nI (i + 1)), ?_, y, x % y, rfl, hy, by omega, dn_step hd h0, ?_⟩
      · (repeat (first | rw [ck_t (by first | with_reducible assumption | ((with_reducible apply ixA_of); (with_reducible assumption); omega; omega) | ((with_reducible apply isAr_of); (with_reducible assumption); decide) | ((with_reducible apply nI_ne0); omega; omega) | with_reducible exact isB_0 | with_reducible exact isB_1 | with_reducible exact isB_bI _)] | rw [bd_r (by with_reducible assumption)] | rw [bd_s] | rw [bd2_s] | rw [bd3_s] | rw [nm_s] | rw [nI_clamp (by omega)] | rw [nI_1] | rw [pk_rem (show x < 2 ^ 31 by omega) (show 0 < y by omega) (show y < 2 ^ 31 by omega)] | rw [if_pos (by first | with_reducible assumption | ((with_reducible refine nI_lt ?_ ?_); omega; omega) | ((with_reducible refine nI_nlt ?_ ?_); omega; omega) | with_reducible exact ne10 | with_reducible rfl)] | rw [if_neg (by first | with_reducible assumption | ((with_reducible refine nI_lt ?_ ?_); omega; omega) | ((with_reducible refine nI_nlt ?_ ?_); omega; omega) | with_reducible exact ne10 | with_reducible rfl)]))
      · rw [Nat.gcd_comm y, ← Nat.gcd_rec, Nat.gcd_comm]; exact hg
  · rintro s ⟨x, y, rfl, hx, hy, hd, hg⟩
    obtain rfl := dn_end hd
    refine ⟨nI x, ?_, by rw [← hg, Nat.gcd_zero_right]⟩
    show mX6_greatestDivisor_B7 K R M (nI x) (nI 0) (nI 36) = _
    unfold mX6_greatestDivisor_B7
    rw [if_pos (by decide), if_pos (show nI 0 = 0 from rfl)]
    rfl
theorem gcdM_lp {a b : Nat} (ha : a ≤ 200000) (hb : b ≤ 200000) : lp (mX8_common_L28 K R M) (lN a, lN b) = some (lN (Nat.gcd a b)) := by
  have hL := lp_ind (f := mX8_common_L28 K R M) (fun (i : Nat) (s : Int64 × Int64) => ∃ x y, s = (lN x, lN y) ∧ x ≤ 200000 ∧ y ≤ 200000 ∧ dn i x y ∧ Nat.gcd x y = Nat.gcd a b) (fun v => v = lN (Nat.gcd a b)) 36 ?_ ?_
  · obtain ⟨v, e1, rfl⟩ := hL 36 0 (lN a, lN b) rfl ⟨a, b, rfl, ha, hb, Or.inl ⟨0, rfl, by show b < 2 ^ 18; omega⟩, rfl⟩
    exact e1
  · rintro i s hi ⟨x, y, rfl, hx, hy, hd, hg⟩
    show (∃ s', mX8_common_B28 K R M (lN x) (lN y) = _ ∧ _) ∨ ∃ r, mX8_common_B28 K R M (lN x) (lN y) = _ ∧ _
    unfold mX8_common_B28
    by_cases h0 : y = 0
    · subst h0
      rw [if_pos (show lN 0 = 0 from rfl)]
      refine Or.inr ⟨lN x, rfl, ?_⟩
      rw [← hg, Nat.gcd_zero_right]
    · have n0 : ¬ lN y = 0 := fun q => h0 ((lN_eq (by omega) (by decide : 0 < 2 ^ 31)).mp q)
      rw [if_neg n0, ck_t n0, nm_s, lN_rem (by omega) (by omega)]
      have : x % y ≤ x := Nat.mod_le _ _
      refine Or.inl ⟨(lN y, lN (x % y)), rfl, y, x % y, rfl, hy, by omega, dn_step hd h0, ?_⟩
      rw [Nat.gcd_comm y, ← Nat.gcd_rec, Nat.gcd_comm]; exact hg
  · rintro s ⟨x, y, rfl, hx, hy, hd, hg⟩
    obtain rfl := dn_end hd
    refine ⟨lN x, ?_, by rw [← hg, Nat.gcd_zero_right]⟩
    show mX8_common_B28 K R M (lN x) (lN 0) = _
    unfold mX8_common_B28
    rw [if_pos (show lN 0 = 0 from rfl)]
    rfl
theorem abs32 {x : Int32} (h1 : -200000 ≤ x.toInt) (h2 : x.toInt ≤ 200000) : (if (0 : Int32) ≤ x then x else 0 - x) = nI x.toInt.natAbs := by
  by_cases h : (0 : Int32) ≤ x
  · rw [if_pos h]
    rw [le32] at h
    have h : 0 ≤ x.toInt := h
    rw [eq32, nI_int (by omega)]; omega
  · rw [if_neg h]
    rw [le32] at h
    have h : ¬ 0 ≤ x.toInt := h
    have z : (0 : Int32).toInt = 0 := rfl
    rw [eq32, nI_int (by omega), sub32 (by omega) (by omega)]; omega
theorem gcdM_ok {x y : Int64} (h1 : -200000 ≤ x.toInt) (h2 : x.toInt ≤ 200000) (h3 : -200000 ≤ y.toInt) (h4 : y.toInt ≤ 200000) : mX8_common K R M x y = some (lN (Nat.gcd x.toInt.natAbs y.toInt.natAbs)) := by
  have z : (0 : Int64).toInt = 0 := rfl
  have key : ∀ w : Int64, -200000 ≤ w.toInt → w.toInt ≤ 200000 → (w < 0 → -w = lN w.toInt.natAbs) ∧ (¬ w < 0 → w = lN w.toInt.natAbs) := fun w a b => by
    refine ⟨fun h => ?_, fun h => ?_⟩
    · rw [lt64, z] at h
      rw [eq64, lN_int (by omega), neg64 (by omega)]; omega
    · rw [lt64, z] at h
      rw [eq64, lN_int (by omega)]; omega
  have j26 : ∀ w, mX8_common_J26 K R M (lN x.toInt.natAbs) (lN w) = lp (mX8_common_L28 K R M) (lN x.toInt.natAbs, lN w) := fun w => rfl
  have j12 : mX8_common_J12 K R M y (lN x.toInt.natAbs) = some (lN (Nat.gcd x.toInt.natAbs y.toInt.natAbs)) := by
    unfold mX8_common_J12
    by_cases h : y < 0
    · rw [if_pos h, (key y h3 h4).1 h, j26]; exact gcdM_lp (by omega) (by omega)
    · rw [if_neg h]
      have e := (key y h3 h4).2 h
      have : mX8_common_J26 K R M (lN x.toInt.natAbs) y = mX8_common_J26 K R M (lN x.toInt.natAbs) (lN y.toInt.natAbs) := congrArg _ e
      rw [this, j26]; exact gcdM_lp (by omega) (by omega)
  unfold mX8_common
  by_cases h : x < 0
  · rw [if_pos h, (key x h1 h2).1 h]; exact j12
  · rw [if_neg h]
    have e := (key x h1 h2).2 h
    have : mX8_common_J12 K R M y x = mX8_common_J12 K R M y (lN x.toInt.natAbs) := congrArg _ e
    rw [this]; exact j12
end GCD
