/-! third: what two pieces share, pure -/
theorem opp_s {u v s : Int} (h : opp u v) (hs : sgn1 s) : (0 < s * u ∧ s * v < 0) ∨ (s * u < 0 ∧ 0 < s * v) := by
  unfold opp at h
  rcases hs with rfl | rfl <;> omega
theorem alt4i {s p q r t x y z w : Int} (hs : sgn1 s) (e : p * w = q * x + r * y + t * z) (hp : 0 < p) (hq : 0 < q) (hr : r < 0) (ht : 0 < t) (hx : 0 < s * x) (hy : s * y < 0) (hz : 0 < s * z) (hw : s * w < 0) : False := by
  rcases hs with rfl | rfl
  · have h1 := Int.mul_pos hq (show 0 < x by omega)
    have h2 := Int.mul_pos (show 0 < -r by omega) (show 0 < -y by omega)
    have h3 := Int.mul_pos ht (show 0 < z by omega)
    have h4 := Int.mul_pos hp (show 0 < -w by omega)
    rw [Int.neg_mul_neg] at h2
    rw [Int.mul_neg] at h4
    omega
  · have h1 := Int.mul_pos hq (show 0 < -x by omega)
    have h2 := Int.mul_pos (show 0 < -r by omega) (show 0 < y by omega)
    have h3 := Int.mul_pos ht (show 0 < -z by omega)
    have h4 := Int.mul_pos hp (show 0 < w by omega)
    rw [Int.neg_mul] at h2
    rw [Int.mul_neg] at h1 h3
    omega
theorem alt4 {l : List Pt} (h : Cv l) {A B : Pt} {s : Int} {a b c d : Nat} (hs : sgn1 s) (hab : a < b) (hbc : b < c) (hcd : c < d) (hd : d ≤ l.length) (ga : 0 < s * crs A B (vx l a)) (gb : s * crs A B (vx l b) < 0) (gc : 0 < s * crs A B (vx l c)) (gd : s * crs A B (vx l d) < 0) : False := by
  have hn : ¬ (a = 0 ∧ d = l.length) := by
    rintro ⟨rfl, rfl⟩
    rw [vx_n] at gd
    omega
  have t1 := vx_st h hab hbc (by omega) (by omega)
  have t2 := vx_st h hab (show b < d by omega) hd hn
  have t3 := vx_st h (show a < c by omega) hcd hd hn
  have t4 := vx_st h hbc hcd hd (by omega)
  have e := bary (vx l a) (vx l b) (vx l c) (hpt (vx l d)) (fG A B)
  simp only [gv_fG] at e
  have e2 : crs (vx l c) (vx l a) (vx l d) = -crs (vx l a) (vx l c) (vx l d) := by unfold crs; grind
  exact alt4i hs e t1 t4 (by rw [e2]; omega) t2 ga gb gc gd
theorem opp_two {l : List Pt} (h : Cv l) {A B : Pt} {k1 k2 k3 : Nat} (h12 : k1 < k2) (h23 : k2 < k3) (h3 : k3 < l.length) (o1 : opp (crs A B (vx l k1)) (crs A B (vx l (k1 + 1)))) (o2 : opp (crs A B (vx l k2)) (crs A B (vx l (k2 + 1)))) (o3 : opp (crs A B (vx l k3)) (crs A B (vx l (k3 + 1)))) : False := by
  have go : ∀ s, sgn1 s → 0 < s * crs A B (vx l k1) → s * crs A B (vx l (k1 + 1)) < 0 → False := fun s hs u v => by
    rcases opp_s o2 hs with ⟨a1, a2⟩ | ⟨a1, a2⟩
    · have : k1 + 1 ≠ k2 := fun q => by rw [q] at v; omega
      exact alt4 h hs (show k1 < k1 + 1 by omega) (show k1 + 1 < k2 by omega) (show k2 < k2 + 1 by omega) (by omega) u v a1 a2
    · rcases opp_s o3 hs with ⟨b1, b2⟩ | ⟨b1, b2⟩
      · exact alt4 h hs h12 h23 (show k3 < k3 + 1 by omega) (by omega) u a1 b1 b2
      · have : k2 + 1 ≠ k3 := fun q => by rw [q] at a2; omega
        exact alt4 h hs h12 (show k2 < k2 + 1 by omega) (show k2 + 1 < k3 by omega) (by omega) u a1 a2 b1
  rcases opp_s o1 (Or.inl rfl) with ⟨u, v⟩ | ⟨u, v⟩
  · exact go 1 (Or.inl rfl) u v
  · exact go (-1) (Or.inr rfl) (by omega) (by omega)
theorem kys_le2 {l : List Pt} (h : Cv l) (A B : Pt) : (kys (fun j => opp (crs A B (vx l j)) (crs A B (vx l (j + 1)))) l.length).length ≤ 2 := by
  rcases Nat.lt_or_ge 2 (kys (fun j => opp (crs A B (vx l j)) (crs A B (vx l (j + 1)))) l.length).length with c | c
  · obtain ⟨x, hx⟩ := get_ex (show 0 < (kys (fun j => opp (crs A B (vx l j)) (crs A B (vx l (j + 1)))) l.length).length by omega)
    obtain ⟨y, hy⟩ := get_ex (show 1 < (kys (fun j => opp (crs A B (vx l j)) (crs A B (vx l (j + 1)))) l.length).length by omega)
    obtain ⟨z, hz⟩ := get_ex c
    exact (opp_two h (kys_lt (by decide) hx hy) (kys_lt (by decide) hy hz) (kys_get hz).1 (kys_get hx).2 (kys_get hy).2 (kys_get hz).2).elim
  · exact c
def xc (A B : List Pt) (i k : Nat) : Prop := opp (crs (vx A i) (vx A (i + 1)) (vx B k)) (crs (vx A i) (vx A (i + 1)) (vx B (k + 1))) ∧ opp (crs (vx B k) (vx B (k + 1)) (vx A i)) (crs (vx B k) (vx B (k + 1)) (vx A (i + 1)))
noncomputable def xpt (A B : List Pt) (i k : Nat) : Pt := mtP (vx A i) (vx A (i + 1)) (vx B k) (vx B (k + 1))
def xwh (A B : List Pt) (i k : Nat) : Prop := whl (vx A i) (vx A (i + 1)) (vx B k) (vx B (k + 1))
noncomputable def hlL (A B : List Pt) : Nat → List Pt
  | 0 => []
  | i + 1 => hlL A B i ++ ap1 (inP B (gp A i)) (gp A i)
noncomputable def xrL (A B : List Pt) (i : Nat) : Nat → List Pt
  | 0 => []
  | k + 1 => xrL A B i k ++ ap1 (xc A B i k) (xpt A B i k)
noncomputable def xaL (A B : List Pt) : Nat → List Pt
  | 0 => []
  | i + 1 => xaL A B i ++ xrL A B i B.length
noncomputable def aS (A B : List Pt) : List Pt := hlL A B A.length ++ hlL B A B.length ++ xaL A B A.length
def allX (A B : List Pt) : Prop := ∀ i k, i < A.length → k < B.length → xc A B i k → xwh A B i k
theorem ap1_mem {c : Prop} {x y : Pt} : y ∈ ap1 c x ↔ c ∧ y = x := by
  by_cases h : c
  · rw [ap1_t h]; simp [h]
  · rw [ap1_f h]; simp [h]
theorem ap1_len (c : Prop) (x : Pt) : (ap1 c x).length ≤ 1 := by
  by_cases h : c
  · rw [ap1_t h]; simp
  · rw [ap1_f h]; simp
section TP
variable {A B : List Pt}
theorem hlL_len : ∀ i, (hlL A B i).length ≤ i
  | 0 => Nat.le_refl _
  | i + 1 => by
    show (hlL A B i ++ _).length ≤ _
    have := hlL_len i
    have := ap1_len (inP B (gp A i)) (gp A i)
    rw [List.length_append]; omega
theorem hlL_mem {x : Pt} : ∀ n, x ∈ hlL A B n ↔ ∃ i, i < n ∧ x = gp A i ∧ inP B x
  | 0 => ⟨fun h => absurd h List.not_mem_nil, fun ⟨i, h, _⟩ => absurd h (Nat.not_lt_zero _)⟩
  | n + 1 => by
    show x ∈ hlL A B n ++ _ ↔ _
    rw [List.mem_append, hlL_mem n, ap1_mem]
    constructor
    · rintro (⟨i, h1, h2, h3⟩ | ⟨h1, h2⟩)
      · exact ⟨i, by omega, h2, h3⟩
      · exact ⟨n, by omega, h2, by rw [h2]; exact h1⟩
    · rintro ⟨i, h1, h2, h3⟩
      by_cases z : i = n
      · exact Or.inr ⟨by rw [← z, ← h2]; exact h3, by rw [← z]; exact h2⟩
      · exact Or.inl ⟨i, by omega, h2, h3⟩
theorem xrL_mem {i : Nat} {x : Pt} : ∀ n, x ∈ xrL A B i n ↔ ∃ k, k < n ∧ xc A B i k ∧ x = xpt A B i k
  | 0 => ⟨fun h => absurd h List.not_mem_nil, fun ⟨i, h, _⟩ => absurd h (Nat.not_lt_zero _)⟩
  | n + 1 => by
    show x ∈ xrL A B i n ++ _ ↔ _
    rw [List.mem_append, xrL_mem n, ap1_mem]
    constructor
    · rintro (⟨k, h1, h2, h3⟩ | ⟨h1, h2⟩)
      · exact ⟨k, by omega, h2, h3⟩
      · exact ⟨n, by omega, h1, h2⟩
    · rintro ⟨k, h1, h2, h3⟩
      by_cases z : k = n
      · subst z; exact Or.inr ⟨h2, h3⟩
      · exact Or.inl ⟨k, by omega, h2, h3⟩
theorem xaL_mem {x : Pt} : ∀ n, x ∈ xaL A B n ↔ ∃ i k, i < n ∧ k < B.length ∧ xc A B i k ∧ x = xpt A B i k
  | 0 => ⟨fun h => absurd h List.not_mem_nil, fun ⟨i, _, h, _⟩ => absurd h (Nat.not_lt_zero _)⟩
  | n + 1 => by
    show x ∈ xaL A B n ++ _ ↔ _
    rw [List.mem_append, xaL_mem n, xrL_mem]
    constructor
    · rintro (⟨i, k, h1, h2, h3⟩ | ⟨k, h2, h3⟩)
      · exact ⟨i, k, by omega, h2, h3⟩
      · exact ⟨n, k, by omega, h2, h3⟩
    · rintro ⟨i, k, h1, h2, h3⟩
      by_cases z : i = n
      · subst z; exact Or.inr ⟨k, h2, h3⟩
      · exact Or.inl ⟨i, k, by omega, h2, h3⟩
theorem xrL_mono (i : Nat) : ∀ d k, (xrL A B i k).length ≤ (xrL A B i (k + d)).length
  | 0, k => Nat.le_refl _
  | d + 1, k => by
    have := xrL_mono i d k
    show _ ≤ (xrL A B i (k + d) ++ _).length
    rw [List.length_append]; omega
theorem xrL_kys (i : Nat) : ∀ k, (xrL A B i k).length ≤ (kys (fun j => opp (crs (vx A i) (vx A (i + 1)) (vx B j)) (crs (vx A i) (vx A (i + 1)) (vx B (j + 1)))) k).length
  | 0 => Nat.zero_le _
  | k + 1 => by
    have ih := xrL_kys i k
    show (xrL A B i k ++ _).length ≤ _
    rw [kys_1, List.length_append, List.length_append]
    by_cases h : xc A B i k
    · rw [ap1_t h, if_pos h.1]
      show _ + 1 ≤ _ + 1
      omega
    · rw [ap1_f h]
      show _ + 0 ≤ _
      omega
theorem xrL_le2 (hB : Cv B) {i k : Nat} (hk : k ≤ B.length) : (xrL A B i k).length ≤ 2 := by
  have h1 := xrL_mono (A := A) (B := B) i (B.length - k) k
  rw [show k + (B.length - k) = B.length by omega] at h1
  have h2 := xrL_kys (A := A) (B := B) i B.length
  have h3 := kys_le2 hB (vx A i) (vx A (i + 1))
  omega
theorem xaL_len (hB : Cv B) : ∀ i, (xaL A B i).length ≤ 2 * i
  | 0 => Nat.le_refl _
  | i + 1 => by
    have h1 := xaL_len hB i
    have h2 := xrL_le2 (A := A) (i := i) hB (Nat.le_refl B.length)
    show (xaL A B i ++ _).length ≤ _
    rw [List.length_append]; omega
theorem vx_sd {l : List Pt} {i : Nat} (h : i < l.length) : sd l (vx l i) (vx l (i + 1)) := ⟨i, by rw [vx_lt h]; exact gp_get h, gp_get (mod_lt' h)⟩
theorem x_c {m n u v a b c d : Int} (h4 : u - v + (m - n) = 0) (hx : u * b - v * a + (m * d - n * c) = 0) (hD : m - n ≠ 0) : ((u - v) ∣ (b - a) * u ↔ (m - n) ∣ (d - c) * m) ∧ ((m - n) ∣ (d - c) * m → a + ((b - a) * u).tdiv (u - v) = c + ((d - c) * m).tdiv (m - n)) := by
  have hv : v = u + (m - n) := by omega
  have e : (d - c) * m = (m - n) * (a - c) - (b - a) * u := by subst hv; grind
  have E : u - v = -(m - n) := by omega
  have f2 : (m - n) ∣ (d - c) * m → ∃ s, (d - c) * m = (m - n) * s ∧ (b - a) * u = (u - v) * (s - (a - c)) := fun ⟨s, hs⟩ => ⟨s, hs, by
    rw [E]
    have : (b - a) * u = (m - n) * (a - c) - (m - n) * s := by omega
    rw [this]; grind⟩
  refine ⟨⟨fun ⟨t, ht⟩ => ⟨a - c + t, ?_⟩, fun h => ?_⟩, fun h => ?_⟩
  · rw [e, ht, E]; grind
  · obtain ⟨s, _, h2⟩ := f2 h
    exact ⟨_, h2⟩
  · obtain ⟨s, h1, h2⟩ := f2 h
    rw [h1, h2, Int.mul_tdiv_cancel_left _ hD, Int.mul_tdiv_cancel_left _ (by omega)]
    omega
theorem gv_1 (p : Pt) : gv (1, 0, 0) (hpt p) = p.1 := by unfold gv hpt; simp
theorem gv_2 (p : Pt) : gv (0, 1, 0) (hpt p) = p.2 := by unfold gv hpt; simp
theorem x_sym {a b c d : Pt} (ho : opp (crs a b c) (crs a b d)) : (whl c d a b ↔ whl a b c d) ∧ (whl a b c d → mtP c d a b = mtP a b c d) := by
  have hD : crs a b c - crs a b d ≠ 0 := by unfold opp at ho; omega
  have h4 := mix4 a b c d
  have m1 := mix a b c d (1, 0, 0)
  have m2 := mix a b c d (0, 1, 0)
  simp only [gv_1] at m1
  simp only [gv_2] at m2
  obtain ⟨p1, p2⟩ := x_c h4 m1 hD
  obtain ⟨q1, q2⟩ := x_c h4 m2 hD
  unfold whl mtP
  exact ⟨and_congr p1 q1, fun ⟨h1, h2⟩ => Prod.ext (p2 h1) (q2 h2)⟩
theorem onw_in {l : List Pt} {x y z : Pt} {w0 w1 : Int} (h : onw x y z w0 w1) (hy : inP l y) (hz : inP l z) : inP l x := fun i a b ha hb => by
  have e := h.2.2 (fG a b)
  simp only [gv_fG] at e
  have h1 := Int.mul_nonneg (Int.le_of_lt h.1) (hy i a b ha hb)
  have h2 := Int.mul_nonneg h.2.1 (hz i a b ha hb)
  rcases ilg (crs a b x) 0 with c | c
  · have := Int.mul_pos (show 0 < w0 + w1 by have := h.1; have := h.2.1; omega) (show 0 < -crs a b x by omega)
    rw [Int.mul_neg] at this
    omega
  · exact c
theorem Cv.inP {l : List Pt} (h : Cv l) {c : Pt} (hc : c ∈ l) : inP l c := inP_H.mpr (h.inH hc)
theorem vx_in {l : List Pt} (h : Cv l) (h0 : 0 < l.length) (i : Nat) : inP l (vx l i) := h.inP (vx_m h0)
theorem aS_in (hA : Cv A) (A3 : 3 ≤ A.length) (hX : allX A B) {x : Pt} (hx : x ∈ aS A B) : inP A x := by
  unfold aS at hx
  rcases List.mem_append.mp hx with h | h
  · rcases List.mem_append.mp h with h | h
    · obtain ⟨i, h1, h2, -⟩ := (hlL_mem _).mp h
      rw [h2]; exact hA.inP (get_mem (gp_get h1))
    · obtain ⟨i, h1, h2, h3⟩ := (hlL_mem _).mp h
      exact h3
  · obtain ⟨i, k, h1, h2, h3, h4⟩ := (xaL_mem _).mp h
    have w := hX i k h1 h2 h3
    obtain ⟨y1, y2⟩ := x_sym h3.1
    obtain ⟨w0, w1, o, -⟩ := mt_on h3.2 (y1.mpr w)
    rw [y2 w] at o
    rw [h4]
    exact onw_in o (vx_in hA (by omega) _) (vx_in hA (by omega) _)
end TP
