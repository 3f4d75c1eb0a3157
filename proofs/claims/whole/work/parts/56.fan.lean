/-! PURE GEOMETRY: places with a weight, what lies within a ring -/
abbrev Hp : Type := Int × Int × Int
def gv (G x : Hp) : Int := G.1 * x.1 + G.2.1 * x.2.1 + G.2.2 * x.2.2
def hpt (p : Pt) : Hp := (p.1, p.2, 1)
def fG (a b : Pt) : Hp := (a.2 - b.2, b.1 - a.1, (b.2 - a.2) * a.1 - (b.1 - a.1) * a.2)
def lc2 (u : Int) (x : Hp) (v : Int) (y : Hp) : Hp := (u * x.1 + v * y.1, u * x.2.1 + v * y.2.1, u * x.2.2 + v * y.2.2)
theorem gv_fG (a b p : Pt) : gv (fG a b) (hpt p) = crs a b p := by unfold gv fG hpt crs; grind
theorem gv_lc (G x y : Hp) (u v : Int) : gv G (lc2 u x v y) = u * gv G x + v * gv G y := by unfold gv lc2; grind
theorem fG_swap (a b : Pt) (x : Hp) : gv (fG b a) x = -gv (fG a b) x := by unfold gv fG; grind
theorem bary (a b c : Pt) (x G : Hp) : crs a b c * gv G x = gv (fG b c) x * gv G (hpt a) + gv (fG c a) x * gv G (hpt b) + gv (fG a b) x * gv G (hpt c) := by unfold gv fG hpt crs; grind
def inH (l : List Pt) (x : Hp) : Prop := ∀ (i : Nat) a b, l[i]? = some a → l[(i + 1) % l.length]? = some b → 0 ≤ gv (fG a b) x
def sd (l : List Pt) (a b : Pt) : Prop := ∃ i : Nat, l[i]? = some a ∧ l[(i + 1) % l.length]? = some b
theorem inP_H {l : List Pt} {p : Pt} : inP l p ↔ inH l (hpt p) := by
  constructor
  · intro h i a b ha hb; rw [gv_fG]; exact h i a b ha hb
  · intro h i a b ha hb; rw [← gv_fG]; exact h i a b ha hb
theorem inH.sd {l : List Pt} {x : Hp} (h : inH l x) {a b : Pt} (s : sd l a b) : 0 ≤ gv (fG a b) x := by
  obtain ⟨i, h1, h2⟩ := s
  exact h i a b h1 h2
theorem sd.l {l : List Pt} {a b : Pt} (s : sd l a b) : a ∈ l := by obtain ⟨i, h1, h2⟩ := s; exact get_mem h1
theorem sd.r {l : List Pt} {a b : Pt} (s : sd l a b) : b ∈ l := by obtain ⟨i, h1, h2⟩ := s; exact get_mem h2
theorem Cv.le {l : List Pt} (h : Cv l) {a b c : Pt} (s : sd l a b) (hc : c ∈ l) : c = a ∨ c = b ∨ 0 < crs a b c := by
  obtain ⟨i, h1, h2⟩ := s
  obtain ⟨j, -, hj⟩ := mem_get hc
  rcases h.side h1 h2 hj with z | z | z
  · subst z; exact Or.inl (get_un hj h1)
  · rw [z] at hj; exact Or.inr (Or.inl (get_un hj h2))
  · exact Or.inr (Or.inr z)
theorem Cv.le0 {l : List Pt} (h : Cv l) {a b c : Pt} (s : sd l a b) (hc : c ∈ l) : 0 ≤ crs a b c := by
  rcases h.le s hc with z | z | z
  · rw [z, crs_ab]; omega
  · rw [z, crs_bb]; omega
  · omega
theorem Cv.inH {l : List Pt} (h : Cv l) {c : Pt} (hc : c ∈ l) : inH l (hpt c) := fun i a b ha hb => by
  rw [gv_fG]; exact h.le0 ⟨i, ha, hb⟩ hc
/-- x is what some corners make of it, by weights -/
def cvx (l : List Pt) (x : Hp) : Prop := ∃ a b c wa wb wc A, a ∈ l ∧ b ∈ l ∧ c ∈ l ∧ 0 ≤ wa ∧ 0 ≤ wb ∧ 0 ≤ wc ∧ 0 < A ∧ ∀ G, A * gv G x = wa * gv G (hpt a) + wb * gv G (hpt b) + wc * gv G (hpt c)
theorem fan {l : List Pt} {x : Hp} (h : Cv l) (h3 : 3 ≤ l.length) (hx : inH l x) : cvx l x := by
  obtain ⟨q, hq⟩ := get_ex (l := l) (i := 0) (by omega)
  have go : ∀ (d s : Nat) b, s + 1 + d + 1 = l.length → 1 ≤ s → l[s]? = some b → 0 ≤ gv (fG q b) x → ∃ s b c, 1 ≤ s ∧ s + 1 < l.length ∧ l[s]? = some b ∧ l[s + 1]? = some c ∧ 0 ≤ gv (fG q b) x ∧ gv (fG q c) x ≤ 0 := by
    intro d
    induction d with
    | zero =>
      intro s b hs h1 hb g
      obtain ⟨c, hc⟩ := get_ex (l := l) (i := s + 1) (by omega)
      have := hx (s + 1) c q hc (by rw [show s + 1 + 1 = l.length by omega, Nat.mod_self]; exact hq)
      rw [fG_swap] at this
      exact ⟨s, b, c, h1, by omega, hb, hc, g, by omega⟩
    | succ d ih =>
      intro s b hs h1 hb g
      obtain ⟨c, hc⟩ := get_ex (l := l) (i := s + 1) (by omega)
      rcases ilg 0 (gv (fG q c) x) with z | z
      · exact ih (s + 1) c (by omega) (by omega) hc (by omega)
      · exact ⟨s, b, c, h1, by omega, hb, hc, g, z⟩
  obtain ⟨b1, hb1⟩ := get_ex (l := l) (i := 1) (by omega)
  obtain ⟨s, b, c, s1, s2, hb, hc, g1, g2⟩ := go (l.length - 3) 1 b1 (by omega) (by omega) hb1 (hx 0 q b1 hq (by rw [Nat.mod_eq_of_lt (by omega)]; exact hb1))
  have e := hx s b c hb (by rw [Nat.mod_eq_of_lt s2]; exact hc)
  exact ⟨q, b, c, gv (fG b c) x, gv (fG c q) x, gv (fG q b) x, crs q b c, get_mem hq, get_mem hb, get_mem hc, e, by rw [fG_swap]; omega, g1, h 0 s (s + 1) q b c (by omega) (by omega) hq hb hc, bary q b c x⟩
theorem cvx.le {l : List Pt} {x G : Hp} (h : cvx l x) (hl : ∀ c, c ∈ l → gv G (hpt c) ≤ 0) : gv G x ≤ 0 := by
  obtain ⟨a, b, c, wa, wb, wc, A, ha, hb, hc, p1, p2, p3, p4, e⟩ := h
  have e := e G
  have m1 := Int.mul_nonpos_of_nonneg_of_nonpos p1 (hl a ha)
  have m2 := Int.mul_nonpos_of_nonneg_of_nonpos p2 (hl b hb)
  have m3 := Int.mul_nonpos_of_nonneg_of_nonpos p3 (hl c hc)
  rcases ilg 0 (gv G x) with z | z
  · have := Int.mul_pos p4 z; omega
  · exact z
theorem cvx.pos {l : List Pt} {x G : Hp} (h : cvx l x) (hg : 0 < gv G x) : ∃ c, c ∈ l ∧ 0 < gv G (hpt c) := by
  by_cases z : ∃ c, c ∈ l ∧ 0 < gv G (hpt c)
  · exact z
  · have := h.le (G := G) (fun c hc => by
      rcases ilg 0 (gv G (hpt c)) with w | w
      · exact absurd ⟨c, hc, w⟩ z
      · exact w)
    omega
theorem onside {l : List Pt} {x : Hp} (h : Cv l) (h3 : 3 ≤ l.length) (hx : inH l x) {a b : Pt} (s : sd l a b) (h0 : gv (fG a b) x = 0) : ∃ u v A, 0 ≤ u ∧ 0 ≤ v ∧ 0 < A ∧ ∀ G, A * gv G x = u * gv G (hpt a) + v * gv G (hpt b) := by
  obtain ⟨c1, c2, c3, w1, w2, w3, A, m1, m2, m3, p1, p2, p3, p4, e⟩ := fan h h3 hx
  have e0 := e (fG a b)
  rw [h0, Int.mul_zero, gv_fG, gv_fG, gv_fG] at e0
  have k1 := Int.mul_nonneg p1 (h.le0 s m1)
  have k2 := Int.mul_nonneg p2 (h.le0 s m2)
  have k3 := Int.mul_nonneg p3 (h.le0 s m3)
  have one : ∀ c w, c ∈ l → 0 ≤ w → w * crs a b c = 0 → ∃ u v, 0 ≤ u ∧ 0 ≤ v ∧ ∀ G, w * gv G (hpt c) = u * gv G (hpt a) + v * gv G (hpt b) := fun c w hc hw hz => by
    rcases h.le s hc with z | z | z
    · exact ⟨w, 0, hw, by omega, fun G => by rw [z]; omega⟩
    · exact ⟨0, w, by omega, hw, fun G => by rw [z]; omega⟩
    · have w0 : w = 0 := (Int.mul_eq_zero.mp hz).resolve_right (by omega)
      exact ⟨0, 0, by omega, by omega, fun G => by rw [w0]; omega⟩
  obtain ⟨u1, v1, a1, b1, g1⟩ := one c1 w1 m1 p1 (by omega)
  obtain ⟨u2, v2, a2, b2, g2⟩ := one c2 w2 m2 p2 (by omega)
  obtain ⟨u3, v3, a3, b3, g3⟩ := one c3 w3 m3 p3 (by omega)
  refine ⟨u1 + u2 + u3, v1 + v2 + v3, A, by omega, by omega, p4, fun G => ?_⟩
  rw [e G, g1, g2, g3]
  grind
theorem rat_tr {u1 v1 u2 v2 u3 v3 : Int} (h2 : 0 < v2) (h1 : 0 < v1) (h3 : 0 < v3) (a : u1 * v2 ≤ u2 * v1) (b : u2 * v3 ≤ u3 * v2) : u1 * v3 ≤ u3 * v1 := by
  have a1 := Int.mul_le_mul_of_nonneg_right a (show 0 ≤ v3 by omega)
  have b1 := Int.mul_le_mul_of_nonneg_right b (show 0 ≤ v1 by omega)
  refine Int.le_of_mul_le_mul_right (a := v2) ?_ h2
  have e1 : u1 * v3 * v2 = u1 * v2 * v3 := by grind
  have e2 : u3 * v1 * v2 = u3 * v2 * v1 := by grind
  have e3 : u2 * v1 * v3 = u2 * v3 * v1 := by grind
  omega
theorem argm (u v : Nat → Int) : ∀ n, (∃ i, i < n ∧ v i < 0) → ∃ k, k < n ∧ v k < 0 ∧ ∀ i, i < n → v i < 0 → u k * (-v i) ≤ u i * (-v k)
  | 0, h => by obtain ⟨i, hi, _⟩ := h; omega
  | n + 1, h => by
    by_cases hn : ∃ i, i < n ∧ v i < 0
    · obtain ⟨k, k1, k2, k3⟩ := argm u v n hn
      by_cases vn : v n < 0
      · rcases Int.le_total (u k * (-v n)) (u n * (-v k)) with z | z
        · refine ⟨k, by omega, k2, fun i hi hv => ?_⟩
          by_cases e : i = n
          · rw [e]; exact z
          · exact k3 i (by omega) hv
        · refine ⟨n, by omega, vn, fun i hi hv => ?_⟩
          by_cases e : i = n
          · rw [e]; exact Int.le_refl _
          · exact rat_tr (show 0 < -v k by omega) (by omega) (by omega) z (k3 i (by omega) hv)
      · refine ⟨k, by omega, k2, fun i hi hv => ?_⟩
        by_cases e : i = n
        · rw [e] at hv; exact absurd hv vn
        · exact k3 i (by omega) hv
    · obtain ⟨i, hi, hv⟩ := h
      have e : i = n := by
        by_cases e : i = n
        · exact e
        · exact absurd ⟨i, by omega, hv⟩ hn
      subst e
      refine ⟨i, hi, hv, fun j hj hw => ?_⟩
      by_cases e : j = i
      · rw [e]; exact Int.le_refl _
      · exact absurd ⟨j, by omega, hw⟩ hn
/-- on the way from y, which lies within, to z, which doesn't: the last place within -/
theorem exit_ex {q : List Pt} {y z : Hp} (hy : inH q y) (hz : ¬ inH q z) : ∃ a b, sd q a b ∧ gv (fG a b) z < 0 ∧ inH q (lc2 (gv (fG a b) y) z (-gv (fG a b) z) y) := by
  have hn : ∃ i, i < q.length ∧ gv (fG (gp q i) (gp q ((i + 1) % q.length))) z < 0 := by
    by_cases w : ∃ i, i < q.length ∧ gv (fG (gp q i) (gp q ((i + 1) % q.length))) z < 0
    · exact w
    · refine absurd (fun i a b ha hb => ?_) hz
      have hi := get_lt ha
      have g1 := gp_get hi
      have g2 := gp_get (mod_lt' hi)
      rw [get_un ha g1, get_un hb g2]
      rcases ilg (gv (fG (gp q i) (gp q ((i + 1) % q.length))) z) 0 with v | v
      · exact absurd ⟨i, hi, v⟩ w
      · exact v
  obtain ⟨k, k1, k2, k3⟩ := argm (fun i => gv (fG (gp q i) (gp q ((i + 1) % q.length))) y) (fun i => gv (fG (gp q i) (gp q ((i + 1) % q.length))) z) q.length hn
  refine ⟨gp q k, gp q ((k + 1) % q.length), ⟨k, gp_get k1, gp_get (mod_lt' k1)⟩, k2, fun i a b ha hb => ?_⟩
  have hi := get_lt ha
  have g1 := gp_get hi
  have g2 := gp_get (mod_lt' hi)
  have hyk := hy k _ _ (gp_get k1) (gp_get (mod_lt' k1))
  have hyi := hy i a b ha hb
  rw [get_un ha g1, get_un hb g2] at hyi ⊢
  rw [gv_lc]
  rcases ilg (gv (fG (gp q i) (gp q ((i + 1) % q.length))) z) 0 with w | w
  · have := k3 i hi w
    simp only [Int.mul_neg] at this
    have e : -gv (fG (gp q k) (gp q ((k + 1) % q.length))) z * gv (fG (gp q i) (gp q ((i + 1) % q.length))) y = -(gv (fG (gp q i) (gp q ((i + 1) % q.length))) y * gv (fG (gp q k) (gp q ((k + 1) % q.length))) z) := by rw [Int.neg_mul, Int.mul_comm]
    omega
  · have m1 := Int.mul_nonneg hyk w
    have k2 : gv (fG (gp q k) (gp q ((k + 1) % q.length))) z < 0 := k2
    have m2 := Int.mul_nonneg (show 0 ≤ -gv (fG (gp q k) (gp q ((k + 1) % q.length))) z by omega) hyi
    omega
