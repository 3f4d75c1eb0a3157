/-! PURE GEOMETRY: what lies in two rings -/
theorem mpos {u x : Int} (hu : 0 ≤ u) (hx : 0 < u * x) : 0 < x := by
  rcases ilg 0 x with z | z
  · exact z
  · have := Int.mul_nonpos_of_nonneg_of_nonpos hu z; omega
/-- G is nowhere above 0 at the places that make up what lies in both -/
def TC (p q : List Pt) (G : Hp) : Prop := (∀ c, c ∈ p → inP q c → gv G (hpt c) ≤ 0) ∧ (∀ d, d ∈ q → inP p d → gv G (hpt d) ≤ 0) ∧ ∀ a b c d, sd p a b → sd q c d → (0 < crs c d a → crs c d b < 0 → crs a b c < 0 → 0 < crs a b d → crs c d a * gv G (hpt b) - crs c d b * gv G (hpt a) ≤ 0) ∧ (crs c d a < 0 → 0 < crs c d b → 0 < crs a b c → crs a b d < 0 → crs c d b * gv G (hpt a) - crs c d a * gv G (hpt b) ≤ 0)
theorem mix (a b c d : Pt) (G : Hp) : crs c d a * gv G (hpt b) - crs c d b * gv G (hpt a) + (crs a b c * gv G (hpt d) - crs a b d * gv G (hpt c)) = 0 := by unfold gv hpt crs; grind
theorem mix4 (a b c d : Pt) : crs c d a - crs c d b + (crs a b c - crs a b d) = 0 := by unfold crs; grind
theorem TC.sym {p q : List Pt} {G : Hp} (h : TC p q G) : TC q p G := by
  refine ⟨h.2.1, h.1, fun a b c d ha hc => ?_⟩
  have e := mix c d a b G
  obtain ⟨k1, k2⟩ := h.2.2 c d a b hc ha
  exact ⟨fun w1 w2 w3 w4 => by have := k2 w3 w4 w1 w2; omega, fun w1 w2 w3 w4 => by have := k1 w3 w4 w1 w2; omega⟩
theorem seg_in {p q : List Pt} (hp : Cv p) (hq : Cv q) (q3 : 3 ≤ q.length) {G y : Hp} {a b : Pt} (T : TC p q G) (hab : sd p a b) {l m S : Int} (l0 : 0 ≤ l) (m0 : 0 ≤ m) (S0 : 0 < S) (hy : ∀ H, S * gv H y = l * gv H (hpt a) + m * gv H (hpt b)) (yq : inH q y) (hg : 0 < gv G y) : False := by
  have main : ∀ (e : Pt) (e1 e2 : Int), e ∈ p → 0 ≤ e1 → 0 ≤ e2 → (∀ H, gv H (hpt e) = e1 * gv H (hpt a) + e2 * gv H (hpt b)) → 0 < gv G (hpt e) → False := fun e e1 e2 he he1 he2 hE hgE => by
    by_cases hin : inH q (hpt e)
    · have := T.1 e he (inP_H.mpr hin); omega
    obtain ⟨c, d, scd, f1, zq⟩ := exit_ex yq hin
    have fy := yq.sd scd
    have ezG := gv_lc G (hpt e) y (gv (fG c d) y) (-gv (fG c d) (hpt e))
    have ez0 := gv_lc (fG c d) (hpt e) y (gv (fG c d) y) (-gv (fG c d) (hpt e))
    have z0 : gv (fG c d) (lc2 (gv (fG c d) y) (hpt e) (-gv (fG c d) (hpt e)) y) = 0 := by rw [ez0, Int.neg_mul, Int.mul_comm]; omega
    have gz : 0 < gv G (lc2 (gv (fG c d) y) (hpt e) (-gv (fG c d) (hpt e)) y) := by
      rw [ezG]
      have m1 := Int.mul_nonneg fy (show 0 ≤ gv G (hpt e) by omega)
      have m2 := Int.mul_pos (show 0 < -gv (fG c d) (hpt e) by omega) hg
      omega
    have hz : ∀ H, S * gv H (lc2 (gv (fG c d) y) (hpt e) (-gv (fG c d) (hpt e)) y) = (gv (fG c d) y * S * e1 + -gv (fG c d) (hpt e) * l) * gv H (hpt a) + (gv (fG c d) y * S * e2 + -gv (fG c d) (hpt e) * m) * gv H (hpt b) := fun H => by
      have h1 := hy H
      rw [gv_lc, hE H]
      have : S * (gv (fG c d) y * (e1 * gv H (hpt a) + e2 * gv H (hpt b)) + -gv (fG c d) (hpt e) * gv H y) = gv (fG c d) y * S * (e1 * gv H (hpt a) + e2 * gv H (hpt b)) + -gv (fG c d) (hpt e) * (S * gv H y) := by grind
      rw [this, h1]
      grind
    have La : 0 ≤ gv (fG c d) y * S * e1 + -gv (fG c d) (hpt e) * l := by
      have m1 := Int.mul_nonneg (Int.mul_nonneg fy (show 0 ≤ S by omega)) he1
      have m2 := Int.mul_nonneg (show 0 ≤ -gv (fG c d) (hpt e) by omega) l0
      omega
    have Lb : 0 ≤ gv (fG c d) y * S * e2 + -gv (fG c d) (hpt e) * m := by
      have m1 := Int.mul_nonneg (Int.mul_nonneg fy (show 0 ≤ S by omega)) he2
      have m2 := Int.mul_nonneg (show 0 ≤ -gv (fG c d) (hpt e) by omega) m0
      omega
    have fe : gv (fG c d) (hpt e) = e1 * crs c d a + e2 * crs c d b := by rw [hE, gv_fG, gv_fG]
    generalize gv (fG c d) y * S * e1 + -gv (fG c d) (hpt e) * l = L1 at hz La
    generalize gv (fG c d) y * S * e2 + -gv (fG c d) (hpt e) * m = L2 at hz Lb
    generalize lc2 (gv (fG c d) y) (hpt e) (-gv (fG c d) (hpt e)) y = z at zq z0 gz hz
    have zp : inH p z := fun i a' b' ha' hb' => by
      have h1 := hz (fG a' b')
      have k1 := (hp.inH hab.l) i a' b' ha' hb'
      have k2 := (hp.inH hab.r) i a' b' ha' hb'
      have m1 := Int.mul_nonneg La k1
      have m2 := Int.mul_nonneg Lb k2
      rcases ilg (gv (fG a' b') z) 0 with w | w
      · have := Int.mul_neg_of_pos_of_neg S0 w; omega
      · exact w
    obtain ⟨u, v, A, u0, v0, A0, hA⟩ := onside hq q3 zq scd z0
    have sg := Int.mul_pos S0 gz
    have ag := Int.mul_pos A0 gz
    have zmul : ∀ {k x t : Int}, 0 ≤ k → 0 ≤ x → k * t = 0 + x → 0 < k → 0 ≤ t := fun {k x t} _ hx e hk => by
      rcases ilg t 0 with w | w
      · have := Int.mul_neg_of_pos_of_neg hk w; omega
      · exact w
    by_cases c2 : L2 = 0
    · have h1 := hz G
      rw [c2, Int.zero_mul, Int.add_zero] at h1
      have L1p : 0 < L1 := by
        rcases ilg 0 L1 with w | w
        · exact w
        · have : L1 = 0 := by omega
          rw [this, Int.zero_mul] at h1; omega
      have ga : 0 < gv G (hpt a) := mpos La (by omega)
      have := T.1 a hab.l (inP_H.mpr (fun i a' b' ha' hb' => by
        have h2 := hz (fG a' b')
        rw [c2, Int.zero_mul, Int.add_zero] at h2
        have k := Int.mul_nonneg (show 0 ≤ S by omega) (zq i a' b' ha' hb')
        rcases ilg (gv (fG a' b') (hpt a)) 0 with w | w
        · have := Int.mul_neg_of_pos_of_neg L1p w; omega
        · exact w))
      omega
    by_cases c1 : L1 = 0
    · have h1 := hz G
      rw [c1, Int.zero_mul, Int.zero_add] at h1
      have L2p : 0 < L2 := by omega
      have ga : 0 < gv G (hpt b) := mpos Lb (by omega)
      have := T.1 b hab.r (inP_H.mpr (fun i a' b' ha' hb' => by
        have h2 := hz (fG a' b')
        rw [c1, Int.zero_mul, Int.zero_add] at h2
        have k := Int.mul_nonneg (show 0 ≤ S by omega) (zq i a' b' ha' hb')
        rcases ilg (gv (fG a' b') (hpt b)) 0 with w | w
        · have := Int.mul_neg_of_pos_of_neg L2p w; omega
        · exact w))
      omega
    by_cases c3 : v = 0
    · have h1 := hA G
      rw [c3, Int.zero_mul, Int.add_zero] at h1
      have up : 0 < u := by
        rcases ilg 0 u with w | w
        · exact w
        · have : u = 0 := by omega
          rw [this, Int.zero_mul] at h1; omega
      have ga : 0 < gv G (hpt c) := mpos u0 (by omega)
      have := T.2.1 c scd.l (inP_H.mpr (fun i a' b' ha' hb' => by
        have h2 := hA (fG a' b')
        rw [c3, Int.zero_mul, Int.add_zero] at h2
        have k := Int.mul_nonneg (show 0 ≤ A by omega) (zp i a' b' ha' hb')
        rcases ilg (gv (fG a' b') (hpt c)) 0 with w | w
        · have := Int.mul_neg_of_pos_of_neg up w; omega
        · exact w))
      omega
    by_cases c4 : u = 0
    · have h1 := hA G
      rw [c4, Int.zero_mul, Int.zero_add] at h1
      have vp : 0 < v := by omega
      have ga : 0 < gv G (hpt d) := mpos v0 (by omega)
      have := T.2.1 d scd.r (inP_H.mpr (fun i a' b' ha' hb' => by
        have h2 := hA (fG a' b')
        rw [c4, Int.zero_mul, Int.zero_add] at h2
        have k := Int.mul_nonneg (show 0 ≤ A by omega) (zp i a' b' ha' hb')
        rcases ilg (gv (fG a' b') (hpt d)) 0 with w | w
        · have := Int.mul_neg_of_pos_of_neg vp w; omega
        · exact w))
      omega
    -- inside of both
    have L1p : 0 < L1 := by omega
    have L2p : 0 < L2 := by omega
    have up : 0 < u := by omega
    have vp : 0 < v := by omega
    have hu := hz (fG c d)
    rw [z0, Int.mul_zero, gv_fG, gv_fG] at hu
    have hm0 := hz (fG a b)
    rw [gv_fG, gv_fG, crs_ab, crs_bb, Int.mul_zero, Int.mul_zero] at hm0
    have zab : gv (fG a b) z = 0 := (Int.mul_eq_zero.mp (show S * gv (fG a b) z = 0 by omega)).resolve_left (by omega)
    have hm := hA (fG a b)
    rw [zab, Int.mul_zero, gv_fG, gv_fG] at hm
    have hgz := hz G
    have x4 := mix4 a b c d
    have T3 := T.2.2 a b c d hab scd
    have sgn : ∀ {k t x s : Int}, 0 < k → 0 < t → 0 = k * x + t * s → (0 < x → s < 0) ∧ (x < 0 → 0 < s) ∧ (x = 0 → s = 0) := fun {k t x s} hk ht e => by
      refine ⟨fun hx => ?_, fun hx => ?_, fun hx => ?_⟩
      · rcases ilg s 0 with w | w
        · exact w
        · have := Int.mul_pos hk hx; have := Int.mul_nonneg (show 0 ≤ t by omega) w; omega
      · rcases ilg 0 s with w | w
        · exact w
        · have := Int.mul_neg_of_pos_of_neg hk hx; have := Int.mul_nonpos_of_nonneg_of_nonpos (show 0 ≤ t by omega) w; omega
      · rw [hx, Int.mul_zero, Int.zero_add] at e
        exact (Int.mul_eq_zero.mp e.symm).resolve_left (by omega)
    obtain ⟨q1, q2, q3⟩ := sgn L1p L2p hu
    obtain ⟨n1, n2, n3⟩ := sgn up vp hm
    rcases Int.lt_trichotomy (crs c d a) 0 with w | w | w
    · have w2 := q2 w
      have wm : 0 < crs a b c := by
        rcases Int.lt_trichotomy (crs a b c) 0 with r | r | r
        · have := n2 r; omega
        · have := n3 r; omega
        · exact r
      have t := T3.2 w w2 wm (n1 wm)
      have id : -crs c d a * (L1 * gv G (hpt a) + L2 * gv G (hpt b)) = L2 * (crs c d b * gv G (hpt a) - crs c d a * gv G (hpt b)) - (L1 * crs c d a + L2 * crs c d b) * gv G (hpt a) := by grind
      rw [← hu, Int.zero_mul, ← hgz] at id
      have m1 := Int.mul_pos (show 0 < -crs c d a by omega) sg
      have m2 := Int.mul_nonpos_of_nonneg_of_nonpos Lb t
      omega
    · have w2 := q3 w
      rw [w, w2, Int.mul_zero, Int.mul_zero] at fe
      omega
    · have w2 := q1 w
      have wm : crs a b c < 0 := by
        rcases Int.lt_trichotomy (crs a b c) 0 with r | r | r
        · exact r
        · have := n3 r; omega
        · have := n1 r; omega
      have t := T3.1 w w2 wm (n2 wm)
      have id : crs c d a * (L1 * gv G (hpt a) + L2 * gv G (hpt b)) = L2 * (crs c d a * gv G (hpt b) - crs c d b * gv G (hpt a)) + (L1 * crs c d a + L2 * crs c d b) * gv G (hpt a) := by grind
      rw [← hu, Int.zero_mul, ← hgz] at id
      have m1 := Int.mul_pos w sg
      have m2 := Int.mul_nonpos_of_nonneg_of_nonpos Lb t
      omega
  have h1 := hy G
  have := Int.mul_pos S0 hg
  rcases ilg 0 (gv G (hpt a)) with w | w
  · exact main a 1 0 hab.l (by omega) (by omega) (fun H => by omega) w
  · have m1 := Int.mul_nonpos_of_nonneg_of_nonpos l0 w
    exact main b 0 1 hab.r (by omega) (by omega) (fun H => by omega) (mpos m0 (by omega))
theorem int_in {p q : List Pt} (hp : Cv p) (p3 : 3 ≤ p.length) (hq : Cv q) (q3 : 3 ≤ q.length) {G x : Hp} (T : TC p q G) (xp : inH p x) (xq : inH q x) : gv G x ≤ 0 := by
  rcases ilg 0 (gv G x) with g | g
  · exfalso
    obtain ⟨c, hc, gc⟩ := (fan hp p3 xp).pos g
    by_cases hin : inH q (hpt c)
    · have := T.1 c hc (inP_H.mpr hin); omega
    obtain ⟨a, b, sab, f1, zq⟩ := exit_ex xq hin
    have fx := xq.sd sab
    have z0 : gv (fG a b) (lc2 (gv (fG a b) x) (hpt c) (-gv (fG a b) (hpt c)) x) = 0 := by rw [gv_lc, Int.neg_mul, Int.mul_comm]; omega
    have gz : 0 < gv G (lc2 (gv (fG a b) x) (hpt c) (-gv (fG a b) (hpt c)) x) := by
      rw [gv_lc]
      have m1 := Int.mul_nonneg fx (show 0 ≤ gv G (hpt c) by omega)
      have m2 := Int.mul_pos (show 0 < -gv (fG a b) (hpt c) by omega) g
      omega
    obtain ⟨u, v, A, u0, v0, A0, hA⟩ := onside hq q3 zq sab z0
    have zp : inH p (lc2 (gv (fG a b) x) (hpt c) (-gv (fG a b) (hpt c)) x) := fun i a' b' ha' hb' => by
      rw [gv_lc]
      have m1 := Int.mul_nonneg fx ((hp.inH hc) i a' b' ha' hb')
      have m2 := Int.mul_nonneg (show 0 ≤ -gv (fG a b) (hpt c) by omega) (xp i a' b' ha' hb')
      omega
    exact seg_in hq hp p3 T.sym sab u0 v0 A0 hA zp gz
  · exact g
theorem collin {a b x y z : Pt} (h : a ≠ b) (hx : crs a b x = 0) (hy : crs a b y = 0) (hz : crs a b z = 0) : crs x y z = 0 := by
  have i1 : crs x y z * (b.1 - a.1) = (crs a b z - crs a b x) * (y.1 - x.1) - (crs a b y - crs a b x) * (z.1 - x.1) := by unfold crs; grind
  have i2 : crs x y z * (b.2 - a.2) = (crs a b z - crs a b x) * (y.2 - x.2) - (crs a b y - crs a b x) * (z.2 - x.2) := by unfold crs; grind
  rw [hx, hy, hz] at i1 i2
  simp only [Int.sub_self, Int.zero_mul] at i1 i2
  rcases Int.mul_eq_zero.mp i1 with w | w
  · exact w
  · rcases Int.mul_eq_zero.mp i2 with v | v
    · exact v
    · exact absurd (Prod.ext (by omega) (by omega)) h
theorem next_of {l : List Pt} (h : Cv l) {a b : Pt} (ha : a ∈ l) (hb : b ∈ l) (hab : a ≠ b) (hl : ∀ c, c ∈ l → 0 ≤ crs a b c) : sd l a b := by
  obtain ⟨i, hi, hia⟩ := mem_get ha
  obtain ⟨c, hc⟩ := get_ex (mod_lt' hi)
  have s : sd l a c := ⟨i, hia, hc⟩
  rcases h.le s hb with z | z | z
  · exact absurd z.symm hab
  · rw [z]; exact s
  · have := hl c (get_mem hc)
    rw [crs_swap] at this; omega
theorem sqs {x : Int} : 0 ≤ x * x := by
  rcases Int.le_total 0 x with z | z
  · exact Int.mul_nonneg z z
  · exact Int.mul_nonneg_of_nonpos_of_nonpos z z
theorem sq_pos {x y : Int} (h : ¬ (x = 0 ∧ y = 0)) : 0 < x * x + y * y := by
  have h1 := sqs (x := x)
  have h2 := sqs (x := y)
  rcases ilg 0 (x * x + y * y) with z | z
  · exact z
  · exfalso
    refine h ⟨?_, ?_⟩
    · rcases Int.mul_eq_zero.mp (show x * x = 0 by omega) with w | w <;> exact w
    · rcases Int.mul_eq_zero.mp (show y * y = 0 by omega) with w | w <;> exact w
/-- a place made of corners of both -/
theorem mink {P Q : List Pt} (hP : Cv P) (P3 : 3 ≤ P.length) (hQ : Cv Q) (Q3 : 3 ≤ Q.length) (n1 : ¬ ptsF P Q) (n2 : ¬ ptsF Q P) : ∃ x : Hp, (∃ a b c wa wb wc, a ∈ P ∧ b ∈ P ∧ c ∈ P ∧ 0 ≤ wa ∧ 0 ≤ wb ∧ 0 ≤ wc ∧ 0 < wa + wb + wc ∧ ∀ G, gv G x = wa * gv G (hpt a) + wb * gv G (hpt b) + wc * gv G (hpt c)) ∧ ∃ a b c wa wb wc, a ∈ Q ∧ b ∈ Q ∧ c ∈ Q ∧ 0 ≤ wa ∧ 0 ≤ wb ∧ 0 ≤ wc ∧ 0 < wa + wb + wc ∧ ∀ G, gv G x = wa * gv G (hpt a) + wb * gv G (hpt b) + wc * gv G (hpt c) := by
  let S : List Pt := P.flatMap (fun c => Q.map (fun d => ((c.1 - d.1, c.2 - d.2) : Pt)))
  have mS : ∀ u, u ∈ S ↔ ∃ c d, c ∈ P ∧ d ∈ Q ∧ u = (c.1 - d.1, c.2 - d.2) := fun u => by
    show u ∈ P.flatMap _ ↔ _
    rw [List.mem_flatMap]
    constructor
    · rintro ⟨c, hc, h⟩
      obtain ⟨d, hd, rfl⟩ := List.mem_map.mp h
      exact ⟨c, d, hc, hd, rfl⟩
    · rintro ⟨c, d, hc, hd, rfl⟩
      exact ⟨c, hc, List.mem_map.mpr ⟨d, hd, rfl⟩⟩
  obtain ⟨p0, hp0⟩ := get_ex (l := P) (i := 0) (by omega)
  obtain ⟨p1, hp1⟩ := get_ex (l := P) (i := 1) (by omega)
  obtain ⟨p2, hp2⟩ := get_ex (l := P) (i := 2) (by omega)
  obtain ⟨q0, hq0⟩ := get_ex (l := Q) (i := 0) (by omega)
  have t012 := hP 0 1 2 p0 p1 p2 (by omega) (by omega) hp0 hp1 hp2
  have s0 : ((p0.1 - q0.1, p0.2 - q0.2) : Pt) ∈ S := (mS _).mpr ⟨p0, q0, get_mem hp0, get_mem hq0, rfl⟩
  have s1 : ((p1.1 - q0.1, p1.2 - q0.2) : Pt) ∈ S := (mS _).mpr ⟨p1, q0, get_mem hp1, get_mem hq0, rfl⟩
  have s2 : ((p2.1 - q0.1, p2.2 - q0.2) : Pt) ∈ S := (mS _).mpr ⟨p2, q0, get_mem hp2, get_mem hq0, rfl⟩
  have cS : crs (p0.1 - q0.1, p0.2 - q0.2) (p1.1 - q0.1, p1.2 - q0.2) (p2.1 - q0.1, p2.2 - q0.2) = crs p0 p1 p2 := by unfold crs; grind
  obtain ⟨L, hL, -⟩ := hull_ex (S := S) (fun q => by rw [q] at s0; cases s0)
  have L2 : 2 ≤ L.length := by
    obtain ⟨f, f1, f2, f3, f4, f5⟩ := id hL
    have := get_lt f1
    rcases f5 with ⟨z, z2⟩ | z
    · exfalso
      rw [z2 _ s0, z2 _ s1, crs_aa] at cS; omega
    · by_cases w : L.length = 1
      · have e := z 0 f f f1 (by rw [w]; exact f1)
        exact absurd rfl e.2.1
      · omega
  have L3 : 3 ≤ L.length := by
    by_cases w : L.length = 2
    · exfalso
      obtain ⟨a, ha⟩ := get_ex (l := L) (i := 0) (by omega)
      obtain ⟨b, hb⟩ := get_ex (l := L) (i := 1) (by omega)
      have g1 := GW_le hL L2 ha (by rw [w]; exact hb)
      have g2 := GW_le hL L2 hb (by rw [w]; exact ha)
      have e := (hL.ed L2 ha (by rw [w]; exact hb)).2.1
      have z : ∀ s, s ∈ S → crs a b s = 0 := fun s hs => by
        have h1 := g1 s hs
        have h2 := g2 s hs
        have : crs b a s = -crs a b s := by unfold crs; grind
        omega
      have := collin (fun q => e q.symm) (z _ s0) (z _ s1) (z _ s2)
      omega
    · omega
  have hC := GW_Cv hL L2
  have hin := GW_in hL
  by_cases hz : inH L (hpt (0, 0))
  · obtain ⟨a, b, c, wa, wb, wc, A, ha, hb, hc, k1, k2, k3, k4, e⟩ := fan hC L3 hz
    obtain ⟨ca, da, ca1, da1, rfl⟩ := (mS a).mp (hin a ha)
    obtain ⟨cb, db, cb1, db1, rfl⟩ := (mS b).mp (hin b hb)
    obtain ⟨cc, dc, cc1, dc1, rfl⟩ := (mS c).mp (hin c hc)
    have e1 := e (1, 0, 0)
    have e2 := e (0, 1, 0)
    have e3 := e (0, 0, 1)
    simp only [gv, hpt, Int.zero_mul, Int.one_mul, Int.mul_one, Int.zero_add, Int.add_zero, Int.mul_zero] at e1 e2 e3
    refine ⟨(wa * ca.1 + wb * cb.1 + wc * cc.1, wa * ca.2 + wb * cb.2 + wc * cc.2, wa + wb + wc), ⟨ca, cb, cc, wa, wb, wc, ca1, cb1, cc1, k1, k2, k3, by omega, fun G => ?_⟩, ⟨da, db, dc, wa, wb, wc, da1, db1, dc1, k1, k2, k3, by omega, fun G => ?_⟩⟩
    · unfold gv hpt; grind
    · have f1 : wa * ca.1 + wb * cb.1 + wc * cc.1 = wa * da.1 + wb * db.1 + wc * dc.1 := by grind
      have f2 : wa * ca.2 + wb * cb.2 + wc * cc.2 = wa * da.2 + wb * db.2 + wc * dc.2 := by grind
      rw [f1, f2]
      unfold gv hpt; grind
  · exfalso
    have hn : ∃ u v, sd L u v ∧ crs u v (0, 0) < 0 := by
      by_cases w : ∃ u v, sd L u v ∧ crs u v (0, 0) < 0
      · exact w
      · refine absurd (fun i a b ha hb => ?_) hz
        rw [gv_fG]
        rcases ilg (crs a b (0, 0)) 0 with v | v
        · exact absurd ⟨a, b, ⟨i, ha, hb⟩, v⟩ w
        · exact v
    obtain ⟨u, v, ⟨i, hu, hv⟩, neg⟩ := hn
    have le := GW_le hL L2 hu hv
    have hvu := (hL.ed L2 hu hv).2.1
    obtain ⟨c, d, hc, hd, rfl⟩ := (mS u).mp (hin u (get_mem hu))
    obtain ⟨c', d', hc', hd', rfl⟩ := (mS v).mp (hin v (get_mem hv))
    -- w = (c' - c) + (d - d')
    let w1 := c'.1 - c.1 + (d.1 - d'.1)
    let w2 := c'.2 - c.2 + (d.2 - d'.2)
    have cw : ∀ x y : Int, crs (c.1 - d.1, c.2 - d.2) (c'.1 - d'.1, c'.2 - d'.2) (x, y) = w1 * (y - (c.2 - d.2)) - w2 * (x - (c.1 - d.1)) := fun x y => by
      show ((c'.1 - d'.1) - (c.1 - d.1)) * (y - (c.2 - d.2)) - ((c'.2 - d'.2) - (c.2 - d.2)) * (x - (c.1 - d.1)) = _
      rw [show (c'.1 - d'.1) - (c.1 - d.1) = w1 from by show _ = c'.1 - c.1 + (d.1 - d'.1); omega, show (c'.2 - d'.2) - (c.2 - d.2) = w2 from by show _ = c'.2 - c.2 + (d.2 - d'.2); omega]
    have wn : ¬ (w1 = 0 ∧ w2 = 0) := fun q => by
      have q1 : c'.1 - c.1 + (d.1 - d'.1) = 0 := q.1
      have q2 : c'.2 - c.2 + (d.2 - d'.2) = 0 := q.2
      exact hvu (Prod.ext (by show c'.1 - d'.1 = c.1 - d.1; omega) (by show c'.2 - d'.2 = c.2 - d.2; omega))
    have ww := sq_pos wn
    have hP2 : ∀ c2, c2 ∈ P → 0 ≤ w1 * (c2.2 - c.2) - w2 * (c2.1 - c.1) := fun c2 h2 => by
      have := le _ ((mS _).mpr ⟨c2, d, h2, hd, rfl⟩)
      rw [cw] at this
      rw [show c2.2 - c.2 = c2.2 - d.2 - (c.2 - d.2) by omega, show c2.1 - c.1 = c2.1 - d.1 - (c.1 - d.1) by omega]; exact this
    have hQ2 : ∀ d2, d2 ∈ Q → 0 ≤ w1 * (d.2 - d2.2) - w2 * (d.1 - d2.1) := fun d2 h2 => by
      have := le _ ((mS _).mpr ⟨c, d2, hc, h2, rfl⟩)
      rw [cw] at this
      rw [show d.2 - d2.2 = c.2 - d2.2 - (c.2 - d.2) by omega, show d.1 - d2.1 = c.1 - d2.1 - (c.1 - d.1) by omega]; exact this
    rw [cw] at neg
    have neg' : w1 * (d.2 - c.2) - w2 * (d.1 - c.1) < 0 := by
      rw [show d.2 - c.2 = 0 - (c.2 - d.2) by omega, show d.1 - c.1 = 0 - (c.1 - d.1) by omega]; exact neg
    have x0 := hP2 c' hc'
    have y0 := hQ2 d' hd'
    have ew : (w1 * (c'.2 - c.2) - w2 * (c'.1 - c.1)) + (w1 * (d.2 - d'.2) - w2 * (d.1 - d'.1)) = 0 := by
      have : (w1 * (c'.2 - c.2) - w2 * (c'.1 - c.1)) + (w1 * (d.2 - d'.2) - w2 * (d.1 - d'.1)) = w1 * (c'.2 - c.2 + (d.2 - d'.2)) - w2 * (c'.1 - c.1 + (d.1 - d'.1)) := by grind
      rw [this]
      show w1 * w2 - w2 * w1 = 0
      rw [Int.mul_comm]; omega
    have dw : (w1 * (c'.1 - c.1) + w2 * (c'.2 - c.2)) + (w1 * (d.1 - d'.1) + w2 * (d.2 - d'.2)) = w1 * w1 + w2 * w2 := by
      have : (w1 * (c'.1 - c.1) + w2 * (c'.2 - c.2)) + (w1 * (d.1 - d'.1) + w2 * (d.2 - d'.2)) = w1 * (c'.1 - c.1 + (d.1 - d'.1)) + w2 * (c'.2 - c.2 + (d.2 - d'.2)) := by grind
      rw [this]
    clear_value w1 w2
    -- turning from w to a parallel way
    have turn : ∀ X1 X2 Z1 Z2 : Int, w1 * X2 - w2 * X1 = 0 → (w1 * w1 + w2 * w2) * (X1 * Z2 - X2 * Z1) = (w1 * X1 + w2 * X2) * (w1 * Z2 - w2 * Z1) := fun X1 X2 Z1 Z2 h => by
      have : (w1 * w1 + w2 * w2) * (X1 * Z2 - X2 * Z1) = (w1 * X1 + w2 * X2) * (w1 * Z2 - w2 * Z1) - (w1 * X2 - w2 * X1) * (w1 * Z1 + w2 * Z2) := by grind
      rw [this, h]; omega
    rcases ilg 0 (w1 * (c'.1 - c.1) + w2 * (c'.2 - c.2)) with pos | pos
    · have hx0 : w1 * (c'.2 - c.2) - w2 * (c'.1 - c.1) = 0 := by omega
      have T := fun Z1 Z2 => turn (c'.1 - c.1) (c'.2 - c.2) Z1 Z2 hx0
      have scc : sd P c c' := by
        refine next_of hP hc hc' (fun q => by rw [← q] at pos; simp at pos) (fun c2 h2 => ?_)
        have t := T (c2.1 - c.1) (c2.2 - c.2)
        have m1 := Int.mul_nonneg (show 0 ≤ w1 * (c'.1 - c.1) + w2 * (c'.2 - c.2) by omega) (hP2 c2 h2)
        rcases ilg (crs c c' c2) 0 with r | r
        · have := Int.mul_neg_of_pos_of_neg ww r
          have e : crs c c' c2 = (c'.1 - c.1) * (c2.2 - c.2) - (c'.2 - c.2) * (c2.1 - c.1) := rfl
          rw [e] at this; omega
        · exact r
      obtain ⟨k, k1, k2⟩ := scc
      refine n1 ⟨k, get_lt k1, fun a b ha hb j p hp => ?_⟩
      rw [get_un ha k1, get_un hb k2]
      have t := T (p.1 - c.1) (p.2 - c.2)
      have hq := hQ2 p (get_mem hp)
      have ng : w1 * (p.2 - c.2) - w2 * (p.1 - c.1) < 0 := by
        have : w1 * (p.2 - c.2) - w2 * (p.1 - c.1) = (w1 * (d.2 - c.2) - w2 * (d.1 - c.1)) - (w1 * (d.2 - p.2) - w2 * (d.1 - p.1)) := by grind
        omega
      have m1 := Int.mul_neg_of_pos_of_neg pos ng
      rcases ilg 0 (crs c c' p) with r | r
      · have := Int.mul_pos ww r
        have e : crs c c' p = (c'.1 - c.1) * (p.2 - c.2) - (c'.2 - c.2) * (p.1 - c.1) := rfl
        rw [e] at this; omega
      · exact r
    · have pos : 0 < w1 * (d.1 - d'.1) + w2 * (d.2 - d'.2) := by omega
      have hx0 : w1 * (d.2 - d'.2) - w2 * (d.1 - d'.1) = 0 := by omega
      have T := fun Z1 Z2 => turn (d.1 - d'.1) (d.2 - d'.2) Z1 Z2 hx0
      have scc : sd Q d d' := by
        refine next_of hQ hd hd' (fun q => by rw [← q] at pos; simp at pos) (fun d2 h2 => ?_)
        have t := T (d.1 - d2.1) (d.2 - d2.2)
        have m1 := Int.mul_nonneg (show 0 ≤ w1 * (d.1 - d'.1) + w2 * (d.2 - d'.2) by omega) (hQ2 d2 h2)
        rcases ilg (crs d d' d2) 0 with r | r
        · have := Int.mul_neg_of_pos_of_neg ww r
          have e : crs d d' d2 = (d.1 - d'.1) * (d.2 - d2.2) - (d.2 - d'.2) * (d.1 - d2.1) := by unfold crs; grind
          rw [e] at this; omega
        · exact r
      obtain ⟨k, k1, k2⟩ := scc
      refine n2 ⟨k, get_lt k1, fun a b ha hb j p hp => ?_⟩
      rw [get_un ha k1, get_un hb k2]
      have t := T (p.1 - d.1) (p.2 - d.2)
      have hq := hP2 p (get_mem hp)
      have ng : 0 < w1 * (p.2 - d.2) - w2 * (p.1 - d.1) := by
        have : w1 * (p.2 - d.2) - w2 * (p.1 - d.1) = (w1 * (p.2 - c.2) - w2 * (p.1 - c.1)) - (w1 * (d.2 - c.2) - w2 * (d.1 - c.1)) := by grind
        omega
      have m1 := Int.mul_pos pos ng
      rcases ilg 0 (crs d d' p) with r | r
      · have := Int.mul_pos ww r
        have e : crs d d' p = -((d.1 - d'.1) * (p.2 - d.2) - (d.2 - d'.2) * (p.1 - d.1)) := by unfold crs; grind
        rw [e, Int.mul_neg] at this; omega
      · exact r
