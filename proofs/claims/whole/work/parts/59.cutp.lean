/-! PURE GEOMETRY: a ring parted by a line -/
theorem lin_z {x y z z0 z1 : Pt} {w0 w1 W : Int} (h : ∀ G, W * gv G (hpt z) = w0 * gv G (hpt z0) + w1 * gv G (hpt z1)) : W * crs x y z = w0 * crs x y z0 + w1 * crs x y z1 := by rw [← gv_fG, h, gv_fG, gv_fG]
theorem lin_x {x y z z0 z1 : Pt} {w0 w1 W : Int} (h : ∀ G, W * gv G (hpt z) = w0 * gv G (hpt z0) + w1 * gv G (hpt z1)) : W * crs z x y = w0 * crs z0 x y + w1 * crs z1 x y := by
  rw [← crs_rot z x y, ← crs_rot z0 x y, ← crs_rot z1 x y]; exact lin_z h
theorem lin_y {x y z z0 z1 : Pt} {w0 w1 W : Int} (h : ∀ G, W * gv G (hpt z) = w0 * gv G (hpt z0) + w1 * gv G (hpt z1)) : W * crs x z y = w0 * crs x z0 y + w1 * crs x z1 y := by
  rw [← crs_rot2 x z y, ← crs_rot2 x z0 y, ← crs_rot2 x z1 y]; exact lin_z h
def opp (u v : Int) : Prop := (0 < u ∧ v < 0) ∨ (u < 0 ∧ 0 < v)
noncomputable def mtP (A B p q : Pt) : Pt := (p.1 + ((q.1 - p.1) * crs A B p).tdiv (crs A B p - crs A B q), p.2 + ((q.2 - p.2) * crs A B p).tdiv (crs A B p - crs A B q))
def whl (A B p q : Pt) : Prop := (crs A B p - crs A B q) ∣ (q.1 - p.1) * crs A B p ∧ (crs A B p - crs A B q) ∣ (q.2 - p.2) * crs A B p
/-- x lies on the way from y to z, by weights -/
def onw (x y z : Pt) (w0 w1 : Int) : Prop := 0 < w0 ∧ 0 ≤ w1 ∧ ∀ G, (w0 + w1) * gv G (hpt x) = w0 * gv G (hpt y) + w1 * gv G (hpt z)
theorem onw_self (x z : Pt) : onw x x z 1 0 := ⟨by omega, by omega, fun G => by omega⟩
theorem mt_on {A B p q : Pt} (ho : opp (crs A B p) (crs A B q)) (hw : whl A B p q) : ∃ w0 w1, onw (mtP A B p q) p q w0 w1 ∧ 0 < w1 ∧ crs A B (mtP A B p q) = 0 := by
  obtain ⟨⟨k1, e1⟩, ⟨k2, e2⟩⟩ := hw
  have n0 : crs A B p - crs A B q ≠ 0 := by unfold opp at ho; omega
  have t1 : ((q.1 - p.1) * crs A B p).tdiv (crs A B p - crs A B q) = k1 := by rw [e1, Int.mul_tdiv_cancel_left k1 n0]
  have t2 : ((q.2 - p.2) * crs A B p).tdiv (crs A B p - crs A B q) = k2 := by rw [e2, Int.mul_tdiv_cancel_left k2 n0]
  have x1 : (mtP A B p q).1 = p.1 + k1 := by unfold mtP; rw [t1]
  have x2 : (mtP A B p q).2 = p.2 + k2 := by unfold mtP; rw [t2]
  have key : ∀ G, (crs A B p - crs A B q) * gv G (hpt (mtP A B p q)) = crs A B p * gv G (hpt q) - crs A B q * gv G (hpt p) := fun G => by
    unfold gv hpt
    rw [x1, x2]
    simp only
    have : (crs A B p - crs A B q) * (G.1 * (p.1 + k1) + G.2.1 * (p.2 + k2) + G.2.2 * 1) = (crs A B p - crs A B q) * (G.1 * p.1 + G.2.1 * p.2 + G.2.2 * 1) + G.1 * ((crs A B p - crs A B q) * k1) + G.2.1 * ((crs A B p - crs A B q) * k2) := by grind
    rw [this, ← e1, ← e2]
    grind
  have z : crs A B (mtP A B p q) = 0 := by
    have := key (fG A B)
    rw [gv_fG, gv_fG, gv_fG, Int.mul_comm (crs A B q)] at this
    exact (Int.mul_eq_zero.mp (show (crs A B p - crs A B q) * crs A B (mtP A B p q) = 0 by omega)).resolve_left n0
  rcases ho with ⟨h1, h2⟩ | ⟨h1, h2⟩
  · refine ⟨-crs A B q, crs A B p, ⟨by omega, by omega, fun G => ?_⟩, h1, z⟩
    have := key G
    rw [Int.neg_mul, show -crs A B q + crs A B p = crs A B p - crs A B q by omega]; omega
  · refine ⟨crs A B q, -crs A B p, ⟨by omega, by omega, fun G => ?_⟩, by omega, z⟩
    have := key G
    rw [Int.neg_mul, show crs A B q + -crs A B p = -(crs A B p - crs A B q) by omega, Int.neg_mul]; omega
/-- corner i, the first one behind the last -/
def vx (l : List Pt) (i : Nat) : Pt := gp l (i % l.length)
theorem vx_lt {l : List Pt} {i : Nat} (h : i < l.length) : vx l i = gp l i := by unfold vx; rw [Nat.mod_eq_of_lt h]
theorem vx_n (l : List Pt) : vx l l.length = vx l 0 := by unfold vx; rw [Nat.mod_self, Nat.zero_mod]
theorem vx_st {l : List Pt} (h : Cv l) {i j k : Nat} (hij : i < j) (hjk : j < k) (hk : k ≤ l.length) (hn : ¬ (i = 0 ∧ k = l.length)) : 0 < crs (vx l i) (vx l j) (vx l k) := by
  by_cases z : k = l.length
  · subst z
    rw [vx_n, ← crs_rot2, vx_lt (show 0 < l.length by omega), vx_lt (show i < l.length by omega), vx_lt hjk]
    exact h 0 i j _ _ _ (by omega) hij (gp_get (by omega)) (gp_get (by omega)) (gp_get hjk)
  · rw [vx_lt (show i < l.length by omega), vx_lt (show j < l.length by omega), vx_lt (show k < l.length by omega)]
    exact h i j k _ _ _ hij hjk (gp_get (by omega)) (gp_get (by omega)) (gp_get (by omega))
theorem vx_le {l : List Pt} (h : Cv l) {i j k : Nat} (hij : i ≤ j) (hjk : j ≤ k) (hk : k ≤ l.length) : 0 ≤ crs (vx l i) (vx l j) (vx l k) := by
  by_cases z1 : i = j
  · subst z1; rw [crs_aa]; omega
  by_cases z2 : j = k
  · subst z2; rw [crs_bb]; omega
  by_cases z3 : i = 0 ∧ k = l.length
  · obtain ⟨rfl, rfl⟩ := z3; rw [vx_n, crs_ab]; omega
  · have := vx_st h (show i < j by omega) (show j < k by omega) hk z3; omega
/-- the places on a ring's way round that count: 2 i is corner i, 2 i + 1 where the line meets the side behind it -/
noncomputable def kpt (A B : Pt) (l : List Pt) (k : Nat) : Pt := if k % 2 = 0 then vx l (k / 2) else mtP A B (vx l (k / 2)) (vx l (k / 2 + 1))
def kkp (A B : Pt) (s : Int) (l : List Pt) (k : Nat) : Prop := if k % 2 = 0 then 0 ≤ s * crs A B (vx l (k / 2)) else opp (crs A B (vx l (k / 2))) (crs A B (vx l (k / 2 + 1)))
section KP
variable {A B : Pt} {s : Int} {l : List Pt}
theorem key_on (hw : ∀ i, i < l.length → opp (crs A B (vx l i)) (crs A B (vx l (i + 1))) → whl A B (vx l i) (vx l (i + 1))) {k : Nat} (hk : k < 2 * l.length) (h : kkp A B s l k) : (k % 2 = 0 ∧ kpt A B l k = vx l (k / 2) ∧ 0 ≤ s * crs A B (vx l (k / 2))) ∨ (k % 2 = 1 ∧ opp (crs A B (vx l (k / 2))) (crs A B (vx l (k / 2 + 1))) ∧ crs A B (kpt A B l k) = 0 ∧ ∃ w0 w1, 0 < w1 ∧ onw (kpt A B l k) (vx l (k / 2)) (vx l (k / 2 + 1)) w0 w1) := by
  unfold kkp at h
  unfold kpt
  by_cases z : k % 2 = 0
  · rw [if_pos z] at h ⊢
    exact Or.inl ⟨z, rfl, h⟩
  · rw [if_neg z] at h ⊢
    obtain ⟨w0, w1, m1, m2, m3⟩ := mt_on h (hw (k / 2) (by omega) h)
    exact Or.inr ⟨by omega, h, m3, w0, w1, m2, m1⟩
theorem key_cv (hC : Cv l) (h3 : 3 ≤ l.length) (hs : sgn1 s) (hw : ∀ i, i < l.length → opp (crs A B (vx l i)) (crs A B (vx l (i + 1))) → whl A B (vx l i) (vx l (i + 1))) {a b c : Nat} (hab : a < b) (hbc : b < c) (hc : c < 2 * l.length) (ka : kkp A B s l a) (kb : kkp A B s l b) (kc : kkp A B s l c) : 0 < crs (kpt A B l a) (kpt A B l b) (kpt A B l c) := by
  have on : ∀ k, k < 2 * l.length → kkp A B s l k → ∃ w0 w1, onw (kpt A B l k) (vx l (k / 2)) (vx l (k / 2 + 1)) w0 w1 ∧ (k % 2 = 1 → 0 < w1) := fun k hk h => by
    rcases key_on hw hk h with ⟨z, e, -⟩ | ⟨z, -, -, w0, w1, g1, g2⟩
    · rw [e]; exact ⟨1, 0, onw_self _ _, fun q => by omega⟩
    · exact ⟨w0, w1, g2, fun _ => g1⟩
  obtain ⟨a0, a1, ⟨a2, a3, a4⟩, a5⟩ := on a (by omega) ka
  obtain ⟨b0, b1, ⟨b2, b3, b4⟩, b5⟩ := on b (by omega) kb
  obtain ⟨c0, c1, ⟨c2, c3, c4⟩, c5⟩ := on c hc kc
  have fin : ∀ {W x : Int}, 0 < W → 0 < W * x → 0 < x := fun hW hx => mpos (by omega) hx
  have sg : ∀ {k : Nat}, k < 2 * l.length → k % 2 = 0 → kkp A B s l k → 0 ≤ s * crs A B (vx l (k / 2)) := fun hk z h => by unfold kkp at h; rw [if_pos z] at h; exact h
  have so : ∀ {k : Nat}, k % 2 = 1 → kkp A B s l k → opp (crs A B (vx l (k / 2))) (crs A B (vx l (k / 2 + 1))) := fun z h => by unfold kkp at h; rw [if_neg (by omega)] at h; exact h
  have flip : ∀ {u v : Int}, opp u v → 0 ≤ s * u → s * v < 0 := fun ho hu => by
    unfold opp at ho
    rcases hs with rfl | rfl <;> omega
  have flip2 : ∀ {u v : Int}, opp u v → 0 ≤ s * v → s * u < 0 := fun ho hu => by
    unfold opp at ho
    rcases hs with rfl | rfl <;> omega
  refine fin (show 0 < c0 + c1 by omega) ?_
  rw [lin_z c4]
  have nn := fun {u v x y : Int} (hu : 0 ≤ u) (hv : 0 ≤ v) (hx : 0 ≤ x) (hy : 0 ≤ y) => (⟨Int.mul_nonneg hu hx, Int.mul_nonneg hv hy⟩ : 0 ≤ u * x ∧ 0 ≤ v * y)
  rcases Nat.lt_trichotomy (a / 2) (b / 2) with h1 | h1 | h1
  · rcases Nat.lt_trichotomy (b / 2) (c / 2) with h2 | h2 | h2
    · -- three sides
      have t : ∀ e, e ≤ 1 → 0 ≤ crs (kpt A B l a) (kpt A B l b) (vx l (c / 2 + e)) ∧ (e = 0 → 0 < crs (kpt A B l a) (kpt A B l b) (vx l (c / 2 + e))) := fun e he => by
        have t2 : ∀ d, d ≤ 1 → 0 ≤ crs (kpt A B l a) (vx l (b / 2 + d)) (vx l (c / 2 + e)) ∧ (e = 0 → d = 0 → 0 < crs (kpt A B l a) (vx l (b / 2 + d)) (vx l (c / 2 + e))) := fun d hd => by
          have q0 := vx_le hC (show a / 2 ≤ b / 2 + d by omega) (show b / 2 + d ≤ c / 2 + e by omega) (by omega)
          have q1 := vx_le hC (show a / 2 + 1 ≤ b / 2 + d by omega) (show b / 2 + d ≤ c / 2 + e by omega) (by omega)
          have ex := lin_x (x := vx l (b / 2 + d)) (y := vx l (c / 2 + e)) a4
          refine ⟨?_, fun he hd => ?_⟩
          · rcases ilg (crs (kpt A B l a) (vx l (b / 2 + d)) (vx l (c / 2 + e))) 0 with r | r
            · have m1 := Int.mul_neg_of_pos_of_neg (show 0 < a0 + a1 by omega) r
              have m2 := nn (show 0 ≤ a0 by omega) a3 q0 q1
              omega
            · exact r
          · subst he hd
            have q := vx_st hC (show a / 2 < b / 2 + 0 by omega) (show b / 2 + 0 < c / 2 + 0 by omega) (by omega) (by omega)
            refine fin (show 0 < a0 + a1 by omega) ?_
            rw [ex]
            have m1 := Int.mul_pos a2 q
            have m2 := Int.mul_nonneg a3 q1
            omega
        have y0 := t2 0 (by omega)
        have y1 := t2 1 (by omega)
        rw [Nat.add_zero] at y0
        have ex := lin_y (x := kpt A B l a) (y := vx l (c / 2 + e)) b4
        refine ⟨?_, fun he => ?_⟩
        · rcases ilg (crs (kpt A B l a) (kpt A B l b) (vx l (c / 2 + e))) 0 with r | r
          · have m1 := Int.mul_neg_of_pos_of_neg (show 0 < b0 + b1 by omega) r
            have m2 := nn (show 0 ≤ b0 by omega) b3 y0.1 y1.1
            omega
          · exact r
        · refine fin (show 0 < b0 + b1 by omega) ?_
          rw [ex]
          have m1 := Int.mul_pos b2 (y0.2 he rfl)
          have m2 := Int.mul_nonneg b3 y1.1
          omega
      have x0 := (t 0 (by omega)).2 rfl
      have x1 := (t 1 (by omega)).1
      rw [Nat.add_zero] at x0
      have m1 := Int.mul_pos c2 x0
      have m2 := Int.mul_nonneg c3 x1
      omega
    · -- the last two on a side: b its corner
      have hb0 : b % 2 = 0 := by omega
      have hc1 : c % 2 = 1 := by omega
      have pb : kpt A B l b = vx l (b / 2) := by unfold kpt; rw [if_pos hb0]
      rw [pb, ← h2, crs_bb, Int.mul_zero, Int.zero_add]
      refine Int.mul_pos (c5 hc1) (fin (show 0 < a0 + a1 by omega) ?_)
      rw [lin_x a4]
      have q0 := vx_le hC (show a / 2 ≤ b / 2 by omega) (show b / 2 ≤ b / 2 + 1 by omega) (by omega)
      have q1 := vx_le hC (show a / 2 + 1 ≤ b / 2 by omega) (show b / 2 ≤ b / 2 + 1 by omega) (by omega)
      by_cases hz : a / 2 = 0 ∧ b / 2 + 1 = l.length
      · have o1 := so hc1 kc
        have o2 := flip o1 (by rw [← h2]; exact sg (by omega) hb0 kb)
        have ha1 : a % 2 = 1 := by
          by_cases w : a % 2 = 0
          · have := sg (by omega) w ka
            rw [hz.1] at this
            rw [← h2, hz.2, vx_n] at o2
            omega
          · omega
        have q := vx_st hC (show a / 2 + 1 < b / 2 by omega) (show b / 2 < b / 2 + 1 by omega) (by omega) (by omega)
        have m1 := Int.mul_nonneg (show 0 ≤ a0 by omega) q0
        have m2 := Int.mul_pos (a5 ha1) q
        omega
      · have q := vx_st hC (show a / 2 < b / 2 by omega) (show b / 2 < b / 2 + 1 by omega) (by omega) hz
        have m1 := Int.mul_pos a2 q
        have m2 := Int.mul_nonneg a3 q1
        omega
    · omega
  · -- the first two on a side: a its corner
    have ha0 : a % 2 = 0 := by omega
    have hb1 : b % 2 = 1 := by omega
    have hk : b / 2 < c / 2 := by omega
    have pa : kpt A B l a = vx l (a / 2) := by unfold kpt; rw [if_pos ha0]
    rw [pa, h1]
    have ez : ∀ z, (b0 + b1) * crs (vx l (b / 2)) (kpt A B l b) z = b1 * crs (vx l (b / 2)) (vx l (b / 2 + 1)) z := fun z => by rw [lin_y b4, crs_aa]; omega
    have q0 := vx_le hC (show b / 2 ≤ b / 2 + 1 by omega) (show b / 2 + 1 ≤ c / 2 by omega) (by omega)
    have q1 := vx_le hC (show b / 2 ≤ b / 2 + 1 by omega) (show b / 2 + 1 ≤ c / 2 + 1 by omega) (by omega)
    have pz : ∀ z, 0 ≤ crs (vx l (b / 2)) (vx l (b / 2 + 1)) z → 0 ≤ crs (vx l (b / 2)) (kpt A B l b) z := fun z hz => by
      have e := ez z
      have m := Int.mul_nonneg b3 hz
      rcases ilg (crs (vx l (b / 2)) (kpt A B l b) z) 0 with r | r
      · have m1 := Int.mul_neg_of_pos_of_neg (show 0 < b0 + b1 by omega) r
        omega
      · exact r
    have ps : ∀ z, 0 < crs (vx l (b / 2)) (vx l (b / 2 + 1)) z → 0 < crs (vx l (b / 2)) (kpt A B l b) z := fun z hz => by
      refine fin (show 0 < b0 + b1 by omega) ?_
      rw [ez z]; exact Int.mul_pos (b5 hb1) hz
    by_cases hz : b / 2 + 1 = c / 2
    · have o1 := so hb1 kb
      have o2 := flip o1 (by rw [← h1]; exact sg (by omega) ha0 ka)
      have hc1 : c % 2 = 1 := by
        by_cases w : c % 2 = 0
        · have := sg hc w kc
          rw [← hz] at this
          omega
        · omega
      have q := vx_st hC (show b / 2 < b / 2 + 1 by omega) (show b / 2 + 1 < c / 2 + 1 by omega) (by omega) (by omega)
      have m1 := Int.mul_nonneg (show 0 ≤ c0 by omega) (pz _ q0)
      have m2 := Int.mul_pos (c5 hc1) (ps _ q)
      omega
    · have q := vx_st hC (show b / 2 < b / 2 + 1 by omega) (show b / 2 + 1 < c / 2 by omega) (by omega) (by omega)
      have m1 := Int.mul_pos c2 (ps _ q)
      have m2 := Int.mul_nonneg c3 (pz _ q1)
      omega
  · omega
end KP
