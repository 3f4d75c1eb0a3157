/-! PURE GEOMETRY: two rings lie over one another: what makes up both isn't on one line -/
def shP (s : Pt) (c : Pt) : Pt := (1000000000000 * c.1 + s.1, 1000000000000 * c.2 + s.2)
def shr (l : List Pt) (s : Pt) : List Pt := l.map (shP s)
theorem shr_get {l : List Pt} {s C : Pt} {i : Nat} (h : (shr l s)[i]? = some C) : ∃ c, l[i]? = some c ∧ C = shP s c := get_map h
theorem shr_len (l : List Pt) (s : Pt) : (shr l s).length = l.length := List.length_map _
theorem shr_Cv {l : List Pt} {s : Pt} (h : Cv l) : Cv (shr l s) := by
  intro i j k a b c hij hjk ha hb hc
  obtain ⟨a, ha', rfl⟩ := shr_get ha
  obtain ⟨b, hb', rfl⟩ := shr_get hb
  obtain ⟨c, hc', rfl⟩ := shr_get hc
  have := h i j k a b c hij hjk ha' hb' hc'
  have e : crs (shP s a) (shP s b) (shP s c) = 1000000000000 * (1000000000000 * crs a b c) := by unfold crs shP; grind
  omega
theorem shr_pts {p q : List Pt} {s t : Pt} (hs : -300000 ≤ s.1 ∧ s.1 ≤ 300000 ∧ -300000 ≤ s.2 ∧ s.2 ≤ 300000) (ht : -300000 ≤ t.1 ∧ t.1 ≤ 300000 ∧ -300000 ≤ t.2 ∧ t.2 ≤ 300000) (Bp : inBs p) (h : ptsF (shr p s) (shr q t)) : ptsF p q := by
  obtain ⟨i, hi, hn⟩ := h
  rw [shr_len] at hi
  refine ⟨i, hi, fun a b ha hb j d hd => ?_⟩
  have := hn (shP s a) (shP s b) (map_get ha) (by rw [shr_len]; exact map_get hb) j (shP t d) (map_get hd)
  obtain ⟨a1, a2, a3, a4⟩ := Bp _ _ ha
  obtain ⟨b1, b2, b3, b4⟩ := Bp _ _ hb
  have e : crs (shP s a) (shP s b) (shP t d) = 1000000000000 * (1000000000000 * crs a b d + ((b.1 - a.1) * (t.2 - s.2) - (b.2 - a.2) * (t.1 - s.1))) := by unfold crs shP; grind
  have m1 := mulb (x := b.1 - a.1) (y := t.2 - s.2) (B := 200000) (C := 600000) (by omega) (by omega) (by omega) (by omega)
  have m2 := mulb (x := b.2 - a.2) (y := t.1 - s.1) (B := 200000) (C := 600000) (by omega) (by omega) (by omega) (by omega)
  omega
theorem str_one {l : List Pt} (h : Cv l) {p0 p1 p2 a b c : Pt} (h0 : l[0]? = some p0) (h1 : l[1]? = some p1) (h2 : l[2]? = some p2) (s : sd l a b) (hab : a ≠ b) (hc : c ∈ l) : 0 < gv (fG a b) ((shP (p0.1 + p1.1 + p2.1, p0.2 + p1.2 + p2.2) c).1, (shP (p0.1 + p1.1 + p2.1, p0.2 + p1.2 + p2.2) c).2, 1000000000003) := by
  have e : gv (fG a b) ((shP (p0.1 + p1.1 + p2.1, p0.2 + p1.2 + p2.2) c).1, (shP (p0.1 + p1.1 + p2.1, p0.2 + p1.2 + p2.2) c).2, 1000000000003) = 1000000000000 * crs a b c + (crs a b p0 + crs a b p1 + crs a b p2) := by unfold gv fG crs shP; grind
  rw [e]
  have k := h.le0 s hc
  have k0 := h.le0 s (get_mem h0)
  have k1 := h.le0 s (get_mem h1)
  have k2 := h.le0 s (get_mem h2)
  by_cases z : crs a b p0 = 0 ∧ crs a b p1 = 0 ∧ crs a b p2 = 0
  · have := collin hab z.1 z.2.1 z.2.2
    have := h 0 1 2 p0 p1 p2 (by omega) (by omega) h0 h1 h2
    omega
  · omega
theorem sd_ne {l : List Pt} (h : Cv l) (h3 : 3 ≤ l.length) {a b : Pt} (s : sd l a b) : a ≠ b := by
  obtain ⟨i, h1, h2⟩ := s
  intro q
  rw [← q] at h2
  have := h.ds h3 _ _ _ h1 h2
  have hi := get_lt h1
  by_cases z : i + 1 < l.length
  · rw [Nat.mod_eq_of_lt z] at this; omega
  · rw [show i + 1 = l.length by omega, Nat.mod_self] at this; omega
/-- a place strictly inside of both -/
theorem sat_ex {p q : List Pt} (hp : Cv p) (p3 : 3 ≤ p.length) (hq : Cv q) (q3 : 3 ≤ q.length) (Bp : inBs p) (Bq : inBs q) (ov : ovr p q) : ∃ x : Hp, (∀ a b, sd p a b → 0 < gv (fG a b) x) ∧ ∀ a b, sd q a b → 0 < gv (fG a b) x := by
  obtain ⟨p0, hp0⟩ := get_ex (l := p) (i := 0) (by omega)
  obtain ⟨p1, hp1⟩ := get_ex (l := p) (i := 1) (by omega)
  obtain ⟨p2, hp2⟩ := get_ex (l := p) (i := 2) (by omega)
  obtain ⟨q0, hq0⟩ := get_ex (l := q) (i := 0) (by omega)
  obtain ⟨q1, hq1⟩ := get_ex (l := q) (i := 1) (by omega)
  obtain ⟨q2, hq2⟩ := get_ex (l := q) (i := 2) (by omega)
  have bp0 := Bp _ _ hp0
  have bp1 := Bp _ _ hp1
  have bp2 := Bp _ _ hp2
  have bq0 := Bq _ _ hq0
  have bq1 := Bq _ _ hq1
  have bq2 := Bq _ _ hq2
  unfold inB at bp0 bp1 bp2 bq0 bq1 bq2
  have hs : -300000 ≤ p0.1 + p1.1 + p2.1 ∧ p0.1 + p1.1 + p2.1 ≤ 300000 ∧ -300000 ≤ p0.2 + p1.2 + p2.2 ∧ p0.2 + p1.2 + p2.2 ≤ 300000 := by omega
  have ht : -300000 ≤ q0.1 + q1.1 + q2.1 ∧ q0.1 + q1.1 + q2.1 ≤ 300000 ∧ -300000 ≤ q0.2 + q1.2 + q2.2 ∧ q0.2 + q1.2 + q2.2 ≤ 300000 := by omega
  obtain ⟨x, ⟨a, b, c, wa, wb, wc, ha, hb, hc, k1, k2, k3, k4, e⟩, a', b', c', wa', wb', wc', ha', hb', hc', k1', k2', k3', k4', e'⟩ := mink (P := shr p (p0.1 + p1.1 + p2.1, p0.2 + p1.2 + p2.2)) (Q := shr q (q0.1 + q1.1 + q2.1, q0.2 + q1.2 + q2.2)) (shr_Cv hp) (by rw [shr_len]; exact p3) (shr_Cv hq) (by rw [shr_len]; exact q3) (fun z => ov.1 (shr_pts hs ht Bp z)) (fun z => ov.2 (shr_pts ht hs Bq z))
  have sum : ∀ u v w x y z : Int, 0 ≤ u → 0 ≤ v → 0 ≤ w → 0 < u + v + w → 0 < x → 0 < y → 0 < z → 0 < u * x + v * y + w * z := fun u v w x y z hu hv hw hs hx hy hz => by
    have m1 := Int.mul_nonneg hu (show 0 ≤ x by omega)
    have m2 := Int.mul_nonneg hv (show 0 ≤ y by omega)
    have m3 := Int.mul_nonneg hw (show 0 ≤ z by omega)
    rcases ilg 0 u with r | r
    · have := Int.mul_pos r hx; omega
    · rcases ilg 0 v with r2 | r2
      · have := Int.mul_pos r2 hy; omega
      · have := Int.mul_pos (show 0 < w by omega) hz; omega
  have shift : ∀ (F : Hp), gv F (x.1, x.2.1, 1000000000003 * x.2.2) = gv (F.1, F.2.1, 1000000000003 * F.2.2) x := fun F => by unfold gv; grind
  have shc : ∀ (F : Hp) (C : Pt), gv (F.1, F.2.1, 1000000000003 * F.2.2) (hpt C) = gv F (C.1, C.2, 1000000000003) := fun F C => by unfold gv hpt; grind
  refine ⟨(x.1, x.2.1, 1000000000003 * x.2.2), fun u v huv => ?_, fun u v huv => ?_⟩
  · rw [shift, e, shc, shc, shc]
    obtain ⟨ca, ca1, rfl⟩ := List.mem_map.mp ha
    obtain ⟨cb, cb1, rfl⟩ := List.mem_map.mp hb
    obtain ⟨cc, cc1, rfl⟩ := List.mem_map.mp hc
    have ne := sd_ne hp p3 huv
    exact sum _ _ _ _ _ _ k1 k2 k3 k4 (str_one hp hp0 hp1 hp2 huv ne ca1) (str_one hp hp0 hp1 hp2 huv ne cb1) (str_one hp hp0 hp1 hp2 huv ne cc1)
  · rw [shift, e', shc, shc, shc]
    obtain ⟨ca, ca1, rfl⟩ := List.mem_map.mp ha'
    obtain ⟨cb, cb1, rfl⟩ := List.mem_map.mp hb'
    obtain ⟨cc, cc1, rfl⟩ := List.mem_map.mp hc'
    have ne := sd_ne hq q3 huv
    exact sum _ _ _ _ _ _ k1' k2' k3' k4' (str_one hq hq0 hq1 hq2 huv ne ca1) (str_one hq hq0 hq1 hq2 huv ne cb1) (str_one hq hq0 hq1 hq2 huv ne cc1)
theorem ovr_T {p q : List Pt} (hp : Cv p) (p3 : 3 ≤ p.length) (hq : Cv q) (q3 : 3 ≤ q.length) (Bp : inBs p) (Bq : inBs q) (ov : ovr p q) {G : Hp} (hG : ¬ (G.1 = 0 ∧ G.2.1 = 0)) (T1 : TC p q G) (T2 : TC p q (-G.1, -G.2.1, -G.2.2)) : False := by
  obtain ⟨x, xp, xq⟩ := sat_ex hp p3 hq q3 Bp Bq ov
  have Hx : ∀ l, (∀ a b, sd l a b → 0 < gv (fG a b) x) → inH l x := fun l h i a b ha hb => by have := h a b ⟨i, ha, hb⟩; omega
  have g2 := int_in hp p3 hq q3 T2 (Hx p xp) (Hx q xq)
  have e2 : gv (-G.1, -G.2.1, -G.2.2) x = -gv G x := by unfold gv; grind
  have gg := sq_pos hG
  have Hy : ∀ l, inBs l → (∀ a b, sd l a b → 0 < gv (fG a b) x) → inH l (200000 * (G.1.natAbs + G.2.1.natAbs) * x.1 + G.1, 200000 * (G.1.natAbs + G.2.1.natAbs) * x.2.1 + G.2.1, 200000 * (G.1.natAbs + G.2.1.natAbs) * x.2.2) := fun l hB h i a b ha hb => by
    have k := h a b ⟨i, ha, hb⟩
    obtain ⟨a1, a2, a3, a4⟩ := hB _ _ ha
    obtain ⟨b1, b2, b3, b4⟩ := hB _ _ hb
    have e : gv (fG a b) (200000 * (G.1.natAbs + G.2.1.natAbs) * x.1 + G.1, 200000 * (G.1.natAbs + G.2.1.natAbs) * x.2.1 + G.2.1, 200000 * (G.1.natAbs + G.2.1.natAbs) * x.2.2) = 200000 * ((G.1.natAbs + G.2.1.natAbs) * gv (fG a b) x) + ((a.2 - b.2) * G.1 + (b.1 - a.1) * G.2.1) := by unfold gv fG; grind
    rw [e]
    have m1 := mulb (x := a.2 - b.2) (y := G.1) (B := 200000) (C := G.1.natAbs) (by omega) (by omega) (by omega) (by omega)
    have m2 := mulb (x := b.1 - a.1) (y := G.2.1) (B := 200000) (C := G.2.1.natAbs) (by omega) (by omega) (by omega) (by omega)
    have m3 := Int.mul_le_mul_of_nonneg_left (show 1 ≤ gv (fG a b) x by omega) (show (0 : Int) ≤ (G.1.natAbs + G.2.1.natAbs : Int) by omega)
    omega
  have g1 := int_in hp p3 hq q3 T1 (Hy p Bp xp) (Hy q Bq xq)
  have e1 : gv G (200000 * (G.1.natAbs + G.2.1.natAbs) * x.1 + G.1, 200000 * (G.1.natAbs + G.2.1.natAbs) * x.2.1 + G.2.1, 200000 * (G.1.natAbs + G.2.1.natAbs) * x.2.2) = 200000 * ((G.1.natAbs + G.2.1.natAbs) * gv G x) + (G.1 * G.1 + G.2.1 * G.2.1) := by unfold gv; grind
  have m := Int.mul_nonneg (show (0 : Int) ≤ (G.1.natAbs + G.2.1.natAbs : Int) by omega) (show 0 ≤ gv G x by omega)
  omega
/-- parted by a side: what lies in both is on its line -/
theorem novr {p q : List Pt} (hp : Cv p) (p3 : 3 ≤ p.length) (hq : Cv q) (q3 : 3 ≤ q.length) {a b : Pt} (s : sd p a b) (hn : ∀ d, d ∈ q → crs a b d ≤ 0) : (∀ c, c ∈ p → inP q c → crs a b c = 0) ∧ (∀ d, d ∈ q → inP p d → crs a b d = 0) ∧ ∀ a' b' c d, sd p a' b' → sd q c d → ¬ (0 < crs c d a' ∧ crs c d b' < 0 ∧ crs a' b' c < 0 ∧ 0 < crs a' b' d) ∧ ¬ (crs c d a' < 0 ∧ 0 < crs c d b' ∧ 0 < crs a' b' c ∧ crs a' b' d < 0) := by
  refine ⟨fun c hc hin => ?_, fun d hd hin => ?_, fun a' b' c d s1 s2 => ?_⟩
  · have h1 := hp.le0 s hc
    have h2 := (fan hq q3 (inP_H.mp hin)).le (G := fG a b) (fun d hd => by rw [gv_fG]; exact hn d hd)
    rw [gv_fG] at h2
    omega
  · have h1 := hn d hd
    obtain ⟨i, i1, i2⟩ := s
    have h2 := hin i a b i1 i2
    omega
  · have hab := sd_ne hp p3 s
    have k1 := hp.le0 s s1.l
    have k2 := hp.le0 s s1.r
    have k3 := hn c s2.l
    have k4 := hn d s2.r
    have e := mix a' b' c d (fG a b)
    rw [gv_fG, gv_fG, gv_fG, gv_fG] at e
    have fin : crs a b a' = 0 → crs a b b' = 0 → crs a b c = 0 → crs a' b' c = 0 := fun z1 z2 z3 => collin hab z1 z2 z3
    constructor
    · rintro ⟨u, v, m, n⟩
      have m1 := Int.mul_nonneg (show 0 ≤ crs c d a' by omega) k2
      have m2 := Int.mul_nonneg (show 0 ≤ -crs c d b' by omega) k1
      have m3 := Int.mul_nonneg (show 0 ≤ -crs a' b' c by omega) (show 0 ≤ -crs a b d by omega)
      have m4 := Int.mul_nonneg (show 0 ≤ crs a' b' d by omega) (show 0 ≤ -crs a b c by omega)
      rw [Int.neg_mul] at m2
      rw [Int.neg_mul_neg] at m3
      rw [Int.mul_neg] at m4
      have z2 := (Int.mul_eq_zero.mp (show crs c d a' * crs a b b' = 0 by omega)).resolve_left (by omega)
      have z1 := (Int.mul_eq_zero.mp (show crs c d b' * crs a b a' = 0 by omega)).resolve_left (by omega)
      have z3 := (Int.mul_eq_zero.mp (show crs a' b' d * crs a b c = 0 by omega)).resolve_left (by omega)
      have := fin z1 z2 z3
      omega
    · rintro ⟨u, v, m, n⟩
      have m1 := Int.mul_nonneg (show 0 ≤ -crs c d a' by omega) k2
      have m2 := Int.mul_nonneg (show 0 ≤ crs c d b' by omega) k1
      have m3 := Int.mul_nonneg (show 0 ≤ crs a' b' c by omega) (show 0 ≤ -crs a b d by omega)
      have m4 := Int.mul_nonneg (show 0 ≤ -crs a' b' d by omega) (show 0 ≤ -crs a b c by omega)
      rw [Int.neg_mul] at m1
      rw [Int.mul_neg] at m3
      rw [Int.neg_mul_neg] at m4
      have z2 := (Int.mul_eq_zero.mp (show crs c d a' * crs a b b' = 0 by omega)).resolve_left (by omega)
      have z1 := (Int.mul_eq_zero.mp (show crs c d b' * crs a b a' = 0 by omega)).resolve_left (by omega)
      have z3 := (Int.mul_eq_zero.mp (show crs a' b' d * crs a b c = 0 by omega)).resolve_left (by omega)
      have := fin z1 z2 z3
      omega
/-- what lies within a ring lies within the bounds of its corners -/
theorem inP_B {l : List Pt} (h : Cv l) (h3 : 3 ≤ l.length) (hB : inBs l) {p : Pt} (hp : inP l p) : inB p := by
  have F := fan h h3 (inP_H.mp hp)
  have g : ∀ G : Hp, gv G (hpt p) = G.1 * p.1 + G.2.1 * p.2 + G.2.2 := fun G => by unfold gv hpt; simp
  have g' : ∀ (G : Hp) (c : Pt), gv G (hpt c) = G.1 * c.1 + G.2.1 * c.2 + G.2.2 := fun G c => by unfold gv hpt; simp
  have bb : ∀ c, c ∈ l → inB c := hB.m
  have f1 := F.le (G := (1, 0, -100000)) (fun c hc => by have := bb c hc; unfold inB at this; rw [g']; simp only; omega)
  have f2 := F.le (G := (-1, 0, -100000)) (fun c hc => by have := bb c hc; unfold inB at this; rw [g']; simp only; omega)
  have f3 := F.le (G := (0, 1, -100000)) (fun c hc => by have := bb c hc; unfold inB at this; rw [g']; simp only; omega)
  have f4 := F.le (G := (0, -1, -100000)) (fun c hc => by have := bb c hc; unfold inB at this; rw [g']; simp only; omega)
  rw [g] at f1 f2 f3 f4
  unfold inB
  simp only at f1 f2 f3 f4
  omega
