/-! PURE GEOMETRY: two rings with a side in common -/
theorem glue {p : List Pt} (hC : Cv p) (h3 : 3 ≤ p.length) {d c p1 pl x : Pt} (h0 : p[0]? = some d) (h1 : p[1]? = some p1) (hl : p[p.length - 2]? = some pl) (hn : p[p.length - 1]? = some c) (hx : 0 < crs d c x) (b1 : 0 ≤ crs d p1 x) (b2 : 0 ≤ crs pl c x) {a b : Nat} {u v : Pt} (hab : a < b) (ha : p[a]? = some u) (hb : p[b]? = some v) : (a = 0 ∧ b = 1 ∧ u = d ∧ v = p1) ∨ (a + 2 = p.length ∧ b + 1 = p.length ∧ u = pl ∧ v = c) ∨ 0 < crs u v x := by
  have lb := get_lt hb
  have D : ∀ s w, 2 ≤ s → p[s]? = some w → 0 < crs d w x := fun s w hs hw => by
    have ls := get_lt hw
    have id : crs d p1 c * crs d w x = crs d w c * crs d p1 x + crs d p1 w * crs d c x := by unfold crs; grind
    have t1 := hC 0 1 (p.length - 1) d p1 c (by omega) (by omega) h0 h1 hn
    have t2 : 0 ≤ crs d w c := by
      by_cases z : s = p.length - 1
      · rw [z] at hw; rw [get_un hw hn, crs_bb]; omega
      · have := hC 0 s (p.length - 1) d w c (by omega) (by omega) h0 hw hn; omega
    have t3 := hC 0 1 s d p1 w (by omega) (by omega) h0 h1 hw
    have m1 := Int.mul_nonneg t2 b1
    have m2 := Int.mul_pos t3 hx
    exact mpos (u := crs d p1 c) (by omega) (by omega)
  have E : ∀ s w, s + 2 < p.length → p[s]? = some w → 0 < crs w c x := fun s w hs hw => by
    have id : crs d pl c * crs w c x = crs d w c * crs pl c x + crs w pl c * crs d c x := by unfold crs; grind
    have t1 := hC 0 (p.length - 2) (p.length - 1) d pl c (by omega) (by omega) h0 hl hn
    have t2 : 0 ≤ crs d w c := by
      by_cases z : s = 0
      · subst z; rw [get_un hw h0, crs_aa]; omega
      · have := hC 0 s (p.length - 1) d w c (by omega) (by omega) h0 hw hn; omega
    have t3 := hC s (p.length - 2) (p.length - 1) w pl c (by omega) (by omega) hw hl hn
    have m1 := Int.mul_nonneg t2 b2
    have m2 := Int.mul_pos t3 hx
    exact mpos (u := crs d pl c) (by omega) (by omega)
  by_cases a0 : a = 0
  · subst a0
    have := get_un ha h0
    subst this
    by_cases b1' : b = 1
    · subst b1'
      exact Or.inl ⟨rfl, rfl, rfl, get_un hb h1⟩
    · exact Or.inr (Or.inr (D b v (by omega) hb))
  · by_cases bn : b + 1 = p.length
    · have hb' : p[p.length - 1]? = some v := by rw [show p.length - 1 = b by omega]; exact hb
      have := get_un hb' hn
      subst this
      by_cases an : a + 2 = p.length
      · have ha' : p[p.length - 2]? = some u := by rw [show p.length - 2 = a by omega]; exact ha
        exact Or.inr (Or.inl ⟨an, bn, get_un ha' hl, rfl⟩)
      · exact Or.inr (Or.inr (E a u (by omega) ha))
    · have id : crs c d u * crs u v x = crs u v c * crs d u x + crs u v d * crs u c x := by unfold crs; grind
      have t1 := hC 0 a (p.length - 1) d u c (by omega) (by omega) h0 ha hn
      have t1' : crs c d u = crs d u c := by unfold crs; grind
      have t2 := hC a b (p.length - 1) u v c hab (by omega) ha hb hn
      have t3 := hC 0 a b d u v (by omega) hab h0 ha hb
      have t3' : crs u v d = crs d u v := by unfold crs; grind
      have t4 : 0 ≤ crs d u x := by
        by_cases z : a = 1
        · subst z; rw [get_un ha h1]; exact b1
        · have := D a u (by omega) ha; omega
      have t5 := E a u (by omega) ha
      have m1 := Int.mul_nonneg (show 0 ≤ crs u v c by omega) t4
      have m2 := Int.mul_pos (show 0 < crs u v d by omega) t5
      exact Or.inr (Or.inr (mpos (u := crs c d u) (by omega) (by omega)))
def JN (p q : List Pt) (d c p1 pl q1 qe : Pt) : Prop := Cv p ∧ Cv q ∧ 3 ≤ p.length ∧ 3 ≤ q.length ∧ p[0]? = some d ∧ p[p.length - 1]? = some c ∧ q[0]? = some c ∧ q[q.length - 1]? = some d ∧ p[1]? = some p1 ∧ p[p.length - 2]? = some pl ∧ q[1]? = some q1 ∧ q[q.length - 2]? = some qe ∧ 0 ≤ crs qe d p1 ∧ 0 ≤ crs pl c q1
theorem JN.sym {p q : List Pt} {d c p1 pl q1 qe : Pt} (h : JN p q d c p1 pl q1 qe) : JN q p c d q1 qe p1 pl := by
  obtain ⟨h1, h2, h3, h4, h5, h6, h7, h8, h9, h10, h11, h12, h13, h14⟩ := h
  exact ⟨h2, h1, h4, h3, h7, h8, h5, h6, h11, h12, h9, h10, h14, h13⟩
theorem JN.q {p q : List Pt} {d c p1 pl q1 qe x : Pt} {s : Nat} (h : JN p q d c p1 pl q1 qe) (s1 : 1 ≤ s) (s2 : s + 2 ≤ q.length) (hx : q[s]? = some x) : 0 < crs d c x ∧ 0 ≤ crs d p1 x ∧ 0 ≤ crs pl c x ∧ (crs d p1 x = 0 → s + 2 = q.length ∧ x = qe) ∧ (crs pl c x = 0 → s = 1 ∧ x = q1) := by
  obtain ⟨hp, hq, p3, q3, d0, cn, c0, dn, hp1, hpl, hq1, hqe, B0, Bc⟩ := h
  have t0 := hq 0 s (q.length - 1) c x d (by omega) (by omega) c0 hx dn
  have e0 : crs d c x = crs c x d := by unfold crs; grind
  have tp := hp 0 1 (p.length - 1) d p1 c (by omega) (by omega) d0 hp1 cn
  have tl := hp 0 (p.length - 2) (p.length - 1) d pl c (by omega) (by omega) d0 hpl cn
  have el : crs pl c d = crs d pl c := by unfold crs; grind
  have t1 := hq 0 (q.length - 2) (q.length - 1) c qe d (by omega) (by omega) c0 hqe dn
  have t2 := hq 0 1 (q.length - 1) c q1 d (by omega) (by omega) c0 hq1 dn
  have e2 : crs d c q1 = crs c q1 d := by unfold crs; grind
  have id1 : crs c qe d * crs d p1 x = crs qe d x * crs d p1 c + crs d c x * crs qe d p1 := by unfold crs; grind
  have id2 : crs d c q1 * crs pl c x = crs c q1 x * crs pl c d + crs d c x * crs pl c q1 := by unfold crs; grind
  have m2 := Int.mul_nonneg (show 0 ≤ crs d c x by omega) B0
  have m4 := Int.mul_nonneg (show 0 ≤ crs d c x by omega) Bc
  have a1 : 0 ≤ crs d p1 x ∧ (crs d p1 x = 0 → s + 2 = q.length ∧ x = qe) := by
    by_cases z : s + 2 = q.length
    · have hx' : q[q.length - 2]? = some x := by rw [show q.length - 2 = s by omega]; exact hx
      have := get_un hx' hqe
      subst this
      have e : crs d p1 x = crs x d p1 := by unfold crs; grind
      exact ⟨by omega, fun _ => ⟨z, rfl⟩⟩
    · have t3 := hq s (q.length - 2) (q.length - 1) x qe d (by omega) (by omega) hx hqe dn
      have e3 : crs qe d x = crs x qe d := by unfold crs; grind
      have m1 := Int.mul_pos (show 0 < crs qe d x by omega) tp
      have := mpos (u := crs c qe d) (x := crs d p1 x) (by omega) (by omega)
      exact ⟨by omega, fun q => by omega⟩
  have a2 : 0 ≤ crs pl c x ∧ (crs pl c x = 0 → s = 1 ∧ x = q1) := by
    by_cases z : s = 1
    · subst z
      have := get_un hx hq1
      subst this
      exact ⟨Bc, fun _ => ⟨rfl, rfl⟩⟩
    · have t3 := hq 0 1 s c q1 x (by omega) (by omega) c0 hq1 hx
      have m1 := Int.mul_pos t3 (show 0 < crs pl c d by omega)
      have := mpos (u := crs d c q1) (x := crs pl c x) (by omega) (by omega)
      exact ⟨by omega, fun q => by omega⟩
  exact ⟨by omega, a1.1, a2.1, a1.2, a2.2⟩
/-- the way round both -/
def glW (p q : List Pt) : List Pt := p ++ (q.drop 1).take (q.length - 2)
theorem glW_len {p q : List Pt} (h : 2 ≤ q.length) : (glW p q).length = p.length + (q.length - 2) := by
  unfold glW
  rw [List.length_append, List.length_take, List.length_drop]; omega
theorem glW_p {p q : List Pt} {x : Nat} (h : x < p.length) : (glW p q)[x]? = p[x]? := by unfold glW; rw [List.getElem?_append_left h]
theorem glW_q {p q : List Pt} {x : Nat} (h : p.length ≤ x) (h2 : x < p.length + (q.length - 2)) : (glW p q)[x]? = q[x - p.length + 1]? := by
  unfold glW
  rw [List.getElem?_append_right h, List.getElem?_take, if_pos (by omega), List.getElem?_drop]
  congr 1; omega
theorem JW3 {p q : List Pt} {d c p1 pl q1 qe u v w : Pt} {x y z : Nat} (h : JN p q d c p1 pl q1 qe) (hxy : x < y) (hyz : y < z) (hu : (glW p q)[x]? = some u) (hv : (glW p q)[y]? = some v) (hw : (glW p q)[z]? = some w) : 0 < crs u v w ∨ (crs u v w = 0 ∧ ((x + 2 = p.length ∧ y + 1 = p.length ∧ z = p.length) ∨ (x = 0 ∧ y = 1 ∧ z + 1 = p.length + (q.length - 2)))) := by
  have h0 := h
  obtain ⟨hp, hq, p3, q3, d0, cn, c0, dn, hp1, hpl, hq1, hqe, B0, Bc⟩ := h
  have lz := get_lt hw
  rw [glW_len (by omega)] at lz
  by_cases zp : z < p.length
  · rw [glW_p (by omega)] at hu hv hw
    exact Or.inl (hp x y z u v w hxy hyz hu hv hw)
  rw [glW_q (by omega) lz] at hw
  by_cases yp : y < p.length
  · rw [glW_p (by omega)] at hu hv
    obtain ⟨a1, a2, a3, a4, a5⟩ := h0.q (by omega) (by omega) hw
    rcases glue hp p3 d0 hp1 hpl cn a1 a2 a3 hxy hu hv with ⟨b1, b2, b3, b4⟩ | ⟨b1, b2, b3, b4⟩ | b1
    · subst b3 b4
      by_cases g : crs u v w = 0
      · exact Or.inr ⟨g, Or.inr ⟨b1, b2, by have := (a4 g).1; omega⟩⟩
      · exact Or.inl (by omega)
    · subst b3 b4
      by_cases g : crs u v w = 0
      · exact Or.inr ⟨g, Or.inl ⟨b1, b2, by have := (a5 g).1; omega⟩⟩
      · exact Or.inl (by omega)
    · exact Or.inl b1
  rw [glW_q (by omega) (by omega)] at hv
  by_cases xp : x < p.length
  · rw [glW_p xp] at hu
    left
    have er : crs u v w = crs v w u := by unfold crs; grind
    rw [er]
    by_cases x0 : x = 0
    · subst x0
      rw [get_un hu d0]
      exact hq _ _ (q.length - 1) v w d (by omega) (by omega) hv hw dn
    · by_cases xn : x + 1 = p.length
      · have hu' : p[p.length - 1]? = some u := by rw [show p.length - 1 = x by omega]; exact hu
        rw [get_un hu' cn]
        have := hq 0 _ _ c v w (by omega) (by omega) c0 hv hw
        have e : crs v w c = crs c v w := by unfold crs; grind
        omega
      · obtain ⟨a1, a2, a3, -, -⟩ := h0.sym.q (by omega) (by omega) hu
        rcases glue hq q3 c0 hq1 hqe dn a1 a2 a3 (show y - p.length + 1 < z - p.length + 1 by omega) hv hw with ⟨b1, -⟩ | ⟨-, b2, -⟩ | b1
        · omega
        · omega
        · exact b1
  · rw [glW_q (by omega) (by omega)] at hu
    exact Or.inl (hq _ _ _ u v w (by omega) (by omega) hu hv hw)
/-- the bend at a corner -/
def bd1 (W : List Pt) (i : Nat) : Int := crs (gp W ((i + W.length - 1) % W.length)) (gp W i) (gp W ((i + 1) % W.length))
noncomputable def ubL (W : List Pt) : Nat → List Pt
  | 0 => []
  | i + 1 => ubL W i ++ ap1 (0 < bd1 W i) (gp W i)
theorem kys_1 (f : Nat → Prop) (i : Nat) : kys f (i + 1) = kys f i ++ @ite _ (f i) (Classical.propDecidable _) [i] [] := by
  unfold kys
  rw [List.range_succ, List.filter_append]
  congr 1
  by_cases h : f i
  · rw [if_pos h]
    exact (List.filter_cons_of_pos (p := fun k => bb (f k)) (bb_t h)).trans rfl
  · rw [if_neg h]
    exact (List.filter_cons_of_neg (p := fun k => bb (f k)) (by rw [bb_f h]; decide)).trans rfl
theorem ubL_keys (W : List Pt) : ∀ i, ubL W i = (kys (fun k => 0 < bd1 W k) i).map (gp W)
  | 0 => rfl
  | i + 1 => by
    rw [kys_1, List.map_append, ← ubL_keys W i]
    show ubL W i ++ _ = _
    congr 1
    by_cases h : 0 < bd1 W i
    · rw [ap1_t h, if_pos h]; rfl
    · rw [ap1_f h, if_neg h]; rfl
theorem ubL_get {W : List Pt} {i n : Nat} {x : Pt} (h : (ubL W n)[i]? = some x) : ∃ k, (kys (fun k => 0 < bd1 W k) n)[i]? = some k ∧ x = gp W k := by
  rw [ubL_keys, List.getElem?_map] at h
  cases hk : (kys (fun k => 0 < bd1 W k) n)[i]? with
  | none => rw [hk] at h; cases h
  | some k => rw [hk] at h; cases h; exact ⟨k, rfl, rfl⟩
theorem ubL_mem {W : List Pt} {n k : Nat} (hk : k < n) (h : 0 < bd1 W k) : gp W k ∈ ubL W n := by
  rw [ubL_keys]
  exact List.mem_map.mpr ⟨k, kys_mem.mpr ⟨hk, h⟩, rfl⟩
theorem three_len {L : List Nat} {a b c : Nat} (ha : a ∈ L) (hb : b ∈ L) (hc : c ∈ L) (h1 : a ≠ b) (h2 : a ≠ c) (h3 : b ≠ c) : 3 ≤ L.length := by
  match L, ha, hb, hc with
  | [x], ha, hb, _ => exact absurd ((List.mem_singleton.mp ha).trans (List.mem_singleton.mp hb).symm) h1
  | [x, y], ha, hb, hc =>
    simp only [List.mem_cons, List.not_mem_nil, or_false] at ha hb hc
    omega
  | x :: y :: z :: L, _, _, _ => simp only [List.length_cons]; omega
/-- the bends of the glued way -/
theorem glW_bd {p q : List Pt} {d c p1 pl q1 qe : Pt} (h : JN p q d c p1 pl q1 qe) : bd1 (glW p q) 0 = crs qe d p1 ∧ bd1 (glW p q) (p.length - 1) = crs pl c q1 ∧ ∀ i, i < (glW p q).length → i ≠ 0 → i + 1 ≠ p.length → 0 < bd1 (glW p q) i := by
  obtain ⟨hp, hq, p3, q3, d0, cn, c0, dn, hp1, hpl, hq1, hqe, B0, Bc⟩ := h
  have len := glW_len (p := p) (q := q) (by omega)
  have gP : ∀ x w, x < p.length → p[x]? = some w → gp (glW p q) x = w := fun x w hx hw => gp_of (by rw [glW_p hx]; exact hw)
  have gQ : ∀ x w, p.length ≤ x → x < p.length + (q.length - 2) → q[x - p.length + 1]? = some w → gp (glW p q) x = w := fun x w h1 h2 hw => gp_of (by rw [glW_q h1 h2]; exact hw)
  have mlt : ∀ {a : Nat}, a < p.length + (q.length - 2) → (a + (p.length + (q.length - 2))) % (p.length + (q.length - 2)) = a := fun {a} ha => by rw [Nat.add_mod_right, Nat.mod_eq_of_lt ha]
  refine ⟨?_, ?_, fun i hi i0 i1 => ?_⟩
  · unfold bd1
    rw [len, show 0 + (p.length + (q.length - 2)) - 1 = p.length + (q.length - 2) - 1 by omega, Nat.mod_eq_of_lt (by omega), Nat.mod_eq_of_lt (show 0 + 1 < p.length + (q.length - 2) by omega), gP 0 d (by omega) d0, gP 1 p1 (by omega) hp1, gQ (p.length + (q.length - 2) - 1) qe (by omega) (by omega) (by rw [show p.length + (q.length - 2) - 1 - p.length + 1 = q.length - 2 by omega]; exact hqe)]
  · unfold bd1
    rw [len, show p.length - 1 + (p.length + (q.length - 2)) - 1 = (p.length - 2) + (p.length + (q.length - 2)) by omega, mlt (by omega), show p.length - 1 + 1 = p.length by omega, Nat.mod_eq_of_lt (by omega), gP (p.length - 2) pl (by omega) hpl, gP (p.length - 1) c (by omega) cn, gQ p.length q1 (by omega) (by omega) (by rw [Nat.sub_self]; exact hq1)]
  · rw [len] at hi
    unfold bd1
    rw [len, show i + (p.length + (q.length - 2)) - 1 = (i - 1) + (p.length + (q.length - 2)) by omega, mlt (by omega)]
    by_cases ip : i < p.length
    · obtain ⟨u, hu⟩ := get_ex (l := p) (i := i - 1) (by omega)
      obtain ⟨v, hv⟩ := get_ex ip
      obtain ⟨w, hw⟩ := get_ex (l := p) (i := i + 1) (by omega)
      rw [Nat.mod_eq_of_lt (by omega), gP _ u (by omega) hu, gP _ v ip hv, gP _ w (by omega) hw]
      exact hp (i - 1) i (i + 1) u v w (by omega) (by omega) hu hv hw
    · obtain ⟨u, hu⟩ := get_ex (l := q) (i := i - p.length) (by omega)
      obtain ⟨v, hv⟩ := get_ex (l := q) (i := i - p.length + 1) (by omega)
      obtain ⟨w, hw⟩ := get_ex (l := q) (i := i - p.length + 2) (by omega)
      have e1 : gp (glW p q) (i - 1) = u := by
        by_cases z : i = p.length
        · subst z
          rw [Nat.sub_self] at hu
          rw [gP (p.length - 1) c (by omega) cn, get_un hu c0]
        · exact gQ _ u (by omega) (by omega) (by rw [show i - 1 - p.length + 1 = i - p.length by omega]; exact hu)
      have e3 : gp (glW p q) ((i + 1) % (p.length + (q.length - 2))) = w := by
        by_cases z : i + 1 < p.length + (q.length - 2)
        · rw [Nat.mod_eq_of_lt z]
          exact gQ _ w (by omega) z (by rw [show i + 1 - p.length + 1 = i - p.length + 2 by omega]; exact hw)
        · rw [show i + 1 = p.length + (q.length - 2) by omega, Nat.mod_self, gP 0 d (by omega) d0]
          rw [show i - p.length + 2 = q.length - 1 by omega] at hw
          exact get_un dn hw
      rw [e1, e3, gQ i v (by omega) (by omega) hv]
      exact hq _ _ _ u v w (by omega) (by omega) hu hv hw
theorem onw_mid {d c a b : Pt} (h : crs a c b = 0) (h1 : 0 < crs d c b) (h2 : 0 < crs d a c) : onw c a b (crs d c b) (crs d a c) := by
  refine ⟨h1, by omega, fun G => ?_⟩
  have id : crs c a b * gv G (hpt d) - crs d a b * gv G (hpt c) + crs d c b * gv G (hpt a) - crs d c a * gv G (hpt b) = 0 := by unfold crs gv hpt; grind
  have e1 : crs c a b = -crs a c b := by unfold crs; grind
  have e2 : crs d c a = -crs d a c := by unfold crs; grind
  have e3 : crs d a b = crs d c b + crs d a c - crs a c b := by unfold crs; grind
  rw [e1, e2, e3, h] at id
  simp only [Int.neg_mul, Int.zero_mul, Int.neg_zero, Int.sub_zero] at id
  omega
theorem GW_bt {V W L : List Pt} (h : GW V L) (h2 : 2 ≤ L.length) (hs : ∀ v, v ∈ V → v ∈ W) (hw : ∀ w, w ∈ W → w ∈ V ∨ ∃ p q a b, p ∈ V ∧ q ∈ V ∧ p ≠ q ∧ onw w p q a b ∧ 0 < b) : GW W L := by
  obtain ⟨f, f1, f2, f3, f4, -⟩ := id h
  refine ⟨f, f1, hs f f2, fun w hw' => ?_, f4, Or.inr (fun i u v hu hv => ?_)⟩
  · rcases hw w hw' with z | ⟨p, q, a, b, hp, hq, hpq, ho, hb⟩
    · exact f3 w z
    · right
      obtain ⟨a0, b0, e⟩ := ho
      have e1 := e (1, 0, 0)
      have e2 := e (0, 1, 0)
      simp only [gv, hpt, Int.zero_mul, Int.one_mul, Int.mul_one, Int.zero_add, Int.add_zero, Int.mul_zero] at e1 e2
      have lp : f.1 < p.1 ∨ (f.1 = p.1 ∧ f.2 ≤ p.2) := by
        rcases f3 p hp with z | z
        · rw [z]; omega
        · unfold ltP at z; omega
      have lq : f.1 < q.1 ∨ (f.1 = q.1 ∧ f.2 ≤ q.2) := by
        rcases f3 q hq with z | z
        · rw [z]; omega
        · unfold ltP at z; omega
      have mm : ∀ {x y : Int}, x ≤ y → a * x ≤ a * y := fun h => Int.mul_le_mul_of_nonneg_left h (by omega)
      have mb : ∀ {x y : Int}, x ≤ y → b * x ≤ b * y := fun h => Int.mul_le_mul_of_nonneg_left h (by omega)
      have ma' : ∀ {x y : Int}, x < y → a * x < a * y := fun h => Int.mul_lt_mul_of_pos_left h a0
      have mb' : ∀ {x y : Int}, x < y → b * x < b * y := fun h => Int.mul_lt_mul_of_pos_left h hb
      have s1 : (a + b) * f.1 = a * f.1 + b * f.1 := Int.add_mul _ _ _
      have s2 : (a + b) * f.2 = a * f.2 + b * f.2 := Int.add_mul _ _ _
      have cl : ∀ {x y : Int}, (a + b) * x < (a + b) * y → x < y := fun h => Int.lt_of_mul_lt_mul_left h (by omega)
      have ce : ∀ {x y : Int}, (a + b) * x = (a + b) * y → x = y := fun h => Int.eq_of_mul_eq_mul_left (by omega) h
      unfold ltP
      rcases lp with lp | ⟨lp1, lp2⟩
      · left
        have := ma' lp
        have := mb (show f.1 ≤ q.1 by omega)
        exact cl (by omega)
      · rcases lq with lq | ⟨lq1, lq2⟩
        · left
          have := mb' lq
          have := mm (show f.1 ≤ p.1 by omega)
          exact cl (by omega)
        · right
          refine ⟨ce (by rw [s1, e1, ← lp1, ← lq1]), ?_⟩
          have n2 : p.2 ≠ q.2 := fun z => hpq (Prod.ext (by omega) z)
          by_cases z : f.2 < p.2
          · have := ma' z
            have := mb lq2
            exact cl (by omega)
          · have := mb' (show f.2 < q.2 by omega)
            have := mm lp2
            exact cl (by omega)
  · have hE := h.ed h2 hu hv
    refine ⟨hs v hE.1, hE.2.1, fun w hw' => ?_⟩
    rcases hw w hw' with z | ⟨p, q, a, b, hp, hq, hpq, ho, hb⟩
    · exact hE.2.2 w z
    · obtain ⟨a0, b0, e⟩ := ho
      have le := GW_le h h2 hu hv
      have kp := le p hp
      have kq := le q hq
      have ec := e (fG u v)
      rw [gv_fG, gv_fG, gv_fG] at ec
      rcases ilg 0 (crs u v w) with g | g
      · exact Or.inr (Or.inr (left_in g))
      · have m1 := Int.mul_nonneg (show 0 ≤ a by omega) kp
        have m2 := Int.mul_nonneg b0 kq
        have m3 := Int.mul_nonpos_of_nonneg_of_nonpos (show 0 ≤ a + b by omega) g
        have zp : crs u v p = 0 := (Int.mul_eq_zero.mp (show a * crs u v p = 0 by omega)).resolve_left (by omega)
        have zq : crs u v q = 0 := (Int.mul_eq_zero.mp (show b * crs u v q = 0 by omega)).resolve_left (by omega)
        have zw : crs u v w = 0 := (Int.mul_eq_zero.mp (show (a + b) * crs u v w = 0 by omega)).resolve_left (by omega)
        have uv : v ≠ u := hE.2.1
        have D0 : 0 < dot u v v := by
          have : dot u v v = (v.1 - u.1) * (v.1 - u.1) + (v.2 - u.2) * (v.2 - u.2) := rfl
          rw [this]
          exact sq_pos (fun z => uv (Prod.ext (by omega) (by omega)))
        have on : ∀ x, x ∈ V → crs u v x = 0 → 0 ≤ dot u v x ∧ dot u v x ≤ dot u v v := fun x hx hz => by
          rcases hE.2.2 x hx with y | y | ⟨-, y⟩
          · rw [y]
            have : dot u v u = 0 := by unfold dot; grind
            omega
          · rw [y]; omega
          · have id : dot u x v * dot u x v + crs u v x * crs u v x = dot u x x * dot u v v := by unfold dot crs; grind
            have sy : dot u v x = dot u x v := by unfold dot; grind
            rw [hz, Int.mul_zero, Int.add_zero] at id
            rcases y with y | ⟨-, y1, y2⟩
            · rw [crs_swap, hz] at y; omega
            · refine ⟨by omega, ?_⟩
              rcases ilg (dot u v v) (dot u v x) with r | r
              · exfalso
                have m1 := Int.mul_lt_mul_of_pos_right y2 D0
                have m2 := Int.mul_lt_mul_of_pos_left r D0
                have m3 := Int.mul_lt_mul_of_pos_right r (show 0 < dot u v x by omega)
                rw [sy] at m2 m3
                omega
              · exact r
        obtain ⟨p1, p2⟩ := on p hp zp
        obtain ⟨q1, q2⟩ := on q hq zq
        have ne : dot u v p ≠ dot u v q := fun z => by
          have i1 : dot u v v * (p.1 - q.1) = (dot u v p - dot u v q) * (v.1 - u.1) - (crs u v p - crs u v q) * (v.2 - u.2) := by unfold dot crs; grind
          have i2 : dot u v v * (p.2 - q.2) = (dot u v p - dot u v q) * (v.2 - u.2) + (crs u v p - crs u v q) * (v.1 - u.1) := by unfold dot crs; grind
          rw [z, zp, zq, Int.sub_self, Int.sub_self, Int.zero_mul, Int.zero_mul] at i1 i2
          have j1 := (Int.mul_eq_zero.mp (show dot u v v * (p.1 - q.1) = 0 by omega)).resolve_left (by omega)
          have j2 := (Int.mul_eq_zero.mp (show dot u v v * (p.2 - q.2) = 0 by omega)).resolve_left (by omega)
          exact hpq (Prod.ext (by omega) (by omega))
        have lin : ∀ x, dot u v x = gv (v.1 - u.1, v.2 - u.2, -((v.1 - u.1) * u.1 + (v.2 - u.2) * u.2)) (hpt x) := fun x => by unfold dot gv hpt; grind
        have ed := e (v.1 - u.1, v.2 - u.2, -((v.1 - u.1) * u.1 + (v.2 - u.2) * u.2))
        rw [← lin, ← lin, ← lin] at ed
        have ma : ∀ {x y : Int}, x < y → a * x < a * y := fun h => Int.mul_lt_mul_of_pos_left h a0
        have mb : ∀ {x y : Int}, x < y → b * x < b * y := fun h => Int.mul_lt_mul_of_pos_left h hb
        have ma0 : ∀ {x y : Int}, x ≤ y → a * x ≤ a * y := fun h => Int.mul_le_mul_of_nonneg_left h (by omega)
        have mb0 : ∀ {x y : Int}, x ≤ y → b * x ≤ b * y := fun h => Int.mul_le_mul_of_nonneg_left h (by omega)
        have cl : ∀ {x y : Int}, (a + b) * x < (a + b) * y → x < y := fun h => Int.lt_of_mul_lt_mul_left h (by omega)
        have s0 : (a + b) * 0 = a * 0 + b * 0 := Int.add_mul _ _ _
        have sD : (a + b) * dot u v v = a * dot u v v + b * dot u v v := Int.add_mul _ _ _
        have w1 : 0 < dot u v w := by
          rcases ilg 0 (dot u v p) with r | r
          · have := ma r; have := mb0 q1; exact cl (by omega)
          · have := mb (show 0 < dot u v q by omega); have := ma0 p1; exact cl (by omega)
        have w2 : dot u v w < dot u v v := by
          rcases ilg (dot u v p) (dot u v v) with r | r
          · have := ma r; have := mb0 q2; exact cl (by omega)
          · have := mb (show dot u v q < dot u v v by omega); have := ma0 p2; exact cl (by omega)
        have id : dot u w v * dot u w v + crs u v w * crs u v w = dot u w w * dot u v v := by unfold dot crs; grind
        have sy : dot u v w = dot u w v := by unfold dot; grind
        rw [zw, Int.mul_zero, Int.add_zero] at id
        have big : dot u w w < dot u v v := by
          rcases ilg (dot u w w) (dot u v v) with r | r
          · exact r
          · exfalso
            have m1 := Int.mul_le_mul_of_nonneg_right r (show 0 ≤ dot u v v by omega)
            have m2 := Int.mul_lt_mul_of_pos_left w2 w1
            have m3 := Int.mul_lt_mul_of_pos_right w2 D0
            rw [sy] at m2 m3
            omega
        refine Or.inr (Or.inr ⟨?_, Or.inr ⟨by rw [crs_swap, zw]; rfl, by omega, by omega⟩⟩)
        unfold out
        omega
/-- both together, without inward corners: the ring of them -/
theorem glue_ok {p q : List Pt} {d c p1 pl q1 qe : Pt} (h : JN p q d c p1 pl q1 qe) : Cv (ubL (glW p q) (glW p q).length) ∧ 3 ≤ (ubL (glW p q) (glW p q).length).length ∧ GW (glW p q) (norm (ubL (glW p q) (glW p q).length)) := by
  have h0 := h
  obtain ⟨b0, bc, bi⟩ := glW_bd h
  obtain ⟨hp, hq, p3, q3, d0, cn, c0, dn, hp1, hpl, hq1, hqe, B0, Bc⟩ := h
  have len := glW_len (p := p) (q := q) (by omega)
  have gW : ∀ {x : Nat}, x < (glW p q).length → (glW p q)[x]? = some (gp (glW p q) x) := fun hx => gp_get hx
  have gd : gp (glW p q) 0 = d := gp_of (by rw [glW_p (by omega)]; exact d0)
  have g1 : gp (glW p q) 1 = p1 := gp_of (by rw [glW_p (by omega)]; exact hp1)
  have gl : gp (glW p q) (p.length - 2) = pl := gp_of (by rw [glW_p (by omega)]; exact hpl)
  have gc : gp (glW p q) (p.length - 1) = c := gp_of (by rw [glW_p (by omega)]; exact cn)
  have gq : gp (glW p q) p.length = q1 := gp_of (by rw [glW_q (by omega) (by omega), Nat.sub_self]; exact hq1)
  have ge : gp (glW p q) (p.length + (q.length - 2) - 1) = qe := gp_of (by rw [glW_q (by omega) (by omega), show p.length + (q.length - 2) - 1 - p.length + 1 = q.length - 2 by omega]; exact hqe)
  have tq := hq 0 1 (q.length - 1) c q1 d (by omega) (by omega) c0 hq1 dn
  have tqe := hq 0 (q.length - 2) (q.length - 1) c qe d (by omega) (by omega) c0 hqe dn
  have tp := hp 0 (p.length - 2) (p.length - 1) d pl c (by omega) (by omega) d0 hpl cn
  have tp1 := hp 0 1 (p.length - 1) d p1 c (by omega) (by omega) d0 hp1 cn
  have hC : Cv (ubL (glW p q) (glW p q).length) := by
    intro i j k u v w hij hjk hu hv hw
    obtain ⟨x, hx, rfl⟩ := ubL_get hu
    obtain ⟨y, hy, rfl⟩ := ubL_get hv
    obtain ⟨z, hz, rfl⟩ := ubL_get hw
    have kx := kys_get hx
    have ky := kys_get hy
    have kz := kys_get hz
    rcases JW3 h0 (kys_lt hij hx hy) (kys_lt hjk hy hz) (gW kx.1) (gW ky.1) (gW kz.1) with g | ⟨g, ⟨g1', g2', g3'⟩ | ⟨g1', g2', g3'⟩⟩
    · exact g
    · exfalso
      have e := ky.2
      rw [show y = p.length - 1 by omega, bc] at e
      rw [show x = p.length - 2 by omega, show y = p.length - 1 by omega, g3', gl, gc, gq] at g
      omega
    · exfalso
      have e := kx.2
      rw [g1', b0] at e
      rw [g1', g2', show z = p.length + (q.length - 2) - 1 by omega, gd, g1, ge] at g
      have : crs qe d p1 = crs d p1 qe := by unfold crs; grind
      omega
  have k1 : 0 < bd1 (glW p q) 1 ∨ p.length = 2 := by
    by_cases z : p.length = 2
    · exact Or.inr z
    · exact Or.inl (bi 1 (by omega) (by omega) (by omega))
  have h3 : 3 ≤ (ubL (glW p q) (glW p q).length).length := by
    rw [ubL_keys, List.length_map]
    have m1 : 1 ∈ kys (fun k => 0 < bd1 (glW p q) k) (glW p q).length := kys_mem.mpr ⟨by omega, bi 1 (by omega) (by omega) (by omega)⟩
    have mn : p.length ∈ kys (fun k => 0 < bd1 (glW p q) k) (glW p q).length := kys_mem.mpr ⟨by omega, bi _ (by omega) (by omega) (by omega)⟩
    by_cases z1 : 4 ≤ p.length
    · exact three_len m1 mn (kys_mem.mpr ⟨show 2 < _ by omega, bi 2 (by omega) (by omega) (by omega)⟩) (by omega) (by omega) (by omega)
    · by_cases z2 : 4 ≤ q.length
      · exact three_len m1 mn (kys_mem.mpr ⟨show p.length + 1 < _ by omega, bi _ (by omega) (by omega) (by omega)⟩) (by omega) (by omega) (by omega)
      · by_cases z3 : 0 < bd1 (glW p q) 0
        · exact three_len m1 mn (kys_mem.mpr ⟨show 0 < _ by omega, z3⟩) (by omega) (by omega) (by omega)
        · by_cases z4 : 0 < bd1 (glW p q) (p.length - 1)
          · exact three_len m1 mn (kys_mem.mpr ⟨show p.length - 1 < _ by omega, z4⟩) (by omega) (by omega) (by omega)
          · exfalso
            rw [show p.length - 2 = 1 by omega] at hpl
            rw [show q.length - 2 = 1 by omega] at hqe
            have e1 := get_un hpl hp1
            have e2 := get_un hqe hq1
            subst e1 e2
            have ne : pl ≠ qe := fun e => by
              rw [e] at tp
              have : crs c qe d = crs d c qe := by unfold crs; grind
              rw [crs_swap] at tp
              omega
            have j1 : crs pl qe c = 0 := by rw [crs_swap]; omega
            have j2 : crs pl qe d = 0 := by
              have : crs pl qe d = crs qe d pl := by unfold crs; grind
              omega
            have := collin ne j2 (crs_ab pl qe) j1
            omega
  obtain ⟨n1, n2, n3, n4⟩ := GW_norm hC h3
  refine ⟨hC, h3, GW_bt n1 (by omega) (fun v hv => ?_) (fun w hw => ?_)⟩
  · obtain ⟨i, -, hi⟩ := mem_get hv
    obtain ⟨k, hk, rfl⟩ := ubL_get hi
    exact get_mem (gW (kys_get hk).1)
  · obtain ⟨x, hx, hxw⟩ := mem_get hw
    have ew := get_un hxw (gW hx)
    subst ew
    by_cases z : 0 < bd1 (glW p q) x
    · exact Or.inl (ubL_mem hx z)
    · right
      by_cases x0 : x = 0
      · subst x0
        rw [b0] at z
        rw [gd]
        have m1 := ubL_mem (n := (glW p q).length) (show 1 < _ by omega) (bi 1 (by omega) (by omega) (by omega))
        have m2 := ubL_mem (n := (glW p q).length) (show p.length + (q.length - 2) - 1 < _ by omega) (bi _ (by omega) (by omega) (by omega))
        rw [g1] at m1
        rw [ge] at m2
        have e1 : crs c d p1 = crs d p1 c := by unfold crs; grind
        have e2 : crs c qe d = crs c qe d := rfl
        refine ⟨qe, p1, crs c d p1, crs c qe d, m2, m1, fun e => ?_, onw_mid (by omega) (by omega) tqe, tqe⟩
        rw [e] at tqe
        have : crs c p1 d = -crs d p1 c := by unfold crs; grind
        omega
      · have xn : x = p.length - 1 := by
          by_cases y : x + 1 = p.length
          · omega
          · exact absurd (bi x hx x0 y) z
        subst xn
        rw [bc] at z
        rw [gc]
        have m1 := ubL_mem (n := (glW p q).length) (show p.length - 2 < _ by omega) (bi _ (by omega) (by omega) (by omega))
        have m2 := ubL_mem (n := (glW p q).length) (show p.length < _ by omega) (bi _ (by omega) (by omega) (by omega))
        rw [gl] at m1
        rw [gq] at m2
        have e1 : crs d c q1 = crs c q1 d := by unfold crs; grind
        refine ⟨pl, q1, crs d c q1, crs d pl c, m1, m2, fun e => ?_, onw_mid (by omega) (by omega) tp, tp⟩
        rw [e] at tp
        rw [crs_swap] at tp
        omega
