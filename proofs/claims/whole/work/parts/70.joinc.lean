/-! the class joins -/
def cs (X Y : List Pt) (i j : Nat) : Prop := i < X.length ∧ j < Y.length ∧ gp X i = gp Y ((j + 1) % Y.length) ∧ gp X ((i + 1) % X.length) = gp Y j
def jW (X Y : List Pt) (i j : Nat) : List Pt := glW (rotL ((i + 1) % X.length) X) (rotL ((j + 1) % Y.length) Y)
def outW (W : List Pt) : Prop := ∀ x, x < W.length → 0 ≤ bd1 W x
def cyc (l : List Pt) (f k : Nat) : List Pt := (List.range k).map (fun t => gp l ((f + t) % l.length))
theorem cyc_len (l : List Pt) (f k : Nat) : (cyc l f k).length = k := by unfold cyc; rw [List.length_map, List.length_range]
theorem cyc_s (l : List Pt) (f k : Nat) : cyc l f (k + 1) = cyc l f k ++ [gp l ((f + k) % l.length)] := by unfold cyc; rw [List.range_succ, List.map_append]; rfl
theorem cyc_get {l : List Pt} {f k t : Nat} (h : t < k) : (cyc l f k)[t]? = some (gp l ((f + t) % l.length)) := by
  unfold cyc
  rw [List.getElem?_map, List.getElem?_range h]; rfl
theorem cyc_rot {l : List Pt} {f : Nat} (h : 0 < l.length) : cyc l f l.length = rotL (f % l.length) l := by
  refine List.ext_getElem? (fun t => ?_)
  by_cases ht : t < l.length
  · rw [cyc_get ht, rotL_get (Nat.mod_lt _ h) ht, Nat.mod_add_mod, gp_get (Nat.mod_lt _ h)]
  · rw [List.getElem?_eq_none (by rw [cyc_len]; omega), List.getElem?_eq_none (by rw [rotL_len]; omega)]
theorem cyc_mid {l : List Pt} {f : Nat} (h : 2 ≤ l.length) : cyc l (f + 1) (l.length - 2) = ((rotL (f % l.length) l).drop 1).take ((rotL (f % l.length) l).length - 2) := by
  refine List.ext_getElem? (fun t => ?_)
  rw [rotL_len]
  by_cases ht : t < l.length - 2
  · rw [cyc_get ht, List.getElem?_take, if_pos ht, List.getElem?_drop, rotL_get (Nat.mod_lt _ (by omega)) (by omega), Nat.mod_add_mod, ← Nat.add_assoc, gp_get (Nat.mod_lt _ (by omega))]
  · rw [List.getElem?_eq_none (by rw [cyc_len]; omega), List.getElem?_eq_none (by rw [List.length_take]; omega)]
theorem jW_cyc {X Y : List Pt} {i j : Nat} (hX : 0 < X.length) (hY : 2 ≤ Y.length) : jW X Y i j = cyc X (i + 1) X.length ++ cyc Y (j + 2) (Y.length - 2) := by
  unfold jW glW
  rw [cyc_rot hX, show j + 2 = j + 1 + 1 by omega, cyc_mid hY]
theorem jW_len {X Y : List Pt} {i j : Nat} (hY : 2 ≤ Y.length) : (jW X Y i j).length = X.length + (Y.length - 2) := by
  unfold jW
  rw [glW_len (by rw [rotL_len]; exact hY), rotL_len, rotL_len]
theorem jW_mem {X Y : List Pt} {i j : Nat} (hY : 2 ≤ Y.length) {w : Pt} (h : w ∈ jW X Y i j) : w ∈ X ∨ w ∈ Y := by
  unfold jW glW at h
  rcases List.mem_append.mp h with z | z
  · exact Or.inl (rotL_mem.mp z)
  · exact Or.inr (rotL_mem.mp (List.mem_of_mem_drop (List.mem_of_mem_take z)))
/-- the two bends where they meet -/
theorem glW_b2 {p q : List Pt} {d c p1 pl q1 qe : Pt} (p3 : 3 ≤ p.length) (q3 : 3 ≤ q.length) (d0 : p[0]? = some d) (cn : p[p.length - 1]? = some c) (hp1 : p[1]? = some p1) (hpl : p[p.length - 2]? = some pl) (hq1 : q[1]? = some q1) (hqe : q[q.length - 2]? = some qe) : bd1 (glW p q) 0 = crs qe d p1 ∧ bd1 (glW p q) (p.length - 1) = crs pl c q1 := by
  have len := glW_len (p := p) (q := q) (by omega)
  have gP : ∀ x w, x < p.length → p[x]? = some w → gp (glW p q) x = w := fun x w hx hw => gp_of (by rw [glW_p hx]; exact hw)
  have gQ : ∀ x w, p.length ≤ x → x < p.length + (q.length - 2) → q[x - p.length + 1]? = some w → gp (glW p q) x = w := fun x w h1 h2 hw => gp_of (by rw [glW_q h1 h2]; exact hw)
  have mlt : ∀ {a : Nat}, a < p.length + (q.length - 2) → (a + (p.length + (q.length - 2))) % (p.length + (q.length - 2)) = a := fun {a} ha => by rw [Nat.add_mod_right, Nat.mod_eq_of_lt ha]
  constructor
  · unfold bd1
    rw [len, show 0 + (p.length + (q.length - 2)) - 1 = p.length + (q.length - 2) - 1 by omega, Nat.mod_eq_of_lt (by omega), Nat.mod_eq_of_lt (show 0 + 1 < p.length + (q.length - 2) by omega), gP 0 d (by omega) d0, gP 1 p1 (by omega) hp1, gQ (p.length + (q.length - 2) - 1) qe (by omega) (by omega) (by rw [show p.length + (q.length - 2) - 1 - p.length + 1 = q.length - 2 by omega]; exact hqe)]
  · unfold bd1
    rw [len, show p.length - 1 + (p.length + (q.length - 2)) - 1 = (p.length - 2) + (p.length + (q.length - 2)) by omega, mlt (by omega), show p.length - 1 + 1 = p.length by omega, Nat.mod_eq_of_lt (by omega), gP (p.length - 2) pl (by omega) hpl, gP (p.length - 1) c (by omega) cn, gQ p.length q1 (by omega) (by omega) (by rw [Nat.sub_self]; exact hq1)]
theorem cs_JN {X Y : List Pt} {i j : Nat} (hX : Cv X) (X3 : 3 ≤ X.length) (hY : Cv Y) (Y3 : 3 ≤ Y.length) (h : cs X Y i j) (ho : outW (jW X Y i j)) : ∃ d c p1 pl q1 qe, JN (rotL ((i + 1) % X.length) X) (rotL ((j + 1) % Y.length) Y) d c p1 pl q1 qe := by
  obtain ⟨h1, h2, h3, h4⟩ := h
  have mi : (i + 1) % X.length < X.length := Nat.mod_lt _ (by omega)
  have mj : (j + 1) % Y.length < Y.length := Nat.mod_lt _ (by omega)
  have pl := rotL_len ((i + 1) % X.length) X
  have ql := rotL_len ((j + 1) % Y.length) Y
  have back : ∀ {a n : Nat}, a < n → ((a + 1) % n + (n - 1)) % n = a := fun {a n} ha => by
    rw [Nat.mod_add_mod, show a + 1 + (n - 1) = a + n by omega, Nat.add_mod_right, Nat.mod_eq_of_lt ha]
  have P0 : (rotL ((i + 1) % X.length) X)[0]? = some (gp X ((i + 1) % X.length)) := by rw [rotL_get mi (by omega), Nat.add_zero, Nat.mod_mod, gp_get mi]
  have Pn : (rotL ((i + 1) % X.length) X)[(rotL ((i + 1) % X.length) X).length - 1]? = some (gp X i) := by rw [pl, rotL_get mi (by omega), back h1, gp_get h1]
  have Q0 : (rotL ((j + 1) % Y.length) Y)[0]? = some (gp X i) := by rw [rotL_get mj (by omega), Nat.add_zero, Nat.mod_mod, gp_get mj, h3]
  have Qn : (rotL ((j + 1) % Y.length) Y)[(rotL ((j + 1) % Y.length) Y).length - 1]? = some (gp X ((i + 1) % X.length)) := by rw [ql, rotL_get mj (by omega), back h2, gp_get h2, h4]
  obtain ⟨p1, e1⟩ := get_ex (l := rotL ((i + 1) % X.length) X) (i := 1) (by omega)
  obtain ⟨pe, e2⟩ := get_ex (l := rotL ((i + 1) % X.length) X) (i := (rotL ((i + 1) % X.length) X).length - 2) (by omega)
  obtain ⟨q1, e3⟩ := get_ex (l := rotL ((j + 1) % Y.length) Y) (i := 1) (by omega)
  obtain ⟨qe, e4⟩ := get_ex (l := rotL ((j + 1) % Y.length) Y) (i := (rotL ((j + 1) % Y.length) Y).length - 2) (by omega)
  obtain ⟨b1, b2⟩ := glW_b2 (by omega) (by omega) P0 Pn e1 e2 e3 e4
  have gl := glW_len (p := rotL ((i + 1) % X.length) X) (q := rotL ((j + 1) % Y.length) Y) (by omega)
  have o1 := ho 0 (by unfold jW; omega)
  have o2 := ho ((rotL ((i + 1) % X.length) X).length - 1) (by unfold jW; omega)
  unfold jW at o1 o2
  rw [b1] at o1
  rw [b2] at o2
  exact ⟨_, _, p1, pe, q1, qe, hX.rot mi, hY.rot mj, by omega, by omega, P0, Pn, Q0, Qn, e1, e2, e3, e4, o1, o2⟩
section JC
variable {K : Kk} {R : Rr} {M : Mm}
theorem isSame_ok {r q n n2 i j : Nat} {X Y : List Pt} (hA : rgA K R r n) (h : rgC M r X) (hq : rgA K R q n2) (h2 : rgC M q Y) (hn : n < 2 ^ 20) (hn2 : n2 < 2 ^ 20) (hl : X.length ≤ n) (hl2 : Y.length ≤ n2) (hi : i < X.length) (hj : j < Y.length) : ∃ v, mX5_isSame K R M r (nI i) q (nI j) = some v ∧ iv v (gp X i = gp Y j) := by
  obtain ⟨a0, a1, a2, a3, a4⟩ := hA
  obtain ⟨b0, b1, b2, b3, b4⟩ := hq
  obtain ⟨u1, u2⟩ := h.2 _ _ (gp_get hi)
  obtain ⟨w1, w2⟩ := h2.2 _ _ (gp_get hj)
  unfold mX5_isSame
  by_cases c1 : M.1 (r + 1) i = M.1 (q + 1) j
  · by_cases c2 : M.1 (r + 2) i = M.1 (q + 2) j
    · refine ⟨1, by (repeat (first | rw [ck_t (by first | with_reducible assumption | ((with_reducible apply ixA_of); (with_reducible assumption); omega; omega) | ((with_reducible apply isAr_of); (with_reducible assumption); decide) | ((with_reducible apply nI_ne0); omega; omega) | with_reducible exact isB_0 | with_reducible exact isB_1 | with_reducible exact isB_bI _)] | rw [bd_r (by with_reducible assumption)] | rw [bd_s] | rw [bd2_s] | rw [bd3_s] | rw [nm_s] | rw [nI_clamp (by omega)] | rw [nI_1] | rw [if_pos (by first | with_reducible assumption | ((with_reducible refine nI_lt ?_ ?_); omega; omega) | ((with_reducible refine nI_nlt ?_ ?_); omega; omega) | with_reducible exact ne10 | with_reducible rfl)] | rw [if_neg (by first | with_reducible assumption | ((with_reducible refine nI_lt ?_ ?_); omega; omega) | ((with_reducible refine nI_nlt ?_ ?_); omega; omega) | with_reducible exact ne10 | with_reducible rfl)])), Or.inl ⟨rfl, Prod.ext (by rw [← u1, ← w1, c1]) (by rw [← u2, ← w2, c2])⟩⟩
    · exact ⟨0, by (repeat (first | rw [ck_t (by first | with_reducible assumption | ((with_reducible apply ixA_of); (with_reducible assumption); omega; omega) | ((with_reducible apply isAr_of); (with_reducible assumption); decide) | ((with_reducible apply nI_ne0); omega; omega) | with_reducible exact isB_0 | with_reducible exact isB_1 | with_reducible exact isB_bI _)] | rw [bd_r (by with_reducible assumption)] | rw [bd_s] | rw [bd2_s] | rw [bd3_s] | rw [nm_s] | rw [nI_clamp (by omega)] | rw [nI_1] | rw [if_pos (by first | with_reducible assumption | ((with_reducible refine nI_lt ?_ ?_); omega; omega) | ((with_reducible refine nI_nlt ?_ ?_); omega; omega) | with_reducible exact ne10 | with_reducible rfl)] | rw [if_neg (by first | with_reducible assumption | ((with_reducible refine nI_lt ?_ ?_); omega; omega) | ((with_reducible refine nI_nlt ?_ ?_); omega; omega) | with_reducible exact ne10 | with_reducible rfl)])), Or.inr ⟨rfl, fun z => c2 (eq32.mpr (by rw [u2, w2, z]))⟩⟩
  · exact ⟨0, by (repeat (first | rw [ck_t (by first | with_reducible assumption | ((with_reducible apply ixA_of); (with_reducible assumption); omega; omega) | ((with_reducible apply isAr_of); (with_reducible assumption); decide) | ((with_reducible apply nI_ne0); omega; omega) | with_reducible exact isB_0 | with_reducible exact isB_1 | with_reducible exact isB_bI _)] | rw [bd_r (by with_reducible assumption)] | rw [bd_s] | rw [bd2_s] | rw [bd3_s] | rw [nm_s] | rw [nI_clamp (by omega)] | rw [nI_1] | rw [if_pos (by first | with_reducible assumption | ((with_reducible refine nI_lt ?_ ?_); omega; omega) | ((with_reducible refine nI_nlt ?_ ?_); omega; omega) | with_reducible exact ne10 | with_reducible rfl)] | rw [if_neg (by first | with_reducible assumption | ((with_reducible refine nI_lt ?_ ?_); omega; omega) | ((with_reducible refine nI_nlt ?_ ?_); omega; omega) | with_reducible exact ne10 | with_reducible rfl)])), Or.inr ⟨rfl, fun z => c1 (eq32.mpr (by rw [u1, w1, z]))⟩⟩
theorem addFrom_ok {r q n n2 f k : Nat} {L l : List Pt} (hA : rgA K R r n) (hq : rgA K R q n2) (hd : r + 3 ≤ q ∨ q + 3 ≤ r) (h : rgC M r L) (h2 : rgC M q l) (hn : n < 2 ^ 20) (hn2 : n2 < 2 ^ 20) (hl2 : l.length ≤ n2) (hc : L.length + k ≤ n) (hf : f + k ≤ 2 * l.length) : ∃ M', mX5_addFrom K R M r q (nI f) (nI k) = some M' ∧ rgC M' r (L ++ cyc l f k) ∧ Fr r (r + 3) M M' ∧ M'.2 = M.2 := by
  have a0 := hA.1
  have hq0 := hq
  obtain ⟨b0, b1, b2, b3, b4⟩ := hq
  have hL := lp_ind (f := mX5_addFrom_L3 K R r q (nI f) (nI k)) (fun (i : Nat) (s : Int32 × Mm) => s.1 = nI i ∧ rgC s.2 r (L ++ cyc l f i) ∧ Fr r (r + 3) M s.2 ∧ s.2.2 = M.2) (fun M' => rgC M' r (L ++ cyc l f k) ∧ Fr r (r + 3) M M' ∧ M'.2 = M.2) k ?_ ?_
  · obtain ⟨M', e1, e2⟩ := hL k 0 (nI 0, M) (by omega) ⟨rfl, by show rgC M r (L ++ []); rw [List.append_nil]; exact h, Fr.rf, rfl⟩
    refine ⟨M', ?_, e2⟩
    unfold mX5_addFrom
    (repeat (first | rw [ck_t (by first | with_reducible assumption | ((with_reducible apply ixA_of); (with_reducible assumption); omega; omega) | ((with_reducible apply isAr_of); (with_reducible assumption); decide) | ((with_reducible apply nI_ne0); omega; omega) | with_reducible exact isB_0 | with_reducible exact isB_1 | with_reducible exact isB_bI _)] | rw [bd_r (by with_reducible assumption)] | rw [bd_s] | rw [bd2_s] | rw [bd3_s] | rw [nm_s] | rw [nI_clamp (by omega)] | rw [nI_1] | rw [if_pos (by first | with_reducible assumption | ((with_reducible refine nI_lt ?_ ?_); omega; omega) | ((with_reducible refine nI_nlt ?_ ?_); omega; omega) | with_reducible exact ne10 | with_reducible rfl)] | rw [if_neg (by first | with_reducible assumption | ((with_reducible refine nI_lt ?_ ?_); omega; omega) | ((with_reducible refine nI_nlt ?_ ?_); omega; omega) | with_reducible exact ne10 | with_reducible rfl)]))
    exact e1
  · rintro i ⟨z, N⟩ hi ⟨rfl, f1, f2, f3⟩
    have f1 : rgC N r (L ++ cyc l f i) := f1
    have f2 : Fr r (r + 3) M N := f2
    have f3 : N.2 = M.2 := f3
    have hN := h2.fr f2 (by omega)
    have w := wrap_ok (i := f + i) hq0 hN (by omega) (by omega)
    have hm : (f + i) % l.length < l.length := Nat.mod_lt _ (by omega)
    obtain ⟨u1, u2⟩ := hN.2 _ _ (gp_get hm)
    obtain ⟨N2, d1, d2, d3, d4⟩ := add_ok (x := N.1 (q + 1) ((f + i) % l.length)) (y := N.1 (q + 2) ((f + i) % l.length)) hA f1 (by rw [List.length_append, cyc_len]; omega) hn
    refine Or.inl ⟨(nI (i + 1), N2), ?_, rfl, ?_, f2.tr d3, d4.trans f3⟩
    · show mX5_addFrom_B3 K R r q (nI f) (nI k) (nI i) N = _
      unfold mX5_addFrom_B3
      (repeat (first | rw [ck_t (by first | with_reducible assumption | ((with_reducible apply ixA_of); (with_reducible assumption); omega; omega) | ((with_reducible apply isAr_of); (with_reducible assumption); decide) | ((with_reducible apply nI_ne0); omega; omega) | with_reducible exact isB_0 | with_reducible exact isB_1 | with_reducible exact isB_bI _)] | rw [bd_r (by with_reducible assumption)] | rw [bd_s] | rw [bd2_s] | rw [bd3_s] | rw [nm_s] | rw [nI_clamp (by omega)] | rw [nI_1] | rw [nI_add] | rw [bd_e (w)] | rw [bd_e (d1)] | rw [if_pos (by first | with_reducible assumption | ((with_reducible refine nI_lt ?_ ?_); omega; omega) | ((with_reducible refine nI_nlt ?_ ?_); omega; omega) | with_reducible exact ne10 | with_reducible rfl)] | rw [if_neg (by first | with_reducible assumption | ((with_reducible refine nI_lt ?_ ?_); omega; omega) | ((with_reducible refine nI_nlt ?_ ?_); omega; omega) | with_reducible exact ne10 | with_reducible rfl)]))
    · show rgC N2 r (L ++ cyc l f (i + 1))
      rw [cyc_s, ← List.append_assoc]
      rw [u1, u2] at d2
      exact d2
  · rintro ⟨z, N⟩ ⟨rfl, f1, f2, f3⟩
    refine ⟨N, ?_, f1, f2, f3⟩
    show mX5_addFrom_B3 K R r q (nI f) (nI k) (nI k) N = _
    unfold mX5_addFrom_B3
    (repeat (first | rw [ck_t (by first | with_reducible assumption | ((with_reducible apply ixA_of); (with_reducible assumption); omega; omega) | ((with_reducible apply isAr_of); (with_reducible assumption); decide) | ((with_reducible apply nI_ne0); omega; omega) | with_reducible exact isB_0 | with_reducible exact isB_1 | with_reducible exact isB_bI _)] | rw [bd_r (by with_reducible assumption)] | rw [bd_s] | rw [bd2_s] | rw [bd3_s] | rw [nm_s] | rw [nI_clamp (by omega)] | rw [nI_1] | rw [if_pos (by first | with_reducible assumption | ((with_reducible refine nI_lt ?_ ?_); omega; omega) | ((with_reducible refine nI_nlt ?_ ?_); omega; omega) | with_reducible exact ne10 | with_reducible rfl)] | rw [if_neg (by first | with_reducible assumption | ((with_reducible refine nI_lt ?_ ?_); omega; omega) | ((with_reducible refine nI_nlt ?_ ?_); omega; omega) | with_reducible exact ne10 | with_reducible rfl)]))
    rfl
theorem takeJoined_ok {r p q : Nat} {X Y : List Pt} (hA : rgA K R r 66) (hp : rgA K R p 16) (hq : rgA K R q 16) (d1 : r + 3 ≤ p ∨ p + 3 ≤ r) (d2 : r + 3 ≤ q ∨ q + 3 ≤ r) (hX : rgC M p X) (hY : rgC M q Y) (X16 : X.length ≤ 16) (Y16 : Y.length ≤ 16) (Y3 : 3 ≤ Y.length) : (∃ i j M', cs X Y i j ∧ mX5_takeJoined K R M r p q = some (1, M') ∧ rgC M' r (jW X Y i j) ∧ Fr r (r + 3) M M' ∧ M'.2 = M.2) ∨ ((∀ i j, ¬ cs X Y i j) ∧ mX5_takeJoined K R M r p q = some (0, M)) := by
  have a0 := hA.1
  have p0 := hp.1
  have q0 := hq.1
  have eX := hX.1
  have eY := hY.1
  have inner : ∀ i, i < X.length → (∃ j M', cs X Y i j ∧ lp (mX5_takeJoined_L13 K R M r p q (nI i)) 0 = some (.inr (1, M')) ∧ rgC M' r (jW X Y i j) ∧ Fr r (r + 3) M M' ∧ M'.2 = M.2) ∨ ((∀ j, ¬ cs X Y i j) ∧ lp (mX5_takeJoined_L13 K R M r p q (nI i)) 0 = some (.inl (nI (i + 1)))) := fun i hi => by
    have hL := lp_ind (f := mX5_takeJoined_L13 K R M r p q (nI i)) (fun (j : Nat) (s : Int32) => s = nI j ∧ ∀ t, t < j → ¬ cs X Y i t) (fun x => (∃ j M', cs X Y i j ∧ x = .inr (1, M') ∧ rgC M' r (jW X Y i j) ∧ Fr r (r + 3) M M' ∧ M'.2 = M.2) ∨ ((∀ j, ¬ cs X Y i j) ∧ x = .inl (nI (i + 1)))) Y.length ?_ ?_
    · obtain ⟨x, e1, e2⟩ := hL Y.length 0 0 (by omega) ⟨rfl, fun t ht => absurd ht (by omega)⟩
      rcases e2 with ⟨j, M', c1, rfl, c2⟩ | ⟨c1, rfl⟩
      · exact Or.inl ⟨j, M', c1, e1, c2⟩
      · exact Or.inr ⟨c1, e1⟩
    · rintro j s hj ⟨rfl, f⟩
      have w1 := wrap_ok (i := j + 1) hq hY (by omega) (by omega)
      have w2 := wrap_ok (i := i + 1) hp hX (by omega) (by omega)
      obtain ⟨v, v1, v2⟩ := isSame_ok (R := R) hp hX hq hY (by decide) (by decide) X16 Y16 hi (mod_lt' hj)
      obtain ⟨w, w1', w2'⟩ := isSame_ok (R := R) hp hX hq hY (by decide) (by decide) X16 Y16 (mod_lt' hi) hj
      have go : mX5_takeJoined_J90 K R M r p q (nI i) (nI j) = some (.inl (nI (j + 1))) := by unfold mX5_takeJoined_J90; (repeat (first | rw [ck_t (by first | with_reducible assumption | ((with_reducible apply ixA_of); (with_reducible assumption); omega; omega) | ((with_reducible apply isAr_of); (with_reducible assumption); decide) | ((with_reducible apply nI_ne0); omega; omega) | with_reducible exact isB_0 | with_reducible exact isB_1 | with_reducible exact isB_bI _)] | rw [bd_r (by with_reducible assumption)] | rw [bd_s] | rw [bd2_s] | rw [bd3_s] | rw [nm_s] | rw [nI_clamp (by omega)] | rw [nI_1] | rw [if_pos (by first | with_reducible assumption | ((with_reducible refine nI_lt ?_ ?_); omega; omega) | ((with_reducible refine nI_nlt ?_ ?_); omega; omega) | with_reducible exact ne10 | with_reducible rfl)] | rw [if_neg (by first | with_reducible assumption | ((with_reducible refine nI_lt ?_ ?_); omega; omega) | ((with_reducible refine nI_nlt ?_ ?_); omega; omega) | with_reducible exact ne10 | with_reducible rfl)]))
      have nx : ¬ cs X Y i j → ∀ t, t < j + 1 → ¬ cs X Y i t := fun h t ht => by
        by_cases z : t = j
        · subst z; exact h
        · exact f t (by omega)
      show (∃ s', mX5_takeJoined_B13 K R M r p q (nI i) (nI j) = some (.inl s') ∧ _) ∨ ∃ x, mX5_takeJoined_B13 K R M r p q (nI i) (nI j) = some (.inr x) ∧ _
      unfold mX5_takeJoined_B13
      (repeat (first | rw [ck_t (by first | with_reducible assumption | ((with_reducible apply ixA_of); (with_reducible assumption); omega; omega) | ((with_reducible apply isAr_of); (with_reducible assumption); decide) | ((with_reducible apply nI_ne0); omega; omega) | with_reducible exact isB_0 | with_reducible exact isB_1 | with_reducible exact isB_bI _)] | rw [bd_r (by with_reducible assumption)] | rw [bd_s] | rw [bd2_s] | rw [bd3_s] | rw [nm_s] | rw [nI_clamp (by omega)] | rw [nI_1] | rw [eY] | rw [bd_e (w1)] | rw [bd_e (v1)] | rw [if_pos (by first | with_reducible assumption | ((with_reducible refine nI_lt ?_ ?_); omega; omega) | ((with_reducible refine nI_nlt ?_ ?_); omega; omega) | with_reducible exact ne10 | with_reducible rfl)] | rw [if_neg (by first | with_reducible assumption | ((with_reducible refine nI_lt ?_ ?_); omega; omega) | ((with_reducible refine nI_nlt ?_ ?_); omega; omega) | with_reducible exact ne10 | with_reducible rfl)]))
      rcases v2 with ⟨rfl, v2⟩ | ⟨rfl, v2⟩
      · (repeat (first | rw [ck_t (by first | with_reducible assumption | ((with_reducible apply ixA_of); (with_reducible assumption); omega; omega) | ((with_reducible apply isAr_of); (with_reducible assumption); decide) | ((with_reducible apply nI_ne0); omega; omega) | with_reducible exact isB_0 | with_reducible exact isB_1 | with_reducible exact isB_bI _)] | rw [bd_r (by with_reducible assumption)] | rw [bd_s] | rw [bd2_s] | rw [bd3_s] | rw [nm_s] | rw [nI_clamp (by omega)] | rw [nI_1] | rw [if_neg (ne10)] | rw [bd_e (w2)] | rw [bd_e (w1')] | rw [if_pos (by first | with_reducible assumption | ((with_reducible refine nI_lt ?_ ?_); omega; omega) | ((with_reducible refine nI_nlt ?_ ?_); omega; omega) | with_reducible exact ne10 | with_reducible rfl)] | rw [if_neg (by first | with_reducible assumption | ((with_reducible refine nI_lt ?_ ?_); omega; omega) | ((with_reducible refine nI_nlt ?_ ?_); omega; omega) | with_reducible exact ne10 | with_reducible rfl)]))
        rcases w2' with ⟨rfl, w2'⟩ | ⟨rfl, w2'⟩
        · right
          have hcs : cs X Y i j := ⟨hi, hj, v2, w2'⟩
          generalize hM19 : pI M r 2 0 = M19
          have f19 : Fr r (r + 3) M M19 := by rw [← hM19]; exact Fr.rf.pI (by omega) (by omega)
          have l19 : M19.2 = M.2 := by rw [← hM19]; rfl
          have e0 : rgC M19 r [] := ⟨by rw [← hM19, pI_s]; rfl, fun t u hu => by simp at hu⟩
          have hX19 := hX.fr f19 (by omega)
          have hY19 := hY.fr f19 (by omega)
          obtain ⟨M20, x1, x2, x3, x4⟩ := addFrom_ok (M := M19) (f := i + 1) (k := X.length) hA hp (by omega) e0 hX19 (by decide) (by decide) X16 (by simp only [List.length_nil]; omega) (by omega)
          obtain ⟨M21, y1, y2, y3, y4⟩ := addFrom_ok (M := M20) (f := j + 2) (k := Y.length - 2) hA hq (by omega) x2 (hY19.fr x3 (by omega)) (by decide) (by decide) Y16 (by rw [List.nil_append, cyc_len]; omega) (by omega)
          have ex19 : M19.1 p 2 = nI X.length := hX19.1
          have ey20 : M20.1 q 2 = nI Y.length := (hY19.fr x3 (by omega)).1
          have s2 : nI Y.length - 2 = nI (Y.length - 2) := pk_sub (a := Y.length) (b := 2) (by omega)
          have a2 : nI j + 2 = nI (j + 2) := nI_add j 2
          refine ⟨.inr (1, M21), ?_, Or.inl ⟨j, M21, hcs, rfl, ?_, (f19.tr x3).tr y3, (y4.trans x4).trans l19⟩⟩
          · (repeat (first | rw [ck_t (by first | with_reducible assumption | ((with_reducible apply ixA_of); (with_reducible assumption); omega; omega) | ((with_reducible apply isAr_of); (with_reducible assumption); decide) | ((with_reducible apply nI_ne0); omega; omega) | with_reducible exact isB_0 | with_reducible exact isB_1 | with_reducible exact isB_bI _)] | rw [bd_r (by with_reducible assumption)] | rw [bd_s] | rw [bd2_s] | rw [bd3_s] | rw [nm_s] | rw [nI_clamp (by omega)] | rw [nI_1] | rw [if_neg (ne10)] | rw [hM19] | rw [ex19] | rw [bd_e (x1)] | rw [a2] | rw [ey20] | rw [s2] | rw [bd_e (y1)] | rw [if_pos (by first | with_reducible assumption | ((with_reducible refine nI_lt ?_ ?_); omega; omega) | ((with_reducible refine nI_nlt ?_ ?_); omega; omega) | with_reducible exact ne10 | with_reducible rfl)] | rw [if_neg (by first | with_reducible assumption | ((with_reducible refine nI_lt ?_ ?_); omega; omega) | ((with_reducible refine nI_nlt ?_ ?_); omega; omega) | with_reducible exact ne10 | with_reducible rfl)]))
            rfl
          · rw [jW_cyc (by omega) (by omega)]
            rw [List.nil_append] at y2
            exact y2
        · left
          refine ⟨nI (j + 1), ?_, rfl, nx (fun q => w2' q.2.2.2)⟩
          (repeat (first | rw [ck_t (by first | with_reducible assumption | ((with_reducible apply ixA_of); (with_reducible assumption); omega; omega) | ((with_reducible apply isAr_of); (with_reducible assumption); decide) | ((with_reducible apply nI_ne0); omega; omega) | with_reducible exact isB_0 | with_reducible exact isB_1 | with_reducible exact isB_bI _)] | rw [bd_r (by with_reducible assumption)] | rw [bd_s] | rw [bd2_s] | rw [bd3_s] | rw [nm_s] | rw [nI_clamp (by omega)] | rw [nI_1] | rw [go] | rw [if_pos (by first | with_reducible assumption | ((with_reducible refine nI_lt ?_ ?_); omega; omega) | ((with_reducible refine nI_nlt ?_ ?_); omega; omega) | with_reducible exact ne10 | with_reducible rfl)] | rw [if_neg (by first | with_reducible assumption | ((with_reducible refine nI_lt ?_ ?_); omega; omega) | ((with_reducible refine nI_nlt ?_ ?_); omega; omega) | with_reducible exact ne10 | with_reducible rfl)]))
      · left
        refine ⟨nI (j + 1), ?_, rfl, nx (fun q => v2 q.2.2.1)⟩
        (repeat (first | rw [ck_t (by first | with_reducible assumption | ((with_reducible apply ixA_of); (with_reducible assumption); omega; omega) | ((with_reducible apply isAr_of); (with_reducible assumption); decide) | ((with_reducible apply nI_ne0); omega; omega) | with_reducible exact isB_0 | with_reducible exact isB_1 | with_reducible exact isB_bI _)] | rw [bd_r (by with_reducible assumption)] | rw [bd_s] | rw [bd2_s] | rw [bd3_s] | rw [nm_s] | rw [nI_clamp (by omega)] | rw [nI_1] | rw [go] | rw [if_pos (by first | with_reducible assumption | ((with_reducible refine nI_lt ?_ ?_); omega; omega) | ((with_reducible refine nI_nlt ?_ ?_); omega; omega) | with_reducible exact ne10 | with_reducible rfl)] | rw [if_neg (by first | with_reducible assumption | ((with_reducible refine nI_lt ?_ ?_); omega; omega) | ((with_reducible refine nI_nlt ?_ ?_); omega; omega) | with_reducible exact ne10 | with_reducible rfl)]))
    · rintro s ⟨rfl, f⟩
      refine ⟨.inl (nI (i + 1)), ?_, Or.inr ⟨fun j hj => f j hj.2.1 hj, rfl⟩⟩
      show mX5_takeJoined_B13 K R M r p q (nI i) (nI Y.length) = _
      unfold mX5_takeJoined_B13
      (repeat (first | rw [ck_t (by first | with_reducible assumption | ((with_reducible apply ixA_of); (with_reducible assumption); omega; omega) | ((with_reducible apply isAr_of); (with_reducible assumption); decide) | ((with_reducible apply nI_ne0); omega; omega) | with_reducible exact isB_0 | with_reducible exact isB_1 | with_reducible exact isB_bI _)] | rw [bd_r (by with_reducible assumption)] | rw [bd_s] | rw [bd2_s] | rw [bd3_s] | rw [nm_s] | rw [nI_clamp (by omega)] | rw [nI_1] | rw [eY] | rw [if_pos (by first | with_reducible assumption | ((with_reducible refine nI_lt ?_ ?_); omega; omega) | ((with_reducible refine nI_nlt ?_ ?_); omega; omega) | with_reducible exact ne10 | with_reducible rfl)] | rw [if_neg (by first | with_reducible assumption | ((with_reducible refine nI_lt ?_ ?_); omega; omega) | ((with_reducible refine nI_nlt ?_ ?_); omega; omega) | with_reducible exact ne10 | with_reducible rfl)]))
      rfl
  have hL := lp_ind (f := mX5_takeJoined_L2 K R M r p q) (fun (i : Nat) (s : Int32) => s = nI i ∧ ∀ t j, t < i → ¬ cs X Y t j) (fun x => (∃ i j M', cs X Y i j ∧ x = (1, M') ∧ rgC M' r (jW X Y i j) ∧ Fr r (r + 3) M M' ∧ M'.2 = M.2) ∨ ((∀ i j, ¬ cs X Y i j) ∧ x = (0, M))) X.length ?_ ?_
  · obtain ⟨x, e1, e2⟩ := hL X.length 0 0 (by omega) ⟨rfl, fun t j ht => absurd ht (by omega)⟩
    have e3 : mX5_takeJoined K R M r p q = some x := by
      unfold mX5_takeJoined
      (repeat (first | rw [ck_t (by first | with_reducible assumption | ((with_reducible apply ixA_of); (with_reducible assumption); omega; omega) | ((with_reducible apply isAr_of); (with_reducible assumption); decide) | ((with_reducible apply nI_ne0); omega; omega) | with_reducible exact isB_0 | with_reducible exact isB_1 | with_reducible exact isB_bI _)] | rw [bd_r (by with_reducible assumption)] | rw [bd_s] | rw [bd2_s] | rw [bd3_s] | rw [nm_s] | rw [nI_clamp (by omega)] | rw [nI_1] | rw [if_pos (by first | with_reducible assumption | ((with_reducible refine nI_lt ?_ ?_); omega; omega) | ((with_reducible refine nI_nlt ?_ ?_); omega; omega) | with_reducible exact ne10 | with_reducible rfl)] | rw [if_neg (by first | with_reducible assumption | ((with_reducible refine nI_lt ?_ ?_); omega; omega) | ((with_reducible refine nI_nlt ?_ ?_); omega; omega) | with_reducible exact ne10 | with_reducible rfl)]))
      exact e1
    rcases e2 with ⟨i, j, M', c1, rfl, c2⟩ | ⟨c1, rfl⟩
    · exact Or.inl ⟨i, j, M', c1, e3, c2⟩
    · exact Or.inr ⟨c1, e3⟩
  · rintro i s hi ⟨rfl, f⟩
    show (∃ s', mX5_takeJoined_B2 K R M r p q (nI i) = some (.inl s') ∧ _) ∨ ∃ x, mX5_takeJoined_B2 K R M r p q (nI i) = some (.inr x) ∧ _
    unfold mX5_takeJoined_B2
    (repeat (first | rw [ck_t (by first | with_reducible assumption | ((with_reducible apply ixA_of); (with_reducible assumption); omega; omega) | ((with_reducible apply isAr_of); (with_reducible assumption); decide) | ((with_reducible apply nI_ne0); omega; omega) | with_reducible exact isB_0 | with_reducible exact isB_1 | with_reducible exact isB_bI _)] | rw [bd_r (by with_reducible assumption)] | rw [bd_s] | rw [bd2_s] | rw [bd3_s] | rw [nm_s] | rw [nI_clamp (by omega)] | rw [nI_1] | rw [eX] | rw [if_pos (by first | with_reducible assumption | ((with_reducible refine nI_lt ?_ ?_); omega; omega) | ((with_reducible refine nI_nlt ?_ ?_); omega; omega) | with_reducible exact ne10 | with_reducible rfl)] | rw [if_neg (by first | with_reducible assumption | ((with_reducible refine nI_lt ?_ ?_); omega; omega) | ((with_reducible refine nI_nlt ?_ ?_); omega; omega) | with_reducible exact ne10 | with_reducible rfl)]))
    rcases inner i hi with ⟨j, M', c1, c2, c3⟩ | ⟨c1, c2⟩
    · right
      refine ⟨(1, M'), c2, Or.inl ⟨i, j, M', c1, rfl, c3⟩⟩
    · left
      refine ⟨nI (i + 1), c2, rfl, fun t j ht => ?_⟩
      by_cases z : t = i
      · subst z; exact c1 j
      · exact f t j (by omega)
  · rintro s ⟨rfl, f⟩
    refine ⟨(0, M), ?_, Or.inr ⟨fun i j h => f i j h.1 h, rfl⟩⟩
    show mX5_takeJoined_B2 K R M r p q (nI X.length) = _
    unfold mX5_takeJoined_B2
    (repeat (first | rw [ck_t (by first | with_reducible assumption | ((with_reducible apply ixA_of); (with_reducible assumption); omega; omega) | ((with_reducible apply isAr_of); (with_reducible assumption); decide) | ((with_reducible apply nI_ne0); omega; omega) | with_reducible exact isB_0 | with_reducible exact isB_1 | with_reducible exact isB_bI _)] | rw [bd_r (by with_reducible assumption)] | rw [bd_s] | rw [bd2_s] | rw [bd3_s] | rw [nm_s] | rw [nI_clamp (by omega)] | rw [nI_1] | rw [eX] | rw [if_pos (by first | with_reducible assumption | ((with_reducible refine nI_lt ?_ ?_); omega; omega) | ((with_reducible refine nI_nlt ?_ ?_); omega; omega) | with_reducible exact ne10 | with_reducible rfl)] | rw [if_neg (by first | with_reducible assumption | ((with_reducible refine nI_lt ?_ ?_); omega; omega) | ((with_reducible refine nI_nlt ?_ ?_); omega; omega) | with_reducible exact ne10 | with_reducible rfl)]))
    rfl
theorem ubL_le (W : List Pt) : ∀ i, (ubL W i).length ≤ i
  | 0 => Nat.le_refl _
  | i + 1 => by
    have := ubL_le W i
    have one : ∀ c x, (ap1 c x).length ≤ 1 := fun c x => by
      by_cases h : c
      · rw [ap1_t h]; exact Nat.le_refl _
      · rw [ap1_f h]; exact Nat.zero_le _
    have h1 := one (0 < bd1 W i) (gp W i)
    show (ubL W i ++ _).length ≤ _
    rw [List.length_append]; omega
theorem takeUnbent_ok {r q : Nat} {W : List Pt} (hA : rgA K R r 66) (hq : rgA K R q 66) (d1 : r + 3 ≤ q ∨ q + 3 ≤ r) (h : rgC M q W) (hl : W.length ≤ 60) (hB : inBs W) : ∃ v M', mX5_takeUnbent K R M r q = some (v, M') ∧ Fr r (r + 3) M M' ∧ M'.2 = M.2 ∧ iv v (outW W) ∧ (v = 1 → rgC M' r (ubL W W.length)) := by
  have a0 := hA.1
  have hq0 := hq
  obtain ⟨b0, b1, b2, b3, b4⟩ := hq
  have z0 : (0 : Int64).toInt = 0 := rfl
  have hL := lp_ind (f := mX5_takeUnbent_L7 K R r q) (fun (i : Nat) (s : Int32 × Mm) => s.1 = nI i ∧ rgC s.2 r (ubL W i) ∧ Fr r (r + 3) M s.2 ∧ s.2.2 = M.2 ∧ ∀ t, t < i → 0 ≤ bd1 W t) (fun x => Fr r (r + 3) M x.2 ∧ x.2.2 = M.2 ∧ iv x.1 (outW W) ∧ (x.1 = 1 → rgC x.2 r (ubL W W.length))) W.length ?_ ?_
  · obtain ⟨⟨v, M'⟩, e1, e2⟩ := hL W.length 0 (nI 0, pI M r 2 0) (by omega) ⟨rfl, ⟨pI_s, fun t u hu => by simp [ubL] at hu⟩, Fr.rf.pI (by omega) (by omega), rfl, fun t ht => absurd ht (by omega)⟩
    refine ⟨v, M', ?_, e2⟩
    unfold mX5_takeUnbent
    (repeat (first | rw [ck_t (by first | with_reducible assumption | ((with_reducible apply ixA_of); (with_reducible assumption); omega; omega) | ((with_reducible apply isAr_of); (with_reducible assumption); decide) | ((with_reducible apply nI_ne0); omega; omega) | with_reducible exact isB_0 | with_reducible exact isB_1 | with_reducible exact isB_bI _)] | rw [bd_r (by with_reducible assumption)] | rw [bd_s] | rw [bd2_s] | rw [bd3_s] | rw [nm_s] | rw [nI_clamp (by omega)] | rw [nI_1] | rw [if_pos (by first | with_reducible assumption | ((with_reducible refine nI_lt ?_ ?_); omega; omega) | ((with_reducible refine nI_nlt ?_ ?_); omega; omega) | with_reducible exact ne10 | with_reducible rfl)] | rw [if_neg (by first | with_reducible assumption | ((with_reducible refine nI_lt ?_ ?_); omega; omega) | ((with_reducible refine nI_nlt ?_ ?_); omega; omega) | with_reducible exact ne10 | with_reducible rfl)]))
    exact e1
  · rintro i ⟨z, N⟩ hi ⟨rfl, f1, f2, f3, f4⟩
    have f1 : rgC N r (ubL W i) := f1
    have f2 : Fr r (r + 3) M N := f2
    have f3 : N.2 = M.2 := f3
    have hN := h.fr f2 (by omega)
    have e := hN.1
    have s1 : nI (i + W.length) - 1 = nI (i + W.length - 1) := pk_sub (a := i + W.length) (b := 1) (by omega)
    have w1 := wrap_ok (i := i + W.length - 1) hq0 hN (by omega) (by omega)
    have w2 := wrap_ok (i := i + 1) hq0 hN (by omega) (by omega)
    have hb : (i + W.length - 1) % W.length < W.length := Nat.mod_lt _ (by omega)
    have ha := mod_lt' hi
    obtain ⟨u1, u2⟩ := hN.2 _ _ (gp_get ha)
    obtain ⟨y1, y2⟩ := hN.2 _ _ (gp_get hi)
    have pa : gp W ((i + 1) % W.length) = ((N.1 (q + 1) ((i + 1) % W.length)).toInt, (N.1 (q + 2) ((i + 1) % W.length)).toInt) := Prod.ext u1.symm u2.symm
    have Ba := hB _ _ (gp_get ha)
    obtain ⟨v, v1, v2⟩ := sideAt_ok (R := R) hq0 hN (by omega) (by decide) hB (gp_get hb) (gp_get hi) (pa ▸ Ba)
    rw [← pa] at v2
    have v2 : v.toInt = bd1 W i := v2
    have le := ubL_le W i
    have x3a : ixA K (q + 1) 0 (nI ((i + 1) % W.length)) := ixA_of b3 (by omega) (by omega)
    have x4a : ixA K (q + 2) 0 (nI ((i + 1) % W.length)) := ixA_of b4 (by omega) (by omega)
    have go : ∀ N, mX5_takeUnbent_J91 K R N r q (nI i) = some (.inl (nI (i + 1), N)) := fun N => by unfold mX5_takeUnbent_J91; (repeat (first | rw [ck_t (by first | with_reducible assumption | ((with_reducible apply ixA_of); (with_reducible assumption); omega; omega) | ((with_reducible apply isAr_of); (with_reducible assumption); decide) | ((with_reducible apply nI_ne0); omega; omega) | with_reducible exact isB_0 | with_reducible exact isB_1 | with_reducible exact isB_bI _)] | rw [bd_r (by with_reducible assumption)] | rw [bd_s] | rw [bd2_s] | rw [bd3_s] | rw [nm_s] | rw [nI_clamp (by omega)] | rw [nI_1] | rw [if_pos (by first | with_reducible assumption | ((with_reducible refine nI_lt ?_ ?_); omega; omega) | ((with_reducible refine nI_nlt ?_ ?_); omega; omega) | with_reducible exact ne10 | with_reducible rfl)] | rw [if_neg (by first | with_reducible assumption | ((with_reducible refine nI_lt ?_ ?_); omega; omega) | ((with_reducible refine nI_nlt ?_ ?_); omega; omega) | with_reducible exact ne10 | with_reducible rfl)]))
    show (∃ s', mX5_takeUnbent_B7 K R r q (nI i) N = some (.inl s') ∧ _) ∨ ∃ x, mX5_takeUnbent_B7 K R r q (nI i) N = some (.inr x) ∧ _
    unfold mX5_takeUnbent_B7
    (repeat (first | rw [ck_t (by first | with_reducible assumption | ((with_reducible apply ixA_of); (with_reducible assumption); omega; omega) | ((with_reducible apply isAr_of); (with_reducible assumption); decide) | ((with_reducible apply nI_ne0); omega; omega) | with_reducible exact isB_0 | with_reducible exact isB_1 | with_reducible exact isB_bI _)] | rw [bd_r (by with_reducible assumption)] | rw [bd_s] | rw [bd2_s] | rw [bd3_s] | rw [nm_s] | rw [nI_clamp (by omega)] | rw [nI_1] | rw [e] | rw [nI_add] | rw [s1] | rw [bd_e (w1)] | rw [bd_e (w2)] | rw [bd_e (v1)] | rw [if_pos (by first | with_reducible assumption | ((with_reducible refine nI_lt ?_ ?_); omega; omega) | ((with_reducible refine nI_nlt ?_ ?_); omega; omega) | with_reducible exact ne10 | with_reducible rfl)] | rw [if_neg (by first | with_reducible assumption | ((with_reducible refine nI_lt ?_ ?_); omega; omega) | ((with_reducible refine nI_nlt ?_ ?_); omega; omega) | with_reducible exact ne10 | with_reducible rfl)]))
    by_cases c1 : v < 0
    · right
      refine ⟨(0, N), ?_, f2, f3, Or.inr ⟨rfl, fun q => ?_⟩, fun q => absurd (show (0 : Int32) = 1 from q) (by decide)⟩
      · (repeat (first | rw [ck_t (by first | with_reducible assumption | ((with_reducible apply ixA_of); (with_reducible assumption); omega; omega) | ((with_reducible apply isAr_of); (with_reducible assumption); decide) | ((with_reducible apply nI_ne0); omega; omega) | with_reducible exact isB_0 | with_reducible exact isB_1 | with_reducible exact isB_bI _)] | rw [bd_r (by with_reducible assumption)] | rw [bd_s] | rw [bd2_s] | rw [bd3_s] | rw [nm_s] | rw [nI_clamp (by omega)] | rw [nI_1] | rw [if_pos (by first | with_reducible assumption | ((with_reducible refine nI_lt ?_ ?_); omega; omega) | ((with_reducible refine nI_nlt ?_ ?_); omega; omega) | with_reducible exact ne10 | with_reducible rfl)] | rw [if_neg (by first | with_reducible assumption | ((with_reducible refine nI_lt ?_ ?_); omega; omega) | ((with_reducible refine nI_nlt ?_ ?_); omega; omega) | with_reducible exact ne10 | with_reducible rfl)]))
        rfl
      · have := q i hi
        rw [lt64, z0, v2] at c1; omega
    · have n0 : 0 ≤ bd1 W i := by rw [lt64, z0, v2] at c1; omega
      have nx : ∀ t, t < i + 1 → 0 ≤ bd1 W t := fun t ht => by
        by_cases z : t = i
        · subst z; exact n0
        · exact f4 t (by omega)
      left
      by_cases c2 : v ≤ 0
      · refine ⟨(nI (i + 1), N), ?_, rfl, ?_, f2, f3, nx⟩
        · (repeat (first | rw [ck_t (by first | with_reducible assumption | ((with_reducible apply ixA_of); (with_reducible assumption); omega; omega) | ((with_reducible apply isAr_of); (with_reducible assumption); decide) | ((with_reducible apply nI_ne0); omega; omega) | with_reducible exact isB_0 | with_reducible exact isB_1 | with_reducible exact isB_bI _)] | rw [bd_r (by with_reducible assumption)] | rw [bd_s] | rw [bd2_s] | rw [bd3_s] | rw [nm_s] | rw [nI_clamp (by omega)] | rw [nI_1] | rw [go N] | rw [if_pos (by first | with_reducible assumption | ((with_reducible refine nI_lt ?_ ?_); omega; omega) | ((with_reducible refine nI_nlt ?_ ?_); omega; omega) | with_reducible exact ne10 | with_reducible rfl)] | rw [if_neg (by first | with_reducible assumption | ((with_reducible refine nI_lt ?_ ?_); omega; omega) | ((with_reducible refine nI_nlt ?_ ?_); omega; omega) | with_reducible exact ne10 | with_reducible rfl)]))
        · show rgC N r (ubL W i ++ _)
          rw [ap1_f (by rw [le64, z0, v2] at c2; omega), List.append_nil]; exact f1
      · obtain ⟨N2, d1', d2', d3', d4'⟩ := add_ok (x := N.1 (q + 1) i) (y := N.1 (q + 2) i) hA f1 (by omega) (by decide)
        refine ⟨(nI (i + 1), N2), ?_, rfl, ?_, f2.tr d3', d4'.trans f3, nx⟩
        · (repeat (first | rw [ck_t (by first | with_reducible assumption | ((with_reducible apply ixA_of); (with_reducible assumption); omega; omega) | ((with_reducible apply isAr_of); (with_reducible assumption); decide) | ((with_reducible apply nI_ne0); omega; omega) | with_reducible exact isB_0 | with_reducible exact isB_1 | with_reducible exact isB_bI _)] | rw [bd_r (by with_reducible assumption)] | rw [bd_s] | rw [bd2_s] | rw [bd3_s] | rw [nm_s] | rw [nI_clamp (by omega)] | rw [nI_1] | rw [bd_e (d1')] | rw [go N2] | rw [if_pos (by first | with_reducible assumption | ((with_reducible refine nI_lt ?_ ?_); omega; omega) | ((with_reducible refine nI_nlt ?_ ?_); omega; omega) | with_reducible exact ne10 | with_reducible rfl)] | rw [if_neg (by first | with_reducible assumption | ((with_reducible refine nI_lt ?_ ?_); omega; omega) | ((with_reducible refine nI_nlt ?_ ?_); omega; omega) | with_reducible exact ne10 | with_reducible rfl)]))
        · show rgC N2 r (ubL W i ++ _)
          rw [ap1_t (by rw [le64, z0, v2] at c2; omega)]
          rw [y1, y2] at d2'
          exact d2'
  · rintro ⟨z, N⟩ ⟨rfl, f1, f2, f3, f4⟩
    have f2 : Fr r (r + 3) M N := f2
    have e := (h.fr f2 (by omega)).1
    refine ⟨(1, N), ?_, f2, f3, Or.inl ⟨rfl, f4⟩, fun _ => f1⟩
    show mX5_takeUnbent_B7 K R r q (nI W.length) N = _
    unfold mX5_takeUnbent_B7
    (repeat (first | rw [ck_t (by first | with_reducible assumption | ((with_reducible apply ixA_of); (with_reducible assumption); omega; omega) | ((with_reducible apply isAr_of); (with_reducible assumption); decide) | ((with_reducible apply nI_ne0); omega; omega) | with_reducible exact isB_0 | with_reducible exact isB_1 | with_reducible exact isB_bI _)] | rw [bd_r (by with_reducible assumption)] | rw [bd_s] | rw [bd2_s] | rw [bd3_s] | rw [nm_s] | rw [nI_clamp (by omega)] | rw [nI_1] | rw [e] | rw [if_pos (by first | with_reducible assumption | ((with_reducible refine nI_lt ?_ ?_); omega; omega) | ((with_reducible refine nI_nlt ?_ ?_); omega; omega) | with_reducible exact ne10 | with_reducible rfl)] | rw [if_neg (by first | with_reducible assumption | ((with_reducible refine nI_lt ?_ ?_); omega; omega) | ((with_reducible refine nI_nlt ?_ ?_); omega; omega) | with_reducible exact ne10 | with_reducible rfl)]))
    rfl
theorem remove_ok {c t : Nat} {ps : List Pc} (hA : psA K R c) (h : psC M c ps) (hf : fitP ps) (ht : t < ps.length) : ∃ M', mX4_remove K R M c (nI t) = some M' ∧ psC M' c (ps.eraseIdx t) ∧ Fr c (c + 162) M M' ∧ M'.2 = M.2 := by
  have h40 := hf.1
  obtain ⟨a0, a1, a2, a3⟩ := hA
  have hL := lp_ind (f := mX4_remove_L2 K R c) (fun (i : Nat) (s : Int32 × Mm) => s.1 = nI (t + i) ∧ s.2.1 c 1 = nI ps.length ∧ (∀ j P, (if j < t then ps[j]? else if j < t + i then ps[j + 1]? else ps[j]?) = some P → pcC s.2 (c + 2 + 4 * j) P) ∧ Fr c (c + 162) M s.2 ∧ s.2.2 = M.2) (fun M' => psC M' c (ps.eraseIdx t) ∧ Fr c (c + 162) M M' ∧ M'.2 = M.2) (ps.length - 1 - t) ?_ ?_
  · obtain ⟨M', e1, e2⟩ := hL (ps.length - 1 - t) 0 (nI t, M) (by omega) ⟨rfl, h.1, fun j P hP => h.2 j P (by
      by_cases z : j < t
      · rw [if_pos z] at hP; exact hP
      · rw [if_neg z, if_neg (by omega)] at hP; exact hP), Fr.rf, rfl⟩
    refine ⟨M', ?_, e2⟩
    unfold mX4_remove
    (repeat (first | rw [ck_t (by first | with_reducible assumption | ((with_reducible apply ixA_of); (with_reducible assumption); omega; omega) | ((with_reducible apply isAr_of); (with_reducible assumption); decide) | ((with_reducible apply nI_ne0); omega; omega) | with_reducible exact isB_0 | with_reducible exact isB_1 | with_reducible exact isB_bI _)] | rw [bd_r (by with_reducible assumption)] | rw [bd_s] | rw [bd2_s] | rw [bd3_s] | rw [nm_s] | rw [nI_clamp (by omega)] | rw [nI_1] | rw [if_pos (by first | with_reducible assumption | ((with_reducible refine nI_lt ?_ ?_); omega; omega) | ((with_reducible refine nI_nlt ?_ ?_); omega; omega) | with_reducible exact ne10 | with_reducible rfl)] | rw [if_neg (by first | with_reducible assumption | ((with_reducible refine nI_lt ?_ ?_); omega; omega) | ((with_reducible refine nI_nlt ?_ ?_); omega; omega) | with_reducible exact ne10 | with_reducible rfl)]))
    exact e1
  · rintro i ⟨z, N⟩ hi ⟨rfl, f1, f2, f3, f4⟩
    have f1 : N.1 c 1 = nI ps.length := f1
    have f2 : ∀ j P, (if j < t then ps[j]? else if j < t + i then ps[j + 1]? else ps[j]?) = some P → pcC N (c + 2 + 4 * j) P := f2
    have f3 : Fr c (c + 162) M N := f3
    have f4 : N.2 = M.2 := f4
    obtain ⟨P, hP⟩ := get_ex (l := ps) (i := t + i + 1) (by omega)
    obtain ⟨k1, k2⟩ := a3 (t + i) (by omega)
    obtain ⟨k3, k4⟩ := a3 (t + i + 1) (by omega)
    have k20 := k2.1
    have pN := f2 (t + i + 1) P (by rw [if_neg (by omega), if_neg (by omega)]; exact hP)
    obtain ⟨N2, d1, d2, d3, d4⟩ := ptake_ok (M := N) k2 k4 (by omega) (hf.2 _ _ hP) pN
    have s1 : nI ps.length - 1 = nI (ps.length - 1) := pk_sub (a := ps.length) (b := 1) (by omega)
    have x1 : ixA K (c + 1) 5 (nI (t + i + 1)) := ixA_of a2 (by omega) (by omega)
    refine Or.inl ⟨(nI (t + (i + 1)), N2), ?_, rfl, ?_, fun j Q hQ => ?_, f3.tr (d3.mono (by omega) (by omega)), d4.trans f4⟩
    · show mX4_remove_B2 K R c (nI (t + i)) N = _
      unfold mX4_remove_B2
      (repeat (first | rw [ck_t (by first | with_reducible assumption | ((with_reducible apply ixA_of); (with_reducible assumption); omega; omega) | ((with_reducible apply isAr_of); (with_reducible assumption); decide) | ((with_reducible apply nI_ne0); omega; omega) | with_reducible exact isB_0 | with_reducible exact isB_1 | with_reducible exact isB_bI _)] | rw [bd_r (by with_reducible assumption)] | rw [bd_s] | rw [bd2_s] | rw [bd3_s] | rw [nm_s] | rw [nI_clamp (by omega)] | rw [nI_1] | rw [f1] | rw [s1] | rw [bd_e (d1)] | rw [if_pos (by first | with_reducible assumption | ((with_reducible refine nI_lt ?_ ?_); omega; omega) | ((with_reducible refine nI_nlt ?_ ?_); omega; omega) | with_reducible exact ne10 | with_reducible rfl)] | rw [if_neg (by first | with_reducible assumption | ((with_reducible refine nI_lt ?_ ?_); omega; omega) | ((with_reducible refine nI_nlt ?_ ?_); omega; omega) | with_reducible exact ne10 | with_reducible rfl)]))
      rfl
    · show N2.1 c 1 = _
      rw [(d3 c (by omega)).1]; exact f1
    · show pcC N2 (c + 2 + 4 * j) Q
      by_cases z : j = t + i
      · subst z
        rw [if_neg (by omega), if_pos (by omega)] at hQ
        rw [get_un hQ hP]; exact d2
      · refine (f2 j Q ?_).fr d3 (by omega)
        by_cases z1 : j < t
        · rw [if_pos z1] at hQ ⊢; exact hQ
        · rw [if_neg z1] at hQ ⊢
          by_cases z2 : j < t + i
          · rw [if_pos z2]; rw [if_pos (by omega)] at hQ; exact hQ
          · rw [if_neg z2]; rw [if_neg (by omega)] at hQ; exact hQ
  · rintro ⟨z, N⟩ ⟨rfl, f1, f2, f3, f4⟩
    have f1 : N.1 c 1 = nI ps.length := f1
    have f2 : ∀ j P, (if j < t then ps[j]? else if j < t + (ps.length - 1 - t) then ps[j + 1]? else ps[j]?) = some P → pcC N (c + 2 + 4 * j) P := f2
    have f3 : Fr c (c + 162) M N := f3
    have s1 : nI ps.length - 1 = nI (ps.length - 1) := pk_sub (a := ps.length) (b := 1) (by omega)
    have f5 : Fr c (c + 1) N (pI N c 1 (nI (ps.length - 1))) := Fr.rf.pI (by omega) (by omega)
    refine ⟨pI N c 1 (nI (ps.length - 1)), ?_, ⟨by rw [pI_s, List.length_eraseIdx, if_pos ht], fun j P hP => ?_⟩, f3.pI (by omega) (by omega), f4⟩
    · show mX4_remove_B2 K R c (nI (t + (ps.length - 1 - t))) N = _
      rw [show t + (ps.length - 1 - t) = ps.length - 1 by omega]
      unfold mX4_remove_B2
      (repeat (first | rw [ck_t (by first | with_reducible assumption | ((with_reducible apply ixA_of); (with_reducible assumption); omega; omega) | ((with_reducible apply isAr_of); (with_reducible assumption); decide) | ((with_reducible apply nI_ne0); omega; omega) | with_reducible exact isB_0 | with_reducible exact isB_1 | with_reducible exact isB_bI _)] | rw [bd_r (by with_reducible assumption)] | rw [bd_s] | rw [bd2_s] | rw [bd3_s] | rw [nm_s] | rw [nI_clamp (by omega)] | rw [nI_1] | rw [f1] | rw [s1] | rw [if_pos (by first | with_reducible assumption | ((with_reducible refine nI_lt ?_ ?_); omega; omega) | ((with_reducible refine nI_nlt ?_ ?_); omega; omega) | with_reducible exact ne10 | with_reducible rfl)] | rw [if_neg (by first | with_reducible assumption | ((with_reducible refine nI_lt ?_ ?_); omega; omega) | ((with_reducible refine nI_nlt ?_ ?_); omega; omega) | with_reducible exact ne10 | with_reducible rfl)]))
      rfl
    · refine (f2 j P ?_).fr f5 (by omega)
      rw [List.getElem?_eraseIdx] at hP
      by_cases z : j < t
      · rw [if_pos z] at hP ⊢; exact hP
      · rw [if_neg z] at hP ⊢
        have := get_lt hP
        rw [if_pos (by omega)]; exact hP
end JC
