/-! DIRECTIONS, STEPS, the class's sums -/
def gD (d : Pt) : Nat := Nat.gcd d.1.natAbs d.2.natAbs
def upD (d : Pt) : Prop := 0 < d.1 ∨ (d.1 = 0 ∧ 0 < d.2)
noncomputable def dirD (d : Pt) : Pt := @ite _ (upD d) (Classical.propDecidable _) (d.1 / gD d, d.2 / gD d) (-(d.1 / gD d), -(d.2 / gD d))
noncomputable def amt (d : Pt) : Int := @ite _ (upD d) (Classical.propDecidable _) (gD d : Int) (-(gD d : Int))
theorem dirD_t {d : Pt} (h : upD d) : dirD d = (d.1 / gD d, d.2 / gD d) ∧ amt d = gD d := by unfold dirD amt; rw [if_pos h, if_pos h]; exact ⟨rfl, rfl⟩
theorem dirD_f {d : Pt} (h : ¬ upD d) : dirD d = (-(d.1 / gD d), -(d.2 / gD d)) ∧ amt d = -(gD d : Int) := by unfold dirD amt; rw [if_neg h, if_neg h]; exact ⟨rfl, rfl⟩
theorem gD_dvd (d : Pt) : (gD d : Int) ∣ d.1 ∧ (gD d : Int) ∣ d.2 := by
  unfold gD
  exact ⟨Int.ofNat_dvd_left.mpr (Nat.gcd_dvd_left _ _), Int.ofNat_dvd_left.mpr (Nat.gcd_dvd_right _ _)⟩
theorem gD_pos {d : Pt} (h : d ≠ (0, 0)) : 0 < gD d := by
  rcases Nat.eq_zero_or_pos (gD d) with z | z
  · exfalso
    unfold gD at z
    have a := Nat.eq_zero_of_gcd_eq_zero_left z
    have b := Nat.eq_zero_of_gcd_eq_zero_right z
    exact h (Prod.ext (by simp only; omega) (by simp only; omega))
  · exact z
def smD (d : Pt) : Prop := -200000 ≤ d.1 ∧ d.1 ≤ 200000 ∧ -200000 ≤ d.2 ∧ d.2 ≤ 200000
theorem gD_le {d : Pt} (h : d ≠ (0, 0)) (hs : smD d) : gD d ≤ 200000 := by
  obtain ⟨h1, h2, h3, h4⟩ := hs
  unfold gD
  by_cases z : d.1 = 0
  · rw [z]
    show Nat.gcd 0 _ ≤ _
    rw [Nat.gcd_zero_left]; omega
  · exact Nat.le_trans (Nat.gcd_le_left _ (by omega)) (by omega)
def upL : List En → List Pt → List En → Prop
  | A, [], A' => A' = A
  | A, d :: ds, A' => ∃ A1, upE A (dirD d) (amt d) A1 ∧ upL A1 ds A'
theorem upL_snoc : ∀ {ds : List Pt} {A A1 A2 : List En} {d : Pt}, upL A ds A1 → upE A1 (dirD d) (amt d) A2 → upL A (ds ++ [d]) A2
  | [], A, A1, A2, d, h, g => by
    have h : A1 = A := h
    subst h
    exact ⟨A2, g, rfl⟩
  | x :: xs, A, A1, A2, d, h, g => by
    obtain ⟨B, h1, h2⟩ := h
    exact ⟨B, h1, upL_snoc h2 g⟩
theorem upE_len {A A' : List En} {d : Pt} {g : Int} (h : upE A d g A') : A'.length ≤ A.length + 1 := by
  rcases h with ⟨l, r, t, rfl, rfl⟩ | ⟨-, l, r, rfl, rfl⟩
  · simp
  · simp; omega
def bdE (B : Int) (A : List En) : Prop := ∀ e, e ∈ A → -B ≤ e.2 ∧ e.2 ≤ B
theorem bdE_up {A A' : List En} {d : Pt} {g B : Int} (h : upE A d g A') (hb : bdE B A) (hB : 0 ≤ B) (h1 : -200000 ≤ g) (h2 : g ≤ 200000) : bdE (B + 200000) A' := by
  intro e he
  rcases h with ⟨l, r, t, rfl, rfl⟩ | ⟨-, l, r, rfl, rfl⟩
  · have ht := hb (d, t) (by simp)
    rcases List.mem_append.mp he with q | q
    · have := hb e (List.mem_append_left _ q); omega
    · rcases List.mem_cons.mp q with q | q
      · subst q; simp only at ht ⊢; omega
      · have := hb e (List.mem_append_right _ (List.mem_cons_of_mem _ q)); omega
  · rcases List.mem_append.mp he with q | q
    · have := hb e (List.mem_append_left _ q); omega
    · rcases List.mem_cons.mp q with q | q
      · subst q; simp only; omega
      · have := hb e (List.mem_append_right _ q); omega
theorem amt_b {d : Pt} (h : d ≠ (0, 0)) (hs : smD d) : -200000 ≤ amt d ∧ amt d ≤ 200000 := by
  have := gD_le h hs
  by_cases u : upD d
  · rw [(dirD_t u).2]; omega
  · rw [(dirD_f u).2]; omega
/-- the same steps in the same order, put to two lists in other orders -/
def nd (A : List En) : Prop := (A.map Prod.fst).Nodup
theorem upE_nd {A A' : List En} {d : Pt} {g : Int} (h : upE A d g A') (hn : nd A) : nd A' := by
  unfold nd at hn ⊢
  rcases h with ⟨l, r, t, rfl, rfl⟩ | ⟨h0, l, r, rfl, rfl⟩
  · simpa using hn
  · have p : ((l ++ (d, g) :: r).map Prod.fst).Perm (d :: (l ++ r).map Prod.fst) := by
      rw [List.map_append, List.map_cons, List.map_append]; exact List.perm_middle
    rw [p.nodup_iff, List.nodup_cons]
    refine ⟨fun z => ?_, hn⟩
    obtain ⟨e, he, q⟩ := List.mem_map.mp z
    exact h0 e he q
theorem upE_perm {A B A' B' : List En} {d : Pt} {g : Int} (p : A.Perm B) (hn : nd A) (h : upE A d g A') (k : upE B d g B') : A'.Perm B' := by
  rcases h with ⟨l, r, t, rfl, rfl⟩ | ⟨h0, l, r, rfl, rfl⟩
  · rcases k with ⟨l', r', t', rfl, rfl⟩ | ⟨k0, l', r', rfl, rfl⟩
    · have q : ((d, t) :: (l ++ r)).Perm ((d, t') :: (l' ++ r')) := (List.perm_middle.symm.trans p).trans List.perm_middle
      have ht : t' = t := by
        have m1 : (d, t') ∈ (d, t) :: (l ++ r) := q.mem_iff.mpr List.mem_cons_self
        rcases List.mem_cons.mp m1 with z | z
        · cases z; rfl
        · exfalso
          have hn2 : (((d, t) :: (l ++ r)).map Prod.fst).Nodup := by
            have p2 : ((l ++ (d, t) :: r).map Prod.fst).Perm (((d, t) :: (l ++ r)).map Prod.fst) := List.perm_middle.map _
            exact p2.nodup_iff.mp hn
          rw [List.map_cons, List.nodup_cons] at hn2
          exact hn2.1 (List.mem_map.mpr ⟨_, z, rfl⟩)
      subst ht
      exact (List.perm_middle.trans ((q.cons_inv).cons _)).trans List.perm_middle.symm
    · exact absurd rfl (k0 (d, t) (p.mem_iff.mp (by simp)))
  · rcases k with ⟨l', r', t', rfl, rfl⟩ | ⟨k0, l', r', rfl, rfl⟩
    · exact absurd rfl (h0 (d, t') (p.mem_iff.mpr (by simp)))
    · exact (List.perm_middle.trans (p.cons _)).trans List.perm_middle.symm
theorem upL_perm : ∀ {ds : List Pt} {A B A' B' : List En}, A.Perm B → nd A → upL A ds A' → upL B ds B' → A'.Perm B' ∧ nd A'
  | [], A, B, A', B', p, hn, h, k => by
    have h : A' = A := h
    have k : B' = B := k
    subst h k
    exact ⟨p, hn⟩
  | d :: ds, A, B, A', B', p, hn, h, k => by
    obtain ⟨A1, h1, h2⟩ := h
    obtain ⟨B1, k1, k2⟩ := k
    exact upL_perm (upE_perm p hn h1 k1) (upE_nd h1 hn) h2 k2
/-! the sides in their order -/
def sdv (l : List Pt) (i : Nat) : Pt := ((gp l ((i + 1) % l.length)).1 - (gp l i).1, (gp l ((i + 1) % l.length)).2 - (gp l i).2)
def sdL (l : List Pt) : Nat → List Pt
  | 0 => []
  | i + 1 => sdL l i ++ [sdv l i]
noncomputable def pcS (ps : List Pc) (j : Nat) : List Pt := match ps[j]? with
  | some P => if P.2.2.2.2 = true then [] else sdL (plc P) (plc P).length
  | none => []
noncomputable def allS (ps : List Pc) : Nat → List Pt
  | 0 => []
  | p + 1 => allS ps p ++ pcS ps p
theorem sdL_len (l : List Pt) : ∀ n, (sdL l n).length = n
  | 0 => rfl
  | n + 1 => by show (sdL l n ++ [_]).length = _; rw [List.length_append, sdL_len l n]; rfl
theorem pcS_of {ps : List Pc} {j : Nat} {P : Pc} (h : ps[j]? = some P) : pcS ps j = if P.2.2.2.2 = true then [] else sdL (plc P) (plc P).length := by unfold pcS; rw [h]
theorem sdv_ok {l : List Pt} {i : Nat} (hB : inBs l) (hd : Ds l) (h2 : 2 ≤ l.length) (hi : i < l.length) : sdv l i ≠ (0, 0) ∧ smD (sdv l i) := by
  have gi := gp_get hi
  have gj := gp_get (mod_lt' hi)
  obtain ⟨a1, a2, a3, a4⟩ := hB _ _ gi
  obtain ⟨b1, b2, b3, b4⟩ := hB _ _ gj
  unfold sdv smD
  refine ⟨fun q => ?_, by simp only; omega⟩
  have q1 := congrArg Prod.fst q
  have q2 := congrArg Prod.snd q
  simp only at q1 q2
  have e : gp l ((i + 1) % l.length) = gp l i := Prod.ext (by omega) (by omega)
  rw [e] at gj
  have := hd _ _ _ gi gj
  by_cases z : i + 1 < l.length
  · rw [Nat.mod_eq_of_lt z] at this; omega
  · have w : i + 1 = l.length := by omega
    rw [w, Nat.mod_self] at this; omega
section STP
variable {K : Kk} {R : Rr} {M : Mm} {a : Nat} {A : List En}
theorem addSide_ok {x y : Int32} {d : Pt} (hA : tlA K R a) (h : tlC M a A) (hs : srt A) (hn : A.length < 640) (hx : x.toInt = d.1) (hy : y.toInt = d.2) (h0 : d ≠ (0, 0)) (hd : smD d) (hb : bdE 1000000000 A) : ∃ M' A', mX6_addSide K R M a x y = some M' ∧ tlC M' a A' ∧ srt A' ∧ upE A (dirD d) (amt d) A' ∧ Fr a (a + 4) M M' := by
  have hA0 := hA.1
  obtain ⟨d1, d2, d3, d4⟩ := hd
  have gp' := gD_pos h0
  have gl := gD_le h0 ⟨d1, d2, d3, d4⟩
  obtain ⟨v1, v2⟩ := gD_dvd d
  have ax := abs32 (x := x) (by omega) (by omega)
  have ay := abs32 (x := y) (by omega) (by omega)
  have eg : Nat.gcd x.toInt.natAbs y.toInt.natAbs = gD d := by unfold gD; rw [hx, hy]
  have gc := gcdC_ok (K := K) (R := R) (M := M) (a := x.toInt.natAbs) (b := y.toInt.natAbs) (by omega) (by omega)
  rw [eg] at gc
  have gi : (nI (gD d)).toInt = gD d := nI_int (by omega)
  have n0 : ¬ nI (gD d) = 0 := nI_ne0 gp' (by omega)
  have nm1 : (nI (gD d)).toInt ≠ -1 := by rw [gi]; omega
  have e1 : (x / nI (gD d)).toInt = d.1 / gD d := by rw [div32 nm1, gi, hx, Int.tdiv_eq_ediv_of_dvd v1]
  have e2 : (y / nI (gD d)).toInt = d.2 / gD d := by rw [div32 nm1, gi, hy, Int.tdiv_eq_ediv_of_dvd v2]
  have e3 : (-x / nI (gD d)).toInt = -(d.1 / gD d) := by rw [div32 nm1, gi, neg32 (by omega), hx, Int.neg_tdiv, Int.tdiv_eq_ediv_of_dvd v1]
  have e4 : (-y / nI (gD d)).toInt = -(d.2 / gD d) := by rw [div32 nm1, gi, neg32 (by omega), hy, Int.neg_tdiv, Int.tdiv_eq_ediv_of_dvd v2]
  have e5 : (-nI (gD d)).toInt = -(gD d : Int) := by rw [neg32 (by omega), gi]
  have z0 : (0 : Int32).toInt = 0 := rfl
  have up : upD d → ∃ M' A', mX6_addSide_J29 K R M a x y (nI (gD d)) = some M' ∧ tlC M' a A' ∧ srt A' ∧ upE A (dirD d) (amt d) A' ∧ Fr a (a + 4) M M' := fun u => by
    obtain ⟨w1, w2⟩ := dirD_t u
    rw [w1, w2]
    obtain ⟨M', A', c1, c2⟩ := addSteps_ok (x := x / nI (gD d)) (y := y / nI (gD d)) (z := nI (gD d)) (d := (d.1 / gD d, d.2 / gD d)) (g := gD d) hA h hs hn e1 e2 gi hb
    refine ⟨M', A', ?_, c2⟩
    unfold mX6_addSide_J29
    (repeat (first | rw [ck_t (by first | with_reducible assumption | ((with_reducible apply ixA_of); (with_reducible assumption); omega; omega) | ((with_reducible apply isAr_of); (with_reducible assumption); decide) | ((with_reducible apply nI_ne0); omega; omega) | with_reducible exact isB_0 | with_reducible exact isB_1 | with_reducible exact isB_bI _)] | rw [bd_r (by with_reducible assumption)] | rw [bd_s] | rw [bd2_s] | rw [bd3_s] | rw [nm_s] | rw [nI_clamp (by omega)] | rw [nI_1] | rw [bd_e (c1)] | rw [if_pos (by first | with_reducible assumption | ((with_reducible refine nI_lt ?_ ?_); omega; omega) | ((with_reducible refine nI_nlt ?_ ?_); omega; omega) | with_reducible exact ne10 | with_reducible rfl)] | rw [if_neg (by first | with_reducible assumption | ((with_reducible refine nI_lt ?_ ?_); omega; omega) | ((with_reducible refine nI_nlt ?_ ?_); omega; omega) | with_reducible exact ne10 | with_reducible rfl)]))
  have dn : ¬ upD d → ∃ M' A', mX6_addSide_J43 K R M a x y (nI (gD d)) = some M' ∧ tlC M' a A' ∧ srt A' ∧ upE A (dirD d) (amt d) A' ∧ Fr a (a + 4) M M' := fun u => by
    obtain ⟨w1, w2⟩ := dirD_f u
    rw [w1, w2]
    obtain ⟨M', A', c1, c2⟩ := addSteps_ok (x := -x / nI (gD d)) (y := -y / nI (gD d)) (z := -nI (gD d)) (d := (-(d.1 / gD d), -(d.2 / gD d))) (g := -(gD d : Int)) hA h hs hn e3 e4 e5 hb
    refine ⟨M', A', ?_, c2⟩
    unfold mX6_addSide_J43
    (repeat (first | rw [ck_t (by first | with_reducible assumption | ((with_reducible apply ixA_of); (with_reducible assumption); omega; omega) | ((with_reducible apply isAr_of); (with_reducible assumption); decide) | ((with_reducible apply nI_ne0); omega; omega) | with_reducible exact isB_0 | with_reducible exact isB_1 | with_reducible exact isB_bI _)] | rw [bd_r (by with_reducible assumption)] | rw [bd_s] | rw [bd2_s] | rw [bd3_s] | rw [nm_s] | rw [nI_clamp (by omega)] | rw [nI_1] | rw [bd_e (c1)] | rw [if_pos (by first | with_reducible assumption | ((with_reducible refine nI_lt ?_ ?_); omega; omega) | ((with_reducible refine nI_nlt ?_ ?_); omega; omega) | with_reducible exact ne10 | with_reducible rfl)] | rw [if_neg (by first | with_reducible assumption | ((with_reducible refine nI_lt ?_ ?_); omega; omega) | ((with_reducible refine nI_nlt ?_ ?_); omega; omega) | with_reducible exact ne10 | with_reducible rfl)]))
  unfold mX6_addSide
  (repeat (first | rw [ck_t (by first | with_reducible assumption | ((with_reducible apply ixA_of); (with_reducible assumption); omega; omega) | ((with_reducible apply isAr_of); (with_reducible assumption); decide) | ((with_reducible apply nI_ne0); omega; omega) | with_reducible exact isB_0 | with_reducible exact isB_1 | with_reducible exact isB_bI _)] | rw [bd_r (by with_reducible assumption)] | rw [bd_s] | rw [bd2_s] | rw [bd3_s] | rw [nm_s] | rw [nI_clamp (by omega)] | rw [nI_1] | rw [ax] | rw [ay] | rw [bd_e (gc)] | rw [if_pos (by first | with_reducible assumption | ((with_reducible refine nI_lt ?_ ?_); omega; omega) | ((with_reducible refine nI_nlt ?_ ?_); omega; omega) | with_reducible exact ne10 | with_reducible rfl)] | rw [if_neg (by first | with_reducible assumption | ((with_reducible refine nI_lt ?_ ?_); omega; omega) | ((with_reducible refine nI_nlt ?_ ?_); omega; omega) | with_reducible exact ne10 | with_reducible rfl)]))
  by_cases c1 : x ≤ 0
  · rw [if_pos c1]
    rw [le32, z0, hx] at c1
    by_cases c2 : x = 0
    · rw [if_pos c2]
      rw [eq32, z0, hx] at c2
      by_cases c3 : y ≤ 0
      · rw [if_pos c3]
        rw [le32, z0, hy] at c3
        exact dn (by unfold upD; omega)
      · rw [if_neg c3]
        rw [le32, z0, hy] at c3
        exact up (by unfold upD; omega)
    · rw [if_neg c2]
      rw [eq32, z0, hx] at c2
      exact dn (by unfold upD; omega)
  · rw [if_neg c1]
    rw [le32, z0, hx] at c1
    exact up (by unfold upD; omega)
theorem tlC.fr {lo hi : Nat} {M' : Mm} (h : tlC M a A) (f : Fr lo hi M M') (ha : a + 4 ≤ lo ∨ hi ≤ a) : tlC M' a A := by
  refine ⟨by rw [(f a (by omega)).1]; exact h.1, fun i e he => ?_⟩
  rw [(f (a + 1) (by omega)).1, (f (a + 2) (by omega)).1, (f (a + 3) (by omega)).2]
  exact h.2 i e he
/-- what is known of a tally under way -/
def tlI (M : Mm) (a : Nat) (ds : List Pt) : Prop := ∃ A, tlC M a A ∧ srt A ∧ upL [] ds A ∧ A.length ≤ ds.length ∧ bdE (200000 * (ds.length : Int)) A
theorem tlI.add {x y : Int32} {d : Pt} {ds : List Pt} (hA : tlA K R a) (h : tlI M a ds) (hn : ds.length < 640) (hx : x.toInt = d.1) (hy : y.toInt = d.2) (h0 : d ≠ (0, 0)) (hd : smD d) : ∃ M', mX6_addSide K R M a x y = some M' ∧ tlI M' a (ds ++ [d]) ∧ Fr a (a + 4) M M' := by
  obtain ⟨A, a1, a2, a3, a4, a5⟩ := h
  obtain ⟨M', A', b1, b2, b3, b4, b5⟩ := addSide_ok hA a1 a2 (by omega) hx hy h0 hd (fun e he => by have := a5 e he; omega)
  have ab := amt_b h0 hd
  refine ⟨M', b1, ⟨A', b2, b3, upL_snoc a3 b4, ?_, ?_⟩, b5⟩
  · have := upE_len b4; rw [List.length_append]; simp only [List.length_singleton]; omega
  · have := bdE_up b4 a5 (by omega) ab.1 ab.2
    intro e he
    have := this e he
    rw [List.length_append]; simp only [List.length_singleton]; omega
theorem addSides_ok {r n : Nat} {l : List Pt} {ds : List Pt} (hA : tlA K R a) (hr : rgA K R r n) (hd : a + 4 ≤ r ∨ r + 3 ≤ a) (h : tlI M a ds) (hl : rgC M r l) (hl2 : l.length ≤ n) (hn2 : n < 2 ^ 20) (hB : inBs l) (hD : Ds l) (h2 : 2 ≤ l.length) (hn : ds.length + l.length ≤ 640) : ∃ M', mX6_addSides K R M a r = some M' ∧ tlI M' a (ds ++ sdL l l.length) ∧ Fr a (a + 4) M M' := by
  have a0 := hA.1
  obtain ⟨r0, r1, r2, r3, r4⟩ := hr
  have hr : rgA K R r n := ⟨r0, r1, r2, r3, r4⟩
  have hW := lp_ind (f := mX6_addSides_L2 K R a r) (fun (i : Nat) (s : Int32 × Mm) => s.1 = nI i ∧ tlI s.2 a (ds ++ sdL l i) ∧ Fr a (a + 4) M s.2) (fun M' => tlI M' a (ds ++ sdL l l.length) ∧ Fr a (a + 4) M M') l.length ?_ ?_
  · obtain ⟨M', e1, e2⟩ := hW l.length 0 (nI 0, M) (by omega) ⟨rfl, by show tlI M a (ds ++ []); rw [List.append_nil]; exact h, Fr.rf⟩
    refine ⟨M', ?_, e2⟩
    unfold mX6_addSides
    (repeat (first | rw [ck_t (by first | with_reducible assumption | ((with_reducible apply ixA_of); (with_reducible assumption); omega; omega) | ((with_reducible apply isAr_of); (with_reducible assumption); decide) | ((with_reducible apply nI_ne0); omega; omega) | with_reducible exact isB_0 | with_reducible exact isB_1 | with_reducible exact isB_bI _)] | rw [bd_r (by with_reducible assumption)] | rw [bd_s] | rw [bd2_s] | rw [bd3_s] | rw [nm_s] | rw [nI_clamp (by omega)] | rw [nI_1] | rw [if_pos (by first | with_reducible assumption | ((with_reducible refine nI_lt ?_ ?_); omega; omega) | ((with_reducible refine nI_nlt ?_ ?_); omega; omega) | with_reducible exact ne10 | with_reducible rfl)] | rw [if_neg (by first | with_reducible assumption | ((with_reducible refine nI_lt ?_ ?_); omega; omega) | ((with_reducible refine nI_nlt ?_ ?_); omega; omega) | with_reducible exact ne10 | with_reducible rfl)]))
    exact e1
  · rintro i ⟨z, N⟩ hi ⟨rfl, f1, f2⟩
    have f1 : tlI N a (ds ++ sdL l i) := f1
    have f2 : Fr a (a + 4) M N := f2
    have hN := hl.fr f2 (by omega)
    have e := hN.1
    have hj := mod_lt' hi
    have w := wrap_ok (i := i + 1) hr hN (by omega) (by omega)
    have gi := gp_get hi
    have gj := gp_get hj
    obtain ⟨u1, u2⟩ := hN.2 _ _ gi
    obtain ⟨w1, w2⟩ := hN.2 _ _ gj
    obtain ⟨B1, B2, B3, B4⟩ := hB _ _ gi
    obtain ⟨C1, C2, C3, C4⟩ := hB _ _ gj
    obtain ⟨s1, s2⟩ := sdv_ok hB hD h2 hi
    obtain ⟨N2, c1, c2, c3⟩ := tlI.add (x := N.1 (r + 1) ((i + 1) % l.length) - N.1 (r + 1) i) (y := N.1 (r + 2) ((i + 1) % l.length) - N.1 (r + 2) i) (d := sdv l i) hA f1 (by rw [List.length_append, sdL_len]; omega) (by rw [sub32 (by omega) (by omega), u1, w1]; rfl) (by rw [sub32 (by omega) (by omega), u2, w2]; rfl) s1 s2
    refine Or.inl ⟨(nI (i + 1), N2), ?_, rfl, ?_, f2.tr c3⟩
    · show mX6_addSides_B2 K R a r (nI i) N = _
      unfold mX6_addSides_B2
      (repeat (first | rw [ck_t (by first | with_reducible assumption | ((with_reducible apply ixA_of); (with_reducible assumption); omega; omega) | ((with_reducible apply isAr_of); (with_reducible assumption); decide) | ((with_reducible apply nI_ne0); omega; omega) | with_reducible exact isB_0 | with_reducible exact isB_1 | with_reducible exact isB_bI _)] | rw [bd_r (by with_reducible assumption)] | rw [bd_s] | rw [bd2_s] | rw [bd3_s] | rw [nm_s] | rw [nI_clamp (by omega)] | rw [nI_1] | rw [e] | rw [bd_e (w)] | rw [bd_e (c1)] | rw [if_pos (by first | with_reducible assumption | ((with_reducible refine nI_lt ?_ ?_); omega; omega) | ((with_reducible refine nI_nlt ?_ ?_); omega; omega) | with_reducible exact ne10 | with_reducible rfl)] | rw [if_neg (by first | with_reducible assumption | ((with_reducible refine nI_lt ?_ ?_); omega; omega) | ((with_reducible refine nI_nlt ?_ ?_); omega; omega) | with_reducible exact ne10 | with_reducible rfl)]))
    · show tlI N2 a (ds ++ (sdL l i ++ [sdv l i]))
      rw [← List.append_assoc]; exact c2
  · rintro ⟨z, N⟩ ⟨rfl, f1, f2⟩
    have f2 : Fr a (a + 4) M N := f2
    have e := (hl.fr f2 (by omega)).1
    refine ⟨N, ?_, f1, f2⟩
    show mX6_addSides_B2 K R a r (nI l.length) N = _
    unfold mX6_addSides_B2
    (repeat (first | rw [ck_t (by first | with_reducible assumption | ((with_reducible apply ixA_of); (with_reducible assumption); omega; omega) | ((with_reducible apply isAr_of); (with_reducible assumption); decide) | ((with_reducible apply nI_ne0); omega; omega) | with_reducible exact isB_0 | with_reducible exact isB_1 | with_reducible exact isB_bI _)] | rw [bd_r (by with_reducible assumption)] | rw [bd_s] | rw [bd2_s] | rw [bd3_s] | rw [nm_s] | rw [nI_clamp (by omega)] | rw [nI_1] | rw [e] | rw [if_pos (by first | with_reducible assumption | ((with_reducible refine nI_lt ?_ ?_); omega; omega) | ((with_reducible refine nI_nlt ?_ ?_); omega; omega) | with_reducible exact ne10 | with_reducible rfl)] | rw [if_neg (by first | with_reducible assumption | ((with_reducible refine nI_lt ?_ ?_); omega; omega) | ((with_reducible refine nI_nlt ?_ ?_); omega; omega) | with_reducible exact ne10 | with_reducible rfl)]))
    rfl
def nz (e : En) : Bool := decide (e.2 ≠ 0)
theorem leave_ok (hA : tlA K R a) (h : tlC M a A) (hn : A.length ≤ 640) : ∃ M', mX6_leaveOutZeros K R M a = some M' ∧ tlC M' a (A.filter nz) ∧ Fr a (a + 4) M M' := by
  obtain ⟨h0, h1, h2, h3, h4, h5, h6⟩ := hA
  have hfl : ∀ i, ((A.take i).filter nz).length ≤ i := fun i => by
    have := List.length_filter_le nz (A.take i)
    rw [List.length_take] at this; omega
  have hW := lp_ind (f := mX6_leaveOutZeros_L4 K R a) (fun (i : Nat) (s : Int32 × Int32 × Mm) => s.1 = nI ((A.take i).filter nz).length ∧ s.2.1 = nI i ∧ s.2.2.1 a 3 = nI A.length ∧ (∀ (j : Nat) e, ((A.take i).filter nz)[j]? = some e → (s.2.2.1 (a + 1) j).toInt = e.1.1 ∧ (s.2.2.1 (a + 2) j).toInt = e.1.2 ∧ (s.2.2.2 (a + 3) j).toInt = e.2) ∧ (∀ (j : Nat) e, i ≤ j → A[j]? = some e → (s.2.2.1 (a + 1) j).toInt = e.1.1 ∧ (s.2.2.1 (a + 2) j).toInt = e.1.2 ∧ (s.2.2.2 (a + 3) j).toInt = e.2) ∧ Fr a (a + 4) M s.2.2) (fun M' => tlC M' a (A.filter nz) ∧ Fr a (a + 4) M M') A.length ?_ ?_
  · obtain ⟨M', e1, e2⟩ := hW A.length 0 (nI 0, nI 0, M) (by omega) ⟨rfl, rfl, h.1, fun j e he => by simp at he, fun j e _ he => h.2 j e he, Fr.rf⟩
    refine ⟨M', ?_, e2⟩
    unfold mX6_leaveOutZeros
    (repeat (first | rw [ck_t (by first | with_reducible assumption | ((with_reducible apply ixA_of); (with_reducible assumption); omega; omega) | ((with_reducible apply isAr_of); (with_reducible assumption); decide) | ((with_reducible apply nI_ne0); omega; omega) | with_reducible exact isB_0 | with_reducible exact isB_1 | with_reducible exact isB_bI _)] | rw [bd_r (by with_reducible assumption)] | rw [bd_s] | rw [bd2_s] | rw [bd3_s] | rw [nm_s] | rw [nI_clamp (by omega)] | rw [nI_1] | rw [if_pos (by first | with_reducible assumption | ((with_reducible refine nI_lt ?_ ?_); omega; omega) | ((with_reducible refine nI_nlt ?_ ?_); omega; omega) | with_reducible exact ne10 | with_reducible rfl)] | rw [if_neg (by first | with_reducible assumption | ((with_reducible refine nI_lt ?_ ?_); omega; omega) | ((with_reducible refine nI_nlt ?_ ?_); omega; omega) | with_reducible exact ne10 | with_reducible rfl)]))
    exact e1
  · rintro i ⟨x, y, N⟩ hi ⟨rfl, rfl, f1, f2, f3, f4⟩
    have f1 : N.1 a 3 = nI A.length := f1
    have f2 : ∀ (j : Nat) e, ((A.take i).filter nz)[j]? = some e → (N.1 (a + 1) j).toInt = e.1.1 ∧ (N.1 (a + 2) j).toInt = e.1.2 ∧ (N.2 (a + 3) j).toInt = e.2 := f2
    have f3 : ∀ (j : Nat) e, i ≤ j → A[j]? = some e → (N.1 (a + 1) j).toInt = e.1.1 ∧ (N.1 (a + 2) j).toInt = e.1.2 ∧ (N.2 (a + 3) j).toInt = e.2 := f3
    have f4 : Fr a (a + 4) M N := f4
    obtain ⟨q, hq⟩ := get_ex hi
    obtain ⟨q1, q2, q3⟩ := f3 i q (Nat.le_refl _) hq
    have tk := take_app hq
    have hl := hfl i
    have ix : ∀ j, j < 640 → ixA K (a + 1) 0 (nI j) ∧ ixA K (a + 2) 0 (nI j) ∧ ixA K (a + 3) 1 (nI j) := fun j hj => ⟨ixA_of h4 hj (by decide), ixA_of h5 hj (by decide), ixA_of h6 hj (by decide)⟩
    have go : ∀ u N, mX6_leaveOutZeros_J62 K R N a u (nI i) = some (.inl (u, nI (i + 1), N)) := fun u N => by unfold mX6_leaveOutZeros_J62; (repeat (first | rw [ck_t (by first | with_reducible assumption | ((with_reducible apply ixA_of); (with_reducible assumption); omega; omega) | ((with_reducible apply isAr_of); (with_reducible assumption); decide) | ((with_reducible apply nI_ne0); omega; omega) | with_reducible exact isB_0 | with_reducible exact isB_1 | with_reducible exact isB_bI _)] | rw [bd_r (by with_reducible assumption)] | rw [bd_s] | rw [bd2_s] | rw [bd3_s] | rw [nm_s] | rw [nI_clamp (by omega)] | rw [nI_1] | rw [if_pos (by first | with_reducible assumption | ((with_reducible refine nI_lt ?_ ?_); omega; omega) | ((with_reducible refine nI_nlt ?_ ?_); omega; omega) | with_reducible exact ne10 | with_reducible rfl)] | rw [if_neg (by first | with_reducible assumption | ((with_reducible refine nI_lt ?_ ?_); omega; omega) | ((with_reducible refine nI_nlt ?_ ?_); omega; omega) | with_reducible exact ne10 | with_reducible rfl)]))
    left
    by_cases c : N.2 (a + 3) i = 0
    · have hz : nz q = false := by
        unfold nz
        rw [eq64, q3] at c
        have c : q.2 = 0 := c
        simp [c]
      have e1 : (A.take (i + 1)).filter nz = (A.take i).filter nz := by rw [tk, List.filter_append]; simp [hz]
      refine ⟨(nI ((A.take i).filter nz).length, nI (i + 1), N), ?_, by rw [e1], rfl, f1, by rw [e1]; exact f2, fun j e hj he => f3 j e (by omega) he, f4⟩
      show mX6_leaveOutZeros_B4 K R a (nI ((A.take i).filter nz).length) (nI i) N = _
      unfold mX6_leaveOutZeros_B4
      (repeat (first | rw [ck_t (by first | with_reducible assumption | ((with_reducible apply ixA_of); (with_reducible assumption); omega; omega) | ((with_reducible apply isAr_of); (with_reducible assumption); decide) | ((with_reducible apply nI_ne0); omega; omega) | with_reducible exact isB_0 | with_reducible exact isB_1 | with_reducible exact isB_bI _)] | rw [bd_r (by with_reducible assumption)] | rw [bd_s] | rw [bd2_s] | rw [bd3_s] | rw [nm_s] | rw [nI_clamp (by omega)] | rw [nI_1] | rw [f1] | rw [if_pos (by first | with_reducible assumption | ((with_reducible refine nI_lt ?_ ?_); omega; omega) | ((with_reducible refine nI_nlt ?_ ?_); omega; omega) | with_reducible exact ne10 | with_reducible rfl)] | rw [if_neg (by first | with_reducible assumption | ((with_reducible refine nI_lt ?_ ?_); omega; omega) | ((with_reducible refine nI_nlt ?_ ?_); omega; omega) | with_reducible exact ne10 | with_reducible rfl)]))
      exact go _ _
    · have hz : nz q = true := by
        unfold nz
        rw [eq64, q3] at c
        have c : ¬ q.2 = 0 := c
        simp [c]
      have e1 : (A.take (i + 1)).filter nz = (A.take i).filter nz ++ [q] := by rw [tk, List.filter_append]; simp [hz]
      generalize ((A.take i).filter nz) = L at *
      generalize hN2 : pL (pI (pI N (a + 1) L.length (N.1 (a + 1) i)) (a + 2) L.length (N.1 (a + 2) i)) (a + 3) L.length (N.2 (a + 3) i) = N2
      obtain ⟨ix1, ix2, ix3⟩ := ix i (by omega)
      obtain ⟨iy1, iy2, iy3⟩ := ix L.length (by omega)
      have cell : ∀ j, (N2.1 (a + 1) j = if j = L.length then N.1 (a + 1) i else N.1 (a + 1) j) ∧ (N2.1 (a + 2) j = if j = L.length then N.1 (a + 2) i else N.1 (a + 2) j) ∧ (N2.2 (a + 3) j = if j = L.length then N.2 (a + 3) i else N.2 (a + 3) j) := fun j => by
        rw [← hN2, pL_i, pI_n (show a + 1 ≠ a + 2 by omega)]
        by_cases z : j = L.length
        · subst z
          rw [if_pos rfl, if_pos rfl, if_pos rfl, pI_s, pI_s, pL_s]
          exact ⟨rfl, rfl, rfl⟩
        · rw [if_neg z, if_neg z, if_neg z, pI_k z, pI_k z, pL_k z, pI_n (show a + 2 ≠ a + 1 by omega)]
          exact ⟨rfl, rfl, rfl⟩
      refine ⟨(nI (L.length + 1), nI (i + 1), N2), ?_, by rw [e1, List.length_append]; rfl, rfl, ?_, fun j e he => ?_, fun j e hj he => ?_, by rw [← hN2]; exact ((f4.pI (by omega) (by omega)).pI (by omega) (by omega)).pL (by omega) (by omega)⟩
      · show mX6_leaveOutZeros_B4 K R a (nI L.length) (nI i) N = _
        unfold mX6_leaveOutZeros_B4
        (repeat (first | rw [ck_t (by first | with_reducible assumption | ((with_reducible apply ixA_of); (with_reducible assumption); omega; omega) | ((with_reducible apply isAr_of); (with_reducible assumption); decide) | ((with_reducible apply nI_ne0); omega; omega) | with_reducible exact isB_0 | with_reducible exact isB_1 | with_reducible exact isB_bI _)] | rw [bd_r (by with_reducible assumption)] | rw [bd_s] | rw [bd2_s] | rw [bd3_s] | rw [nm_s] | rw [nI_clamp (by omega)] | rw [nI_1] | rw [f1] | rw [pI_n (show a + 2 ≠ a + 1 by omega)] | rw [pI_l] | rw [hN2] | rw [if_pos (by first | with_reducible assumption | ((with_reducible refine nI_lt ?_ ?_); omega; omega) | ((with_reducible refine nI_nlt ?_ ?_); omega; omega) | with_reducible exact ne10 | with_reducible rfl)] | rw [if_neg (by first | with_reducible assumption | ((with_reducible refine nI_lt ?_ ?_); omega; omega) | ((with_reducible refine nI_nlt ?_ ?_); omega; omega) | with_reducible exact ne10 | with_reducible rfl)]))
        exact go _ _
      · show N2.1 a 3 = _
        rw [← hN2, pL_i, pI_n (by omega), pI_n (by omega)]; exact f1
      · rw [e1] at he
        show (N2.1 (a + 1) j).toInt = _ ∧ (N2.1 (a + 2) j).toInt = _ ∧ (N2.2 (a + 3) j).toInt = _
        obtain ⟨w1, w2, w3⟩ := cell j
        rcases get_app he with ⟨z, he⟩ | ⟨z, he⟩
        · rw [if_neg (by omega)] at w1 w2 w3
          rw [w1, w2, w3]; exact f2 j e he
        · rw [if_pos z] at w1 w2 w3
          rw [w1, w2, w3, he]; exact ⟨q1, q2, q3⟩
      · show (N2.1 (a + 1) j).toInt = _ ∧ (N2.1 (a + 2) j).toInt = _ ∧ (N2.2 (a + 3) j).toInt = _
        obtain ⟨w1, w2, w3⟩ := cell j
        rw [if_neg (by omega)] at w1 w2 w3
        rw [w1, w2, w3]; exact f3 j e (by omega) he
  · rintro ⟨x, y, N⟩ ⟨rfl, rfl, f1, f2, f3, f4⟩
    have f1 : N.1 a 3 = nI A.length := f1
    have f4 : Fr a (a + 4) M N := f4
    rw [List.take_length] at *
    refine ⟨pI N a 3 (nI (A.filter nz).length), ?_, ⟨pI_s, fun j e he => ?_⟩, f4.pI (by omega) (by omega)⟩
    · show mX6_leaveOutZeros_B4 K R a (nI (A.filter nz).length) (nI A.length) N = _
      unfold mX6_leaveOutZeros_B4
      (repeat (first | rw [ck_t (by first | with_reducible assumption | ((with_reducible apply ixA_of); (with_reducible assumption); omega; omega) | ((with_reducible apply isAr_of); (with_reducible assumption); decide) | ((with_reducible apply nI_ne0); omega; omega) | with_reducible exact isB_0 | with_reducible exact isB_1 | with_reducible exact isB_bI _)] | rw [bd_r (by with_reducible assumption)] | rw [bd_s] | rw [bd2_s] | rw [bd3_s] | rw [nm_s] | rw [nI_clamp (by omega)] | rw [nI_1] | rw [f1] | rw [if_pos (by first | with_reducible assumption | ((with_reducible refine nI_lt ?_ ?_); omega; omega) | ((with_reducible refine nI_nlt ?_ ?_); omega; omega) | with_reducible exact ne10 | with_reducible rfl)] | rw [if_neg (by first | with_reducible assumption | ((with_reducible refine nI_lt ?_ ?_); omega; omega) | ((with_reducible refine nI_nlt ?_ ?_); omega; omega) | with_reducible exact ne10 | with_reducible rfl)]))
      rfl
    · rw [pI_n (by omega), pI_n (by omega), pI_l]
      exact f2 j e he
theorem sumSides_ok {o c : Nat} {ps : List Pc} (hs : skC K R o) (hA : psA K R c) (hc1 : o + 22 ≤ c) (hc2 : c + 162 ≤ o + 1318) (h : psC M c ps) (hpp : isPs ps) (hnow : mX1_now K R M (o + 20) = some c) : ∃ M' A, mX7_sumSides K R M o = some M' ∧ tlC M' (o + 1968) (A.filter nz) ∧ srt A ∧ upL [] (allS ps ps.length) A ∧ A.length ≤ 640 ∧ Fr (o + 1968) (o + 1988) M M' := by
  obtain ⟨s0, -, -, s2, -, -, s5, -, -, -, s9, -, -, -, -, -, -, -, ⟨i0, -⟩, -, -, -, tA, -, -, -, r1, -⟩ := hs
  have t0 := tA.1
  obtain ⟨g0, g1, g2, g3⟩ := hA
  have h40 := hpp.1
  have r10 := r1.1
  have lenS : ∀ p, p ≤ ps.length → (allS ps p).length ≤ 16 * p := fun p => by
    induction p with
    | zero => intro _; exact Nat.le_refl _
    | succ p ih =>
      intro hp
      have := ih (by omega)
      obtain ⟨P, hP⟩ := get_ex (l := ps) (i := p) (by omega)
      have iP := hpp.2 p P hP
      have lP := (plc_ok iP).2.2.2.1
      have sP := iP.1.2.1
      show (allS ps p ++ pcS ps p).length ≤ _
      rw [List.length_append, pcS_of hP]
      split
      · simp; omega
      · rw [sdL_len]; omega
  have hW := lp_ind (f := mX7_sumSides_L18 K R o c) (fun (i : Nat) (s : Int32 × Mm) => s.1 = nI i ∧ tlI s.2 (o + 1968) (allS ps i) ∧ Fr (o + 1968) (o + 1988) M s.2) (fun M' => ∃ A, tlC M' (o + 1968) (A.filter nz) ∧ srt A ∧ upL [] (allS ps ps.length) A ∧ A.length ≤ 640 ∧ Fr (o + 1968) (o + 1988) M M') ps.length ?_ ?_
  · obtain ⟨M', e1, A, e2⟩ := hW ps.length 0 (nI 0, pI M (o + 1968) 3 0) (by omega) ⟨rfl, ⟨[], ⟨pI_s, fun i e he => by simp at he⟩, fun i j e f _ he => by simp at he, rfl, Nat.le_refl _, fun e he => by cases he⟩, Fr.rf.pI (by omega) (by omega)⟩
    refine ⟨M', A, ?_, e2⟩
    unfold mX7_sumSides
    (repeat (first | rw [ck_t (by first | with_reducible assumption | ((with_reducible apply ixA_of); (with_reducible assumption); omega; omega) | ((with_reducible apply isAr_of); (with_reducible assumption); decide) | ((with_reducible apply nI_ne0); omega; omega) | with_reducible exact isB_0 | with_reducible exact isB_1 | with_reducible exact isB_bI _)] | rw [bd_r (by with_reducible assumption)] | rw [bd_s] | rw [bd2_s] | rw [bd3_s] | rw [nm_s] | rw [nI_clamp (by omega)] | rw [nI_1] | rw [bd_e (hnow)] | rw [if_pos (by first | with_reducible assumption | ((with_reducible refine nI_lt ?_ ?_); omega; omega) | ((with_reducible refine nI_nlt ?_ ?_); omega; omega) | with_reducible exact ne10 | with_reducible rfl)] | rw [if_neg (by first | with_reducible assumption | ((with_reducible refine nI_lt ?_ ?_); omega; omega) | ((with_reducible refine nI_nlt ?_ ?_); omega; omega) | with_reducible exact ne10 | with_reducible rfl)]))
    exact e1
  · rintro i ⟨z, N⟩ hi ⟨rfl, f1, f2⟩
    have f1 : tlI N (o + 1968) (allS ps i) := f1
    have f2 : Fr (o + 1968) (o + 1988) M N := f2
    obtain ⟨P, hP⟩ := get_ex hi
    have iP := hpp.2 i P hP
    have sP := iP.1.2.1
    obtain ⟨k1, k2⟩ := g3 i (by omega)
    have k20 := k2.1
    have e : N.1 c 1 = nI ps.length := by rw [(f2 c (by omega)).1]; exact h.1
    have pC := (h.2 i P hP).fr f2 (by omega)
    have go : ∀ N, mX7_sumSides_J62 K R N o c (nI i) = some (.inl (nI (i + 1), N)) := fun N => by unfold mX7_sumSides_J62; (repeat (first | rw [ck_t (by first | with_reducible assumption | ((with_reducible apply ixA_of); (with_reducible assumption); omega; omega) | ((with_reducible apply isAr_of); (with_reducible assumption); decide) | ((with_reducible apply nI_ne0); omega; omega) | with_reducible exact isB_0 | with_reducible exact isB_1 | with_reducible exact isB_bI _)] | rw [bd_r (by with_reducible assumption)] | rw [bd_s] | rw [bd2_s] | rw [bd3_s] | rw [nm_s] | rw [nI_clamp (by omega)] | rw [nI_1] | rw [if_pos (by first | with_reducible assumption | ((with_reducible refine nI_lt ?_ ?_); omega; omega) | ((with_reducible refine nI_nlt ?_ ?_); omega; omega) | with_reducible exact ne10 | with_reducible rfl)] | rw [if_neg (by first | with_reducible assumption | ((with_reducible refine nI_lt ?_ ?_); omega; omega) | ((with_reducible refine nI_nlt ?_ ?_); omega; omega) | with_reducible exact ne10 | with_reducible rfl)]))
    left
    show ∃ s', mX7_sumSides_B18 K R o c (nI i) N = some (.inl s') ∧ _
    unfold mX7_sumSides_B18
    (repeat (first | rw [ck_t (by first | with_reducible assumption | ((with_reducible apply ixA_of); (with_reducible assumption); omega; omega) | ((with_reducible apply isAr_of); (with_reducible assumption); decide) | ((with_reducible apply nI_ne0); omega; omega) | with_reducible exact isB_0 | with_reducible exact isB_1 | with_reducible exact isB_bI _)] | rw [bd_r (by with_reducible assumption)] | rw [bd_s] | rw [bd2_s] | rw [bd3_s] | rw [nm_s] | rw [nI_clamp (by omega)] | rw [nI_1] | rw [e] | rw [pC.2.2.2.2] | rw [if_pos (by first | with_reducible assumption | ((with_reducible refine nI_lt ?_ ?_); omega; omega) | ((with_reducible refine nI_nlt ?_ ?_); omega; omega) | with_reducible exact ne10 | with_reducible rfl)] | rw [if_neg (by first | with_reducible assumption | ((with_reducible refine nI_lt ?_ ?_); omega; omega) | ((with_reducible refine nI_nlt ?_ ?_); omega; omega) | with_reducible exact ne10 | with_reducible rfl)]))
    cases hb : P.2.2.2.2 with
    | true =>
      rw [if_neg (show ¬ bI true = 0 by decide)]
      refine ⟨_, go N, rfl, ?_, f2⟩
      show tlI N _ (allS ps i ++ pcS ps i)
      rw [pcS_of hP, if_pos hb, List.append_nil]; exact f1
    | false =>
      have e4 : (bI false = 0) := rfl
      obtain ⟨N2, a1, a2, a3, a4⟩ := placeInto_ok (M := N) r1 k2 (by omega) iP (by decide) (by decide) pC
      obtain ⟨q1, q2, q3, q4, q5⟩ := plc_ok iP
      have f1' : tlI N2 (o + 1968) (allS ps i) := by
        obtain ⟨A, b1, b2⟩ := f1
        exact ⟨A, b1.fr a3 (by omega), b2⟩
      have := lenS i (by omega)
      have h3 := iP.1.1
      obtain ⟨N3, c1, c2, c3⟩ := addSides_ok tA r1 (by omega) f1' a2 (by omega) (by decide) (inBs_of q5) (q2.ds (by omega)) (by omega) (by omega)
      rw [if_pos e4]
      (repeat (first | rw [ck_t (by first | with_reducible assumption | ((with_reducible apply ixA_of); (with_reducible assumption); omega; omega) | ((with_reducible apply isAr_of); (with_reducible assumption); decide) | ((with_reducible apply nI_ne0); omega; omega) | with_reducible exact isB_0 | with_reducible exact isB_1 | with_reducible exact isB_bI _)] | rw [bd_r (by with_reducible assumption)] | rw [bd_s] | rw [bd2_s] | rw [bd3_s] | rw [nm_s] | rw [nI_clamp (by omega)] | rw [nI_1] | rw [bd_e (a1)] | rw [bd_e (c1)] | rw [if_pos (by first | with_reducible assumption | ((with_reducible refine nI_lt ?_ ?_); omega; omega) | ((with_reducible refine nI_nlt ?_ ?_); omega; omega) | with_reducible exact ne10 | with_reducible rfl)] | rw [if_neg (by first | with_reducible assumption | ((with_reducible refine nI_lt ?_ ?_); omega; omega) | ((with_reducible refine nI_nlt ?_ ?_); omega; omega) | with_reducible exact ne10 | with_reducible rfl)]))
      refine ⟨_, go N3, rfl, ?_, (f2.tr (a3.mono (by omega) (by omega))).tr (c3.mono (by omega) (by omega))⟩
      show tlI N3 _ (allS ps i ++ pcS ps i)
      rw [pcS_of hP, hb]; exact c2
  · rintro ⟨z, N⟩ ⟨rfl, f1, f2⟩
    have f1 : tlI N (o + 1968) (allS ps ps.length) := f1
    have f2 : Fr (o + 1968) (o + 1988) M N := f2
    have e : N.1 c 1 = nI ps.length := by rw [(f2 c (by omega)).1]; exact h.1
    obtain ⟨A, b1, b2, b3, b4, b5⟩ := f1
    have := lenS ps.length (Nat.le_refl _)
    obtain ⟨N2, c1, c2, c3⟩ := leave_ok tA b1 (by omega)
    refine ⟨N2, ?_, A, c2, b2, b3, by omega, f2.tr (c3.mono (by omega) (by omega))⟩
    show mX7_sumSides_B18 K R o c (nI ps.length) N = _
    unfold mX7_sumSides_B18
    (repeat (first | rw [ck_t (by first | with_reducible assumption | ((with_reducible apply ixA_of); (with_reducible assumption); omega; omega) | ((with_reducible apply isAr_of); (with_reducible assumption); decide) | ((with_reducible apply nI_ne0); omega; omega) | with_reducible exact isB_0 | with_reducible exact isB_1 | with_reducible exact isB_bI _)] | rw [bd_r (by with_reducible assumption)] | rw [bd_s] | rw [bd2_s] | rw [bd3_s] | rw [nm_s] | rw [nI_clamp (by omega)] | rw [nI_1] | rw [e] | rw [bd_e (c1)] | rw [if_pos (by first | with_reducible assumption | ((with_reducible refine nI_lt ?_ ?_); omega; omega) | ((with_reducible refine nI_nlt ?_ ?_); omega; omega) | with_reducible exact ne10 | with_reducible rfl)] | rw [if_neg (by first | with_reducible assumption | ((with_reducible refine nI_lt ?_ ?_); omega; omega) | ((with_reducible refine nI_nlt ?_ ?_); omega; omega) | with_reducible exact ne10 | with_reducible rfl)]))
    rfl
end STP
