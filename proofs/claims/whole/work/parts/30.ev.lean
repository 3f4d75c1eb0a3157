/-! EVALUATION of functions out of bytecode by a tactic -/
theorem bd_r {β : Type} {R : Rr} {a k v : Nat} {T : Nat → Option β} (h : R a k = some v) : bd (R a k) T = T v := by rw [h]; rfl
theorem ne10 : ¬ (1 : Int32) = 0 := by decide
theorem bd_e {α β : Type} {m : Option α} {v : α} {T : α → Option β} (h : m = some v) : bd m T = T v := by rw [h]; rfl
theorem bd2_e {α β γ : Type} {m : Option (α × β)} {v : α} {w : β} {T : α → β → Option γ} (h : m = some (v, w)) : bd2 m T = T v w := by rw [h]; rfl
theorem bd3_e {α β γ δ : Type} {m : Option (α × β × γ)} {v : α} {w : β} {u : γ} {T : α → β → γ → Option δ} (h : m = some (v, w, u)) : bd3 m T = T v w u := by rw [h]; rfl
/-! frames of the reference's scratch -/
def FM (m : Nat) (is as : List Nat) (M M' : Mm) : Prop := (∀ b, b ≠ m → M'.1 b = M.1 b) ∧ (∀ k, k ∉ is → M'.1 m k = M.1 m k) ∧ ∀ b, (∀ j, j ∈ as → b ≠ m + j) → M'.2 b = M.2 b
section FMs
variable {m : Nat} {is as is' as' : List Nat} {M M' M2 : Mm}
theorem FM.rf : FM m is as M M := ⟨fun _ _ => rfl, fun _ _ => rfl, fun _ _ => rfl⟩
theorem FM.tr (h : FM m is as M M2) (g : FM m is as M2 M') : FM m is as M M' := ⟨fun b hb => (g.1 b hb).trans (h.1 b hb), fun k hk => (g.2.1 k hk).trans (h.2.1 k hk), fun b hb => (g.2.2 b hb).trans (h.2.2 b hb)⟩
theorem FM.mo (h : FM m is as M M') (hi : ∀ k, k ∈ is → k ∈ is') (ha : ∀ k, k ∈ as → k ∈ as') : FM m is' as' M M' := ⟨h.1, fun k hk => h.2.1 k (fun q => hk (hi k q)), fun b hb => h.2.2 b (fun j hj => hb j (ha j hj))⟩
theorem FM.ar (h : FM m is as M M') (j : Nat) (hj : j ∉ as) : M'.2 (m + j) = M.2 (m + j) := h.2.2 _ (fun i hi q => hj (by rw [show j = i by omega]; exact hi))
theorem FM.sl (h : FM m is as M M') (k : Nat) (hk : k ∉ is) : M'.1 m k = M.1 m k := h.2.1 k hk
theorem FM.pI {k : Nat} {v : Int32} (h : FM m is as M M') (hk : k ∈ is) : FM m is as M (pI M' m k v) := ⟨fun b hb => by rw [pI_n hb]; exact h.1 b hb, fun j hj => by rw [pI_k (fun q => hj (by rw [q]; exact hk))]; exact h.2.1 j hj, h.2.2⟩
theorem FM.pL {j k : Nat} {v : Int64} (h : FM m is as M M') (hj : j ∈ as) : FM m is as M (pL M' (m + j) k v) := ⟨h.1, h.2.1, fun b hb => by rw [pL_n (hb j hj)]; exact h.2.2 b hb⟩
theorem FM.kp {o : Nat} (h : FM (o + 2118) is as M M') (h3 : 3 ∉ is) (h4 : 4 ∉ is) (h12 : 12 ∉ is) (ha : ∀ j, j ∈ as → 11 ≤ j) : Kp o M M' :=
  ⟨fun b hb => ⟨h.1 b (by omega), h.2.2 b (fun j hj => by have := ha j hj; omega)⟩, fun b h1 h2 => ⟨h.1 b (by omega), h.2.2 b (fun j hj => by have := ha j hj; omega)⟩, h.sl 3 h3, h.sl 4 h4, h.sl 12 h12⟩
end FMs
/-- places in two arrays of the reference, their number in a slot -/
def rM (M : Mm) (m s x y : Nat) (l : List Pt) : Prop := M.1 m s = nI l.length ∧ ∀ (i : Nat) p, l[i]? = some p → (M.2 (m + x) i).toInt = p.1 ∧ (M.2 (m + y) i).toInt = p.2
theorem rM.fr {m s x y : Nat} {is as : List Nat} {M M' : Mm} {l : List Pt} (h : rM M m s x y l) (f : FM m is as M M') (hs : s ∉ is) (hx : x ∉ as) (hy : y ∉ as) : rM M' m s x y l :=
  ⟨by rw [f.sl s hs]; exact h.1, fun i p hp => by rw [f.ar x hx, f.ar y hy]; exact h.2 i p hp⟩
theorem get_app {α : Type} {l : List α} {x p : α} {i : Nat} (h : (l ++ [x])[i]? = some p) : (i < l.length ∧ l[i]? = some p) ∨ (i = l.length ∧ p = x) := by
  by_cases hi : i < l.length
  · rw [List.getElem?_append_left hi] at h
    exact Or.inl ⟨hi, h⟩
  · rw [List.getElem?_append_right (by omega)] at h
    have hz : i - l.length < 1 := (List.getElem?_eq_some_iff.mp h).1
    obtain rfl : i = l.length := by omega
    rw [Nat.sub_self] at h
    cases h
    exact Or.inr ⟨rfl, rfl⟩
theorem mem_get {α : Type} {l : List α} {p : α} (h : p ∈ l) : ∃ i, i < l.length ∧ l[i]? = some p := by
  obtain ⟨i, hi⟩ := List.getElem?_of_mem h
  exact ⟨i, (List.getElem?_eq_some_iff.mp hi).1, hi⟩
theorem get_lt {α : Type} {l : List α} {p : α} {i : Nat} (h : l[i]? = some p) : i < l.length := (List.getElem?_eq_some_iff.mp h).1
theorem get_ex {α : Type} {l : List α} {i : Nat} (h : i < l.length) : ∃ p, l[i]? = some p := ⟨_, List.getElem?_eq_getElem h⟩
theorem get_mem {α : Type} {l : List α} {p : α} {i : Nat} (h : l[i]? = some p) : p ∈ l := List.mem_of_getElem? h
theorem get_un {α : Type} {l : List α} {p q : α} {i : Nat} (h : l[i]? = some p) (g : l[i]? = some q) : p = q := Option.some.inj (h.symm.trans g)
/-! bounds of products -/
theorem mulb {x y B C : Int} (h1 : -B ≤ x) (h2 : x ≤ B) (h3 : -C ≤ y) (h4 : y ≤ C) : -(B * C) ≤ x * y ∧ x * y ≤ B * C := by
  have a := Int.mul_nonneg (show 0 ≤ B - x by omega) (show 0 ≤ C + y by omega)
  have b := Int.mul_nonneg (show 0 ≤ B + x by omega) (show 0 ≤ C - y by omega)
  have c := Int.mul_nonneg (show 0 ≤ B - x by omega) (show 0 ≤ C - y by omega)
  have d := Int.mul_nonneg (show 0 ≤ B + x by omega) (show 0 ≤ C + y by omega)
  simp only [Int.sub_mul, Int.add_mul, Int.mul_sub, Int.mul_add] at a b c d
  omega
/-- the sum of products of two ways -/
def dot (a b p : Pt) : Int := (b.1 - a.1) * (p.1 - a.1) + (b.2 - a.2) * (p.2 - a.2)
theorem crs_b {a b p : Pt} (ha : inB a) (hb : inB b) (hp : inB p) : -80000000000 ≤ crs a b p ∧ crs a b p ≤ 80000000000 := by
  obtain ⟨a1, a2, a3, a4⟩ := ha
  obtain ⟨b1, b2, b3, b4⟩ := hb
  obtain ⟨p1, p2, p3, p4⟩ := hp
  have u := mulb (x := b.1 - a.1) (y := p.2 - a.2) (B := 200000) (C := 200000) (by omega) (by omega) (by omega) (by omega)
  have v := mulb (x := b.2 - a.2) (y := p.1 - a.1) (B := 200000) (C := 200000) (by omega) (by omega) (by omega) (by omega)
  unfold crs
  omega
theorem sub64b {x y : Int64} (hx : -1000000 ≤ x.toInt) (hx2 : x.toInt ≤ 1000000) (hy : -1000000 ≤ y.toInt) (hy2 : y.toInt ≤ 1000000) : (x - y).toInt = x.toInt - y.toInt := sub64 (by omega) (by omega)
theorem mul64b {x y : Int64} (hx : -2000000 ≤ x.toInt) (hx2 : x.toInt ≤ 2000000) (hy : -2000000 ≤ y.toInt) (hy2 : y.toInt ≤ 2000000) : (x * y).toInt = x.toInt * y.toInt := by
  have := mulb hx hx2 hy hy2
  exact mul64 (by omega) (by omega)
/-- four numbers that differ by not much, crossed -/
theorem crs64 {x y z w x' y' z' w' : Int64} (h1 : inB (x.toInt, y.toInt)) (h2 : inB (z.toInt, w.toInt)) (h3 : inB (x'.toInt, y'.toInt)) (h4 : inB (z'.toInt, w'.toInt)) :
    ((x - z) * (y' - w') - (y - w) * (x' - z')).toInt = (x.toInt - z.toInt) * (y'.toInt - w'.toInt) - (y.toInt - w.toInt) * (x'.toInt - z'.toInt) := by
  obtain ⟨a1, a2, a3, a4⟩ := h1
  obtain ⟨b1, b2, b3, b4⟩ := h2
  obtain ⟨c1, c2, c3, c4⟩ := h3
  obtain ⟨d1, d2, d3, d4⟩ := h4
  simp only at *
  have e1 : (x - z).toInt = x.toInt - z.toInt := sub64b (by omega) (by omega) (by omega) (by omega)
  have e2 : (y' - w').toInt = y'.toInt - w'.toInt := sub64b (by omega) (by omega) (by omega) (by omega)
  have e3 : (y - w).toInt = y.toInt - w.toInt := sub64b (by omega) (by omega) (by omega) (by omega)
  have e4 : (x' - z').toInt = x'.toInt - z'.toInt := sub64b (by omega) (by omega) (by omega) (by omega)
  have m1 : ((x - z) * (y' - w')).toInt = (x.toInt - z.toInt) * (y'.toInt - w'.toInt) := by rw [mul64b (by omega) (by omega) (by omega) (by omega), e1, e2]
  have m2 : ((y - w) * (x' - z')).toInt = (y.toInt - w.toInt) * (x'.toInt - z'.toInt) := by rw [mul64b (by omega) (by omega) (by omega) (by omega), e3, e4]
  have u := mulb (x := x.toInt - z.toInt) (y := y'.toInt - w'.toInt) (B := 200000) (C := 200000) (by omega) (by omega) (by omega) (by omega)
  have v := mulb (x := y.toInt - w.toInt) (y := x'.toInt - z'.toInt) (B := 200000) (C := 200000) (by omega) (by omega) (by omega) (by omega)
  rw [sub64 (by omega) (by omega), m1, m2]
theorem dot64 {x y z w x' y' z' w' : Int64} (h1 : inB (x.toInt, y.toInt)) (h2 : inB (z.toInt, w.toInt)) (h3 : inB (x'.toInt, y'.toInt)) (h4 : inB (z'.toInt, w'.toInt)) :
    ((x - z) * (x' - z') + (y - w) * (y' - w')).toInt = (x.toInt - z.toInt) * (x'.toInt - z'.toInt) + (y.toInt - w.toInt) * (y'.toInt - w'.toInt) := by
  obtain ⟨a1, a2, a3, a4⟩ := h1
  obtain ⟨b1, b2, b3, b4⟩ := h2
  obtain ⟨c1, c2, c3, c4⟩ := h3
  obtain ⟨d1, d2, d3, d4⟩ := h4
  simp only at *
  have e1 : (x - z).toInt = x.toInt - z.toInt := sub64b (by omega) (by omega) (by omega) (by omega)
  have e2 : (y' - w').toInt = y'.toInt - w'.toInt := sub64b (by omega) (by omega) (by omega) (by omega)
  have e3 : (y - w).toInt = y.toInt - w.toInt := sub64b (by omega) (by omega) (by omega) (by omega)
  have e4 : (x' - z').toInt = x'.toInt - z'.toInt := sub64b (by omega) (by omega) (by omega) (by omega)
  have m1 : ((x - z) * (x' - z')).toInt = (x.toInt - z.toInt) * (x'.toInt - z'.toInt) := by rw [mul64b (by omega) (by omega) (by omega) (by omega), e1, e4]
  have m2 : ((y - w) * (y' - w')).toInt = (y.toInt - w.toInt) * (y'.toInt - w'.toInt) := by rw [mul64b (by omega) (by omega) (by omega) (by omega), e3, e2]
  have u := mulb (x := x.toInt - z.toInt) (y := x'.toInt - z'.toInt) (B := 200000) (C := 200000) (by omega) (by omega) (by omega) (by omega)
  have v := mulb (x := y.toInt - w.toInt) (y := y'.toInt - w'.toInt) (B := 200000) (C := 200000) (by omega) (by omega) (by omega) (by omega)
  rw [add64 (by omega) (by omega), m1, m2]
section PTS
variable {K : Kk} {R : Rr} {M : Mm} {m : Nat}
theorem sideM_ok {a0 a1 a2 a3 a4 a5 : Int64} (h1 : inB (a0.toInt, a1.toInt)) (h2 : inB (a2.toInt, a3.toInt)) (h3 : inB (a4.toInt, a5.toInt)) : ∃ v, mX8_side K R M a0 a1 a2 a3 a4 a5 = some v ∧ v.toInt = crs (a0.toInt, a1.toInt) (a2.toInt, a3.toInt) (a4.toInt, a5.toInt) :=
  ⟨_, rfl, crs64 h2 h1 h3 h1⟩
theorem begin_ok (hm : moA K R m) : mX8_beginPoints K R M m = some (pI M m 21 0) := by
  have h0 := hm.1
  unfold mX8_beginPoints
  repeat (first | rw [ck_t (by first | with_reducible assumption | ((with_reducible apply ixA_of); (with_reducible assumption); omega; decide) | ((with_reducible apply isAr_of); (with_reducible assumption); decide) | with_reducible exact isB_0 | with_reducible exact isB_1 | with_reducible exact isB_bI _)] | rw [bd_r (by with_reducible assumption)] | rw [bd_s] | rw [bd2_s] | rw [bd3_s] | rw [nm_s] | rw [nI_clamp (by omega)] | rw [nI_1] | rw [if_pos (by first | with_reducible assumption | ((with_reducible refine nI_lt ?_ ?_); omega; omega) | ((with_reducible refine nI_nlt ?_ ?_); omega; omega) | with_reducible exact ne10 | with_reducible rfl)] | rw [if_neg (by first | with_reducible assumption | ((with_reducible refine nI_lt ?_ ?_); omega; omega) | ((with_reducible refine nI_nlt ?_ ?_); omega; omega) | with_reducible exact ne10 | with_reducible rfl)])
theorem point_ok {l : List Pt} {x y : Int64} (hm : moA K R m) (h : rM M m 21 15 16 l) (hl : l.length < 600) : ∃ M', mX8_point K R M m x y = some M' ∧ rM M' m 21 15 16 (l ++ [(x.toInt, y.toInt)]) ∧ FM m [21] [15, 16] M M' := by
  have h0 := hm.1
  have h1 := mo_r19 hm
  have h2 := mo_r20 hm
  have h3 := mo_a19 hm
  have h4 := mo_a20 hm
  have e := h.1
  refine ⟨pI (pL (pL M (m + 15) l.length x) (m + 16) l.length y) m 21 (nI (l.length + 1)), ?_, ⟨?_, fun i p hp => ?_⟩, ((FM.rf.pL (by decide)).pL (by decide)).pI (by decide)⟩
  · unfold mX8_point
    repeat (first | rw [ck_t (by first | with_reducible assumption | ((with_reducible apply ixA_of); (with_reducible assumption); omega; decide) | ((with_reducible apply isAr_of); (with_reducible assumption); decide) | with_reducible exact isB_0 | with_reducible exact isB_1 | with_reducible exact isB_bI _)] | rw [bd_r (by with_reducible assumption)] | rw [bd_s] | rw [bd2_s] | rw [bd3_s] | rw [nm_s] | rw [nI_clamp (by omega)] | rw [nI_1] | rw [e] | rw [pL_i] | rw [if_pos (by first | with_reducible assumption | ((with_reducible refine nI_lt ?_ ?_); omega; omega) | ((with_reducible refine nI_nlt ?_ ?_); omega; omega) | with_reducible exact ne10 | with_reducible rfl)] | rw [if_neg (by first | with_reducible assumption | ((with_reducible refine nI_lt ?_ ?_); omega; omega) | ((with_reducible refine nI_nlt ?_ ?_); omega; omega) | with_reducible exact ne10 | with_reducible rfl)])
  · rw [pI_s, List.length_append]; rfl
  · rw [pI_l]
    rcases get_app hp with ⟨hi, hp⟩ | ⟨hi, hq⟩
    · rw [pL_n (show m + 15 ≠ m + 16 by omega), pL_k (by omega), pL_k (by omega), pL_n (show m + 16 ≠ m + 15 by omega)]
      exact h.2 i p hp
    · subst hi hq
      rw [pL_n (show m + 15 ≠ m + 16 by omega), pL_s, pL_s]
      exact ⟨rfl, rfl⟩
end PTS
