/-! THE TALLY of the class -/
abbrev En : Type := Pt × Int
def tlC (M : Mm) (a : Nat) (A : List En) : Prop := M.1 a 3 = nI A.length ∧ ∀ (i : Nat) e, A[i]? = some e → (M.1 (a + 1) i).toInt = e.1.1 ∧ (M.1 (a + 2) i).toInt = e.1.2 ∧ (M.2 (a + 3) i).toInt = e.2
def srt (A : List En) : Prop := ∀ (i j : Nat) (e f : En), i < j → A[i]? = some e → A[j]? = some f → ltP e.1 f.1
/-- a sum of steps is put to its direction -/
def upE (A : List En) (d : Pt) (g : Int) (A' : List En) : Prop := (∃ l r t, A = l ++ (d, t) :: r ∧ A' = l ++ (d, t + g) :: r) ∨ ((∀ e, e ∈ A → e.1 ≠ d) ∧ ∃ l r, A = l ++ r ∧ A' = l ++ (d, g) :: r)
def dsE (A : List En) : Prop := ∀ (i j : Nat) (e f : En), A[i]? = some e → A[j]? = some f → e.1 = f.1 → i = j
theorem srt.ds {A : List En} (h : srt A) : dsE A := fun i j e f he hf q => by
  rcases Nat.lt_trichotomy i j with g | g | g
  · have := h i j e f g he hf; rw [q] at this; exact absurd this ltP_irr
  · exact g
  · have := h j i f e g hf he; rw [q] at this; exact absurd this ltP_irr
theorem ins_get {α : Type} {A : List α} {x : α} {k j : Nat} (hk : k ≤ A.length) : (A.take k ++ x :: A.drop k)[j]? = if j < k then A[j]? else if j = k then some x else A[j - 1]? := by
  have hl : (A.take k).length = k := by rw [List.length_take]; omega
  by_cases h : j < k
  · rw [if_pos h, List.getElem?_append_left (by omega), List.getElem?_take, if_pos h]
  · rw [if_neg h, List.getElem?_append_right (by omega), hl]
    by_cases h2 : j = k
    · rw [if_pos h2, h2, Nat.sub_self]; rfl
    · rw [if_neg h2]
      obtain ⟨m, hm⟩ : ∃ m, j - k = m + 1 := ⟨j - k - 1, by omega⟩
      rw [hm, List.getElem?_cons_succ, List.getElem?_drop]
      congr 1; omega
theorem split_at {α : Type} {A : List α} {k : Nat} {x : α} (h : A[k]? = some x) : A = A.take k ++ x :: A.drop (k + 1) := by
  have hk := get_lt h
  have e := List.take_append_drop k A
  have : A.drop k = x :: A.drop (k + 1) := by
    rw [List.drop_eq_getElem_cons hk]
    congr 1
    rw [List.getElem?_eq_getElem hk] at h
    exact Option.some.inj h
  rw [this] at e
  exact e.symm
section TL
variable {K : Kk} {R : Rr} {M : Mm} {a : Nat} {A : List En}
theorem tlC.pt {i : Nat} {e : En} (h : tlC M a A) (he : A[i]? = some e) : e.1 = ((M.1 (a + 1) i).toInt, (M.1 (a + 2) i).toInt) := Prod.ext (h.2 i e he).1.symm (h.2 i e he).2.1.symm
theorem pow_half {i : Nat} (h : i < 10) : 2 ^ (10 - i) = 2 * 2 ^ (10 - (i + 1)) := by rw [show 10 - i = (10 - (i + 1)) + 1 by omega, Nat.pow_succ]; omega
theorem fnb_ok {x y : Int32} {d : Pt} (hA : tlA K R a) (h : tlC M a A) (hs : srt A) (hn : A.length ≤ 640) (hx : x.toInt = d.1) (hy : y.toInt = d.2) : ∃ k, mX6_firstNotBelow K R M a x y = some (nI k) ∧ k ≤ A.length ∧ (∀ (i : Nat) e, i < k → A[i]? = some e → ltP e.1 d) ∧ ∀ (i : Nat) e, k ≤ i → A[i]? = some e → ¬ ltP e.1 d := by
  obtain ⟨h0, h1, h2, h3, h4, h5, h6⟩ := hA
  have e := h.1
  have hL := lp_ind (f := mX6_firstNotBelow_L11 K R M a x y) (fun (i : Nat) (s : Int32 × Int32 × Int32) => ∃ lo hi, s = (nI lo, nI hi, nI i) ∧ lo ≤ hi ∧ hi ≤ A.length ∧ hi - lo < 2 ^ (10 - i) ∧ (∀ (i : Nat) e, i < lo → A[i]? = some e → ltP e.1 d) ∧ ∀ (i : Nat) e, hi ≤ i → A[i]? = some e → ¬ ltP e.1 d) (fun v => ∃ k, v = nI k ∧ k ≤ A.length ∧ (∀ (i : Nat) e, i < k → A[i]? = some e → ltP e.1 d) ∧ ∀ (i : Nat) e, k ≤ i → A[i]? = some e → ¬ ltP e.1 d) 10 ?_ ?_
  · obtain ⟨v, e1, k, rfl, e2⟩ := hL 10 0 (nI 0, nI A.length, nI 0) rfl ⟨0, A.length, rfl, by omega, Nat.le_refl _, by show A.length - 0 < 1024; omega, fun i e hi => absurd hi (by omega), fun i e hi he => absurd (get_lt he) (by omega)⟩
    refine ⟨k, ?_, e2⟩
    unfold mX6_firstNotBelow
    (repeat (first | rw [ck_t (by first | with_reducible assumption | ((with_reducible apply ixA_of); (with_reducible assumption); omega; omega) | ((with_reducible apply isAr_of); (with_reducible assumption); decide) | ((with_reducible apply nI_ne0); omega; omega) | with_reducible exact isB_0 | with_reducible exact isB_1 | with_reducible exact isB_bI _)] | rw [bd_r (by with_reducible assumption)] | rw [bd_s] | rw [bd2_s] | rw [bd3_s] | rw [nm_s] | rw [nI_clamp (by omega)] | rw [nI_1] | rw [e] | rw [if_pos (by first | with_reducible assumption | ((with_reducible refine nI_lt ?_ ?_); omega; omega) | ((with_reducible refine nI_nlt ?_ ?_); omega; omega) | with_reducible exact ne10 | with_reducible rfl)] | rw [if_neg (by first | with_reducible assumption | ((with_reducible refine nI_lt ?_ ?_); omega; omega) | ((with_reducible refine nI_nlt ?_ ?_); omega; omega) | with_reducible exact ne10 | with_reducible rfl)]))
    exact e1
  · rintro i s hi ⟨lo, hi2, rfl, c1, c2, c3, c4, c5⟩
    have w : nI i < 32 := nI_lt (b := 32) (by omega) (by decide)
    show (∃ s', mX6_firstNotBelow_B11 K R M a x y (nI lo) (nI hi2) (nI i) = _ ∧ _) ∨ ∃ r, mX6_firstNotBelow_B11 K R M a x y (nI lo) (nI hi2) (nI i) = _ ∧ _
    by_cases hlo : lo < hi2
    · have hm1 : (lo + hi2) / 2 < hi2 := by omega
      have hm2 : lo ≤ (lo + hi2) / 2 := by omega
      generalize hmid : (lo + hi2) / 2 = mid at hm1 hm2
      have emid : (nI lo + nI hi2) / 2 = nI mid := by rw [nI_add, show (2 : Int32) = nI 2 from rfl, pk_div (by omega) (by decide) (by decide), hmid]
      obtain ⟨q, hq⟩ := get_ex (l := A) (i := mid) (by omega)
      have vq := h.pt hq
      have p2 := pow_half hi
      have J77 : ∀ u v, mX6_firstNotBelow_J77 K R M a x y u v (nI i) = some (.inl (u, v, nI (i + 1))) := fun u v => by unfold mX6_firstNotBelow_J77; (repeat (first | rw [ck_t (by first | with_reducible assumption | ((with_reducible apply ixA_of); (with_reducible assumption); omega; omega) | ((with_reducible apply isAr_of); (with_reducible assumption); decide) | ((with_reducible apply nI_ne0); omega; omega) | with_reducible exact isB_0 | with_reducible exact isB_1 | with_reducible exact isB_bI _)] | rw [bd_r (by with_reducible assumption)] | rw [bd_s] | rw [bd2_s] | rw [bd3_s] | rw [nm_s] | rw [nI_clamp (by omega)] | rw [nI_1] | rw [if_pos (by first | with_reducible assumption | ((with_reducible refine nI_lt ?_ ?_); omega; omega) | ((with_reducible refine nI_nlt ?_ ?_); omega; omega) | with_reducible exact ne10 | with_reducible rfl)] | rw [if_neg (by first | with_reducible assumption | ((with_reducible refine nI_lt ?_ ?_); omega; omega) | ((with_reducible refine nI_nlt ?_ ?_); omega; omega) | with_reducible exact ne10 | with_reducible rfl)]))
      have up : mX6_firstNotBelow_J65 K R M a x y (nI hi2) (nI i) (nI mid) = some (.inl (nI (mid + 1), nI hi2, nI (i + 1))) := by unfold mX6_firstNotBelow_J65; (repeat (first | rw [ck_t (by first | with_reducible assumption | ((with_reducible apply ixA_of); (with_reducible assumption); omega; omega) | ((with_reducible apply isAr_of); (with_reducible assumption); decide) | ((with_reducible apply nI_ne0); omega; omega) | with_reducible exact isB_0 | with_reducible exact isB_1 | with_reducible exact isB_bI _)] | rw [bd_r (by with_reducible assumption)] | rw [bd_s] | rw [bd2_s] | rw [bd3_s] | rw [nm_s] | rw [nI_clamp (by omega)] | rw [nI_1] | rw [if_pos (by first | with_reducible assumption | ((with_reducible refine nI_lt ?_ ?_); omega; omega) | ((with_reducible refine nI_nlt ?_ ?_); omega; omega) | with_reducible exact ne10 | with_reducible rfl)] | rw [if_neg (by first | with_reducible assumption | ((with_reducible refine nI_lt ?_ ?_); omega; omega) | ((with_reducible refine nI_nlt ?_ ?_); omega; omega) | with_reducible exact ne10 | with_reducible rfl)])); exact J77 _ _
      have dw : mX6_firstNotBelow_J73 K R M a x y (nI lo) (nI i) (nI mid) = some (.inl (nI lo, nI mid, nI (i + 1))) := by unfold mX6_firstNotBelow_J73; exact J77 _ _
      left
      have hup : ltP q.1 d → mX6_firstNotBelow_B11 K R M a x y (nI lo) (nI hi2) (nI i) = some (.inl (nI (mid + 1), nI hi2, nI (i + 1))) → ∃ s', mX6_firstNotBelow_L11 K R M a x y (nI lo, nI hi2, nI i) = some (.inl s') ∧ ∃ lo hi, s' = (nI lo, nI hi, nI (i + 1)) ∧ lo ≤ hi ∧ hi ≤ A.length ∧ hi - lo < 2 ^ (10 - (i + 1)) ∧ (∀ (i : Nat) e, i < lo → A[i]? = some e → ltP e.1 d) ∧ ∀ (i : Nat) e, hi ≤ i → A[i]? = some e → ¬ ltP e.1 d := fun hl e => by
        refine ⟨_, e, mid + 1, hi2, rfl, by omega, c2, by omega, fun j f hj hf => ?_, c5⟩
        by_cases q2 : j = mid
        · subst q2; rw [get_un hf hq]; exact hl
        · exact ltP_tr (hs j mid f q (by omega) hf hq) hl
      have hdw : ¬ ltP q.1 d → mX6_firstNotBelow_B11 K R M a x y (nI lo) (nI hi2) (nI i) = some (.inl (nI lo, nI mid, nI (i + 1))) → ∃ s', mX6_firstNotBelow_L11 K R M a x y (nI lo, nI hi2, nI i) = some (.inl s') ∧ ∃ lo hi, s' = (nI lo, nI hi, nI (i + 1)) ∧ lo ≤ hi ∧ hi ≤ A.length ∧ hi - lo < 2 ^ (10 - (i + 1)) ∧ (∀ (i : Nat) e, i < lo → A[i]? = some e → ltP e.1 d) ∧ ∀ (i : Nat) e, hi ≤ i → A[i]? = some e → ¬ ltP e.1 d := fun hl e => by
        refine ⟨_, e, lo, mid, rfl, by omega, by omega, by omega, c4, fun j f hj hf z => ?_⟩
        by_cases q2 : j = mid
        · subst q2; rw [get_un hf hq] at z; exact hl z
        · exact hl (ltP_tr (hs mid j q f (by omega) hq hf) z)
      by_cases g1 : M.1 (a + 1) mid < x
      · refine hup (by rw [vq]; exact Or.inl (by rw [← hx]; exact lt32.mp g1)) ?_
        unfold mX6_firstNotBelow_B11
        (repeat (first | rw [ck_t (by first | with_reducible assumption | ((with_reducible apply ixA_of); (with_reducible assumption); omega; omega) | ((with_reducible apply isAr_of); (with_reducible assumption); decide) | ((with_reducible apply nI_ne0); omega; omega) | with_reducible exact isB_0 | with_reducible exact isB_1 | with_reducible exact isB_bI _)] | rw [bd_r (by with_reducible assumption)] | rw [bd_s] | rw [bd2_s] | rw [bd3_s] | rw [nm_s] | rw [nI_clamp (by omega)] | rw [nI_1] | rw [emid] | rw [if_pos (by first | with_reducible assumption | ((with_reducible refine nI_lt ?_ ?_); omega; omega) | ((with_reducible refine nI_nlt ?_ ?_); omega; omega) | with_reducible exact ne10 | with_reducible rfl)] | rw [if_neg (by first | with_reducible assumption | ((with_reducible refine nI_lt ?_ ?_); omega; omega) | ((with_reducible refine nI_nlt ?_ ?_); omega; omega) | with_reducible exact ne10 | with_reducible rfl)]))
        exact up
      · by_cases g2 : M.1 (a + 1) mid = x
        · by_cases g3 : M.1 (a + 2) mid < y
          · refine hup (by rw [vq]; exact Or.inr ⟨by rw [← hx]; exact eq32.mp g2, by rw [← hy]; exact lt32.mp g3⟩) ?_
            unfold mX6_firstNotBelow_B11
            (repeat (first | rw [ck_t (by first | with_reducible assumption | ((with_reducible apply ixA_of); (with_reducible assumption); omega; omega) | ((with_reducible apply isAr_of); (with_reducible assumption); decide) | ((with_reducible apply nI_ne0); omega; omega) | with_reducible exact isB_0 | with_reducible exact isB_1 | with_reducible exact isB_bI _)] | rw [bd_r (by with_reducible assumption)] | rw [bd_s] | rw [bd2_s] | rw [bd3_s] | rw [nm_s] | rw [nI_clamp (by omega)] | rw [nI_1] | rw [emid] | rw [if_pos (by first | with_reducible assumption | ((with_reducible refine nI_lt ?_ ?_); omega; omega) | ((with_reducible refine nI_nlt ?_ ?_); omega; omega) | with_reducible exact ne10 | with_reducible rfl)] | rw [if_neg (by first | with_reducible assumption | ((with_reducible refine nI_lt ?_ ?_); omega; omega) | ((with_reducible refine nI_nlt ?_ ?_); omega; omega) | with_reducible exact ne10 | with_reducible rfl)]))
            exact up
          · refine hdw (by rw [vq]; rw [lt32] at g1 g3; rintro (z | ⟨-, z⟩) <;> simp only at z <;> omega) ?_
            unfold mX6_firstNotBelow_B11
            (repeat (first | rw [ck_t (by first | with_reducible assumption | ((with_reducible apply ixA_of); (with_reducible assumption); omega; omega) | ((with_reducible apply isAr_of); (with_reducible assumption); decide) | ((with_reducible apply nI_ne0); omega; omega) | with_reducible exact isB_0 | with_reducible exact isB_1 | with_reducible exact isB_bI _)] | rw [bd_r (by with_reducible assumption)] | rw [bd_s] | rw [bd2_s] | rw [bd3_s] | rw [nm_s] | rw [nI_clamp (by omega)] | rw [nI_1] | rw [emid] | rw [if_pos (by first | with_reducible assumption | ((with_reducible refine nI_lt ?_ ?_); omega; omega) | ((with_reducible refine nI_nlt ?_ ?_); omega; omega) | with_reducible exact ne10 | with_reducible rfl)] | rw [if_neg (by first | with_reducible assumption | ((with_reducible refine nI_lt ?_ ?_); omega; omega) | ((with_reducible refine nI_nlt ?_ ?_); omega; omega) | with_reducible exact ne10 | with_reducible rfl)]))
            exact dw
        · refine hdw (by rw [vq]; rw [lt32] at g1; rw [eq32] at g2; rintro (z | ⟨z, -⟩) <;> simp only at z <;> omega) ?_
          unfold mX6_firstNotBelow_B11
          (repeat (first | rw [ck_t (by first | with_reducible assumption | ((with_reducible apply ixA_of); (with_reducible assumption); omega; omega) | ((with_reducible apply isAr_of); (with_reducible assumption); decide) | ((with_reducible apply nI_ne0); omega; omega) | with_reducible exact isB_0 | with_reducible exact isB_1 | with_reducible exact isB_bI _)] | rw [bd_r (by with_reducible assumption)] | rw [bd_s] | rw [bd2_s] | rw [bd3_s] | rw [nm_s] | rw [nI_clamp (by omega)] | rw [nI_1] | rw [emid] | rw [if_pos (by first | with_reducible assumption | ((with_reducible refine nI_lt ?_ ?_); omega; omega) | ((with_reducible refine nI_nlt ?_ ?_); omega; omega) | with_reducible exact ne10 | with_reducible rfl)] | rw [if_neg (by first | with_reducible assumption | ((with_reducible refine nI_lt ?_ ?_); omega; omega) | ((with_reducible refine nI_nlt ?_ ?_); omega; omega) | with_reducible exact ne10 | with_reducible rfl)]))
          exact dw
    · obtain rfl : lo = hi2 := by omega
      refine Or.inr ⟨nI lo, ?_, lo, rfl, c2, c4, c5⟩
      unfold mX6_firstNotBelow_B11
      (repeat (first | rw [ck_t (by first | with_reducible assumption | ((with_reducible apply ixA_of); (with_reducible assumption); omega; omega) | ((with_reducible apply isAr_of); (with_reducible assumption); decide) | ((with_reducible apply nI_ne0); omega; omega) | with_reducible exact isB_0 | with_reducible exact isB_1 | with_reducible exact isB_bI _)] | rw [bd_r (by with_reducible assumption)] | rw [bd_s] | rw [bd2_s] | rw [bd3_s] | rw [nm_s] | rw [nI_clamp (by omega)] | rw [nI_1] | rw [if_pos (by first | with_reducible assumption | ((with_reducible refine nI_lt ?_ ?_); omega; omega) | ((with_reducible refine nI_nlt ?_ ?_); omega; omega) | with_reducible exact ne10 | with_reducible rfl)] | rw [if_neg (by first | with_reducible assumption | ((with_reducible refine nI_lt ?_ ?_); omega; omega) | ((with_reducible refine nI_nlt ?_ ?_); omega; omega) | with_reducible exact ne10 | with_reducible rfl)]))
      rfl
  · rintro s ⟨lo, hi2, rfl, c1, c2, c3, c4, c5⟩
    obtain rfl : lo = hi2 := by simp at c3; omega
    have w : nI 10 < 32 := by decide
    refine ⟨nI lo, ?_, lo, rfl, c2, c4, c5⟩
    show mX6_firstNotBelow_B11 K R M a x y (nI lo) (nI lo) (nI 10) = _
    unfold mX6_firstNotBelow_B11
    (repeat (first | rw [ck_t (by first | with_reducible assumption | ((with_reducible apply ixA_of); (with_reducible assumption); omega; omega) | ((with_reducible apply isAr_of); (with_reducible assumption); decide) | ((with_reducible apply nI_ne0); omega; omega) | with_reducible exact isB_0 | with_reducible exact isB_1 | with_reducible exact isB_bI _)] | rw [bd_r (by with_reducible assumption)] | rw [bd_s] | rw [bd2_s] | rw [bd3_s] | rw [nm_s] | rw [nI_clamp (by omega)] | rw [nI_1] | rw [if_pos (by first | with_reducible assumption | ((with_reducible refine nI_lt ?_ ?_); omega; omega) | ((with_reducible refine nI_nlt ?_ ?_); omega; omega) | with_reducible exact ne10 | with_reducible rfl)] | rw [if_neg (by first | with_reducible assumption | ((with_reducible refine nI_lt ?_ ?_); omega; omega) | ((with_reducible refine nI_nlt ?_ ?_); omega; omega) | with_reducible exact ne10 | with_reducible rfl)]))
    rfl
theorem addSteps_ok {x y z : Int32} {d : Pt} {g : Int} (hA : tlA K R a) (h : tlC M a A) (hs : srt A) (hn : A.length < 640) (hx : x.toInt = d.1) (hy : y.toInt = d.2) (hz : z.toInt = g) (hb : ∀ e, e ∈ A → -1000000000 ≤ e.2 ∧ e.2 ≤ 1000000000) : ∃ M' A', mX6_addSteps K R M a x y z = some M' ∧ tlC M' a A' ∧ srt A' ∧ upE A d g A' ∧ Fr a (a + 4) M M' := by
  have hA0 := hA
  obtain ⟨h0, h1, h2, h3, h4, h5, h6⟩ := hA
  have e := h.1
  obtain ⟨k, k1, k2, k3, k4⟩ := fnb_ok hA0 h hs (by omega) hx hy
  by_cases hin : ∃ t, A[k]? = some (d, t)
  · obtain ⟨t, ht⟩ := hin
    have hk := get_lt ht
    obtain ⟨c1, c2, c3⟩ := h.2 k _ ht
    have e1 : M.1 (a + 1) k = x := by rw [eq32, hx]; exact c1
    have e2 : M.1 (a + 2) k = y := by rw [eq32, hy]; exact c2
    have hzi : z.toInt64.toInt = g := by rw [i64_int, hz]
    have hzb := Int32.toInt_lt z
    have hzc := Int32.le_toInt z
    have hbt := hb _ (get_mem ht)
    simp only at c3 hbt
    have c3 : (M.2 (a + 3) k).toInt = t := c3
    have sm : (M.2 (a + 3) k + z.toInt64).toInt = t + g := by rw [add64 (by rw [c3, hzi]; omega) (by rw [c3, hzi]; omega), c3, hzi]
    have hget : ∀ j, (A.set k (d, t + g))[j]? = if j = k then some (d, t + g) else A[j]? := fun j => by
      rw [List.getElem?_set]
      by_cases q : k = j
      · rw [if_pos q, if_pos q.symm, if_pos (by omega)]
      · rw [if_neg q, if_neg (Ne.symm q)]
    refine ⟨pL M (a + 3) k (M.2 (a + 3) k + z.toInt64), A.set k (d, t + g), ?_, ⟨by rw [List.length_set]; exact e, fun i f hf => ?_⟩, fun i j f f' hij hf hf' => ?_, Or.inl ⟨A.take k, A.drop (k + 1), t, split_at ht, ?_⟩, Fr.rf.pL (by omega) (by omega)⟩
    · unfold mX6_addSteps
      (repeat (first | rw [ck_t (by first | with_reducible assumption | ((with_reducible apply ixA_of); (with_reducible assumption); omega; omega) | ((with_reducible apply isAr_of); (with_reducible assumption); decide) | ((with_reducible apply nI_ne0); omega; omega) | with_reducible exact isB_0 | with_reducible exact isB_1 | with_reducible exact isB_bI _)] | rw [bd_r (by with_reducible assumption)] | rw [bd_s] | rw [bd2_s] | rw [bd3_s] | rw [nm_s] | rw [nI_clamp (by omega)] | rw [nI_1] | rw [bd_e (k1)] | rw [e] | rw [if_pos (by first | with_reducible assumption | ((with_reducible refine nI_lt ?_ ?_); omega; omega) | ((with_reducible refine nI_nlt ?_ ?_); omega; omega) | with_reducible exact ne10 | with_reducible rfl)] | rw [if_neg (by first | with_reducible assumption | ((with_reducible refine nI_lt ?_ ?_); omega; omega) | ((with_reducible refine nI_nlt ?_ ?_); omega; omega) | with_reducible exact ne10 | with_reducible rfl)]))
    · rw [hget] at hf
      by_cases q : i = k
      · subst q
        rw [if_pos rfl] at hf
        cases hf
        exact ⟨c1, c2, by rw [pL_s]; exact sm⟩
      · rw [if_neg q] at hf
        obtain ⟨u1, u2, u3⟩ := h.2 i f hf
        exact ⟨u1, u2, by rw [pL_k q]; exact u3⟩
    · rw [hget] at hf hf'
      have old : ∀ (i : Nat) (f : En), (if i = k then some (d, t + g) else A[i]?) = some f → ∃ f0, A[i]? = some f0 ∧ f0.1 = f.1 := fun i f hf => by
        by_cases q : i = k
        · subst q; rw [if_pos rfl] at hf; cases hf; exact ⟨_, ht, rfl⟩
        · rw [if_neg q] at hf; exact ⟨f, hf, rfl⟩
      obtain ⟨f0, p1, p2⟩ := old i f hf
      obtain ⟨f1, p3, p4⟩ := old j f' hf'
      rw [← p2, ← p4]
      exact hs i j f0 f1 hij p1 p3
    · rw [List.set_eq_take_append_cons_drop, if_pos hk]
  · have hnd : ∀ e, e ∈ A → e.1 ≠ d := fun e he q => by
      obtain ⟨i, hi, hie⟩ := mem_get he
      rcases Nat.lt_trichotomy i k with z | z | z
      · have := k3 i e z hie; rw [q] at this; exact ltP_irr this
      · subst z
        refine hin ⟨e.2, ?_⟩
        rw [hie, ← q]
      · obtain ⟨f, hf⟩ := get_ex (l := A) (i := k) (by omega)
        have l1 := hs k i f e z hf hie
        rw [q] at l1
        exact k4 k f (Nat.le_refl _) hf l1
    have hA1 : (A.take k ++ (d, g) :: A.drop k).length = A.length + 1 := by simp; omega
    have n1 : nI A.length < nI 640 := nI_lt hn (by decide)
    have al : alen K (a + 1) = nI 640 := alen_of h4
    have r1 : isAr K (a + 1) := isAr_of h4 (by decide)
    have okI : ∀ b, isA K b 0 640 → okC K 0 b b (nI k) (nI (k + 1)) (nI (A.length - k)) := fun b hb => ⟨640, 640, hb, hb, nI_pos (by omega), nI_pos (by omega), nI_pos (by omega), by rw [nI_clamp (by omega), nI_clamp (by omega)]; omega, by rw [nI_clamp (by omega), nI_clamp (by omega)]; omega⟩
    have okL : okC K 1 (a + 3) (a + 3) (nI k) (nI (k + 1)) (nI (A.length - k)) := ⟨640, 640, h6, h6, nI_pos (by omega), nI_pos (by omega), nI_pos (by omega), by rw [nI_clamp (by omega), nI_clamp (by omega)]; omega, by rw [nI_clamp (by omega), nI_clamp (by omega)]; omega⟩
    have ok1 := okI _ h4
    have ok2 := okI _ h5
    have ix1 : ixA K (a + 1) 0 (nI k) := ixA_of h4 (by omega) (by decide)
    have ix2 : ixA K (a + 2) 0 (nI k) := ixA_of h5 (by omega) (by decide)
    have ix3 : ixA K (a + 3) 1 (nI k) := ixA_of h6 (by omega) (by decide)
    generalize hM8 : cpI M (a + 1) (a + 1) (nI k) (nI (k + 1)) (nI (A.length - k)) = M8
    have m8 : ∀ b, b ≠ a + 1 → M8.1 b = M.1 b := fun b hb => by rw [← hM8]; simp [cpI, hb]
    have m81 : M8.1 (a + 1) = va_cpy (M.1 (a + 1)) (M.1 (a + 1)) k (k + 1) (A.length - k) := by rw [← hM8]; simp [cpI, nI_clamp (show k < 2 ^ 31 by omega), nI_clamp (show k + 1 < 2 ^ 31 by omega), nI_clamp (show A.length - k < 2 ^ 31 by omega)]
    have l8 : M8.2 = M.2 := by rw [← hM8]; rfl
    generalize hM11 : cpI M8 (a + 2) (a + 2) (nI k) (nI (k + 1)) (nI (A.length - k)) = M11
    have m11 : ∀ b, b ≠ a + 2 → M11.1 b = M8.1 b := fun b hb => by rw [← hM11]; simp [cpI, hb]
    have m111 : M11.1 (a + 2) = va_cpy (M8.1 (a + 2)) (M8.1 (a + 2)) k (k + 1) (A.length - k) := by rw [← hM11]; simp [cpI, nI_clamp (show k < 2 ^ 31 by omega), nI_clamp (show k + 1 < 2 ^ 31 by omega), nI_clamp (show A.length - k < 2 ^ 31 by omega)]
    have l11 : M11.2 = M8.2 := by rw [← hM11]; rfl
    generalize hM14 : cpL M11 (a + 3) (a + 3) (nI k) (nI (k + 1)) (nI (A.length - k)) = M14
    have m14 : ∀ b, b ≠ a + 3 → M14.2 b = M11.2 b := fun b hb => by rw [← hM14]; simp [cpL, hb]
    have m141 : M14.2 (a + 3) = va_cpy (M11.2 (a + 3)) (M11.2 (a + 3)) k (k + 1) (A.length - k) := by rw [← hM14]; simp [cpL, nI_clamp (show k < 2 ^ 31 by omega), nI_clamp (show k + 1 < 2 ^ 31 by omega), nI_clamp (show A.length - k < 2 ^ 31 by omega)]
    have i14 : M14.1 = M11.1 := by rw [← hM14]; rfl
    have z8 : M8.1 a 3 = nI A.length := by rw [m8 a (by omega)]; exact e
    have z11 : M11.1 a 3 = nI A.length := by rw [m11 a (by omega)]; exact z8
    have z14 : M14.1 a 3 = nI A.length := by rw [i14]; exact z11
    generalize hM21 : pI (pL (pI (pI M14 (a + 1) k x) (a + 2) k y) (a + 3) k z.toInt64) a 3 (nI (A.length + 1)) = M21
    have psub : nI A.length - nI k = nI (A.length - k) := pk_sub k2
    have J : mX6_addSteps_J54 K R M a x y z (nI k) = some M21 := by
      unfold mX6_addSteps_J54
      (repeat (first | rw [ck_t (by first | with_reducible assumption | ((with_reducible apply ixA_of); (with_reducible assumption); omega; omega) | ((with_reducible apply isAr_of); (with_reducible assumption); decide) | ((with_reducible apply nI_ne0); omega; omega) | with_reducible exact isB_0 | with_reducible exact isB_1 | with_reducible exact isB_bI _)] | rw [bd_r (by with_reducible assumption)] | rw [bd_s] | rw [bd2_s] | rw [bd3_s] | rw [nm_s] | rw [nI_clamp (by omega)] | rw [nI_1] | rw [al] | rw [e] | rw [psub] | rw [hM8] | rw [z8] | rw [hM11] | rw [z11] | rw [hM14] | rw [if_pos (by first | with_reducible assumption | ((with_reducible refine nI_lt ?_ ?_); omega; omega) | ((with_reducible refine nI_nlt ?_ ?_); omega; omega) | with_reducible exact ne10 | with_reducible rfl)] | rw [if_neg (by first | with_reducible assumption | ((with_reducible refine nI_lt ?_ ?_); omega; omega) | ((with_reducible refine nI_nlt ?_ ?_); omega; omega) | with_reducible exact ne10 | with_reducible rfl)]))
      rw [pL_i, pI_n (show a ≠ a + 2 by omega), pI_n (show a ≠ a + 1 by omega), z14, nI_1, hM21]
    have cellI : ∀ j, j ≤ A.length → (M21.1 (a + 1) j = if j < k then M.1 (a + 1) j else if j = k then x else M.1 (a + 1) (j - 1)) ∧ (M21.1 (a + 2) j = if j < k then M.1 (a + 2) j else if j = k then y else M.1 (a + 2) (j - 1)) ∧ (M21.2 (a + 3) j = if j < k then M.2 (a + 3) j else if j = k then z.toInt64 else M.2 (a + 3) (j - 1)) := fun j hj => by
      rw [← hM21, pI_n (show a + 1 ≠ a by omega), pI_n (show a + 2 ≠ a by omega), pI_l, pL_i, pI_n (show a + 1 ≠ a + 2 by omega)]
      by_cases q : j < k
      · rw [if_pos q, if_pos q, if_pos q, pI_k (by omega), pI_k (by omega), pL_k (by omega), pI_n (show a + 2 ≠ a + 1 by omega), pI_l, pI_l, i14, m11 _ (by omega), m81, m111, m141, pk_cpy_out (Or.inl (by omega)), pk_cpy_out (Or.inl (by omega)), pk_cpy_out (Or.inl (by omega)), m8 _ (by omega), l11, l8]
        exact ⟨rfl, rfl, rfl⟩
      · rw [if_neg q, if_neg q, if_neg q]
        by_cases q2 : j = k
        · subst q2
          rw [if_pos rfl, if_pos rfl, if_pos rfl, pI_s, pI_s, pL_s]
          exact ⟨rfl, rfl, rfl⟩
        · rw [if_neg q2, if_neg q2, if_neg q2, pI_k (by omega), pI_k (by omega), pL_k (by omega), pI_n (show a + 2 ≠ a + 1 by omega), pI_l, pI_l, i14, m11 _ (by omega), m81, m111, m141, pk_cpy_in (by omega) (by omega), pk_cpy_in (by omega) (by omega), pk_cpy_in (by omega) (by omega), m8 _ (by omega), l11, l8, show k + (j - (k + 1)) = j - 1 by omega]
          exact ⟨rfl, rfl, rfl⟩
    refine ⟨M21, A.take k ++ (d, g) :: A.drop k, ?_, ⟨by rw [hA1, ← hM21, pI_s], fun i f hf => ?_⟩, fun i j f f' hij hf hf' => ?_, Or.inr ⟨hnd, A.take k, A.drop k, (List.take_append_drop k A).symm, rfl⟩, fun b hb => ⟨?_, ?_⟩⟩
    · unfold mX6_addSteps
      by_cases hkn : k < A.length
      · obtain ⟨f, hf⟩ := get_ex hkn
        have vf := h.pt hf
        by_cases g1 : M.1 (a + 1) k = x
        · have g2 : ¬ M.1 (a + 2) k = y := fun g2 => hin ⟨f.2, by
            rw [hf]
            congr 1
            refine Prod.ext ?_ rfl
            rw [vf, g1, g2, hx, hy]⟩
          (repeat (first | rw [ck_t (by first | with_reducible assumption | ((with_reducible apply ixA_of); (with_reducible assumption); omega; omega) | ((with_reducible apply isAr_of); (with_reducible assumption); decide) | ((with_reducible apply nI_ne0); omega; omega) | with_reducible exact isB_0 | with_reducible exact isB_1 | with_reducible exact isB_bI _)] | rw [bd_r (by with_reducible assumption)] | rw [bd_s] | rw [bd2_s] | rw [bd3_s] | rw [nm_s] | rw [nI_clamp (by omega)] | rw [nI_1] | rw [bd_e (k1)] | rw [e] | rw [if_pos (by first | with_reducible assumption | ((with_reducible refine nI_lt ?_ ?_); omega; omega) | ((with_reducible refine nI_nlt ?_ ?_); omega; omega) | with_reducible exact ne10 | with_reducible rfl)] | rw [if_neg (by first | with_reducible assumption | ((with_reducible refine nI_lt ?_ ?_); omega; omega) | ((with_reducible refine nI_nlt ?_ ?_); omega; omega) | with_reducible exact ne10 | with_reducible rfl)]))
          exact J
        · (repeat (first | rw [ck_t (by first | with_reducible assumption | ((with_reducible apply ixA_of); (with_reducible assumption); omega; omega) | ((with_reducible apply isAr_of); (with_reducible assumption); decide) | ((with_reducible apply nI_ne0); omega; omega) | with_reducible exact isB_0 | with_reducible exact isB_1 | with_reducible exact isB_bI _)] | rw [bd_r (by with_reducible assumption)] | rw [bd_s] | rw [bd2_s] | rw [bd3_s] | rw [nm_s] | rw [nI_clamp (by omega)] | rw [nI_1] | rw [bd_e (k1)] | rw [e] | rw [if_pos (by first | with_reducible assumption | ((with_reducible refine nI_lt ?_ ?_); omega; omega) | ((with_reducible refine nI_nlt ?_ ?_); omega; omega) | with_reducible exact ne10 | with_reducible rfl)] | rw [if_neg (by first | with_reducible assumption | ((with_reducible refine nI_lt ?_ ?_); omega; omega) | ((with_reducible refine nI_nlt ?_ ?_); omega; omega) | with_reducible exact ne10 | with_reducible rfl)]))
          exact J
      · (repeat (first | rw [ck_t (by first | with_reducible assumption | ((with_reducible apply ixA_of); (with_reducible assumption); omega; omega) | ((with_reducible apply isAr_of); (with_reducible assumption); decide) | ((with_reducible apply nI_ne0); omega; omega) | with_reducible exact isB_0 | with_reducible exact isB_1 | with_reducible exact isB_bI _)] | rw [bd_r (by with_reducible assumption)] | rw [bd_s] | rw [bd2_s] | rw [bd3_s] | rw [nm_s] | rw [nI_clamp (by omega)] | rw [nI_1] | rw [bd_e (k1)] | rw [e] | rw [if_pos (by first | with_reducible assumption | ((with_reducible refine nI_lt ?_ ?_); omega; omega) | ((with_reducible refine nI_nlt ?_ ?_); omega; omega) | with_reducible exact ne10 | with_reducible rfl)] | rw [if_neg (by first | with_reducible assumption | ((with_reducible refine nI_lt ?_ ?_); omega; omega) | ((with_reducible refine nI_nlt ?_ ?_); omega; omega) | with_reducible exact ne10 | with_reducible rfl)]))
        exact J
    · have hi := get_lt hf
      rw [hA1] at hi
      rw [ins_get k2] at hf
      obtain ⟨u1, u2, u3⟩ := cellI i (by omega)
      by_cases q : i < k
      · rw [if_pos q] at hf u1 u2 u3
        rw [u1, u2, u3]; exact h.2 i f hf
      · rw [if_neg q] at hf u1 u2 u3
        by_cases q2 : i = k
        · rw [if_pos q2] at hf u1 u2 u3
          cases hf
          rw [u1, u2, u3, i64_int]
          exact ⟨hx, hy, hz⟩
        · rw [if_neg q2] at hf u1 u2 u3
          rw [u1, u2, u3]; exact h.2 (i - 1) f hf
    · have gtd : ∀ (i : Nat) (f : En), k ≤ i → A[i]? = some f → ltP d f.1 := fun i f hi hf => by
        rcases ltP_tot f.1 d with q | q | q
        · exact absurd q (k4 i f hi hf)
        · exact absurd q (hnd f (get_mem hf))
        · exact q
      rw [ins_get k2] at hf hf'
      by_cases q : i < k
      · rw [if_pos q] at hf
        by_cases q' : j < k
        · rw [if_pos q'] at hf'; exact hs i j f f' hij hf hf'
        · rw [if_neg q'] at hf'
          by_cases q2 : j = k
          · rw [if_pos q2] at hf'; cases hf'; exact k3 i f q hf
          · rw [if_neg q2] at hf'; exact hs i (j - 1) f f' (by omega) hf hf'
      · rw [if_neg q] at hf
        rw [if_neg (show ¬ j < k by omega), if_neg (show ¬ j = k by omega)] at hf'
        by_cases q2 : i = k
        · rw [if_pos q2] at hf; cases hf; exact gtd (j - 1) f' (by omega) hf'
        · rw [if_neg q2] at hf; exact hs (i - 1) (j - 1) f f' (by omega) hf hf'
    · rw [← hM21, pI_n (by omega), pL_i, pI_n (by omega), pI_n (by omega), i14, m11 b (by omega), m8 b (by omega)]
    · rw [← hM21, pI_l, pL_n (by omega), pI_l, pI_l, m14 b (by omega), l11, l8]
end TL
