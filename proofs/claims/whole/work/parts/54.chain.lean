/-! PURE GEOMETRY: vectors in a half plane, chains -/
theorem ilg (a b : Int) : a < b ∨ b ≤ a := by omega
theorem tz {a b c d e f : Int} (hu : 0 < a ∨ (a = 0 ∧ 0 < b)) (hv : 0 < c ∨ (c = 0 ∧ 0 < d)) (hw : 0 < e ∨ (e = 0 ∧ 0 < f)) (h1 : 0 ≤ a * d - b * c) (h2 : 0 ≤ c * f - d * e) : 0 ≤ a * f - b * e ∧ ((0 < a * d - b * c ∨ 0 < c * f - d * e) → 0 < a * f - b * e) := by
  have id1 : (a * f - b * e) * c = (c * f - d * e) * a + (a * d - b * c) * e := by grind
  rcases hv with hc | ⟨rfl, hd⟩
  · have ha : 0 ≤ a := by omega
    have he : 0 ≤ e := by omega
    have p1 := Int.mul_nonneg h2 ha
    have p2 := Int.mul_nonneg h1 he
    refine ⟨?_, fun hs => ?_⟩
    · rcases ilg (a * f - b * e) 0 with z | z
      · have := Int.mul_neg_of_neg_of_pos z hc; omega
      · exact z
    · rcases ilg 0 (a * f - b * e) with z | z
      · exact z
      · exfalso
        have n1 : (a * f - b * e) * c ≤ 0 := Int.mul_nonpos_of_nonpos_of_nonneg z (by omega)
        have q1 : (c * f - d * e) * a = 0 := by omega
        have q2 : (a * d - b * c) * e = 0 := by omega
        have go : 0 < c * f - d * e → False := fun hs => by
          have a0 : a = 0 := (Int.mul_eq_zero.mp q1).resolve_left (by omega)
          subst a0
          have hb : 0 < b := by omega
          have := Int.mul_pos hb hc
          rw [Int.zero_mul] at h1
          omega
        rcases hs with hs | hs
        · have e0 : e = 0 := (Int.mul_eq_zero.mp q2).resolve_left (by omega)
          subst e0
          have hf : 0 < f := by omega
          have := Int.mul_pos hc hf
          exact go (by rw [Int.mul_zero]; omega)
        · exact go hs
  · have he : e = 0 := by
      rcases hw with z | z
      · have := Int.mul_pos hd z
        rw [Int.zero_mul] at h2
        omega
      · exact z.1
    subst he
    have hf : 0 < f := by omega
    rw [Int.mul_zero, Int.mul_zero, Int.zero_mul]
    rw [Int.mul_zero] at h1
    have ha : 0 ≤ a := by omega
    have p := Int.mul_nonneg ha (show 0 ≤ f by omega)
    refine ⟨by omega, fun hs => ?_⟩
    rcases hs with hs | hs
    · have a1 : 0 < a := by
        rcases ilg 0 a with z | z
        · exact z
        · have a0 : a = 0 := by omega
          subst a0
          rw [Int.zero_mul] at hs; omega
      have := Int.mul_pos a1 hf
      omega
    · omega
theorem par_pos {a b c d : Int} (hu : 0 < a ∨ (a = 0 ∧ 0 < b)) (hv : 0 < c ∨ (c = 0 ∧ 0 < d)) (h : a * d - b * c = 0) : 0 < a * c + b * d := by
  rcases hu with ha | ⟨rfl, hb⟩
  · have hc : 0 < c := by
      rcases hv with z | ⟨rfl, hd⟩
      · exact z
      · have := Int.mul_pos ha hd
        rw [Int.mul_zero] at h; omega
    have id : (a * c + b * d) * a = (a * a + b * b) * c := by grind
    have h1 := Int.mul_pos ha ha
    have h2 : 0 ≤ b * b := by
      rcases Int.le_total 0 b with z | z
      · exact Int.mul_nonneg z z
      · exact Int.mul_nonneg_of_nonpos_of_nonpos z z
    have h3 := Int.mul_pos (show 0 < a * a + b * b by omega) hc
    rcases ilg 0 (a * c + b * d) with z | z
    · exact z
    · have := Int.mul_nonpos_of_nonpos_of_nonneg z (show 0 ≤ a by omega); omega
  · have hc : c = 0 := by
      rcases hv with z | z
      · have := Int.mul_pos hb z
        rw [Int.zero_mul] at h; omega
      · exact z.1
    subst hc
    have hd : 0 < d := by omega
    have := Int.mul_pos hb hd
    rw [Int.zero_mul]; omega
def lto (s : Int) (a b : Pt) : Prop := 0 < s * (b.1 - a.1) ∨ (s * (b.1 - a.1) = 0 ∧ 0 < s * (b.2 - a.2))
def vcr (a b c d : Pt) : Int := (b.1 - a.1) * (d.2 - c.2) - (b.2 - a.2) * (d.1 - c.1)
def sgn1 (s : Int) : Prop := s = 1 ∨ s = -1
theorem lto_1 {a b : Pt} : lto 1 a b ↔ ltP a b := by unfold lto ltP; omega
theorem lto_m {a b : Pt} : lto (-1) a b ↔ ltP b a := by unfold lto ltP; omega
theorem lto_irr {s : Int} {a : Pt} (hs : sgn1 s) : ¬ lto s a a := by rcases hs with rfl | rfl <;> unfold lto <;> omega
theorem lto_asy {s : Int} {a b : Pt} (hs : sgn1 s) (h : lto s a b) : ¬ lto s b a := by rcases hs with rfl | rfl <;> unfold lto at * <;> omega
theorem lto_tr {s : Int} {a b c : Pt} (hs : sgn1 s) (h : lto s a b) (g : lto s b c) : lto s a c := by rcases hs with rfl | rfl <;> unfold lto at * <;> omega
theorem lto_tot {s : Int} (hs : sgn1 s) (a b : Pt) : lto s a b ∨ a = b ∨ lto s b a := by
  rcases hs with rfl | rfl
  · rw [lto_1, lto_1]; exact ltP_tot a b
  · rw [lto_m, lto_m]
    rcases ltP_tot b a with h | h | h
    · exact Or.inl h
    · exact Or.inr (Or.inl h.symm)
    · exact Or.inr (Or.inr h)
theorem tri {s : Int} (hs : sgn1 s) {a b c d e f : Pt} (hu : lto s a b) (hv : lto s c d) (hw : lto s e f) (h1 : 0 ≤ vcr a b c d) (h2 : 0 ≤ vcr c d e f) : 0 ≤ vcr a b e f ∧ ((0 < vcr a b c d ∨ 0 < vcr c d e f) → 0 < vcr a b e f) := by
  have sq : ∀ x y z w : Int, (s * x) * (s * y) - (s * z) * (s * w) = x * y - z * w := fun x y z w => by rcases hs with rfl | rfl <;> grind
  have := tz (a := s * (b.1 - a.1)) (b := s * (b.2 - a.2)) (c := s * (d.1 - c.1)) (d := s * (d.2 - c.2)) (e := s * (f.1 - e.1)) (f := s * (f.2 - e.2)) hu hv hw (by rw [sq]; exact h1) (by rw [sq]; exact h2)
  rw [sq, sq, sq] at this
  exact this
theorem par {s : Int} (hs : sgn1 s) {a b c d : Pt} (hu : lto s a b) (hv : lto s c d) (h : vcr a b c d = 0) : 0 < (b.1 - a.1) * (d.1 - c.1) + (b.2 - a.2) * (d.2 - c.2) := by
  have sq : ∀ x y z w : Int, (s * x) * (s * y) - (s * z) * (s * w) = x * y - z * w := fun x y z w => by rcases hs with rfl | rfl <;> grind
  have sp : ∀ x y z w : Int, (s * x) * (s * y) + (s * z) * (s * w) = x * y + z * w := fun x y z w => by rcases hs with rfl | rfl <;> grind
  have := par_pos (a := s * (b.1 - a.1)) (b := s * (b.2 - a.2)) (c := s * (d.1 - c.1)) (d := s * (d.2 - c.2)) hu hv (by rw [sq]; exact h)
  rw [sp] at this
  exact this
/-- C: a chain of S, outermost on its right, from its first to its last -/
def Chn (s : Int) (S C : List Pt) : Prop :=
  C.Sublist S ∧ (∀ (i j : Nat) a b, i < j → C[i]? = some a → C[j]? = some b → lto s a b) ∧ (∃ f, C[0]? = some f ∧ ∀ p, p ∈ S → p = f ∨ lto s f p) ∧ (∃ g, C[C.length - 1]? = some g ∧ ∀ p, p ∈ S → p = g ∨ lto s p g) ∧
  (∀ (i : Nat) a b c, C[i]? = some a → C[i + 1]? = some b → C[i + 2]? = some c → 0 < crs a b c) ∧ ∀ (i : Nat) a b p, C[i]? = some a → C[i + 1]? = some b → p ∈ S → 0 ≤ crs a b p
theorem chn_one {s : Int} (x : Pt) : Chn s [x] [x] := by
  refine ⟨List.Sublist.refl _, fun i j a b hij ha hb => ?_, ⟨x, rfl, fun p hp => Or.inl (List.mem_singleton.mp hp)⟩, ⟨x, rfl, fun p hp => Or.inl (List.mem_singleton.mp hp)⟩, fun i a b c _ hb => ?_, fun i a b p _ hb => ?_⟩
  · have := get_lt hb; simp at this; omega
  · have := get_lt hb; simp at this
  · have := get_lt hb; simp at this
theorem chn_pop {s : Int} (hs : sgn1 s) {S C : List Pt} {x : Pt} (h : Chn s S C) (hx : ∀ p, p ∈ S → lto s p x) : ∀ d k c, k + d + 1 = C.length → C[k]? = some c → (∀ (i : Nat) a b, k ≤ i → C[i]? = some a → C[i + 1]? = some b → crs a b x ≤ 0) → ∀ p, p ∈ S → lto s c p → 0 ≤ crs c x p
  | 0, k, c, hk, hc, _, p, hp, hl => by
    obtain ⟨-, -, -, ⟨g, g1, g2⟩, -⟩ := h
    rw [show C.length - 1 = k by omega] at g1
    have := get_un g1 hc
    subst this
    rcases g2 p hp with z | z
    · subst z; exact absurd hl (lto_irr hs)
    · exact absurd hl (lto_asy hs z)
  | d + 1, k, a, hk, ha, hpop, p, hp, hl => by
    obtain ⟨b, hb⟩ := get_ex (l := C) (i := k + 1) (by omega)
    have ih := chn_pop hs h hx d (k + 1) b (by omega) hb (fun i a b hi => hpop i a b (by omega)) p hp
    obtain ⟨c1, c2, -, -, -, c6⟩ := h
    have hab := c2 k (k + 1) a b (by omega) ha hb
    have hS : ∀ i q, C[i]? = some q → q ∈ S := fun i q hq => c1.subset (get_mem hq)
    have hbx := hx b (hS _ _ hb)
    have hpx := hx p hp
    have n := hpop k a b (Nat.le_refl _) ha hb
    have e1 : vcr b x a b = -crs a b x := by unfold vcr crs; grind
    rcases lto_tot hs p b with z | z | z
    · have h6 := c6 k a b p ha hb hp
      have e2 : vcr a b a p = crs a b p := by unfold vcr crs; grind
      have := (tri hs hbx hab hl (by omega) (by omega)).1
      have e3 : crs a x p = vcr b x a p + crs a b p := by unfold vcr crs; grind
      omega
    · subst z
      rw [crs_swap]; omega
    · have ih := ih z
      have e2 : vcr p x b x = crs b x p := by unfold vcr crs; grind
      have := (tri hs hpx hbx hab (by omega) (by omega)).1
      have e3 : crs a x p = vcr p x b x + vcr p x a b := by unfold vcr crs; grind
      omega
theorem chn_old {s : Int} (hs : sgn1 s) {S C : List Pt} {x : Pt} {k : Nat} (h : Chn s S C) (hx : ∀ p, p ∈ S → lto s p x) (hk : k < C.length) (h1 : ∀ (i : Nat) a b, i + 1 = k → C[i]? = some a → C[i + 1]? = some b → 0 < crs a b x) : ∀ d i a b, i + 1 + d = k → C[i]? = some a → C[i + 1]? = some b → 0 < crs a b x
  | 0, i, a, b, e, ha, hb => h1 i a b (by omega) ha hb
  | d + 1, i, a, b, e, ha, hb => by
    obtain ⟨c, hc⟩ := get_ex (l := C) (i := i + 2) (by omega)
    have ih := chn_old hs h hx hk h1 d (i + 1) b c (by omega) hb hc
    obtain ⟨c1, c2, -, -, c5, -⟩ := h
    have t := c5 i a b c ha hb hc
    have hab := c2 i (i + 1) a b (by omega) ha hb
    have hbc := c2 (i + 1) (i + 2) b c (by omega) hb hc
    have hcx := hx c (c1.subset (get_mem hc))
    have e1 : vcr a b b c = crs a b c := by unfold vcr crs; grind
    have e2 : vcr b c c x = crs b c x := by unfold vcr crs; grind
    have := (tri hs hab hbc hcx (by omega) (by omega)).1
    have e3 : crs a b x = crs a b c + vcr a b c x := by unfold vcr crs; grind
    omega
theorem chn_push {s : Int} (hs : sgn1 s) {S C : List Pt} {x : Pt} {k : Nat} (h : Chn s S C) (hx : ∀ p, p ∈ S → lto s p x) (hk : k < C.length) (h1 : ∀ (i : Nat) a b, i + 1 = k → C[i]? = some a → C[i + 1]? = some b → 0 < crs a b x) (h2 : ∀ (i : Nat) a b, k ≤ i → C[i]? = some a → C[i + 1]? = some b → crs a b x ≤ 0) : Chn s (S ++ [x]) (C.take (k + 1) ++ [x]) := by
  have h0 := h
  obtain ⟨c1, c2, ⟨f, f1, f2⟩, ⟨g, g1, g2⟩, c5, c6⟩ := h
  have hl : (C.take (k + 1)).length = k + 1 := by rw [List.length_take]; omega
  have cs : ∀ (i : Nat) p, (C.take (k + 1) ++ [x])[i]? = some p → (i ≤ k ∧ C[i]? = some p) ∨ (i = k + 1 ∧ p = x) := fun i p hp => by
    rcases get_app hp with ⟨z, w⟩ | ⟨z, w⟩
    · rw [hl] at z
      rw [List.getElem?_take, if_pos z] at w
      exact Or.inl ⟨by omega, w⟩
    · exact Or.inr ⟨by omega, w⟩
  have hS : ∀ (i : Nat) q, C[i]? = some q → q ∈ S := fun i q hq => c1.subset (get_mem hq)
  have mS : ∀ p, p ∈ S ++ [x] → p ∈ S ∨ p = x := fun p hp => by
    rcases List.mem_append.mp hp with z | z
    · exact Or.inl z
    · exact Or.inr (List.mem_singleton.mp z)
  refine ⟨((List.take_sublist _ _).trans c1).append (List.Sublist.refl _), fun i j a b hij ha hb => ?_, ⟨f, ?_, fun p hp => ?_⟩, ⟨x, ?_, fun p hp => ?_⟩, fun i a b c ha hb hc => ?_, fun i a b p ha hb hp => ?_⟩
  · rcases cs i a ha with ⟨u1, u2⟩ | ⟨u1, u2⟩ <;> rcases cs j b hb with ⟨v1, v2⟩ | ⟨v1, v2⟩
    · exact c2 i j a b hij u2 v2
    · rw [v2]; exact hx a (hS _ _ u2)
    · omega
    · omega
  · rw [List.getElem?_append_left (by omega), List.getElem?_take, if_pos (by omega)]; exact f1
  · rcases mS p hp with z | z
    · exact f2 p z
    · rw [z]; exact Or.inr (hx f (hS _ _ f1))
  · rw [List.length_append, hl, show k + 1 + [x].length - 1 = k + 1 by simp, List.getElem?_append_right (by omega), hl, Nat.sub_self]; rfl
  · rcases mS p hp with z | z
    · exact Or.inr (hx p z)
    · exact Or.inl z
  · rcases cs i a ha with ⟨u1, u2⟩ | ⟨u1, u2⟩ <;> rcases cs _ b hb with ⟨v1, v2⟩ | ⟨v1, v2⟩ <;> rcases cs _ c hc with ⟨w1, w2⟩ | ⟨w1, w2⟩ <;> try omega
    · exact c5 i a b c u2 v2 w2
    · rw [w2]; exact h1 i a b (by omega) u2 v2
  · rcases cs i a ha with ⟨u1, u2⟩ | ⟨u1, u2⟩ <;> rcases cs _ b hb with ⟨v1, v2⟩ | ⟨v1, v2⟩ <;> try omega
    · rcases mS p hp with z | z
      · exact c6 i a b p u2 v2 z
      · rw [z]
        have := chn_old hs h0 hx hk h1 (k - (i + 1)) i a b (by omega) u2 v2
        omega
    · have hik : i = k := by omega
      subst hik
      rw [v2]
      rcases mS p hp with z | z
      · rcases lto_tot hs p a with w | w | w
        · by_cases hi : i = 0
          · subst hi
            have := get_un u2 f1
            subst this
            rcases f2 p z with q | q
            · subst q; exact absurd w (lto_irr hs)
            · exact absurd w (lto_asy hs q)
          · obtain ⟨a', ha'⟩ := get_ex (l := C) (i := i - 1) (by omega)
            have hb' : C[i - 1 + 1]? = some a := by rw [show i - 1 + 1 = i by omega]; exact u2
            have t1 := h1 (i - 1) a' a (by omega) ha' hb'
            have t2 := c6 (i - 1) a' a p ha' hb' z
            have e1 : vcr p a a' a = crs a' a p := by unfold vcr crs; grind
            have e2 : vcr a' a a x = crs a' a x := by unfold vcr crs; grind
            have := (tri hs w (c2 _ _ _ _ (by omega) ha' u2) (hx a (hS _ _ u2)) (by omega) (by omega)).1
            have e3 : crs a x p = vcr p a a x := by unfold vcr crs; grind
            omega
        · rw [w, crs_ab]; omega
        · exact chn_pop hs h0 hx (C.length - i - 1) i a (by omega) u2 h2 p z w
      · rw [z, crs_bb]; omega
theorem chn_edge {s : Int} (hs : sgn1 s) {S C : List Pt} {i : Nat} {a b : Pt} (h : Chn s S C) (ha : C[i]? = some a) (hb : C[i + 1]? = some b) : Ed S a b := by
  obtain ⟨c1, c2, ⟨f, f1, f2⟩, ⟨g, g1, g2⟩, c5, c6⟩ := h
  have hS : ∀ (i : Nat) q, C[i]? = some q → q ∈ S := fun i q hq => c1.subset (get_mem hq)
  have hab := c2 i (i + 1) a b (by omega) ha hb
  refine ⟨hS _ _ hb, fun q => by rw [q] at hab; exact lto_irr hs hab, fun p hp => ?_⟩
  by_cases pa : p = a
  · exact Or.inl pa
  by_cases pb : p = b
  · exact Or.inr (Or.inl pb)
  refine Or.inr (Or.inr ?_)
  have k0 := c6 i a b p ha hb hp
  rcases Int.lt_or_eq_of_le k0 with k | k
  · exact left_in k
  · have k : crs a b p = 0 := k.symm
    have hap : lto s a p := by
      rcases lto_tot hs a p with w | w | w
      · exact w
      · exact absurd w.symm pa
      · exfalso
        by_cases hi : i = 0
        · subst hi
          have := get_un ha f1
          subst this
          rcases f2 p hp with q | q
          · exact pa q
          · exact lto_asy hs w q
        · obtain ⟨a', ha'⟩ := get_ex (l := C) (i := i - 1) (by have := get_lt ha; omega)
          have hb' : C[i - 1 + 1]? = some a := by rw [show i - 1 + 1 = i by omega]; exact ha
          have hc' : C[i - 1 + 2]? = some b := by rw [show i - 1 + 2 = i + 1 by omega]; exact hb
          have t1 := c5 (i - 1) a' a b ha' hb' hc'
          have t2 := c6 (i - 1) a' a p ha' hb' hp
          have e1 : vcr p a a' a = crs a' a p := by unfold vcr crs; grind
          have e2 : vcr a' a a b = crs a' a b := by unfold vcr crs; grind
          have := (tri hs w (c2 _ _ _ _ (by omega) ha' ha) hab (by omega) (by omega)).2 (Or.inr (by omega))
          have e3 : crs a b p = vcr p a a b := by unfold vcr crs; grind
          omega
    have hpb : lto s p b := by
      rcases lto_tot hs p b with w | w | w
      · exact w
      · exact absurd w pb
      · exfalso
        by_cases hi : i + 2 < C.length
        · obtain ⟨c, hc⟩ := get_ex hi
          have t1 := c5 i a b c ha hb hc
          have t2 := c6 (i + 1) b c p hb hc hp
          have e1 : vcr a b b c = crs a b c := by unfold vcr crs; grind
          have e2 : vcr b c b p = crs b c p := by unfold vcr crs; grind
          have := (tri hs hab (c2 _ _ _ _ (by omega) hb hc) w (by omega) (by omega)).2 (Or.inl (by omega))
          have e3 : crs a b p = vcr a b b p := by unfold vcr crs; grind
          omega
        · have hl := get_lt hb
          rw [show C.length - 1 = i + 1 by omega] at g1
          have := get_un hb g1
          subst this
          rcases g2 p hp with q | q
          · exact pb q
          · exact lto_asy hs w q
    have e0' : vcr a p p b = -crs a b p := by unfold vcr crs; grind
    have e0 : vcr a p p b = 0 := by omega
    have d1 := par hs hap hpb e0
    have d0 := par hs hap hap (by unfold vcr; grind)
    have d2 := par hs hpb hpb (by unfold vcr; grind)
    have q1 : dot a p p = (p.1 - a.1) * (p.1 - a.1) + (p.2 - a.2) * (p.2 - a.2) := rfl
    have q2 : dot a b b = dot a p p + 2 * ((p.1 - a.1) * (b.1 - p.1) + (p.2 - a.2) * (b.2 - p.2)) + ((b.1 - p.1) * (b.1 - p.1) + (b.2 - p.2) * (b.2 - p.2)) := by unfold dot; grind
    have q3 : dot a p b = dot a p p + ((p.1 - a.1) * (b.1 - p.1) + (p.2 - a.2) * (b.2 - p.2)) := by unfold dot; grind
    refine ⟨?_, Or.inr ⟨by rw [crs_swap]; omega, by omega, by omega⟩⟩
    rintro (z | ⟨-, -, z⟩)
    · omega
    · omega
