/-! PURE GEOMETRY: hulls -/
theorem pop_ex {C : List Pt} {x : Pt} : ∀ k, k < C.length → (∀ (i : Nat) a b, k ≤ i → C[i]? = some a → C[i + 1]? = some b → crs a b x ≤ 0) → ∃ k, k < C.length ∧ (∀ (i : Nat) a b, i + 1 = k → C[i]? = some a → C[i + 1]? = some b → 0 < crs a b x) ∧ ∀ (i : Nat) a b, k ≤ i → C[i]? = some a → C[i + 1]? = some b → crs a b x ≤ 0
  | 0, hk, h => ⟨0, hk, fun i a b e => by omega, h⟩
  | k + 1, hk, h => by
    obtain ⟨a, ha⟩ := get_ex (l := C) (i := k) (by omega)
    obtain ⟨b, hb⟩ := get_ex hk
    rcases ilg 0 (crs a b x) with z | z
    · refine ⟨k + 1, hk, fun i a' b' e ha' hb' => ?_, h⟩
      obtain rfl : i = k := by omega
      rw [get_un ha' ha, get_un hb' hb]; exact z
    · refine pop_ex k (by omega) (fun i a' b' e ha' hb' => ?_)
      by_cases hi : i = k
      · subst hi
        rw [get_un ha' ha, get_un hb' hb]; exact z
      · exact h i a' b' (by omega) ha' hb'
theorem chn_ex_r {s : Int} (hs : sgn1 s) : ∀ U : List Pt, U ≠ [] → U.Pairwise (fun a b => lto s b a) → ∃ C, Chn s U.reverse C
  | [], h, _ => absurd rfl h
  | [x], _, _ => ⟨[x], chn_one x⟩
  | x :: y :: U, _, hp => by
    rw [List.pairwise_cons] at hp
    obtain ⟨C, hC⟩ := chn_ex_r hs (y :: U) (by simp) hp.2
    have hx : ∀ p, p ∈ (y :: U).reverse → lto s p x := fun p h => hp.1 p (List.mem_reverse.mp h)
    obtain ⟨f, f1, -⟩ := hC.2.2.1
    have hl := get_lt f1
    obtain ⟨k, k1, k2, k3⟩ := pop_ex (C := C) (x := x) (C.length - 1) (by omega) (fun i a b hi ha hb => by have := get_lt hb; omega)
    rw [List.reverse_cons]
    exact ⟨_, chn_push hs hC hx k1 k2 k3⟩
theorem Ed.mem {S S' : List Pt} {a b : Pt} (h : Ed S a b) (e : ∀ p, p ∈ S' ↔ p ∈ S) : Ed S' a b := ⟨(e b).mpr h.1, h.2.1, fun p hp => h.2.2 p ((e p).mp hp)⟩
theorem GW_chn {S S' C D : List Pt} (h : Chn 1 S C) (g : Chn (-1) S' D) (e : ∀ p, p ∈ S' ↔ p ∈ S) (h2 : 2 ≤ C.length) : 2 ≤ D.length ∧ GW S (C.take (C.length - 1) ++ D.take (D.length - 1)) := by
  have h0 := h
  have g0 := g
  obtain ⟨c1, c2, ⟨f, f1, f2⟩, ⟨t, t1, t2⟩, -, -⟩ := h
  obtain ⟨d1, d2, ⟨t', u1, u2⟩, ⟨f', v1, v2⟩, -, -⟩ := g
  have fS : f ∈ S := c1.subset (get_mem f1)
  have tS : t ∈ S := c1.subset (get_mem t1)
  have f'S : f' ∈ S := (e _).mp (d1.subset (get_mem v1))
  have t'S : t' ∈ S := (e _).mp (d1.subset (get_mem u1))
  have ef : f' = f := by
    rcases f2 f' f'S with z | z
    · exact z
    · rcases v2 f ((e _).mpr fS) with w | w
      · exact w.symm
      · rw [lto_1] at z; rw [lto_m] at w; exact absurd w (fun q => ltP_asy z q)
  have et : t' = t := by
    rcases t2 t' t'S with z | z
    · exact z
    · rcases u2 t ((e _).mpr tS) with w | w
      · exact w.symm
      · rw [lto_1] at z; rw [lto_m] at w; exact absurd w (fun q => ltP_asy z q)
  subst ef
  subst et
  have hft : lto 1 f' t' := c2 0 (C.length - 1) f' t' (by omega) f1 t1
  have dpos := get_lt u1
  have hD : 2 ≤ D.length := by
    by_cases z : D.length = 1
    · rw [z] at v1
      have := get_un u1 v1
      rw [this] at hft; exact absurd hft (lto_irr (Or.inl rfl))
    · omega
  refine ⟨hD, ?_⟩
  have l1 : (C.take (C.length - 1)).length = C.length - 1 := by rw [List.length_take]; omega
  have l2 : (D.take (D.length - 1)).length = D.length - 1 := by rw [List.length_take]; omega
  have hL : (C.take (C.length - 1) ++ D.take (D.length - 1)).length = (C.length - 1) + (D.length - 1) := by rw [List.length_append, l1, l2]
  have get : ∀ (i : Nat) p, (C.take (C.length - 1) ++ D.take (D.length - 1))[i]? = some p → (i < C.length - 1 ∧ C[i]? = some p) ∨ (C.length - 1 ≤ i ∧ i < (C.length - 1) + (D.length - 1) ∧ D[i - (C.length - 1)]? = some p) := fun i p hp => by
    by_cases hi : i < C.length - 1
    · rw [List.getElem?_append_left (by omega), List.getElem?_take, if_pos hi] at hp
      exact Or.inl ⟨hi, hp⟩
    · have hi2 := get_lt hp
      rw [List.getElem?_append_right (by omega), l1, List.getElem?_take, if_pos (by omega)] at hp
      exact Or.inr ⟨by omega, by omega, hp⟩
  refine ⟨f', ?_, fS, fun p hp => ?_, fun i b hi hb => ?_, Or.inr (fun i a b ha hb => ?_)⟩
  · rw [List.getElem?_append_left (by omega), List.getElem?_take, if_pos (by omega)]; exact f1
  · rcases f2 p hp with z | z
    · exact Or.inl z
    · exact Or.inr (lto_1.mp z)
  · rcases get i b hb with ⟨w1, w2⟩ | ⟨w1, w2, w3⟩
    · have := c2 0 i f' b hi f1 w2
      intro q; rw [q] at this; exact lto_irr (Or.inl rfl) this
    · have := d2 (i - (C.length - 1)) (D.length - 1) b f' (by omega) w3 v1
      intro q; rw [q] at this; exact lto_irr (Or.inr rfl) this
  · rw [hL] at hb
    have hi := get_lt ha
    rw [hL] at hi
    rcases get i a ha with ⟨w1, w2⟩ | ⟨w1, w2, w3⟩
    · rw [Nat.mod_eq_of_lt (by omega)] at hb
      rcases get _ b hb with ⟨x1, x2⟩ | ⟨x1, x2, x3⟩
      · exact chn_edge (Or.inl rfl) h0 w2 x2
      · rw [show i + 1 - (C.length - 1) = 0 by omega] at x3
        have := get_un u1 x3
        subst this
        rw [show C.length - 1 = i + 1 by omega] at t1
        exact chn_edge (Or.inl rfl) h0 w2 t1
    · by_cases hj : i + 1 < (C.length - 1) + (D.length - 1)
      · rw [Nat.mod_eq_of_lt hj] at hb
        rcases get _ b hb with ⟨x1, x2⟩ | ⟨x1, x2, x3⟩
        · omega
        · rw [show i + 1 - (C.length - 1) = (i - (C.length - 1)) + 1 by omega] at x3
          exact (chn_edge (Or.inr rfl) g0 w3 x3).mem (fun p => (e p).symm)
      · rw [show i + 1 = (C.length - 1) + (D.length - 1) by omega, Nat.mod_self] at hb
        rcases get _ b hb with ⟨x1, x2⟩ | ⟨x1, x2, x3⟩
        · have := get_un x2 f1
          subst this
          rw [show D.length - 1 = (i - (C.length - 1)) + 1 by omega] at v1
          exact (chn_edge (Or.inr rfl) g0 w3 v1).mem (fun p => (e p).symm)
        · omega
theorem ins_srt : ∀ (T : List Pt) (x : Pt), T.Pairwise ltP → ∃ T' : List Pt, T'.Pairwise ltP ∧ (∀ p, p ∈ T' ↔ p = x ∨ p ∈ T) ∧ T'.length ≤ T.length + 1
  | [], x, _ => ⟨[x], List.pairwise_singleton _ _, fun p => by simp, by simp⟩
  | y :: T, x, h => by
    rw [List.pairwise_cons] at h
    rcases ltP_tot x y with z | z | z
    · refine ⟨x :: y :: T, ?_, fun p => by simp, by simp⟩
      rw [List.pairwise_cons, List.pairwise_cons]
      refine ⟨fun p hp => ?_, h⟩
      rcases List.mem_cons.mp hp with w | w
      · rw [w]; exact z
      · exact ltP_tr z (h.1 p w)
    · subst z
      refine ⟨x :: T, List.pairwise_cons.mpr h, fun p => by simp, by simp⟩
    · obtain ⟨T', t1, t2, t3⟩ := ins_srt T x h.2
      refine ⟨y :: T', List.pairwise_cons.mpr ⟨fun p hp => ?_, t1⟩, fun p => ?_, by simp only [List.length_cons]; omega⟩
      · rcases (t2 p).mp hp with w | w
        · rw [w]; exact z
        · exact h.1 p w
      · rw [List.mem_cons, t2, List.mem_cons]
        constructor
        · rintro (w | w | w)
          · exact Or.inr (Or.inl w)
          · exact Or.inl w
          · exact Or.inr (Or.inr w)
        · rintro (w | w | w)
          · exact Or.inr (Or.inl w)
          · exact Or.inl w
          · exact Or.inr (Or.inr w)
theorem srt_ex : ∀ S : List Pt, ∃ T : List Pt, T.Pairwise ltP ∧ (∀ p, p ∈ T ↔ p ∈ S) ∧ T.length ≤ S.length
  | [] => ⟨[], List.Pairwise.nil, fun p => Iff.rfl, Nat.le_refl _⟩
  | x :: S => by
    obtain ⟨T, t1, t2, t3⟩ := srt_ex S
    obtain ⟨T', u1, u2, u3⟩ := ins_srt T x t1
    exact ⟨T', u1, fun p => by rw [u2, t2, List.mem_cons], by simp only [List.length_cons]; omega⟩
theorem chn_all {T : List Pt} (h : T ≠ []) (hp : T.Pairwise ltP) : (∃ C, Chn 1 T C) ∧ ∃ D, Chn (-1) T.reverse D := by
  constructor
  · obtain ⟨C, hC⟩ := chn_ex_r (s := 1) (Or.inl rfl) T.reverse (by simpa using h) (by rw [List.pairwise_reverse]; exact hp.imp (fun q => lto_1.mpr q))
    rw [List.reverse_reverse] at hC
    exact ⟨C, hC⟩
  · exact chn_ex_r (s := -1) (Or.inr rfl) T h (hp.imp (fun q => lto_m.mpr q))
theorem hull_ex {S : List Pt} (h : S ≠ []) : ∃ L, GW S L ∧ L.length ≤ 2 * S.length := by
  obtain ⟨T, t1, t2, t3⟩ := srt_ex S
  have hT : T ≠ [] := fun q => by
    subst q
    match S, h with
    | x :: S, _ => exact absurd ((t2 x).mpr List.mem_cons_self) (by simp)
  obtain ⟨⟨C, hC⟩, D, hD⟩ := chn_all hT t1
  by_cases h2 : 2 ≤ C.length
  · obtain ⟨-, hG⟩ := GW_chn hC hD (fun p => List.mem_reverse) h2
    refine ⟨_, hG.mem (fun p => (t2 p).symm), ?_⟩
    have a1 := hC.1.length_le
    have a2 := hD.1.length_le
    rw [List.length_reverse] at a2
    rw [List.length_append, List.length_take, List.length_take]
    omega
  · obtain ⟨c1, -, ⟨f, f1, f2⟩, ⟨t, g1, g2⟩, -⟩ := hC
    have := get_lt f1
    rw [show C.length - 1 = 0 by omega] at g1
    have := get_un f1 g1
    subst this
    have fS : f ∈ S := (t2 _).mp (c1.subset (get_mem f1))
    have all : ∀ p, p ∈ S → p = f := fun p hp => by
      have hpT := (t2 p).mpr hp
      rcases f2 p hpT with z | z
      · exact z
      · rcases g2 p hpT with w | w
        · exact w
        · exact absurd w (lto_asy (Or.inl rfl) z)
    refine ⟨[f], ⟨f, rfl, fS, fun p hp => Or.inl (all p hp), fun i b hi hb => ?_, Or.inl ⟨rfl, all⟩⟩, ?_⟩
    · have := get_lt hb; simp at this; omega
    · have : S.length ≠ 0 := fun q => h (List.eq_nil_of_length_eq_zero q)
      simp only [List.length_singleton]; omega
/-! what a wrapped ring is -/
theorem Ed_un {S : List Pt} {a b b' : Pt} (h : Ed S a b) (g : Ed S a b') : b = b' := by
  rcases h.2.2 b' g.1 with z | z | ⟨z1, z2⟩
  · exact absurd z g.2.1
  · exact z.symm
  · rcases g.2.2 b h.1 with w | w | ⟨w1, -⟩
    · exact absurd w h.2.1
    · exact w
    · exact absurd z2 w1
theorem GW.ed {S L : List Pt} (h : GW S L) (h2 : 2 ≤ L.length) {i : Nat} {a b : Pt} (ha : L[i]? = some a) (hb : L[(i + 1) % L.length]? = some b) : Ed S a b := by
  obtain ⟨f, -, -, -, -, h5⟩ := h
  rcases h5 with ⟨z, -⟩ | z
  · omega
  · exact z i a b ha hb
theorem GW_in {S L : List Pt} (h : GW S L) : ∀ p, p ∈ L → p ∈ S := fun p hp => by
  obtain ⟨i, hi, hip⟩ := mem_get hp
  have h0 := h
  obtain ⟨f, f1, f2, -, -, -⟩ := h
  by_cases hi0 : i = 0
  · subst hi0; rw [get_un hip f1]; exact f2
  · obtain ⟨a, ha⟩ := get_ex (l := L) (i := i - 1) (by omega)
    exact (h0.ed (by omega) ha (by rw [show i - 1 + 1 = i by omega, Nat.mod_eq_of_lt hi]; exact hip)).1
theorem GW_ds {S L : List Pt} (h : GW S L) : Ds L := by
  have key : ∀ (d i j : Nat) p, i < j → j + d + 1 = L.length → L[i]? = some p → L[j]? = some p → False := by
    obtain ⟨f, f1, f2, f3, f4, -⟩ := id h
    intro d
    induction d with
    | zero =>
      intro i j p hij hj hi hjp
      obtain ⟨q, hq⟩ := get_ex (l := L) (i := i + 1) (by omega)
      have e1 := h.ed (by omega) hi (by rw [Nat.mod_eq_of_lt (by omega)]; exact hq)
      have e2 := h.ed (by omega) hjp (by rw [show j + 1 = L.length by omega, Nat.mod_self]; exact f1)
      exact f4 (i + 1) q (by omega) hq (Ed_un e1 e2)
    | succ d ih =>
      intro i j p hij hj hi hjp
      obtain ⟨q, hq⟩ := get_ex (l := L) (i := i + 1) (by omega)
      obtain ⟨r, hr⟩ := get_ex (l := L) (i := j + 1) (by omega)
      have e1 := h.ed (by omega) hi (by rw [Nat.mod_eq_of_lt (by omega)]; exact hq)
      have e2 := h.ed (by omega) hjp (by rw [Nat.mod_eq_of_lt (by omega)]; exact hr)
      have := Ed_un e1 e2
      subst this
      exact ih (i + 1) (j + 1) q (by omega) (by omega) hq hr
  intro i j p hi hj
  have li := get_lt hi
  have lj := get_lt hj
  rcases Nat.lt_trichotomy i j with g | g | g
  · exact absurd (key (L.length - 1 - j) i j p g (by omega) hi hj) id
  · exact g
  · exact absurd (key (L.length - 1 - i) j i p g (by omega) hj hi) id
theorem GW_lst {S L : List Pt} (h : GW S L) : lstF L := by
  have hin := GW_in h
  obtain ⟨f, f1, f2, f3, f4, -⟩ := h
  intro a ha i b hi hb
  rw [get_un ha f1]
  rcases f3 b (hin b (get_mem hb)) with z | z
  · exact absurd z (f4 i b hi hb)
  · exact z
theorem GW_le {S L : List Pt} (h : GW S L) (h2 : 2 ≤ L.length) {i : Nat} {a b : Pt} (ha : L[i]? = some a) (hb : L[(i + 1) % L.length]? = some b) : ∀ p, p ∈ S → 0 ≤ crs a b p := fun p hp => by
  rcases (h.ed h2 ha hb).2.2 p hp with z | z | ⟨z, -⟩
  · rw [z, crs_ab]; omega
  · rw [z, crs_bb]; omega
  · unfold out at z; omega
/-- every other corner is left of every side -/
def AL (l : List Pt) : Prop := ∀ (i k : Nat) a b p, l[i]? = some a → l[(i + 1) % l.length]? = some b → l[k]? = some p → k ≠ i → k ≠ (i + 1) % l.length → 0 < crs a b p
theorem AL_Cv {l : List Pt} (h : AL l) : Cv l := by
  intro i j k a b c hij hjk ha hb hc
  have hkl := get_lt hc
  have main : ∀ (d j : Nat) b, j = i + 1 + d → j < k → l[j]? = some b → 0 < crs a b c := by
    intro d
    induction d with
    | zero =>
      intro j b hj hjk hb
      exact h i k a b c ha (by rw [Nat.mod_eq_of_lt (by omega), ← show j = i + 1 by omega]; exact hb) hc (by omega) (by rw [Nat.mod_eq_of_lt (by omega)]; omega)
    | succ d ih =>
      intro j b hj hjk hb
      obtain ⟨b0, hb0⟩ := get_ex (l := l) (i := j - 1) (by omega)
      have p1 := ih (j - 1) b0 (by omega) (by omega) hb0
      have hb' : l[(j - 1 + 1) % l.length]? = some b := by rw [show j - 1 + 1 = j by omega, Nat.mod_eq_of_lt (by omega)]; exact hb
      have em : (j - 1 + 1) % l.length = j := by rw [show j - 1 + 1 = j by omega, Nat.mod_eq_of_lt (by omega)]
      have p2 := h (j - 1) i b0 b a hb0 hb' ha (by omega) (by omega)
      have p3 := h (j - 1) k b0 b c hb0 hb' hc (by omega) (by omega)
      have hm : (k + 1) % l.length < l.length := Nat.mod_lt _ (by omega)
      obtain ⟨e, he⟩ := get_ex hm
      have mk : (k + 1) % l.length = k + 1 ∨ (k + 1) % l.length = 0 := by
        by_cases z : k + 1 < l.length
        · exact Or.inl (Nat.mod_eq_of_lt z)
        · rw [show k + 1 = l.length by omega, Nat.mod_self]; exact Or.inr rfl
      have g1 := h k (j - 1) c e b0 hc he hb0 (by omega) (by omega)
      have g2 := h k j c e b hc he hb (by omega) (by omega)
      have g0 : 0 ≤ crs c e a := by
        by_cases z : i = (k + 1) % l.length
        · rw [← z] at he
          rw [get_un he ha, crs_bb]; omega
        · have := h k i c e a hc he ha (by omega) z
          omega
      rcases ilg 0 (crs a b c) with z | z
      · exact z
      · exfalso
        have id : crs b0 b c * crs c e a + -crs a b c * crs c e b0 + crs a b0 c * crs c e b = 0 := by unfold crs; grind
        have m1 := Int.mul_nonneg (show 0 ≤ crs b0 b c by omega) g0
        have m2 := Int.mul_nonneg (show 0 ≤ -crs a b c by omega) (show 0 ≤ crs c e b0 by omega)
        have m3 := Int.mul_pos p1 g2
        omega
  exact main (j - i - 1) j b (by omega) hjk hb
theorem GW_AL {S L : List Pt} (h : GW S L) (h2 : 2 ≤ L.length) : AL L := by
  intro i k a b p ha hb hp hki hkj
  have hin := GW_in h
  have ds := GW_ds h
  have hk := get_lt hp
  have pS := hin p (get_mem hp)
  have aS := hin a (get_mem ha)
  have bS := hin b (get_mem hb)
  have pa : p ≠ a := fun q => hki (ds _ _ _ (by rw [q] at hp; exact hp) ha)
  have pb : p ≠ b := fun q => hkj (ds _ _ _ (by rw [q] at hp; exact hp) hb)
  have e1 := h.ed h2 ha hb
  have ab : b ≠ a := e1.2.1
  rcases e1.2.2 p pS with z | z | ⟨z1, z2⟩
  · exact absurd z pa
  · exact absurd z pb
  · rcases ilg 0 (crs a b p) with w | w
    · exact w
    · exfalso
      have c0 : crs a b p = 0 := by unfold out at z1; omega
      have z3 : 0 < dot a p b ∧ dot a p p < dot a b b := by
        rcases z2 with q | ⟨-, q1, q2⟩
        · rw [crs_swap] at q; omega
        · exact ⟨q1, q2⟩
      -- p lies between a and b
      have sq : ∀ x : Int, 0 ≤ x * x := fun x => by
        rcases Int.le_total 0 x with z | z
        · exact Int.mul_nonneg z z
        · exact Int.mul_nonneg_of_nonpos_of_nonpos z z
      have sq0 : ∀ x : Int, x * x = 0 → x = 0 := fun x h => by
        rcases Int.mul_eq_zero.mp h with z | z <;> exact z
      have nrm : ∀ u v : Pt, u ≠ v → 0 < dot v u u := fun u v huv => by
        have i1 := sq (u.1 - v.1)
        have i2 := sq (u.2 - v.2)
        have e : dot v u u = (u.1 - v.1) * (u.1 - v.1) + (u.2 - v.2) * (u.2 - v.2) := rfl
        rcases ilg 0 (dot v u u) with z | z
        · exact z
        · exfalso
          have j1 := sq0 _ (show (u.1 - v.1) * (u.1 - v.1) = 0 by omega)
          have j2 := sq0 _ (show (u.2 - v.2) * (u.2 - v.2) = 0 by omega)
          exact huv (Prod.ext (by omega) (by omega))
      have np := nrm p a pa
      have idq : dot a p b * dot a p b + crs a b p * crs a b p = dot a p p * dot a b b := by unfold dot crs; grind
      have big : dot a p p < dot a p b := by
        rcases ilg (dot a p p) (dot a p b) with z | z
        · exact z
        · exfalso
          have m1 := Int.mul_le_mul z z (show 0 ≤ dot a p b by omega) (show 0 ≤ dot a p p by omega)
          have m2 := Int.mul_lt_mul_of_pos_left z3.2 np
          rw [c0, Int.mul_zero] at idq
          omega
      have neg : dot p a b < 0 := by
        have : dot p a b = dot a p p - dot a p b := by unfold dot; grind
        omega
      have cp0 : crs p a b = 0 := by have := crs_rot2 a b p; omega
      obtain ⟨q, hq⟩ := get_ex (l := L) (i := (k + 1) % L.length) (Nat.mod_lt _ (by omega))
      have e2 := h.ed h2 hp hq
      have qp : q ≠ p := e2.2.1
      have nq := nrm q p qp
      have na := nrm a p (fun z => pa z.symm)
      -- both lie on the line of p and q
      have idc : dot p a a * crs p q b = dot p a b * crs p q a + dot p q a * crs p a b := by unfold dot crs; grind
      have idg : dot p q q * dot p a b = dot p a q * dot p b q + crs p q a * crs p q b := by unfold dot crs; grind
      have nob : ¬ out p q a ∧ ¬ out p q b := by
        constructor
        · rcases e2.2.2 a aS with z | z | ⟨z, -⟩
          · exact absurd z.symm pa
          · rw [z]; exact nout_self
          · exact z
        · rcases e2.2.2 b bS with z | z | ⟨z, -⟩
          · exact absurd z.symm pb
          · rw [z]; exact nout_self
          · exact z
      have ca : 0 ≤ crs p q a := by have := nob.1; unfold out at this; omega
      have cb : 0 ≤ crs p q b := by have := nob.2; unfold out at this; omega
      rw [cp0, Int.mul_zero] at idc
      have m1 := Int.mul_nonneg (show 0 ≤ dot p a a by omega) cb
      have m2 := Int.mul_nonneg (show 0 ≤ -dot p a b by omega) ca
      have m3 : -dot p a b * crs p q a = -(dot p a b * crs p q a) := by rw [Int.neg_mul]
      have cb0 : crs p q b = 0 := (Int.mul_eq_zero.mp (show dot p a a * crs p q b = 0 by omega)).resolve_left (by omega)
      have ca0 : crs p q a = 0 := (Int.mul_eq_zero.mp (show dot p a b * crs p q a = 0 by omega)).resolve_left (by omega)
      have da : a = q ∨ 0 < dot p a q := by
        rcases e2.2.2 a aS with z | z | ⟨-, z⟩
        · exact absurd z.symm pa
        · exact Or.inl z
        · rcases z with z | ⟨-, z, -⟩
          · rw [crs_swap] at z; omega
          · exact Or.inr z
      have db : b = q ∨ 0 < dot p b q := by
        rcases e2.2.2 b bS with z | z | ⟨-, z⟩
        · exact absurd z.symm pb
        · exact Or.inl z
        · rcases z with z | ⟨-, z, -⟩
          · rw [crs_swap] at z; omega
          · exact Or.inr z
      have sy : dot p b a = dot p a b := by unfold dot; grind
      rcases da with z | z
      · subst z
        rcases db with w | w
        · exact ab w
        · omega
      · rcases db with w | w
        · subst w; omega
        · have := Int.mul_pos z w
          have m4 := Int.mul_neg_of_pos_of_neg nq neg
          rw [ca0, Int.zero_mul] at idg
          omega
theorem GW_Cv {S L : List Pt} (h : GW S L) (h2 : 2 ≤ L.length) : Cv L := AL_Cv (GW_AL h h2)
