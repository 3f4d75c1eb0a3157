/-! third: the ring that goes round them, pure -/
theorem zz {w0 w1 u v ga gb : Int} (h : 0 < w0) (e1 : w0 * ga + w1 * gb = 0) (e2 : w0 * u + w1 * v = 0) : u * gb - v * ga = 0 := by
  have e : w0 * (u * gb - v * ga) = (w0 * u + w1 * v) * gb - (w0 * ga + w1 * gb) * v := by grind
  rw [e1, e2] at e
  rcases Int.mul_eq_zero.mp (show w0 * (u * gb - v * ga) = 0 by rw [e]; omega) with c | c
  · omega
  · exact c
theorem sd_vx {l : List Pt} {a b : Pt} (h : sd l a b) : ∃ i, i < l.length ∧ a = vx l i ∧ b = vx l (i + 1) := by
  obtain ⟨i, h1, h2⟩ := h
  have hi := get_lt h1
  refine ⟨i, hi, ?_, ?_⟩
  · rw [vx_lt hi]; exact (gp_of h1).symm
  · exact (gp_of h2).symm
section TQ
variable {A B : List Pt}
theorem aS_h1 {x : Pt} (hx : x ∈ A) (h : inP B x) : x ∈ aS A B := by
  obtain ⟨i, hi, g⟩ := mem_get hx
  exact List.mem_append_left _ (List.mem_append_left _ ((hlL_mem _).mpr ⟨i, hi, (gp_of g).symm, h⟩))
theorem aS_h2 {x : Pt} (hx : x ∈ B) (h : inP A x) : x ∈ aS A B := by
  obtain ⟨i, hi, g⟩ := mem_get hx
  exact List.mem_append_left _ (List.mem_append_right _ ((hlL_mem _).mpr ⟨i, hi, (gp_of g).symm, h⟩))
theorem aS_x {i k : Nat} (hi : i < A.length) (hk : k < B.length) (h : xc A B i k) : xpt A B i k ∈ aS A B := List.mem_append_right _ ((xaL_mem _).mpr ⟨i, k, hi, hk, h, rfl⟩)
theorem TC_z {G : Hp} (hX : allX A B) (hz : ∀ p, p ∈ aS A B → gv G (hpt p) = 0) : TC A B G := by
  refine ⟨fun c hc h => Int.le_of_eq (hz c (aS_h1 hc h)), fun d hd h => Int.le_of_eq (hz d (aS_h2 hd h)), fun a b c d s1 s2 => ?_⟩
  obtain ⟨i, hi, rfl, rfl⟩ := sd_vx s1
  obtain ⟨k, hk, rfl, rfl⟩ := sd_vx s2
  have go : xc A B i k → crs (vx B k) (vx B (k + 1)) (vx A i) * gv G (hpt (vx A (i + 1))) - crs (vx B k) (vx B (k + 1)) (vx A (i + 1)) * gv G (hpt (vx A i)) = 0 := fun h => by
    have w := hX i k hi hk h
    obtain ⟨y1, y2⟩ := x_sym h.1
    obtain ⟨w0, w1, o, -, z⟩ := mt_on h.2 (y1.mpr w)
    have m := hz _ (aS_x hi hk h)
    have e0 : xpt A B i k = mtP (vx B k) (vx B (k + 1)) (vx A i) (vx A (i + 1)) := (y2 w).symm
    rw [e0] at m
    have e1 := o.2.2 G
    have e2 := o.2.2 (fG (vx B k) (vx B (k + 1)))
    simp only [gv_fG] at e2
    rw [z, Int.mul_zero] at e2
    rw [m, Int.mul_zero] at e1
    exact zz o.1 e1.symm e2.symm
  exact ⟨fun u v m n => Int.le_of_eq (go ⟨Or.inr ⟨m, n⟩, Or.inl ⟨u, v⟩⟩), fun u v m n => by have := go ⟨Or.inl ⟨m, n⟩, Or.inr ⟨u, v⟩⟩; omega⟩
theorem gv_neg (G x : Hp) : gv (-G.1, -G.2.1, -G.2.2) x = -gv G x := by unfold gv; grind
theorem ovr_z (hA : Cv A) (A3 : 3 ≤ A.length) (hB : Cv B) (B3 : 3 ≤ B.length) (bA : inBs A) (bB : inBs B) (ov : ovr A B) (hX : allX A B) {G : Hp} (hG : ¬ (G.1 = 0 ∧ G.2.1 = 0)) (hz : ∀ p, p ∈ aS A B → gv G (hpt p) = 0) : False :=
  ovr_T hA A3 hB B3 bA bB ov hG (TC_z hX hz) (TC_z hX (fun p hp => by rw [gv_neg, hz p hp]; rfl))
theorem ovr_3 (hA : Cv A) (A3 : 3 ≤ A.length) (hB : Cv B) (B3 : 3 ≤ B.length) (bA : inBs A) (bB : inBs B) (ov : ovr A B) (hX : allX A B) : aS A B ≠ [] ∧ ∀ L, GW (aS A B) L → 3 ≤ L.length := by
  have no := fun {G : Hp} => ovr_z (G := G) hA A3 hB B3 bA bB ov hX
  refine ⟨fun q => no (G := (1, 0, 0)) (by decide) (fun p hp => by rw [q] at hp; cases hp), fun L hL => ?_⟩
  have hL0 := hL
  obtain ⟨f, h0, h1, h2, h3, h4⟩ := hL
  have l0 := get_lt h0
  rcases Nat.lt_or_ge L.length 3 with c | c
  · by_cases z1 : L.length = 1
    · have al : ∀ p, p ∈ aS A B → p = f := by
        rcases h4 with ⟨-, h⟩ | h
        · exact h
        · have e := h 0 f f h0 (by rw [z1]; exact h0)
          exact absurd rfl e.2.1
      refine (no (G := (1, 0, -f.1)) (by simp) (fun p hp => ?_)).elim
      rw [al p hp]
      unfold gv hpt
      show 1 * f.1 + 0 * f.2 + -f.1 * 1 = 0
      omega
    · obtain ⟨g, hg⟩ := get_ex (show 1 < L.length by omega)
      have a1 := GW_le hL0 (by omega) h0 (show L[(0 + 1) % L.length]? = some g by rw [Nat.mod_eq_of_lt (by omega)]; exact hg)
      have a2 := GW_le hL0 (by omega) hg (show L[(1 + 1) % L.length]? = some f by rw [show L.length = 2 by omega]; exact h0)
      have ne := h3 1 g (by omega) hg
      refine (no (G := fG f g) (fun q => ne ?_) (fun p hp => ?_)).elim
      · have q1 : f.2 - g.2 = 0 := q.1
        have q2 : g.1 - f.1 = 0 := q.2
        exact Prod.ext (by omega) (by omega)
      · rw [gv_fG]
        have b1 := a1 p hp
        have b2 := a2 p hp
        have e : crs g f p = -crs f g p := by unfold crs; grind
        omega
  · exact c
theorem xc_no {i k : Nat} (h1 : ¬ (0 < crs (vx B k) (vx B (k + 1)) (vx A i) ∧ crs (vx B k) (vx B (k + 1)) (vx A (i + 1)) < 0 ∧ crs (vx A i) (vx A (i + 1)) (vx B k) < 0 ∧ 0 < crs (vx A i) (vx A (i + 1)) (vx B (k + 1)))) (h2 : ¬ (crs (vx B k) (vx B (k + 1)) (vx A i) < 0 ∧ 0 < crs (vx B k) (vx B (k + 1)) (vx A (i + 1)) ∧ 0 < crs (vx A i) (vx A (i + 1)) (vx B k) ∧ crs (vx A i) (vx A (i + 1)) (vx B (k + 1)) < 0)) : ¬ xc A B i k := by
  rintro ⟨x, y⟩
  have h4 := mix4 (vx A i) (vx A (i + 1)) (vx B k) (vx B (k + 1))
  unfold opp at x y
  omega
theorem novr_2 (hA : Cv A) (A3 : 3 ≤ A.length) (hB : Cv B) (B3 : 3 ≤ B.length) (ov : ¬ ovr A B) : (∀ i k, i < A.length → k < B.length → ¬ xc A B i k) ∧ ∀ L, GW (aS A B) L → L.length < 3 := by
  have ex : ∃ a b : Pt, a ≠ b ∧ (∀ p, p ∈ A → inP B p → crs a b p = 0) ∧ (∀ p, p ∈ B → inP A p → crs a b p = 0) ∧ ∀ i k, i < A.length → k < B.length → ¬ xc A B i k := by
    by_cases c : ptsF A B
    · obtain ⟨i, hi, hn⟩ := c
      have s := vx_sd hi
      obtain ⟨n1, n2, n3⟩ := novr hA A3 hB B3 s (fun d hd => by
        obtain ⟨j, hj, g⟩ := mem_get hd
        exact hn _ _ (by rw [vx_lt hi]; exact gp_get hi) (gp_get (mod_lt' hi)) j d g)
      exact ⟨_, _, sd_ne hA A3 s, n1, n2, fun i k hi hk => xc_no (n3 _ _ _ _ (vx_sd hi) (vx_sd hk)).1 (n3 _ _ _ _ (vx_sd hi) (vx_sd hk)).2⟩
    · have c2 : ptsF B A := by
        by_cases z : ptsF B A
        · exact z
        · exact absurd ⟨c, z⟩ ov
      obtain ⟨i, hi, hn⟩ := c2
      have s := vx_sd hi
      obtain ⟨n1, n2, n3⟩ := novr hB B3 hA A3 s (fun d hd => by
        obtain ⟨j, hj, g⟩ := mem_get hd
        exact hn _ _ (by rw [vx_lt hi]; exact gp_get hi) (gp_get (mod_lt' hi)) j d g)
      refine ⟨_, _, sd_ne hB B3 s, n2, n1, fun i k hi hk => ?_⟩
      have n := n3 _ _ _ _ (vx_sd hk) (vx_sd hi)
      refine xc_no (fun ⟨x, y, z, w⟩ => n.2 ⟨?_, ?_, ?_, ?_⟩) (fun ⟨x, y, z, w⟩ => n.1 ⟨?_, ?_, ?_, ?_⟩) <;> assumption
  obtain ⟨a, b, ne, e1, e2, e3⟩ := ex
  refine ⟨e3, fun L hL => ?_⟩
  have on : ∀ p, p ∈ aS A B → crs a b p = 0 := fun p hp => by
    unfold aS at hp
    rcases List.mem_append.mp hp with h | h
    · rcases List.mem_append.mp h with h | h
      · obtain ⟨i, h1, h2, h3⟩ := (hlL_mem _).mp h
        exact e1 p (by rw [h2]; exact get_mem (gp_get h1)) h3
      · obtain ⟨i, h1, h2, h3⟩ := (hlL_mem _).mp h
        exact e2 p (by rw [h2]; exact get_mem (gp_get h1)) h3
    · obtain ⟨i, k, h1, h2, h3, h4⟩ := (xaL_mem _).mp h
      exact absurd h3 (e3 i k h1 h2)
  rcases Nat.lt_or_ge L.length 3 with c | c
  · exact c
  · obtain ⟨x, hx⟩ := get_ex (show 0 < L.length by omega)
    obtain ⟨y, hy⟩ := get_ex (show 1 < L.length by omega)
    obtain ⟨z, hz⟩ := get_ex (show 2 < L.length by omega)
    have h1 := GW_Cv hL (by omega) 0 1 2 x y z (by decide) (by decide) hx hy hz
    have h2 := collin ne (on x (GW_in hL x (get_mem hx))) (on y (GW_in hL y (get_mem hy))) (on z (GW_in hL z (get_mem hz)))
    omega
theorem aS_len (hB : Cv B) (h16 : A.length ≤ 16) (k16 : B.length ≤ 16) : (aS A B).length ≤ 64 := by
  unfold aS
  rw [List.length_append, List.length_append]
  have h1 := hlL_len (A := A) (B := B) A.length
  have h2 := hlL_len (A := B) (B := A) B.length
  have h3 := xaL_len (A := A) (B := B) hB A.length
  omega
end TQ
theorem ins_at {T : List Pt} {x : Pt} {k : Nat} (hp : T.Pairwise ltP) (h1 : ∀ (i : Nat) a, i < k → T[i]? = some a → ltP a x) (h2 : ∀ (i : Nat) a, k ≤ i → T[i]? = some a → ltP x a) : (T.take k ++ x :: T.drop k).Pairwise ltP ∧ ∀ p, p ∈ T.take k ++ x :: T.drop k ↔ p = x ∨ p ∈ T := by
  have lo : ∀ a, a ∈ T.take k → ltP a x := fun a ha => by
    obtain ⟨i, hi, g⟩ := mem_get ha
    rw [List.length_take] at hi
    rw [List.getElem?_take, if_pos (by omega)] at g
    exact h1 i a (by omega) g
  have hi2 : ∀ a, a ∈ T.drop k → ltP x a := fun a ha => by
    obtain ⟨i, hi, g⟩ := mem_get ha
    rw [List.getElem?_drop] at g
    exact h2 _ a (by omega) g
  constructor
  · rw [List.pairwise_append, List.pairwise_cons]
    refine ⟨hp.sublist (List.take_sublist k T), ⟨hi2, hp.sublist (List.drop_sublist k T)⟩, fun a ha b hb => ?_⟩
    rcases List.mem_cons.mp hb with rfl | hb
    · exact lo a ha
    · exact ltP_tr (lo a ha) (hi2 b hb)
  · intro p
    rw [List.mem_append, List.mem_cons]
    constructor
    · rintro (h | h | h)
      · exact Or.inr (List.mem_of_mem_take h)
      · exact Or.inl h
      · exact Or.inr (List.mem_of_mem_drop h)
    · rintro (h | h)
      · exact Or.inr (Or.inl h)
      · rw [← List.take_append_drop k T] at h
        rcases List.mem_append.mp h with h | h
        · exact Or.inl h
        · exact Or.inr (Or.inr h)
theorem nd_len : ∀ (L T : List Pt), (∀ (i j : Nat) p, L[i]? = some p → L[j]? = some p → i = j) → (∀ p, p ∈ L → p ∈ T) → L.length ≤ T.length
  | [], _, _, _ => Nat.zero_le _
  | x :: L, T, hd, hs => by
    obtain ⟨s, t, e⟩ := List.append_of_mem (hs x List.mem_cons_self)
    have ih := nd_len L (s ++ t) (fun i j p hi hj => by have := hd (i + 1) (j + 1) p hi hj; omega) (fun p hp => by
      have h := hs p (List.mem_cons_of_mem _ hp)
      rw [e] at h
      rcases List.mem_append.mp h with h | h
      · exact List.mem_append_left _ h
      · rcases List.mem_cons.mp h with rfl | h
        · obtain ⟨i, hi, g⟩ := mem_get hp
          have := hd 0 (i + 1) p rfl g
          omega
        · exact List.mem_append_right _ h)
    rw [e, List.length_append, List.length_cons, List.length_cons]
    rw [List.length_append] at ih
    omega
/-- two chains share but their ends -/
theorem chn_dis {T U C D : List Pt} (h : Chn 1 T C) (g : Chn (-1) U D) (hs : ∀ p, p ∈ U → p ∈ T) (hm : ∀ m, C[C.length - 1]? = some m → m ∈ U) {i j : Nat} {p : Pt} (hi : i + 1 < C.length) (hj : j + 1 < D.length) (e1 : C[i]? = some p) (e2 : D[j]? = some p) : False := by
  obtain ⟨g1, g2, ⟨f, g3, g4⟩, -, g6, g7⟩ := g
  obtain ⟨h1, h2, ⟨f', h3, h4⟩, ⟨m, h5, h5'⟩, h6, h7⟩ := h
  have hsub : ∀ x, x ∈ D → x ∈ T := fun x hx => hs x (g1.subset hx)
  obtain ⟨c, hc⟩ := get_ex hj
  have cp : ltP c p := lto_m.mp (g2 j (j + 1) p c (by omega) e2 hc)
  by_cases i0 : i = 0
  · subst i0
    rw [h3] at e1
    have := Option.some.inj e1
    subst this
    rcases h4 c (hsub c (get_mem hc)) with z | z
    · rw [z] at cp; exact ltP_irr cp
    · exact ltP_asy cp (lto_1.mp z)
  · by_cases j0 : j = 0
    · subst j0
      rw [g3] at e2
      have := Option.some.inj e2
      subst this
      have pm : ltP f m := lto_1.mp (h2 i (C.length - 1) f m (by omega) e1 h5)
      rcases g4 m (hm m h5) with z | z
      · rw [z] at pm; exact ltP_irr pm
      · exact ltP_asy pm (lto_m.mp z)
    · obtain ⟨e, he⟩ := get_ex (show i - 1 < C.length by omega)
      obtain ⟨a, ha⟩ := get_ex (show j - 1 < D.length by omega)
      have pa : ltP p a := lto_m.mp (g2 (j - 1) j a p (by omega) ha e2)
      have ep : ltP e p := lto_1.mp (h2 (i - 1) i e p (by omega) he e1)
      have t1 := g6 (j - 1) a p c ha (by rw [show j - 1 + 1 = j by omega]; exact e2) (by rw [show j - 1 + 2 = j + 1 by omega]; exact hc)
      have t2 := h7 (i - 1) e p a he (by rw [show i - 1 + 1 = i by omega]; exact e1) (hsub a (get_mem ha))
      have t3 := h7 (i - 1) e p c he (by rw [show i - 1 + 1 = i by omega]; exact e1) (hsub c (get_mem hc))
      have := (tri (s := 1) (Or.inl rfl) (lto_1.mpr cp) (lto_1.mpr ep) (lto_1.mpr pa) (by unfold vcr; unfold crs at t3; grind) (by unfold vcr; unfold crs at t2; grind)).1
      unfold vcr at this
      unfold crs at t1
      grind
theorem chn_room {T U C D : List Pt} (h : Chn 1 T C) (g : Chn (-1) U D) (hs : ∀ p, p ∈ U → p ∈ T) (hm : ∀ m, C[C.length - 1]? = some m → m ∈ U) : C.length - 1 + (D.length - 1) ≤ T.length := by
  have l := nd_len (C.take (C.length - 1) ++ D.take (D.length - 1)) T ?_ ?_
  · rw [List.length_append, List.length_take, List.length_take] at l
    omega
  · have key : ∀ (i : Nat) p, (C.take (C.length - 1) ++ D.take (D.length - 1))[i]? = some p → (i + 1 < C.length ∧ C[i]? = some p) ∨ (C.length - 1 ≤ i ∧ i - (C.length - 1) + 1 < D.length ∧ D[i - (C.length - 1)]? = some p) := fun i p hp => by
      by_cases z : i < C.length - 1
      · rw [List.getElem?_append_left (by rw [List.length_take]; omega), List.getElem?_take, if_pos z] at hp
        exact Or.inl ⟨by omega, hp⟩
      · rw [List.getElem?_append_right (by rw [List.length_take]; omega), List.length_take, show min (C.length - 1) C.length = C.length - 1 by omega, List.getElem?_take] at hp
        by_cases w : i - (C.length - 1) < D.length - 1
        · rw [if_pos w] at hp
          exact Or.inr ⟨by omega, by omega, hp⟩
        · rw [if_neg w] at hp; cases hp
    have un : ∀ {s : Int} {E : List Pt} {i j : Nat} {p : Pt}, sgn1 s → (∀ (i j : Nat) a b, i < j → E[i]? = some a → E[j]? = some b → lto s a b) → E[i]? = some p → E[j]? = some p → i = j := fun {s E i j p} ss o a b => by
      rcases Nat.lt_trichotomy i j with c | c | c
      · exact absurd (o i j p p c a b) (lto_irr ss)
      · exact c
      · exact absurd (o j i p p c b a) (lto_irr ss)
    intro i j p hi hj
    rcases key i p hi with ⟨a1, a2⟩ | ⟨a1, a2, a3⟩ <;> rcases key j p hj with ⟨b1, b2⟩ | ⟨b1, b2, b3⟩
    · exact un (Or.inl rfl) h.2.1 a2 b2
    · exact (chn_dis h g hs hm a1 b2 a2 b3).elim
    · exact (chn_dis h g hs hm b1 a2 b2 a3).elim
    · have := un (Or.inr rfl) g.2.1 a3 b3
      omega
  · intro p hp
    rcases List.mem_append.mp hp with z | z
    · exact h.1.subset (List.mem_of_mem_take z)
    · exact hs p (g.1.subset (List.mem_of_mem_take z))
