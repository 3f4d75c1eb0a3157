/-! cut told alike -/
theorem lp_run {σ ρ : Type} {f : σ → Option (σ ⊕ ρ)} (P : Nat → σ → Prop) (N : Nat) (hs : ∀ i s, i < N → P i s → ∃ s', f s = some (.inl s') ∧ P (i + 1) s') : ∀ d i s, i + d = N → P i s → ∃ s', lp f s = lp f s' ∧ P N s'
  | 0, i, s, h, hp => ⟨s, rfl, by rw [← h]; exact hp⟩
  | d + 1, i, s, h, hp => by
    obtain ⟨s1, e1, p1⟩ := hs i s (by omega) hp
    obtain ⟨s2, e2, p2⟩ := lp_run P N hs d (i + 1) s1 (by omega) p1
    exact ⟨s2, (lp_go e1).trans e2, p2⟩
def xq (A B : Pt) (ps : List Pc) (i : Nat) : Prop := ∃ P, ps[i]? = some P ∧ xsd A B P
noncomputable def cxN (A B : Pt) (ps : List Pc) : Nat → Nat
  | 0 => 0
  | i + 1 => cxN A B ps i + @ite _ (xq A B ps i) (Classical.propDecidable _) 1 0
noncomputable def cutL (A B : Pt) (ps : List Pc) : Nat → List Pc
  | 0 => ps
  | i + 1 => match ps[i]? with
    | some P => @ite _ (xsd A B P) (Classical.propDecidable _) ((cutL A B ps i).set i (prP A B 1 P) ++ [prP A B (-1) P]) (cutL A B ps i)
    | none => cutL A B ps i
section CX
variable {A B : Pt} {ps : List Pc}
theorem cxN_t {i : Nat} {P : Pc} (hP : ps[i]? = some P) (h : xsd A B P) : cxN A B ps (i + 1) = cxN A B ps i + 1 := by
  show cxN A B ps i + @ite _ (xq A B ps i) (Classical.propDecidable _) 1 0 = _
  rw [if_pos ⟨P, hP, h⟩]
theorem cxN_f {i : Nat} {P : Pc} (hP : ps[i]? = some P) (h : ¬ xsd A B P) : cxN A B ps (i + 1) = cxN A B ps i := by
  show cxN A B ps i + @ite _ (xq A B ps i) (Classical.propDecidable _) 1 0 = _
  rw [if_neg (fun ⟨Q, hQ, g⟩ => h (by rw [get_un hP hQ]; exact g))]; rfl
theorem cxN_le : ∀ i, cxN A B ps i ≤ i
  | 0 => Nat.le_refl _
  | i + 1 => by
    have := cxN_le i
    show cxN A B ps i + @ite _ (xq A B ps i) (Classical.propDecidable _) 1 0 ≤ _
    split <;> omega
theorem cxN_mono (i : Nat) : ∀ d, cxN A B ps i ≤ cxN A B ps (i + d)
  | 0 => Nat.le_refl _
  | d + 1 => by
    have := cxN_mono i d
    show _ ≤ cxN A B ps (i + d) + _
    omega
theorem cutL_t {i : Nat} {P : Pc} (hP : ps[i]? = some P) (h : xsd A B P) : cutL A B ps (i + 1) = (cutL A B ps i).set i (prP A B 1 P) ++ [prP A B (-1) P] := by
  show (match ps[i]? with | some P => @ite _ (xsd A B P) (Classical.propDecidable _) ((cutL A B ps i).set i (prP A B 1 P) ++ [prP A B (-1) P]) (cutL A B ps i) | none => cutL A B ps i) = _
  rw [hP]
  exact if_pos h
theorem cutL_f {i : Nat} {P : Pc} (hP : ps[i]? = some P) (h : ¬ xsd A B P) : cutL A B ps (i + 1) = cutL A B ps i := by
  show (match ps[i]? with | some P => @ite _ (xsd A B P) (Classical.propDecidable _) ((cutL A B ps i).set i (prP A B 1 P) ++ [prP A B (-1) P]) (cutL A B ps i) | none => cutL A B ps i) = _
  rw [hP]
  exact if_neg h
theorem cutL_len : ∀ i, i ≤ ps.length → (cutL A B ps i).length = ps.length + cxN A B ps i
  | 0, _ => rfl
  | i + 1, h => by
    have ih := cutL_len i (by omega)
    obtain ⟨P, hP⟩ := get_ex (l := ps) (i := i) (by omega)
    by_cases hx : xsd A B P
    · rw [cutL_t hP hx, cxN_t hP hx, List.length_append, List.length_set, ih]; rfl
    · rw [cutL_f hP hx, cxN_f hP hx, ih]
theorem cutL_at : ∀ i j, i ≤ j → j < ps.length → (cutL A B ps i)[j]? = ps[j]?
  | 0, j, _, _ => rfl
  | i + 1, j, hij, hj => by
    have ih := cutL_at i j (by omega) hj
    obtain ⟨P, hP⟩ := get_ex (l := ps) (i := i) (by omega)
    by_cases hx : xsd A B P
    · have hl := cutL_len (A := A) (B := B) (ps := ps) i (by omega)
      rw [cutL_t hP hx, List.getElem?_append_left (by rw [List.length_set]; omega), List.getElem?_set_ne (by omega)]; exact ih
    · rw [cutL_f hP hx]; exact ih
theorem cutL_ok (hpp : isPs ps) (hAB : A ≠ B) : ∀ i, i ≤ ps.length → (∀ j P, j < i → ps[j]? = some P → xsd A B P → ¬ ofl A B P ∧ allW A B (plc P)) → ps.length + cxN A B ps i ≤ 40 → isPs (cutL A B ps i)
  | 0, _, _, _ => hpp
  | i + 1, h, hx, hn => by
    obtain ⟨P, hP⟩ := get_ex (l := ps) (i := i) (by omega)
    have m := cxN_mono (A := A) (B := B) (ps := ps) i 1
    have ih := cutL_ok hpp hAB i (by omega) (fun j P hj => hx j P (by omega)) (by omega)
    by_cases hxs : xsd A B P
    · obtain ⟨h1, h2⟩ := hx i P (by omega) hP hxs
      have iP := hpp.2 i P hP
      obtain ⟨-, -, -, -, pcL⟩ := prP_ok (s := 1) iP hAB (Or.inl rfl) hxs h1 h2
      obtain ⟨-, -, -, -, pcR⟩ := prP_ok (s := -1) iP hAB (Or.inr rfl) hxs h1 h2
      have hl := cutL_len (A := A) (B := B) (ps := ps) (i + 1) h
      rw [cutL_t hP hxs] at hl ⊢
      have g := isPs_set (p := i) ih pcL
      refine ⟨by omega, fun k q hq => ?_⟩
      rcases get_app hq with ⟨-, hq⟩ | ⟨-, rfl⟩
      · exact g.2 k q hq
      · exact pcR
    · rw [cutL_f hP hxs]; exact ih
end CX
section CU
variable {K : Kk} {R : Rr} {M : Mm} {A B : Pt}
abbrev anyO (A B : Pt) (ps : List Pc) (i : Nat) : Prop := ∃ j P, j < i ∧ ps[j]? = some P ∧ xsd A B P ∧ ofl A B P
abbrev allO (A B : Pt) (ps : List Pc) (i : Nat) : Prop := ∀ j P, j < i → ps[j]? = some P → xsd A B P → allW A B (plc P)
theorem anyO_s {ps : List Pc} {i : Nat} {P : Pc} (hP : ps[i]? = some P) : anyO A B ps (i + 1) ↔ (anyO A B ps i ∨ (xsd A B P ∧ ofl A B P)) := by
  constructor
  · rintro ⟨j, Q, hj, hQ, h⟩
    by_cases e : j = i
    · subst e; rw [get_un hP hQ]; exact Or.inr h
    · exact Or.inl ⟨j, Q, by omega, hQ, h⟩
  · rintro (⟨j, Q, hj, h⟩ | h)
    · exact ⟨j, Q, by omega, h⟩
    · exact ⟨i, P, by omega, hP, h⟩
theorem allO_s {ps : List Pc} {i : Nat} {P : Pc} (hP : ps[i]? = some P) : allO A B ps (i + 1) ↔ (allO A B ps i ∧ (xsd A B P → allW A B (plc P))) := by
  constructor
  · intro h
    exact ⟨fun j Q hj => h j Q (by omega), h i P (by omega) hP⟩
  · rintro ⟨h, g⟩ j Q hj hQ hx
    by_cases e : j = i
    · subst e; rw [← get_un hP hQ] at hx ⊢; exact g hx
    · exact h j Q (by omega) hQ hx
/-- the class looks at all pieces -/
theorem cutC_run {o c : Nat} {ps : List Pc} (hs : skC K R o) (hA : psA K R c) (hc1 : o + 22 ≤ c) (hc2 : c + 162 ≤ o + 1318) (h : psC M c ps) (hpp : isPs ps) (hl : lnC M (o + 1972) A B) (hB : lnB A B) : ∃ v N, lp (mX7_cut_L66 K R o c) (0, 0, 0, M) = lp (mX7_cut_L66 K R o c) (nI (cxN A B ps ps.length), v, nI ps.length, N) ∧ iv v (anyO A B ps ps.length) ∧ lnC N (o + 1972) A B ∧ Fr (o + 1972) (o + 1988) M N ∧ N.2 = M.2 := by
  obtain ⟨s0, -, -, s2, -, -, -, s6, -, -, s9, -, -, -, -, -, -, -, -, -, -, -, -, s22, -, -, r1, -⟩ := hs
  have h40 := hpp.1
  obtain ⟨g0, g1, g2, g3⟩ := hA
  have hL := lp_run (f := mX7_cut_L66 K R o c) (fun (i : Nat) (s : Int32 × Int32 × Int32 × Mm) => s.1 = nI (cxN A B ps i) ∧ s.2.2.1 = nI i ∧ iv s.2.1 (anyO A B ps i) ∧ lnC s.2.2.2 (o + 1972) A B ∧ Fr (o + 1972) (o + 1988) M s.2.2.2 ∧ s.2.2.2.2 = M.2) ps.length ?_ ps.length 0 (0, 0, 0, M) (by omega) ⟨rfl, rfl, Or.inr ⟨rfl, fun ⟨j, P, hj, _⟩ => absurd hj (by omega)⟩, hl, Fr.rf, rfl⟩
  · obtain ⟨⟨x, v, y, N⟩, e1, rfl, rfl, e2⟩ := hL
    exact ⟨v, N, e1, e2⟩
  · rintro i ⟨x, v, y, N⟩ hi ⟨rfl, rfl, f10, f2, f3, f4⟩
    have f1 : iv v (anyO A B ps i) := f10
    clear f10
    have f2 : lnC N (o + 1972) A B := f2
    have f3 : Fr (o + 1972) (o + 1988) M N := f3
    have f4 : N.2 = M.2 := f4
    obtain ⟨P, hP⟩ := get_ex hi
    have iP := hpp.2 i P hP
    have s16 := iP.1.2.1
    obtain ⟨q1', q2', q3', q4', q5'⟩ := plc_ok iP
    obtain ⟨k1, k2⟩ := g3 i (by omega)
    have k20 := k2.1
    have hN := h.fr f3 (by omega) (by omega)
    have e := hN.1
    obtain ⟨M41, c1, c2, c3, c4⟩ := placeInto_ok (M := N) r1 k2 (by omega) iP (by decide) (by decide) (hN.2 i P hP)
    have l41 : lnC M41 (o + 1972) A B := f2.eq (fun k _ _ => congrFun (c3 (o + 1972) (by omega)).1 k)
    obtain ⟨M44, d1, d2, d3, d4, d5, d6⟩ := weigh_ok (R := R) s22 l41 hB r1 (by omega) c2 (by omega) (by decide) (inBs_of q5')
    have bc1 := cntS_le A B 1 (plc P) (plc P).length
    have bc2 := cntS_le A B (-1) (plc P) (plc P).length
    obtain ⟨x, x1, x2⟩ := crossesC_ok (R := R) s22 d2 d3 (by omega) (by omega)
    obtain ⟨w, w1, w2⟩ := overfillsC_ok (R := R) s22 d2 d3 (by omega) (by omega)
    have F : Fr (o + 1972) (o + 1988) M M44 := (f3.tr (c3.mono (by omega) (by omega))).tr (d5.mono (by omega) (by omega))
    have eL : M44.2 = M.2 := (d6.trans c4).trans f4
    have J137 : ∀ u w : Int32, mX7_cut_J137 K R M44 o c u w (nI i) = some (.inl (u, w, nI (i + 1), M44)) := fun u w => by unfold mX7_cut_J137; (repeat (first | rw [ck_t (by first | with_reducible assumption | ((with_reducible apply ixA_of); (with_reducible assumption); omega; omega) | ((with_reducible apply isAr_of); (with_reducible assumption); decide) | ((with_reducible apply nI_ne0); omega; omega) | with_reducible exact isB_0 | with_reducible exact isB_1 | with_reducible exact isB_bI _)] | rw [bd_r (by with_reducible assumption)] | rw [bd_s] | rw [bd2_s] | rw [bd3_s] | rw [nm_s] | rw [nI_clamp (by omega)] | rw [nI_1] | rw [if_pos (by first | with_reducible assumption | ((with_reducible refine nI_lt ?_ ?_); omega; omega) | ((with_reducible refine nI_nlt ?_ ?_); omega; omega) | with_reducible exact ne10 | with_reducible rfl)] | rw [if_neg (by first | with_reducible assumption | ((with_reducible refine nI_lt ?_ ?_); omega; omega) | ((with_reducible refine nI_nlt ?_ ?_); omega; omega) | with_reducible exact ne10 | with_reducible rfl)]))
    have J135 : ∀ u w : Int32, mX7_cut_J135 K R M44 o c u (nI i) w = some (.inl (u, w, nI (i + 1), M44)) := fun u w => by unfold mX7_cut_J135; exact J137 u w
    have J130 : ∀ u : Int32, mX7_cut_J130 K R M44 o c u (nI i) = some (.inl (u, 1, nI (i + 1), M44)) := fun u => by unfold mX7_cut_J130; exact J135 u 1
    show ∃ s', mX7_cut_B66 K R o c (nI (cxN A B ps i)) v (nI i) N = some (.inl s') ∧ _
    unfold mX7_cut_B66
    (repeat (first | rw [ck_t (by first | with_reducible assumption | ((with_reducible apply ixA_of); (with_reducible assumption); omega; omega) | ((with_reducible apply isAr_of); (with_reducible assumption); decide) | ((with_reducible apply nI_ne0); omega; omega) | with_reducible exact isB_0 | with_reducible exact isB_1 | with_reducible exact isB_bI _)] | rw [bd_r (by with_reducible assumption)] | rw [bd_s] | rw [bd2_s] | rw [bd3_s] | rw [nm_s] | rw [nI_clamp (by omega)] | rw [nI_1] | rw [e] | rw [bd_e (c1)] | rw [bd_e (d1)] | rw [bd_e (x1)] | rw [if_pos (by first | with_reducible assumption | ((with_reducible refine nI_lt ?_ ?_); omega; omega) | ((with_reducible refine nI_nlt ?_ ?_); omega; omega) | with_reducible exact ne10 | with_reducible rfl)] | rw [if_neg (by first | with_reducible assumption | ((with_reducible refine nI_lt ?_ ?_); omega; omega) | ((with_reducible refine nI_nlt ?_ ?_); omega; omega) | with_reducible exact ne10 | with_reducible rfl)]))
    rcases x2 with ⟨rfl, x2⟩ | ⟨rfl, x2⟩
    · rw [if_neg ne10]
      have x2 : xsd A B P := x2
      (repeat (first | rw [ck_t (by first | with_reducible assumption | ((with_reducible apply ixA_of); (with_reducible assumption); omega; omega) | ((with_reducible apply isAr_of); (with_reducible assumption); decide) | ((with_reducible apply nI_ne0); omega; omega) | with_reducible exact isB_0 | with_reducible exact isB_1 | with_reducible exact isB_bI _)] | rw [bd_r (by with_reducible assumption)] | rw [bd_s] | rw [bd2_s] | rw [bd3_s] | rw [nm_s] | rw [nI_clamp (by omega)] | rw [nI_1] | rw [if_pos (by first | with_reducible assumption | ((with_reducible refine nI_lt ?_ ?_); omega; omega) | ((with_reducible refine nI_nlt ?_ ?_); omega; omega) | with_reducible exact ne10 | with_reducible rfl)] | rw [if_neg (by first | with_reducible assumption | ((with_reducible refine nI_lt ?_ ?_); omega; omega) | ((with_reducible refine nI_nlt ?_ ?_); omega; omega) | with_reducible exact ne10 | with_reducible rfl)]))
      rcases f1 with ⟨rfl, f1⟩ | ⟨rfl, f1⟩
      · rw [if_neg ne10, J130]
        exact ⟨_, rfl, by rw [cxN_t hP x2], rfl, Or.inl ⟨rfl, (anyO_s hP).mpr (Or.inl f1)⟩, d4, F, eL⟩
      · rw [if_pos rfl, bd_e w1]
        rcases w2 with ⟨rfl, w2⟩ | ⟨rfl, w2⟩
        · rw [if_neg ne10, J130]
          exact ⟨_, rfl, by rw [cxN_t hP x2], rfl, Or.inl ⟨rfl, (anyO_s hP).mpr (Or.inr ⟨x2, w2⟩)⟩, d4, F, eL⟩
        · rw [if_pos rfl, J135]
          refine ⟨_, rfl, by rw [cxN_t hP x2], rfl, Or.inr ⟨rfl, fun q => ?_⟩, d4, F, eL⟩
          rcases (anyO_s hP).mp q with z | z
          · exact f1 z
          · exact w2 z.2
    · rw [if_pos rfl, J137]
      have x2 : ¬ xsd A B P := x2
      refine ⟨_, rfl, by rw [cxN_f hP x2], rfl, f1.congr ?_, d4, F, eL⟩
      rw [anyO_s hP]
      exact ⟨Or.inl, fun q => q.resolve_right (fun z => x2 z.1)⟩
/-- the reference looks at all pieces -/
theorem cutM_run {m : Nat} {ps : List Pc} (hm : moA K R m) (h : psM (M.2 (m + 1)) 0 ps) (hpp : isPs ps) (hl : lnM M m A B) (hB : lnB A B) : ∃ v w N, lp (mX8_cut_L73 K R m) (0, 0, 1, 0, M) = lp (mX8_cut_L73 K R m) (nI (cxN A B ps ps.length), v, w, nI ps.length, N) ∧ iv v (anyO A B ps ps.length) ∧ iv w (allO A B ps ps.length) ∧ FM m [15, 21, 24] [11, 12, 15, 16, 17, 18] M N := by
  have h40 := hpp.1
  have hL := lp_run (f := mX8_cut_L73 K R m) (fun (i : Nat) (s : Int32 × Int32 × Int32 × Int32 × Mm) => s.1 = nI (cxN A B ps i) ∧ s.2.2.2.1 = nI i ∧ iv s.2.1 (anyO A B ps i) ∧ iv s.2.2.1 (allO A B ps i) ∧ FM m [15, 21, 24] [11, 12, 15, 16, 17, 18] M s.2.2.2.2) ps.length ?_ ps.length 0 (0, 0, 1, 0, M) (by omega) ⟨rfl, rfl, Or.inr ⟨rfl, fun ⟨j, P, hj, _⟩ => absurd hj (by omega)⟩, Or.inl ⟨rfl, fun j P hj => absurd hj (by omega)⟩, FM.rf⟩
  · obtain ⟨⟨x, v, w, y, N⟩, e1, rfl, rfl, e2, e3, e4⟩ := hL
    exact ⟨v, w, N, e1, e2, e3, e4⟩
  · rintro i ⟨x, v, w, y, N⟩ hi ⟨rfl, rfl, f10, f20, f3⟩
    have f1 : iv v (anyO A B ps i) := f10
    have f2 : iv w (allO A B ps i) := f20
    clear f10 f20
    have f3 : FM m [15, 21, 24] [11, 12, 15, 16, 17, 18] M N := f3
    obtain ⟨P, hP⟩ := get_ex hi
    have iP := hpp.2 i P hP
    have s16 := iP.1.2.1
    obtain ⟨q1', q2', q3', q4', q5'⟩ := plc_ok iP
    have hN := h.fr f3 (by decide)
    have lN' := hl.fr f3 (by decide)
    obtain ⟨x, M63, c1, c2, c3, c4⟩ := crossesM_ok hm (hN.pc hP) (by omega) iP lN' hB
    have l63 := lN'.fr c4 (by decide)
    obtain ⟨g, g1, g2⟩ := isLargeM_ok hm iP l63 hB c3
    obtain ⟨t, t1, t2⟩ := isWhole_ok hm l63 hB c3 (by omega) (inBs_of q5')
    have F := f3.tr c4
    have J132 : ∀ a b c : Int32, mX8_cut_J132 K R M63 m a b c (nI i) = some (.inl (a, b, c, nI (i + 1), M63)) := fun a b c => by unfold mX8_cut_J132; (repeat (first | rw [ck_t (by first | with_reducible assumption | ((with_reducible apply ixA_of); (with_reducible assumption); omega; omega) | ((with_reducible apply isAr_of); (with_reducible assumption); decide) | ((with_reducible apply nI_ne0); omega; omega) | with_reducible exact isB_0 | with_reducible exact isB_1 | with_reducible exact isB_bI _)] | rw [bd_r (by with_reducible assumption)] | rw [bd_s] | rw [bd2_s] | rw [bd3_s] | rw [nm_s] | rw [nI_clamp (by omega)] | rw [nI_1] | rw [if_pos (by first | with_reducible assumption | ((with_reducible refine nI_lt ?_ ?_); omega; omega) | ((with_reducible refine nI_nlt ?_ ?_); omega; omega) | with_reducible exact ne10 | with_reducible rfl)] | rw [if_neg (by first | with_reducible assumption | ((with_reducible refine nI_lt ?_ ?_); omega; omega) | ((with_reducible refine nI_nlt ?_ ?_); omega; omega) | with_reducible exact ne10 | with_reducible rfl)]))
    have J130 : ∀ a b c : Int32, mX8_cut_J130 K R M63 m a b (nI i) c = some (.inl (a, b, c, nI (i + 1), M63)) := fun a b c => by unfold mX8_cut_J130; exact J132 a b c
    have J129 : ∀ a b : Int32, mX8_cut_J129 K R M63 m a b (nI i) = some (.inl (a, b, 0, nI (i + 1), M63)) := fun a b => by unfold mX8_cut_J129; exact J130 a b 0
    have J111 : ∀ a b : Int32, xsd A B P → ∃ c, mX8_cut_J111 K R M63 m a w (nI i) b = some (.inl (a, b, c, nI (i + 1), M63)) ∧ iv c (allO A B ps (i + 1)) := fun a b hx => by
      unfold mX8_cut_J111
      rcases f2 with ⟨rfl, f2⟩ | ⟨rfl, f2⟩
      · rw [if_neg ne10, bd_e t1]
        rcases t2 with ⟨rfl, t2⟩ | ⟨rfl, t2⟩
        · rw [if_neg ne10, J130]
          exact ⟨1, rfl, Or.inl ⟨rfl, (allO_s hP).mpr ⟨f2, fun _ => t2⟩⟩⟩
        · rw [if_pos rfl, J129]
          exact ⟨0, rfl, Or.inr ⟨rfl, fun q => t2 (((allO_s hP).mp q).2 hx)⟩⟩
      · rw [if_pos rfl, J129]
        exact ⟨0, rfl, Or.inr ⟨rfl, fun q => f2 ((allO_s hP).mp q).1⟩⟩
    show ∃ s', mX8_cut_B73 K R m (nI (cxN A B ps i)) v w (nI i) N = some (.inl s') ∧ _
    unfold mX8_cut_B73
    (repeat (first | rw [ck_t (by first | with_reducible assumption | ((with_reducible apply ixA_of); (with_reducible assumption); omega; omega) | ((with_reducible apply isAr_of); (with_reducible assumption); decide) | ((with_reducible apply nI_ne0); omega; omega) | with_reducible exact isB_0 | with_reducible exact isB_1 | with_reducible exact isB_bI _)] | rw [bd_r (by with_reducible assumption)] | rw [bd_s] | rw [bd2_s] | rw [bd3_s] | rw [nm_s] | rw [nI_clamp (by omega)] | rw [nI_1] | rw [bd_e (piecesM_ok hm hN)] | rw [bd2_e (c1)] | rw [if_pos (by first | with_reducible assumption | ((with_reducible refine nI_lt ?_ ?_); omega; omega) | ((with_reducible refine nI_nlt ?_ ?_); omega; omega) | with_reducible exact ne10 | with_reducible rfl)] | rw [if_neg (by first | with_reducible assumption | ((with_reducible refine nI_lt ?_ ?_); omega; omega) | ((with_reducible refine nI_nlt ?_ ?_); omega; omega) | with_reducible exact ne10 | with_reducible rfl)]))
    rcases c2 with ⟨rfl, c2⟩ | ⟨rfl, c2⟩
    · rw [if_neg ne10]
      (repeat (first | rw [ck_t (by first | with_reducible assumption | ((with_reducible apply ixA_of); (with_reducible assumption); omega; omega) | ((with_reducible apply isAr_of); (with_reducible assumption); decide) | ((with_reducible apply nI_ne0); omega; omega) | with_reducible exact isB_0 | with_reducible exact isB_1 | with_reducible exact isB_bI _)] | rw [bd_r (by with_reducible assumption)] | rw [bd_s] | rw [bd2_s] | rw [bd3_s] | rw [nm_s] | rw [nI_clamp (by omega)] | rw [nI_1] | rw [if_pos (by first | with_reducible assumption | ((with_reducible refine nI_lt ?_ ?_); omega; omega) | ((with_reducible refine nI_nlt ?_ ?_); omega; omega) | with_reducible exact ne10 | with_reducible rfl)] | rw [if_neg (by first | with_reducible assumption | ((with_reducible refine nI_lt ?_ ?_); omega; omega) | ((with_reducible refine nI_nlt ?_ ?_); omega; omega) | with_reducible exact ne10 | with_reducible rfl)]))
      rcases f1 with ⟨rfl, f1⟩ | ⟨rfl, f1⟩
      · obtain ⟨c, j1, j2⟩ := J111 (nI (cxN A B ps i + 1)) 1 c2
        rw [if_neg ne10]
        unfold mX8_cut_J106
        rw [j1]
        exact ⟨_, rfl, by rw [cxN_t hP c2], rfl, Or.inl ⟨rfl, (anyO_s hP).mpr (Or.inl f1)⟩, j2, F⟩
      · rw [if_pos rfl, bd_e g1]
        rcases g2 with ⟨rfl, g2⟩ | ⟨rfl, g2⟩
        · obtain ⟨c, j1, j2⟩ := J111 (nI (cxN A B ps i + 1)) 1 c2
          rw [if_neg ne10]
          unfold mX8_cut_J106
          rw [j1]
          exact ⟨_, rfl, by rw [cxN_t hP c2], rfl, Or.inl ⟨rfl, (anyO_s hP).mpr (Or.inr ⟨c2, g2⟩)⟩, j2, F⟩
        · obtain ⟨c, j1, j2⟩ := J111 (nI (cxN A B ps i + 1)) 0 c2
          rw [if_pos rfl, j1]
          refine ⟨_, rfl, by rw [cxN_t hP c2], rfl, Or.inr ⟨rfl, fun q => ?_⟩, j2, F⟩
          rcases (anyO_s hP).mp q with z | z
          · exact f1 z
          · exact g2 z.2
    · rw [if_pos rfl, J132]
      refine ⟨_, rfl, by rw [cxN_f hP c2], rfl, f1.congr ?_, f2.congr ?_, F⟩
      · rw [anyO_s hP]
        exact ⟨Or.inl, fun q => q.resolve_right (fun z => c2 z.1)⟩
      · rw [allO_s hP]
        exact ⟨fun q => ⟨q, fun z => absurd z c2⟩, fun q => q.1⟩
theorem FC.wg {o cd : Nat} {N N2 N3 : Mm} {A B : Pt} (f1 : Fr (o + 1985) (o + 1988) N N2) (e1 : N2.2 = N.2) (f2 : Fr (o + 1972) (o + 1973) N2 N3) (e2 : N3.2 = N2.2) (h : lnC N2 (o + 1972) A B) (h' : lnC N3 (o + 1972) A B) : FC o cd N N3 := (FC.fr f1 e1 (by omega)).tr (FC.ln f2 e2 h h')
/-- the class cuts those -/
theorem cutThose_ok {o cd : Nat} {ps : List Pc} (hs : skC K R o) (hA : psA K R cd) (hc1 : o + 22 ≤ cd) (hc2 : cd + 162 ≤ o + 1318) (h : psC M cd ps) (hpp : isPs ps) (hl : lnC M (o + 1972) A B) (hB : lnB A B) (hAB : A ≠ B) (ho : ¬ anyO A B ps ps.length) (hn : ps.length + cxN A B ps ps.length ≤ 40) : (allO A B ps ps.length ∧ ∃ N, FC o cd M N ∧ psC N cd (cutL A B ps ps.length) ∧ lp (mX7_cutThose_L10 K R o (nI ps.length) cd) (0, M) = lp (mX7_cutThose_L10 K R o (nI ps.length) cd) (nI ps.length, N)) ∨ (¬ allO A B ps ps.length ∧ ∃ N, FC o cd M N ∧ lp (mX7_cutThose_L10 K R o (nI ps.length) cd) (0, M) = some (0, R, N)) := by
  have hs0 := hs
  obtain ⟨s0, -, -, s2, -, -, -, s6, -, -, s9, -, -, -, -, -, -, -, ⟨i0, -⟩, -, -, -, -, s22, -, -, r1, -⟩ := hs
  have h40 := hpp.1
  have hA0 := hA
  obtain ⟨g0, g1, g2, g3⟩ := hA
  have step : ∀ (i : Nat) (N : Mm), i < ps.length → allO A B ps i → FC o cd M N → psC N cd (cutL A B ps i) → ∃ P, ps[i]? = some P ∧ ((∃ N', mX7_cutThose_L10 K R o (nI ps.length) cd (nI i, N) = some (.inl (nI (i + 1), N')) ∧ (xsd A B P → allW A B (plc P)) ∧ FC o cd M N' ∧ psC N' cd (cutL A B ps (i + 1))) ∨ (xsd A B P ∧ ¬ allW A B (plc P) ∧ ∃ N', mX7_cutThose_L10 K R o (nI ps.length) cd (nI i, N) = some (.inr (0, R, N')) ∧ FC o cd M N')) := by
    intro i N hi fa f1 f2
    obtain ⟨P, hP⟩ := get_ex hi
    have iP := hpp.2 i P hP
    have s16 := iP.1.2.1
    obtain ⟨q1', q2', q3', q4', q5'⟩ := plc_ok iP
    obtain ⟨k1, k2⟩ := g3 i (by omega)
    have k20 := k2.1
    have hP' : (cutL A B ps i)[i]? = some P := by rw [cutL_at i i (Nat.le_refl _) hi]; exact hP
    have lN' := f1.2.2 A B hl
    obtain ⟨M22, c1, c2, c3, c4⟩ := placeInto_ok (M := N) r1 k2 (by omega) iP (by decide) (by decide) (f2.2 i P hP')
    have l22 : lnC M22 (o + 1972) A B := lN'.eq (fun k _ _ => congrFun (c3 (o + 1972) (by omega)).1 k)
    obtain ⟨M25, d1, d2, d3, d4, d5, d6⟩ := weigh_ok (R := R) s22 l22 hB r1 (by omega) c2 (by omega) (by decide) (inBs_of q5')
    have bc1 := cntS_le A B 1 (plc P) (plc P).length
    have bc2 := cntS_le A B (-1) (plc P) (plc P).length
    obtain ⟨x, x1, x2⟩ := crossesC_ok (R := R) s22 d2 d3 (by omega) (by omega)
    have F25 : FC o cd N M25 := FC.wg c3 c4 d5 d6 l22 d4
    have lenC := cutL_len (A := A) (B := B) (ps := ps) i (by omega)
    have mono := cxN_mono (A := A) (B := B) (ps := ps) (i + 1) (ps.length - (i + 1))
    rw [show i + 1 + (ps.length - (i + 1)) = ps.length by omega] at mono
    have mono0 := cxN_mono (A := A) (B := B) (ps := ps) i 1
    have ps25 : psC M25 cd (cutL A B ps i) := (f2.fr c3 (by omega) (by omega)).fr d5 (by omega) (by omega)
    have nx : ∀ N, mX7_cutThose_J60 K R N o (nI ps.length) cd (nI i) = some (.inl (nI (i + 1), N)) := fun N => by unfold mX7_cutThose_J60; (repeat (first | rw [ck_t (by first | with_reducible assumption | ((with_reducible apply ixA_of); (with_reducible assumption); omega; omega) | ((with_reducible apply isAr_of); (with_reducible assumption); decide) | ((with_reducible apply nI_ne0); omega; omega) | with_reducible exact isB_0 | with_reducible exact isB_1 | with_reducible exact isB_bI _)] | rw [bd_r (by with_reducible assumption)] | rw [bd_s] | rw [bd2_s] | rw [bd3_s] | rw [nm_s] | rw [nI_clamp (by omega)] | rw [nI_1] | rw [if_pos (by first | with_reducible assumption | ((with_reducible refine nI_lt ?_ ?_); omega; omega) | ((with_reducible refine nI_nlt ?_ ?_); omega; omega) | with_reducible exact ne10 | with_reducible rfl)] | rw [if_neg (by first | with_reducible assumption | ((with_reducible refine nI_lt ?_ ?_); omega; omega) | ((with_reducible refine nI_nlt ?_ ?_); omega; omega) | with_reducible exact ne10 | with_reducible rfl)]))
    refine ⟨P, hP, ?_⟩
    rcases x2 with ⟨rfl, x2⟩ | ⟨rfl, x2⟩
    · have x2 : xsd A B P := x2
      have cxt := cxN_t hP x2
      have hof : ¬ ofl A B P := fun q => ho ⟨i, P, hi, hP, x2, q⟩
      obtain ⟨v, M30, y1, y2, y3⟩ := cutOneC_ok (M := M25) hs0 hA0 hc1 hc2 ps25 hP' iP (by omega) d4 hB hAB x2 hof
      rcases y3 with ⟨rfl, hW, y3⟩ | ⟨rfl, hW⟩
      · refine Or.inl ⟨M30, ?_, fun _ => hW, (f1.tr F25).tr y2, by rw [cutL_t hP x2]; exact y3⟩
        show mX7_cutThose_B10 K R o (nI ps.length) cd (nI i) N = _
        unfold mX7_cutThose_B10
        (repeat (first | rw [ck_t (by first | with_reducible assumption | ((with_reducible apply ixA_of); (with_reducible assumption); omega; omega) | ((with_reducible apply isAr_of); (with_reducible assumption); decide) | ((with_reducible apply nI_ne0); omega; omega) | with_reducible exact isB_0 | with_reducible exact isB_1 | with_reducible exact isB_bI _)] | rw [bd_r (by with_reducible assumption)] | rw [bd_s] | rw [bd2_s] | rw [bd3_s] | rw [nm_s] | rw [nI_clamp (by omega)] | rw [nI_1] | rw [bd_e (c1)] | rw [bd_e (d1)] | rw [bd_e (x1)] | rw [if_neg (ne10)] | rw [bd2_e (y1)] | rw [nx M30] | rw [if_pos (by first | with_reducible assumption | ((with_reducible refine nI_lt ?_ ?_); omega; omega) | ((with_reducible refine nI_nlt ?_ ?_); omega; omega) | with_reducible exact ne10 | with_reducible rfl)] | rw [if_neg (by first | with_reducible assumption | ((with_reducible refine nI_lt ?_ ?_); omega; omega) | ((with_reducible refine nI_nlt ?_ ?_); omega; omega) | with_reducible exact ne10 | with_reducible rfl)]))
      · refine Or.inr ⟨x2, hW, M30, ?_, (f1.tr F25).tr y2⟩
        show mX7_cutThose_B10 K R o (nI ps.length) cd (nI i) N = _
        unfold mX7_cutThose_B10
        (repeat (first | rw [ck_t (by first | with_reducible assumption | ((with_reducible apply ixA_of); (with_reducible assumption); omega; omega) | ((with_reducible apply isAr_of); (with_reducible assumption); decide) | ((with_reducible apply nI_ne0); omega; omega) | with_reducible exact isB_0 | with_reducible exact isB_1 | with_reducible exact isB_bI _)] | rw [bd_r (by with_reducible assumption)] | rw [bd_s] | rw [bd2_s] | rw [bd3_s] | rw [nm_s] | rw [nI_clamp (by omega)] | rw [nI_1] | rw [bd_e (c1)] | rw [bd_e (d1)] | rw [bd_e (x1)] | rw [if_neg (ne10)] | rw [bd2_e (y1)] | rw [if_pos (by first | with_reducible assumption | ((with_reducible refine nI_lt ?_ ?_); omega; omega) | ((with_reducible refine nI_nlt ?_ ?_); omega; omega) | with_reducible exact ne10 | with_reducible rfl)] | rw [if_neg (by first | with_reducible assumption | ((with_reducible refine nI_lt ?_ ?_); omega; omega) | ((with_reducible refine nI_nlt ?_ ?_); omega; omega) | with_reducible exact ne10 | with_reducible rfl)]))
        rfl
    · have x2 : ¬ xsd A B P := x2
      refine Or.inl ⟨M25, ?_, fun q => absurd q x2, f1.tr F25, by rw [cutL_f hP x2]; exact ps25⟩
      show mX7_cutThose_B10 K R o (nI ps.length) cd (nI i) N = _
      unfold mX7_cutThose_B10
      (repeat (first | rw [ck_t (by first | with_reducible assumption | ((with_reducible apply ixA_of); (with_reducible assumption); omega; omega) | ((with_reducible apply isAr_of); (with_reducible assumption); decide) | ((with_reducible apply nI_ne0); omega; omega) | with_reducible exact isB_0 | with_reducible exact isB_1 | with_reducible exact isB_bI _)] | rw [bd_r (by with_reducible assumption)] | rw [bd_s] | rw [bd2_s] | rw [bd3_s] | rw [nm_s] | rw [nI_clamp (by omega)] | rw [nI_1] | rw [bd_e (c1)] | rw [bd_e (d1)] | rw [bd_e (x1)] | rw [nx M25] | rw [if_pos (by first | with_reducible assumption | ((with_reducible refine nI_lt ?_ ?_); omega; omega) | ((with_reducible refine nI_nlt ?_ ?_); omega; omega) | with_reducible exact ne10 | with_reducible rfl)] | rw [if_neg (by first | with_reducible assumption | ((with_reducible refine nI_lt ?_ ?_); omega; omega) | ((with_reducible refine nI_nlt ?_ ?_); omega; omega) | with_reducible exact ne10 | with_reducible rfl)]))
  by_cases hW : allO A B ps ps.length
  · refine Or.inl ⟨hW, ?_⟩
    have hL := lp_run (f := mX7_cutThose_L10 K R o (nI ps.length) cd) (fun (i : Nat) (s : Int32 × Mm) => s.1 = nI i ∧ FC o cd M s.2 ∧ psC s.2 cd (cutL A B ps i)) ps.length ?_ ps.length 0 (0, M) (by omega) ⟨rfl, FC.rf, h⟩
    · obtain ⟨⟨z, N⟩, e1, rfl, e2, e3⟩ := hL
      exact ⟨N, e2, e3, e1⟩
    · rintro i ⟨z, N⟩ hi ⟨rfl, f1, f2⟩
      obtain ⟨P, hP, y | ⟨y1, y2, -⟩⟩ := step i N hi (fun j P hj => hW j P (by omega)) f1 f2
      · obtain ⟨N', y1, -, y2, y3⟩ := y
        exact ⟨_, y1, rfl, y2, y3⟩
      · exact absurd (hW i P hi hP y1) y2
  · refine Or.inr ⟨hW, ?_⟩
    have hL := lp_ind (f := mX7_cutThose_L10 K R o (nI ps.length) cd) (fun (i : Nat) (s : Int32 × Mm) => s.1 = nI i ∧ FC o cd M s.2 ∧ psC s.2 cd (cutL A B ps i) ∧ allO A B ps i) (fun r => ∃ N, r = (0, R, N) ∧ FC o cd M N) ps.length ?_ ?_
    · obtain ⟨r, e1, N, rfl, e2⟩ := hL ps.length 0 (0, M) (by omega) ⟨rfl, FC.rf, h, fun j P hj => absurd hj (by omega)⟩
      exact ⟨N, e2, e1⟩
    · rintro i ⟨z, N⟩ hi ⟨rfl, f1, f2, f3⟩
      obtain ⟨P, hP, y | ⟨y1, y2, N', y3, y4⟩⟩ := step i N hi f3 f1 f2
      · obtain ⟨N', y1, y0, y2, y3⟩ := y
        exact Or.inl ⟨_, y1, rfl, y2, y3, (allO_s hP).mpr ⟨f3, y0⟩⟩
      · exact Or.inr ⟨_, y3, N', rfl, y4⟩
    · rintro ⟨z, N⟩ ⟨rfl, f1, f2, f3⟩
      exact absurd f3 hW
/-- the reference cuts those -/
theorem cutM_those {m : Nat} {ps : List Pc} {n : Int32} (hm : moA K R m) (h : psM (M.2 (m + 1)) 0 ps) (hpp : isPs ps) (hl : lnM M m A B) (hB : lnB A B) (hAB : A ≠ B) (ho : ¬ anyO A B ps ps.length) (hW : allO A B ps ps.length) (hn : ps.length + cxN A B ps ps.length ≤ 40) : ∃ N, lp (mX8_cut_L181 K R m n (nI ps.length)) (0, M) = some (n.toInt64, N) ∧ psM (N.2 (m + 1)) 0 (cutL A B ps ps.length) ∧ FM m [15, 21, 24] [1, 11, 12, 15, 16, 17, 18] M N := by
  have h40 := hpp.1
  have hL := lp_ind (f := mX8_cut_L181 K R m n (nI ps.length)) (fun (i : Nat) (s : Int32 × Mm) => s.1 = nI i ∧ psM (s.2.2 (m + 1)) 0 (cutL A B ps i) ∧ FM m [15, 21, 24] [1, 11, 12, 15, 16, 17, 18] M s.2) (fun r => ∃ N, r = (n.toInt64, N) ∧ psM (N.2 (m + 1)) 0 (cutL A B ps ps.length) ∧ FM m [15, 21, 24] [1, 11, 12, 15, 16, 17, 18] M N) ps.length ?_ ?_
  · obtain ⟨r, e1, N, rfl, e2⟩ := hL ps.length 0 (0, M) (by omega) ⟨rfl, h, FM.rf⟩
    exact ⟨N, e1, e2⟩
  · rintro i ⟨z, N⟩ hi ⟨rfl, f1, f2⟩
    have f1 : psM (N.2 (m + 1)) 0 (cutL A B ps i) := f1
    have f2 : FM m [15, 21, 24] [1, 11, 12, 15, 16, 17, 18] M N := f2
    obtain ⟨P, hP⟩ := get_ex hi
    have iP := hpp.2 i P hP
    have hP' : (cutL A B ps i)[i]? = some P := by rw [cutL_at i i (Nat.le_refl _) hi]; exact hP
    have lN' := hl.fr f2 (by decide)
    obtain ⟨x, M59, c1, c2, c3, c4⟩ := crossesM_ok hm (f1.pc hP') (by omega) iP lN' hB
    have l59 := lN'.fr c4 (by decide)
    have ps59 := f1.fr c4 (by decide)
    have lenC := cutL_len (A := A) (B := B) (ps := ps) i (by omega)
    have mono := cxN_mono (A := A) (B := B) (ps := ps) (i + 1) (ps.length - (i + 1))
    rw [show i + 1 + (ps.length - (i + 1)) = ps.length by omega] at mono
    have mono0 := cxN_mono (A := A) (B := B) (ps := ps) i 1
    have nx : ∀ N, mX8_cut_J203 K R N m n (nI ps.length) (nI i) = some (.inl (nI (i + 1), N)) := fun N => by unfold mX8_cut_J203; (repeat (first | rw [ck_t (by first | with_reducible assumption | ((with_reducible apply ixA_of); (with_reducible assumption); omega; omega) | ((with_reducible apply isAr_of); (with_reducible assumption); decide) | ((with_reducible apply nI_ne0); omega; omega) | with_reducible exact isB_0 | with_reducible exact isB_1 | with_reducible exact isB_bI _)] | rw [bd_r (by with_reducible assumption)] | rw [bd_s] | rw [bd2_s] | rw [bd3_s] | rw [nm_s] | rw [nI_clamp (by omega)] | rw [nI_1] | rw [if_pos (by first | with_reducible assumption | ((with_reducible refine nI_lt ?_ ?_); omega; omega) | ((with_reducible refine nI_nlt ?_ ?_); omega; omega) | with_reducible exact ne10 | with_reducible rfl)] | rw [if_neg (by first | with_reducible assumption | ((with_reducible refine nI_lt ?_ ?_); omega; omega) | ((with_reducible refine nI_nlt ?_ ?_); omega; omega) | with_reducible exact ne10 | with_reducible rfl)]))
    left
    show ∃ s', mX8_cut_B181 K R m n (nI ps.length) (nI i) N = some (.inl s') ∧ _
    unfold mX8_cut_B181
    rcases c2 with ⟨rfl, c2⟩ | ⟨rfl, c2⟩
    · have cxt := cxN_t hP c2
      have hC := cutL_ok hpp hAB i (by omega) (fun j Q hj hQ hx => ⟨fun q => ho ⟨j, Q, by omega, hQ, hx, q⟩, hW j Q (by omega) hQ hx⟩) (by omega)
      obtain ⟨M61, g1, g2, g3⟩ := cutOneM_ok hm ps59 hP' hC (by omega) l59 hB hAB c2 (fun q => ho ⟨i, P, hi, hP, c2, q⟩) (hW i P hi hP c2)
      refine ⟨(nI (i + 1), M61), ?_, rfl, by rw [cutL_t hP c2]; exact g2, (f2.tr (c4.mo (by decide) (by decide))).tr g3⟩
      (repeat (first | rw [ck_t (by first | with_reducible assumption | ((with_reducible apply ixA_of); (with_reducible assumption); omega; omega) | ((with_reducible apply isAr_of); (with_reducible assumption); decide) | ((with_reducible apply nI_ne0); omega; omega) | with_reducible exact isB_0 | with_reducible exact isB_1 | with_reducible exact isB_bI _)] | rw [bd_r (by with_reducible assumption)] | rw [bd_s] | rw [bd2_s] | rw [bd3_s] | rw [nm_s] | rw [nI_clamp (by omega)] | rw [nI_1] | rw [bd2_e (c1)] | rw [if_neg (ne10)] | rw [bd_e (g1)] | rw [nx M61] | rw [if_pos (by first | with_reducible assumption | ((with_reducible refine nI_lt ?_ ?_); omega; omega) | ((with_reducible refine nI_nlt ?_ ?_); omega; omega) | with_reducible exact ne10 | with_reducible rfl)] | rw [if_neg (by first | with_reducible assumption | ((with_reducible refine nI_lt ?_ ?_); omega; omega) | ((with_reducible refine nI_nlt ?_ ?_); omega; omega) | with_reducible exact ne10 | with_reducible rfl)]))
    · refine ⟨(nI (i + 1), M59), ?_, rfl, by rw [cutL_f hP c2]; exact ps59, f2.tr (c4.mo (by decide) (by decide))⟩
      (repeat (first | rw [ck_t (by first | with_reducible assumption | ((with_reducible apply ixA_of); (with_reducible assumption); omega; omega) | ((with_reducible apply isAr_of); (with_reducible assumption); decide) | ((with_reducible apply nI_ne0); omega; omega) | with_reducible exact isB_0 | with_reducible exact isB_1 | with_reducible exact isB_bI _)] | rw [bd_r (by with_reducible assumption)] | rw [bd_s] | rw [bd2_s] | rw [bd3_s] | rw [nm_s] | rw [nI_clamp (by omega)] | rw [nI_1] | rw [bd2_e (c1)] | rw [nx M59] | rw [if_pos (by first | with_reducible assumption | ((with_reducible refine nI_lt ?_ ?_); omega; omega) | ((with_reducible refine nI_nlt ?_ ?_); omega; omega) | with_reducible exact ne10 | with_reducible rfl)] | rw [if_neg (by first | with_reducible assumption | ((with_reducible refine nI_lt ?_ ?_); omega; omega) | ((with_reducible refine nI_nlt ?_ ?_); omega; omega) | with_reducible exact ne10 | with_reducible rfl)]))
  · rintro ⟨z, N⟩ ⟨rfl, f1, f2⟩
    refine ⟨_, ?_, N, rfl, f1, f2⟩
    show mX8_cut_B181 K R m n (nI ps.length) (nI ps.length) N = _
    unfold mX8_cut_B181
    (repeat (first | rw [ck_t (by first | with_reducible assumption | ((with_reducible apply ixA_of); (with_reducible assumption); omega; omega) | ((with_reducible apply isAr_of); (with_reducible assumption); decide) | ((with_reducible apply nI_ne0); omega; omega) | with_reducible exact isB_0 | with_reducible exact isB_1 | with_reducible exact isB_bI _)] | rw [bd_r (by with_reducible assumption)] | rw [bd_s] | rw [bd2_s] | rw [bd3_s] | rw [nm_s] | rw [nI_clamp (by omega)] | rw [nI_1] | rw [if_pos (by first | with_reducible assumption | ((with_reducible refine nI_lt ?_ ?_); omega; omega) | ((with_reducible refine nI_nlt ?_ ?_); omega; omega) | with_reducible exact ne10 | with_reducible rfl)] | rw [if_neg (by first | with_reducible assumption | ((with_reducible refine nI_lt ?_ ?_); omega; omega) | ((with_reducible refine nI_nlt ?_ ?_); omega; omega) | with_reducible exact ne10 | with_reducible rfl)]))
    rfl
end CU
theorem inv_cut (o : Nat) (K : Kk) (R : Rr) (M : Mm) (a0 a1 a2 a3 : Int32) (hI : Inv o K R M) : ∃ (v : Int64) (R1 : Rr) (M1 : Mm) (M2 : Mm), mX7_cut K R M o a0 a1 a2 a3 = some (v, R1, M1) ∧ mX8_cut K R1 M1 (o + 2118) a0 a1 a2 a3 = some (v, M2) ∧ Inv o K R1 M2 := by
  have hI0 := hI
  obtain ⟨hs, hm, S, hw, hc, ho⟩ := hI
  have hs0 := hs
  have m0 := hm.1
  obtain ⟨ps, hps, hpp⟩ := now_ps hw
  obtain ⟨c, hc1, hc2, hcA, hcC, hnow⟩ := now_at hs0 hw hc hps
  obtain ⟨f, d, hx⟩ := hi_of hc
  have hq6 : psM (M.2 (o + 2118 + 1)) 0 ps := ho.2.2.2.2.2.1 ps hps
  have h40 := hpp.1
  have hn := hcC.1
  have hcA1 := hcA.1
  obtain ⟨s0, -, -, s2, -, -, -, s6, -, -, s9, -, -, -, -, -, -, -, ⟨i0, -⟩, -, -, -, -, s22, -, -, r1, -⟩ := hs
  by_cases in1 : inB (a0.toInt, a1.toInt)
  · have y1 := isPlace_t (K := K) (R := R) (M := M) in1
    have y1' : ∀ R M, mX8_isPlace K R M a0.toInt64 a1.toInt64 = some 1 := fun R M => isPlaceM_t (by rw [i64_int, i64_int]; exact in1)
    by_cases in2 : inB (a2.toInt, a3.toInt)
    · have y2 := isPlace_t (K := K) (R := R) (M := M) in2
      have y2' : ∀ R M, mX8_isPlace K R M a2.toInt64 a3.toInt64 = some 1 := fun R M => isPlaceM_t (by rw [i64_int, i64_int]; exact in2)
      by_cases same : a0 = a2 ∧ a1 = a3
      · refine ⟨-9000000000000000001, R, M, M, ?_, ?_, hI0⟩
        · unfold mX7_cut
          (repeat (first | rw [ck_t (by first | with_reducible assumption | ((with_reducible apply ixA_of); (with_reducible assumption); omega; omega) | ((with_reducible apply isAr_of); (with_reducible assumption); decide) | ((with_reducible apply nI_ne0); omega; omega) | with_reducible exact isB_0 | with_reducible exact isB_1 | with_reducible exact isB_bI _)] | rw [bd_r (by with_reducible assumption)] | rw [bd_s] | rw [bd2_s] | rw [bd3_s] | rw [nm_s] | rw [nI_clamp (by omega)] | rw [nI_1] | rw [bd_e (y1)] | rw [bd_e (y2)] | rw [if_pos (same.1)] | rw [if_pos (same.2)] | rw [if_pos (by first | with_reducible assumption | ((with_reducible refine nI_lt ?_ ?_); omega; omega) | ((with_reducible refine nI_nlt ?_ ?_); omega; omega) | with_reducible exact ne10 | with_reducible rfl)] | rw [if_neg (by first | with_reducible assumption | ((with_reducible refine nI_lt ?_ ?_); omega; omega) | ((with_reducible refine nI_nlt ?_ ?_); omega; omega) | with_reducible exact ne10 | with_reducible rfl)]))
        · unfold mX8_cut
          (repeat (first | rw [ck_t (by first | with_reducible assumption | ((with_reducible apply ixA_of); (with_reducible assumption); omega; omega) | ((with_reducible apply isAr_of); (with_reducible assumption); decide) | ((with_reducible apply nI_ne0); omega; omega) | with_reducible exact isB_0 | with_reducible exact isB_1 | with_reducible exact isB_bI _)] | rw [bd_r (by with_reducible assumption)] | rw [bd_s] | rw [bd2_s] | rw [bd3_s] | rw [nm_s] | rw [nI_clamp (by omega)] | rw [nI_1] | rw [bd_e (y1' R M)] | rw [bd_e (y2' R M)] | rw [if_pos (same.1)] | rw [if_pos (same.2)] | rw [if_pos (by first | with_reducible assumption | ((with_reducible refine nI_lt ?_ ?_); omega; omega) | ((with_reducible refine nI_nlt ?_ ?_); omega; omega) | with_reducible exact ne10 | with_reducible rfl)] | rw [if_neg (by first | with_reducible assumption | ((with_reducible refine nI_lt ?_ ?_); omega; omega) | ((with_reducible refine nI_nlt ?_ ?_); omega; omega) | with_reducible exact ne10 | with_reducible rfl)]))
      · -- a line
        obtain ⟨A, hA⟩ : ∃ A : Pt, A = (a0.toInt, a1.toInt) := ⟨_, rfl⟩
        obtain ⟨B, hBe⟩ : ∃ B : Pt, B = (a2.toInt, a3.toInt) := ⟨_, rfl⟩
        have hB : lnB A B := by rw [hA, hBe]; exact lnB_of in1 in2
        have hAB : A ≠ B := fun q => same (by
          rw [hA, hBe] at q
          exact ⟨eq32.mpr (congrArg Prod.fst q), eq32.mpr (congrArg Prod.snd q)⟩)
        obtain ⟨j1, j2, j3, j4⟩ := id in1
        obtain ⟨j5, j6, j7, j8⟩ := id in2
        simp only at j1 j2 j3 j4 j5 j6 j7 j8
        have cls : mX7_cut K R M o a0 a1 a2 a3 = mX7_cut_J32 K R M o a0 a1 a2 a3 := by
          unfold mX7_cut
          (repeat (first | rw [ck_t (by first | with_reducible assumption | ((with_reducible apply ixA_of); (with_reducible assumption); omega; omega) | ((with_reducible apply isAr_of); (with_reducible assumption); decide) | ((with_reducible apply nI_ne0); omega; omega) | with_reducible exact isB_0 | with_reducible exact isB_1 | with_reducible exact isB_bI _)] | rw [bd_r (by with_reducible assumption)] | rw [bd_s] | rw [bd2_s] | rw [bd3_s] | rw [nm_s] | rw [nI_clamp (by omega)] | rw [nI_1] | rw [bd_e (y1)] | rw [bd_e (y2)] | rw [if_pos (by first | with_reducible assumption | ((with_reducible refine nI_lt ?_ ?_); omega; omega) | ((with_reducible refine nI_nlt ?_ ?_); omega; omega) | with_reducible exact ne10 | with_reducible rfl)] | rw [if_neg (by first | with_reducible assumption | ((with_reducible refine nI_lt ?_ ?_); omega; omega) | ((with_reducible refine nI_nlt ?_ ?_); omega; omega) | with_reducible exact ne10 | with_reducible rfl)]))
          by_cases q : a0 = a2
          · rw [if_pos q, if_neg (fun q2 => same ⟨q, q2⟩)]
          · rw [if_neg q]
        have rfc : ∀ (R1 : Rr) (M1 : Mm), moA K R1 (o + 2118) → mX8_cut K R1 M1 (o + 2118) a0 a1 a2 a3 = mX8_cut_J36 K R1 M1 (o + 2118) a0 a1 a2 a3 := fun R1 M1 h1 => by
          have h10 := h1.1
          unfold mX8_cut
          (repeat (first | rw [ck_t (by first | with_reducible assumption | ((with_reducible apply ixA_of); (with_reducible assumption); omega; omega) | ((with_reducible apply isAr_of); (with_reducible assumption); decide) | ((with_reducible apply nI_ne0); omega; omega) | with_reducible exact isB_0 | with_reducible exact isB_1 | with_reducible exact isB_bI _)] | rw [bd_r (by with_reducible assumption)] | rw [bd_s] | rw [bd2_s] | rw [bd3_s] | rw [nm_s] | rw [nI_clamp (by omega)] | rw [nI_1] | rw [bd_e (y1' R1 M1)] | rw [bd_e (y2' R1 M1)] | rw [if_pos (by first | with_reducible assumption | ((with_reducible refine nI_lt ?_ ?_); omega; omega) | ((with_reducible refine nI_nlt ?_ ?_); omega; omega) | with_reducible exact ne10 | with_reducible rfl)] | rw [if_neg (by first | with_reducible assumption | ((with_reducible refine nI_lt ?_ ?_); omega; omega) | ((with_reducible refine nI_nlt ?_ ?_); omega; omega) | with_reducible exact ne10 | with_reducible rfl)]))
          by_cases q : a0 = a2
          · rw [if_pos q, if_neg (fun q2 => same ⟨q, q2⟩)]
          · rw [if_neg q]
        obtain ⟨M5, b1, b2, b3, b4⟩ := lset_ok (R := R) (M := M) (A := A) (B := B) (x := a0) (y := a1) (z := a2 - a0) (w := a3 - a1) s22 (by rw [hA]) (by rw [hA]) (by rw [sub32 (by omega) (by omega), hA, hBe]) (by rw [sub32 (by omega) (by omega), hA, hBe])
        have n5 : mX1_now K R M5 (o + 20) = some c := hnow M5 (b3 _ (by omega)).1
        have ps5 := hcC.fr b3 (by omega) (by omega)
        obtain ⟨v, N, c1, c2, c3, c4, c5⟩ := cutC_run hs0 hcA hc1 hc2 ps5 hpp b2 hB
        have F : Fr (o + 1972) (o + 1988) M N := (b3.mono (by omega) (by omega)).tr c4
        have eN : N.2 = M.2 := c5.trans b4
        have nN : N.1 c 1 = nI ps.length := by rw [(F c (by omega)).1]; exact hn
        have cxl := cxN_le (A := A) (B := B) (ps := ps) ps.length
        have clJ : mX7_cut_J32 K R M o a0 a1 a2 a3 = lp (mX7_cut_L66 K R o c) (nI (cxN A B ps ps.length), v, nI ps.length, N) := by
          unfold mX7_cut_J32
          (repeat (first | rw [ck_t (by first | with_reducible assumption | ((with_reducible apply ixA_of); (with_reducible assumption); omega; omega) | ((with_reducible apply isAr_of); (with_reducible assumption); decide) | ((with_reducible apply nI_ne0); omega; omega) | with_reducible exact isB_0 | with_reducible exact isB_1 | with_reducible exact isB_bI _)] | rw [bd_r (by with_reducible assumption)] | rw [bd_s] | rw [bd2_s] | rw [bd3_s] | rw [nm_s] | rw [nI_clamp (by omega)] | rw [nI_1] | rw [bd_e (b1)] | rw [bd_e (n5)] | rw [if_pos (by first | with_reducible assumption | ((with_reducible refine nI_lt ?_ ?_); omega; omega) | ((with_reducible refine nI_nlt ?_ ?_); omega; omega) | with_reducible exact ne10 | with_reducible rfl)] | rw [if_neg (by first | with_reducible assumption | ((with_reducible refine nI_lt ?_ ?_); omega; omega) | ((with_reducible refine nI_nlt ?_ ?_); omega; omega) | with_reducible exact ne10 | with_reducible rfl)]))
          exact c1
        -- the reference, up to where it keeps
        have ref : ∀ (R1 : Rr) (M1 : Mm), moA K R1 (o + 2118) → psM (M1.2 (o + 2118 + 1)) 0 ps → ∃ v w N', mX8_cut_J36 K R1 M1 (o + 2118) a0 a1 a2 a3 = lp (mX8_cut_L73 K R1 (o + 2118)) (nI (cxN A B ps ps.length), v, w, nI ps.length, N') ∧ iv v (anyO A B ps ps.length) ∧ iv w (allO A B ps ps.length) ∧ FM (o + 2118) [15, 21, 24] [0, 11, 12, 15, 16, 17, 18] M1 N' ∧ lnM N' (o + 2118) A B ∧ psM (N'.2 (o + 2118 + 1)) 0 ps := fun R1 M1 h1 h2 => by
          obtain ⟨L0, F0⟩ := lset_M (M := M1) (m := o + 2118) (A := A) (B := B) (x := a0.toInt64) (y := a1.toInt64) (z := a2.toInt64) (w := a3.toInt64) (by rw [i64_int, hA]) (by rw [i64_int, hA]) (by rw [i64_int, hBe]) (by rw [i64_int, hBe])
          obtain ⟨v, w, N', e1, e2, e3, e4⟩ := cutM_run h1 (h2.fr F0 (by decide)) hpp L0 hB
          refine ⟨v, w, N', ?_, e2, e3, (F0.mo (by decide) (by decide)).tr (e4.mo (by decide) (by decide)), L0.fr e4 (by decide), (h2.fr F0 (by decide)).fr e4 (by decide)⟩
          unfold mX8_cut_J36
          (repeat (first | rw [ck_t (by first | with_reducible assumption | ((with_reducible apply ixA_of); (with_reducible assumption); omega; omega) | ((with_reducible apply isAr_of); (with_reducible assumption); decide) | ((with_reducible apply nI_ne0); omega; omega) | with_reducible exact isB_0 | with_reducible exact isB_1 | with_reducible exact isB_bI _)] | rw [bd_r (by with_reducible assumption)] | rw [bd_s] | rw [bd2_s] | rw [bd3_s] | rw [nm_s] | rw [nI_clamp (by omega)] | rw [nI_1] | rw [if_pos (by first | with_reducible assumption | ((with_reducible refine nI_lt ?_ ?_); omega; omega) | ((with_reducible refine nI_nlt ?_ ?_); omega; omega) | with_reducible exact ne10 | with_reducible rfl)] | rw [if_neg (by first | with_reducible assumption | ((with_reducible refine nI_lt ?_ ?_); omega; omega) | ((with_reducible refine nI_nlt ?_ ?_); omega; omega) | with_reducible exact ne10 | with_reducible rfl)]))
          exact e1
        have le40 : nI ps.length + nI (cxN A B ps ps.length) ≤ 40 ↔ ps.length + cxN A B ps ps.length ≤ 40 := by
          rw [nI_add, le32, nI_int (by omega)]
          show ((ps.length + cxN A B ps ps.length : Nat) : Int) ≤ 40 ↔ _
          omega
        rw [cls, clJ]
        by_cases hfull : anyO A B ps ps.length ∨ ¬ ps.length + cxN A B ps ps.length ≤ 40
        · have hqN : psM (N.2 (o + 2118 + 1)) 0 ps := by rw [eN]; exact hq6
          obtain ⟨v', w', N', e1, e2, e3, e4, e5, e6⟩ := ref R N hm hqN
          refine ⟨-9000000000000000003, R, N, N', lp_out ?_, ?_, hI0.kp ((Kp.fr F (by omega)).tr (e4.kp0 (by decide) (by decide) (by decide) (by decide)))⟩
          · show mX7_cut_B66 K R o c (nI (cxN A B ps ps.length)) v (nI ps.length) N = _
            unfold mX7_cut_B66
            (repeat (first | rw [ck_t (by first | with_reducible assumption | ((with_reducible apply ixA_of); (with_reducible assumption); omega; omega) | ((with_reducible apply isAr_of); (with_reducible assumption); decide) | ((with_reducible apply nI_ne0); omega; omega) | with_reducible exact isB_0 | with_reducible exact isB_1 | with_reducible exact isB_bI _)] | rw [bd_r (by with_reducible assumption)] | rw [bd_s] | rw [bd2_s] | rw [bd3_s] | rw [nm_s] | rw [nI_clamp (by omega)] | rw [nI_1] | rw [nN] | rw [if_pos (by first | with_reducible assumption | ((with_reducible refine nI_lt ?_ ?_); omega; omega) | ((with_reducible refine nI_nlt ?_ ?_); omega; omega) | with_reducible exact ne10 | with_reducible rfl)] | rw [if_neg (by first | with_reducible assumption | ((with_reducible refine nI_lt ?_ ?_); omega; omega) | ((with_reducible refine nI_nlt ?_ ?_); omega; omega) | with_reducible exact ne10 | with_reducible rfl)]))
            rcases c2 with ⟨rfl, c2⟩ | ⟨rfl, c2⟩
            · rw [if_neg ne10]; rfl
            · rw [if_pos rfl, if_neg (fun q => by rcases hfull with z | z; exact c2 z; exact z (le40.mp q))]; rfl
          · rw [rfc R N hm, e1]
            refine lp_out ?_
            show mX8_cut_B73 K R (o + 2118) (nI (cxN A B ps ps.length)) v' w' (nI ps.length) N' = _
            unfold mX8_cut_B73
            (repeat (first | rw [ck_t (by first | with_reducible assumption | ((with_reducible apply ixA_of); (with_reducible assumption); omega; omega) | ((with_reducible apply isAr_of); (with_reducible assumption); decide) | ((with_reducible apply nI_ne0); omega; omega) | with_reducible exact isB_0 | with_reducible exact isB_1 | with_reducible exact isB_bI _)] | rw [bd_r (by with_reducible assumption)] | rw [bd_s] | rw [bd2_s] | rw [bd3_s] | rw [nm_s] | rw [nI_clamp (by omega)] | rw [nI_1] | rw [bd_e (piecesM_ok hm e6)] | rw [if_pos (by first | with_reducible assumption | ((with_reducible refine nI_lt ?_ ?_); omega; omega) | ((with_reducible refine nI_nlt ?_ ?_); omega; omega) | with_reducible exact ne10 | with_reducible rfl)] | rw [if_neg (by first | with_reducible assumption | ((with_reducible refine nI_lt ?_ ?_); omega; omega) | ((with_reducible refine nI_nlt ?_ ?_); omega; omega) | with_reducible exact ne10 | with_reducible rfl)]))
            rcases e2 with ⟨rfl, e2⟩ | ⟨rfl, e2⟩
            · rw [if_neg ne10]; rfl
            · rw [if_pos rfl]
              rw [if_neg (fun q => by rcases hfull with z | z; exact e2 z; exact z (le40.mp q))]; rfl
        · have ho' : ¬ anyO A B ps ps.length := fun q => hfull (Or.inl q)
          have hn40 : ps.length + cxN A B ps ps.length ≤ 40 := by
            by_cases z : ps.length + cxN A B ps ps.length ≤ 40
            · exact z
            · exact absurd (Or.inr z) hfull
          have v0 : v = 0 := by
            rcases c2 with ⟨-, z⟩ | ⟨z, -⟩
            · exact absurd z ho'
            · exact z
          subst v0
          have hd8 := hx.1.1
          have hcd : cont o d = o + 22 + 162 * d := rfl
          have hxN := hx.fr (M' := N) hw.2.2.2.2.1 (fun i q hq => (hw.2.2.2.2.2.1 i q hq).fit) (fun b hb _ => (F b (by omega)).1)
          obtain ⟨M4, d1, d2, d3, d4⟩ := draft_ok hs0 hxN hw.2.2.2.1 hw.2.2.2.2.1 hps hpp.fit
          have l4 : lnC M4 (o + 1972) A B := c3.eq (fun k _ _ => congrFun (d3 (o + 1972) (by omega)).1 k)
          have fro : ∀ N8, FC o (cont o d) M4 N8 → (N8.2 = M.2) ∧ (∀ b, b < o + 1968 → (b < cont o d ∨ cont o d + 162 ≤ b) → N8.1 b = M.1 b) ∧ ∀ b, o + 2118 ≤ b → N8.1 b = M.1 b := fun N8 h8 => ⟨(h8.2.1.trans d4).trans eN, fun b hb h => by rw [h8.1 b (by omega) h (by omega), (d3 b h).1, (F b (by omega)).1], fun b hb => by rw [h8.1 b (by omega) (by omega) (by omega), (d3 b (by omega)).1, (F b (by omega)).1]⟩
          have front : ∀ r, mX7_cutThose K R N o (nI ps.length) = r → mX7_cut_B66 K R o c (nI (cxN A B ps ps.length)) 0 (nI ps.length) N = ex (bd3 r (fun i33 R34 M35 => if i33 = 0 then some ((-9000000000000000004), R34, M35) else some ((nI (cxN A B ps ps.length)).toInt64, R34, M35))) := fun r hr => by
            unfold mX7_cut_B66
            (repeat (first | rw [ck_t (by first | with_reducible assumption | ((with_reducible apply ixA_of); (with_reducible assumption); omega; omega) | ((with_reducible apply isAr_of); (with_reducible assumption); decide) | ((with_reducible apply nI_ne0); omega; omega) | with_reducible exact isB_0 | with_reducible exact isB_1 | with_reducible exact isB_bI _)] | rw [bd_r (by with_reducible assumption)] | rw [bd_s] | rw [bd2_s] | rw [bd3_s] | rw [nm_s] | rw [nI_clamp (by omega)] | rw [nI_1] | rw [nN] | rw [if_pos (by first | with_reducible assumption | ((with_reducible refine nI_lt ?_ ?_); omega; omega) | ((with_reducible refine nI_nlt ?_ ?_); omega; omega) | with_reducible exact ne10 | with_reducible rfl)] | rw [if_neg (by first | with_reducible assumption | ((with_reducible refine nI_lt ?_ ?_); omega; omega) | ((with_reducible refine nI_nlt ?_ ?_); omega; omega) | with_reducible exact ne10 | with_reducible rfl)]))
            rw [if_pos (le40.mpr hn40), hr]
          have thJ : mX7_cutThose K R N o (nI ps.length) = lp (mX7_cutThose_L10 K R o (nI ps.length) (cont o d)) (0, M4) := by
            unfold mX7_cutThose
            (repeat (first | rw [ck_t (by first | with_reducible assumption | ((with_reducible apply ixA_of); (with_reducible assumption); omega; omega) | ((with_reducible apply isAr_of); (with_reducible assumption); decide) | ((with_reducible apply nI_ne0); omega; omega) | with_reducible exact isB_0 | with_reducible exact isB_1 | with_reducible exact isB_bI _)] | rw [bd_r (by with_reducible assumption)] | rw [bd_s] | rw [bd2_s] | rw [bd3_s] | rw [nm_s] | rw [nI_clamp (by omega)] | rw [nI_1] | rw [bd2_e (d1)] | rw [if_pos (by first | with_reducible assumption | ((with_reducible refine nI_lt ?_ ?_); omega; omega) | ((with_reducible refine nI_nlt ?_ ?_); omega; omega) | with_reducible exact ne10 | with_reducible rfl)] | rw [if_neg (by first | with_reducible assumption | ((with_reducible refine nI_lt ?_ ?_); omega; omega) | ((with_reducible refine nI_nlt ?_ ?_); omega; omega) | with_reducible exact ne10 | with_reducible rfl)]))
          rcases cutThose_ok (M := M4) hs0 (cont_psA hs0 hd8) (by omega) (by omega) d2 hpp l4 hB hAB ho' hn40 with ⟨hW, N8, e1, e2, e3⟩ | ⟨hW, N8, e1, e2⟩
          · obtain ⟨f1, f2, f3⟩ := fro N8 e1
            have hpp' := cutL_ok hpp hAB ps.length (Nat.le_refl _) (fun j Q hj hQ hx => ⟨fun q => ho' ⟨j, Q, hj, hQ, hx, q⟩, hW j Q hj hQ hx⟩) hn40
            obtain ⟨R1, M17, k1, k2, k3, k4, k5, k6, k7⟩ := chg0 hs0 hm hw hc ho hx hpp' e2 f2 f1 f3
            have hq17 : psM (M17.2 (o + 2118 + 1)) 0 ps := by rw [k5]; exact hq6
            obtain ⟨v', w', N', u1, u2, u3, u4, u5, u6⟩ := ref R1 M17 k4 hq17
            obtain ⟨Nk, n1, n2, n3⟩ := k7 N' _ _ u4 (by decide) (by decide) (by decide) (by decide)
            have psk := u6.fr n2 (by decide)
            obtain ⟨M23, g1, g2, g3⟩ := cutM_those (n := nI (cxN A B ps ps.length)) k4 psk hpp (u5.fr n2 (by decide)) hB hAB ho' hW hn40
            refine ⟨(nI (cxN A B ps ps.length)).toInt64, R1, M17, M23, lp_out ?_, ?_, n3 M23 _ _ g3 (by decide) (by decide) (by decide) (by decide) g2⟩
            · have th : mX7_cutThose K R N o (nI ps.length) = some (1, R1, M17) := by
                rw [thJ, e3]
                refine lp_out ?_
                show mX7_cutThose_B10 K R o (nI ps.length) (cont o d) (nI ps.length) N8 = _
                unfold mX7_cutThose_B10
                (repeat (first | rw [ck_t (by first | with_reducible assumption | ((with_reducible apply ixA_of); (with_reducible assumption); omega; omega) | ((with_reducible apply isAr_of); (with_reducible assumption); decide) | ((with_reducible apply nI_ne0); omega; omega) | with_reducible exact isB_0 | with_reducible exact isB_1 | with_reducible exact isB_bI _)] | rw [bd_r (by with_reducible assumption)] | rw [bd_s] | rw [bd2_s] | rw [bd3_s] | rw [nm_s] | rw [nI_clamp (by omega)] | rw [nI_1] | rw [bd2_e (k1)] | rw [if_pos (by first | with_reducible assumption | ((with_reducible refine nI_lt ?_ ?_); omega; omega) | ((with_reducible refine nI_nlt ?_ ?_); omega; omega) | with_reducible exact ne10 | with_reducible rfl)] | rw [if_neg (by first | with_reducible assumption | ((with_reducible refine nI_lt ?_ ?_); omega; omega) | ((with_reducible refine nI_nlt ?_ ?_); omega; omega) | with_reducible exact ne10 | with_reducible rfl)]))
                rfl
              show mX7_cut_B66 K R o c (nI (cxN A B ps ps.length)) 0 (nI ps.length) N = _
              rw [front _ th, bd3_s, if_neg ne10]; rfl
            · rw [rfc R1 M17 k4, u1]
              refine lp_out ?_
              show mX8_cut_B73 K R1 (o + 2118) (nI (cxN A B ps ps.length)) v' w' (nI ps.length) N' = _
              unfold mX8_cut_B73
              (repeat (first | rw [ck_t (by first | with_reducible assumption | ((with_reducible apply ixA_of); (with_reducible assumption); omega; omega) | ((with_reducible apply isAr_of); (with_reducible assumption); decide) | ((with_reducible apply nI_ne0); omega; omega) | with_reducible exact isB_0 | with_reducible exact isB_1 | with_reducible exact isB_bI _)] | rw [bd_r (by with_reducible assumption)] | rw [bd_s] | rw [bd2_s] | rw [bd3_s] | rw [nm_s] | rw [nI_clamp (by omega)] | rw [nI_1] | rw [bd_e (piecesM_ok k4 u6)] | rw [if_pos (by first | with_reducible assumption | ((with_reducible refine nI_lt ?_ ?_); omega; omega) | ((with_reducible refine nI_nlt ?_ ?_); omega; omega) | with_reducible exact ne10 | with_reducible rfl)] | rw [if_neg (by first | with_reducible assumption | ((with_reducible refine nI_lt ?_ ?_); omega; omega) | ((with_reducible refine nI_nlt ?_ ?_); omega; omega) | with_reducible exact ne10 | with_reducible rfl)]))
              rcases u2 with ⟨-, u2⟩ | ⟨rfl, u2⟩
              · exact absurd u2 ho'
              · rcases u3 with ⟨rfl, u3⟩ | ⟨-, u3⟩
                · rw [if_pos rfl, if_pos (le40.mpr hn40), if_neg ne10, bd_e n1, bd_e (piecesM_ok k4 psk), nm_s]
                  rw [show lp (mX8_cut_L181 K R1 (o + 2118) (nI (cxN A B ps ps.length)) (nI ps.length)) (0, Nk) = _ from g1]
                  rfl
                · exact absurd hW u3
          · obtain ⟨f1, f2, f3⟩ := fro N8 e1
            have hq8 : psM (N8.2 (o + 2118 + 1)) 0 ps := by rw [f1]; exact hq6
            obtain ⟨v', w', N', u1, u2, u3, u4, u5, u6⟩ := ref R N8 hm hq8
            refine ⟨-9000000000000000004, R, N8, N', lp_out ?_, ?_, ?_⟩
            · show mX7_cut_B66 K R o c (nI (cxN A B ps ps.length)) 0 (nI ps.length) N = _
              rw [front _ (thJ.trans e2), bd3_s, if_pos rfl]; rfl
            · rw [rfc R N8 hm, u1]
              refine lp_out ?_
              show mX8_cut_B73 K R (o + 2118) (nI (cxN A B ps ps.length)) v' w' (nI ps.length) N' = _
              unfold mX8_cut_B73
              (repeat (first | rw [ck_t (by first | with_reducible assumption | ((with_reducible apply ixA_of); (with_reducible assumption); omega; omega) | ((with_reducible apply isAr_of); (with_reducible assumption); decide) | ((with_reducible apply nI_ne0); omega; omega) | with_reducible exact isB_0 | with_reducible exact isB_1 | with_reducible exact isB_bI _)] | rw [bd_r (by with_reducible assumption)] | rw [bd_s] | rw [bd2_s] | rw [bd3_s] | rw [nm_s] | rw [nI_clamp (by omega)] | rw [nI_1] | rw [bd_e (piecesM_ok hm u6)] | rw [if_pos (by first | with_reducible assumption | ((with_reducible refine nI_lt ?_ ?_); omega; omega) | ((with_reducible refine nI_nlt ?_ ?_); omega; omega) | with_reducible exact ne10 | with_reducible rfl)] | rw [if_neg (by first | with_reducible assumption | ((with_reducible refine nI_lt ?_ ?_); omega; omega) | ((with_reducible refine nI_nlt ?_ ?_); omega; omega) | with_reducible exact ne10 | with_reducible rfl)]))
              rcases u2 with ⟨-, u2⟩ | ⟨rfl, u2⟩
              · exact absurd u2 ho'
              · rcases u3 with ⟨-, u3⟩ | ⟨rfl, u3⟩
                · exact absurd u3 hW
                · rw [if_pos rfl, if_pos (le40.mpr hn40), if_pos rfl]; rfl
            · have kk := u4.kp0 (by decide) (by decide) (by decide) (by decide)
              refine Inv_dr hs0 hm hw hc ho hx (fun b hb h => ?_) (fun b h1 h2 => ?_) ?_ ?_ ?_
              · rw [(kk.1 b hb).1, (kk.1 b hb).2, f2 b hb h, f1]; exact ⟨rfl, rfl⟩
              · rw [(kk.2.1 b h1 h2).1, (kk.2.1 b h1 h2).2, f3 b (by omega), f1]; exact ⟨rfl, rfl⟩
              · rw [kk.2.2.1, f3 _ (by omega)]
              · rw [kk.2.2.2.1, f3 _ (by omega)]
              · rw [kk.2.2.2.2, f3 _ (by omega)]
    · refine ⟨-9000000000000000001, R, M, M, ?_, ?_, hI0⟩
      · unfold mX7_cut
        (repeat (first | rw [ck_t (by first | with_reducible assumption | ((with_reducible apply ixA_of); (with_reducible assumption); omega; omega) | ((with_reducible apply isAr_of); (with_reducible assumption); decide) | ((with_reducible apply nI_ne0); omega; omega) | with_reducible exact isB_0 | with_reducible exact isB_1 | with_reducible exact isB_bI _)] | rw [bd_r (by with_reducible assumption)] | rw [bd_s] | rw [bd2_s] | rw [bd3_s] | rw [nm_s] | rw [nI_clamp (by omega)] | rw [nI_1] | rw [bd_e (y1)] | rw [bd_e (isPlace_f in2)] | rw [if_pos (by first | with_reducible assumption | ((with_reducible refine nI_lt ?_ ?_); omega; omega) | ((with_reducible refine nI_nlt ?_ ?_); omega; omega) | with_reducible exact ne10 | with_reducible rfl)] | rw [if_neg (by first | with_reducible assumption | ((with_reducible refine nI_lt ?_ ?_); omega; omega) | ((with_reducible refine nI_nlt ?_ ?_); omega; omega) | with_reducible exact ne10 | with_reducible rfl)]))
      · unfold mX8_cut
        (repeat (first | rw [ck_t (by first | with_reducible assumption | ((with_reducible apply ixA_of); (with_reducible assumption); omega; omega) | ((with_reducible apply isAr_of); (with_reducible assumption); decide) | ((with_reducible apply nI_ne0); omega; omega) | with_reducible exact isB_0 | with_reducible exact isB_1 | with_reducible exact isB_bI _)] | rw [bd_r (by with_reducible assumption)] | rw [bd_s] | rw [bd2_s] | rw [bd3_s] | rw [nm_s] | rw [nI_clamp (by omega)] | rw [nI_1] | rw [bd_e (y1' R M)] | rw [bd_e (isPlaceM_f (K := K) (R := R) (M := M) (x := a2.toInt64) (y := a3.toInt64) (by rw [i64_int, i64_int]; exact in2))] | rw [if_pos (by first | with_reducible assumption | ((with_reducible refine nI_lt ?_ ?_); omega; omega) | ((with_reducible refine nI_nlt ?_ ?_); omega; omega) | with_reducible exact ne10 | with_reducible rfl)] | rw [if_neg (by first | with_reducible assumption | ((with_reducible refine nI_lt ?_ ?_); omega; omega) | ((with_reducible refine nI_nlt ?_ ?_); omega; omega) | with_reducible exact ne10 | with_reducible rfl)]))
  · refine ⟨-9000000000000000001, R, M, M, ?_, ?_, hI0⟩
    · unfold mX7_cut
      (repeat (first | rw [ck_t (by first | with_reducible assumption | ((with_reducible apply ixA_of); (with_reducible assumption); omega; omega) | ((with_reducible apply isAr_of); (with_reducible assumption); decide) | ((with_reducible apply nI_ne0); omega; omega) | with_reducible exact isB_0 | with_reducible exact isB_1 | with_reducible exact isB_bI _)] | rw [bd_r (by with_reducible assumption)] | rw [bd_s] | rw [bd2_s] | rw [bd3_s] | rw [nm_s] | rw [nI_clamp (by omega)] | rw [nI_1] | rw [bd_e (isPlace_f in1)] | rw [if_pos (by first | with_reducible assumption | ((with_reducible refine nI_lt ?_ ?_); omega; omega) | ((with_reducible refine nI_nlt ?_ ?_); omega; omega) | with_reducible exact ne10 | with_reducible rfl)] | rw [if_neg (by first | with_reducible assumption | ((with_reducible refine nI_lt ?_ ?_); omega; omega) | ((with_reducible refine nI_nlt ?_ ?_); omega; omega) | with_reducible exact ne10 | with_reducible rfl)]))
    · unfold mX8_cut
      (repeat (first | rw [ck_t (by first | with_reducible assumption | ((with_reducible apply ixA_of); (with_reducible assumption); omega; omega) | ((with_reducible apply isAr_of); (with_reducible assumption); decide) | ((with_reducible apply nI_ne0); omega; omega) | with_reducible exact isB_0 | with_reducible exact isB_1 | with_reducible exact isB_bI _)] | rw [bd_r (by with_reducible assumption)] | rw [bd_s] | rw [bd2_s] | rw [bd3_s] | rw [nm_s] | rw [nI_clamp (by omega)] | rw [nI_1] | rw [bd_e (isPlaceM_f (K := K) (R := R) (M := M) (x := a0.toInt64) (y := a1.toInt64) (by rw [i64_int, i64_int]; exact in1))] | rw [if_pos (by first | with_reducible assumption | ((with_reducible refine nI_lt ?_ ?_); omega; omega) | ((with_reducible refine nI_nlt ?_ ?_); omega; omega) | with_reducible exact ne10 | with_reducible rfl)] | rw [if_neg (by first | with_reducible assumption | ((with_reducible refine nI_lt ?_ ?_); omega; omega) | ((with_reducible refine nI_nlt ?_ ?_); omega; omega) | with_reducible exact ne10 | with_reducible rfl)]))
