/-! covers -/
def insF (l q : List Pt) : Prop := ∀ (j : Nat) p, q[j]? = some p → inP l p
def badC (ps : List Pc) (l : List Pt) (j : Nat) : Prop := ∃ P, ps[j]? = some P ∧ P.2.2.2.2 = false ∧ ¬ insF l (plc P)
def badP (ps : List Pc) (i j : Nat) : Prop := ∃ P Q, ps[i]? = some P ∧ ps[j]? = some Q ∧ P.2.2.2.2 = false ∧ Q.2.2.2.2 = false ∧ ovr (plc P) (plc Q)
def fstP (b : Nat → Nat → Prop) (n i j : Nat) : Prop := i < j ∧ j < n ∧ b i j ∧ ∀ i' j', (i' < i ∨ (i' = i ∧ j' < j)) → i' < j' → j' < n → ¬ b i' j'
theorem fstP.un {b : Nat → Nat → Prop} {n i j i' j' : Nat} (h : fstP b n i j) (g : fstP b n i' j') : i = i' ∧ j = j' := by
  obtain ⟨h1, h2, h3, h4⟩ := h
  obtain ⟨g1, g2, g3, g4⟩ := g
  rcases Nat.lt_trichotomy i i' with q | q | q
  · exact absurd h3 (g4 i j (Or.inl q) h1 h2)
  · subst q
    rcases Nat.lt_trichotomy j j' with q | q | q
    · exact absurd h3 (g4 i j (Or.inr ⟨rfl, q⟩) h1 h2)
    · exact ⟨rfl, q⟩
    · exact absurd g3 (h4 i j' (Or.inr ⟨rfl, q⟩) g1 g2)
  · exact absurd g3 (h4 i' j' (Or.inl q) g1 g2)
def covA (ps : List Pc) (l : List Pt) (v : Int64) : Prop :=
  (∃ j, j < ps.length ∧ badC ps l j ∧ (∀ k, k < j → ¬ badC ps l k) ∧ v = lN (1 + j)) ∨
  ((∀ j, j < ps.length → ¬ badC ps l j) ∧ ((∃ i j, fstP (badP ps) ps.length i j ∧ v = lN (100 + (40 * i + j))) ∨ ((∀ i j, i < j → j < ps.length → ¬ badP ps i j) ∧ ((sumN (arP ps) ps.length = area l ∧ v = 0) ∨ (sumN (arP ps) ps.length ≠ area l ∧ v = 2000)))))
theorem covA.un {ps : List Pc} {l : List Pt} {v w : Int64} (h : covA ps l v) (g : covA ps l w) : v = w := by
  rcases h with ⟨j, h1, h2, h3, rfl⟩ | ⟨h1, h⟩ <;> rcases g with ⟨k, g1, g2, g3, rfl⟩ | ⟨g1, g⟩
  · rcases Nat.lt_trichotomy j k with q | q | q
    · exact absurd h2 (g3 j q)
    · rw [q]
    · exact absurd g2 (h3 k q)
  · exact absurd h2 (g1 j h1)
  · exact absurd g2 (h1 k g1)
  · rcases h with ⟨i, j, h2, rfl⟩ | ⟨h2, h⟩ <;> rcases g with ⟨i', j', g2, rfl⟩ | ⟨g2, g⟩
    · obtain ⟨rfl, rfl⟩ := h2.un g2; rfl
    · exact absurd h2.2.2.1 (g2 i j h2.1 h2.2.1)
    · exact absurd g2.2.2.1 (h2 i' j' g2.1 g2.2.1)
    · rcases h with ⟨h, rfl⟩ | ⟨h, rfl⟩ <;> rcases g with ⟨g, rfl⟩ | ⟨g, rfl⟩ <;> first | rfl | exact absurd h g | exact absurd g h
section COV
variable {K : Kk} {R : Rr} {M : Mm}
theorem row_ok {o c i : Nat} {ps : List Pc} (hs : skC K R o) (hA : psA K R c) (h : psC M c ps) (hpp : isPs ps) (hpl : ∀ k P, ps[k]? = some P → rgC M (o + 1998 + 3 * k) (plc P)) (hi : i < ps.length) : ∃ r, lp (mX7_firstPairOver_L14 K R M o c (nI i)) (nI (i + 1)) = some r ∧ ((∃ j, i < j ∧ j < ps.length ∧ badP ps i j ∧ (∀ j', i < j' → j' < j → ¬ badP ps i j') ∧ r = .inr (lN (40 * i + j))) ∨ ((∀ j, i < j → j < ps.length → ¬ badP ps i j) ∧ r = .inl (nI (i + 1)))) := by
  obtain ⟨-, -, -, -, -, -, -, -, -, -, -, -, -, -, s13, -, -, -, -, -, -, -, -, -, -, -, -, -, -, -, b1, b2⟩ := hs
  obtain ⟨g0, g1, g2, g3⟩ := hA
  have e := h.1
  have h40 := hpp.1
  obtain ⟨P, hP⟩ := get_ex hi
  have iP := hpp.2 i P hP
  obtain ⟨k1, k2⟩ := g3 i (by omega)
  have k20 := k2.1
  obtain ⟨t1, t2⟩ := b2 i (by omega)
  have t20 := t2.1
  have pC := h.2 i P hP
  refine lp_ind (f := mX7_firstPairOver_L14 K R M o c (nI i)) (fun (k : Nat) (s : Int32) => s = nI k ∧ i < k ∧ ∀ j, i < j → j < k → ¬ badP ps i j) (fun r => ((∃ j, i < j ∧ j < ps.length ∧ badP ps i j ∧ (∀ j', i < j' → j' < j → ¬ badP ps i j') ∧ r = .inr (lN (40 * i + j))) ∨ ((∀ j, i < j → j < ps.length → ¬ badP ps i j) ∧ r = .inl (nI (i + 1))))) ps.length ?_ ?_ (ps.length - (i + 1)) (i + 1) (nI (i + 1)) (by omega) ⟨rfl, by omega, fun j h1 h2 => by omega⟩
  · rintro k s hk ⟨rfl, hik, f⟩
    obtain ⟨Q, hQ⟩ := get_ex hk
    have iQ := hpp.2 k Q hQ
    obtain ⟨l1, l2⟩ := g3 k (by omega)
    have l20 := l2.1
    obtain ⟨u1, u2⟩ := b2 k (by omega)
    have qC := h.2 k Q hQ
    have go : mX7_firstPairOver_J72 K R M o c (nI i) (nI k) = some (.inl (nI (k + 1))) := by unfold mX7_firstPairOver_J72; (repeat (first | rw [ck_t (by first | with_reducible assumption | ((with_reducible apply ixA_of); (with_reducible assumption); omega; omega) | ((with_reducible apply isAr_of); (with_reducible assumption); decide) | ((with_reducible apply nI_ne0); omega; omega) | with_reducible exact isB_0 | with_reducible exact isB_1 | with_reducible exact isB_bI _)] | rw [bd_r (by with_reducible assumption)] | rw [bd_s] | rw [bd2_s] | rw [bd3_s] | rw [nm_s] | rw [nI_clamp (by omega)] | rw [nI_1] | rw [if_pos (by first | with_reducible assumption | ((with_reducible refine nI_lt ?_ ?_); omega; omega) | ((with_reducible refine nI_nlt ?_ ?_); omega; omega) | with_reducible exact ne10 | with_reducible rfl)] | rw [if_neg (by first | with_reducible assumption | ((with_reducible refine nI_lt ?_ ?_); omega; omega) | ((with_reducible refine nI_nlt ?_ ?_); omega; omega) | with_reducible exact ne10 | with_reducible rfl)]))
    have cont : ¬ badP ps i k → mX7_firstPairOver_B14 K R M o c (nI i) (nI k) = some (.inl (nI (k + 1))) → (∃ s', mX7_firstPairOver_L14 K R M o c (nI i) (nI k) = some (.inl s') ∧ (s' = nI (k + 1) ∧ i < k + 1 ∧ ∀ j, i < j → j < k + 1 → ¬ badP ps i j)) := fun nb e => ⟨_, e, rfl, by omega, fun j h1 h2 => by
      by_cases q : j = k
      · rw [q]; exact nb
      · exact f j h1 (by omega)⟩
    cases hp : P.2.2.2.2 with
    | true =>
      refine Or.inl (cont ?_ ?_)
      · rintro ⟨P', Q', a, _, b, _⟩
        rw [get_un a hP, hp] at b; cases b
      · unfold mX7_firstPairOver_B14
        (repeat (first | rw [ck_t (by first | with_reducible assumption | ((with_reducible apply ixA_of); (with_reducible assumption); omega; omega) | ((with_reducible apply isAr_of); (with_reducible assumption); decide) | ((with_reducible apply nI_ne0); omega; omega) | with_reducible exact isB_0 | with_reducible exact isB_1 | with_reducible exact isB_bI _)] | rw [bd_r (by with_reducible assumption)] | rw [bd_s] | rw [bd2_s] | rw [bd3_s] | rw [nm_s] | rw [nI_clamp (by omega)] | rw [nI_1] | rw [e] | rw [pC.2.2.2.2] | rw [hp] | rw [if_neg (show ¬ bI true = 0 by decide)] | rw [if_pos (by first | with_reducible assumption | ((with_reducible refine nI_lt ?_ ?_); omega; omega) | ((with_reducible refine nI_nlt ?_ ?_); omega; omega) | with_reducible exact ne10 | with_reducible rfl)] | rw [if_neg (by first | with_reducible assumption | ((with_reducible refine nI_lt ?_ ?_); omega; omega) | ((with_reducible refine nI_nlt ?_ ?_); omega; omega) | with_reducible exact ne10 | with_reducible rfl)]))
        exact go
    | false =>
      cases hq : Q.2.2.2.2 with
      | true =>
        refine Or.inl (cont ?_ ?_)
        · rintro ⟨P', Q', _, a, _, b, _⟩
          rw [get_un a hQ, hq] at b; cases b
        · unfold mX7_firstPairOver_B14
          (repeat (first | rw [ck_t (by first | with_reducible assumption | ((with_reducible apply ixA_of); (with_reducible assumption); omega; omega) | ((with_reducible apply isAr_of); (with_reducible assumption); decide) | ((with_reducible apply nI_ne0); omega; omega) | with_reducible exact isB_0 | with_reducible exact isB_1 | with_reducible exact isB_bI _)] | rw [bd_r (by with_reducible assumption)] | rw [bd_s] | rw [bd2_s] | rw [bd3_s] | rw [nm_s] | rw [nI_clamp (by omega)] | rw [nI_1] | rw [e] | rw [pC.2.2.2.2] | rw [hp] | rw [if_pos (show bI false = 0 from rfl)] | rw [qC.2.2.2.2] | rw [hq] | rw [if_neg (show ¬ bI true = 0 by decide)] | rw [if_pos (by first | with_reducible assumption | ((with_reducible refine nI_lt ?_ ?_); omega; omega) | ((with_reducible refine nI_nlt ?_ ?_); omega; omega) | with_reducible exact ne10 | with_reducible rfl)] | rw [if_neg (by first | with_reducible assumption | ((with_reducible refine nI_lt ?_ ?_); omega; omega) | ((with_reducible refine nI_nlt ?_ ?_); omega; omega) | with_reducible exact ne10 | with_reducible rfl)]))
          exact go
      | false =>
        have lP := (plc_ok iP).2.2.2.1
        have lQ := (plc_ok iQ).2.2.2.1
        have sP := iP.1.2.1
        have sQ := iQ.1.2.1
        obtain ⟨v, v1, v2⟩ := liesOver_ok t2 (hpl i P hP) (by omega) (by decide) (inBs_of (plc_ok iP).2.2.2.2) u2 (hpl k Q hQ) (by omega) (by decide) (inBs_of (plc_ok iQ).2.2.2.2)
        have bp : badP ps i k ↔ ovr (plc P) (plc Q) := ⟨fun ⟨P', Q', a, b, _, _, z⟩ => by rw [get_un a hP, get_un b hQ] at z; exact z, fun z => ⟨P, Q, hP, hQ, hp, hq, z⟩⟩
        have e40 : (40 : Int32) * nI i + nI k = nI (40 * i + k) := by rw [show (40 : Int32) = nI 40 from rfl, pk_mul, nI_add]
        rcases v2 with ⟨rfl, v2⟩ | ⟨rfl, v2⟩
        · refine Or.inr ⟨.inr (lN (40 * i + k)), ?_, Or.inl ⟨k, hik, hk, bp.mpr v2, f, rfl⟩⟩
          show mX7_firstPairOver_B14 K R M o c (nI i) (nI k) = _
          unfold mX7_firstPairOver_B14
          (repeat (first | rw [ck_t (by first | with_reducible assumption | ((with_reducible apply ixA_of); (with_reducible assumption); omega; omega) | ((with_reducible apply isAr_of); (with_reducible assumption); decide) | ((with_reducible apply nI_ne0); omega; omega) | with_reducible exact isB_0 | with_reducible exact isB_1 | with_reducible exact isB_bI _)] | rw [bd_r (by with_reducible assumption)] | rw [bd_s] | rw [bd2_s] | rw [bd3_s] | rw [nm_s] | rw [nI_clamp (by omega)] | rw [nI_1] | rw [e] | rw [pC.2.2.2.2] | rw [hp] | rw [if_pos (show bI false = 0 from rfl)] | rw [qC.2.2.2.2] | rw [hq] | rw [bd_e (v1)] | rw [e40] | rw [nI_i64 (show 40 * i + k < 2 ^ 31 by omega)] | rw [if_pos (by first | with_reducible assumption | ((with_reducible refine nI_lt ?_ ?_); omega; omega) | ((with_reducible refine nI_nlt ?_ ?_); omega; omega) | with_reducible exact ne10 | with_reducible rfl)] | rw [if_neg (by first | with_reducible assumption | ((with_reducible refine nI_lt ?_ ?_); omega; omega) | ((with_reducible refine nI_nlt ?_ ?_); omega; omega) | with_reducible exact ne10 | with_reducible rfl)]))
          rfl
        · refine Or.inl (cont (fun z => v2 (bp.mp z)) ?_)
          unfold mX7_firstPairOver_B14
          (repeat (first | rw [ck_t (by first | with_reducible assumption | ((with_reducible apply ixA_of); (with_reducible assumption); omega; omega) | ((with_reducible apply isAr_of); (with_reducible assumption); decide) | ((with_reducible apply nI_ne0); omega; omega) | with_reducible exact isB_0 | with_reducible exact isB_1 | with_reducible exact isB_bI _)] | rw [bd_r (by with_reducible assumption)] | rw [bd_s] | rw [bd2_s] | rw [bd3_s] | rw [nm_s] | rw [nI_clamp (by omega)] | rw [nI_1] | rw [e] | rw [pC.2.2.2.2] | rw [hp] | rw [if_pos (show bI false = 0 from rfl)] | rw [qC.2.2.2.2] | rw [hq] | rw [bd_e (v1)] | rw [if_pos (by first | with_reducible assumption | ((with_reducible refine nI_lt ?_ ?_); omega; omega) | ((with_reducible refine nI_nlt ?_ ?_); omega; omega) | with_reducible exact ne10 | with_reducible rfl)] | rw [if_neg (by first | with_reducible assumption | ((with_reducible refine nI_lt ?_ ?_); omega; omega) | ((with_reducible refine nI_nlt ?_ ?_); omega; omega) | with_reducible exact ne10 | with_reducible rfl)]))
          exact go
  · rintro s ⟨rfl, hik, f⟩
    refine ⟨_, ?_, Or.inr ⟨fun j h1 h2 => f j h1 h2, rfl⟩⟩
    show mX7_firstPairOver_B14 K R M o c (nI i) (nI ps.length) = _
    unfold mX7_firstPairOver_B14
    (repeat (first | rw [ck_t (by first | with_reducible assumption | ((with_reducible apply ixA_of); (with_reducible assumption); omega; omega) | ((with_reducible apply isAr_of); (with_reducible assumption); decide) | ((with_reducible apply nI_ne0); omega; omega) | with_reducible exact isB_0 | with_reducible exact isB_1 | with_reducible exact isB_bI _)] | rw [bd_r (by with_reducible assumption)] | rw [bd_s] | rw [bd2_s] | rw [bd3_s] | rw [nm_s] | rw [nI_clamp (by omega)] | rw [nI_1] | rw [e] | rw [nI_1] | rw [if_pos (by first | with_reducible assumption | ((with_reducible refine nI_lt ?_ ?_); omega; omega) | ((with_reducible refine nI_nlt ?_ ?_); omega; omega) | with_reducible exact ne10 | with_reducible rfl)] | rw [if_neg (by first | with_reducible assumption | ((with_reducible refine nI_lt ?_ ?_); omega; omega) | ((with_reducible refine nI_nlt ?_ ?_); omega; omega) | with_reducible exact ne10 | with_reducible rfl)]))
    rfl
theorem pairs_ok {o c : Nat} {ps : List Pc} (hs : skC K R o) (hA : psA K R c) (h : psC M c ps) (hpp : isPs ps) (hpl : ∀ k P, ps[k]? = some P → rgC M (o + 1998 + 3 * k) (plc P)) : ∃ v, mX7_firstPairOver K R M o c = some v ∧ ((∃ i j, fstP (badP ps) ps.length i j ∧ v = lN (40 * i + j)) ∨ ((∀ i j, i < j → j < ps.length → ¬ badP ps i j) ∧ v = -9000000000000000005)) := by
  have s0 := hs.1
  have g0 := hA.1
  have e := h.1
  have h40 := hpp.1
  have hL := lp_ind (f := mX7_firstPairOver_L2 K R M o c) (fun (i : Nat) (s : Int32) => s = nI i ∧ ∀ i' j, i' < i → i' < j → j < ps.length → ¬ badP ps i' j) (fun v => (∃ i j, fstP (badP ps) ps.length i j ∧ v = lN (40 * i + j)) ∨ ((∀ i j, i < j → j < ps.length → ¬ badP ps i j) ∧ v = -9000000000000000005)) ps.length ?_ ?_
  · obtain ⟨v, e1, e2⟩ := hL ps.length 0 (nI 0) (by omega) ⟨rfl, fun i j h1 => absurd h1 (by omega)⟩
    refine ⟨v, ?_, e2⟩
    unfold mX7_firstPairOver
    (repeat (first | rw [ck_t (by first | with_reducible assumption | ((with_reducible apply ixA_of); (with_reducible assumption); omega; omega) | ((with_reducible apply isAr_of); (with_reducible assumption); decide) | ((with_reducible apply nI_ne0); omega; omega) | with_reducible exact isB_0 | with_reducible exact isB_1 | with_reducible exact isB_bI _)] | rw [bd_r (by with_reducible assumption)] | rw [bd_s] | rw [bd2_s] | rw [bd3_s] | rw [nm_s] | rw [nI_clamp (by omega)] | rw [nI_1] | rw [if_pos (by first | with_reducible assumption | ((with_reducible refine nI_lt ?_ ?_); omega; omega) | ((with_reducible refine nI_nlt ?_ ?_); omega; omega) | with_reducible exact ne10 | with_reducible rfl)] | rw [if_neg (by first | with_reducible assumption | ((with_reducible refine nI_lt ?_ ?_); omega; omega) | ((with_reducible refine nI_nlt ?_ ?_); omega; omega) | with_reducible exact ne10 | with_reducible rfl)]))
    exact e1
  · rintro i s hi ⟨rfl, f⟩
    obtain ⟨r, r1, r2⟩ := row_ok hs hA h hpp hpl hi
    have eb : mX7_firstPairOver_L2 K R M o c (nI i) = some r := by
      show mX7_firstPairOver_B2 K R M o c (nI i) = _
      unfold mX7_firstPairOver_B2
      (repeat (first | rw [ck_t (by first | with_reducible assumption | ((with_reducible apply ixA_of); (with_reducible assumption); omega; omega) | ((with_reducible apply isAr_of); (with_reducible assumption); decide) | ((with_reducible apply nI_ne0); omega; omega) | with_reducible exact isB_0 | with_reducible exact isB_1 | with_reducible exact isB_bI _)] | rw [bd_r (by with_reducible assumption)] | rw [bd_s] | rw [bd2_s] | rw [bd3_s] | rw [nm_s] | rw [nI_clamp (by omega)] | rw [nI_1] | rw [e] | rw [if_pos (by first | with_reducible assumption | ((with_reducible refine nI_lt ?_ ?_); omega; omega) | ((with_reducible refine nI_nlt ?_ ?_); omega; omega) | with_reducible exact ne10 | with_reducible rfl)] | rw [if_neg (by first | with_reducible assumption | ((with_reducible refine nI_lt ?_ ?_); omega; omega) | ((with_reducible refine nI_nlt ?_ ?_); omega; omega) | with_reducible exact ne10 | with_reducible rfl)]))
      exact r1
    rcases r2 with ⟨j, j1, j2, j3, j4, rfl⟩ | ⟨j1, rfl⟩
    · refine Or.inr ⟨_, eb, Or.inl ⟨i, j, ⟨j1, j2, j3, fun i' j' hh h1 h2 => ?_⟩, rfl⟩⟩
      rcases hh with hh | ⟨rfl, hh⟩
      · exact f i' j' hh h1 h2
      · exact j4 j' h1 hh
    · refine Or.inl ⟨_, eb, rfl, fun i' j' h1 h2 h3 => ?_⟩
      by_cases q : i' = i
      · subst q; exact j1 j' h2 h3
      · exact f i' j' (by omega) h2 h3
  · rintro s ⟨rfl, f⟩
    refine ⟨_, ?_, Or.inr ⟨fun i j h1 h2 => f i j (by omega) h1 h2, rfl⟩⟩
    show mX7_firstPairOver_B2 K R M o c (nI ps.length) = _
    unfold mX7_firstPairOver_B2
    (repeat (first | rw [ck_t (by first | with_reducible assumption | ((with_reducible apply ixA_of); (with_reducible assumption); omega; omega) | ((with_reducible apply isAr_of); (with_reducible assumption); decide) | ((with_reducible apply nI_ne0); omega; omega) | with_reducible exact isB_0 | with_reducible exact isB_1 | with_reducible exact isB_bI _)] | rw [bd_r (by with_reducible assumption)] | rw [bd_s] | rw [bd2_s] | rw [bd3_s] | rw [nm_s] | rw [nI_clamp (by omega)] | rw [nI_1] | rw [e] | rw [if_pos (by first | with_reducible assumption | ((with_reducible refine nI_lt ?_ ?_); omega; omega) | ((with_reducible refine nI_nlt ?_ ?_); omega; omega) | with_reducible exact ne10 | with_reducible rfl)] | rw [if_neg (by first | with_reducible assumption | ((with_reducible refine nI_lt ?_ ?_); omega; omega) | ((with_reducible refine nI_nlt ?_ ?_); omega; omega) | with_reducible exact ne10 | with_reducible rfl)]))
    rfl
theorem isWithin_ok {m p k : Nat} {P : Pc} {ps : List Pc} {l : List Pt} (hm : moA K R m) (hps : psM (M.2 (m + 1)) 0 ps) (hp : ps[p]? = some P) (h40 : ps.length ≤ 40) (hP : isPc P) (hk : k < 5) (hf : fgM M m k l) (hl : l.length ≤ 16) (hB : inBs l) : ∃ v M', mX8_isWithin K R M m (nI p) (nI k) = some (v, M') ∧ iv v (insF l (plc P)) ∧ FM m [15, 18, 21, 24] [11, 12, 13, 14, 15, 16, 17, 18] M M' := by
  have h0 := hm.1
  have h1 := mo_r13 hm
  have h2 := mo_r14 hm
  have h3 := mo_a13 hm
  have h4 := mo_a14 hm
  have h5 := mo_r16 hm
  have h6 := mo_r17 hm
  have h7 := mo_a16 hm
  have h8 := mo_a17 hm
  have x7 := mo_r7 hm
  have x8 := mo_r8 hm
  have xa7 := mo_a7 hm
  have xa8 := mo_a8 hm
  have x9 := mo_r9 hm
  have xa9 := mo_a9 hm
  obtain ⟨N, a1, a2, a3⟩ := lookA_ok hm hps hp h40 hP
  obtain ⟨-, -, -, lP, BP⟩ := plc_ok hP
  have sP := hP.1.2.1
  have hfN : fgM N m k l := by
    obtain ⟨f1, f2⟩ := hf
    refine ⟨by rw [a3.1 _ (by omega)]; exact f1, ?_⟩
    unfold ptM
    rw [a3.ar 6 (by decide), a3.ar 7 (by decide)]; exact f2
  obtain ⟨f1, f2⟩ := hfN
  generalize hN1 : pI N m 18 (nI l.length) = N1
  have fN1 : FM m [18] [] N N1 := by rw [← hN1]; exact FM.rf.pI (by decide)
  have hW := lp_ind (f := mX8_isWithin_L17 K R m (nI k)) (fun (i : Nat) (s : Int32 × Mm) => s.1 = nI i ∧ FM m [] [13, 14] N1 s.2 ∧ ∀ (j : Nat) q, j < i → l[j]? = some q → (s.2.2 (m + 13) j).toInt = q.1 ∧ (s.2.2 (m + 14) j).toInt = q.2) (fun r => iv r.1 (insF l (plc P)) ∧ FM m [18] [13, 14] N r.2) l.length ?_ ?_
  · obtain ⟨⟨v, M'⟩, w1, w2, w3⟩ := hW l.length 0 (nI 0, N1) (by omega) ⟨rfl, FM.rf, fun j q hj => absurd hj (by omega)⟩
    refine ⟨v, M', ?_, w2, (a3.mo (by decide) (by decide)).tr (w3.mo (by decide) (by decide))⟩
    unfold mX8_isWithin
    (repeat (first | rw [ck_t (by first | with_reducible assumption | ((with_reducible apply ixA_of); (with_reducible assumption); omega; omega) | ((with_reducible apply isAr_of); (with_reducible assumption); decide) | ((with_reducible apply nI_ne0); omega; omega) | with_reducible exact isB_0 | with_reducible exact isB_1 | with_reducible exact isB_bI _)] | rw [bd_r (by with_reducible assumption)] | rw [bd_s] | rw [bd2_s] | rw [bd3_s] | rw [nm_s] | rw [nI_clamp (by omega)] | rw [nI_1] | rw [bd_e (a1)] | rw [f1] | rw [hN1] | rw [if_pos (by first | with_reducible assumption | ((with_reducible refine nI_lt ?_ ?_); omega; omega) | ((with_reducible refine nI_nlt ?_ ?_); omega; omega) | with_reducible exact ne10 | with_reducible rfl)] | rw [if_neg (by first | with_reducible assumption | ((with_reducible refine nI_lt ?_ ?_); omega; omega) | ((with_reducible refine nI_nlt ?_ ?_); omega; omega) | with_reducible exact ne10 | with_reducible rfl)]))
    exact w1
  · rintro i ⟨z, Q⟩ hi ⟨rfl, q1, q2⟩
    have q1 : FM m [] [13, 14] N1 Q := q1
    have e18 : Q.1 m 18 = nI l.length := by rw [q1.sl 18 (by decide), ← hN1, pI_s]
    obtain ⟨c, hc⟩ := get_ex hi
    obtain ⟨v1, v2⟩ := f2 i c hc
    have r6 : Q.2 (m + 6) = N.2 (m + 6) := by rw [q1.ar 6 (by decide), fN1.ar 6 (by decide)]
    have r7 : Q.2 (m + 7) = N.2 (m + 7) := by rw [q1.ar 7 (by decide), fN1.ar 7 (by decide)]
    generalize hQ2 : pL (pL Q (m + 13) i (Q.2 (m + 6) (16 * k + i))) (m + 14) i (Q.2 (m + 7) (16 * k + i)) = Q2
    refine Or.inl ⟨(nI (i + 1), Q2), ?_, rfl, by rw [← hQ2]; exact (q1.pL (by decide)).pL (by decide), fun j q hj hq => ?_⟩
    · show mX8_isWithin_B17 K R m (nI k) (nI i) Q = _
      unfold mX8_isWithin_B17
      (repeat (first | rw [ck_t (by first | with_reducible assumption | ((with_reducible apply ixA_of); (with_reducible assumption); omega; omega) | ((with_reducible apply isAr_of); (with_reducible assumption); decide) | ((with_reducible apply nI_ne0); omega; omega) | with_reducible exact isB_0 | with_reducible exact isB_1 | with_reducible exact isB_bI _)] | rw [bd_r (by with_reducible assumption)] | rw [bd_s] | rw [bd2_s] | rw [bd3_s] | rw [nm_s] | rw [nI_clamp (by omega)] | rw [nI_1] | rw [e18] | rw [ix16] | rw [pL_n (show m + 7 ≠ m + 13 by omega)] | rw [hQ2] | rw [if_pos (by first | with_reducible assumption | ((with_reducible refine nI_lt ?_ ?_); omega; omega) | ((with_reducible refine nI_nlt ?_ ?_); omega; omega) | with_reducible exact ne10 | with_reducible rfl)] | rw [if_neg (by first | with_reducible assumption | ((with_reducible refine nI_lt ?_ ?_); omega; omega) | ((with_reducible refine nI_nlt ?_ ?_); omega; omega) | with_reducible exact ne10 | with_reducible rfl)]))
    · show (Q2.2 (m + 13) j).toInt = _ ∧ (Q2.2 (m + 14) j).toInt = _
      rw [← hQ2, pL_n (show m + 13 ≠ m + 14 by omega)]
      by_cases hji : j = i
      · subst hji
        rw [pL_s, pL_s, get_un hq hc, r6, r7]
        exact ⟨v1, v2⟩
      · rw [pL_k hji, pL_k hji, pL_n (show m + 14 ≠ m + 13 by omega)]
        exact q2 j q (by omega) hq
  · rintro ⟨z, Q⟩ ⟨rfl, q1, q2⟩
    have q1 : FM m [] [13, 14] N1 Q := q1
    have e18 : Q.1 m 18 = nI l.length := by rw [q1.sl 18 (by decide), ← hN1, pI_s]
    have rB : rM Q m 18 13 14 l := ⟨e18, fun i p hp => q2 i p (get_lt hp) hp⟩
    have rA : rM Q m 15 11 12 (plc P) := (a2.fr fN1 (by decide) (by decide) (by decide)).fr q1 (by decide) (by decide) (by decide)
    have e15 := rA.1
    have fQ : FM m [18] [13, 14] N Q := (fN1.mo (by decide) (by decide)).tr (q1.mo (by decide) (by decide))
    show ∃ r, mX8_isWithin_B17 K R m (nI k) (nI l.length) Q = some (.inr r) ∧ _
    have hV := lp_ind (f := mX8_isWithin_L70 K R Q m) (fun (i : Nat) (s : Int32 × Int32) => s.2 = nI i ∧ iv s.1 (∀ (j : Nat) p, j < i → (plc P)[j]? = some p → inP l p)) (fun r => iv r.1 (insF l (plc P)) ∧ r.2 = Q) (plc P).length ?_ ?_
    · obtain ⟨⟨v, Q'⟩, w1, w2, w3⟩ := hV (plc P).length 0 (1, nI 0) (by omega) ⟨rfl, Or.inl ⟨rfl, fun j p hj => absurd hj (by omega)⟩⟩
      have w3 : Q' = Q := w3
      subst w3
      refine ⟨(v, Q'), ?_, w2, fQ⟩
      unfold mX8_isWithin_B17
      (repeat (first | rw [ck_t (by first | with_reducible assumption | ((with_reducible apply ixA_of); (with_reducible assumption); omega; omega) | ((with_reducible apply isAr_of); (with_reducible assumption); decide) | ((with_reducible apply nI_ne0); omega; omega) | with_reducible exact isB_0 | with_reducible exact isB_1 | with_reducible exact isB_bI _)] | rw [bd_r (by with_reducible assumption)] | rw [bd_s] | rw [bd2_s] | rw [bd3_s] | rw [nm_s] | rw [nI_clamp (by omega)] | rw [nI_1] | rw [e18] | rw [if_pos (by first | with_reducible assumption | ((with_reducible refine nI_lt ?_ ?_); omega; omega) | ((with_reducible refine nI_nlt ?_ ?_); omega; omega) | with_reducible exact ne10 | with_reducible rfl)] | rw [if_neg (by first | with_reducible assumption | ((with_reducible refine nI_lt ?_ ?_); omega; omega) | ((with_reducible refine nI_nlt ?_ ?_); omega; omega) | with_reducible exact ne10 | with_reducible rfl)]))
      rw [show lp (mX8_isWithin_L70 K R Q' m) (1, 0) = some (v, Q') from w1]
      rfl
    · rintro i ⟨s, z⟩ hi ⟨rfl, f⟩
      obtain ⟨c, hc⟩ := get_ex hi
      have Bc := BP c (get_mem hc)
      rw [rA.pt hc] at Bc
      obtain ⟨v, v1, v2⟩ := hasB_ok hm rB (by omega) hB Bc
      rw [← rA.pt hc] at v2
      have k0 : ∀ u, mX8_isWithin_J109 K R Q m (nI i) u = some (.inl (u, nI (i + 1))) := fun u => by unfold mX8_isWithin_J109; (repeat (first | rw [ck_t (by first | with_reducible assumption | ((with_reducible apply ixA_of); (with_reducible assumption); omega; omega) | ((with_reducible apply isAr_of); (with_reducible assumption); decide) | ((with_reducible apply nI_ne0); omega; omega) | with_reducible exact isB_0 | with_reducible exact isB_1 | with_reducible exact isB_bI _)] | rw [bd_r (by with_reducible assumption)] | rw [bd_s] | rw [bd2_s] | rw [bd3_s] | rw [nm_s] | rw [nI_clamp (by omega)] | rw [nI_1] | rw [if_pos (by first | with_reducible assumption | ((with_reducible refine nI_lt ?_ ?_); omega; omega) | ((with_reducible refine nI_nlt ?_ ?_); omega; omega) | with_reducible exact ne10 | with_reducible rfl)] | rw [if_neg (by first | with_reducible assumption | ((with_reducible refine nI_lt ?_ ?_); omega; omega) | ((with_reducible refine nI_nlt ?_ ?_); omega; omega) | with_reducible exact ne10 | with_reducible rfl)]))
      have k3 : mX8_isWithin_J108 K R Q m (nI i) = some (.inl (0, nI (i + 1))) := k0 0
      left
      show ∃ s', mX8_isWithin_B70 K R Q m s (nI i) = some (.inl s') ∧ _
      unfold mX8_isWithin_B70
      (repeat (first | rw [ck_t (by first | with_reducible assumption | ((with_reducible apply ixA_of); (with_reducible assumption); omega; omega) | ((with_reducible apply isAr_of); (with_reducible assumption); decide) | ((with_reducible apply nI_ne0); omega; omega) | with_reducible exact isB_0 | with_reducible exact isB_1 | with_reducible exact isB_bI _)] | rw [bd_r (by with_reducible assumption)] | rw [bd_s] | rw [bd2_s] | rw [bd3_s] | rw [nm_s] | rw [nI_clamp (by omega)] | rw [nI_1] | rw [e15] | rw [if_pos (by first | with_reducible assumption | ((with_reducible refine nI_lt ?_ ?_); omega; omega) | ((with_reducible refine nI_nlt ?_ ?_); omega; omega) | with_reducible exact ne10 | with_reducible rfl)] | rw [if_neg (by first | with_reducible assumption | ((with_reducible refine nI_lt ?_ ?_); omega; omega) | ((with_reducible refine nI_nlt ?_ ?_); omega; omega) | with_reducible exact ne10 | with_reducible rfl)]))
      rcases f with ⟨hs, f⟩ | ⟨hs, f⟩
      · have hs : s = 1 := hs
        subst hs
        (repeat (first | rw [ck_t (by first | with_reducible assumption | ((with_reducible apply ixA_of); (with_reducible assumption); omega; omega) | ((with_reducible apply isAr_of); (with_reducible assumption); decide) | ((with_reducible apply nI_ne0); omega; omega) | with_reducible exact isB_0 | with_reducible exact isB_1 | with_reducible exact isB_bI _)] | rw [bd_r (by with_reducible assumption)] | rw [bd_s] | rw [bd2_s] | rw [bd3_s] | rw [nm_s] | rw [nI_clamp (by omega)] | rw [nI_1] | rw [bd_e (v1)] | rw [if_pos (by first | with_reducible assumption | ((with_reducible refine nI_lt ?_ ?_); omega; omega) | ((with_reducible refine nI_nlt ?_ ?_); omega; omega) | with_reducible exact ne10 | with_reducible rfl)] | rw [if_neg (by first | with_reducible assumption | ((with_reducible refine nI_lt ?_ ?_); omega; omega) | ((with_reducible refine nI_nlt ?_ ?_); omega; omega) | with_reducible exact ne10 | with_reducible rfl)]))
        rcases v2 with ⟨rfl, v2⟩ | ⟨rfl, v2⟩
        · rw [if_neg ne10]
          refine ⟨_, k0 1, rfl, Or.inl ⟨rfl, fun j p hj hp => ?_⟩⟩
          by_cases q : j = i
          · subst q; rw [get_un hp hc]; exact v2
          · exact f j p (by omega) hp
        · rw [if_pos rfl]
          exact ⟨_, k3, rfl, Or.inr ⟨rfl, fun z => v2 (z i c (by omega) hc)⟩⟩
      · have hs : s = 0 := hs
        subst hs
        (repeat (first | rw [ck_t (by first | with_reducible assumption | ((with_reducible apply ixA_of); (with_reducible assumption); omega; omega) | ((with_reducible apply isAr_of); (with_reducible assumption); decide) | ((with_reducible apply nI_ne0); omega; omega) | with_reducible exact isB_0 | with_reducible exact isB_1 | with_reducible exact isB_bI _)] | rw [bd_r (by with_reducible assumption)] | rw [bd_s] | rw [bd2_s] | rw [bd3_s] | rw [nm_s] | rw [nI_clamp (by omega)] | rw [nI_1] | rw [if_pos (by first | with_reducible assumption | ((with_reducible refine nI_lt ?_ ?_); omega; omega) | ((with_reducible refine nI_nlt ?_ ?_); omega; omega) | with_reducible exact ne10 | with_reducible rfl)] | rw [if_neg (by first | with_reducible assumption | ((with_reducible refine nI_lt ?_ ?_); omega; omega) | ((with_reducible refine nI_nlt ?_ ?_); omega; omega) | with_reducible exact ne10 | with_reducible rfl)]))
        exact ⟨_, k3, rfl, Or.inr ⟨rfl, fun z => f (fun j p hj => z j p (by omega))⟩⟩
    · rintro ⟨s, z⟩ ⟨rfl, f⟩
      have f : iv s _ := f
      have hb := f.b
      refine ⟨(s, Q), ?_, f.congr ⟨fun z i p hp => z i p (get_lt hp) hp, fun z i p _ hp => z i p hp⟩, rfl⟩
      show mX8_isWithin_B70 K R Q m s (nI (plc P).length) = _
      unfold mX8_isWithin_B70
      (repeat (first | rw [ck_t (by first | with_reducible assumption | ((with_reducible apply ixA_of); (with_reducible assumption); omega; omega) | ((with_reducible apply isAr_of); (with_reducible assumption); decide) | ((with_reducible apply nI_ne0); omega; omega) | with_reducible exact isB_0 | with_reducible exact isB_1 | with_reducible exact isB_bI _)] | rw [bd_r (by with_reducible assumption)] | rw [bd_s] | rw [bd2_s] | rw [bd3_s] | rw [nm_s] | rw [nI_clamp (by omega)] | rw [nI_1] | rw [e15] | rw [if_pos (by first | with_reducible assumption | ((with_reducible refine nI_lt ?_ ?_); omega; omega) | ((with_reducible refine nI_nlt ?_ ?_); omega; omega) | with_reducible exact ne10 | with_reducible rfl)] | rw [if_neg (by first | with_reducible assumption | ((with_reducible refine nI_lt ?_ ?_); omega; omega) | ((with_reducible refine nI_nlt ?_ ?_); omega; omega) | with_reducible exact ne10 | with_reducible rfl)]))
      rfl
theorem rowM_ok {m i : Nat} {ps : List Pc} {a0 : Int32} (hm : moA K R m) (hps : psM (M.2 (m + 1)) 0 ps) (hpp : isPs ps) (hi : i < ps.length) : ∃ r, lp (mX8_covers_L81 K R m a0 (nI i)) (nI (i + 1), M) = some r ∧ ∃ M', FM m [15, 18, 21, 24] [11, 12, 13, 14, 15, 16, 17, 18] M M' ∧ ((∃ j, i < j ∧ j < ps.length ∧ badP ps i j ∧ (∀ j', i < j' → j' < j → ¬ badP ps i j') ∧ r = .inr (lN (100 + (40 * i + j)), M')) ∨ ((∀ j, i < j → j < ps.length → ¬ badP ps i j) ∧ r = .inl (nI (i + 1), M'))) := by
  have h40 := hpp.1
  obtain ⟨P, hP⟩ := get_ex hi
  have iP := hpp.2 i P hP
  refine lp_ind (f := mX8_covers_L81 K R m a0 (nI i)) (fun (k : Nat) (s : Int32 × Mm) => s.1 = nI k ∧ i < k ∧ FM m [15, 18, 21, 24] [11, 12, 13, 14, 15, 16, 17, 18] M s.2 ∧ ∀ j, i < j → j < k → ¬ badP ps i j) (fun r => ∃ M', FM m [15, 18, 21, 24] [11, 12, 13, 14, 15, 16, 17, 18] M M' ∧ ((∃ j, i < j ∧ j < ps.length ∧ badP ps i j ∧ (∀ j', i < j' → j' < j → ¬ badP ps i j') ∧ r = .inr (lN (100 + (40 * i + j)), M')) ∨ ((∀ j, i < j → j < ps.length → ¬ badP ps i j) ∧ r = .inl (nI (i + 1), M')))) ps.length ?_ ?_ (ps.length - (i + 1)) (i + 1) (nI (i + 1), M) (by omega) ⟨rfl, by omega, FM.rf, fun j h1 h2 => by omega⟩
  · rintro k ⟨s, N⟩ hk ⟨rfl, hik, f0, f⟩
    have f0 : FM m [15, 18, 21, 24] [11, 12, 13, 14, 15, 16, 17, 18] M N := f0
    have hN := hps.fr f0 (by decide)
    obtain ⟨Q, hQ⟩ := get_ex hk
    have iQ := hpp.2 k Q hQ
    obtain ⟨v, v1, v2⟩ := isLaid_ok hm hN hP h40
    obtain ⟨w, w1, w2⟩ := isLaid_ok hm hN hQ h40
    have go : ∀ N, mX8_covers_J128 K R N m a0 (nI i) (nI k) = some (.inl (nI (k + 1), N)) := fun N => by unfold mX8_covers_J128; (repeat (first | rw [ck_t (by first | with_reducible assumption | ((with_reducible apply ixA_of); (with_reducible assumption); omega; omega) | ((with_reducible apply isAr_of); (with_reducible assumption); decide) | ((with_reducible apply nI_ne0); omega; omega) | with_reducible exact isB_0 | with_reducible exact isB_1 | with_reducible exact isB_bI _)] | rw [bd_r (by with_reducible assumption)] | rw [bd_s] | rw [bd2_s] | rw [bd3_s] | rw [nm_s] | rw [nI_clamp (by omega)] | rw [nI_1] | rw [if_pos (by first | with_reducible assumption | ((with_reducible refine nI_lt ?_ ?_); omega; omega) | ((with_reducible refine nI_nlt ?_ ?_); omega; omega) | with_reducible exact ne10 | with_reducible rfl)] | rw [if_neg (by first | with_reducible assumption | ((with_reducible refine nI_lt ?_ ?_); omega; omega) | ((with_reducible refine nI_nlt ?_ ?_); omega; omega) | with_reducible exact ne10 | with_reducible rfl)]))
    have cont : ∀ N', ¬ badP ps i k → FM m [15, 18, 21, 24] [11, 12, 13, 14, 15, 16, 17, 18] M N' → mX8_covers_B81 K R m a0 (nI i) (nI k) N = some (.inl (nI (k + 1), N')) → (∃ s', mX8_covers_L81 K R m a0 (nI i) (nI k, N) = some (.inl s') ∧ (s'.1 = nI (k + 1) ∧ i < k + 1 ∧ FM m [15, 18, 21, 24] [11, 12, 13, 14, 15, 16, 17, 18] M s'.2 ∧ ∀ j, i < j → j < k + 1 → ¬ badP ps i j)) := fun N' nb fN' e => ⟨_, e, rfl, by omega, fN', fun j h1 h2 => by
      by_cases q : j = k
      · rw [q]; exact nb
      · exact f j h1 (by omega)⟩
    rcases v2 with ⟨rfl, hp⟩ | ⟨rfl, hp⟩
    · rcases w2 with ⟨rfl, hq⟩ | ⟨rfl, hq⟩
      · obtain ⟨u, N2, u1, u2, u3⟩ := isOver_ok hm hN hP hQ h40 iP iQ
        have bp : badP ps i k ↔ ovr (plc P) (plc Q) := ⟨fun ⟨P', Q', a, b, _, _, z⟩ => by rw [get_un a hP, get_un b hQ] at z; exact z, fun z => ⟨P, Q, hP, hQ, hp, hq, z⟩⟩
        rcases u2 with ⟨rfl, u2⟩ | ⟨rfl, u2⟩
        · have e40 : (100 : Int64) + 40 * (nI i).toInt64 + (nI k).toInt64 = lN (100 + (40 * i + k)) := by
            rw [nI_i64 (by omega), nI_i64 (by omega), show (40 : Int64) = lN 40 from rfl, show (100 : Int64) = lN 100 from rfl, lN_mul, lN_add, lN_add, Nat.add_assoc]
          refine Or.inr ⟨.inr (lN (100 + (40 * i + k)), N2), ?_, N2, f0.tr u3, Or.inl ⟨k, hik, hk, bp.mpr u2, f, rfl⟩⟩
          show mX8_covers_B81 K R m a0 (nI i) (nI k) N = _
          unfold mX8_covers_B81
          (repeat (first | rw [ck_t (by first | with_reducible assumption | ((with_reducible apply ixA_of); (with_reducible assumption); omega; omega) | ((with_reducible apply isAr_of); (with_reducible assumption); decide) | ((with_reducible apply nI_ne0); omega; omega) | with_reducible exact isB_0 | with_reducible exact isB_1 | with_reducible exact isB_bI _)] | rw [bd_r (by with_reducible assumption)] | rw [bd_s] | rw [bd2_s] | rw [bd3_s] | rw [nm_s] | rw [nI_clamp (by omega)] | rw [nI_1] | rw [bd_e (piecesM_ok hm hN)] | rw [bd_e (v1)] | rw [bd_e (w1)] | rw [bd2_e (u1)] | rw [e40] | rw [if_pos (by first | with_reducible assumption | ((with_reducible refine nI_lt ?_ ?_); omega; omega) | ((with_reducible refine nI_nlt ?_ ?_); omega; omega) | with_reducible exact ne10 | with_reducible rfl)] | rw [if_neg (by first | with_reducible assumption | ((with_reducible refine nI_lt ?_ ?_); omega; omega) | ((with_reducible refine nI_nlt ?_ ?_); omega; omega) | with_reducible exact ne10 | with_reducible rfl)]))
          rfl
        · refine Or.inl (cont N2 (fun z => u2 (bp.mp z)) (f0.tr u3) ?_)
          unfold mX8_covers_B81
          (repeat (first | rw [ck_t (by first | with_reducible assumption | ((with_reducible apply ixA_of); (with_reducible assumption); omega; omega) | ((with_reducible apply isAr_of); (with_reducible assumption); decide) | ((with_reducible apply nI_ne0); omega; omega) | with_reducible exact isB_0 | with_reducible exact isB_1 | with_reducible exact isB_bI _)] | rw [bd_r (by with_reducible assumption)] | rw [bd_s] | rw [bd2_s] | rw [bd3_s] | rw [nm_s] | rw [nI_clamp (by omega)] | rw [nI_1] | rw [bd_e (piecesM_ok hm hN)] | rw [bd_e (v1)] | rw [bd_e (w1)] | rw [bd2_e (u1)] | rw [if_pos (by first | with_reducible assumption | ((with_reducible refine nI_lt ?_ ?_); omega; omega) | ((with_reducible refine nI_nlt ?_ ?_); omega; omega) | with_reducible exact ne10 | with_reducible rfl)] | rw [if_neg (by first | with_reducible assumption | ((with_reducible refine nI_lt ?_ ?_); omega; omega) | ((with_reducible refine nI_nlt ?_ ?_); omega; omega) | with_reducible exact ne10 | with_reducible rfl)]))
          exact go N2
      · refine Or.inl (cont N ?_ f0 ?_)
        · rintro ⟨P', Q', _, a, _, b, _⟩
          rw [get_un a hQ] at b; exact hq b
        · unfold mX8_covers_B81
          (repeat (first | rw [ck_t (by first | with_reducible assumption | ((with_reducible apply ixA_of); (with_reducible assumption); omega; omega) | ((with_reducible apply isAr_of); (with_reducible assumption); decide) | ((with_reducible apply nI_ne0); omega; omega) | with_reducible exact isB_0 | with_reducible exact isB_1 | with_reducible exact isB_bI _)] | rw [bd_r (by with_reducible assumption)] | rw [bd_s] | rw [bd2_s] | rw [bd3_s] | rw [nm_s] | rw [nI_clamp (by omega)] | rw [nI_1] | rw [bd_e (piecesM_ok hm hN)] | rw [bd_e (v1)] | rw [bd_e (w1)] | rw [if_pos (by first | with_reducible assumption | ((with_reducible refine nI_lt ?_ ?_); omega; omega) | ((with_reducible refine nI_nlt ?_ ?_); omega; omega) | with_reducible exact ne10 | with_reducible rfl)] | rw [if_neg (by first | with_reducible assumption | ((with_reducible refine nI_lt ?_ ?_); omega; omega) | ((with_reducible refine nI_nlt ?_ ?_); omega; omega) | with_reducible exact ne10 | with_reducible rfl)]))
          exact go N
    · refine Or.inl (cont N ?_ f0 ?_)
      · rintro ⟨P', Q', a, _, b, _⟩
        rw [get_un a hP] at b; exact hp b
      · unfold mX8_covers_B81
        (repeat (first | rw [ck_t (by first | with_reducible assumption | ((with_reducible apply ixA_of); (with_reducible assumption); omega; omega) | ((with_reducible apply isAr_of); (with_reducible assumption); decide) | ((with_reducible apply nI_ne0); omega; omega) | with_reducible exact isB_0 | with_reducible exact isB_1 | with_reducible exact isB_bI _)] | rw [bd_r (by with_reducible assumption)] | rw [bd_s] | rw [bd2_s] | rw [bd3_s] | rw [nm_s] | rw [nI_clamp (by omega)] | rw [nI_1] | rw [bd_e (piecesM_ok hm hN)] | rw [bd_e (v1)] | rw [if_pos (by first | with_reducible assumption | ((with_reducible refine nI_lt ?_ ?_); omega; omega) | ((with_reducible refine nI_nlt ?_ ?_); omega; omega) | with_reducible exact ne10 | with_reducible rfl)] | rw [if_neg (by first | with_reducible assumption | ((with_reducible refine nI_lt ?_ ?_); omega; omega) | ((with_reducible refine nI_nlt ?_ ?_); omega; omega) | with_reducible exact ne10 | with_reducible rfl)]))
        exact go N
  · rintro ⟨s, N⟩ ⟨rfl, hik, f0, f⟩
    have f0 : FM m [15, 18, 21, 24] [11, 12, 13, 14, 15, 16, 17, 18] M N := f0
    have hN := hps.fr f0 (by decide)
    refine ⟨_, ?_, N, f0, Or.inr ⟨fun j h1 h2 => f j h1 h2, rfl⟩⟩
    show mX8_covers_B81 K R m a0 (nI i) (nI ps.length) N = _
    unfold mX8_covers_B81
    (repeat (first | rw [ck_t (by first | with_reducible assumption | ((with_reducible apply ixA_of); (with_reducible assumption); omega; omega) | ((with_reducible apply isAr_of); (with_reducible assumption); decide) | ((with_reducible apply nI_ne0); omega; omega) | with_reducible exact isB_0 | with_reducible exact isB_1 | with_reducible exact isB_bI _)] | rw [bd_r (by with_reducible assumption)] | rw [bd_s] | rw [bd2_s] | rw [bd3_s] | rw [nm_s] | rw [nI_clamp (by omega)] | rw [nI_1] | rw [bd_e (piecesM_ok hm hN)] | rw [if_pos (by first | with_reducible assumption | ((with_reducible refine nI_lt ?_ ?_); omega; omega) | ((with_reducible refine nI_nlt ?_ ?_); omega; omega) | with_reducible exact ne10 | with_reducible rfl)] | rw [if_neg (by first | with_reducible assumption | ((with_reducible refine nI_lt ?_ ?_); omega; omega) | ((with_reducible refine nI_nlt ?_ ?_); omega; omega) | with_reducible exact ne10 | with_reducible rfl)]))
    rfl
end COV
