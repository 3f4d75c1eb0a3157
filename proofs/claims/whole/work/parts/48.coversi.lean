/-! covers, told alike -/
theorem arP_len (ps : List Pc) : sumN (arP ps) ps.length = sumN (arP ps) ps.length := rfl
section COI
variable {K : Kk} {R : Rr} {M : Mm}
theorem coversM_ok {m k : Nat} {ps : List Pc} {l : List Pt} (hm : moA K R m) (hps : psM (M.2 (m + 1)) 0 ps) (hpp : isPs ps) (hk : k < 5) (hf : fgM M m k l) (hl : l.length ≤ 16) (hB : inBs l) : ∃ r, lp (mX8_covers_L31 K R m (nI k)) (0, M) = some r ∧ covA ps l r.1 ∧ FM m [15, 18, 21, 24] [11, 12, 13, 14, 15, 16, 17, 18] M r.2 := by
  have h40 := hpp.1
  have hfF : ∀ {N : Mm}, FM m [15, 18, 21, 24] [11, 12, 13, 14, 15, 16, 17, 18] M N → fgM N m k l := fun {N} f0 => by
    obtain ⟨f1, f2⟩ := hf
    refine ⟨by rw [f0.1 _ (by omega)]; exact f1, ?_⟩
    unfold ptM
    rw [f0.ar 6 (by decide), f0.ar 7 (by decide)]; exact f2
  have nb1 : ∀ {j P}, ps[j]? = some P → P.2.2.2.2 = true → ¬ badC ps l j := fun hP hs ⟨P', a, b, _⟩ => by rw [get_un a hP, hs] at b; cases b
  refine lp_ind (f := mX8_covers_L31 K R m (nI k)) (fun (i : Nat) (s : Int32 × Mm) => s.1 = nI i ∧ FM m [15, 18, 21, 24] [11, 12, 13, 14, 15, 16, 17, 18] M s.2 ∧ ∀ j, j < i → ¬ badC ps l j) (fun r => covA ps l r.1 ∧ FM m [15, 18, 21, 24] [11, 12, 13, 14, 15, 16, 17, 18] M r.2) ps.length ?_ ?_ ps.length 0 (nI 0, M) (by omega) ⟨rfl, FM.rf, fun j hj => absurd hj (by omega)⟩
  · rintro i ⟨s, N⟩ hi ⟨rfl, f0, f⟩
    have f0 : FM m [15, 18, 21, 24] [11, 12, 13, 14, 15, 16, 17, 18] M N := f0
    have hN := hps.fr f0 (by decide)
    obtain ⟨P, hP⟩ := get_ex hi
    have iP := hpp.2 i P hP
    obtain ⟨v, v1, v2⟩ := isLaid_ok hm hN hP h40
    have go : ∀ N, mX8_covers_J61 K R N m (nI k) (nI i) = some (.inl (nI (i + 1), N)) := fun N => by unfold mX8_covers_J61; (repeat (first | rw [ck_t (by first | with_reducible assumption | ((with_reducible apply ixA_of); (with_reducible assumption); omega; omega) | ((with_reducible apply isAr_of); (with_reducible assumption); decide) | ((with_reducible apply nI_ne0); omega; omega) | with_reducible exact isB_0 | with_reducible exact isB_1 | with_reducible exact isB_bI _)] | rw [bd_r (by with_reducible assumption)] | rw [bd_s] | rw [bd2_s] | rw [bd3_s] | rw [nm_s] | rw [nI_clamp (by omega)] | rw [nI_1] | rw [if_pos (by first | with_reducible assumption | ((with_reducible refine nI_lt ?_ ?_); omega; omega) | ((with_reducible refine nI_nlt ?_ ?_); omega; omega) | with_reducible exact ne10 | with_reducible rfl)] | rw [if_neg (by first | with_reducible assumption | ((with_reducible refine nI_lt ?_ ?_); omega; omega) | ((with_reducible refine nI_nlt ?_ ?_); omega; omega) | with_reducible exact ne10 | with_reducible rfl)]))
    have cont : ∀ N', ¬ badC ps l i → FM m [15, 18, 21, 24] [11, 12, 13, 14, 15, 16, 17, 18] M N' → mX8_covers_B31 K R m (nI k) (nI i) N = some (.inl (nI (i + 1), N')) → (∃ s', mX8_covers_L31 K R m (nI k) (nI i, N) = some (.inl s') ∧ (s'.1 = nI (i + 1) ∧ FM m [15, 18, 21, 24] [11, 12, 13, 14, 15, 16, 17, 18] M s'.2 ∧ ∀ j, j < i + 1 → ¬ badC ps l j)) := fun N' nb fN' e => ⟨_, e, rfl, fN', fun j h1 => by
      by_cases q : j = i
      · rw [q]; exact nb
      · exact f j (by omega)⟩
    rcases v2 with ⟨rfl, hp⟩ | ⟨rfl, hp⟩
    · obtain ⟨w, N2, w1, w2, w3⟩ := isWithin_ok hm hN hP h40 iP hk (hfF f0) hl hB
      rcases w2 with ⟨rfl, w2⟩ | ⟨rfl, w2⟩
      · refine Or.inl (cont N2 (fun ⟨P', a, _, z⟩ => z (by rw [get_un a hP]; exact w2)) (f0.tr w3) ?_)
        unfold mX8_covers_B31
        (repeat (first | rw [ck_t (by first | with_reducible assumption | ((with_reducible apply ixA_of); (with_reducible assumption); omega; omega) | ((with_reducible apply isAr_of); (with_reducible assumption); decide) | ((with_reducible apply nI_ne0); omega; omega) | with_reducible exact isB_0 | with_reducible exact isB_1 | with_reducible exact isB_bI _)] | rw [bd_r (by with_reducible assumption)] | rw [bd_s] | rw [bd2_s] | rw [bd3_s] | rw [nm_s] | rw [nI_clamp (by omega)] | rw [nI_1] | rw [bd_e (piecesM_ok hm hN)] | rw [bd_e (v1)] | rw [bd2_e (w1)] | rw [if_pos (by first | with_reducible assumption | ((with_reducible refine nI_lt ?_ ?_); omega; omega) | ((with_reducible refine nI_nlt ?_ ?_); omega; omega) | with_reducible exact ne10 | with_reducible rfl)] | rw [if_neg (by first | with_reducible assumption | ((with_reducible refine nI_lt ?_ ?_); omega; omega) | ((with_reducible refine nI_nlt ?_ ?_); omega; omega) | with_reducible exact ne10 | with_reducible rfl)]))
        exact go N2
      · have e1 : (1 : Int64) + (nI i).toInt64 = lN (1 + i) := by rw [nI_i64 (by omega), show (1 : Int64) = lN 1 from rfl, lN_add]
        refine Or.inr ⟨(lN (1 + i), N2), ?_, Or.inl ⟨i, hi, ⟨P, hP, hp, w2⟩, f, rfl⟩, f0.tr w3⟩
        show mX8_covers_B31 K R m (nI k) (nI i) N = _
        unfold mX8_covers_B31
        (repeat (first | rw [ck_t (by first | with_reducible assumption | ((with_reducible apply ixA_of); (with_reducible assumption); omega; omega) | ((with_reducible apply isAr_of); (with_reducible assumption); decide) | ((with_reducible apply nI_ne0); omega; omega) | with_reducible exact isB_0 | with_reducible exact isB_1 | with_reducible exact isB_bI _)] | rw [bd_r (by with_reducible assumption)] | rw [bd_s] | rw [bd2_s] | rw [bd3_s] | rw [nm_s] | rw [nI_clamp (by omega)] | rw [nI_1] | rw [bd_e (piecesM_ok hm hN)] | rw [bd_e (v1)] | rw [bd2_e (w1)] | rw [e1] | rw [if_pos (by first | with_reducible assumption | ((with_reducible refine nI_lt ?_ ?_); omega; omega) | ((with_reducible refine nI_nlt ?_ ?_); omega; omega) | with_reducible exact ne10 | with_reducible rfl)] | rw [if_neg (by first | with_reducible assumption | ((with_reducible refine nI_lt ?_ ?_); omega; omega) | ((with_reducible refine nI_nlt ?_ ?_); omega; omega) | with_reducible exact ne10 | with_reducible rfl)]))
        rfl
    · refine Or.inl (cont N (nb1 hP (by simpa using hp)) f0 ?_)
      unfold mX8_covers_B31
      (repeat (first | rw [ck_t (by first | with_reducible assumption | ((with_reducible apply ixA_of); (with_reducible assumption); omega; omega) | ((with_reducible apply isAr_of); (with_reducible assumption); decide) | ((with_reducible apply nI_ne0); omega; omega) | with_reducible exact isB_0 | with_reducible exact isB_1 | with_reducible exact isB_bI _)] | rw [bd_r (by with_reducible assumption)] | rw [bd_s] | rw [bd2_s] | rw [bd3_s] | rw [nm_s] | rw [nI_clamp (by omega)] | rw [nI_1] | rw [bd_e (piecesM_ok hm hN)] | rw [bd_e (v1)] | rw [if_pos (by first | with_reducible assumption | ((with_reducible refine nI_lt ?_ ?_); omega; omega) | ((with_reducible refine nI_nlt ?_ ?_); omega; omega) | with_reducible exact ne10 | with_reducible rfl)] | rw [if_neg (by first | with_reducible assumption | ((with_reducible refine nI_lt ?_ ?_); omega; omega) | ((with_reducible refine nI_nlt ?_ ?_); omega; omega) | with_reducible exact ne10 | with_reducible rfl)]))
      exact go N
  · rintro ⟨s, N⟩ ⟨rfl, f0, f⟩
    have f0 : FM m [15, 18, 21, 24] [11, 12, 13, 14, 15, 16, 17, 18] M N := f0
    have hN := hps.fr f0 (by decide)
    have hW := lp_ind (f := mX8_covers_L69 K R m (nI k)) (fun (i : Nat) (s : Int32 × Mm) => s.1 = nI i ∧ FM m [15, 18, 21, 24] [11, 12, 13, 14, 15, 16, 17, 18] M s.2 ∧ ∀ i' j, i' < i → i' < j → j < ps.length → ¬ badP ps i' j) (fun r => covA ps l r.1 ∧ FM m [15, 18, 21, 24] [11, 12, 13, 14, 15, 16, 17, 18] M r.2) ps.length ?_ ?_
    · obtain ⟨r, r1, r2⟩ := hW ps.length 0 (nI 0, N) (by omega) ⟨rfl, f0, fun i j h1 => absurd h1 (by omega)⟩
      refine ⟨r, ?_, r2⟩
      show mX8_covers_B31 K R m (nI k) (nI ps.length) N = _
      unfold mX8_covers_B31
      (repeat (first | rw [ck_t (by first | with_reducible assumption | ((with_reducible apply ixA_of); (with_reducible assumption); omega; omega) | ((with_reducible apply isAr_of); (with_reducible assumption); decide) | ((with_reducible apply nI_ne0); omega; omega) | with_reducible exact isB_0 | with_reducible exact isB_1 | with_reducible exact isB_bI _)] | rw [bd_r (by with_reducible assumption)] | rw [bd_s] | rw [bd2_s] | rw [bd3_s] | rw [nm_s] | rw [nI_clamp (by omega)] | rw [nI_1] | rw [bd_e (piecesM_ok hm hN)] | rw [if_pos (by first | with_reducible assumption | ((with_reducible refine nI_lt ?_ ?_); omega; omega) | ((with_reducible refine nI_nlt ?_ ?_); omega; omega) | with_reducible exact ne10 | with_reducible rfl)] | rw [if_neg (by first | with_reducible assumption | ((with_reducible refine nI_lt ?_ ?_); omega; omega) | ((with_reducible refine nI_nlt ?_ ?_); omega; omega) | with_reducible exact ne10 | with_reducible rfl)]))
      rw [show lp (mX8_covers_L69 K R m (nI k)) (0, N) = some r from r1]
      rfl
    · rintro i ⟨s, Q⟩ hi ⟨rfl, q0, q⟩
      have q0 : FM m [15, 18, 21, 24] [11, 12, 13, 14, 15, 16, 17, 18] M Q := q0
      have hQ := hps.fr q0 (by decide)
      obtain ⟨r, r1, N2, r2, r3⟩ := rowM_ok (a0 := nI k) hm hQ hpp hi
      have eb : mX8_covers_L69 K R m (nI k) (nI i, Q) = some r := by
        show mX8_covers_B69 K R m (nI k) (nI i) Q = _
        unfold mX8_covers_B69
        (repeat (first | rw [ck_t (by first | with_reducible assumption | ((with_reducible apply ixA_of); (with_reducible assumption); omega; omega) | ((with_reducible apply isAr_of); (with_reducible assumption); decide) | ((with_reducible apply nI_ne0); omega; omega) | with_reducible exact isB_0 | with_reducible exact isB_1 | with_reducible exact isB_bI _)] | rw [bd_r (by with_reducible assumption)] | rw [bd_s] | rw [bd2_s] | rw [bd3_s] | rw [nm_s] | rw [nI_clamp (by omega)] | rw [nI_1] | rw [bd_e (piecesM_ok hm hQ)] | rw [if_pos (by first | with_reducible assumption | ((with_reducible refine nI_lt ?_ ?_); omega; omega) | ((with_reducible refine nI_nlt ?_ ?_); omega; omega) | with_reducible exact ne10 | with_reducible rfl)] | rw [if_neg (by first | with_reducible assumption | ((with_reducible refine nI_lt ?_ ?_); omega; omega) | ((with_reducible refine nI_nlt ?_ ?_); omega; omega) | with_reducible exact ne10 | with_reducible rfl)]))
        exact r1
      rcases r3 with ⟨j, j1, j2, j3, j4, rfl⟩ | ⟨j1, rfl⟩
      · refine Or.inr ⟨_, eb, Or.inr ⟨f, Or.inl ⟨i, j, ⟨j1, j2, j3, fun i' j' hh h1 h2 => ?_⟩, rfl⟩⟩, q0.tr r2⟩
        rcases hh with hh | ⟨rfl, hh⟩
        · exact q i' j' hh h1 h2
        · exact j4 j' h1 hh
      · refine Or.inl ⟨_, eb, rfl, q0.tr r2, fun i' j' h1 h2 h3 => ?_⟩
        by_cases z : i' = i
        · subst z; exact j1 j' h2 h3
        · exact q i' j' (by omega) h2 h3
    · rintro ⟨s, Q⟩ ⟨rfl, q0, q⟩
      have q0 : FM m [15, 18, 21, 24] [11, 12, 13, 14, 15, 16, 17, 18] M Q := q0
      have hQ := hps.fr q0 (by decide)
      obtain ⟨v, N2, v1, v2, v3⟩ := areasM_ok hm hQ hpp
      have f2 : FM m [15, 18, 21, 24] [11, 12, 13, 14, 15, 16, 17, 18] M N2 := q0.tr (v3.mo (by decide) (by decide))
      obtain ⟨w, w1, w2⟩ := figureArea_ok hm hk (hfF f2) hl hB
      show ∃ r, mX8_covers_B69 K R m (nI k) (nI ps.length) Q = _ ∧ _
      unfold mX8_covers_B69
      (repeat (first | rw [ck_t (by first | with_reducible assumption | ((with_reducible apply ixA_of); (with_reducible assumption); omega; omega) | ((with_reducible apply isAr_of); (with_reducible assumption); decide) | ((with_reducible apply nI_ne0); omega; omega) | with_reducible exact isB_0 | with_reducible exact isB_1 | with_reducible exact isB_bI _)] | rw [bd_r (by with_reducible assumption)] | rw [bd_s] | rw [bd2_s] | rw [bd3_s] | rw [nm_s] | rw [nI_clamp (by omega)] | rw [nI_1] | rw [bd_e (piecesM_ok hm hQ)] | rw [bd2_e (v1)] | rw [bd_e (w1)] | rw [if_pos (by first | with_reducible assumption | ((with_reducible refine nI_lt ?_ ?_); omega; omega) | ((with_reducible refine nI_nlt ?_ ?_); omega; omega) | with_reducible exact ne10 | with_reducible rfl)] | rw [if_neg (by first | with_reducible assumption | ((with_reducible refine nI_lt ?_ ?_); omega; omega) | ((with_reducible refine nI_nlt ?_ ?_); omega; omega) | with_reducible exact ne10 | with_reducible rfl)]))
      by_cases c : v = w
      · rw [if_pos c]
        refine ⟨(0, N2), rfl, Or.inr ⟨f, Or.inr ⟨fun i j h1 h2 => q i j (by omega) h1 h2, Or.inl ⟨?_, rfl⟩⟩⟩, f2⟩
        rw [eq64, v2, w2] at c; exact c
      · rw [if_neg c]
        refine ⟨(2000, N2), rfl, Or.inr ⟨f, Or.inr ⟨fun i j h1 h2 => q i j (by omega) h1 h2, Or.inr ⟨?_, rfl⟩⟩⟩, f2⟩
        rw [eq64, v2, w2] at c; exact c
theorem coversC_ok {o c k : Nat} {ps : List Pc} {l : List Pt} (hs : skC K R o) (hA : psA K R c) (hc1 : o + 22 ≤ c) (hc2 : c + 162 ≤ o + 1318) (h : psC M c ps) (hpp : isPs ps) (hk : k < 5) (hf : rgC M (o + 5 + 3 * k) l) (hl : l.length ≤ 16) (hB : inBs l) : ∃ r, lp (mX7_covers_L40 K R o (o + 5 + 3 * k) c) (0, M) = some r ∧ covA ps l r.1 ∧ Fr (o + 1998) (o + 2118) M r.2 ∧ r.2.2 = M.2 := by
  have hs0 := hs
  obtain ⟨s0, -, -, -, -, -, -, -, -, -, -, -, -, -, s13, -, -, fg, -, -, -, -, -, -, -, -, -, -, -, -, b1, b2⟩ := hs
  have hA0 := hA
  obtain ⟨g0, g1, g2, g3⟩ := hA
  have h40 := hpp.1
  have fgA := (fg k hk).2
  refine lp_ind (f := mX7_covers_L40 K R o (o + 5 + 3 * k) c) (fun (i : Nat) (s : Int32 × Mm) => s.1 = nI i ∧ Fr (o + 1998) (o + 2118) M s.2 ∧ s.2.2 = M.2 ∧ (∀ j, j < i → ¬ badC ps l j) ∧ ∀ j P, j < i → ps[j]? = some P → rgC s.2 (o + 1998 + 3 * j) (plc P)) (fun r => covA ps l r.1 ∧ Fr (o + 1998) (o + 2118) M r.2 ∧ r.2.2 = M.2) ps.length ?_ ?_ ps.length 0 (nI 0, M) (by omega) ⟨rfl, Fr.rf, rfl, fun j hj => absurd hj (by omega), fun j P hj => absurd hj (by omega)⟩
  · rintro i ⟨s, N⟩ hi ⟨rfl, f0, fl, f, fp⟩
    have f0 : Fr (o + 1998) (o + 2118) M N := f0
    have fl : N.2 = M.2 := fl
    have fp : ∀ j P, j < i → ps[j]? = some P → rgC N (o + 1998 + 3 * j) (plc P) := fp
    obtain ⟨P, hP⟩ := get_ex hi
    have iP := hpp.2 i P hP
    have sP := iP.1.2.1
    obtain ⟨k1, k2⟩ := g3 i (by omega)
    have k20 := k2.1
    obtain ⟨t1, t2⟩ := b2 i (by omega)
    have pC := (h.2 i P hP).fr f0 (by omega)
    have e : N.1 c 1 = nI ps.length := by rw [(f0 c (by omega)).1]; exact h.1
    obtain ⟨N2, a1, a2, a3, a4⟩ := placeInto_ok (M := N) t2 k2 (by omega) iP (by decide) (by decide) pC
    have f2 : Fr (o + 1998) (o + 2118) M N2 := f0.tr (a3.mono (by omega) (by omega))
    have e4 : N2.1 (c + 2 + 4 * i) 4 = bI P.2.2.2.2 := by rw [(a3 _ (by omega)).1]; exact pC.2.2.2.2
    have lP := (plc_ok iP).2.2.2.1
    have go : mX7_covers_J99 K R N2 o (o + 5 + 3 * k) c (nI i) = some (.inl (nI (i + 1), N2)) := by unfold mX7_covers_J99; (repeat (first | rw [ck_t (by first | with_reducible assumption | ((with_reducible apply ixA_of); (with_reducible assumption); omega; omega) | ((with_reducible apply isAr_of); (with_reducible assumption); decide) | ((with_reducible apply nI_ne0); omega; omega) | with_reducible exact isB_0 | with_reducible exact isB_1 | with_reducible exact isB_bI _)] | rw [bd_r (by with_reducible assumption)] | rw [bd_s] | rw [bd2_s] | rw [bd3_s] | rw [nm_s] | rw [nI_clamp (by omega)] | rw [nI_1] | rw [if_pos (by first | with_reducible assumption | ((with_reducible refine nI_lt ?_ ?_); omega; omega) | ((with_reducible refine nI_nlt ?_ ?_); omega; omega) | with_reducible exact ne10 | with_reducible rfl)] | rw [if_neg (by first | with_reducible assumption | ((with_reducible refine nI_lt ?_ ?_); omega; omega) | ((with_reducible refine nI_nlt ?_ ?_); omega; omega) | with_reducible exact ne10 | with_reducible rfl)]))
    have cont : ¬ badC ps l i → mX7_covers_B40 K R o (o + 5 + 3 * k) c (nI i) N = some (.inl (nI (i + 1), N2)) → (∃ s', mX7_covers_L40 K R o (o + 5 + 3 * k) c (nI i, N) = some (.inl s') ∧ (s'.1 = nI (i + 1) ∧ Fr (o + 1998) (o + 2118) M s'.2 ∧ s'.2.2 = M.2 ∧ (∀ j, j < i + 1 → ¬ badC ps l j) ∧ ∀ j P, j < i + 1 → ps[j]? = some P → rgC s'.2 (o + 1998 + 3 * j) (plc P))) := fun nb e => ⟨_, e, rfl, f2, a4.trans fl, fun j h1 => by
      by_cases q : j = i
      · rw [q]; exact nb
      · exact f j (by omega), fun j Q h1 hQ => by
      by_cases q : j = i
      · subst q; rw [get_un hQ hP]; exact a2
      · exact (fp j Q (by omega) hQ).fr a3 (by omega)⟩
    cases hp : P.2.2.2.2 with
    | true =>
      refine Or.inl (cont ?_ ?_)
      · rintro ⟨P', a, b, _⟩
        rw [get_un a hP, hp] at b; cases b
      · unfold mX7_covers_B40
        (repeat (first | rw [ck_t (by first | with_reducible assumption | ((with_reducible apply ixA_of); (with_reducible assumption); omega; omega) | ((with_reducible apply isAr_of); (with_reducible assumption); decide) | ((with_reducible apply nI_ne0); omega; omega) | with_reducible exact isB_0 | with_reducible exact isB_1 | with_reducible exact isB_bI _)] | rw [bd_r (by with_reducible assumption)] | rw [bd_s] | rw [bd2_s] | rw [bd3_s] | rw [nm_s] | rw [nI_clamp (by omega)] | rw [nI_1] | rw [e] | rw [bd_e (a1)] | rw [e4] | rw [hp] | rw [if_neg (show ¬ bI true = 0 by decide)] | rw [if_pos (by first | with_reducible assumption | ((with_reducible refine nI_lt ?_ ?_); omega; omega) | ((with_reducible refine nI_nlt ?_ ?_); omega; omega) | with_reducible exact ne10 | with_reducible rfl)] | rw [if_neg (by first | with_reducible assumption | ((with_reducible refine nI_lt ?_ ?_); omega; omega) | ((with_reducible refine nI_nlt ?_ ?_); omega; omega) | with_reducible exact ne10 | with_reducible rfl)]))
        exact go
    | false =>
      obtain ⟨v, v1, v2⟩ := holdsAll_ok fgA (hf.fr f2 (by omega)) (by omega) (by decide) hB t2 a2 (by omega) (by decide) (inBs_of (plc_ok iP).2.2.2.2)
      rcases v2 with ⟨rfl, v2⟩ | ⟨rfl, v2⟩
      · refine Or.inl (cont (fun ⟨P', a, _, z⟩ => z (by rw [get_un a hP]; exact v2)) ?_)
        unfold mX7_covers_B40
        (repeat (first | rw [ck_t (by first | with_reducible assumption | ((with_reducible apply ixA_of); (with_reducible assumption); omega; omega) | ((with_reducible apply isAr_of); (with_reducible assumption); decide) | ((with_reducible apply nI_ne0); omega; omega) | with_reducible exact isB_0 | with_reducible exact isB_1 | with_reducible exact isB_bI _)] | rw [bd_r (by with_reducible assumption)] | rw [bd_s] | rw [bd2_s] | rw [bd3_s] | rw [nm_s] | rw [nI_clamp (by omega)] | rw [nI_1] | rw [e] | rw [bd_e (a1)] | rw [e4] | rw [hp] | rw [if_pos (show bI false = 0 from rfl)] | rw [bd_e (v1)] | rw [if_pos (by first | with_reducible assumption | ((with_reducible refine nI_lt ?_ ?_); omega; omega) | ((with_reducible refine nI_nlt ?_ ?_); omega; omega) | with_reducible exact ne10 | with_reducible rfl)] | rw [if_neg (by first | with_reducible assumption | ((with_reducible refine nI_lt ?_ ?_); omega; omega) | ((with_reducible refine nI_nlt ?_ ?_); omega; omega) | with_reducible exact ne10 | with_reducible rfl)]))
        exact go
      · have e1 : (1 + nI i : Int32).toInt64 = lN (1 + i) := by rw [show (1 : Int32) + nI i = nI (1 + i) from nI_add 1 i, nI_i64 (by omega)]
        refine Or.inr ⟨(lN (1 + i), N2), ?_, Or.inl ⟨i, hi, ⟨P, hP, hp, v2⟩, f, rfl⟩, f2, a4.trans fl⟩
        show mX7_covers_B40 K R o (o + 5 + 3 * k) c (nI i) N = _
        unfold mX7_covers_B40
        (repeat (first | rw [ck_t (by first | with_reducible assumption | ((with_reducible apply ixA_of); (with_reducible assumption); omega; omega) | ((with_reducible apply isAr_of); (with_reducible assumption); decide) | ((with_reducible apply nI_ne0); omega; omega) | with_reducible exact isB_0 | with_reducible exact isB_1 | with_reducible exact isB_bI _)] | rw [bd_r (by with_reducible assumption)] | rw [bd_s] | rw [bd2_s] | rw [bd3_s] | rw [nm_s] | rw [nI_clamp (by omega)] | rw [nI_1] | rw [e] | rw [bd_e (a1)] | rw [e4] | rw [hp] | rw [if_pos (show bI false = 0 from rfl)] | rw [bd_e (v1)] | rw [e1] | rw [if_pos (by first | with_reducible assumption | ((with_reducible refine nI_lt ?_ ?_); omega; omega) | ((with_reducible refine nI_nlt ?_ ?_); omega; omega) | with_reducible exact ne10 | with_reducible rfl)] | rw [if_neg (by first | with_reducible assumption | ((with_reducible refine nI_lt ?_ ?_); omega; omega) | ((with_reducible refine nI_nlt ?_ ?_); omega; omega) | with_reducible exact ne10 | with_reducible rfl)]))
        rfl
  · rintro ⟨s, N⟩ ⟨rfl, f0, fl, f, fp⟩
    have f0 : Fr (o + 1998) (o + 2118) M N := f0
    have fl : N.2 = M.2 := fl
    have e : N.1 c 1 = nI ps.length := by rw [(f0 c (by omega)).1]; exact h.1
    have hN := h.fr f0 h40 (by omega)
    obtain ⟨v, v1, v2⟩ := pairs_ok hs0 hA0 hN hpp (fun j P hP => fp j P (get_lt hP) hP)
    obtain ⟨a, a1, a2⟩ := areasC_ok hA0 hN hpp
    obtain ⟨b, b1', b2'⟩ := areaC_ok fgA (hf.fr f0 (by omega)) (by omega) (by omega) (by decide) hB
    show ∃ r, mX7_covers_B40 K R o (o + 5 + 3 * k) c (nI ps.length) N = _ ∧ _
    unfold mX7_covers_B40
    (repeat (first | rw [ck_t (by first | with_reducible assumption | ((with_reducible apply ixA_of); (with_reducible assumption); omega; omega) | ((with_reducible apply isAr_of); (with_reducible assumption); decide) | ((with_reducible apply nI_ne0); omega; omega) | with_reducible exact isB_0 | with_reducible exact isB_1 | with_reducible exact isB_bI _)] | rw [bd_r (by with_reducible assumption)] | rw [bd_s] | rw [bd2_s] | rw [bd3_s] | rw [nm_s] | rw [nI_clamp (by omega)] | rw [nI_1] | rw [e] | rw [bd_e (v1)] | rw [if_pos (by first | with_reducible assumption | ((with_reducible refine nI_lt ?_ ?_); omega; omega) | ((with_reducible refine nI_nlt ?_ ?_); omega; omega) | with_reducible exact ne10 | with_reducible rfl)] | rw [if_neg (by first | with_reducible assumption | ((with_reducible refine nI_lt ?_ ?_); omega; omega) | ((with_reducible refine nI_nlt ?_ ?_); omega; omega) | with_reducible exact ne10 | with_reducible rfl)]))
    rcases v2 with ⟨i, j, v2, rfl⟩ | ⟨v2, rfl⟩
    · have hi2 := v2.1
      have hj2 := v2.2.1
      have ne : ¬ lN (40 * i + j) = -9000000000000000005 := fun q => by
        rw [eq64, lN_int (by omega)] at q
        have q : ((40 * i + j : Nat) : Int) = -9000000000000000005 := q
        omega
      have e100 : (100 : Int64) + lN (40 * i + j) = lN (100 + (40 * i + j)) := by rw [show (100 : Int64) = lN 100 from rfl, lN_add]
      rw [if_neg ne, e100]
      exact ⟨_, rfl, Or.inr ⟨f, Or.inl ⟨i, j, v2, rfl⟩⟩, f0, fl⟩
    · rw [if_pos rfl, bd_e a1, bd_e b1']
      by_cases q : a = b
      · rw [if_pos q]
        refine ⟨(0, N), rfl, Or.inr ⟨f, Or.inr ⟨v2, Or.inl ⟨?_, rfl⟩⟩⟩, f0, fl⟩
        rw [eq64, a2, b2'] at q; exact q
      · rw [if_neg q]
        refine ⟨(2000, N), rfl, Or.inr ⟨f, Or.inr ⟨v2, Or.inr ⟨?_, rfl⟩⟩⟩, f0, fl⟩
        rw [eq64, a2, b2'] at q; exact q
end COI
theorem inv_covers (o : Nat) (K : Kk) (R : Rr) (M : Mm) (a0 : Int32) (hI : Inv o K R M) : ∃ (v : Int64) (M1 : Mm) (M2 : Mm), mX7_covers K R M o a0 = some (v, M1) ∧ mX8_covers K R M1 (o + 2118) a0 = some (v, M2) ∧ Inv o K R M2 := by
  have hI0 := hI
  obtain ⟨hs, hm, S, hw, hc, ho⟩ := hI
  have hs0 := hs
  have m0 := hm.1
  have m9 := mo_r9 hm
  have ma9 := mo_a9 hm
  obtain ⟨ps, hps, hpp⟩ := now_ps hw
  obtain ⟨c, hc1, hc2, hcA, hcC, hnow⟩ := now_at hs0 hw hc hps
  have hq6 : psM (M.2 (o + 2118 + 1)) 0 ps := ho.2.2.2.2.2.1 ps hps
  obtain ⟨s0, -, s1, s2, -, -, -, -, -, -, -, -, -, -, -, -, b1, b2, ⟨i0, -⟩, -⟩ := hs
  rcases cases_n a0 5 (by decide) with h | ⟨k, hk, rfl⟩
  · refine ⟨-9000000000000000001, M, M, ?_, ?_, hI0⟩
    · unfold mX7_covers
      (repeat (first | rw [ck_t (by first | with_reducible assumption | ((with_reducible apply ixA_of); (with_reducible assumption); omega; omega) | ((with_reducible apply isAr_of); (with_reducible assumption); decide) | ((with_reducible apply nI_ne0); omega; omega) | with_reducible exact isB_0 | with_reducible exact isB_1 | with_reducible exact isB_bI _)] | rw [bd_r (by with_reducible assumption)] | rw [bd_s] | rw [bd2_s] | rw [bd3_s] | rw [nm_s] | rw [nI_clamp (by omega)] | rw [nI_1] | rw [bd_e (isFigure_f h)] | rw [if_pos (by first | with_reducible assumption | ((with_reducible refine nI_lt ?_ ?_); omega; omega) | ((with_reducible refine nI_nlt ?_ ?_); omega; omega) | with_reducible exact ne10 | with_reducible rfl)] | rw [if_neg (by first | with_reducible assumption | ((with_reducible refine nI_lt ?_ ?_); omega; omega) | ((with_reducible refine nI_nlt ?_ ?_); omega; omega) | with_reducible exact ne10 | with_reducible rfl)]))
    · unfold mX8_covers
      (repeat (first | rw [ck_t (by first | with_reducible assumption | ((with_reducible apply ixA_of); (with_reducible assumption); omega; omega) | ((with_reducible apply isAr_of); (with_reducible assumption); decide) | ((with_reducible apply nI_ne0); omega; omega) | with_reducible exact isB_0 | with_reducible exact isB_1 | with_reducible exact isB_bI _)] | rw [bd_r (by with_reducible assumption)] | rw [bd_s] | rw [bd2_s] | rw [bd3_s] | rw [nm_s] | rw [nI_clamp (by omega)] | rw [nI_1] | rw [bd_e (isInN_f (n := 5) h (by decide) (by decide))] | rw [if_pos (by first | with_reducible assumption | ((with_reducible refine nI_lt ?_ ?_); omega; omega) | ((with_reducible refine nI_nlt ?_ ?_); omega; omega) | with_reducible exact ne10 | with_reducible rfl)] | rw [if_neg (by first | with_reducible assumption | ((with_reducible refine nI_lt ?_ ?_); omega; omega) | ((with_reducible refine nI_nlt ?_ ?_); omega; omega) | with_reducible exact ne10 | with_reducible rfl)]))
  · obtain ⟨k1, k2⟩ := b2 k hk
    have k20 := k2.1
    have hC := hc.2.1 k hk
    have hM : fgM M (o + 2118) k (S.2.1 k) := ho.2.2.1 k hk
    have eC := hC.1
    have t0 := isFigure_t (K := K) (R := R) (M := M) hk
    rcases hw.2.2.1 k hk with h | h
    · have eM := hM.1
      rw [h] at eC eM
      have eC : M.1 (o + 5 + 3 * k) 2 = 0 := eC
      have eM : M.1 (o + 2118 + 8) k = 0 := eM
      refine ⟨-9000000000000000002, M, M, ?_, ?_, hI0⟩
      · unfold mX7_covers
        (repeat (first | rw [ck_t (by first | with_reducible assumption | ((with_reducible apply ixA_of); (with_reducible assumption); omega; omega) | ((with_reducible apply isAr_of); (with_reducible assumption); decide) | ((with_reducible apply nI_ne0); omega; omega) | with_reducible exact isB_0 | with_reducible exact isB_1 | with_reducible exact isB_bI _)] | rw [bd_r (by with_reducible assumption)] | rw [bd_s] | rw [bd2_s] | rw [bd3_s] | rw [nm_s] | rw [nI_clamp (by omega)] | rw [nI_1] | rw [bd_e (t0)] | rw [if_pos (by first | with_reducible assumption | ((with_reducible refine nI_lt ?_ ?_); omega; omega) | ((with_reducible refine nI_nlt ?_ ?_); omega; omega) | with_reducible exact ne10 | with_reducible rfl)] | rw [if_neg (by first | with_reducible assumption | ((with_reducible refine nI_lt ?_ ?_); omega; omega) | ((with_reducible refine nI_nlt ?_ ?_); omega; omega) | with_reducible exact ne10 | with_reducible rfl)]))
      · unfold mX8_covers
        (repeat (first | rw [ck_t (by first | with_reducible assumption | ((with_reducible apply ixA_of); (with_reducible assumption); omega; omega) | ((with_reducible apply isAr_of); (with_reducible assumption); decide) | ((with_reducible apply nI_ne0); omega; omega) | with_reducible exact isB_0 | with_reducible exact isB_1 | with_reducible exact isB_bI _)] | rw [bd_r (by with_reducible assumption)] | rw [bd_s] | rw [bd2_s] | rw [bd3_s] | rw [nm_s] | rw [nI_clamp (by omega)] | rw [nI_1] | rw [bd_e (isInN_t (n := 5) (b := 4) hk (by decide) (by decide))] | rw [if_pos (by first | with_reducible assumption | ((with_reducible refine nI_lt ?_ ?_); omega; omega) | ((with_reducible refine nI_nlt ?_ ?_); omega; omega) | with_reducible exact ne10 | with_reducible rfl)] | rw [if_neg (by first | with_reducible assumption | ((with_reducible refine nI_lt ?_ ?_); omega; omega) | ((with_reducible refine nI_nlt ?_ ?_); omega; omega) | with_reducible exact ne10 | with_reducible rfl)]))
    · have h16 := h.2.1
      have h3 := h.1
      have ne : ¬ nI (S.2.1 k).length = 0 := nI_ne0 (by omega) (by omega)
      obtain ⟨⟨v, M1⟩, r1, r2, r3, r4⟩ := coversC_ok hs0 hcA hc1 hc2 hcC hpp hk hC h16 h.B
      have r3 : Fr (o + 1998) (o + 2118) M M1 := r3
      have r4 : M1.2 = M.2 := r4
      have hM1 : fgM M1 (o + 2118) k (S.2.1 k) := by
        obtain ⟨g1, g2⟩ := hM
        refine ⟨by rw [(r3 _ (by omega)).1]; exact g1, ?_⟩
        unfold ptM
        rw [r4]; exact g2
      obtain ⟨⟨w, M2⟩, w1, w2, w3⟩ := coversM_ok hm (show psM (M1.2 (o + 2118 + 1)) 0 ps by rw [r4]; exact hq6) hpp hk hM1 h16 h.B
      have w3 : FM (o + 2118) [15, 18, 21, 24] [11, 12, 13, 14, 15, 16, 17, 18] M1 M2 := w3
      obtain rfl : v = w := r2.un w2
      refine ⟨v, M1, M2, ?_, ?_, (hI0.kp (Kp.fr r3 (by omega))).kp (w3.kp (by decide) (by decide) (by decide) (by decide))⟩
      · unfold mX7_covers
        (repeat (first | rw [ck_t (by first | with_reducible assumption | ((with_reducible apply ixA_of); (with_reducible assumption); omega; omega) | ((with_reducible apply isAr_of); (with_reducible assumption); decide) | ((with_reducible apply nI_ne0); omega; omega) | with_reducible exact isB_0 | with_reducible exact isB_1 | with_reducible exact isB_bI _)] | rw [bd_r (by with_reducible assumption)] | rw [bd_s] | rw [bd2_s] | rw [bd3_s] | rw [nm_s] | rw [nI_clamp (by omega)] | rw [nI_1] | rw [bd_e (t0)] | rw [eC] | rw [bd_e (hnow M rfl)] | rw [if_pos (by first | with_reducible assumption | ((with_reducible refine nI_lt ?_ ?_); omega; omega) | ((with_reducible refine nI_nlt ?_ ?_); omega; omega) | with_reducible exact ne10 | with_reducible rfl)] | rw [if_neg (by first | with_reducible assumption | ((with_reducible refine nI_lt ?_ ?_); omega; omega) | ((with_reducible refine nI_nlt ?_ ?_); omega; omega) | with_reducible exact ne10 | with_reducible rfl)]))
        exact r1
      · unfold mX8_covers
        (repeat (first | rw [ck_t (by first | with_reducible assumption | ((with_reducible apply ixA_of); (with_reducible assumption); omega; omega) | ((with_reducible apply isAr_of); (with_reducible assumption); decide) | ((with_reducible apply nI_ne0); omega; omega) | with_reducible exact isB_0 | with_reducible exact isB_1 | with_reducible exact isB_bI _)] | rw [bd_r (by with_reducible assumption)] | rw [bd_s] | rw [bd2_s] | rw [bd3_s] | rw [nm_s] | rw [nI_clamp (by omega)] | rw [nI_1] | rw [bd_e (isInN_t (n := 5) (b := 4) hk (by decide) (by decide))] | rw [hM1.1] | rw [if_pos (by first | with_reducible assumption | ((with_reducible refine nI_lt ?_ ?_); omega; omega) | ((with_reducible refine nI_nlt ?_ ?_); omega; omega) | with_reducible exact ne10 | with_reducible rfl)] | rw [if_neg (by first | with_reducible assumption | ((with_reducible refine nI_lt ?_ ?_); omega; omega) | ((with_reducible refine nI_nlt ?_ ?_); omega; omega) | with_reducible exact ne10 | with_reducible rfl)]))
        exact w1
