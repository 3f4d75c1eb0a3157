/-! back, count -/
def home (P : Pc) : Pc := (P.1, 1, 0, 0, P.2.2.2.2)
def away (P : Pc) : Bool := !(decide (P.2.1 = 1) && decide (P.2.2.1 = 0) && decide (P.2.2.2.1 = 0))
def cntB (f : Nat → Bool) : Nat → Nat
  | 0 => 0
  | n + 1 => cntB f n + (if f n then 1 else 0)
theorem cntB_le (f : Nat → Bool) : ∀ n, cntB f n ≤ n
  | 0 => Nat.le_refl _
  | n + 1 => by have := cntB_le f n; unfold cntB; split <;> omega
def mixP (h : Pc → Pc) (i : Nat) (ps : List Pc) : List Pc := ps.mapIdx (fun j P => if j < i then h P else P)
theorem mixP_get {h : Pc → Pc} {i j : Nat} {ps : List Pc} : (mixP h i ps)[j]? = (ps[j]?).map (fun P => if j < i then h P else P) := by unfold mixP; rw [List.getElem?_mapIdx]
theorem mixP_len {h : Pc → Pc} {i : Nat} {ps : List Pc} : (mixP h i ps).length = ps.length := by unfold mixP; rw [List.length_mapIdx]
theorem mixP_0 {h : Pc → Pc} {ps : List Pc} : mixP h 0 ps = ps := by
  apply List.ext_getElem?
  intro j
  rw [mixP_get]
  cases ps[j]? <;> rfl
theorem mixP_set {h : Pc → Pc} {i : Nat} {ps : List Pc} {P : Pc} (hP : ps[i]? = some P) : (mixP h i ps).set i (h P) = mixP h (i + 1) ps := by
  have hi := get_lt hP
  apply List.ext_getElem?
  intro j
  rw [List.getElem?_set, mixP_get, mixP_get, mixP_len]
  by_cases hj : i = j
  · subst hj
    rw [if_pos rfl, if_pos hi, hP]
    show some (h P) = some (if i < i + 1 then h P else P)
    rw [if_pos (by omega)]
  · rw [if_neg hj]
    cases ps[j]? with
    | none => rfl
    | some Q =>
      show some (if j < i then h Q else Q) = some (if j < i + 1 then h Q else Q)
      by_cases q : j < i
      · rw [if_pos q, if_pos (by omega)]
      · rw [if_neg q, if_neg (by omega)]
theorem mixP_at {h : Pc → Pc} {i : Nat} {ps : List Pc} {P : Pc} (hP : ps[i]? = some P) : (mixP h i ps)[i]? = some P := by
  rw [mixP_get, hP]
  show some (if i < i then h P else P) = some P
  rw [if_neg (by omega)]
theorem home_ok {P : Pc} (h : isPc P) : isPc (home P) := ⟨h.1, Or.inl rfl, fun i c hc => by
  have := h.1.B i c hc
  have e : mvP 1 0 0 c = c := by unfold mvP; exact Prod.ext (by simp) (by simp)
  show inB (mvP 1 0 0 c)
  rw [e]; exact this⟩
theorem mixP_ok {i : Nat} {ps : List Pc} (h : isPs ps) : isPs (mixP home i ps) := by
  refine ⟨by rw [mixP_len]; exact h.1, fun j P hP => ?_⟩
  rw [mixP_get] at hP
  cases hQ : ps[j]? with
  | none => rw [hQ] at hP; cases hP
  | some Q =>
    rw [hQ] at hP
    have hP : some (if j < i then home Q else Q) = some P := hP
    cases hP
    split
    · exact home_ok (h.2 j Q hQ)
    · exact h.2 j Q hQ
def awN (ps : List Pc) (j : Nat) : Bool := match ps[j]? with
  | some P => away P
  | none => false
theorem awN_of {ps : List Pc} {j : Nat} {P : Pc} (h : ps[j]? = some P) : awN ps j = away P := by unfold awN; rw [h]
theorem away_t {P : Pc} (h : ¬ (P.2.1 = 1 ∧ P.2.2.1 = 0 ∧ P.2.2.2.1 = 0)) : away P = true := by
  unfold away
  by_cases a : P.2.1 = 1 <;> by_cases b : P.2.2.1 = 0 <;> by_cases c : P.2.2.2.1 = 0 <;> simp [a, b, c] <;> exact h ⟨a, b, c⟩
theorem away_f {P : Pc} (h : P.2.1 = 1 ∧ P.2.2.1 = 0 ∧ P.2.2.2.1 = 0) : away P = false := by
  unfold away; simp [h.1, h.2.1, h.2.2]
theorem cntB_s {f : Nat → Bool} {n : Nat} (h : f n = true) : cntB f (n + 1) = cntB f n + 1 := by
  show cntB f n + _ = _
  rw [h]; rfl
theorem cntB_n {f : Nat → Bool} {n : Nat} (h : f n = false) : cntB f (n + 1) = cntB f n := by
  show cntB f n + _ = _
  rw [h]; rfl
theorem hasMove_ok {K : Kk} {R : Rr} {M : Mm} {q : Nat} {P : Pc} {t x y : Int32} {ti a b : Int} (hA : pcA K R q) (h : pcC M q P) (ht : t.toInt = ti) (hx : x.toInt = a) (hy : y.toInt = b) : ∃ v, mX3_hasMove K R M q t x y = some v ∧ iv v (P.2.1 = ti ∧ P.2.2.1 = a ∧ P.2.2.2.1 = b) := by
  obtain ⟨a0, a1, a2⟩ := hA
  obtain ⟨h1, h2, h3, h4, h5⟩ := h
  have e1 : M.1 q 1 = t ↔ P.2.1 = ti := by rw [eq32, h2, ht]
  have e2 : M.1 q 2 = x ↔ P.2.2.1 = a := by rw [eq32, h3, hx]
  have e3 : M.1 q 3 = y ↔ P.2.2.2.1 = b := by rw [eq32, h4, hy]
  unfold mX3_hasMove
  by_cases c1 : M.1 q 1 = t
  · by_cases c2 : M.1 q 2 = x
    · by_cases c3 : M.1 q 3 = y
      · exact ⟨1, by (repeat (first | rw [ck_t (by first | with_reducible assumption | ((with_reducible apply ixA_of); (with_reducible assumption); omega; omega) | ((with_reducible apply isAr_of); (with_reducible assumption); decide) | ((with_reducible apply nI_ne0); omega; omega) | with_reducible exact isB_0 | with_reducible exact isB_1 | with_reducible exact isB_bI _)] | rw [bd_r (by with_reducible assumption)] | rw [bd_s] | rw [bd2_s] | rw [bd3_s] | rw [nm_s] | rw [nI_clamp (by omega)] | rw [nI_1] | rw [if_pos (by first | with_reducible assumption | ((with_reducible refine nI_lt ?_ ?_); omega; omega) | ((with_reducible refine nI_nlt ?_ ?_); omega; omega) | with_reducible exact ne10 | with_reducible rfl)] | rw [if_neg (by first | with_reducible assumption | ((with_reducible refine nI_lt ?_ ?_); omega; omega) | ((with_reducible refine nI_nlt ?_ ?_); omega; omega) | with_reducible exact ne10 | with_reducible rfl)])), Or.inl ⟨rfl, e1.mp c1, e2.mp c2, e3.mp c3⟩⟩
      · exact ⟨0, by (repeat (first | rw [ck_t (by first | with_reducible assumption | ((with_reducible apply ixA_of); (with_reducible assumption); omega; omega) | ((with_reducible apply isAr_of); (with_reducible assumption); decide) | ((with_reducible apply nI_ne0); omega; omega) | with_reducible exact isB_0 | with_reducible exact isB_1 | with_reducible exact isB_bI _)] | rw [bd_r (by with_reducible assumption)] | rw [bd_s] | rw [bd2_s] | rw [bd3_s] | rw [nm_s] | rw [nI_clamp (by omega)] | rw [nI_1] | rw [if_pos (by first | with_reducible assumption | ((with_reducible refine nI_lt ?_ ?_); omega; omega) | ((with_reducible refine nI_nlt ?_ ?_); omega; omega) | with_reducible exact ne10 | with_reducible rfl)] | rw [if_neg (by first | with_reducible assumption | ((with_reducible refine nI_lt ?_ ?_); omega; omega) | ((with_reducible refine nI_nlt ?_ ?_); omega; omega) | with_reducible exact ne10 | with_reducible rfl)])), Or.inr ⟨rfl, fun z => c3 (e3.mpr z.2.2)⟩⟩
    · exact ⟨0, by (repeat (first | rw [ck_t (by first | with_reducible assumption | ((with_reducible apply ixA_of); (with_reducible assumption); omega; omega) | ((with_reducible apply isAr_of); (with_reducible assumption); decide) | ((with_reducible apply nI_ne0); omega; omega) | with_reducible exact isB_0 | with_reducible exact isB_1 | with_reducible exact isB_bI _)] | rw [bd_r (by with_reducible assumption)] | rw [bd_s] | rw [bd2_s] | rw [bd3_s] | rw [nm_s] | rw [nI_clamp (by omega)] | rw [nI_1] | rw [if_pos (by first | with_reducible assumption | ((with_reducible refine nI_lt ?_ ?_); omega; omega) | ((with_reducible refine nI_nlt ?_ ?_); omega; omega) | with_reducible exact ne10 | with_reducible rfl)] | rw [if_neg (by first | with_reducible assumption | ((with_reducible refine nI_lt ?_ ?_); omega; omega) | ((with_reducible refine nI_nlt ?_ ?_); omega; omega) | with_reducible exact ne10 | with_reducible rfl)])), Or.inr ⟨rfl, fun z => c2 (e2.mpr z.2.1)⟩⟩
  · exact ⟨0, by (repeat (first | rw [ck_t (by first | with_reducible assumption | ((with_reducible apply ixA_of); (with_reducible assumption); omega; omega) | ((with_reducible apply isAr_of); (with_reducible assumption); decide) | ((with_reducible apply nI_ne0); omega; omega) | with_reducible exact isB_0 | with_reducible exact isB_1 | with_reducible exact isB_bI _)] | rw [bd_r (by with_reducible assumption)] | rw [bd_s] | rw [bd2_s] | rw [bd3_s] | rw [nm_s] | rw [nI_clamp (by omega)] | rw [nI_1] | rw [if_pos (by first | with_reducible assumption | ((with_reducible refine nI_lt ?_ ?_); omega; omega) | ((with_reducible refine nI_nlt ?_ ?_); omega; omega) | with_reducible exact ne10 | with_reducible rfl)] | rw [if_neg (by first | with_reducible assumption | ((with_reducible refine nI_lt ?_ ?_); omega; omega) | ((with_reducible refine nI_nlt ?_ ?_); omega; omega) | with_reducible exact ne10 | with_reducible rfl)])), Or.inr ⟨rfl, fun z => c1 (e1.mpr z.1)⟩⟩
theorem inv_back (o : Nat) (K : Kk) (R : Rr) (M : Mm) (hI : Inv o K R M) : ∃ (v : Int64) (R1 : Rr) (M1 : Mm) (M2 : Mm), mX7_back K R M o = some (v, R1, M1) ∧ mX8_back K R1 M1 (o + 2118) = some (v, M2) ∧ Inv o K R1 M2 := by
  obtain ⟨hs, hm, S, hw, hc, ho⟩ := hI
  have hs0 := hs
  obtain ⟨ps, hps, hpp⟩ := now_ps hw
  obtain ⟨f, d, hx⟩ := hi_of hc
  have hq6 : psM (M.2 (o + 2118 + 1)) 0 ps := ho.2.2.2.2.2.1 ps hps
  have h40 := hpp.1
  obtain ⟨s0, -, -, s2, -, -, -, -, -, -, s9, s10, -, -, -, -, -, -, ⟨i0, -⟩, -, -, -, -, -, -, -, r1, r2, -⟩ := hs
  have hd8 := hx.1.1
  obtain ⟨M19, d1, d2, d3, d4⟩ := draft_ok hs0 hx hw.2.2.2.1 hw.2.2.2.2.1 hps hpp.fit
  have hcd : cont o d = o + 22 + 162 * d := rfl
  obtain ⟨e0, e1, e2, e3⟩ := cont_psA hs0 hd8
  have hAll := mixP_ok (i := ps.length) hpp
  have hL := lp_ind (f := mX7_back_L13 K R o (cont o d)) (fun (i : Nat) (s : Int64 × Int32 × Mm) => s.1 = lN (cntB (awN ps) i) ∧ s.2.1 = nI i ∧ psC s.2.2 (cont o d) (mixP home i ps) ∧ Fr (cont o d) (cont o d + 162) M19 s.2.2 ∧ s.2.2.2 = M.2) (fun r => ∃ R1 M17, r = (lN (cntB (awN ps) ps.length), R1, M17) ∧ ∃ N, mX8_keep K R1 M17 (o + 2118) = some N ∧ moA K R1 (o + 2118) ∧ psM (N.2 (o + 2118 + 1)) 0 ps ∧ ∀ (M2 : Mm), FM (o + 2118) [] [1] N M2 → psM (M2.2 (o + 2118 + 1)) 0 (mixP home ps.length ps) → Inv o K R1 M2) ps.length ?_ ?_
  · obtain ⟨r, g1, R1, M17, rfl, N, n1, n2, n3, n4⟩ := hL ps.length 0 (0, nI 0, M19) (by omega) ⟨rfl, rfl, by rw [mixP_0]; exact d2, Fr.rf, d4⟩
    have m0 := n2.1
    have hW := lp_ind (f := mX8_back_L8 K R1 (o + 2118)) (fun (i : Nat) (s : Int32 × Int32 × Mm) => s.1 = nI (cntB (awN ps) i) ∧ s.2.1 = nI i ∧ psM (s.2.2.2 (o + 2118 + 1)) 0 (mixP home i ps) ∧ FM (o + 2118) [] [1] N s.2.2) (fun r => r.1 = lN (cntB (awN ps) ps.length) ∧ psM (r.2.2 (o + 2118 + 1)) 0 (mixP home ps.length ps) ∧ FM (o + 2118) [] [1] N r.2) ps.length ?_ ?_
    · obtain ⟨⟨w, M2⟩, w1, w2, w3, w4⟩ := hW ps.length 0 (nI 0, nI 0, N) (by omega) ⟨rfl, rfl, by rw [mixP_0]; exact n3, FM.rf⟩
      have w2 : w = _ := w2
      subst w2
      refine ⟨lN (cntB (awN ps) ps.length), R1, M17, M2, ?_, ?_, n4 M2 w4 w3⟩
      · unfold mX7_back
        (repeat (first | rw [ck_t (by first | with_reducible assumption | ((with_reducible apply ixA_of); (with_reducible assumption); omega; omega) | ((with_reducible apply isAr_of); (with_reducible assumption); decide) | ((with_reducible apply nI_ne0); omega; omega) | with_reducible exact isB_0 | with_reducible exact isB_1 | with_reducible exact isB_bI _)] | rw [bd_r (by with_reducible assumption)] | rw [bd_s] | rw [bd2_s] | rw [bd3_s] | rw [nm_s] | rw [nI_clamp (by omega)] | rw [nI_1] | rw [bd2_e (d1)] | rw [if_pos (by first | with_reducible assumption | ((with_reducible refine nI_lt ?_ ?_); omega; omega) | ((with_reducible refine nI_nlt ?_ ?_); omega; omega) | with_reducible exact ne10 | with_reducible rfl)] | rw [if_neg (by first | with_reducible assumption | ((with_reducible refine nI_lt ?_ ?_); omega; omega) | ((with_reducible refine nI_nlt ?_ ?_); omega; omega) | with_reducible exact ne10 | with_reducible rfl)]))
        exact g1
      · unfold mX8_back
        (repeat (first | rw [ck_t (by first | with_reducible assumption | ((with_reducible apply ixA_of); (with_reducible assumption); omega; omega) | ((with_reducible apply isAr_of); (with_reducible assumption); decide) | ((with_reducible apply nI_ne0); omega; omega) | with_reducible exact isB_0 | with_reducible exact isB_1 | with_reducible exact isB_bI _)] | rw [bd_r (by with_reducible assumption)] | rw [bd_s] | rw [bd2_s] | rw [bd3_s] | rw [nm_s] | rw [nI_clamp (by omega)] | rw [nI_1] | rw [bd_e (n1)] | rw [if_pos (by first | with_reducible assumption | ((with_reducible refine nI_lt ?_ ?_); omega; omega) | ((with_reducible refine nI_nlt ?_ ?_); omega; omega) | with_reducible exact ne10 | with_reducible rfl)] | rw [if_neg (by first | with_reducible assumption | ((with_reducible refine nI_lt ?_ ?_); omega; omega) | ((with_reducible refine nI_nlt ?_ ?_); omega; omega) | with_reducible exact ne10 | with_reducible rfl)]))
        exact w1
    · rintro i ⟨x, y, Q⟩ hi ⟨rfl, rfl, f1, f2⟩
      have f1 : psM (Q.2 (o + 2118 + 1)) 0 (mixP home i ps) := f1
      have f2 : FM (o + 2118) [] [1] N Q := f2
      obtain ⟨P, hP⟩ := get_ex hi
      have iP := hpp.2 i P hP
      have hPm := mixP_at (h := home) hP
      have sP := iP.1.2.1
      obtain ⟨a1, a2, a3, a4, a5, a6⟩ := f1.pc hPm
      have hc1 := cntB_le (awN ps) i
      have pcs := piecesM_ok n2 f1
      rw [mixP_len] at pcs
      have k33 : mX8_get K R1 Q (o + 2118) (nI i) 33 = some (Q.2 (o + 2118 + 1) (37 * i + 33)) := get_ok n2 rfl (by omega) (by omega)
      have k34 : mX8_get K R1 Q (o + 2118) (nI i) 34 = some (Q.2 (o + 2118 + 1) (37 * i + 34)) := get_ok n2 rfl (by omega) (by omega)
      have k35 : mX8_get K R1 Q (o + 2118) (nI i) 35 = some (Q.2 (o + 2118 + 1) (37 * i + 35)) := get_ok n2 rfl (by omega) (by omega)
      have b1 : Q.2 (o + 2118 + 1) (37 * i + 33) = 1 ↔ P.2.1 = 1 := by rw [eq64, a3]; rfl
      have b2 : Q.2 (o + 2118 + 1) (37 * i + 34) = 0 ↔ P.2.2.1 = 0 := by rw [eq64, a4]; rfl
      have b3 : Q.2 (o + 2118 + 1) (37 * i + 35) = 0 ↔ P.2.2.2.1 = 0 := by rw [eq64, a5]; rfl
      generalize hQ2 : pL (pL (pL Q (o + 2118 + 1) (37 * i + 33) 1) (o + 2118 + 1) (37 * i + 34) 0) (o + 2118 + 1) (37 * i + 35) 0 = Q2
      have e58 : ∀ k, mX8_back_J58 K R1 Q (o + 2118) (nI i) (nI (cntB (awN ps) i)) (nI k) = some (.inl (nI (cntB (awN ps) i + k), nI (i + 1), Q2)) := fun k => by
        unfold mX8_back_J58
        (repeat (first | rw [ck_t (by first | with_reducible assumption | ((with_reducible apply ixA_of); (with_reducible assumption); omega; omega) | ((with_reducible apply isAr_of); (with_reducible assumption); decide) | ((with_reducible apply nI_ne0); omega; omega) | with_reducible exact isB_0 | with_reducible exact isB_1 | with_reducible exact isB_bI _)] | rw [bd_r (by with_reducible assumption)] | rw [bd_s] | rw [bd2_s] | rw [bd3_s] | rw [nm_s] | rw [nI_clamp (by omega)] | rw [nI_1] | rw [nI_add] | rw [bd_e (moveM_ok n2 (show i < 40 by omega))] | rw [hQ2] | rw [if_pos (by first | with_reducible assumption | ((with_reducible refine nI_lt ?_ ?_); omega; omega) | ((with_reducible refine nI_nlt ?_ ?_); omega; omega) | with_reducible exact ne10 | with_reducible rfl)] | rw [if_neg (by first | with_reducible assumption | ((with_reducible refine nI_lt ?_ ?_); omega; omega) | ((with_reducible refine nI_nlt ?_ ?_); omega; omega) | with_reducible exact ne10 | with_reducible rfl)]))
      have fin : psM (Q2.2 (o + 2118 + 1)) 0 (mixP home (i + 1) ps) ∧ FM (o + 2118) [] [1] N Q2 := by
        refine ⟨?_, by rw [← hQ2]; exact ((f2.pL (by decide)).pL (by decide)).pL (by decide)⟩
        rw [← mixP_set hP, ← hQ2]
        refine psM_set f1 (mixP_ok hpp).fit (by rw [mixP_len]; exact hi) (fun j hj => by rw [pL_k (by omega), pL_k (by omega), pL_k (by omega)]) ?_
        refine ⟨by rw [pL_k (by omega), pL_k (by omega), pL_k (by omega)]; exact a1, fun j q hq => ?_, by rw [pL_k (by omega), pL_k (by omega), pL_s]; rfl, by rw [pL_k (by omega), pL_s]; rfl, by rw [pL_s]; rfl, by rw [pL_k (by omega), pL_k (by omega), pL_k (by omega)]; exact a6⟩
        have hj : j < P.1.length := get_lt hq
        rw [pL_k (by omega), pL_k (by omega), pL_k (by omega), pL_k (by omega), pL_k (by omega), pL_k (by omega)]
        exact a2 j q hq
      have e53 : mX8_back_J53 K R1 Q (o + 2118) (nI i) (nI (cntB (awN ps) i)) = some (.inl (nI (cntB (awN ps) i + 1), nI (i + 1), Q2)) := e58 1
      left
      have ya : awN ps i = true → cntB (awN ps) i + 1 = cntB (awN ps) (i + 1) := fun h => (cntB_s h).symm
      have na : awN ps i = false → cntB (awN ps) i + 0 = cntB (awN ps) (i + 1) := fun h => (cntB_n h).symm
      show ∃ s', mX8_back_B8 K R1 (o + 2118) (nI (cntB (awN ps) i)) (nI i) Q = some (.inl s') ∧ _
      have out1 : awN ps i = true → mX8_back_B8 K R1 (o + 2118) (nI (cntB (awN ps) i)) (nI i) Q = some (.inl (nI (cntB (awN ps) i + 1), nI (i + 1), Q2)) → ∃ s', mX8_back_B8 K R1 (o + 2118) (nI (cntB (awN ps) i)) (nI i) Q = some (.inl s') ∧ (s'.1 = nI (cntB (awN ps) (i + 1)) ∧ s'.2.1 = nI (i + 1) ∧ psM (s'.2.2.2 (o + 2118 + 1)) 0 (mixP home (i + 1) ps) ∧ FM (o + 2118) [] [1] N s'.2.2) := fun h e => ⟨_, e, by rw [ya h], rfl, fin.1, fin.2⟩
      by_cases c1 : Q.2 (o + 2118 + 1) (37 * i + 33) = 1
      · by_cases c2 : Q.2 (o + 2118 + 1) (37 * i + 34) = 0
        · by_cases c3 : Q.2 (o + 2118 + 1) (37 * i + 35) = 0
          · have hz : awN ps i = false := by rw [awN_of hP]; exact away_f ⟨b1.mp c1, b2.mp c2, b3.mp c3⟩
            refine ⟨(nI (cntB (awN ps) i + 0), nI (i + 1), Q2), ?_, by rw [na hz], rfl, fin.1, fin.2⟩
            unfold mX8_back_B8
            (repeat (first | rw [ck_t (by first | with_reducible assumption | ((with_reducible apply ixA_of); (with_reducible assumption); omega; omega) | ((with_reducible apply isAr_of); (with_reducible assumption); decide) | ((with_reducible apply nI_ne0); omega; omega) | with_reducible exact isB_0 | with_reducible exact isB_1 | with_reducible exact isB_bI _)] | rw [bd_r (by with_reducible assumption)] | rw [bd_s] | rw [bd2_s] | rw [bd3_s] | rw [nm_s] | rw [nI_clamp (by omega)] | rw [nI_1] | rw [bd_e (pcs)] | rw [bd_e (k33)] | rw [bd_e (k34)] | rw [bd_e (k35)] | rw [if_pos (by first | with_reducible assumption | ((with_reducible refine nI_lt ?_ ?_); omega; omega) | ((with_reducible refine nI_nlt ?_ ?_); omega; omega) | with_reducible exact ne10 | with_reducible rfl)] | rw [if_neg (by first | with_reducible assumption | ((with_reducible refine nI_lt ?_ ?_); omega; omega) | ((with_reducible refine nI_nlt ?_ ?_); omega; omega) | with_reducible exact ne10 | with_reducible rfl)]))
            exact e58 0
          · refine out1 (by rw [awN_of hP]; exact away_t (fun z => c3 (b3.mpr z.2.2))) ?_
            unfold mX8_back_B8
            (repeat (first | rw [ck_t (by first | with_reducible assumption | ((with_reducible apply ixA_of); (with_reducible assumption); omega; omega) | ((with_reducible apply isAr_of); (with_reducible assumption); decide) | ((with_reducible apply nI_ne0); omega; omega) | with_reducible exact isB_0 | with_reducible exact isB_1 | with_reducible exact isB_bI _)] | rw [bd_r (by with_reducible assumption)] | rw [bd_s] | rw [bd2_s] | rw [bd3_s] | rw [nm_s] | rw [nI_clamp (by omega)] | rw [nI_1] | rw [bd_e (pcs)] | rw [bd_e (k33)] | rw [bd_e (k34)] | rw [bd_e (k35)] | rw [if_pos (by first | with_reducible assumption | ((with_reducible refine nI_lt ?_ ?_); omega; omega) | ((with_reducible refine nI_nlt ?_ ?_); omega; omega) | with_reducible exact ne10 | with_reducible rfl)] | rw [if_neg (by first | with_reducible assumption | ((with_reducible refine nI_lt ?_ ?_); omega; omega) | ((with_reducible refine nI_nlt ?_ ?_); omega; omega) | with_reducible exact ne10 | with_reducible rfl)]))
            exact e53
        · refine out1 (by rw [awN_of hP]; exact away_t (fun z => c2 (b2.mpr z.2.1))) ?_
          unfold mX8_back_B8
          (repeat (first | rw [ck_t (by first | with_reducible assumption | ((with_reducible apply ixA_of); (with_reducible assumption); omega; omega) | ((with_reducible apply isAr_of); (with_reducible assumption); decide) | ((with_reducible apply nI_ne0); omega; omega) | with_reducible exact isB_0 | with_reducible exact isB_1 | with_reducible exact isB_bI _)] | rw [bd_r (by with_reducible assumption)] | rw [bd_s] | rw [bd2_s] | rw [bd3_s] | rw [nm_s] | rw [nI_clamp (by omega)] | rw [nI_1] | rw [bd_e (pcs)] | rw [bd_e (k33)] | rw [bd_e (k34)] | rw [if_pos (by first | with_reducible assumption | ((with_reducible refine nI_lt ?_ ?_); omega; omega) | ((with_reducible refine nI_nlt ?_ ?_); omega; omega) | with_reducible exact ne10 | with_reducible rfl)] | rw [if_neg (by first | with_reducible assumption | ((with_reducible refine nI_lt ?_ ?_); omega; omega) | ((with_reducible refine nI_nlt ?_ ?_); omega; omega) | with_reducible exact ne10 | with_reducible rfl)]))
          exact e53
      · refine out1 (by rw [awN_of hP]; exact away_t (fun z => c1 (b1.mpr z.1))) ?_
        unfold mX8_back_B8
        (repeat (first | rw [ck_t (by first | with_reducible assumption | ((with_reducible apply ixA_of); (with_reducible assumption); omega; omega) | ((with_reducible apply isAr_of); (with_reducible assumption); decide) | ((with_reducible apply nI_ne0); omega; omega) | with_reducible exact isB_0 | with_reducible exact isB_1 | with_reducible exact isB_bI _)] | rw [bd_r (by with_reducible assumption)] | rw [bd_s] | rw [bd2_s] | rw [bd3_s] | rw [nm_s] | rw [nI_clamp (by omega)] | rw [nI_1] | rw [bd_e (pcs)] | rw [bd_e (k33)] | rw [if_pos (by first | with_reducible assumption | ((with_reducible refine nI_lt ?_ ?_); omega; omega) | ((with_reducible refine nI_nlt ?_ ?_); omega; omega) | with_reducible exact ne10 | with_reducible rfl)] | rw [if_neg (by first | with_reducible assumption | ((with_reducible refine nI_lt ?_ ?_); omega; omega) | ((with_reducible refine nI_nlt ?_ ?_); omega; omega) | with_reducible exact ne10 | with_reducible rfl)]))
        exact e53
    · rintro ⟨x, y, Q⟩ ⟨rfl, rfl, f1, f2⟩
      have f1 : psM (Q.2 (o + 2118 + 1)) 0 (mixP home ps.length ps) := f1
      have pcs := piecesM_ok n2 f1
      rw [mixP_len] at pcs
      have hc1 := cntB_le (awN ps) ps.length
      refine ⟨((nI (cntB (awN ps) ps.length)).toInt64, Q), ?_, nI_i64 (by omega), f1, f2⟩
      show mX8_back_B8 K R1 (o + 2118) (nI (cntB (awN ps) ps.length)) (nI ps.length) Q = _
      unfold mX8_back_B8
      (repeat (first | rw [ck_t (by first | with_reducible assumption | ((with_reducible apply ixA_of); (with_reducible assumption); omega; omega) | ((with_reducible apply isAr_of); (with_reducible assumption); decide) | ((with_reducible apply nI_ne0); omega; omega) | with_reducible exact isB_0 | with_reducible exact isB_1 | with_reducible exact isB_bI _)] | rw [bd_r (by with_reducible assumption)] | rw [bd_s] | rw [bd2_s] | rw [bd3_s] | rw [nm_s] | rw [nI_clamp (by omega)] | rw [nI_1] | rw [bd_e (pcs)] | rw [if_pos (by first | with_reducible assumption | ((with_reducible refine nI_lt ?_ ?_); omega; omega) | ((with_reducible refine nI_nlt ?_ ?_); omega; omega) | with_reducible exact ne10 | with_reducible rfl)] | rw [if_neg (by first | with_reducible assumption | ((with_reducible refine nI_lt ?_ ?_); omega; omega) | ((with_reducible refine nI_nlt ?_ ?_); omega; omega) | with_reducible exact ne10 | with_reducible rfl)]))
      rfl
  · rintro i ⟨x, y, N⟩ hi ⟨rfl, rfl, f1, f2, f3⟩
    have f1 : psC N (cont o d) (mixP home i ps) := f1
    have f2 : Fr (cont o d) (cont o d + 162) M19 N := f2
    have f3 : N.2 = M.2 := f3
    obtain ⟨P, hP⟩ := get_ex hi
    have iP := hpp.2 i P hP
    have hPm := mixP_at (h := home) hP
    have pC := f1.2 i P hPm
    have eN := f1.1
    rw [mixP_len] at eN
    obtain ⟨l1, l2⟩ := e3 i (by omega)
    have l20 := l2.1
    generalize hcd0 : cont o d = cd at *
    obtain ⟨v, v1, v2⟩ := hasMove_ok (t := 1) (x := 0) (y := 0) (ti := 1) (a := 0) (b := 0) l2 pC rfl rfl rfl
    generalize hN2 : pI (pI (pI N (cd + 2 + 4 * i) 1 1) (cd + 2 + 4 * i) 2 0) (cd + 2 + 4 * i) 3 0 = N2
    have f9 : Fr (cd + 2 + 4 * i) (cd + 2 + 4 * i + 4) N N2 := by rw [← hN2]; exact ((Fr.rf.pI (by omega) (by omega)).pI (by omega) (by omega)).pI (by omega) (by omega)
    have p9 : pcC N2 (cd + 2 + 4 * i) (home P) := by
      obtain ⟨⟨u1, u2⟩, u3, u4, u5, u6⟩ := pC
      have en : ∀ b, b ≠ cd + 2 + 4 * i → N2.1 b = N.1 b := fun b hb => by rw [← hN2, pI_n hb, pI_n hb, pI_n hb]
      exact ⟨⟨by rw [en _ (by omega)]; exact u1, fun j q hq => by rw [en _ (by omega), en _ (by omega)]; exact u2 j q hq⟩, by rw [← hN2, pI_k (by decide), pI_k (by decide), pI_s]; rfl, by rw [← hN2, pI_k (by decide), pI_s]; rfl, by rw [← hN2, pI_s]; rfl, by rw [← hN2, pI_k (by decide), pI_k (by decide), pI_k (by decide)]; exact u6⟩
    have hps9 := psC_set f1 (by rw [mixP_len]; exact hi) f9 p9
    rw [mixP_set hP] at hps9
    have e42 : ∀ k, mX7_back_J42 K R N o cd k (nI i) = some (.inl (k, nI (i + 1), N2)) := fun k => by
      unfold mX7_back_J42
      (repeat (first | rw [ck_t (by first | with_reducible assumption | ((with_reducible apply ixA_of); (with_reducible assumption); omega; omega) | ((with_reducible apply isAr_of); (with_reducible assumption); decide) | ((with_reducible apply nI_ne0); omega; omega) | with_reducible exact isB_0 | with_reducible exact isB_1 | with_reducible exact isB_bI _)] | rw [bd_r (by with_reducible assumption)] | rw [bd_s] | rw [bd2_s] | rw [bd3_s] | rw [nm_s] | rw [nI_clamp (by omega)] | rw [nI_1] | rw [bd_e (setMove_ok l20)] | rw [hN2] | rw [if_pos (by first | with_reducible assumption | ((with_reducible refine nI_lt ?_ ?_); omega; omega) | ((with_reducible refine nI_nlt ?_ ?_); omega; omega) | with_reducible exact ne10 | with_reducible rfl)] | rw [if_neg (by first | with_reducible assumption | ((with_reducible refine nI_lt ?_ ?_); omega; omega) | ((with_reducible refine nI_nlt ?_ ?_); omega; omega) | with_reducible exact ne10 | with_reducible rfl)]))
    left
    show ∃ s', mX7_back_B13 K R o cd (lN (cntB (awN ps) i)) (nI i) N = some (.inl s') ∧ _
    have fin : ∀ k, k = cntB (awN ps) (i + 1) → mX7_back_B13 K R o cd (lN (cntB (awN ps) i)) (nI i) N = some (.inl (lN k, nI (i + 1), N2)) → ∃ s', mX7_back_B13 K R o cd (lN (cntB (awN ps) i)) (nI i) N = some (.inl s') ∧ (s'.1 = lN (cntB (awN ps) (i + 1)) ∧ s'.2.1 = nI (i + 1) ∧ psC s'.2.2 cd (mixP home (i + 1) ps) ∧ Fr cd (cd + 162) M19 s'.2.2 ∧ s'.2.2.2 = M.2) := fun k hk e => ⟨_, e, by rw [hk], rfl, hps9, f2.tr (f9.mono (by omega) (by omega)), by show N2.2 = M.2; rw [← hN2]; exact f3⟩
    rcases v2 with ⟨rfl, v2⟩ | ⟨rfl, v2⟩
    · refine fin (cntB (awN ps) i) (cntB_n (by rw [awN_of hP]; exact away_f v2)).symm ?_
      unfold mX7_back_B13
      (repeat (first | rw [ck_t (by first | with_reducible assumption | ((with_reducible apply ixA_of); (with_reducible assumption); omega; omega) | ((with_reducible apply isAr_of); (with_reducible assumption); decide) | ((with_reducible apply nI_ne0); omega; omega) | with_reducible exact isB_0 | with_reducible exact isB_1 | with_reducible exact isB_bI _)] | rw [bd_r (by with_reducible assumption)] | rw [bd_s] | rw [bd2_s] | rw [bd3_s] | rw [nm_s] | rw [nI_clamp (by omega)] | rw [nI_1] | rw [eN] | rw [bd_e (v1)] | rw [if_pos (by first | with_reducible assumption | ((with_reducible refine nI_lt ?_ ?_); omega; omega) | ((with_reducible refine nI_nlt ?_ ?_); omega; omega) | with_reducible exact ne10 | with_reducible rfl)] | rw [if_neg (by first | with_reducible assumption | ((with_reducible refine nI_lt ?_ ?_); omega; omega) | ((with_reducible refine nI_nlt ?_ ?_); omega; omega) | with_reducible exact ne10 | with_reducible rfl)]))
      exact e42 _
    · refine fin (cntB (awN ps) i + 1) (cntB_s (by rw [awN_of hP]; exact away_t v2)).symm ?_
      unfold mX7_back_B13
      (repeat (first | rw [ck_t (by first | with_reducible assumption | ((with_reducible apply ixA_of); (with_reducible assumption); omega; omega) | ((with_reducible apply isAr_of); (with_reducible assumption); decide) | ((with_reducible apply nI_ne0); omega; omega) | with_reducible exact isB_0 | with_reducible exact isB_1 | with_reducible exact isB_bI _)] | rw [bd_r (by with_reducible assumption)] | rw [bd_s] | rw [bd2_s] | rw [bd3_s] | rw [nm_s] | rw [nI_clamp (by omega)] | rw [nI_1] | rw [eN] | rw [bd_e (v1)] | rw [lN_1] | rw [if_pos (by first | with_reducible assumption | ((with_reducible refine nI_lt ?_ ?_); omega; omega) | ((with_reducible refine nI_nlt ?_ ?_); omega; omega) | with_reducible exact ne10 | with_reducible rfl)] | rw [if_neg (by first | with_reducible assumption | ((with_reducible refine nI_lt ?_ ?_); omega; omega) | ((with_reducible refine nI_nlt ?_ ?_); omega; omega) | with_reducible exact ne10 | with_reducible rfl)]))
      exact e42 _
  · rintro ⟨x, y, N⟩ ⟨rfl, rfl, f1, f2, f3⟩
    have f1 : psC N (cont o d) (mixP home ps.length ps) := f1
    have f2 : Fr (cont o d) (cont o d + 162) M19 N := f2
    have f3 : N.2 = M.2 := f3
    have eN := f1.1
    rw [mixP_len] at eN
    obtain ⟨R1, M17, c1, c2, c3, c4, c5, c6, c7⟩ := chg hs0 hm hw hc ho hx hAll f1 (fun b hb h => by rw [(f2 b h).1, (d3 b h).1]) f3 (fun b hb => by rw [(f2 b (by omega)).1, (d3 b (by omega)).1])
    obtain ⟨N', n1, n2, n3⟩ := c7 M17 [] [] FM.rf (by decide) (by decide) (by decide) (fun j hj => by cases hj)
    have hq17 : psM (M17.2 (o + 2118 + 1)) 0 ps := by rw [c5]; exact hq6
    refine ⟨(lN (cntB (awN ps) ps.length), R1, M17), ?_, R1, M17, rfl, N', n1, c4, hq17.fr n2 (by decide), fun M2 hF hp => n3 M2 [] [1] hF (by decide) (by decide) (by decide) (fun j hj => Or.inl (List.mem_singleton.mp hj)) hp⟩
    show mX7_back_B13 K R o (cont o d) (lN (cntB (awN ps) ps.length)) (nI ps.length) N = _
    unfold mX7_back_B13
    (repeat (first | rw [ck_t (by first | with_reducible assumption | ((with_reducible apply ixA_of); (with_reducible assumption); omega; omega) | ((with_reducible apply isAr_of); (with_reducible assumption); decide) | ((with_reducible apply nI_ne0); omega; omega) | with_reducible exact isB_0 | with_reducible exact isB_1 | with_reducible exact isB_bI _)] | rw [bd_r (by with_reducible assumption)] | rw [bd_s] | rw [bd2_s] | rw [bd3_s] | rw [nm_s] | rw [nI_clamp (by omega)] | rw [nI_1] | rw [eN] | rw [bd2_e (c1)] | rw [if_pos (by first | with_reducible assumption | ((with_reducible refine nI_lt ?_ ?_); omega; omega) | ((with_reducible refine nI_nlt ?_ ?_); omega; omega) | with_reducible exact ne10 | with_reducible rfl)] | rw [if_neg (by first | with_reducible assumption | ((with_reducible refine nI_lt ?_ ?_); omega; omega) | ((with_reducible refine nI_nlt ?_ ?_); omega; omega) | with_reducible exact ne10 | with_reducible rfl)]))
    rfl
