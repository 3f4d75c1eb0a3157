/-! third: all pairs, on both sides -/
noncomputable def thF (P Q : Pc) (N : List Pc) : Int64 × List Pc := @dite _ (∃ s : Int64 × List Pc, thR P Q N s.1 s.2) (Classical.propDecidable _) (fun h => Classical.choose h) (fun _ => (0, N))
theorem thF_of {P Q : Pc} {N N' : List Pc} {v : Int64} (h : thR P Q N v N') : thF P Q N = (v, N') := by
  have e : ∃ s : Int64 × List Pc, thR P Q N s.1 s.2 := ⟨(v, N'), h⟩
  unfold thF
  rw [dif_pos e]
  obtain ⟨e1, e2⟩ := (Classical.choose_spec e).un h
  exact Prod.ext e1 e2
noncomputable def gq (ps : List Pc) (i : Nat) : Pc := (ps[i]?).getD ([], 0, 0, 0, false)
theorem gq_of {ps : List Pc} {i : Nat} {P : Pc} (h : ps[i]? = some P) : gq ps i = P := by unfold gq; rw [h]; rfl
theorem gq_get {ps : List Pc} {i : Nat} (h : i < ps.length) : ps[i]? = some (gq ps i) := by obtain ⟨P, hP⟩ := get_ex h; rw [gq_of hP]; exact hP
noncomputable def cellF (s : Int64 × List Pc) (P Q : Pc) : Int64 × List Pc := if s.1 = 0 then thF P Q s.2 else s
noncomputable def rowF (P : Pc) (qs : List Pc) (s : Int64 × List Pc) : Nat → Int64 × List Pc
  | 0 => s
  | j + 1 => cellF (rowF P qs s j) P (gq qs j)
noncomputable def allF (ps qs : List Pc) : Nat → Int64 × List Pc
  | 0 => (0, [])
  | i + 1 => rowF (gq ps i) qs (allF ps qs i) qs.length
theorem rowF_st {P : Pc} {qs : List Pc} {s : Int64 × List Pc} {j : Nat} (h : (rowF P qs s j).1 ≠ 0) : ∀ d, rowF P qs s (j + d) = rowF P qs s j
  | 0 => rfl
  | d + 1 => by
    show cellF (rowF P qs s (j + d)) P (gq qs (j + d)) = _
    rw [rowF_st h d]
    unfold cellF
    rw [if_neg h]
theorem allF_st {ps qs : List Pc} {i : Nat} (h : (allF ps qs i).1 ≠ 0) : ∀ d, allF ps qs (i + d) = allF ps qs i
  | 0 => rfl
  | d + 1 => by
    show rowF (gq ps (i + d)) qs (allF ps qs (i + d)) qs.length = _
    rw [allF_st h d]
    have := rowF_st (P := gq ps (i + d)) (qs := qs) (s := allF ps qs i) (j := 0) h qs.length
    rw [Nat.zero_add] at this
    exact this
theorem rowF_s {P : Pc} {qs : List Pc} {s : Int64 × List Pc} {j : Nat} {v : Int64} {N' : List Pc} (h0 : (rowF P qs s j).1 = 0) (h : thR P (gq qs j) (rowF P qs s j).2 v N') : rowF P qs s (j + 1) = (v, N') := by
  show cellF (rowF P qs s j) P (gq qs j) = _
  unfold cellF
  rw [if_pos h0, thF_of h]
theorem thR.ps {P Q : Pc} {N N' : List Pc} {v : Int64} (h : thR P Q N v N') (iP : isPc P) (iQ : isPc Q) (hN : isPs N) : isPs N' := by
  rcases h with ⟨-, -, rfl⟩ | ⟨-, -, -, rfl⟩ | ⟨ov, hX, L, hL, ⟨-, -, rfl⟩ | ⟨-, -, -, -, rfl⟩ | ⟨l16, l40, hI, -, rfl⟩⟩
  · exact hN
  · exact hN
  · exact hN
  · exact hN
  · obtain ⟨l3, cL, hin, -⟩ := (th_geo iP iQ ov hX).2 L hL
    refine ⟨by rw [List.length_append, List.length_singleton]; omega, fun i q hq => ?_⟩
    rcases get_app hq with ⟨-, hq⟩ | ⟨-, rfl⟩
    · exact hN.2 i q hq
    · exact (thP_ok iP iQ cL l3 l16 hin).2.2.2.2 hI
section TJ
variable {K : Kk} {R : Rr} {M : Mm} {o : Nat}
noncomputable def finC (K : Kk) (R : Rr) (o cd : Nat) (N : Mm) : Option (Int64 × Rr × Mm) := bd (R o 2) fun q20 => ck (isO K q20 1) <| bd2 (mX1_keepDraft K R N q20) fun R21 M22 => ck (isO K cd 4) <| some ((M22.1 cd 1).toInt64, R21, M22)
theorem thirdC_ok {c cd qa : Nat} {ps qs : List Pc} (hs : skC K R o) (hcA : psA K R c) (hcd : psA K R cd) (hqA : psA K R qa) (c1 : o + 22 ≤ c) (c2 : c + 162 ≤ o + 1318) (d1 : o + 22 ≤ cd) (d2 : cd + 162 ≤ o + 1318) (cd3 : c + 162 ≤ cd ∨ cd + 162 ≤ c) (q1 : o + 1318 ≤ qa) (q2 : qa + 162 ≤ o + 1967) (hps : psC M c ps) (hqs : psC M qa qs) (ip : isPs ps) (iq : isPs qs) (h0 : psC M cd []) (hfin : ∀ N, FT o cd M N → psC N cd (allF ps qs ps.length).2 → isPs (allF ps qs ps.length).2 → ∃ r, finC K R o cd N = some r) :
    ∃ r, lp (mX7_third_L51 K R o c qa cd) (0, M) = some r ∧ ((∃ v N, v ≠ 0 ∧ (allF ps qs ps.length).1 = v ∧ FT o cd M N ∧ r = (v, R, N)) ∨ ∃ N, (allF ps qs ps.length).1 = 0 ∧ FT o cd M N ∧ psC N cd (allF ps qs ps.length).2 ∧ isPs (allF ps qs ps.length).2 ∧ finC K R o cd N = some r) := by
  obtain ⟨x0, x1, x2, x3⟩ := hcA
  have hcd0 := hcd.1
  obtain ⟨y0, y1, y2, y3⟩ := hqA
  have p40 := ip.1
  have q40 := iq.1
  have eps : ∀ N, FT o cd M N → psC N c ps := fun N f => hps.ev p40 (fun b h1 h2 => f.1 b (by omega) (by omega))
  have eqs : ∀ N, FT o cd M N → psC N qa qs := fun N f => hqs.ev q40 (fun b h1 h2 => f.1 b (by omega) (by omega))
  have hL := lp_ind (f := mX7_third_L51 K R o c qa cd) (fun (i : Nat) (s : Int32 × Mm) => s.1 = nI i ∧ FT o cd M s.2 ∧ (allF ps qs i).1 = 0 ∧ psC s.2 cd (allF ps qs i).2 ∧ isPs (allF ps qs i).2) (fun r => (∃ v N, v ≠ 0 ∧ (allF ps qs ps.length).1 = v ∧ FT o cd M N ∧ r = (v, R, N)) ∨ ∃ N, (allF ps qs ps.length).1 = 0 ∧ FT o cd M N ∧ psC N cd (allF ps qs ps.length).2 ∧ isPs (allF ps qs ps.length).2 ∧ finC K R o cd N = some r) ps.length ?_ ?_
  · exact hL ps.length 0 (nI 0, M) (by omega) ⟨rfl, FT.rf, rfl, h0, by show isPs []; exact ⟨by simp, fun i p hp => by cases hp⟩⟩
  · rintro i ⟨z, N⟩ hi ⟨rfl, f1, f2, f3, f4⟩
    have f1 : FT o cd M N := f1
    have f3 : psC N cd (allF ps qs i).2 := f3
    have e : N.1 c 1 = nI ps.length := (eps N f1).1
    have hP := gq_get hi
    have iP := ip.2 _ _ hP
    obtain ⟨xi, xa⟩ := x3 i (by omega)
    have ixc : ixA K (c + 1) 5 (nI i) := ixA_of x2 (by omega) (by decide)
    have hI := lp_ind (f := mX7_third_L63 K R o c qa cd (nI i)) (fun (j : Nat) (s : Int32 × Mm) => s.1 = nI j ∧ FT o cd M s.2 ∧ (rowF (gq ps i) qs (allF ps qs i) j).1 = 0 ∧ psC s.2 cd (rowF (gq ps i) qs (allF ps qs i) j).2 ∧ isPs (rowF (gq ps i) qs (allF ps qs i) j).2) (fun r => (∃ N, r = .inl (nI (i + 1), N) ∧ FT o cd M N ∧ (allF ps qs (i + 1)).1 = 0 ∧ psC N cd (allF ps qs (i + 1)).2 ∧ isPs (allF ps qs (i + 1)).2) ∨ ∃ v N, r = .inr (v, R, N) ∧ v ≠ 0 ∧ (allF ps qs (i + 1)).1 = v ∧ FT o cd M N) qs.length ?_ ?_
    · obtain ⟨r, e1, e2⟩ := hI qs.length 0 (nI 0, N) (by omega) ⟨rfl, f1, f2, f3, f4⟩
      have J : mX7_third_B51 K R o c qa cd (nI i) N = some r := by
        unfold mX7_third_B51
        (repeat (first | rw [ck_t (by first | with_reducible assumption | ((with_reducible apply ixA_of); (with_reducible assumption); omega; omega) | ((with_reducible apply isAr_of); (with_reducible assumption); decide) | ((with_reducible apply nI_ne0); omega; omega) | with_reducible exact isB_0 | with_reducible exact isB_1 | with_reducible exact isB_bI _)] | rw [bd_r (by with_reducible assumption)] | rw [bd_s] | rw [bd2_s] | rw [bd3_s] | rw [nm_s] | rw [nI_clamp (by omega)] | rw [nI_1] | rw [e] | rw [if_pos (by first | with_reducible assumption | ((with_reducible refine nI_lt ?_ ?_); omega; omega) | ((with_reducible refine nI_nlt ?_ ?_); omega; omega) | with_reducible exact ne10 | with_reducible rfl)] | rw [if_neg (by first | with_reducible assumption | ((with_reducible refine nI_lt ?_ ?_); omega; omega) | ((with_reducible refine nI_nlt ?_ ?_); omega; omega) | with_reducible exact ne10 | with_reducible rfl)]))
        exact e1
      show (∃ s', mX7_third_B51 K R o c qa cd (nI i) N = some (.inl s') ∧ _) ∨ ∃ r, mX7_third_B51 K R o c qa cd (nI i) N = some (.inr r) ∧ _
      rw [J]
      rcases e2 with ⟨N', rfl, g⟩ | ⟨v, N', rfl, g1, g2, g3⟩
      · exact Or.inl ⟨_, rfl, rfl, g⟩
      · refine Or.inr ⟨_, rfl, Or.inl ⟨v, N', g1, ?_, g3, rfl⟩⟩
        have := allF_st (ps := ps) (qs := qs) (i := i + 1) (by rw [g2]; exact g1) (ps.length - (i + 1))
        rw [show i + 1 + (ps.length - (i + 1)) = ps.length by omega] at this
        rw [this]; exact g2
    · rintro j ⟨z, N⟩ hj ⟨rfl, f1, f2, f3, f4⟩
      have f1 : FT o cd M N := f1
      have f3 : psC N cd (rowF (gq ps i) qs (allF ps qs i) j).2 := f3
      have hQ := gq_get hj
      have iQ := iq.2 _ _ hQ
      obtain ⟨yj, ya⟩ := y3 j (by omega)
      have e : N.1 qa 1 = nI qs.length := (eqs N f1).1
      have ixq : ixA K (qa + 1) 5 (nI j) := ixA_of y2 (by omega) (by decide)
      have ixc : ixA K (c + 1) 5 (nI i) := ixA_of x2 (by omega) (by decide)
      obtain ⟨v, N2, N', g1, g2, g3, g4⟩ := addCommon_ok (M := N) (pa := c + 2 + 4 * i) (qa := qa + 2 + 4 * j) hs hcd d1 d2 xa (by omega) (by omega) (by omega) ya (by omega) (by omega) (by omega) ((eps N f1).2 _ _ hP) ((eqs N f1).2 _ _ hQ) iP iQ f3 f4.fit
      have rs := rowF_s f2 g3
      have i4 := g3.ps iP iQ f4
      show (∃ s', mX7_third_B63 K R o c qa cd (nI i) (nI j) N = some (.inl s') ∧ _) ∨ ∃ r, mX7_third_B63 K R o c qa cd (nI i) (nI j) N = some (.inr r) ∧ _
      unfold mX7_third_B63
      by_cases v0 : v = 0
      · left
        subst v0
        refine ⟨(nI (j + 1), N2), by (repeat (first | rw [ck_t (by first | with_reducible assumption | ((with_reducible apply ixA_of); (with_reducible assumption); omega; omega) | ((with_reducible apply isAr_of); (with_reducible assumption); decide) | ((with_reducible apply nI_ne0); omega; omega) | with_reducible exact isB_0 | with_reducible exact isB_1 | with_reducible exact isB_bI _)] | rw [bd_r (by with_reducible assumption)] | rw [bd_s] | rw [bd2_s] | rw [bd3_s] | rw [nm_s] | rw [nI_clamp (by omega)] | rw [nI_1] | rw [e] | rw [bd2_e (g1)] | rw [if_pos (by first | with_reducible assumption | ((with_reducible refine nI_lt ?_ ?_); omega; omega) | ((with_reducible refine nI_nlt ?_ ?_); omega; omega) | with_reducible exact ne10 | with_reducible rfl)] | rw [if_neg (by first | with_reducible assumption | ((with_reducible refine nI_lt ?_ ?_); omega; omega) | ((with_reducible refine nI_nlt ?_ ?_); omega; omega) | with_reducible exact ne10 | with_reducible rfl)])), rfl, f1.tr g2, by rw [rs], by rw [rs]; exact g4, by rw [rs]; exact i4⟩
      · right
        refine ⟨.inr (v, R, N2), by (repeat (first | rw [ck_t (by first | with_reducible assumption | ((with_reducible apply ixA_of); (with_reducible assumption); omega; omega) | ((with_reducible apply isAr_of); (with_reducible assumption); decide) | ((with_reducible apply nI_ne0); omega; omega) | with_reducible exact isB_0 | with_reducible exact isB_1 | with_reducible exact isB_bI _)] | rw [bd_r (by with_reducible assumption)] | rw [bd_s] | rw [bd2_s] | rw [bd3_s] | rw [nm_s] | rw [nI_clamp (by omega)] | rw [nI_1] | rw [e] | rw [bd2_e (g1)] | rw [if_neg (v0)] | rw [if_pos (by first | with_reducible assumption | ((with_reducible refine nI_lt ?_ ?_); omega; omega) | ((with_reducible refine nI_nlt ?_ ?_); omega; omega) | with_reducible exact ne10 | with_reducible rfl)] | rw [if_neg (by first | with_reducible assumption | ((with_reducible refine nI_lt ?_ ?_); omega; omega) | ((with_reducible refine nI_nlt ?_ ?_); omega; omega) | with_reducible exact ne10 | with_reducible rfl)])); rfl, Or.inr ⟨v, N2, rfl, v0, ?_, f1.tr g2⟩⟩
        have := rowF_st (P := gq ps i) (qs := qs) (s := allF ps qs i) (j := j + 1) (by rw [rs]; exact v0) (qs.length - (j + 1))
        rw [show j + 1 + (qs.length - (j + 1)) = qs.length by omega, rs] at this
        show (rowF (gq ps i) qs (allF ps qs i) qs.length).1 = v
        rw [this]
    · rintro ⟨z, N⟩ ⟨rfl, f1, f2, f3, f4⟩
      have f1 : FT o cd M N := f1
      have e : N.1 qa 1 = nI qs.length := (eqs N f1).1
      refine ⟨.inl (nI (i + 1), N), ?_, Or.inl ⟨N, rfl, f1, f2, f3, f4⟩⟩
      show mX7_third_B63 K R o c qa cd (nI i) (nI qs.length) N = _
      unfold mX7_third_B63
      (repeat (first | rw [ck_t (by first | with_reducible assumption | ((with_reducible apply ixA_of); (with_reducible assumption); omega; omega) | ((with_reducible apply isAr_of); (with_reducible assumption); decide) | ((with_reducible apply nI_ne0); omega; omega) | with_reducible exact isB_0 | with_reducible exact isB_1 | with_reducible exact isB_bI _)] | rw [bd_r (by with_reducible assumption)] | rw [bd_s] | rw [bd2_s] | rw [bd3_s] | rw [nm_s] | rw [nI_clamp (by omega)] | rw [nI_1] | rw [e] | rw [if_pos (by first | with_reducible assumption | ((with_reducible refine nI_lt ?_ ?_); omega; omega) | ((with_reducible refine nI_nlt ?_ ?_); omega; omega) | with_reducible exact ne10 | with_reducible rfl)] | rw [if_neg (by first | with_reducible assumption | ((with_reducible refine nI_lt ?_ ?_); omega; omega) | ((with_reducible refine nI_nlt ?_ ?_); omega; omega) | with_reducible exact ne10 | with_reducible rfl)]))
      rfl
  · rintro ⟨z, N⟩ ⟨rfl, f1, f2, f3, f4⟩
    have f1 : FT o cd M N := f1
    have f3 : psC N cd (allF ps qs ps.length).2 := f3
    have e : N.1 c 1 = nI ps.length := (eps N f1).1
    obtain ⟨r, hr⟩ := hfin N f1 f3 f4
    refine ⟨r, ?_, Or.inr ⟨N, f2, f1, f3, f4, hr⟩⟩
    show mX7_third_B51 K R o c qa cd (nI ps.length) N = _
    unfold mX7_third_B51
    unfold finC at hr
    rw [ck_t x0, e, if_neg (nI_nlt (Nat.le_refl _) (by omega)), hr]
    rfl
end TJ
section TK
variable {K : Kk} {R : Rr} {M : Mm} {m : Nat}
abbrev FX (m : Nat) (M N : Mm) : Prop := FM m [15, 18, 21, 24, 36] [11, 12, 13, 14, 15, 16, 17, 18, 24, 25] M N
theorem cellM_ok {i j k : Nat} {ps N : List Pc} {P Q : Pc} {i13 : Int32} (hm : moA K R m) (hps : psM (M.2 (m + 1)) 0 ps) (ip : isPs ps) (hP : ps[i]? = some P) (hk : k < 4) (hj : j < 40) (hQ : pcM (M.2 (m + 4)) (1481 * k + 37 * j) Q) (iQ : isPc Q) (hN : psM (M.2 (m + 24)) 0 N) (hf : fitP N) (hlt : nI j < i13) :
    ∃ v M' N', thR P Q N v N' ∧ FX m M M' ∧ psM (M'.2 (m + 24)) 0 N' ∧ ((v = 0 ∧ mX8_third_B80 K R m (nI k) i13 (nI i) (nI j) M = some (.inl (nI (j + 1), M'))) ∨ (v ≠ 0 ∧ mX8_third_B80 K R m (nI k) i13 (nI i) (nI j) M = some (.inr (.inr (v, M'))))) := by
  have iP := ip.2 i P hP
  obtain ⟨-, cP, -, pl, pB⟩ := plc_ok iP
  have p3 := plc3 iP
  have p16 := iP.1.2.1
  obtain ⟨q3, q16, cQ, -, bQ⟩ := id iQ.1
  obtain ⟨M1, a1, a2, a3⟩ := lookA_ok hm hps hP ip.1 iP
  have s4 := a3.ar 4 (by decide)
  obtain ⟨M2, b1, b2, b3⟩ := lookPlan_ok (M := M1) (k := k) (j := j) hm hk hj (by rw [s4]; exact hQ) q16
  have a2' := a2.fr b3 (by decide) (by decide) (by decide)
  obtain ⟨M3, c1, c2, c3⟩ := inBoth_ok (M := M2) hm a2' b2 (by omega) q16 p3 cP (inBs_of pB) iQ.1.B
  have F3 : FM m [15, 18, 21, 24, 36] [11, 12, 13, 14, 15, 16, 17, 18] M M3 := ((a3.mo (by decide) (by decide)).tr (b3.mo (by decide) (by decide))).tr (c2.mo (by decide) (by decide))
  have F3x : FX m M M3 := F3.mo (by decide) (by decide)
  have N3 : psM (M3.2 (m + 24)) 0 N := by rw [F3.ar 24 (by decide)]; exact hN
  have skip : ∀ M', mX8_third_J141 K R M' m (nI k) i13 (nI i) (nI j) = some (.inl (nI (j + 1), M')) := fun M' => by unfold mX8_third_J141; (repeat (first | rw [ck_t (by first | with_reducible assumption | ((with_reducible apply ixA_of); (with_reducible assumption); omega; omega) | ((with_reducible apply isAr_of); (with_reducible assumption); decide) | ((with_reducible apply nI_ne0); omega; omega) | with_reducible exact isB_0 | with_reducible exact isB_1 | with_reducible exact isB_bI _)] | rw [bd_r (by with_reducible assumption)] | rw [bd_s] | rw [bd2_s] | rw [bd3_s] | rw [nm_s] | rw [nI_clamp (by omega)] | rw [nI_1] | rw [if_pos (by first | with_reducible assumption | ((with_reducible refine nI_lt ?_ ?_); omega; omega) | ((with_reducible refine nI_nlt ?_ ?_); omega; omega) | with_reducible exact ne10 | with_reducible rfl)] | rw [if_neg (by first | with_reducible assumption | ((with_reducible refine nI_lt ?_ ?_); omega; omega) | ((with_reducible refine nI_nlt ?_ ?_); omega; omega) | with_reducible exact ne10 | with_reducible rfl)]))
  by_cases ov : ovr (plc P) Q.1
  · rcases c3 with ⟨hX, d1, L, d2, d3⟩ | ⟨hX, d1⟩
    · obtain ⟨⟨L0, hL0⟩, geo⟩ := th_geo iP iQ ov hX
      have hL : GW (thS P Q) L := by
        rcases d3 with d3 | ⟨d3, -⟩
        · exact d3
        · obtain ⟨f, -, h, -⟩ := hL0
          have h : f ∈ aS (plc P) Q.1 := h
          rw [d3] at h; cases h
      obtain ⟨l3, cL, hin, bL⟩ := geo L hL
      have l64 := nd_len L (aS (plc P) Q.1) (GW_ds hL) (GW_in hL)
      have s64 := aS_len (A := plc P) cQ (by omega) q16
      obtain ⟨v, M4, N', e1, e2, e3, e4, e5⟩ := layM_ok (M := M3) (a1 := nI k) (a2 := nI j) hm (hps.fr F3 (by decide)) hP ip (g := 1481 * k + 37 * j) (by omega) (ixS k j) (by rw [F3.ar 4 (by decide)]; exact hQ) iQ N3 hf d2 (by omega) cL l3 hin bL
      have F4 : FX m M M4 := by
        refine ⟨fun b hb => (e2.1 b hb).trans (F3.1 b hb), fun t ht => (e2.2.1 t (fun z => by cases z)).trans (F3.2.1 t ht), fun b hb => ?_⟩
        by_cases w : b = m + 1
        · rw [w, e3, F3.ar 1 (by decide)]
        · rw [e2.2.2 b (fun t ht => by
            rcases List.mem_cons.mp ht with rfl | ht
            · exact w
            · exact hb t ((by decide : ∀ k : Nat, k ∈ [17, 18, 24, 25] → k ∈ [11, 12, 13, 14, 15, 16, 17, 18, 24, 25]) t ht)), F3.2.2 b (fun t ht => hb t ((by decide : ∀ k : Nat, k ∈ [11, 12, 13, 14, 15, 16, 17, 18] → k ∈ [11, 12, 13, 14, 15, 16, 17, 18, 24, 25]) t ht))]
      have nlt : ¬ nI L.length < 3 := nI_nlt (b := 3) l3 (by omega)
      refine ⟨v, M4, N', Or.inr (Or.inr ⟨ov, hX, L, hL, e5⟩), F4, e4, ?_⟩
      have eL := d2.1
      unfold mX8_third_B80
      by_cases v0 : v = 0
      · refine Or.inl ⟨v0, ?_⟩
        (repeat (first | rw [ck_t (by first | with_reducible assumption | ((with_reducible apply ixA_of); (with_reducible assumption); omega; omega) | ((with_reducible apply isAr_of); (with_reducible assumption); decide) | ((with_reducible apply nI_ne0); omega; omega) | with_reducible exact isB_0 | with_reducible exact isB_1 | with_reducible exact isB_bI _)] | rw [bd_r (by with_reducible assumption)] | rw [bd_s] | rw [bd2_s] | rw [bd3_s] | rw [nm_s] | rw [nI_clamp (by omega)] | rw [nI_1] | rw [if_pos (hlt)] | rw [bd_e (a1)] | rw [bd_e (b1)] | rw [bd_e (c1)] | rw [if_pos (d1)] | rw [eL] | rw [if_neg (nlt)] | rw [bd2_e (e1)] | rw [if_pos (v0)] | rw [skip M4] | rw [if_pos (by first | with_reducible assumption | ((with_reducible refine nI_lt ?_ ?_); omega; omega) | ((with_reducible refine nI_nlt ?_ ?_); omega; omega) | with_reducible exact ne10 | with_reducible rfl)] | rw [if_neg (by first | with_reducible assumption | ((with_reducible refine nI_lt ?_ ?_); omega; omega) | ((with_reducible refine nI_nlt ?_ ?_); omega; omega) | with_reducible exact ne10 | with_reducible rfl)]))
      · refine Or.inr ⟨v0, ?_⟩
        (repeat (first | rw [ck_t (by first | with_reducible assumption | ((with_reducible apply ixA_of); (with_reducible assumption); omega; omega) | ((with_reducible apply isAr_of); (with_reducible assumption); decide) | ((with_reducible apply nI_ne0); omega; omega) | with_reducible exact isB_0 | with_reducible exact isB_1 | with_reducible exact isB_bI _)] | rw [bd_r (by with_reducible assumption)] | rw [bd_s] | rw [bd2_s] | rw [bd3_s] | rw [nm_s] | rw [nI_clamp (by omega)] | rw [nI_1] | rw [if_pos (hlt)] | rw [bd_e (a1)] | rw [bd_e (b1)] | rw [bd_e (c1)] | rw [if_pos (d1)] | rw [eL] | rw [if_neg (nlt)] | rw [bd2_e (e1)] | rw [if_neg (v0)] | rw [if_pos (by first | with_reducible assumption | ((with_reducible refine nI_lt ?_ ?_); omega; omega) | ((with_reducible refine nI_nlt ?_ ?_); omega; omega) | with_reducible exact ne10 | with_reducible rfl)] | rw [if_neg (by first | with_reducible assumption | ((with_reducible refine nI_lt ?_ ?_); omega; omega) | ((with_reducible refine nI_nlt ?_ ?_); omega; omega) | with_reducible exact ne10 | with_reducible rfl)]))
        rfl
    · refine ⟨-9000000000000000004, M3, N, Or.inr (Or.inl ⟨ov, hX, rfl, rfl⟩), F3x, N3, Or.inr ⟨by decide, ?_⟩⟩
      unfold mX8_third_B80
      (repeat (first | rw [ck_t (by first | with_reducible assumption | ((with_reducible apply ixA_of); (with_reducible assumption); omega; omega) | ((with_reducible apply isAr_of); (with_reducible assumption); decide) | ((with_reducible apply nI_ne0); omega; omega) | with_reducible exact isB_0 | with_reducible exact isB_1 | with_reducible exact isB_bI _)] | rw [bd_r (by with_reducible assumption)] | rw [bd_s] | rw [bd2_s] | rw [bd3_s] | rw [nm_s] | rw [nI_clamp (by omega)] | rw [nI_1] | rw [if_pos (hlt)] | rw [bd_e (a1)] | rw [bd_e (b1)] | rw [bd_e (c1)] | rw [if_neg (show ¬ M3.1 m 36 = 0 by rw [d1]; decide)] | rw [if_pos (by first | with_reducible assumption | ((with_reducible refine nI_lt ?_ ?_); omega; omega) | ((with_reducible refine nI_nlt ?_ ?_); omega; omega) | with_reducible exact ne10 | with_reducible rfl)] | rw [if_neg (by first | with_reducible assumption | ((with_reducible refine nI_lt ?_ ?_); omega; omega) | ((with_reducible refine nI_nlt ?_ ?_); omega; omega) | with_reducible exact ne10 | with_reducible rfl)]))
      rfl
  · obtain ⟨n1, n2⟩ := novr_2 cP p3 cQ q3 ov
    rcases c3 with ⟨hX, d1, L, d2, d3⟩ | ⟨hX, d1⟩
    · have l2 : L.length < 3 := by
        rcases d3 with d3 | ⟨-, rfl⟩
        · exact n2 L d3
        · decide
      have lt : nI L.length < 3 := nI_lt (b := 3) l2 (by decide)
      refine ⟨0, M3, N, Or.inl ⟨ov, rfl, rfl⟩, F3x, N3, Or.inl ⟨rfl, ?_⟩⟩
      have eL := d2.1
      unfold mX8_third_B80
      (repeat (first | rw [ck_t (by first | with_reducible assumption | ((with_reducible apply ixA_of); (with_reducible assumption); omega; omega) | ((with_reducible apply isAr_of); (with_reducible assumption); decide) | ((with_reducible apply nI_ne0); omega; omega) | with_reducible exact isB_0 | with_reducible exact isB_1 | with_reducible exact isB_bI _)] | rw [bd_r (by with_reducible assumption)] | rw [bd_s] | rw [bd2_s] | rw [bd3_s] | rw [nm_s] | rw [nI_clamp (by omega)] | rw [nI_1] | rw [if_pos (hlt)] | rw [bd_e (a1)] | rw [bd_e (b1)] | rw [bd_e (c1)] | rw [if_pos (d1)] | rw [eL] | rw [if_pos (lt)] | rw [skip M3] | rw [if_pos (by first | with_reducible assumption | ((with_reducible refine nI_lt ?_ ?_); omega; omega) | ((with_reducible refine nI_nlt ?_ ?_); omega; omega) | with_reducible exact ne10 | with_reducible rfl)] | rw [if_neg (by first | with_reducible assumption | ((with_reducible refine nI_lt ?_ ?_); omega; omega) | ((with_reducible refine nI_nlt ?_ ?_); omega; omega) | with_reducible exact ne10 | with_reducible rfl)]))
    · exact absurd (fun a b ha hb h => absurd h (n1 a b ha hb)) hX
noncomputable def finM (K : Kk) (R : Rr) (m : Nat) (N : Mm) : Option (Int64 × Mm) := bd (mX8_keep K R N m) fun M19 => nm (0 : Int32) fun i20 => lp (mX8_third_L159 K R m) (i20, M19)
theorem thirdM_ok {k : Nat} {ps qs : List Pc} (hm : moA K R m) (hps : psM (M.2 (m + 1)) 0 ps) (ip : isPs ps) (hk : k < 4) (hqs : psM (M.2 (m + 4)) (1481 * k) qs) (iq : isPs qs) (hfin : ∀ N, (allF ps qs ps.length).1 = 0 → FX m M N → psM (N.2 (m + 24)) 0 (allF ps qs ps.length).2 → isPs (allF ps qs ps.length).2 → ∃ r, finM K R m N = some r) :
    ∃ r, lp (mX8_third_L31 K R m (nI k)) (0, M) = some r ∧ ((∃ v N, v ≠ 0 ∧ (allF ps qs ps.length).1 = v ∧ FX m M N ∧ r = (v, N)) ∨ ∃ N, (allF ps qs ps.length).1 = 0 ∧ FX m M N ∧ psM (N.2 (m + 24)) 0 (allF ps qs ps.length).2 ∧ isPs (allF ps qs ps.length).2 ∧ finM K R m N = some r) := by
  have h0 := hm.1
  have r37 := mo_r37 hm
  have a37 := mo_a37 hm
  have r5 := mo_r5 hm
  have a5 := mo_a5 hm
  have p40 := ip.1
  have q40 := iq.1
  have ePs : ∀ N, FX m M N → psM (N.2 (m + 1)) 0 ps := fun N f => hps.fr f (by decide)
  have ePc : ∀ N, FX m M N → ∀ j, j < qs.length → pcM (N.2 (m + 4)) (1481 * k + 37 * j) (gq qs j) := fun N f j hj => by rw [f.ar 4 (by decide)]; exact hqs.2 j _ (gq_get hj)
  -- the loops over the pairs
  have pairs : ∀ N0, FX m M N0 → psM (N0.2 (m + 24)) 0 [] → ∃ r, lp (mX8_third_L69 K R m (nI k) (nI qs.length)) (0, N0) = some r ∧ ((∃ v N, v ≠ 0 ∧ (allF ps qs ps.length).1 = v ∧ FX m M N ∧ r = (v, N)) ∨ ∃ N, (allF ps qs ps.length).1 = 0 ∧ FX m M N ∧ psM (N.2 (m + 24)) 0 (allF ps qs ps.length).2 ∧ isPs (allF ps qs ps.length).2 ∧ finM K R m N = some r) := fun N0 g0 g1 => by
    have hL := lp_ind (f := mX8_third_L69 K R m (nI k) (nI qs.length)) (fun (i : Nat) (s : Int32 × Mm) => s.1 = nI i ∧ FX m M s.2 ∧ (allF ps qs i).1 = 0 ∧ psM (s.2.2 (m + 24)) 0 (allF ps qs i).2 ∧ isPs (allF ps qs i).2) (fun r => (∃ v N, v ≠ 0 ∧ (allF ps qs ps.length).1 = v ∧ FX m M N ∧ r = (v, N)) ∨ ∃ N, (allF ps qs ps.length).1 = 0 ∧ FX m M N ∧ psM (N.2 (m + 24)) 0 (allF ps qs ps.length).2 ∧ isPs (allF ps qs ps.length).2 ∧ finM K R m N = some r) ps.length ?_ ?_
    · exact hL ps.length 0 (nI 0, N0) (by omega) ⟨rfl, g0, rfl, g1, by show isPs []; exact ⟨by simp, fun i p hp => by cases hp⟩⟩
    · rintro i ⟨z, N⟩ hi ⟨rfl, f1, f2, f3, f4⟩
      have f1 : FX m M N := f1
      have f3 : psM (N.2 (m + 24)) 0 (allF ps qs i).2 := f3
      have pc := piecesM_ok hm (ePs N f1)
      have hP := gq_get hi
      have iP := ip.2 _ _ hP
      have hI := lp_ind (f := mX8_third_L80 K R m (nI k) (nI qs.length) (nI i)) (fun (j : Nat) (s : Int32 × Mm) => s.1 = nI j ∧ FX m M s.2 ∧ (rowF (gq ps i) qs (allF ps qs i) j).1 = 0 ∧ psM (s.2.2 (m + 24)) 0 (rowF (gq ps i) qs (allF ps qs i) j).2 ∧ isPs (rowF (gq ps i) qs (allF ps qs i) j).2) (fun r => (∃ N, r = .inl (nI (i + 1), N) ∧ FX m M N ∧ (allF ps qs (i + 1)).1 = 0 ∧ psM (N.2 (m + 24)) 0 (allF ps qs (i + 1)).2 ∧ isPs (allF ps qs (i + 1)).2) ∨ ∃ v N, r = .inr (v, N) ∧ v ≠ 0 ∧ (allF ps qs (i + 1)).1 = v ∧ FX m M N) qs.length ?_ ?_
      · obtain ⟨r, e1, e2⟩ := hI qs.length 0 (nI 0, N) (by omega) ⟨rfl, f1, f2, f3, f4⟩
        have J : mX8_third_B69 K R m (nI k) (nI qs.length) (nI i) N = some r := by
          unfold mX8_third_B69
          (repeat (first | rw [ck_t (by first | with_reducible assumption | ((with_reducible apply ixA_of); (with_reducible assumption); omega; omega) | ((with_reducible apply isAr_of); (with_reducible assumption); decide) | ((with_reducible apply nI_ne0); omega; omega) | with_reducible exact isB_0 | with_reducible exact isB_1 | with_reducible exact isB_bI _)] | rw [bd_r (by with_reducible assumption)] | rw [bd_s] | rw [bd2_s] | rw [bd3_s] | rw [nm_s] | rw [nI_clamp (by omega)] | rw [nI_1] | rw [bd_e (pc)] | rw [if_pos (by first | with_reducible assumption | ((with_reducible refine nI_lt ?_ ?_); omega; omega) | ((with_reducible refine nI_nlt ?_ ?_); omega; omega) | with_reducible exact ne10 | with_reducible rfl)] | rw [if_neg (by first | with_reducible assumption | ((with_reducible refine nI_lt ?_ ?_); omega; omega) | ((with_reducible refine nI_nlt ?_ ?_); omega; omega) | with_reducible exact ne10 | with_reducible rfl)]))
          exact e1
        show (∃ s', mX8_third_B69 K R m (nI k) (nI qs.length) (nI i) N = some (.inl s') ∧ _) ∨ ∃ r, mX8_third_B69 K R m (nI k) (nI qs.length) (nI i) N = some (.inr r) ∧ _
        rw [J]
        rcases e2 with ⟨N', rfl, g⟩ | ⟨v, N', rfl, g1, g2, g3⟩
        · exact Or.inl ⟨_, rfl, rfl, g⟩
        · refine Or.inr ⟨_, rfl, Or.inl ⟨v, N', g1, ?_, g3, rfl⟩⟩
          have := allF_st (ps := ps) (qs := qs) (i := i + 1) (by rw [g2]; exact g1) (ps.length - (i + 1))
          rw [show i + 1 + (ps.length - (i + 1)) = ps.length by omega] at this
          rw [this]; exact g2
      · rintro j ⟨z, N⟩ hj ⟨rfl, f1, f2, f3, f4⟩
        have f1 : FX m M N := f1
        have f3 : psM (N.2 (m + 24)) 0 (rowF (gq ps i) qs (allF ps qs i) j).2 := f3
        have iQ := iq.2 _ _ (gq_get hj)
        obtain ⟨v, N2, N', g3, g2, g4, g1⟩ := cellM_ok (M := N) (i13 := nI qs.length) hm (ePs N f1) ip hP hk (by omega) (ePc N f1 j hj) iQ f3 f4.fit (nI_lt hj (by omega))
        have rs := rowF_s f2 g3
        have i4 := g3.ps iP iQ f4
        show (∃ s', mX8_third_B80 K R m (nI k) (nI qs.length) (nI i) (nI j) N = some (.inl s') ∧ _) ∨ ∃ r, mX8_third_B80 K R m (nI k) (nI qs.length) (nI i) (nI j) N = some (.inr r) ∧ _
        rcases g1 with ⟨v0, g1⟩ | ⟨v0, g1⟩
        · left
          subst v0
          exact ⟨(nI (j + 1), N2), g1, rfl, f1.tr g2, by rw [rs], by rw [rs]; exact g4, by rw [rs]; exact i4⟩
        · right
          refine ⟨.inr (v, N2), g1, Or.inr ⟨v, N2, rfl, v0, ?_, f1.tr g2⟩⟩
          have := rowF_st (P := gq ps i) (qs := qs) (s := allF ps qs i) (j := j + 1) (by rw [rs]; exact v0) (qs.length - (j + 1))
          rw [show j + 1 + (qs.length - (j + 1)) = qs.length by omega, rs] at this
          show (rowF (gq ps i) qs (allF ps qs i) qs.length).1 = v
          rw [this]
      · rintro ⟨z, N⟩ ⟨rfl, f1, f2, f3, f4⟩
        refine ⟨.inl (nI (i + 1), N), ?_, Or.inl ⟨N, rfl, f1, f2, f3, f4⟩⟩
        show mX8_third_B80 K R m (nI k) (nI qs.length) (nI i) (nI qs.length) N = _
        unfold mX8_third_B80
        (repeat (first | rw [ck_t (by first | with_reducible assumption | ((with_reducible apply ixA_of); (with_reducible assumption); omega; omega) | ((with_reducible apply isAr_of); (with_reducible assumption); decide) | ((with_reducible apply nI_ne0); omega; omega) | with_reducible exact isB_0 | with_reducible exact isB_1 | with_reducible exact isB_bI _)] | rw [bd_r (by with_reducible assumption)] | rw [bd_s] | rw [bd2_s] | rw [bd3_s] | rw [nm_s] | rw [nI_clamp (by omega)] | rw [nI_1] | rw [if_pos (by first | with_reducible assumption | ((with_reducible refine nI_lt ?_ ?_); omega; omega) | ((with_reducible refine nI_nlt ?_ ?_); omega; omega) | with_reducible exact ne10 | with_reducible rfl)] | rw [if_neg (by first | with_reducible assumption | ((with_reducible refine nI_lt ?_ ?_); omega; omega) | ((with_reducible refine nI_nlt ?_ ?_); omega; omega) | with_reducible exact ne10 | with_reducible rfl)]))
        rfl
    · rintro ⟨z, N⟩ ⟨rfl, f1, f2, f3, f4⟩
      have f1 : FX m M N := f1
      have f3 : psM (N.2 (m + 24)) 0 (allF ps qs ps.length).2 := f3
      have pc := piecesM_ok hm (ePs N f1)
      obtain ⟨r, hr⟩ := hfin N f2 f1 f3 f4
      refine ⟨r, ?_, Or.inr ⟨N, f2, f1, f3, f4, hr⟩⟩
      show mX8_third_B69 K R m (nI k) (nI qs.length) (nI ps.length) N = _
      unfold mX8_third_B69
      unfold finM at hr
      rw [bd_e pc, if_neg (nI_nlt (Nat.le_refl _) (by omega)), hr]
      rfl
  -- the new ones are none
  have run0 := lp_run (f := mX8_third_L31 K R m (nI k)) (fun (i : Nat) (s : Int32 × Mm) => s.1 = nI i ∧ FM m [] [24] M s.2 ∧ ∀ t, t < i → s.2.2 (m + 24) t = 0) 1481 (by
    rintro i ⟨z, N⟩ hi ⟨rfl, f1, f2⟩
    have f1 : FM m [] [24] M N := f1
    have f2 : ∀ t, t < i → N.2 (m + 24) t = 0 := f2
    have lt : nI i < 1481 := nI_lt (b := 1481) hi (by decide)
    refine ⟨(nI (i + 1), pL N (m + 24) i 0), ?_, rfl, f1.pL (by decide), fun t ht => ?_⟩
    · show mX8_third_B31 K R m (nI k) (nI i) N = _
      unfold mX8_third_B31
      (repeat (first | rw [ck_t (by first | with_reducible assumption | ((with_reducible apply ixA_of); (with_reducible assumption); omega; omega) | ((with_reducible apply isAr_of); (with_reducible assumption); decide) | ((with_reducible apply nI_ne0); omega; omega) | with_reducible exact isB_0 | with_reducible exact isB_1 | with_reducible exact isB_bI _)] | rw [bd_r (by with_reducible assumption)] | rw [bd_s] | rw [bd2_s] | rw [bd3_s] | rw [nm_s] | rw [nI_clamp (by omega)] | rw [nI_1] | rw [if_pos (lt)] | rw [if_pos (by first | with_reducible assumption | ((with_reducible refine nI_lt ?_ ?_); omega; omega) | ((with_reducible refine nI_nlt ?_ ?_); omega; omega) | with_reducible exact ne10 | with_reducible rfl)] | rw [if_neg (by first | with_reducible assumption | ((with_reducible refine nI_lt ?_ ?_); omega; omega) | ((with_reducible refine nI_nlt ?_ ?_); omega; omega) | with_reducible exact ne10 | with_reducible rfl)]))
    · show (pL N _ _ _).2 _ t = _
      by_cases w : t = i
      · subst w; rw [pL_s]
      · rw [pL_k w]; exact f2 t (by omega))
  obtain ⟨⟨z, N0⟩, u1, rfl, u2, u3⟩ := run0 1481 0 (nI 0, M) (by omega) ⟨rfl, FM.rf, fun t ht => absurd ht (by omega)⟩
  have u2 : FM m [] [24] M N0 := u2
  have u3 : ∀ t, t < 1481 → N0.2 (m + 24) t = 0 := u3
  obtain ⟨r, v1, v2⟩ := pairs N0 (u2.mo (by decide) (by decide)) ⟨by rw [Nat.zero_add, u3 1480 (by omega)]; rfl, fun i p hp => by cases hp⟩
  refine ⟨r, ?_, v2⟩
  rw [show lp (mX8_third_L31 K R m (nI k)) (0, M) = _ from u1]
  refine lp_out ?_
  show mX8_third_B31 K R m (nI k) (nI 1481) N0 = _
  have e4 := u2.ar 4 (by decide)
  have q1480 := hqs.1
  have ex : (1481 : Int32) * nI k + 1480 = nI (1481 * k + 1480) := ixN (b := 1480) (by omega) (by decide)
  have ix : ixA K (m + 4) 1 (nI (1481 * k + 1480)) := ixA_of a5 (by omega) (by decide)
  unfold mX8_third_B31
  (repeat (first | rw [ck_t (by first | with_reducible assumption | ((with_reducible apply ixA_of); (with_reducible assumption); omega; omega) | ((with_reducible apply isAr_of); (with_reducible assumption); decide) | ((with_reducible apply nI_ne0); omega; omega) | with_reducible exact isB_0 | with_reducible exact isB_1 | with_reducible exact isB_bI _)] | rw [bd_r (by with_reducible assumption)] | rw [bd_s] | rw [bd2_s] | rw [bd3_s] | rw [nm_s] | rw [nI_clamp (by omega)] | rw [nI_1] | rw [if_neg ((show ¬ nI 1481 < 1481 by decide))] | rw [ex] | rw [e4] | rw [q1480] | rw [lN_i32] | rw [v1] | rw [if_pos (by first | with_reducible assumption | ((with_reducible refine nI_lt ?_ ?_); omega; omega) | ((with_reducible refine nI_nlt ?_ ?_); omega; omega) | with_reducible exact ne10 | with_reducible rfl)] | rw [if_neg (by first | with_reducible assumption | ((with_reducible refine nI_lt ?_ ?_); omega; omega) | ((with_reducible refine nI_nlt ?_ ?_); omega; omega) | with_reducible exact ne10 | with_reducible rfl)]))
  rfl
end TK
