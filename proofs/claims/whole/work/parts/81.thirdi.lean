/-! third, the reference: a part is laid -/
section TI
variable {K : Kk} {R : Rr} {M : Mm} {m : Nat}
theorem fitM_ok {L : List Pt} {Q : Pc} {g : Nat} {p4 : Int32} (hm : moA K R m) (hg : g + 36 < 5924) (t1 : (M.2 (m + 4) (g + 33)).toInt = Q.2.1) (t2 : (M.2 (m + 4) (g + 34)).toInt = Q.2.2.1) (t3 : (M.2 (m + 4) (g + 35)).toInt = Q.2.2.2.1) (iQ : isPc Q) (hL : rM M m 24 17 18 L) (h16 : L.length ≤ 16) (bL : inBs L) {a0 : Int32} : ∃ v, iv v (thI Q L) ∧ lp (mX8_layThird_L61 K R M m a0 p4 (nI g) (M.2 (m + 4) (g + 33))) (1, 0) = lp (mX8_layThird_L61 K R M m a0 p4 (nI g) (M.2 (m + 4) (g + 33))) (v, nI L.length) := by
  have r5 := mo_r5 hm
  have a5 := mo_a5 hm
  have r7 := mo_r22 hm
  have r8 := mo_r23 hm
  have a7 := mo_a22 hm
  have a8 := mo_a23 hm
  have e := hL.1
  have mv := iQ.mv
  have w34 : nI g + 34 = nI (g + 34) := nI_add g 34
  have w35 : nI g + 35 = nI (g + 35) := nI_add g 35
  have x34 : ixA K (m + 4) 1 (nI (g + 34)) := ixA_of a5 (by omega) (by decide)
  have x35 : ixA K (m + 4) 1 (nI (g + 35)) := ixA_of a5 (by omega) (by decide)
  have hR := lp_run (f := mX8_layThird_L61 K R M m a0 p4 (nI g) (M.2 (m + 4) (g + 33))) (fun (i : Nat) (s : Int32 × Int32) => s.2 = nI i ∧ iv s.1 (∀ t x, t < i → L[t]? = some x → inB (mvP Q.2.1 Q.2.2.1 Q.2.2.2.1 x))) L.length ?_
  · obtain ⟨⟨v, z⟩, e1, rfl, e2⟩ := hR L.length 0 (1, nI 0) (by omega) ⟨rfl, Or.inl ⟨rfl, fun t x ht => absurd ht (by omega)⟩⟩
    refine ⟨v, e2.congr ⟨fun h x hx => ?_, fun h t x _ hx => h x (get_mem hx)⟩, e1⟩
    obtain ⟨t, ht, g⟩ := mem_get hx
    exact h t x ht g
  · rintro i ⟨v, z⟩ hi ⟨rfl, f0⟩
    have f : iv v (∀ t x, t < i → L[t]? = some x → inB (mvP Q.2.1 Q.2.2.1 Q.2.2.2.1 x)) := f0
    clear f0
    obtain ⟨c, hc⟩ := get_ex hi
    obtain ⟨c1, c2⟩ := hL.2 i c hc
    obtain ⟨b1, b2, b3, b4⟩ := bL i c hc
    have m1 : (M.2 (m + 4) (g + 33) * M.2 (m + 17) i).toInt = Q.2.1 * c.1 := pm1_mul64 t1 iQ.2.1 c1 (by omega) (by omega)
    have m2 : (M.2 (m + 4) (g + 33) * M.2 (m + 18) i).toInt = Q.2.1 * c.2 := pm1_mul64 t1 iQ.2.1 c2 (by omega) (by omega)
    have B1 : -100000 ≤ Q.2.1 * c.1 ∧ Q.2.1 * c.1 ≤ 100000 := by rcases iQ.2.1 with z | z <;> rw [z] <;> omega
    have B2 : -100000 ≤ Q.2.1 * c.2 ∧ Q.2.1 * c.2 ≤ 100000 := by rcases iQ.2.1 with z | z <;> rw [z] <;> omega
    have n1 : (M.2 (m + 4) (g + 33) * M.2 (m + 17) i + M.2 (m + 4) (g + 34)).toInt = (mvP Q.2.1 Q.2.2.1 Q.2.2.2.1 c).1 := by rw [add64 (by rw [m1, t2]; omega) (by rw [m1, t2]; omega), m1, t2]; rfl
    have n2 : (M.2 (m + 4) (g + 33) * M.2 (m + 18) i + M.2 (m + 4) (g + 35)).toInt = (mvP Q.2.1 Q.2.2.1 Q.2.2.2.1 c).2 := by rw [add64 (by rw [m2, t3]; omega) (by rw [m2, t3]; omega), m2, t3]; rfl
    have st : ∀ w : Int32, mX8_layThird_J128 K R M m a0 p4 (nI g) (M.2 (m + 4) (g + 33)) (nI i) w = some (.inl (w, nI (i + 1))) := fun w => by unfold mX8_layThird_J128; (repeat (first | rw [ck_t (by first | with_reducible assumption | ((with_reducible apply ixA_of); (with_reducible assumption); omega; omega) | ((with_reducible apply isAr_of); (with_reducible assumption); decide) | ((with_reducible apply nI_ne0); omega; omega) | with_reducible exact isB_0 | with_reducible exact isB_1 | with_reducible exact isB_bI _)] | rw [bd_r (by with_reducible assumption)] | rw [bd_s] | rw [bd2_s] | rw [bd3_s] | rw [nm_s] | rw [nI_clamp (by omega)] | rw [nI_1] | rw [if_pos (by first | with_reducible assumption | ((with_reducible refine nI_lt ?_ ?_); omega; omega) | ((with_reducible refine nI_nlt ?_ ?_); omega; omega) | with_reducible exact ne10 | with_reducible rfl)] | rw [if_neg (by first | with_reducible assumption | ((with_reducible refine nI_lt ?_ ?_); omega; omega) | ((with_reducible refine nI_nlt ?_ ?_); omega; omega) | with_reducible exact ne10 | with_reducible rfl)]))
    have s0 : mX8_layThird_J127 K R M m a0 p4 (nI g) (M.2 (m + 4) (g + 33)) (nI i) = some (.inl (0, nI (i + 1))) := by unfold mX8_layThird_J127; exact st 0
    show ∃ s', mX8_layThird_B61 K R M m a0 p4 (nI g) (M.2 (m + 4) (g + 33)) v (nI i) = some (.inl s') ∧ _
    unfold mX8_layThird_B61
    rcases f with ⟨rfl, f⟩ | ⟨rfl, f⟩
    · by_cases hin : inB (mvP Q.2.1 Q.2.2.1 Q.2.2.2.1 c)
      · refine ⟨(1, nI (i + 1)), ?_, rfl, Or.inl ⟨rfl, fun t x ht hx => ?_⟩⟩
        · have pt := isPlaceM_t (K := K) (R := R) (M := M) (x := M.2 (m + 4) (g + 33) * M.2 (m + 17) i + M.2 (m + 4) (g + 34)) (y := M.2 (m + 4) (g + 33) * M.2 (m + 18) i + M.2 (m + 4) (g + 35)) (by rw [n1, n2]; exact hin)
          (repeat (first | rw [ck_t (by first | with_reducible assumption | ((with_reducible apply ixA_of); (with_reducible assumption); omega; omega) | ((with_reducible apply isAr_of); (with_reducible assumption); decide) | ((with_reducible apply nI_ne0); omega; omega) | with_reducible exact isB_0 | with_reducible exact isB_1 | with_reducible exact isB_bI _)] | rw [bd_r (by with_reducible assumption)] | rw [bd_s] | rw [bd2_s] | rw [bd3_s] | rw [nm_s] | rw [nI_clamp (by omega)] | rw [nI_1] | rw [e] | rw [if_neg (ne10)] | rw [w34] | rw [w35] | rw [bd_e (pt)] | rw [st 1] | rw [if_pos (by first | with_reducible assumption | ((with_reducible refine nI_lt ?_ ?_); omega; omega) | ((with_reducible refine nI_nlt ?_ ?_); omega; omega) | with_reducible exact ne10 | with_reducible rfl)] | rw [if_neg (by first | with_reducible assumption | ((with_reducible refine nI_lt ?_ ?_); omega; omega) | ((with_reducible refine nI_nlt ?_ ?_); omega; omega) | with_reducible exact ne10 | with_reducible rfl)]))
        · by_cases w : t = i
          · rw [w] at hx; rw [get_un hx hc]; exact hin
          · exact f t x (by omega) hx
      · refine ⟨(0, nI (i + 1)), ?_, rfl, Or.inr ⟨rfl, fun h => hin (h i c (by omega) hc)⟩⟩
        have pt := isPlaceM_f (K := K) (R := R) (M := M) (x := M.2 (m + 4) (g + 33) * M.2 (m + 17) i + M.2 (m + 4) (g + 34)) (y := M.2 (m + 4) (g + 33) * M.2 (m + 18) i + M.2 (m + 4) (g + 35)) (by rw [n1, n2]; exact hin)
        (repeat (first | rw [ck_t (by first | with_reducible assumption | ((with_reducible apply ixA_of); (with_reducible assumption); omega; omega) | ((with_reducible apply isAr_of); (with_reducible assumption); decide) | ((with_reducible apply nI_ne0); omega; omega) | with_reducible exact isB_0 | with_reducible exact isB_1 | with_reducible exact isB_bI _)] | rw [bd_r (by with_reducible assumption)] | rw [bd_s] | rw [bd2_s] | rw [bd3_s] | rw [nm_s] | rw [nI_clamp (by omega)] | rw [nI_1] | rw [e] | rw [if_neg (ne10)] | rw [w34] | rw [w35] | rw [bd_e (pt)] | rw [s0] | rw [if_pos (by first | with_reducible assumption | ((with_reducible refine nI_lt ?_ ?_); omega; omega) | ((with_reducible refine nI_nlt ?_ ?_); omega; omega) | with_reducible exact ne10 | with_reducible rfl)] | rw [if_neg (by first | with_reducible assumption | ((with_reducible refine nI_lt ?_ ?_); omega; omega) | ((with_reducible refine nI_nlt ?_ ?_); omega; omega) | with_reducible exact ne10 | with_reducible rfl)]))
    · refine ⟨(0, nI (i + 1)), ?_, rfl, Or.inr ⟨rfl, fun h => f (fun t x ht hx => h t x (by omega) hx)⟩⟩
      (repeat (first | rw [ck_t (by first | with_reducible assumption | ((with_reducible apply ixA_of); (with_reducible assumption); omega; omega) | ((with_reducible apply isAr_of); (with_reducible assumption); decide) | ((with_reducible apply nI_ne0); omega; omega) | with_reducible exact isB_0 | with_reducible exact isB_1 | with_reducible exact isB_bI _)] | rw [bd_r (by with_reducible assumption)] | rw [bd_s] | rw [bd2_s] | rw [bd3_s] | rw [nm_s] | rw [nI_clamp (by omega)] | rw [nI_1] | rw [e] | rw [s0] | rw [if_pos (by first | with_reducible assumption | ((with_reducible refine nI_lt ?_ ?_); omega; omega) | ((with_reducible refine nI_nlt ?_ ?_); omega; omega) | with_reducible exact ne10 | with_reducible rfl)] | rw [if_neg (by first | with_reducible assumption | ((with_reducible refine nI_lt ?_ ?_); omega; omega) | ((with_reducible refine nI_nlt ?_ ?_); omega; omega) | with_reducible exact ne10 | with_reducible rfl)]))
theorem layM_ok {p g : Nat} {ps N : List Pc} {P Q : Pc} {L : List Pt} {a1 a2 : Int32} (hm : moA K R m) (hps : psM (M.2 (m + 1)) 0 ps) (hP : ps[p]? = some P) (hpp : isPs ps) (hg : g + 36 < 5924) (eg : 1481 * a1 + 37 * a2 = nI g) (hQ : pcM (M.2 (m + 4)) g Q) (iQ : isPc Q) (hN : psM (M.2 (m + 24)) 0 N) (hf : fitP N) (hL : rM M m 24 17 18 L) (l600 : L.length ≤ 600) (cL : Cv L) (l3 : 3 ≤ L.length) (hin : ∀ x, x ∈ L → inP (plc P) x) (bL : inBs L) :
    ∃ v M' N', mX8_layThird K R M m (nI p) a1 a2 = some (v, M') ∧ FM m [] [1, 17, 18, 24, 25] M M' ∧ M'.2 (m + 1) = M.2 (m + 1) ∧ psM (M'.2 (m + 24)) 0 N' ∧ (((16 < L.length ∨ 40 ≤ N.length) ∧ v = -9000000000000000003 ∧ N' = N) ∨ (L.length ≤ 16 ∧ N.length < 40 ∧ ¬ thI Q L ∧ v = -9000000000000000001 ∧ N' = N) ∨ (L.length ≤ 16 ∧ N.length < 40 ∧ thI Q L ∧ v = 0 ∧ N' = N ++ [thP P Q L])) := by
  have h0 := hm.1
  have r0 := mo_r0 hm
  have a0 := mo_a0 hm
  have r5 := mo_r5 hm
  have a5 := mo_a5 hm
  have r37 := mo_r37 hm
  have a37 := mo_a37 hm
  have r38 := mo_r38 hm
  have a38 := mo_a38 hm
  have iP := hpp.2 p P hP
  have hp := get_lt hP
  have p40 := hpp.1
  have hmv := iP.mv
  have eL := hL.1
  have n40 := hf.1
  have cl : (1480 : Int32).toNatClampNeg = 1480 := nI_clamp (n := 1480) (by omega)
  have ix1480 : ixA K (m + 24) 1 1480 := ixA_of (i := 1480) a37 (by omega) (by omega)
  have e1480 := hN.1
  rw [Nat.zero_add] at e1480
  obtain ⟨-, -, t1, t2, t3, -⟩ := hQ
  have w33 : nI g + 33 = nI (g + 33) := nI_add g 33
  have w34 : nI g + 34 = nI (g + 34) := nI_add g 34
  have w35 : nI g + 35 = nI (g + 35) := nI_add g 35
  have x33 : ixA K (m + 4) 1 (nI (g + 33)) := ixA_of a5 (by omega) (by decide)
  have x34 : ixA K (m + 4) 1 (nI (g + 34)) := ixA_of a5 (by omega) (by decide)
  have x35 : ixA K (m + 4) 1 (nI (g + 35)) := ixA_of a5 (by omega) (by decide)
  by_cases l16 : L.length ≤ 16
  · have le : nI L.length ≤ 16 := nI_le' (b := 16) l16 (by decide)
    by_cases l40 : N.length < 40
    · have ne40 : ¬ nI N.length = 40 := nI_ne (b := 40) (by omega) (by omega) (by decide)
      obtain ⟨v, v1, v2⟩ := fitM_ok (p4 := nI N.length) (a0 := nI p) hm hg t1 t2 t3 iQ hL l16 bL
      have head : mX8_layThird K R M m (nI p) a1 a2 = lp (mX8_layThird_L61 K R M m (nI p) (nI N.length) (nI g) (M.2 (m + 4) (g + 33))) (v, nI L.length) := by
        rw [← v2]
        unfold mX8_layThird
        (repeat (first | rw [ck_t (by first | with_reducible assumption | ((with_reducible apply ixA_of); (with_reducible assumption); omega; omega) | ((with_reducible apply isAr_of); (with_reducible assumption); decide) | ((with_reducible apply nI_ne0); omega; omega) | with_reducible exact isB_0 | with_reducible exact isB_1 | with_reducible exact isB_bI _)] | rw [bd_r (by with_reducible assumption)] | rw [bd_s] | rw [bd2_s] | rw [bd3_s] | rw [nm_s] | rw [nI_clamp (by omega)] | rw [nI_1] | rw [cl] | rw [e1480] | rw [lN_i32] | rw [eL] | rw [if_pos (le)] | rw [if_neg (ne40)] | rw [eg] | rw [w33] | rw [if_pos (by first | with_reducible assumption | ((with_reducible refine nI_lt ?_ ?_); omega; omega) | ((with_reducible refine nI_nlt ?_ ?_); omega; omega) | with_reducible exact ne10 | with_reducible rfl)] | rw [if_neg (by first | with_reducible assumption | ((with_reducible refine nI_lt ?_ ?_); omega; omega) | ((with_reducible refine nI_nlt ?_ ?_); omega; omega) | with_reducible exact ne10 | with_reducible rfl)]))
      rcases v1 with ⟨rfl, hI⟩ | ⟨rfl, hI⟩
      · obtain ⟨rg, ls1, -, -, -⟩ := thP_ok iP iQ cL l3 l16 hin
        generalize hl10 : M.2 (m + 4) (g + 33) = l10 at head
        have t1' : l10.toInt = Q.2.1 := by rw [← hl10]; exact t1
        -- the piece 0 is put by
        have run1 := lp_run (f := mX8_layThird_L148 K R m (nI p) (nI N.length) (nI g) l10) (fun (i : Nat) (s : Int32 × Mm) => s.1 = nI i ∧ FM m [] [25] M s.2 ∧ ∀ t, t < i → s.2.2 (m + 25) t = M.2 (m + 1) t) 37 (by
          rintro i ⟨z, N1⟩ hi ⟨rfl, f1, f2⟩
          have f1 : FM m [] [25] M N1 := f1
          have f2 : ∀ t, t < i → N1.2 (m + 25) t = M.2 (m + 1) t := f2
          have lt : nI i < 37 := nI_lt (b := 37) hi (by decide)
          refine ⟨(nI (i + 1), pL N1 (m + 25) i (N1.2 (m + 1) i)), ?_, rfl, f1.pL (by decide), fun t ht => ?_⟩
          · show mX8_layThird_B148 K R m (nI p) (nI N.length) (nI g) l10 (nI i) N1 = _
            unfold mX8_layThird_B148
            (repeat (first | rw [ck_t (by first | with_reducible assumption | ((with_reducible apply ixA_of); (with_reducible assumption); omega; omega) | ((with_reducible apply isAr_of); (with_reducible assumption); decide) | ((with_reducible apply nI_ne0); omega; omega) | with_reducible exact isB_0 | with_reducible exact isB_1 | with_reducible exact isB_bI _)] | rw [bd_r (by with_reducible assumption)] | rw [bd_s] | rw [bd2_s] | rw [bd3_s] | rw [nm_s] | rw [nI_clamp (by omega)] | rw [nI_1] | rw [if_pos (lt)] | rw [if_pos (by first | with_reducible assumption | ((with_reducible refine nI_lt ?_ ?_); omega; omega) | ((with_reducible refine nI_nlt ?_ ?_); omega; omega) | with_reducible exact ne10 | with_reducible rfl)] | rw [if_neg (by first | with_reducible assumption | ((with_reducible refine nI_lt ?_ ?_); omega; omega) | ((with_reducible refine nI_nlt ?_ ?_); omega; omega) | with_reducible exact ne10 | with_reducible rfl)]))
          · show (pL N1 _ _ _).2 _ t = _
            by_cases w : t = i
            · subst w; rw [pL_s, f1.ar 1 (by decide)]
            · rw [pL_k w]; exact f2 t (by omega))
        obtain ⟨⟨z1, N1⟩, u1, rfl, u2, u3⟩ := run1 37 0 (nI 0, M) (by omega) ⟨rfl, FM.rf, fun t ht => absurd ht (by omega)⟩
        have u2 : FM m [] [25] M N1 := u2
        have u3 : ∀ t, t < 37 → N1.2 (m + 25) t = M.2 (m + 1) t := u3
        have s1 := u2.ar 1 (by decide)
        have pc1 : pcM (N1.2 (m + 1)) (37 * p) P := by rw [s1]; exact hps.pc hP
        obtain ⟨-, -, b1, b2, b3, -⟩ := pc1
        have g33 : ∀ N : Mm, mX8_get K R N m (nI p) 33 = some (N.2 (m + 1) (37 * p + 33)) := fun N => get_ok hm rfl (by omega) (by omega)
        have g34 : ∀ N : Mm, mX8_get K R N m (nI p) 34 = some (N.2 (m + 1) (37 * p + 34)) := fun N => get_ok hm rfl (by omega) (by omega)
        have g35 : ∀ N : Mm, mX8_get K R N m (nI p) 35 = some (N.2 (m + 1) (37 * p + 35)) := fun N => get_ok hm rfl (by omega) (by omega)
        obtain ⟨N2, o1, o2, o3, o4, o5⟩ := originOf_ok (M := N1) (p := 0) hm (by decide) (hL.fr u2 (by decide) (by decide) (by decide)) l16 bL b1 iP.2.1 b2 b3 (by omega) (by omega) ls1
        have o1 : mX8_originOf K R N1 m 0 (N1.2 (m + 1) (37 * p + 33)) (N1.2 (m + 1) (37 * p + 34)) (N1.2 (m + 1) (37 * p + 35)) = some N2 := o1
        have e24 : N2.2 (m + 24) = M.2 (m + 24) := (o4.ar 24 (by decide)).trans (u2.ar 24 (by decide))
        -- the part goes into the new ones
        have run3 := lp_run (f := mX8_layThird_L204 K R m (nI p) (nI N.length) (nI g) l10) (fun (i : Nat) (s : Int32 × Mm) => s.1 = nI i ∧ FM m [] [24] N2 s.2 ∧ (∀ t, t < i → s.2.2 (m + 24) (37 * N.length + t) = N2.2 (m + 1) t) ∧ ∀ t, (t < 37 * N.length ∨ 37 * N.length + 33 ≤ t) → s.2.2 (m + 24) t = N2.2 (m + 24) t) 33 (by
          rintro i ⟨z, N3⟩ hi ⟨rfl, f1, f2, f3⟩
          have f1 : FM m [] [24] N2 N3 := f1
          have f2 : ∀ t, t < i → N3.2 (m + 24) (37 * N.length + t) = N2.2 (m + 1) t := f2
          have f3 : ∀ t, (t < 37 * N.length ∨ 37 * N.length + 33 ≤ t) → N3.2 (m + 24) t = N2.2 (m + 24) t := f3
          have lt : nI i < 33 := nI_lt (b := 33) hi (by decide)
          have jx : (37 : Int32) * nI N.length + nI i = nI (37 * N.length + i) := ix37 N.length i
          refine ⟨(nI (i + 1), pL N3 (m + 24) (37 * N.length + i) (N3.2 (m + 1) i)), ?_, rfl, f1.pL (by decide), fun t ht => ?_, fun t ht => ?_⟩
          · show mX8_layThird_B204 K R m (nI p) (nI N.length) (nI g) l10 (nI i) N3 = _
            unfold mX8_layThird_B204
            (repeat (first | rw [ck_t (by first | with_reducible assumption | ((with_reducible apply ixA_of); (with_reducible assumption); omega; omega) | ((with_reducible apply isAr_of); (with_reducible assumption); decide) | ((with_reducible apply nI_ne0); omega; omega) | with_reducible exact isB_0 | with_reducible exact isB_1 | with_reducible exact isB_bI _)] | rw [bd_r (by with_reducible assumption)] | rw [bd_s] | rw [bd2_s] | rw [bd3_s] | rw [nm_s] | rw [nI_clamp (by omega)] | rw [nI_1] | rw [if_pos (lt)] | rw [jx] | rw [if_pos (by first | with_reducible assumption | ((with_reducible refine nI_lt ?_ ?_); omega; omega) | ((with_reducible refine nI_nlt ?_ ?_); omega; omega) | with_reducible exact ne10 | with_reducible rfl)] | rw [if_neg (by first | with_reducible assumption | ((with_reducible refine nI_lt ?_ ?_); omega; omega) | ((with_reducible refine nI_nlt ?_ ?_); omega; omega) | with_reducible exact ne10 | with_reducible rfl)]))
          · show (pL N3 _ _ _).2 _ (37 * N.length + t) = _
            by_cases w : t = i
            · subst w; rw [pL_s, f1.ar 1 (by decide)]
            · rw [pL_k (by omega)]; exact f2 t (by omega)
          · show (pL N3 _ _ _).2 _ t = _
            rw [pL_k (by omega)]; exact f3 t ht)
        obtain ⟨⟨z3, N3⟩, u4, rfl, u5, u6, u7⟩ := run3 33 0 (nI 0, N2) (by omega) ⟨rfl, FM.rf, fun t ht => absurd ht (by omega), fun t _ => rfl⟩
        have u5 : FM m [] [24] N2 N3 := u5
        have u6 : ∀ t, t < 33 → N3.2 (m + 24) (37 * N.length + t) = N2.2 (m + 1) t := u6
        have u7 : ∀ t, (t < 37 * N.length ∨ 37 * N.length + 33 ≤ t) → N3.2 (m + 24) t = N2.2 (m + 24) t := u7
        have e25 : N3.2 (m + 25) = N1.2 (m + 25) := (u5.ar 25 (by decide)).trans (o4.ar 25 (by decide))
        -- the piece 0 comes back
        have run4 := lp_run (f := mX8_layThird_L240 K R m (nI p) (nI N.length) (nI g) l10) (fun (i : Nat) (s : Int32 × Mm) => s.1 = nI i ∧ FM m [] [1] N3 s.2 ∧ (∀ t, t < i → s.2.2 (m + 1) t = M.2 (m + 1) t) ∧ ∀ t, i ≤ t → s.2.2 (m + 1) t = N3.2 (m + 1) t) 37 (by
          rintro i ⟨z, N4⟩ hi ⟨rfl, f1, f2, f3⟩
          have f1 : FM m [] [1] N3 N4 := f1
          have f2 : ∀ t, t < i → N4.2 (m + 1) t = M.2 (m + 1) t := f2
          have f3 : ∀ t, i ≤ t → N4.2 (m + 1) t = N3.2 (m + 1) t := f3
          have lt : nI i < 37 := nI_lt (b := 37) hi (by decide)
          refine ⟨(nI (i + 1), pL N4 (m + 1) i (N4.2 (m + 25) i)), ?_, rfl, f1.pL (by decide), fun t ht => ?_, fun t ht => ?_⟩
          · show mX8_layThird_B240 K R m (nI p) (nI N.length) (nI g) l10 (nI i) N4 = _
            unfold mX8_layThird_B240
            (repeat (first | rw [ck_t (by first | with_reducible assumption | ((with_reducible apply ixA_of); (with_reducible assumption); omega; omega) | ((with_reducible apply isAr_of); (with_reducible assumption); decide) | ((with_reducible apply nI_ne0); omega; omega) | with_reducible exact isB_0 | with_reducible exact isB_1 | with_reducible exact isB_bI _)] | rw [bd_r (by with_reducible assumption)] | rw [bd_s] | rw [bd2_s] | rw [bd3_s] | rw [nm_s] | rw [nI_clamp (by omega)] | rw [nI_1] | rw [if_pos (lt)] | rw [if_pos (by first | with_reducible assumption | ((with_reducible refine nI_lt ?_ ?_); omega; omega) | ((with_reducible refine nI_nlt ?_ ?_); omega; omega) | with_reducible exact ne10 | with_reducible rfl)] | rw [if_neg (by first | with_reducible assumption | ((with_reducible refine nI_lt ?_ ?_); omega; omega) | ((with_reducible refine nI_nlt ?_ ?_); omega; omega) | with_reducible exact ne10 | with_reducible rfl)]))
          · show (pL N4 _ _ _).2 _ t = _
            by_cases w : t = i
            · subst w; rw [pL_s, f1.ar 25 (by decide), e25, u3 t (by omega)]
            · rw [pL_k w]; exact f2 t (by omega)
          · show (pL N4 _ _ _).2 _ t = _
            rw [pL_k (by omega)]; exact f3 t (by omega))
        obtain ⟨⟨z4, N4⟩, u8, rfl, u9, u10, u11⟩ := run4 37 0 (nI 0, N3) (by omega) ⟨rfl, FM.rf, fun t ht => absurd ht (by omega), fun t _ => rfl⟩
        have u9 : FM m [] [1] N3 N4 := u9
        have u10 : ∀ t, t < 37 → N4.2 (m + 1) t = M.2 (m + 1) t := u10
        have u11 : ∀ t, 37 ≤ t → N4.2 (m + 1) t = N3.2 (m + 1) t := u11
        have back : N4.2 (m + 1) = M.2 (m + 1) := funext (fun t => by
          by_cases w : t < 37
          · exact u10 t w
          · rw [u11 t (by omega), u5.ar 1 (by decide), o5 t (by omega), s1])
        have FM4 : FM m [] [1, 17, 18, 24, 25] M N4 := (((u2.mo (by decide) (by decide)).tr (o4.mo (by decide) (by decide))).tr (u5.mo (by decide) (by decide))).tr (u9.mo (by decide) (by decide))
        have e4 : N4.2 (m + 4) = M.2 (m + 4) := FM4.ar 4 (by decide)
        have f24 : N4.2 (m + 24) = N3.2 (m + 24) := u9.ar 24 (by decide)
        have pc4 : pcM (N4.2 (m + 1)) (37 * p) P := by rw [back]; exact hps.pc hP
        obtain ⟨-, -, d1, d2, d3, -⟩ := pc4
        have j33 : (37 : Int32) * nI N.length + 33 = nI (37 * N.length + 33) := ix37 N.length 33
        have j34 : (37 : Int32) * nI N.length + 34 = nI (37 * N.length + 34) := ix37 N.length 34
        have j35 : (37 : Int32) * nI N.length + 35 = nI (37 * N.length + 35) := ix37 N.length 35
        have j36 : (37 : Int32) * nI N.length + 36 = nI (37 * N.length + 36) := ix37 N.length 36
        generalize hM40 : pL N4 (m + 24) (37 * N.length + 33) (N4.2 (m + 1) (37 * p + 33) * l10) = M40
        have k40 : M40.2 (m + 1) = N4.2 (m + 1) ∧ M40.2 (m + 4) = N4.2 (m + 4) := by rw [← hM40]; exact ⟨pL_n (by omega), pL_n (by omega)⟩
        generalize hM45 : pL M40 (m + 24) (37 * N.length + 34) (l10 * M40.2 (m + 1) (37 * p + 34) + M40.2 (m + 4) (g + 34)) = M45
        have k45 : M45.2 (m + 1) = N4.2 (m + 1) ∧ M45.2 (m + 4) = N4.2 (m + 4) := by rw [← hM45]; exact ⟨(pL_n (by omega)).trans k40.1, (pL_n (by omega)).trans k40.2⟩
        generalize hM49 : pL M45 (m + 24) (37 * N.length + 35) (l10 * M45.2 (m + 1) (37 * p + 35) + M45.2 (m + 4) (g + 35)) = M49
        generalize hM51 : pL M49 (m + 24) (37 * N.length + 36) 0 = M51
        generalize hM53 : pL M51 (m + 24) 1480 (M51.2 (m + 24) 1480 + 1) = M53
        have F53 : FM m [] [24] N4 M53 := by rw [← hM53, ← hM51, ← hM49, ← hM45, ← hM40]; exact ((((FM.rf.pL (by decide)).pL (by decide)).pL (by decide)).pL (by decide)).pL (by decide)
        have cell : ∀ t, t ≠ 1480 → (t < 37 * N.length + 33 ∨ 37 * N.length + 37 ≤ t) → M53.2 (m + 24) t = N3.2 (m + 24) t := fun t h1 h2 => by rw [← hM53, ← hM51, ← hM49, ← hM45, ← hM40, pL_k h1, pL_k (by omega), pL_k (by omega), pL_k (by omega), pL_k (by omega), f24]
        have c1480 : M51.2 (m + 24) 1480 = lN N.length := by rw [← hM51, ← hM49, ← hM45, ← hM40, pL_k (by omega), pL_k (by omega), pL_k (by omega), pL_k (by omega), f24, u7 _ (by omega), e24, e1480]
        have tl : (thP P Q L).1.length = L.length := by show (norm (L.map (ivM P))).length = _; rw [norm_len, List.length_map]
        have B2 : -200000 ≤ Q.2.1 * P.2.2.1 ∧ Q.2.1 * P.2.2.1 ≤ 200000 := by rcases iQ.2.1 with z | z <;> rw [z] <;> omega
        have B3 : -200000 ≤ Q.2.1 * P.2.2.2.1 ∧ Q.2.1 * P.2.2.2.1 ≤ 200000 := by rcases iQ.2.1 with z | z <;> rw [z] <;> omega
        have mvQ := iQ.mv
        have pb : -2000000 ≤ Q.2.1 ∧ Q.2.1 ≤ 2000000 := by have := iQ.2.1; omega
        have v33 : (N4.2 (m + 1) (37 * p + 33) * l10).toInt = Q.2.1 * P.2.1 := by rw [pm1_mul64 d1 iP.2.1 t1' (by omega) (by omega), Int.mul_comm]
        have v34 : (l10 * M40.2 (m + 1) (37 * p + 34) + M40.2 (m + 4) (g + 34)).toInt = Q.2.1 * P.2.2.1 + Q.2.2.1 := by
          rw [k40.1, k40.2, e4]
          have := pm1_mul64 t1' iQ.2.1 d2 (by omega) (by omega)
          rw [add64 (by rw [this, t2]; omega) (by rw [this, t2]; omega), this, t2]
        have v35 : (l10 * M45.2 (m + 1) (37 * p + 35) + M45.2 (m + 4) (g + 35)).toInt = Q.2.1 * P.2.2.2.1 + Q.2.2.2.1 := by
          rw [k45.1, k45.2, e4]
          have := pm1_mul64 t1' iQ.2.1 d3 (by omega) (by omega)
          rw [add64 (by rw [this, t3]; omega) (by rw [this, t3]; omega), this, t3]
        refine ⟨0, M53, N ++ [thP P Q L], ?_, FM4.tr (F53.mo (by decide) (by decide)), (F53.ar 1 (by decide)).trans back, ?_, Or.inr (Or.inr ⟨l16, l40, hI, rfl, rfl⟩)⟩
        · have E4 : lp (mX8_layThird_L240 K R m (nI p) (nI N.length) (nI g) l10) (0, N3) = some (0, M53) := by
            rw [show lp (mX8_layThird_L240 K R m (nI p) (nI N.length) (nI g) l10) (0, N3) = _ from u8]
            refine lp_out ?_
            show mX8_layThird_B240 K R m (nI p) (nI N.length) (nI g) l10 (nI 37) N4 = _
            unfold mX8_layThird_B240
            (repeat (first | rw [ck_t (by first | with_reducible assumption | ((with_reducible apply ixA_of); (with_reducible assumption); omega; omega) | ((with_reducible apply isAr_of); (with_reducible assumption); decide) | ((with_reducible apply nI_ne0); omega; omega) | with_reducible exact isB_0 | with_reducible exact isB_1 | with_reducible exact isB_bI _)] | rw [bd_r (by with_reducible assumption)] | rw [bd_s] | rw [bd2_s] | rw [bd3_s] | rw [nm_s] | rw [nI_clamp (by omega)] | rw [nI_1] | rw [if_neg ((show ¬ nI 37 < 37 by decide))] | rw [bd_e (g33 N4)] | rw [j33] | rw [hM40] | rw [bd_e (g34 M40)] | rw [w34] | rw [j34] | rw [hM45] | rw [bd_e (g35 M45)] | rw [w35] | rw [j35] | rw [hM49] | rw [j36] | rw [hM51] | rw [cl] | rw [hM53] | rw [if_pos (by first | with_reducible assumption | ((with_reducible refine nI_lt ?_ ?_); omega; omega) | ((with_reducible refine nI_nlt ?_ ?_); omega; omega) | with_reducible exact ne10 | with_reducible rfl)] | rw [if_neg (by first | with_reducible assumption | ((with_reducible refine nI_lt ?_ ?_); omega; omega) | ((with_reducible refine nI_nlt ?_ ?_); omega; omega) | with_reducible exact ne10 | with_reducible rfl)]))
            rfl
          have E3 : lp (mX8_layThird_L204 K R m (nI p) (nI N.length) (nI g) l10) (0, N2) = some (0, M53) := by
            rw [show lp (mX8_layThird_L204 K R m (nI p) (nI N.length) (nI g) l10) (0, N2) = _ from u4]
            refine lp_out ?_
            show mX8_layThird_B204 K R m (nI p) (nI N.length) (nI g) l10 (nI 33) N3 = _
            unfold mX8_layThird_B204
            (repeat (first | rw [ck_t (by first | with_reducible assumption | ((with_reducible apply ixA_of); (with_reducible assumption); omega; omega) | ((with_reducible apply isAr_of); (with_reducible assumption); decide) | ((with_reducible apply nI_ne0); omega; omega) | with_reducible exact isB_0 | with_reducible exact isB_1 | with_reducible exact isB_bI _)] | rw [bd_r (by with_reducible assumption)] | rw [bd_s] | rw [bd2_s] | rw [bd3_s] | rw [nm_s] | rw [nI_clamp (by omega)] | rw [nI_1] | rw [if_neg ((show ¬ nI 33 < 33 by decide))] | rw [E4] | rw [if_pos (by first | with_reducible assumption | ((with_reducible refine nI_lt ?_ ?_); omega; omega) | ((with_reducible refine nI_nlt ?_ ?_); omega; omega) | with_reducible exact ne10 | with_reducible rfl)] | rw [if_neg (by first | with_reducible assumption | ((with_reducible refine nI_lt ?_ ?_); omega; omega) | ((with_reducible refine nI_nlt ?_ ?_); omega; omega) | with_reducible exact ne10 | with_reducible rfl)]))
            rfl
          have E1 : lp (mX8_layThird_L148 K R m (nI p) (nI N.length) (nI g) l10) (0, M) = some (0, M53) := by
            rw [show lp (mX8_layThird_L148 K R m (nI p) (nI N.length) (nI g) l10) (0, M) = _ from u1]
            refine lp_out ?_
            show mX8_layThird_B148 K R m (nI p) (nI N.length) (nI g) l10 (nI 37) N1 = _
            unfold mX8_layThird_B148
            (repeat (first | rw [ck_t (by first | with_reducible assumption | ((with_reducible apply ixA_of); (with_reducible assumption); omega; omega) | ((with_reducible apply isAr_of); (with_reducible assumption); decide) | ((with_reducible apply nI_ne0); omega; omega) | with_reducible exact isB_0 | with_reducible exact isB_1 | with_reducible exact isB_bI _)] | rw [bd_r (by with_reducible assumption)] | rw [bd_s] | rw [bd2_s] | rw [bd3_s] | rw [nm_s] | rw [nI_clamp (by omega)] | rw [nI_1] | rw [if_neg ((show ¬ nI 37 < 37 by decide))] | rw [bd_e (g33 N1)] | rw [bd_e (g34 N1)] | rw [bd_e (g35 N1)] | rw [bd_e (o1)] | rw [E3] | rw [if_pos (by first | with_reducible assumption | ((with_reducible refine nI_lt ?_ ?_); omega; omega) | ((with_reducible refine nI_nlt ?_ ?_); omega; omega) | with_reducible exact ne10 | with_reducible rfl)] | rw [if_neg (by first | with_reducible assumption | ((with_reducible refine nI_lt ?_ ?_); omega; omega) | ((with_reducible refine nI_nlt ?_ ?_); omega; omega) | with_reducible exact ne10 | with_reducible rfl)]))
            rfl
          rw [head]
          refine lp_out ?_
          show mX8_layThird_B61 K R M m (nI p) (nI N.length) (nI g) l10 1 (nI L.length) = _
          unfold mX8_layThird_B61
          (repeat (first | rw [ck_t (by first | with_reducible assumption | ((with_reducible apply ixA_of); (with_reducible assumption); omega; omega) | ((with_reducible apply isAr_of); (with_reducible assumption); decide) | ((with_reducible apply nI_ne0); omega; omega) | with_reducible exact isB_0 | with_reducible exact isB_1 | with_reducible exact isB_bI _)] | rw [bd_r (by with_reducible assumption)] | rw [bd_s] | rw [bd2_s] | rw [bd3_s] | rw [nm_s] | rw [nI_clamp (by omega)] | rw [nI_1] | rw [eL] | rw [if_neg (ne10)] | rw [E1] | rw [if_pos (by first | with_reducible assumption | ((with_reducible refine nI_lt ?_ ?_); omega; omega) | ((with_reducible refine nI_nlt ?_ ?_); omega; omega) | with_reducible exact ne10 | with_reducible rfl)] | rw [if_neg (by first | with_reducible assumption | ((with_reducible refine nI_lt ?_ ?_); omega; omega) | ((with_reducible refine nI_nlt ?_ ?_); omega; omega) | with_reducible exact ne10 | with_reducible rfl)]))
          rfl
        · refine psM_app hN hf (fun t ht => by rw [cell t (by omega) (by omega), u7 t (by omega), e24]) (by rw [← hM53, pL_s, c1480]; exact lN_add N.length 1) ⟨?_, fun i c hc => ?_, ?_, ?_, ?_, ?_⟩
          · rw [cell _ (by omega) (by omega), tl]
            have := u6 0 (by omega)
            simp only [Nat.add_zero] at this
            rw [this]; exact o2
          · have hi := get_lt hc
            rw [tl] at hi
            rw [cell _ (by omega) (by omega), cell _ (by omega) (by omega), show 37 * N.length + 1 + 2 * i = 37 * N.length + (1 + 2 * i) by omega, show 37 * N.length + 2 + 2 * i = 37 * N.length + (2 + 2 * i) by omega, u6 _ (by omega), u6 _ (by omega)]
            have := o3 i c hc
            rw [Nat.mul_zero, Nat.zero_add, Nat.zero_add] at this
            exact this
          · rw [← hM53, ← hM51, ← hM49, ← hM45, pL_k (by omega), pL_k (by omega), pL_k (by omega), pL_k (by omega), ← hM40, pL_s]; exact v33
          · rw [← hM53, ← hM51, ← hM49, pL_k (by omega), pL_k (by omega), pL_k (by omega), ← hM45, pL_s]; exact v34
          · rw [← hM53, ← hM51, pL_k (by omega), pL_k (by omega), ← hM49, pL_s]; exact v35
          · rw [← hM53, pL_k (by omega), ← hM51, pL_s]; rfl
      · refine ⟨-9000000000000000001, M, N, ?_, FM.rf, rfl, hN, Or.inr (Or.inl ⟨l16, l40, hI, rfl, rfl⟩)⟩
        rw [head]
        refine lp_out ?_
        show mX8_layThird_B61 K R M m (nI p) (nI N.length) (nI g) _ 0 (nI L.length) = _
        unfold mX8_layThird_B61
        (repeat (first | rw [ck_t (by first | with_reducible assumption | ((with_reducible apply ixA_of); (with_reducible assumption); omega; omega) | ((with_reducible apply isAr_of); (with_reducible assumption); decide) | ((with_reducible apply nI_ne0); omega; omega) | with_reducible exact isB_0 | with_reducible exact isB_1 | with_reducible exact isB_bI _)] | rw [bd_r (by with_reducible assumption)] | rw [bd_s] | rw [bd2_s] | rw [bd3_s] | rw [nm_s] | rw [nI_clamp (by omega)] | rw [nI_1] | rw [eL] | rw [if_pos (by first | with_reducible assumption | ((with_reducible refine nI_lt ?_ ?_); omega; omega) | ((with_reducible refine nI_nlt ?_ ?_); omega; omega) | with_reducible exact ne10 | with_reducible rfl)] | rw [if_neg (by first | with_reducible assumption | ((with_reducible refine nI_lt ?_ ?_); omega; omega) | ((with_reducible refine nI_nlt ?_ ?_); omega; omega) | with_reducible exact ne10 | with_reducible rfl)]))
        rfl
    · have e40 : N.length = 40 := by omega
      have eq40 : nI N.length = 40 := by rw [e40]; rfl
      refine ⟨-9000000000000000003, M, N, ?_, FM.rf, rfl, hN, Or.inl ⟨Or.inr (by omega), rfl, rfl⟩⟩
      unfold mX8_layThird
      (repeat (first | rw [ck_t (by first | with_reducible assumption | ((with_reducible apply ixA_of); (with_reducible assumption); omega; omega) | ((with_reducible apply isAr_of); (with_reducible assumption); decide) | ((with_reducible apply nI_ne0); omega; omega) | with_reducible exact isB_0 | with_reducible exact isB_1 | with_reducible exact isB_bI _)] | rw [bd_r (by with_reducible assumption)] | rw [bd_s] | rw [bd2_s] | rw [bd3_s] | rw [nm_s] | rw [nI_clamp (by omega)] | rw [nI_1] | rw [cl] | rw [e1480] | rw [lN_i32] | rw [eL] | rw [if_pos (le)] | rw [if_pos (eq40)] | rw [if_pos (by first | with_reducible assumption | ((with_reducible refine nI_lt ?_ ?_); omega; omega) | ((with_reducible refine nI_nlt ?_ ?_); omega; omega) | with_reducible exact ne10 | with_reducible rfl)] | rw [if_neg (by first | with_reducible assumption | ((with_reducible refine nI_lt ?_ ?_); omega; omega) | ((with_reducible refine nI_nlt ?_ ?_); omega; omega) | with_reducible exact ne10 | with_reducible rfl)]))
  · have le : ¬ nI L.length ≤ 16 := nI_nle' (b := 16) (by omega) (by omega)
    refine ⟨-9000000000000000003, M, N, ?_, FM.rf, rfl, hN, Or.inl ⟨Or.inl (by omega), rfl, rfl⟩⟩
    unfold mX8_layThird
    (repeat (first | rw [ck_t (by first | with_reducible assumption | ((with_reducible apply ixA_of); (with_reducible assumption); omega; omega) | ((with_reducible apply isAr_of); (with_reducible assumption); decide) | ((with_reducible apply nI_ne0); omega; omega) | with_reducible exact isB_0 | with_reducible exact isB_1 | with_reducible exact isB_bI _)] | rw [bd_r (by with_reducible assumption)] | rw [bd_s] | rw [bd2_s] | rw [bd3_s] | rw [nm_s] | rw [nI_clamp (by omega)] | rw [nI_1] | rw [cl] | rw [e1480] | rw [lN_i32] | rw [eL] | rw [if_neg (le)] | rw [if_pos (by first | with_reducible assumption | ((with_reducible refine nI_lt ?_ ?_); omega; omega) | ((with_reducible refine nI_nlt ?_ ?_); omega; omega) | with_reducible exact ne10 | with_reducible rfl)] | rw [if_neg (by first | with_reducible assumption | ((with_reducible refine nI_lt ?_ ?_); omega; omega) | ((with_reducible refine nI_nlt ?_ ?_); omega; omega) | with_reducible exact ne10 | with_reducible rfl)]))
end TI
