/-! slide, half -/
section MVS
variable {K : Kk} {R : Rr} {M : Mm}
theorem fits_ok {m p : Nat} {P : Pc} {ps : List Pc} {t x y : Int64} {ti a b : Int} (hm : moA K R m) (hps : psM (M.2 (m + 1)) 0 ps) (hp : ps[p]? = some P) (h40 : ps.length ≤ 40) (hP : isPc P) (ht : t.toInt = ti) (h1 : ti = 1 ∨ ti = -1) (hx : x.toInt = a) (hy : y.toInt = b) (ba : -1000000 ≤ a ∧ a ≤ 1000000) (bb : -1000000 ≤ b ∧ b ≤ 1000000) : ∃ v, mX8_fits K R M m (nI p) t x y = some v ∧ iv v (∀ (i : Nat) c, P.1[i]? = some c → inB (mvP ti a b c)) := by
  have h0 := hm.1
  have hpl := get_lt hp
  have h16 := hP.1.2.1
  have sz := size_ok hm hps hp h40
  have hC := hps.pc hp
  have hL := lp_ind (f := mX8_fits_L6 K R M m (nI p) t x y) (fun (i : Nat) (s : Int32 × Int32) => s.2 = nI i ∧ iv s.1 (∀ (j : Nat) c, j < i → P.1[j]? = some c → inB (mvP ti a b c))) (fun v => iv v (∀ (i : Nat) c, P.1[i]? = some c → inB (mvP ti a b c))) P.1.length ?_ ?_
  · obtain ⟨v, e1, e2⟩ := hL P.1.length 0 (1, nI 0) (by omega) ⟨rfl, Or.inl ⟨rfl, fun j c hj => absurd hj (by omega)⟩⟩
    refine ⟨v, ?_, e2⟩
    unfold mX8_fits
    (repeat (first | rw [ck_t (by first | with_reducible assumption | ((with_reducible apply ixA_of); (with_reducible assumption); omega; omega) | ((with_reducible apply isAr_of); (with_reducible assumption); decide) | ((with_reducible apply nI_ne0); omega; omega) | with_reducible exact isB_0 | with_reducible exact isB_1 | with_reducible exact isB_bI _)] | rw [bd_r (by with_reducible assumption)] | rw [bd_s] | rw [bd2_s] | rw [bd3_s] | rw [nm_s] | rw [nI_clamp (by omega)] | rw [nI_1] | rw [if_pos (by first | with_reducible assumption | ((with_reducible refine nI_lt ?_ ?_); omega; omega) | ((with_reducible refine nI_nlt ?_ ?_); omega; omega) | with_reducible exact ne10 | with_reducible rfl)] | rw [if_neg (by first | with_reducible assumption | ((with_reducible refine nI_lt ?_ ?_); omega; omega) | ((with_reducible refine nI_nlt ?_ ?_); omega; omega) | with_reducible exact ne10 | with_reducible rfl)]))
    exact e1
  · rintro i ⟨s, z⟩ hi ⟨rfl, f⟩
    obtain ⟨c, hc⟩ := get_ex hi
    obtain ⟨c1, c2⟩ := hC.2.1 i c hc
    obtain ⟨b1, b2, b3, b4⟩ := hP.1.B i c hc
    have k1 : mX8_get K R M m (nI p) (1 + 2 * nI i) = some (M.2 (m + 1) (37 * p + 1 + 2 * i)) := by
      rw [get_ok (a1 := 1 + 2 * nI i) (p := p) (w := 1 + 2 * i) hm (show nI 1 + nI 2 * nI i = _ by rw [pk_mul, nI_add]) (by omega) (by omega), Nat.add_assoc]
    have k2 : mX8_get K R M m (nI p) (2 + 2 * nI i) = some (M.2 (m + 1) (37 * p + 2 + 2 * i)) := by
      rw [get_ok (a1 := 2 + 2 * nI i) (p := p) (w := 2 + 2 * i) hm (show nI 2 + nI 2 * nI i = _ by rw [pk_mul, nI_add]) (by omega) (by omega), Nat.add_assoc]
    have m1 := pm1_mul64 ht h1 c1 (by omega) (by omega)
    have m2 := pm1_mul64 ht h1 c2 (by omega) (by omega)
    have w1 : -100000 ≤ ti * c.1 ∧ ti * c.1 ≤ 100000 := by rcases h1 with e | e <;> rw [e] <;> omega
    have w2 : -100000 ≤ ti * c.2 ∧ ti * c.2 ≤ 100000 := by rcases h1 with e | e <;> rw [e] <;> omega
    have a1 := add64 (x := t * M.2 (m + 1) (37 * p + 1 + 2 * i)) (y := x) (by rw [m1, hx]; omega) (by rw [m1, hx]; omega)
    have a2 := add64 (x := t * M.2 (m + 1) (37 * p + 2 + 2 * i)) (y := y) (by rw [m2, hy]; omega) (by rw [m2, hy]; omega)
    rw [m1, hx] at a1
    rw [m2, hy] at a2
    have pp : ((t * M.2 (m + 1) (37 * p + 1 + 2 * i) + x).toInt, (t * M.2 (m + 1) (37 * p + 2 + 2 * i) + y).toInt) = mvP ti a b c := by rw [a1, a2]; rfl
    have k0 : ∀ u, mX8_fits_J64 K R M m (nI p) t x y (nI i) u = some (.inl (u, nI (i + 1))) := fun u => by unfold mX8_fits_J64; (repeat (first | rw [ck_t (by first | with_reducible assumption | ((with_reducible apply ixA_of); (with_reducible assumption); omega; omega) | ((with_reducible apply isAr_of); (with_reducible assumption); decide) | ((with_reducible apply nI_ne0); omega; omega) | with_reducible exact isB_0 | with_reducible exact isB_1 | with_reducible exact isB_bI _)] | rw [bd_r (by with_reducible assumption)] | rw [bd_s] | rw [bd2_s] | rw [bd3_s] | rw [nm_s] | rw [nI_clamp (by omega)] | rw [nI_1] | rw [if_pos (by first | with_reducible assumption | ((with_reducible refine nI_lt ?_ ?_); omega; omega) | ((with_reducible refine nI_nlt ?_ ?_); omega; omega) | with_reducible exact ne10 | with_reducible rfl)] | rw [if_neg (by first | with_reducible assumption | ((with_reducible refine nI_lt ?_ ?_); omega; omega) | ((with_reducible refine nI_nlt ?_ ?_); omega; omega) | with_reducible exact ne10 | with_reducible rfl)]))
    have k3 : mX8_fits_J63 K R M m (nI p) t x y (nI i) = some (.inl (0, nI (i + 1))) := k0 0
    show (∃ s', mX8_fits_B6 K R M m (nI p) t x y s (nI i) = _ ∧ _) ∨ _
    left
    unfold mX8_fits_B6
    (repeat (first | rw [ck_t (by first | with_reducible assumption | ((with_reducible apply ixA_of); (with_reducible assumption); omega; omega) | ((with_reducible apply isAr_of); (with_reducible assumption); decide) | ((with_reducible apply nI_ne0); omega; omega) | with_reducible exact isB_0 | with_reducible exact isB_1 | with_reducible exact isB_bI _)] | rw [bd_r (by with_reducible assumption)] | rw [bd_s] | rw [bd2_s] | rw [bd3_s] | rw [nm_s] | rw [nI_clamp (by omega)] | rw [nI_1] | rw [bd_e (sz)] | rw [if_pos (by first | with_reducible assumption | ((with_reducible refine nI_lt ?_ ?_); omega; omega) | ((with_reducible refine nI_nlt ?_ ?_); omega; omega) | with_reducible exact ne10 | with_reducible rfl)] | rw [if_neg (by first | with_reducible assumption | ((with_reducible refine nI_lt ?_ ?_); omega; omega) | ((with_reducible refine nI_nlt ?_ ?_); omega; omega) | with_reducible exact ne10 | with_reducible rfl)]))
    rcases f with ⟨hs, f⟩ | ⟨hs, f⟩
    · have hs : s = 1 := hs
      subst hs
      by_cases cb : inB (mvP ti a b c)
      · (repeat (first | rw [ck_t (by first | with_reducible assumption | ((with_reducible apply ixA_of); (with_reducible assumption); omega; omega) | ((with_reducible apply isAr_of); (with_reducible assumption); decide) | ((with_reducible apply nI_ne0); omega; omega) | with_reducible exact isB_0 | with_reducible exact isB_1 | with_reducible exact isB_bI _)] | rw [bd_r (by with_reducible assumption)] | rw [bd_s] | rw [bd2_s] | rw [bd3_s] | rw [nm_s] | rw [nI_clamp (by omega)] | rw [nI_1] | rw [bd_e (k1)] | rw [bd_e (k2)] | rw [bd_e (isPlaceM_t (by rw [pp]; exact cb))] | rw [if_pos (by first | with_reducible assumption | ((with_reducible refine nI_lt ?_ ?_); omega; omega) | ((with_reducible refine nI_nlt ?_ ?_); omega; omega) | with_reducible exact ne10 | with_reducible rfl)] | rw [if_neg (by first | with_reducible assumption | ((with_reducible refine nI_lt ?_ ?_); omega; omega) | ((with_reducible refine nI_nlt ?_ ?_); omega; omega) | with_reducible exact ne10 | with_reducible rfl)]))
        refine ⟨_, k0 1, rfl, Or.inl ⟨rfl, fun j c' hj hc' => ?_⟩⟩
        by_cases q : j = i
        · subst q; rw [get_un hc' hc]; exact cb
        · exact f j c' (by omega) hc'
      · (repeat (first | rw [ck_t (by first | with_reducible assumption | ((with_reducible apply ixA_of); (with_reducible assumption); omega; omega) | ((with_reducible apply isAr_of); (with_reducible assumption); decide) | ((with_reducible apply nI_ne0); omega; omega) | with_reducible exact isB_0 | with_reducible exact isB_1 | with_reducible exact isB_bI _)] | rw [bd_r (by with_reducible assumption)] | rw [bd_s] | rw [bd2_s] | rw [bd3_s] | rw [nm_s] | rw [nI_clamp (by omega)] | rw [nI_1] | rw [bd_e (k1)] | rw [bd_e (k2)] | rw [bd_e (isPlaceM_f (by rw [pp]; exact cb))] | rw [if_pos (by first | with_reducible assumption | ((with_reducible refine nI_lt ?_ ?_); omega; omega) | ((with_reducible refine nI_nlt ?_ ?_); omega; omega) | with_reducible exact ne10 | with_reducible rfl)] | rw [if_neg (by first | with_reducible assumption | ((with_reducible refine nI_lt ?_ ?_); omega; omega) | ((with_reducible refine nI_nlt ?_ ?_); omega; omega) | with_reducible exact ne10 | with_reducible rfl)]))
        exact ⟨_, k3, rfl, Or.inr ⟨rfl, fun z => cb (z i c (by omega) hc)⟩⟩
    · have hs : s = 0 := hs
      subst hs
      (repeat (first | rw [ck_t (by first | with_reducible assumption | ((with_reducible apply ixA_of); (with_reducible assumption); omega; omega) | ((with_reducible apply isAr_of); (with_reducible assumption); decide) | ((with_reducible apply nI_ne0); omega; omega) | with_reducible exact isB_0 | with_reducible exact isB_1 | with_reducible exact isB_bI _)] | rw [bd_r (by with_reducible assumption)] | rw [bd_s] | rw [bd2_s] | rw [bd3_s] | rw [nm_s] | rw [nI_clamp (by omega)] | rw [nI_1] | rw [if_pos (by first | with_reducible assumption | ((with_reducible refine nI_lt ?_ ?_); omega; omega) | ((with_reducible refine nI_nlt ?_ ?_); omega; omega) | with_reducible exact ne10 | with_reducible rfl)] | rw [if_neg (by first | with_reducible assumption | ((with_reducible refine nI_lt ?_ ?_); omega; omega) | ((with_reducible refine nI_nlt ?_ ?_); omega; omega) | with_reducible exact ne10 | with_reducible rfl)]))
      exact ⟨_, k3, rfl, Or.inr ⟨rfl, fun z => f (fun j c' hj => z j c' (by omega))⟩⟩
  · rintro ⟨s, z⟩ ⟨rfl, f⟩
    have f : iv s _ := f
    have hb := f.b
    refine ⟨s, ?_, f.congr ⟨fun z i c hc => z i c (get_lt hc) hc, fun z i c _ hc => z i c hc⟩⟩
    show mX8_fits_B6 K R M m (nI p) t x y s (nI P.1.length) = _
    unfold mX8_fits_B6
    (repeat (first | rw [ck_t (by first | with_reducible assumption | ((with_reducible apply ixA_of); (with_reducible assumption); omega; omega) | ((with_reducible apply isAr_of); (with_reducible assumption); decide) | ((with_reducible apply nI_ne0); omega; omega) | with_reducible exact isB_0 | with_reducible exact isB_1 | with_reducible exact isB_bI _)] | rw [bd_r (by with_reducible assumption)] | rw [bd_s] | rw [bd2_s] | rw [bd3_s] | rw [nm_s] | rw [nI_clamp (by omega)] | rw [nI_1] | rw [bd_e (sz)] | rw [if_pos (by first | with_reducible assumption | ((with_reducible refine nI_lt ?_ ?_); omega; omega) | ((with_reducible refine nI_nlt ?_ ?_); omega; omega) | with_reducible exact ne10 | with_reducible rfl)] | rw [if_neg (by first | with_reducible assumption | ((with_reducible refine nI_lt ?_ ?_); omega; omega) | ((with_reducible refine nI_nlt ?_ ?_); omega; omega) | with_reducible exact ne10 | with_reducible rfl)]))
    rfl
theorem mv_both {o p : Nat} {S : Sx} {ps : List Pc} {P : Pc} {t x y : Int32} {t' x' y' : Int64} {ti a b : Int} (hI0 : Inv o K R M) (hs : skC K R o) (hm : moA K R (o + 2118)) (hw : WF S) (hc : clC R M o S) (ho : moC M (o + 2118) S) (hps : S.2.2.1[S.2.2.2.1]? = some ps) (hpp : isPs ps) (hp : ps[p]? = some P)
    (ht : t.toInt = ti) (h1 : ti = 1 ∨ ti = -1) (hx : x.toInt = a) (hy : y.toInt = b) (ba : -1000000 ≤ a ∧ a ≤ 1000000) (bb : -1000000 ≤ b ∧ b ≤ 1000000) (ht' : t'.toInt = ti) (hx' : x'.toInt = a) (hy' : y'.toInt = b) :
    ∃ (v : Int64) (R1 : Rr) (M1 : Mm) (M2 : Mm), mX7_moveTo K R M o (nI p) t x y = some (v, R1, M1) ∧ mX8_moved K R1 M1 (o + 2118) (nI p) t' x' y' = some (v, M2) ∧ Inv o K R1 M2 ∧ moA K R1 (o + 2118) ∧ M1.2 = M.2 := by
  have hs0 := hs
  have m0 := hm.1
  obtain ⟨c, hc1, hc2, hcA, hcC, hnow⟩ := now_at hs0 hw hc hps
  obtain ⟨f, d, hx0⟩ := hi_of hc
  have hq6 : psM (M.2 (o + 2118 + 1)) 0 ps := ho.2.2.2.2.2.1 ps hps
  have h40 := hpp.1
  have hpl := get_lt hp
  obtain ⟨s0, -, -, s2, -, -, -, -, -, -, s9, s10, -, -, -, -, -, -, ⟨i0, -⟩, -, -, -, -, -, -, -, r1, r2, -⟩ := hs
  have iP := hpp.2 p P hp
  have sP := iP.1.2.1
  have r10 := r1.1
  obtain ⟨g0, g1, g2, g3⟩ := hcA
  obtain ⟨k1, k2⟩ := g3 p (by omega)
  obtain ⟨k20, kr, ka⟩ := k2
  have kaO := ka.1
  have pC := hcC.2 p P hp
  have hd8 := hx0.1.1
  have hcd : cont o d = o + 22 + 162 * d := rfl
  have hls : ∃ k, isLs (P.1.map (mvP ti a b)) k := isLs_ex (fun q => by
    have : (P.1.map (mvP ti a b)).length = 0 := by rw [q]; rfl
    rw [List.length_map] at this
    have := iP.1.1
    omega) ((iP.1.2.2.1.map h1).ds (by rw [List.length_map]; exact iP.1.1))
  obtain ⟨k, hk⟩ := hls
  obtain ⟨M12, a1, a2, a3, a4⟩ := takeMoved_ok (M := M) r1 ka (by omega) (by omega) sP (by decide) (by decide) pC.1 iP.1.B ht h1 hx hy ba bb hk
  have ln : (norm (P.1.map (mvP ti a b))).length = P.1.length := by rw [norm_len, List.length_map]
  obtain ⟨v, b1, b2⟩ := isInBounds_ok r1 a2 (by omega) (by decide)
  have eqv : inBs (norm (P.1.map (mvP ti a b))) ↔ ∀ (i : Nat) c, P.1[i]? = some c → inB (mvP ti a b c) := by
    refine ⟨fun z i c hc => z.m _ (norm_mem.mpr (get_mem (map_get hc))), fun z => inBs_of (fun q hq => ?_)⟩
    obtain ⟨i, _, hi⟩ := mem_get (norm_mem.mp hq)
    obtain ⟨c, hc, rfl⟩ := get_map hi
    exact z i c hc
  have b3 := b2.congr eqv
  clear b2
  rcases b3 with ⟨rfl, b3⟩ | ⟨rfl, b3⟩
  · have hx12 : hiX R M12 o S.2.2.1 S.2.2.2.1 f d := hx0.fr hw.2.2.2.2.1 (fun i q hq => (hw.2.2.2.2.2.1 i q hq).fit) (fun b hb _ => (a3 b (by omega)).1)
    obtain ⟨M17, d1, d2, d3, d4⟩ := draft_ok hs0 hx12 hw.2.2.2.1 hw.2.2.2.2.1 hps hpp.fit
    have hdA := cont_psA hs0 hd8
    obtain ⟨e0, e1, e2, e3⟩ := hdA
    obtain ⟨l1, l2⟩ := e3 p (by omega)
    have l20 := l2.1
    generalize hcd0 : cont o d = cd at *
    let P' : Pc := (P.1, ti, a, b, P.2.2.2.2)
    have iP' : isPc P' := ⟨iP.1, h1, b3⟩
    generalize hM9 : pI (pI (pI M17 (cd + 2 + 4 * p) 1 t) (cd + 2 + 4 * p) 2 x) (cd + 2 + 4 * p) 3 y = M9
    have f9 : Fr (cd + 2 + 4 * p) (cd + 2 + 4 * p + 4) M17 M9 := by rw [← hM9]; exact ((Fr.rf.pI (by omega) (by omega)).pI (by omega) (by omega)).pI (by omega) (by omega)
    have p9 : pcC M9 (cd + 2 + 4 * p) P' := by
      obtain ⟨⟨u1, u2⟩, u3, u4, u5, u6⟩ := d2.2 p P hp
      have en : ∀ b, b ≠ cd + 2 + 4 * p → M9.1 b = M17.1 b := fun b hb => by rw [← hM9, pI_n hb, pI_n hb, pI_n hb]
      exact ⟨⟨by rw [en _ (by omega)]; exact u1, fun i q hq => by rw [en _ (by omega), en _ (by omega)]; exact u2 i q hq⟩, by rw [← hM9, pI_k (by decide), pI_k (by decide), pI_s]; exact ht, by rw [← hM9, pI_k (by decide), pI_s]; exact hx, by rw [← hM9, pI_s]; exact hy, by rw [← hM9, pI_k (by decide), pI_k (by decide), pI_k (by decide)]; exact u6⟩
    have hps9 := psC_set d2 hpl f9 p9
    have hl9 : M9.2 = M.2 := by rw [← hM9]; exact d4.trans a4
    subst hcd0
    obtain ⟨R1, M25, c1, c2, c3, c4, c5, c6, c7⟩ := chg hs0 hm hw hc ho hx0 (isPs_set hpp iP') hps9 (fun b hb h => by rw [(f9 b (by omega)).1, (d3 b h).1, (a3 b (by omega)).1]) hl9 (fun b hb => by rw [(f9 b (by omega)).1, (d3 b (by omega)).1, (a3 b (by omega)).1])
    obtain ⟨N, n1, n2, n3⟩ := c7 M25 [] [] FM.rf (by decide) (by decide) (by decide) (fun j hj => by cases hj)
    have hq25 : psM (M25.2 (o + 2118 + 1)) 0 ps := by rw [c5]; exact hq6
    have hqN := hq25.fr n2 (by decide)
    have c40 := c4.1
    obtain ⟨w, w1, w2⟩ := fits_ok c4 hq25 hp h40 iP ht' h1 hx' hy' ba bb
    refine ⟨0, R1, M25, _, ?_, ?_, n3 (pL (pL (pL N (o + 2118 + 1) (37 * p + 33) t') (o + 2118 + 1) (37 * p + 34) x') (o + 2118 + 1) (37 * p + 35) y') [] [1] (((FM.rf.pL (by decide)).pL (by decide)).pL (by decide)) (by decide) (by decide) (by decide) (fun j hj => Or.inl (List.mem_singleton.mp hj)) ?_, c4, c5⟩
    · unfold mX7_moveTo
      (repeat (first | rw [ck_t (by first | with_reducible assumption | ((with_reducible apply ixA_of); (with_reducible assumption); omega; omega) | ((with_reducible apply isAr_of); (with_reducible assumption); decide) | ((with_reducible apply nI_ne0); omega; omega) | with_reducible exact isB_0 | with_reducible exact isB_1 | with_reducible exact isB_bI _)] | rw [bd_r (by with_reducible assumption)] | rw [bd_s] | rw [bd2_s] | rw [bd3_s] | rw [nm_s] | rw [nI_clamp (by omega)] | rw [nI_1] | rw [bd_e (hnow M rfl)] | rw [bd_e (a1)] | rw [bd_e (b1)] | rw [bd2_e (d1)] | rw [bd_e (setMove_ok l20)] | rw [hM9] | rw [bd2_e (c1)] | rw [if_pos (by first | with_reducible assumption | ((with_reducible refine nI_lt ?_ ?_); omega; omega) | ((with_reducible refine nI_nlt ?_ ?_); omega; omega) | with_reducible exact ne10 | with_reducible rfl)] | rw [if_neg (by first | with_reducible assumption | ((with_reducible refine nI_lt ?_ ?_); omega; omega) | ((with_reducible refine nI_nlt ?_ ?_); omega; omega) | with_reducible exact ne10 | with_reducible rfl)]))
    · unfold mX8_moved
      (repeat (first | rw [ck_t (by first | with_reducible assumption | ((with_reducible apply ixA_of); (with_reducible assumption); omega; omega) | ((with_reducible apply isAr_of); (with_reducible assumption); decide) | ((with_reducible apply nI_ne0); omega; omega) | with_reducible exact isB_0 | with_reducible exact isB_1 | with_reducible exact isB_bI _)] | rw [bd_r (by with_reducible assumption)] | rw [bd_s] | rw [bd2_s] | rw [bd3_s] | rw [nm_s] | rw [nI_clamp (by omega)] | rw [nI_1] | rw [bd_e (w1)] | rw [if_pos (by first | with_reducible assumption | ((with_reducible refine nI_lt ?_ ?_); omega; omega) | ((with_reducible refine nI_nlt ?_ ?_); omega; omega) | with_reducible exact ne10 | with_reducible rfl)] | rw [if_neg (by first | with_reducible assumption | ((with_reducible refine nI_lt ?_ ?_); omega; omega) | ((with_reducible refine nI_nlt ?_ ?_); omega; omega) | with_reducible exact ne10 | with_reducible rfl)]))
      rcases w2 with ⟨rfl, w2⟩ | ⟨rfl, w2⟩
      · (repeat (first | rw [ck_t (by first | with_reducible assumption | ((with_reducible apply ixA_of); (with_reducible assumption); omega; omega) | ((with_reducible apply isAr_of); (with_reducible assumption); decide) | ((with_reducible apply nI_ne0); omega; omega) | with_reducible exact isB_0 | with_reducible exact isB_1 | with_reducible exact isB_bI _)] | rw [bd_r (by with_reducible assumption)] | rw [bd_s] | rw [bd2_s] | rw [bd3_s] | rw [nm_s] | rw [nI_clamp (by omega)] | rw [nI_1] | rw [bd_e (n1)] | rw [bd_e (moveM_ok c4 (show p < 40 by omega))] | rw [if_pos (by first | with_reducible assumption | ((with_reducible refine nI_lt ?_ ?_); omega; omega) | ((with_reducible refine nI_nlt ?_ ?_); omega; omega) | with_reducible exact ne10 | with_reducible rfl)] | rw [if_neg (by first | with_reducible assumption | ((with_reducible refine nI_lt ?_ ?_); omega; omega) | ((with_reducible refine nI_nlt ?_ ?_); omega; omega) | with_reducible exact ne10 | with_reducible rfl)]))
      · exact absurd b3 w2
    · refine psM_set (P := P') hqN hpp.fit hpl (fun j hj => by rw [pL_k (by omega), pL_k (by omega), pL_k (by omega)]) ?_
      obtain ⟨u1, u2, u3, u4, u5, u6⟩ := hqN.pc hp
      refine ⟨by rw [pL_k (by omega), pL_k (by omega), pL_k (by omega)]; exact u1, fun i q hq => ?_, by rw [pL_k (by omega), pL_k (by omega), pL_s]; exact ht', by rw [pL_k (by omega), pL_s]; exact hx', by rw [pL_s]; exact hy', by rw [pL_k (by omega), pL_k (by omega), pL_k (by omega)]; exact u6⟩
      have hi : i < P.1.length := get_lt hq
      rw [pL_k (by omega), pL_k (by omega), pL_k (by omega), pL_k (by omega), pL_k (by omega), pL_k (by omega)]
      exact u2 i q hq
  · have hq12 : psM (M12.2 (o + 2118 + 1)) 0 ps := by rw [a4]; exact hq6
    obtain ⟨w, w1, w2⟩ := fits_ok hm hq12 hp h40 iP ht' h1 hx' hy' ba bb
    refine ⟨-9000000000000000001, R, M12, M12, ?_, ?_, hI0.kp (Kp.fr a3 (by omega)), hm, a4⟩
    · unfold mX7_moveTo
      (repeat (first | rw [ck_t (by first | with_reducible assumption | ((with_reducible apply ixA_of); (with_reducible assumption); omega; omega) | ((with_reducible apply isAr_of); (with_reducible assumption); decide) | ((with_reducible apply nI_ne0); omega; omega) | with_reducible exact isB_0 | with_reducible exact isB_1 | with_reducible exact isB_bI _)] | rw [bd_r (by with_reducible assumption)] | rw [bd_s] | rw [bd2_s] | rw [bd3_s] | rw [nm_s] | rw [nI_clamp (by omega)] | rw [nI_1] | rw [bd_e (hnow M rfl)] | rw [bd_e (a1)] | rw [bd_e (b1)] | rw [if_pos (by first | with_reducible assumption | ((with_reducible refine nI_lt ?_ ?_); omega; omega) | ((with_reducible refine nI_nlt ?_ ?_); omega; omega) | with_reducible exact ne10 | with_reducible rfl)] | rw [if_neg (by first | with_reducible assumption | ((with_reducible refine nI_lt ?_ ?_); omega; omega) | ((with_reducible refine nI_nlt ?_ ?_); omega; omega) | with_reducible exact ne10 | with_reducible rfl)]))
    · unfold mX8_moved
      (repeat (first | rw [ck_t (by first | with_reducible assumption | ((with_reducible apply ixA_of); (with_reducible assumption); omega; omega) | ((with_reducible apply isAr_of); (with_reducible assumption); decide) | ((with_reducible apply nI_ne0); omega; omega) | with_reducible exact isB_0 | with_reducible exact isB_1 | with_reducible exact isB_bI _)] | rw [bd_r (by with_reducible assumption)] | rw [bd_s] | rw [bd2_s] | rw [bd3_s] | rw [nm_s] | rw [nI_clamp (by omega)] | rw [nI_1] | rw [bd_e (w1)] | rw [if_pos (by first | with_reducible assumption | ((with_reducible refine nI_lt ?_ ?_); omega; omega) | ((with_reducible refine nI_nlt ?_ ?_); omega; omega) | with_reducible exact ne10 | with_reducible rfl)] | rw [if_neg (by first | with_reducible assumption | ((with_reducible refine nI_lt ?_ ?_); omega; omega) | ((with_reducible refine nI_nlt ?_ ?_); omega; omega) | with_reducible exact ne10 | with_reducible rfl)]))
      rcases w2 with ⟨rfl, w2⟩ | ⟨rfl, w2⟩
      · exact absurd w2 b3
      · rw [if_pos rfl]
end MVS
theorem within_cases {K : Kk} {R R' : Rr} {M M' : Mm} (x : Int32) : (mX7_isWithin K R M x 200000 = some 1 ∧ mX8_isIn K R' M' x.toInt64 (-200000) 200000 = some 1 ∧ -200000 ≤ x.toInt ∧ x.toInt ≤ 200000) ∨ (mX7_isWithin K R M x 200000 = some 0 ∧ mX8_isIn K R' M' x.toInt64 (-200000) 200000 = some 0) := by
  by_cases h : -200000 ≤ x.toInt ∧ x.toInt ≤ 200000
  · exact Or.inl ⟨isWithin_t (n := 200000) (by decide) (by decide) h.1 h.2, isIn_t (by rw [i64_int]; exact h.1) (by rw [i64_int]; exact h.2), h⟩
  · exact Or.inr ⟨isWithin_f (n := 200000) (by decide) (by decide) h, isIn_f (by rw [i64_int]; exact h)⟩
theorem inv_slide (o : Nat) (K : Kk) (R : Rr) (M : Mm) (a0 a1 a2 : Int32) (hI : Inv o K R M) : ∃ (v : Int64) (R1 : Rr) (M1 : Mm) (M2 : Mm), mX7_slide K R M o a0 a1 a2 = some (v, R1, M1) ∧ mX8_slide K R1 M1 (o + 2118) a0 a1 a2 = some (v, M2) ∧ Inv o K R1 M2 := by
  have hI0 := hI
  obtain ⟨hs, hm, S, hw, hc, ho⟩ := hI
  have hs0 := hs
  have m0 := hm.1
  obtain ⟨ps, hps, hpp⟩ := now_ps hw
  obtain ⟨c, hc1, hc2, hcA, hcC, hnow⟩ := now_at hs0 hw hc hps
  have hq6 : psM (M.2 (o + 2118 + 1)) 0 ps := ho.2.2.2.2.2.1 ps hps
  have h40 := hpp.1
  have hn := hcC.1
  obtain ⟨s0, -, -, s2, -, -, -, -, -, -, s9, s10, -, -, -, -, -, -, ⟨i0, -⟩, -, -, -, -, -, -, -, r1, r2, -⟩ := hs
  rcases cases_n a0 ps.length (by omega) with h | ⟨p, hp, rfl⟩
  · refine ⟨-9000000000000000001, R, M, M, ?_, ?_, hI0⟩
    · unfold mX7_slide
      (repeat (first | rw [ck_t (by first | with_reducible assumption | ((with_reducible apply ixA_of); (with_reducible assumption); omega; omega) | ((with_reducible apply isAr_of); (with_reducible assumption); decide) | ((with_reducible apply nI_ne0); omega; omega) | with_reducible exact isB_0 | with_reducible exact isB_1 | with_reducible exact isB_bI _)] | rw [bd_r (by with_reducible assumption)] | rw [bd_s] | rw [bd2_s] | rw [bd3_s] | rw [nm_s] | rw [nI_clamp (by omega)] | rw [nI_1] | rw [bd_e (isPiece_f hs0 hcA hn (hnow M rfl) h)] | rw [if_pos (by first | with_reducible assumption | ((with_reducible refine nI_lt ?_ ?_); omega; omega) | ((with_reducible refine nI_nlt ?_ ?_); omega; omega) | with_reducible exact ne10 | with_reducible rfl)] | rw [if_neg (by first | with_reducible assumption | ((with_reducible refine nI_lt ?_ ?_); omega; omega) | ((with_reducible refine nI_nlt ?_ ?_); omega; omega) | with_reducible exact ne10 | with_reducible rfl)]))
    · unfold mX8_slide
      (repeat (first | rw [ck_t (by first | with_reducible assumption | ((with_reducible apply ixA_of); (with_reducible assumption); omega; omega) | ((with_reducible apply isAr_of); (with_reducible assumption); decide) | ((with_reducible apply nI_ne0); omega; omega) | with_reducible exact isB_0 | with_reducible exact isB_1 | with_reducible exact isB_bI _)] | rw [bd_r (by with_reducible assumption)] | rw [bd_s] | rw [bd2_s] | rw [bd3_s] | rw [nm_s] | rw [nI_clamp (by omega)] | rw [nI_1] | rw [bd_e (isPieceM_f hm hq6 h h40)] | rw [if_pos (by first | with_reducible assumption | ((with_reducible refine nI_lt ?_ ?_); omega; omega) | ((with_reducible refine nI_nlt ?_ ?_); omega; omega) | with_reducible exact ne10 | with_reducible rfl)] | rw [if_neg (by first | with_reducible assumption | ((with_reducible refine nI_lt ?_ ?_); omega; omega) | ((with_reducible refine nI_nlt ?_ ?_); omega; omega) | with_reducible exact ne10 | with_reducible rfl)]))
  · have q1 := isPiece_t hs0 hcA hn (hnow M rfl) hp h40
    have q2 := isPieceM_t hm hq6 hp h40
    rcases within_cases (K := K) (R := R) (M := M) (R' := R) (M' := M) a1 with ⟨u1, u2, u3, u4⟩ | ⟨u1, u2⟩
    · rcases within_cases (K := K) (R := R) (M := M) (R' := R) (M' := M) a2 with ⟨w1, w2, w3, w4⟩ | ⟨w1, w2⟩
      · obtain ⟨P, hP⟩ := get_ex hp
        have iP := hpp.2 p P hP
        obtain ⟨⟨v1, v2⟩, v3, v4⟩ := iP.mv
        obtain ⟨g0, g1, g2, g3⟩ := hcA
        obtain ⟨k1, k2⟩ := g3 p (by omega)
        have k20 := k2.1
        have pC := hcC.2 p P hP
        obtain ⟨-, -, z33, z34, z35, -⟩ := hq6.pc hP
        have t2 := iP.2.1
        have x0 : (M.1 (c + 2 + 4 * p) 1).toInt = P.2.1 := pC.2.1
        have x1 : (M.1 (c + 2 + 4 * p) 2 + a1).toInt = P.2.2.1 + a1.toInt := by rw [add32 (by rw [pC.2.2.1]; omega) (by rw [pC.2.2.1]; omega), pC.2.2.1]
        have x2 : (M.1 (c + 2 + 4 * p) 3 + a2).toInt = P.2.2.2.1 + a2.toInt := by rw [add32 (by rw [pC.2.2.2.1]; omega) (by rw [pC.2.2.2.1]; omega), pC.2.2.2.1]
        have y0 : (M.2 (o + 2118 + 1) (37 * p + 33)).toInt = P.2.1 := z33
        have y1 : (M.2 (o + 2118 + 1) (37 * p + 34) + a1.toInt64).toInt = P.2.2.1 + a1.toInt := by rw [add64 (by rw [z34, i64_int]; omega) (by rw [z34, i64_int]; omega), z34, i64_int]
        have y2 : (M.2 (o + 2118 + 1) (37 * p + 35) + a2.toInt64).toInt = P.2.2.2.1 + a2.toInt := by rw [add64 (by rw [z35, i64_int]; omega) (by rw [z35, i64_int]; omega), z35, i64_int]
        obtain ⟨v, R1, M1, M2, d1, d2, d3, d4, d5⟩ := mv_both (t := M.1 (c + 2 + 4 * p) 1) (x := M.1 (c + 2 + 4 * p) 2 + a1) (y := M.1 (c + 2 + 4 * p) 3 + a2) (t' := M.2 (o + 2118 + 1) (37 * p + 33)) (x' := M.2 (o + 2118 + 1) (37 * p + 34) + a1.toInt64) (y' := M.2 (o + 2118 + 1) (37 * p + 35) + a2.toInt64) hI0 hs0 hm hw hc ho hps hpp hP x0 t2 x1 x2 (by omega) (by omega) y0 y1 y2
        have hq7 : psM (M1.2 (o + 2118 + 1)) 0 ps := by rw [d5]; exact hq6
        have d40 := d4.1
        have q3 := isPieceM_t d4 hq7 hp h40
        have g33 : mX8_get K R1 M1 (o + 2118) (nI p) 33 = some (M.2 (o + 2118 + 1) (37 * p + 33)) := by rw [get_ok (a1 := 33) (w := 33) d4 rfl (by omega) (by omega), d5]
        have g34 : mX8_get K R1 M1 (o + 2118) (nI p) 34 = some (M.2 (o + 2118 + 1) (37 * p + 34)) := by rw [get_ok (a1 := 34) (w := 34) d4 rfl (by omega) (by omega), d5]
        have g35 : mX8_get K R1 M1 (o + 2118) (nI p) 35 = some (M.2 (o + 2118 + 1) (37 * p + 35)) := by rw [get_ok (a1 := 35) (w := 35) d4 rfl (by omega) (by omega), d5]
        refine ⟨v, R1, M1, M2, ?_, ?_, d3⟩
        · unfold mX7_slide
          (repeat (first | rw [ck_t (by first | with_reducible assumption | ((with_reducible apply ixA_of); (with_reducible assumption); omega; omega) | ((with_reducible apply isAr_of); (with_reducible assumption); decide) | ((with_reducible apply nI_ne0); omega; omega) | with_reducible exact isB_0 | with_reducible exact isB_1 | with_reducible exact isB_bI _)] | rw [bd_r (by with_reducible assumption)] | rw [bd_s] | rw [bd2_s] | rw [bd3_s] | rw [nm_s] | rw [nI_clamp (by omega)] | rw [nI_1] | rw [bd_e (q1)] | rw [bd_e (u1)] | rw [bd_e (w1)] | rw [bd_e (hnow M rfl)] | rw [bd3_e d1] | rw [if_pos (by first | with_reducible assumption | ((with_reducible refine nI_lt ?_ ?_); omega; omega) | ((with_reducible refine nI_nlt ?_ ?_); omega; omega) | with_reducible exact ne10 | with_reducible rfl)] | rw [if_neg (by first | with_reducible assumption | ((with_reducible refine nI_lt ?_ ?_); omega; omega) | ((with_reducible refine nI_nlt ?_ ?_); omega; omega) | with_reducible exact ne10 | with_reducible rfl)]))
        · unfold mX8_slide
          have u2' : mX8_isIn K R1 M1 a1.toInt64 (-200000) 200000 = some 1 := u2
          have w2' : mX8_isIn K R1 M1 a2.toInt64 (-200000) 200000 = some 1 := w2
          (repeat (first | rw [ck_t (by first | with_reducible assumption | ((with_reducible apply ixA_of); (with_reducible assumption); omega; omega) | ((with_reducible apply isAr_of); (with_reducible assumption); decide) | ((with_reducible apply nI_ne0); omega; omega) | with_reducible exact isB_0 | with_reducible exact isB_1 | with_reducible exact isB_bI _)] | rw [bd_r (by with_reducible assumption)] | rw [bd_s] | rw [bd2_s] | rw [bd3_s] | rw [nm_s] | rw [nI_clamp (by omega)] | rw [nI_1] | rw [bd_e (q3)] | rw [bd_e (u2')] | rw [bd_e (w2')] | rw [bd_e (g33)] | rw [bd_e (g34)] | rw [bd_e (g35)] | rw [bd2_e (d2)] | rw [if_pos (by first | with_reducible assumption | ((with_reducible refine nI_lt ?_ ?_); omega; omega) | ((with_reducible refine nI_nlt ?_ ?_); omega; omega) | with_reducible exact ne10 | with_reducible rfl)] | rw [if_neg (by first | with_reducible assumption | ((with_reducible refine nI_lt ?_ ?_); omega; omega) | ((with_reducible refine nI_nlt ?_ ?_); omega; omega) | with_reducible exact ne10 | with_reducible rfl)]))
      · refine ⟨-9000000000000000001, R, M, M, ?_, ?_, hI0⟩
        · unfold mX7_slide
          (repeat (first | rw [ck_t (by first | with_reducible assumption | ((with_reducible apply ixA_of); (with_reducible assumption); omega; omega) | ((with_reducible apply isAr_of); (with_reducible assumption); decide) | ((with_reducible apply nI_ne0); omega; omega) | with_reducible exact isB_0 | with_reducible exact isB_1 | with_reducible exact isB_bI _)] | rw [bd_r (by with_reducible assumption)] | rw [bd_s] | rw [bd2_s] | rw [bd3_s] | rw [nm_s] | rw [nI_clamp (by omega)] | rw [nI_1] | rw [bd_e (q1)] | rw [bd_e (u1)] | rw [bd_e (w1)] | rw [if_pos (by first | with_reducible assumption | ((with_reducible refine nI_lt ?_ ?_); omega; omega) | ((with_reducible refine nI_nlt ?_ ?_); omega; omega) | with_reducible exact ne10 | with_reducible rfl)] | rw [if_neg (by first | with_reducible assumption | ((with_reducible refine nI_lt ?_ ?_); omega; omega) | ((with_reducible refine nI_nlt ?_ ?_); omega; omega) | with_reducible exact ne10 | with_reducible rfl)]))
        · unfold mX8_slide
          (repeat (first | rw [ck_t (by first | with_reducible assumption | ((with_reducible apply ixA_of); (with_reducible assumption); omega; omega) | ((with_reducible apply isAr_of); (with_reducible assumption); decide) | ((with_reducible apply nI_ne0); omega; omega) | with_reducible exact isB_0 | with_reducible exact isB_1 | with_reducible exact isB_bI _)] | rw [bd_r (by with_reducible assumption)] | rw [bd_s] | rw [bd2_s] | rw [bd3_s] | rw [nm_s] | rw [nI_clamp (by omega)] | rw [nI_1] | rw [bd_e (q2)] | rw [bd_e (u2)] | rw [bd_e (w2)] | rw [if_pos (by first | with_reducible assumption | ((with_reducible refine nI_lt ?_ ?_); omega; omega) | ((with_reducible refine nI_nlt ?_ ?_); omega; omega) | with_reducible exact ne10 | with_reducible rfl)] | rw [if_neg (by first | with_reducible assumption | ((with_reducible refine nI_lt ?_ ?_); omega; omega) | ((with_reducible refine nI_nlt ?_ ?_); omega; omega) | with_reducible exact ne10 | with_reducible rfl)]))
    · refine ⟨-9000000000000000001, R, M, M, ?_, ?_, hI0⟩
      · unfold mX7_slide
        (repeat (first | rw [ck_t (by first | with_reducible assumption | ((with_reducible apply ixA_of); (with_reducible assumption); omega; omega) | ((with_reducible apply isAr_of); (with_reducible assumption); decide) | ((with_reducible apply nI_ne0); omega; omega) | with_reducible exact isB_0 | with_reducible exact isB_1 | with_reducible exact isB_bI _)] | rw [bd_r (by with_reducible assumption)] | rw [bd_s] | rw [bd2_s] | rw [bd3_s] | rw [nm_s] | rw [nI_clamp (by omega)] | rw [nI_1] | rw [bd_e (q1)] | rw [bd_e (u1)] | rw [if_pos (by first | with_reducible assumption | ((with_reducible refine nI_lt ?_ ?_); omega; omega) | ((with_reducible refine nI_nlt ?_ ?_); omega; omega) | with_reducible exact ne10 | with_reducible rfl)] | rw [if_neg (by first | with_reducible assumption | ((with_reducible refine nI_lt ?_ ?_); omega; omega) | ((with_reducible refine nI_nlt ?_ ?_); omega; omega) | with_reducible exact ne10 | with_reducible rfl)]))
      · unfold mX8_slide
        (repeat (first | rw [ck_t (by first | with_reducible assumption | ((with_reducible apply ixA_of); (with_reducible assumption); omega; omega) | ((with_reducible apply isAr_of); (with_reducible assumption); decide) | ((with_reducible apply nI_ne0); omega; omega) | with_reducible exact isB_0 | with_reducible exact isB_1 | with_reducible exact isB_bI _)] | rw [bd_r (by with_reducible assumption)] | rw [bd_s] | rw [bd2_s] | rw [bd3_s] | rw [nm_s] | rw [nI_clamp (by omega)] | rw [nI_1] | rw [bd_e (q2)] | rw [bd_e (u2)] | rw [if_pos (by first | with_reducible assumption | ((with_reducible refine nI_lt ?_ ?_); omega; omega) | ((with_reducible refine nI_nlt ?_ ?_); omega; omega) | with_reducible exact ne10 | with_reducible rfl)] | rw [if_neg (by first | with_reducible assumption | ((with_reducible refine nI_lt ?_ ?_); omega; omega) | ((with_reducible refine nI_nlt ?_ ?_); omega; omega) | with_reducible exact ne10 | with_reducible rfl)]))
theorem inv_half (o : Nat) (K : Kk) (R : Rr) (M : Mm) (a0 a1 a2 : Int32) (hI : Inv o K R M) : ∃ (v : Int64) (R1 : Rr) (M1 : Mm) (M2 : Mm), mX7_half K R M o a0 a1 a2 = some (v, R1, M1) ∧ mX8_half K R1 M1 (o + 2118) a0 a1 a2 = some (v, M2) ∧ Inv o K R1 M2 := by
  have hI0 := hI
  obtain ⟨hs, hm, S, hw, hc, ho⟩ := hI
  have hs0 := hs
  have m0 := hm.1
  obtain ⟨ps, hps, hpp⟩ := now_ps hw
  obtain ⟨c, hc1, hc2, hcA, hcC, hnow⟩ := now_at hs0 hw hc hps
  have hq6 : psM (M.2 (o + 2118 + 1)) 0 ps := ho.2.2.2.2.2.1 ps hps
  have h40 := hpp.1
  have hn := hcC.1
  obtain ⟨s0, -, -, s2, -, -, -, -, -, -, s9, s10, -, -, -, -, -, -, ⟨i0, -⟩, -, -, -, -, -, -, -, r1, r2, -⟩ := hs
  rcases cases_n a0 ps.length (by omega) with h | ⟨p, hp, rfl⟩
  · refine ⟨-9000000000000000001, R, M, M, ?_, ?_, hI0⟩
    · unfold mX7_half
      (repeat (first | rw [ck_t (by first | with_reducible assumption | ((with_reducible apply ixA_of); (with_reducible assumption); omega; omega) | ((with_reducible apply isAr_of); (with_reducible assumption); decide) | ((with_reducible apply nI_ne0); omega; omega) | with_reducible exact isB_0 | with_reducible exact isB_1 | with_reducible exact isB_bI _)] | rw [bd_r (by with_reducible assumption)] | rw [bd_s] | rw [bd2_s] | rw [bd3_s] | rw [nm_s] | rw [nI_clamp (by omega)] | rw [nI_1] | rw [bd_e (isPiece_f hs0 hcA hn (hnow M rfl) h)] | rw [if_pos (by first | with_reducible assumption | ((with_reducible refine nI_lt ?_ ?_); omega; omega) | ((with_reducible refine nI_nlt ?_ ?_); omega; omega) | with_reducible exact ne10 | with_reducible rfl)] | rw [if_neg (by first | with_reducible assumption | ((with_reducible refine nI_lt ?_ ?_); omega; omega) | ((with_reducible refine nI_nlt ?_ ?_); omega; omega) | with_reducible exact ne10 | with_reducible rfl)]))
    · unfold mX8_half
      (repeat (first | rw [ck_t (by first | with_reducible assumption | ((with_reducible apply ixA_of); (with_reducible assumption); omega; omega) | ((with_reducible apply isAr_of); (with_reducible assumption); decide) | ((with_reducible apply nI_ne0); omega; omega) | with_reducible exact isB_0 | with_reducible exact isB_1 | with_reducible exact isB_bI _)] | rw [bd_r (by with_reducible assumption)] | rw [bd_s] | rw [bd2_s] | rw [bd3_s] | rw [nm_s] | rw [nI_clamp (by omega)] | rw [nI_1] | rw [bd_e (isPieceM_f hm hq6 h h40)] | rw [if_pos (by first | with_reducible assumption | ((with_reducible refine nI_lt ?_ ?_); omega; omega) | ((with_reducible refine nI_nlt ?_ ?_); omega; omega) | with_reducible exact ne10 | with_reducible rfl)] | rw [if_neg (by first | with_reducible assumption | ((with_reducible refine nI_lt ?_ ?_); omega; omega) | ((with_reducible refine nI_nlt ?_ ?_); omega; omega) | with_reducible exact ne10 | with_reducible rfl)]))
  · have q1 := isPiece_t hs0 hcA hn (hnow M rfl) hp h40
    have q2 := isPieceM_t hm hq6 hp h40
    rcases within_cases (K := K) (R := R) (M := M) (R' := R) (M' := M) a1 with ⟨u1, u2, u3, u4⟩ | ⟨u1, u2⟩
    · rcases within_cases (K := K) (R := R) (M := M) (R' := R) (M' := M) a2 with ⟨w1, w2, w3, w4⟩ | ⟨w1, w2⟩
      · obtain ⟨P, hP⟩ := get_ex hp
        have iP := hpp.2 p P hP
        obtain ⟨⟨v1, v2⟩, v3, v4⟩ := iP.mv
        obtain ⟨g0, g1, g2, g3⟩ := hcA
        obtain ⟨k1, k2⟩ := g3 p (by omega)
        have k20 := k2.1
        have pC := hcC.2 p P hP
        obtain ⟨-, -, z33, z34, z35, -⟩ := hq6.pc hP
        have t2 := iP.2.1
        have x0 : (-M.1 (c + 2 + 4 * p) 1).toInt = -P.2.1 := by rw [neg32 (by rw [pC.2.1]; omega), pC.2.1]
        have x1 : (a1 - M.1 (c + 2 + 4 * p) 2).toInt = a1.toInt - P.2.2.1 := by rw [sub32 (by rw [pC.2.2.1]; omega) (by rw [pC.2.2.1]; omega), pC.2.2.1]
        have x2 : (a2 - M.1 (c + 2 + 4 * p) 3).toInt = a2.toInt - P.2.2.2.1 := by rw [sub32 (by rw [pC.2.2.2.1]; omega) (by rw [pC.2.2.2.1]; omega), pC.2.2.2.1]
        have y0 : (-M.2 (o + 2118 + 1) (37 * p + 33)).toInt = -P.2.1 := by rw [neg64 (by rw [z33]; omega), z33]
        have y1 : (a1.toInt64 - M.2 (o + 2118 + 1) (37 * p + 34)).toInt = a1.toInt - P.2.2.1 := by rw [sub64 (by rw [z34, i64_int]; omega) (by rw [z34, i64_int]; omega), z34, i64_int]
        have y2 : (a2.toInt64 - M.2 (o + 2118 + 1) (37 * p + 35)).toInt = a2.toInt - P.2.2.2.1 := by rw [sub64 (by rw [z35, i64_int]; omega) (by rw [z35, i64_int]; omega), z35, i64_int]
        obtain ⟨v, R1, M1, M2, d1, d2, d3, d4, d5⟩ := mv_both (t := -M.1 (c + 2 + 4 * p) 1) (x := a1 - M.1 (c + 2 + 4 * p) 2) (y := a2 - M.1 (c + 2 + 4 * p) 3) (t' := -M.2 (o + 2118 + 1) (37 * p + 33)) (x' := a1.toInt64 - M.2 (o + 2118 + 1) (37 * p + 34)) (y' := a2.toInt64 - M.2 (o + 2118 + 1) (37 * p + 35)) hI0 hs0 hm hw hc ho hps hpp hP x0 (by omega) x1 x2 (by omega) (by omega) y0 y1 y2
        have hq7 : psM (M1.2 (o + 2118 + 1)) 0 ps := by rw [d5]; exact hq6
        have d40 := d4.1
        have q3 := isPieceM_t d4 hq7 hp h40
        have g33 : mX8_get K R1 M1 (o + 2118) (nI p) 33 = some (M.2 (o + 2118 + 1) (37 * p + 33)) := by rw [get_ok (a1 := 33) (w := 33) d4 rfl (by omega) (by omega), d5]
        have g34 : mX8_get K R1 M1 (o + 2118) (nI p) 34 = some (M.2 (o + 2118 + 1) (37 * p + 34)) := by rw [get_ok (a1 := 34) (w := 34) d4 rfl (by omega) (by omega), d5]
        have g35 : mX8_get K R1 M1 (o + 2118) (nI p) 35 = some (M.2 (o + 2118 + 1) (37 * p + 35)) := by rw [get_ok (a1 := 35) (w := 35) d4 rfl (by omega) (by omega), d5]
        refine ⟨v, R1, M1, M2, ?_, ?_, d3⟩
        · unfold mX7_half
          (repeat (first | rw [ck_t (by first | with_reducible assumption | ((with_reducible apply ixA_of); (with_reducible assumption); omega; omega) | ((with_reducible apply isAr_of); (with_reducible assumption); decide) | ((with_reducible apply nI_ne0); omega; omega) | with_reducible exact isB_0 | with_reducible exact isB_1 | with_reducible exact isB_bI _)] | rw [bd_r (by with_reducible assumption)] | rw [bd_s] | rw [bd2_s] | rw [bd3_s] | rw [nm_s] | rw [nI_clamp (by omega)] | rw [nI_1] | rw [bd_e (q1)] | rw [bd_e (u1)] | rw [bd_e (w1)] | rw [bd_e (hnow M rfl)] | rw [bd3_e d1] | rw [if_pos (by first | with_reducible assumption | ((with_reducible refine nI_lt ?_ ?_); omega; omega) | ((with_reducible refine nI_nlt ?_ ?_); omega; omega) | with_reducible exact ne10 | with_reducible rfl)] | rw [if_neg (by first | with_reducible assumption | ((with_reducible refine nI_lt ?_ ?_); omega; omega) | ((with_reducible refine nI_nlt ?_ ?_); omega; omega) | with_reducible exact ne10 | with_reducible rfl)]))
        · unfold mX8_half
          have u2' : mX8_isIn K R1 M1 a1.toInt64 (-200000) 200000 = some 1 := u2
          have w2' : mX8_isIn K R1 M1 a2.toInt64 (-200000) 200000 = some 1 := w2
          (repeat (first | rw [ck_t (by first | with_reducible assumption | ((with_reducible apply ixA_of); (with_reducible assumption); omega; omega) | ((with_reducible apply isAr_of); (with_reducible assumption); decide) | ((with_reducible apply nI_ne0); omega; omega) | with_reducible exact isB_0 | with_reducible exact isB_1 | with_reducible exact isB_bI _)] | rw [bd_r (by with_reducible assumption)] | rw [bd_s] | rw [bd2_s] | rw [bd3_s] | rw [nm_s] | rw [nI_clamp (by omega)] | rw [nI_1] | rw [bd_e (q3)] | rw [bd_e (u2')] | rw [bd_e (w2')] | rw [bd_e (g33)] | rw [bd_e (g34)] | rw [bd_e (g35)] | rw [bd2_e (d2)] | rw [if_pos (by first | with_reducible assumption | ((with_reducible refine nI_lt ?_ ?_); omega; omega) | ((with_reducible refine nI_nlt ?_ ?_); omega; omega) | with_reducible exact ne10 | with_reducible rfl)] | rw [if_neg (by first | with_reducible assumption | ((with_reducible refine nI_lt ?_ ?_); omega; omega) | ((with_reducible refine nI_nlt ?_ ?_); omega; omega) | with_reducible exact ne10 | with_reducible rfl)]))
      · refine ⟨-9000000000000000001, R, M, M, ?_, ?_, hI0⟩
        · unfold mX7_half
          (repeat (first | rw [ck_t (by first | with_reducible assumption | ((with_reducible apply ixA_of); (with_reducible assumption); omega; omega) | ((with_reducible apply isAr_of); (with_reducible assumption); decide) | ((with_reducible apply nI_ne0); omega; omega) | with_reducible exact isB_0 | with_reducible exact isB_1 | with_reducible exact isB_bI _)] | rw [bd_r (by with_reducible assumption)] | rw [bd_s] | rw [bd2_s] | rw [bd3_s] | rw [nm_s] | rw [nI_clamp (by omega)] | rw [nI_1] | rw [bd_e (q1)] | rw [bd_e (u1)] | rw [bd_e (w1)] | rw [if_pos (by first | with_reducible assumption | ((with_reducible refine nI_lt ?_ ?_); omega; omega) | ((with_reducible refine nI_nlt ?_ ?_); omega; omega) | with_reducible exact ne10 | with_reducible rfl)] | rw [if_neg (by first | with_reducible assumption | ((with_reducible refine nI_lt ?_ ?_); omega; omega) | ((with_reducible refine nI_nlt ?_ ?_); omega; omega) | with_reducible exact ne10 | with_reducible rfl)]))
        · unfold mX8_half
          (repeat (first | rw [ck_t (by first | with_reducible assumption | ((with_reducible apply ixA_of); (with_reducible assumption); omega; omega) | ((with_reducible apply isAr_of); (with_reducible assumption); decide) | ((with_reducible apply nI_ne0); omega; omega) | with_reducible exact isB_0 | with_reducible exact isB_1 | with_reducible exact isB_bI _)] | rw [bd_r (by with_reducible assumption)] | rw [bd_s] | rw [bd2_s] | rw [bd3_s] | rw [nm_s] | rw [nI_clamp (by omega)] | rw [nI_1] | rw [bd_e (q2)] | rw [bd_e (u2)] | rw [bd_e (w2)] | rw [if_pos (by first | with_reducible assumption | ((with_reducible refine nI_lt ?_ ?_); omega; omega) | ((with_reducible refine nI_nlt ?_ ?_); omega; omega) | with_reducible exact ne10 | with_reducible rfl)] | rw [if_neg (by first | with_reducible assumption | ((with_reducible refine nI_lt ?_ ?_); omega; omega) | ((with_reducible refine nI_nlt ?_ ?_); omega; omega) | with_reducible exact ne10 | with_reducible rfl)]))
    · refine ⟨-9000000000000000001, R, M, M, ?_, ?_, hI0⟩
      · unfold mX7_half
        (repeat (first | rw [ck_t (by first | with_reducible assumption | ((with_reducible apply ixA_of); (with_reducible assumption); omega; omega) | ((with_reducible apply isAr_of); (with_reducible assumption); decide) | ((with_reducible apply nI_ne0); omega; omega) | with_reducible exact isB_0 | with_reducible exact isB_1 | with_reducible exact isB_bI _)] | rw [bd_r (by with_reducible assumption)] | rw [bd_s] | rw [bd2_s] | rw [bd3_s] | rw [nm_s] | rw [nI_clamp (by omega)] | rw [nI_1] | rw [bd_e (q1)] | rw [bd_e (u1)] | rw [if_pos (by first | with_reducible assumption | ((with_reducible refine nI_lt ?_ ?_); omega; omega) | ((with_reducible refine nI_nlt ?_ ?_); omega; omega) | with_reducible exact ne10 | with_reducible rfl)] | rw [if_neg (by first | with_reducible assumption | ((with_reducible refine nI_lt ?_ ?_); omega; omega) | ((with_reducible refine nI_nlt ?_ ?_); omega; omega) | with_reducible exact ne10 | with_reducible rfl)]))
      · unfold mX8_half
        (repeat (first | rw [ck_t (by first | with_reducible assumption | ((with_reducible apply ixA_of); (with_reducible assumption); omega; omega) | ((with_reducible apply isAr_of); (with_reducible assumption); decide) | ((with_reducible apply nI_ne0); omega; omega) | with_reducible exact isB_0 | with_reducible exact isB_1 | with_reducible exact isB_bI _)] | rw [bd_r (by with_reducible assumption)] | rw [bd_s] | rw [bd2_s] | rw [bd3_s] | rw [nm_s] | rw [nI_clamp (by omega)] | rw [nI_1] | rw [bd_e (q2)] | rw [bd_e (u2)] | rw [if_pos (by first | with_reducible assumption | ((with_reducible refine nI_lt ?_ ?_); omega; omega) | ((with_reducible refine nI_nlt ?_ ?_); omega; omega) | with_reducible exact ne10 | with_reducible rfl)] | rw [if_neg (by first | with_reducible assumption | ((with_reducible refine nI_lt ?_ ?_); omega; omega) | ((with_reducible refine nI_nlt ?_ ?_); omega; omega) | with_reducible exact ne10 | with_reducible rfl)]))
