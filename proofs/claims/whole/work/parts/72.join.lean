/-! join told alike -/
theorem ubL_sub {W : List Pt} {x : Pt} (h : x ∈ ubL W W.length) : x ∈ W := by
  obtain ⟨i, -, hi⟩ := mem_get h
  obtain ⟨k, hk, rfl⟩ := ubL_get hi
  exact get_mem (gp_get (kys_get hk).1)
noncomputable def joP (P : Pc) (W : List Pt) : Pc := (norm (ubL W W.length), P.2.1, P.2.2.1, P.2.2.2.1, false)
theorem plc_rot {P : Pc} (h : isPc P) : ∃ k, k < P.1.length ∧ plc P = rotL k (P.1.map (mvP P.2.1 P.2.2.1 P.2.2.2.1)) := by
  obtain ⟨k, hk⟩ := h.ls
  have := isLs_lt hk
  rw [List.length_map] at this
  exact ⟨k, this, norm_of hk⟩
section JX
variable {K : Kk} {R : Rr} {M : Mm}
theorem iv_map {P : Pc} (h1 : P.2.1 = 1 ∨ P.2.1 = -1) (V : List Pt) : (V.map (mvP P.2.1 P.2.2.1 P.2.2.2.1)).map (ivM P) = V := by
  rw [List.map_map]
  have : (ivM P ∘ mvP P.2.1 P.2.2.1 P.2.2.2.1) = id := funext (fun x => (iv_mv h1 x).2)
  rw [this, List.map_id]
theorem joP_ok {P Q : Pc} {i j : Nat} (iP : isPc P) (iQ : isPc Q) (e1 : P.2.1 = Q.2.1) (e2 : P.2.2.1 = Q.2.2.1) (e3 : P.2.2.2.1 = Q.2.2.2.1) (h : cs P.1 Q.1 i j) (ho : outW (jW P.1 Q.1 i j)) : Cv (ubL (jW P.1 Q.1 i j) (jW P.1 Q.1 i j).length) ∧ 3 ≤ (ubL (jW P.1 Q.1 i j) (jW P.1 Q.1 i j).length).length ∧ inBs (jW P.1 Q.1 i j) ∧ ((ubL (jW P.1 Q.1 i j) (jW P.1 Q.1 i j).length).length ≤ 16 → isPc (joP P (jW P.1 Q.1 i j))) := by
  obtain ⟨d, c, p1, pl, q1, qe, hJ⟩ := cs_JN iP.1.2.2.1 iP.1.1 iQ.1.2.2.1 iQ.1.1 h ho
  obtain ⟨g1, g2, g3⟩ := glue_ok hJ
  have y3 := iQ.1.1
  have hB : inBs (jW P.1 Q.1 i j) := inBs_of (fun x hx => by
    rcases jW_mem (by omega) hx with z | z
    · exact iP.1.B.m x z
    · exact iQ.1.B.m x z)
  refine ⟨g1, g2, hB, fun h16 => ?_⟩
  obtain ⟨n1, n2, n3, n4⟩ := GW_norm g1 g2
  refine ⟨⟨by show 3 ≤ (norm _).length; exact n4.symm ▸ g2, by show (norm _).length ≤ 16; exact n4.symm ▸ h16, n2, n3, fun t x hx => hB.m x (ubL_sub (norm_mem.mp (get_mem hx)))⟩, iP.2.1, fun t x hx => ?_⟩
  have hx : (norm (ubL (jW P.1 Q.1 i j) (jW P.1 Q.1 i j).length))[t]? = some x := hx
  show inB (mvP P.2.1 P.2.2.1 P.2.2.2.1 x)
  rcases jW_mem (by omega) (ubL_sub (norm_mem.mp (get_mem hx))) with z | z
  · obtain ⟨k, -, hk⟩ := mem_get z
    exact iP.2.2 k x hk
  · obtain ⟨k, -, hk⟩ := mem_get z
    rw [e1, e2, e3]
    exact iQ.2.2 k x hk
/-- the reference, its cases -/
theorem joinM_ok {m p q : Nat} {ps : List Pc} {P Q : Pc} (hm : moA K R m) (hps : psM (M.2 (m + 1)) 0 ps) (hpp : isPs ps) (hP : ps[p]? = some P) (hQ : ps[q]? = some Q) (hpq : p ≠ q) (e1 : P.2.1 = Q.2.1) (e2 : P.2.2.1 = Q.2.2.1) (e3 : P.2.2.2.1 = Q.2.2.2.1) :
    ((∀ i j, ¬ cs P.1 Q.1 i j) → ∃ N, mX8_join K R M m (nI p) (nI q) = some (-9000000000000000002, N) ∧ FM m [15, 18, 21, 24, 31] [11, 12, 13, 14, 15, 16, 17, 18, 19, 20] M N) ∧
    ∀ i j, cs P.1 Q.1 i j → (¬ outW (jW P.1 Q.1 i j) → ∃ N, mX8_join K R M m (nI p) (nI q) = some (-9000000000000000002, N) ∧ FM m [15, 18, 21, 24, 31] [11, 12, 13, 14, 15, 16, 17, 18, 19, 20] M N) ∧
      (outW (jW P.1 Q.1 i j) → ¬ (ubL (jW P.1 Q.1 i j) (jW P.1 Q.1 i j).length).length ≤ 16 → ∃ N, mX8_join K R M m (nI p) (nI q) = some (-9000000000000000003, N) ∧ FM m [15, 18, 21, 24, 31] [11, 12, 13, 14, 15, 16, 17, 18, 19, 20] M N) ∧
      (outW (jW P.1 Q.1 i j) → (ubL (jW P.1 Q.1 i j) (jW P.1 Q.1 i j).length).length ≤ 16 → ∃ M28, FM m [15, 18, 21, 24, 31] [11, 12, 13, 14, 15, 16, 17, 18, 19, 20] M M28 ∧ ∀ N, mX8_keep K R M28 m = some N → FM m [3, 4] [2] M28 N → ∃ M39, mX8_join K R M m (nI p) (nI q) = some ((nI (ubL (jW P.1 Q.1 i j) (jW P.1 Q.1 i j).length).length).toInt64, M39) ∧ psM (M39.2 (m + 1)) 0 ((ps.set p (joP P (jW P.1 Q.1 i j))).eraseIdx q) ∧ FM m [] [1, 17, 18] N M39) := by
  have h0 := hm.1
  have b0 := mo_r0 hm
  have b1 := mo_a0 hm
  have h40 := hpp.1
  have hp := get_lt hP
  have hq := get_lt hQ
  have iP := hpp.2 p P hP
  have iQ := hpp.2 q Q hQ
  have p16 := iP.1.2.1
  have q16 := iQ.1.2.1
  have q3 := iQ.1.1
  have p3 := iP.1.1
  obtain ⟨-, vP, -, lP, BP⟩ := plc_ok iP
  obtain ⟨-, vQ, -, lQ, BQ⟩ := plc_ok iQ
  have hmv := iP.mv
  have z1 := isPieceM_t hm hps hp h40
  have z2 := isPieceM_t hm hps hq h40
  have ne : ¬ nI p = nI q := nI_ne hpq (by omega) (by omega)
  obtain ⟨-, -, s3, s4, s5, -⟩ := hps.pc hP
  obtain ⟨-, -, t3, t4, t5, -⟩ := hps.pc hQ
  have gp33 : ∀ N : Mm, mX8_get K R N m (nI p) 33 = some (N.2 (m + 1) (37 * p + 33)) := fun N => get_ok hm rfl (by omega) (by omega)
  have gp34 : ∀ N : Mm, mX8_get K R N m (nI p) 34 = some (N.2 (m + 1) (37 * p + 34)) := fun N => get_ok hm rfl (by omega) (by omega)
  have gp35 : ∀ N : Mm, mX8_get K R N m (nI p) 35 = some (N.2 (m + 1) (37 * p + 35)) := fun N => get_ok hm rfl (by omega) (by omega)
  have gq33 : mX8_get K R M m (nI q) 33 = some (M.2 (m + 1) (37 * q + 33)) := get_ok hm rfl (by omega) (by omega)
  have gq34 : mX8_get K R M m (nI q) 34 = some (M.2 (m + 1) (37 * q + 34)) := get_ok hm rfl (by omega) (by omega)
  have gq35 : mX8_get K R M m (nI q) 35 = some (M.2 (m + 1) (37 * q + 35)) := get_ok hm rfl (by omega) (by omega)
  have k33 : M.2 (m + 1) (37 * p + 33) = M.2 (m + 1) (37 * q + 33) := by rw [eq64, s3, t3, e1]
  have k34 : M.2 (m + 1) (37 * p + 34) = M.2 (m + 1) (37 * q + 34) := by rw [eq64, s4, t4, e2]
  have k35 : M.2 (m + 1) (37 * p + 35) = M.2 (m + 1) (37 * q + 35) := by rw [eq64, s5, t5, e3]
  obtain ⟨M16, c1, c2, c3⟩ := lookB_ok hm hps hQ h40 iQ
  have ps16 := hps.fr c3 (by decide)
  obtain ⟨M17, d1, d2, d3⟩ := lookA_ok hm ps16 hP h40 iP
  have B17 := c2.fr d3 (by decide) (by decide) (by decide)
  have F17 : FM m [15, 18, 21, 24, 31] [11, 12, 13, 14, 15, 16, 17, 18, 19, 20] M M17 := (c3.mo (by decide) (by decide)).tr (d3.mo (by decide) (by decide))
  have front : ∀ v, mX8_commonSide K R M17 m = some v → mX8_join K R M m (nI p) (nI q) = (if v < 0 then some ((-9000000000000000002), M17) else bd (mX8_together K R M17 m v) fun M20 => bd (mX8_isOutward K R M20 m) fun i21 => if i21 = 0 then some ((-9000000000000000002), M20) else bd (mX8_beginPoints K R M20 m) fun M23 => nm (0 : Int32) fun i24 => lp (mX8_join_L129 K R m (nI p) (nI q)) (i24, M23)) := fun v hv => by
    unfold mX8_join
    (repeat (first | rw [ck_t (by first | with_reducible assumption | ((with_reducible apply ixA_of); (with_reducible assumption); omega; omega) | ((with_reducible apply isAr_of); (with_reducible assumption); decide) | ((with_reducible apply nI_ne0); omega; omega) | with_reducible exact isB_0 | with_reducible exact isB_1 | with_reducible exact isB_bI _)] | rw [bd_r (by with_reducible assumption)] | rw [bd_s] | rw [bd2_s] | rw [bd3_s] | rw [nm_s] | rw [nI_clamp (by omega)] | rw [nI_1] | rw [bd_e (z1)] | rw [bd_e (z2)] | rw [if_neg (ne)] | rw [bd_e (gp33 M)] | rw [bd_e (gp34 M)] | rw [bd_e (gp35 M)] | rw [bd_e (gq33)] | rw [bd_e (gq34)] | rw [bd_e (gq35)] | rw [if_pos (k33)] | rw [if_pos (k34)] | rw [if_pos (k35)] | rw [bd_e (c1)] | rw [bd_e (d1)] | rw [bd_e (hv)] | rw [if_pos (by first | with_reducible assumption | ((with_reducible refine nI_lt ?_ ?_); omega; omega) | ((with_reducible refine nI_nlt ?_ ?_); omega; omega) | with_reducible exact ne10 | with_reducible rfl)] | rw [if_neg (by first | with_reducible assumption | ((with_reducible refine nI_lt ?_ ?_); omega; omega) | ((with_reducible refine nI_nlt ?_ ?_); omega; omega) | with_reducible exact ne10 | with_reducible rfl)]))
  obtain ⟨k, hk, rP⟩ := plc_rot iP
  obtain ⟨k', hk', rQ0⟩ := plc_rot iQ
  have rQ : plc Q = rotL k' (Q.1.map (mvP P.2.1 P.2.2.1 P.2.2.2.1)) := by rw [e1, e2, e3]; exact rQ0
  have csA : ∀ {i j}, cs (plc P) (plc Q) i j → cs P.1 Q.1 ((k + i) % P.1.length) ((k' + j) % Q.1.length) := fun {i j} h => by
    have li := h.1
    have lj := h.2.1
    rw [lP] at li
    rw [lQ] at lj
    rw [rP, rQ] at h
    exact (cs_map iP.2.1 hk hk' li lj).mp h
  have csB : ∀ {i j}, cs P.1 Q.1 i j → cs (plc P) (plc Q) ((i + (P.1.length - k)) % P.1.length) ((j + (Q.1.length - k')) % Q.1.length) := fun {i j} h => by
    have li := h.1
    have lj := h.2.1
    rw [rP, rQ]
    refine (cs_map iP.2.1 hk hk' (Nat.mod_lt _ (by omega)) (Nat.mod_lt _ (by omega))).mpr ?_
    have mm : ∀ {x y n : Nat}, x < n → y < n → (y + (x + (n - y)) % n) % n = x := fun {x y n} hx hy => by rw [Nat.add_mod_mod, show y + (x + (n - y)) = x + n by omega, Nat.add_mod_right, Nat.mod_eq_of_lt hx]
    rw [mm li hk, mm lj hk']; exact h
  refine ⟨fun hno => ?_, fun i j hcs => ?_⟩
  · rcases commonSide_ok hm d2 B17 (by omega) (by omega) with ⟨i, j, h, -⟩ | ⟨-, h⟩
    · exact absurd (csA h) (hno _ _)
    · refine ⟨M17, ?_, F17⟩
      rw [front _ h, if_pos (by decide)]
  · rcases commonSide_ok hm d2 B17 (by omega) (by omega) with ⟨i', j', h, hv⟩ | ⟨h, -⟩
    · have hi' := h.1
      have h' := csA h
      obtain ⟨ei, ej⟩ := cs_un iP.1.2.2.1 p3 iQ.1.2.2.1 q3 hcs h'
      have eW : jW (plc P) (plc Q) i' j' = (jW P.1 Q.1 i j).map (mvP P.2.1 P.2.2.1 P.2.2.2.1) := by
        rw [rP, rQ, jW_map hk hk' (by omega), ei, ej]
      obtain ⟨M20, g1, g2, g3⟩ := together_ok hm d2 B17 (by omega) (by omega) (by omega) (vQ.ds (by omega)) h
      have lU : (jW (plc P) (plc Q) i' j').length = P.1.length + (Q.1.length - 2) := by rw [jW_len (by omega), lP, lQ]
      have BU : inBs (jW (plc P) (plc Q) i' j') := inBs_of (fun x hx => by
        rcases jW_mem (by omega) hx with z | z
        · exact BP x z
        · exact BQ x z)
      have F20 := F17.tr (g3.mo (is' := [15, 18, 21, 24, 31]) (as' := [11, 12, 13, 14, 15, 16, 17, 18, 19, 20]) (by decide) (by decide))
      obtain ⟨v, v1, v2⟩ := isOutward_ok (K := K) (R := R) hm g2 (by omega) (by omega) BU
      have v2 : iv v (outW (jW P.1 Q.1 i j)) := by rw [eW] at v2; exact v2.congr (outW_map iP.2.1)
      have n0 : ¬ nI i' < 0 := nI_pos (by omega)
      have fr2 : mX8_join K R M m (nI p) (nI q) = if v = 0 then some ((-9000000000000000002), M20) else lp (mX8_join_L129 K R m (nI p) (nI q)) (0, pI M20 m 21 0) := by
        rw [front _ hv, if_neg n0, bd_e g1, bd_e v1, begin_ok hm, bd_s, nm_s]
      have good : outW (jW P.1 Q.1 i j) → ∃ N2, mX8_join K R M m (nI p) (nI q) = lp (mX8_join_L129 K R m (nI p) (nI q)) (nI (jW P.1 Q.1 i j).length, N2) ∧ FM m [15, 18, 21, 24, 31] [11, 12, 13, 14, 15, 16, 17, 18, 19, 20] M N2 ∧ N2.1 m 31 = nI (jW P.1 Q.1 i j).length ∧ ∃ M28, mX8_outermost K R N2 m = some M28 ∧ FM m [15, 18, 21, 24, 31] [11, 12, 13, 14, 15, 16, 17, 18, 19, 20] M M28 ∧ rM M28 m 24 17 18 (norm ((ubL (jW P.1 Q.1 i j) (jW P.1 Q.1 i j).length).map (mvP P.2.1 P.2.2.1 P.2.2.2.1))) ∧ Cv ((ubL (jW P.1 Q.1 i j) (jW P.1 Q.1 i j).length).map (mvP P.2.1 P.2.2.1 P.2.2.2.1)) ∧ 3 ≤ ((ubL (jW P.1 Q.1 i j) (jW P.1 Q.1 i j).length).map (mvP P.2.1 P.2.2.1 P.2.2.2.1)).length := fun hout => by
        have v0 : v = 1 := by
          rcases v2 with ⟨z, -⟩ | ⟨-, z⟩
          · exact z
          · exact absurd hout z
        subst v0
        rw [if_neg ne10] at fr2
        have hW := lp_run (f := mX8_join_L129 K R m (nI p) (nI q)) (fun (t : Nat) (s : Int32 × Mm) => s.1 = nI t ∧ rM s.2 m 21 15 16 ((jW (plc P) (plc Q) i' j').take t) ∧ FM m [21] [15, 16] M20 s.2) (jW (plc P) (plc Q) i' j').length ?_ (jW (plc P) (plc Q) i' j').length 0 (0, pI M20 m 21 0) (by omega) ⟨rfl, ⟨pI_s, fun t c hc => by simp at hc⟩, FM.rf.pI (by decide)⟩
        · obtain ⟨⟨z, N2⟩, y1, rfl, y2, y3⟩ := hW
          have y2 : rM N2 m 21 15 16 ((jW (plc P) (plc Q) i' j').take (jW (plc P) (plc Q) i' j').length) := y2
          have y3 : FM m [21] [15, 16] M20 N2 := y3
          rw [List.take_length] at y2
          have lW : (jW (plc P) (plc Q) i' j').length = (jW P.1 Q.1 i j).length := by rw [eW, List.length_map]
          have oU : outW (jW (plc P) (plc Q) i' j') := by rw [eW]; exact (outW_map iP.2.1).mpr hout
          obtain ⟨d, c, p1, pl, q1, qe, hJ⟩ := cs_JN vP (by omega) vQ (by omega) h oU
          obtain ⟨j1, j2, j3⟩ := glue_ok hJ
          have j1 : Cv (ubL (jW (plc P) (plc Q) i' j') (jW (plc P) (plc Q) i' j').length) := j1
          have j2 : 3 ≤ (ubL (jW (plc P) (plc Q) i' j') (jW (plc P) (plc Q) i' j').length).length := j2
          have j3 : GW (jW (plc P) (plc Q) i' j') (norm (ubL (jW (plc P) (plc Q) i' j') (jW (plc P) (plc Q) i' j').length)) := j3
          have le := ubL_le (jW (plc P) (plc Q) i' j') (jW (plc P) (plc Q) i' j').length
          have eV : ubL (jW (plc P) (plc Q) i' j') (jW (plc P) (plc Q) i' j').length = (ubL (jW P.1 Q.1 i j) (jW P.1 Q.1 i j).length).map (mvP P.2.1 P.2.2.1 P.2.2.2.1) := by
            rw [lW, eW, ubL_map iP.2.1 _ (Nat.le_refl _)]
          obtain ⟨M28, o1, o2, o3⟩ := outermost_ok hm y2 (by omega) BU.m (by rw [norm_len]; omega) j3
          refine ⟨N2, by rw [fr2, y1, lW], F20.tr (y3.mo (by decide) (by decide)), ?_, M28, o1, (F20.tr (y3.mo (by decide) (by decide))).tr (o3.mo (by decide) (by decide)), by rw [← eV]; exact o2, by rw [← eV]; exact j1, by rw [← eV]; exact j2⟩
          rw [y3.sl 31 (by decide), g2.1, lW]
        · rintro t ⟨z, N⟩ ht ⟨rfl, f1, f2⟩
          have f1 : rM N m 21 15 16 ((jW (plc P) (plc Q) i' j').take t) := f1
          have f2 : FM m [21] [15, 16] M20 N := f2
          have hN := g2.fr f2 (by decide) (by decide) (by decide)
          have e := hN.1
          obtain ⟨c, hc⟩ := get_ex ht
          have pc := hN.pt hc
          have r29 := mo_r29 hm
          have r30 := mo_r30 hm
          have a29 := mo_a29 hm
          have a30 := mo_a30 hm
          obtain ⟨N2, y1, y2, y3⟩ := point_ok (x := N.2 (m + 19) t) (y := N.2 (m + 20) t) hm f1 (by rw [List.length_take]; omega)
          refine ⟨(nI (t + 1), N2), ?_, rfl, ?_, f2.tr y3⟩
          · show mX8_join_B129 K R m (nI p) (nI q) (nI t) N = _
            unfold mX8_join_B129
            (repeat (first | rw [ck_t (by first | with_reducible assumption | ((with_reducible apply ixA_of); (with_reducible assumption); omega; omega) | ((with_reducible apply isAr_of); (with_reducible assumption); decide) | ((with_reducible apply nI_ne0); omega; omega) | with_reducible exact isB_0 | with_reducible exact isB_1 | with_reducible exact isB_bI _)] | rw [bd_r (by with_reducible assumption)] | rw [bd_s] | rw [bd2_s] | rw [bd3_s] | rw [nm_s] | rw [nI_clamp (by omega)] | rw [nI_1] | rw [e] | rw [bd_e (y1)] | rw [if_pos (by first | with_reducible assumption | ((with_reducible refine nI_lt ?_ ?_); omega; omega) | ((with_reducible refine nI_nlt ?_ ?_); omega; omega) | with_reducible exact ne10 | with_reducible rfl)] | rw [if_neg (by first | with_reducible assumption | ((with_reducible refine nI_lt ?_ ?_); omega; omega) | ((with_reducible refine nI_nlt ?_ ?_); omega; omega) | with_reducible exact ne10 | with_reducible rfl)]))
          · show rM N2 m 21 15 16 ((jW (plc P) (plc Q) i' j').take (t + 1))
            rw [take_app hc, pc]
            exact y2
      refine ⟨fun hout => ?_, fun hout h16 => ?_, fun hout h16 => ?_⟩
      · refine ⟨M20, ?_, F20⟩
        rcases v2 with ⟨-, z⟩ | ⟨z, -⟩
        · exact absurd z hout
        · rw [fr2, if_pos z]
      · obtain ⟨N2, y1, y2, y3, M28, y4, y5, y6, -, -⟩ := good hout
        refine ⟨M28, ?_, y5⟩
        rw [y1]
        refine lp_out ?_
        have e24 : M28.1 m 24 = nI (ubL (jW P.1 Q.1 i j) (jW P.1 Q.1 i j).length).length := by rw [y6.1, norm_len, List.length_map]
        have le := ubL_le (jW P.1 Q.1 i j) (jW P.1 Q.1 i j).length
        have lW := jW_len (X := P.1) (Y := Q.1) (i := i) (j := j) (by omega)
        show mX8_join_B129 K R m (nI p) (nI q) (nI (jW P.1 Q.1 i j).length) N2 = _
        unfold mX8_join_B129
        (repeat (first | rw [ck_t (by first | with_reducible assumption | ((with_reducible apply ixA_of); (with_reducible assumption); omega; omega) | ((with_reducible apply isAr_of); (with_reducible assumption); decide) | ((with_reducible apply nI_ne0); omega; omega) | with_reducible exact isB_0 | with_reducible exact isB_1 | with_reducible exact isB_bI _)] | rw [bd_r (by with_reducible assumption)] | rw [bd_s] | rw [bd2_s] | rw [bd3_s] | rw [nm_s] | rw [nI_clamp (by omega)] | rw [nI_1] | rw [y3] | rw [bd_e (y4)] | rw [e24] | rw [if_neg (show ¬ nI (ubL (jW P.1 Q.1 i j) (jW P.1 Q.1 i j).length).length ≤ 16 by rw [le32, nI_int (by omega)]; show ¬ ((_ : Nat) : Int) ≤ 16; omega)] | rw [if_pos (by first | with_reducible assumption | ((with_reducible refine nI_lt ?_ ?_); omega; omega) | ((with_reducible refine nI_nlt ?_ ?_); omega; omega) | with_reducible exact ne10 | with_reducible rfl)] | rw [if_neg (by first | with_reducible assumption | ((with_reducible refine nI_lt ?_ ?_); omega; omega) | ((with_reducible refine nI_nlt ?_ ?_); omega; omega) | with_reducible exact ne10 | with_reducible rfl)]))
        rfl
      · obtain ⟨N2, y1, y2, y3, M28, y4, y5, y6, y7, y8⟩ := good hout
        refine ⟨M28, y5, fun N n1 n2 => ?_⟩
        obtain ⟨jc, j3, jB, jP⟩ := joP_ok iP iQ e1 e2 e3 hcs hout
        have iJ := jP h16
        have e24 : M28.1 m 24 = nI (ubL (jW P.1 Q.1 i j) (jW P.1 Q.1 i j).length).length := by rw [y6.1, norm_len, List.length_map]
        have psN : psM (N.2 (m + 1)) 0 ps := (hps.fr y5 (by decide)).fr n2 (by decide)
        have rN := y6.fr n2 (by decide) (by decide) (by decide)
        obtain ⟨-, -, u3, u4, u5, -⟩ := psN.pc hP
        have bV : inBs (norm ((ubL (jW P.1 Q.1 i j) (jW P.1 Q.1 i j).length).map (mvP P.2.1 P.2.2.1 P.2.2.2.1))) := inBs_of (fun x hx => by
          obtain ⟨w, hw, rfl⟩ := List.mem_map.mp (norm_mem.mp hx)
          rcases jW_mem (by omega) (ubL_sub hw) with z | z
          · obtain ⟨t, -, ht⟩ := mem_get z
            exact iP.2.2 t w ht
          · obtain ⟨t, -, ht⟩ := mem_get z
            rw [e1, e2, e3]; exact iQ.2.2 t w ht)
        obtain ⟨M34, o1, o2, o3, o4, o5⟩ := originOf_ok (p := p) hm (by omega) rN (by rw [norm_len, List.length_map]; exact h16) bV u3 iP.2.1 u4 u5 (by omega) (by omega) (norm_ls iP.2.1 y7 y8)
        rw [norm_iv iP.2.1 y7 y8, iv_map iP.2.1] at o3
        generalize hM37 : pL M34 (m + 1) (37 * p + 36) 0 = M37
        have f37 : FM m [] [1] M34 M37 := by rw [← hM37]; exact FM.rf.pL (by decide)
        have k37 : ∀ t, t ≠ 37 * p + 36 → M37.2 (m + 1) t = M34.2 (m + 1) t := fun t ht => by rw [← hM37, pL_k ht]
        have ps37 : psM (M37.2 (m + 1)) 0 (ps.set p (joP P (jW P.1 Q.1 i j))) := by
          refine psM_set psN hpp.fit hp (fun t ht => by rw [k37 t (by omega), o5 t (by omega)]) ⟨?_, fun t c hc => ?_, ?_, ?_, ?_, ?_⟩
          · show M37.2 (m + 1) (37 * p) = lN (norm _).length
            rw [k37 _ (by omega), o2, norm_len, norm_len, List.length_map]
          · have hc : (norm (ubL (jW P.1 Q.1 i j) (jW P.1 Q.1 i j).length))[t]? = some c := hc
            have ht := get_lt hc
            rw [norm_len] at ht
            rw [k37 _ (by omega), k37 _ (by omega)]
            exact o3 t c hc
          · rw [k37 _ (by omega), o5 _ (by omega)]; exact u3
          · rw [k37 _ (by omega), o5 _ (by omega)]; exact u4
          · rw [k37 _ (by omega), o5 _ (by omega)]; exact u5
          · rw [← hM37, pL_s]; rfl
        obtain ⟨M39, x1, x2, x3⟩ := dropPiece_ok (t := q) hm ps37 (isPs_set hpp iJ).fit (by rw [List.length_set]; exact hq)
        have j36 : (37 : Int32) * nI p + 36 = nI (37 * p + 36) := ix37 p 36
        have e37 : M37.1 m 24 = nI (ubL (jW P.1 Q.1 i j) (jW P.1 Q.1 i j).length).length := by rw [f37.sl 24 (by decide), o4.sl 24 (by decide), n2.sl 24 (by decide)]; exact e24
        have lW := jW_len (X := P.1) (Y := Q.1) (i := i) (j := j) (by omega)
        refine ⟨M39, ?_, x2, ((o4.mo (by decide) (by decide)).tr (f37.mo (by decide) (by decide))).tr (x3.mo (by decide) (by decide))⟩
        rw [y1]
        refine lp_out ?_
        show mX8_join_B129 K R m (nI p) (nI q) (nI (jW P.1 Q.1 i j).length) N2 = _
        unfold mX8_join_B129
        (repeat (first | rw [ck_t (by first | with_reducible assumption | ((with_reducible apply ixA_of); (with_reducible assumption); omega; omega) | ((with_reducible apply isAr_of); (with_reducible assumption); decide) | ((with_reducible apply nI_ne0); omega; omega) | with_reducible exact isB_0 | with_reducible exact isB_1 | with_reducible exact isB_bI _)] | rw [bd_r (by with_reducible assumption)] | rw [bd_s] | rw [bd2_s] | rw [bd3_s] | rw [nm_s] | rw [nI_clamp (by omega)] | rw [nI_1] | rw [y3] | rw [bd_e (y4)] | rw [e24] | rw [if_pos (show nI (ubL (jW P.1 Q.1 i j) (jW P.1 Q.1 i j).length).length ≤ 16 from nI_le (b := 16) h16 (by decide))] | rw [bd_e (n1)] | rw [bd_e (gp33 N)] | rw [bd_e (gp34 N)] | rw [bd_e (gp35 N)] | rw [bd_e (o1)] | rw [j36] | rw [hM37] | rw [e37] | rw [bd_e (x1)] | rw [if_pos (by first | with_reducible assumption | ((with_reducible refine nI_lt ?_ ?_); omega; omega) | ((with_reducible refine nI_nlt ?_ ?_); omega; omega) | with_reducible exact ne10 | with_reducible rfl)] | rw [if_neg (by first | with_reducible assumption | ((with_reducible refine nI_lt ?_ ?_); omega; omega) | ((with_reducible refine nI_nlt ?_ ?_); omega; omega) | with_reducible exact ne10 | with_reducible rfl)]))
        rfl
    · exact absurd (csB hcs) (h _ _)
end JX
theorem inv_join (o : Nat) (K : Kk) (R : Rr) (M : Mm) (a0 a1 : Int32) (hI : Inv o K R M) : ∃ (v : Int64) (R1 : Rr) (M1 : Mm) (M2 : Mm), mX7_join K R M o a0 a1 = some (v, R1, M1) ∧ mX8_join K R1 M1 (o + 2118) a0 a1 = some (v, M2) ∧ Inv o K R1 M2 := by
  have hI0 := hI
  obtain ⟨hs, hm, S, hw, hc, ho⟩ := hI
  have hs0 := hs
  have m0 := hm.1
  obtain ⟨ps, hps, hpp⟩ := now_ps hw
  obtain ⟨c, hc1, hc2, hcA, hcC, hnow⟩ := now_at hs0 hw hc hps
  obtain ⟨f, d, hx⟩ := hi_of hc
  have hq6 : psM (M.2 (o + 2118 + 1)) 0 ps := ho.2.2.2.2.2.1 ps hps
  have h40 := hpp.1
  have hn := hcC.1
  obtain ⟨s0, -, -, s2, -, -, -, -, -, -, s9, s10, -, -, -, -, -, -, ⟨i0, -⟩, -, -, -, -, -, -, -, r1, r2, -⟩ := hs
  have r10 := r1.1
  have r20 := r2.1
  rcases cases_n a0 ps.length (by omega) with h | ⟨p, hp, rfl⟩
  · refine ⟨-9000000000000000001, R, M, M, ?_, ?_, hI0⟩
    · unfold mX7_join
      (repeat (first | rw [ck_t (by first | with_reducible assumption | ((with_reducible apply ixA_of); (with_reducible assumption); omega; omega) | ((with_reducible apply isAr_of); (with_reducible assumption); decide) | ((with_reducible apply nI_ne0); omega; omega) | with_reducible exact isB_0 | with_reducible exact isB_1 | with_reducible exact isB_bI _)] | rw [bd_r (by with_reducible assumption)] | rw [bd_s] | rw [bd2_s] | rw [bd3_s] | rw [nm_s] | rw [nI_clamp (by omega)] | rw [nI_1] | rw [bd_e (isPiece_f hs0 hcA hn (hnow M rfl) h)] | rw [if_pos (by first | with_reducible assumption | ((with_reducible refine nI_lt ?_ ?_); omega; omega) | ((with_reducible refine nI_nlt ?_ ?_); omega; omega) | with_reducible exact ne10 | with_reducible rfl)] | rw [if_neg (by first | with_reducible assumption | ((with_reducible refine nI_lt ?_ ?_); omega; omega) | ((with_reducible refine nI_nlt ?_ ?_); omega; omega) | with_reducible exact ne10 | with_reducible rfl)]))
    · unfold mX8_join
      (repeat (first | rw [ck_t (by first | with_reducible assumption | ((with_reducible apply ixA_of); (with_reducible assumption); omega; omega) | ((with_reducible apply isAr_of); (with_reducible assumption); decide) | ((with_reducible apply nI_ne0); omega; omega) | with_reducible exact isB_0 | with_reducible exact isB_1 | with_reducible exact isB_bI _)] | rw [bd_r (by with_reducible assumption)] | rw [bd_s] | rw [bd2_s] | rw [bd3_s] | rw [nm_s] | rw [nI_clamp (by omega)] | rw [nI_1] | rw [bd_e (isPieceM_f hm hq6 h h40)] | rw [if_pos (by first | with_reducible assumption | ((with_reducible refine nI_lt ?_ ?_); omega; omega) | ((with_reducible refine nI_nlt ?_ ?_); omega; omega) | with_reducible exact ne10 | with_reducible rfl)] | rw [if_neg (by first | with_reducible assumption | ((with_reducible refine nI_lt ?_ ?_); omega; omega) | ((with_reducible refine nI_nlt ?_ ?_); omega; omega) | with_reducible exact ne10 | with_reducible rfl)]))
  have q1 := isPiece_t hs0 hcA hn (hnow M rfl) hp h40
  have q1' := isPieceM_t hm hq6 hp h40
  rcases cases_n a1 ps.length (by omega) with h | ⟨q, hq, rfl⟩
  · refine ⟨-9000000000000000001, R, M, M, ?_, ?_, hI0⟩
    · unfold mX7_join
      (repeat (first | rw [ck_t (by first | with_reducible assumption | ((with_reducible apply ixA_of); (with_reducible assumption); omega; omega) | ((with_reducible apply isAr_of); (with_reducible assumption); decide) | ((with_reducible apply nI_ne0); omega; omega) | with_reducible exact isB_0 | with_reducible exact isB_1 | with_reducible exact isB_bI _)] | rw [bd_r (by with_reducible assumption)] | rw [bd_s] | rw [bd2_s] | rw [bd3_s] | rw [nm_s] | rw [nI_clamp (by omega)] | rw [nI_1] | rw [bd_e (q1)] | rw [bd_e (isPiece_f hs0 hcA hn (hnow M rfl) h)] | rw [if_pos (by first | with_reducible assumption | ((with_reducible refine nI_lt ?_ ?_); omega; omega) | ((with_reducible refine nI_nlt ?_ ?_); omega; omega) | with_reducible exact ne10 | with_reducible rfl)] | rw [if_neg (by first | with_reducible assumption | ((with_reducible refine nI_lt ?_ ?_); omega; omega) | ((with_reducible refine nI_nlt ?_ ?_); omega; omega) | with_reducible exact ne10 | with_reducible rfl)]))
    · unfold mX8_join
      (repeat (first | rw [ck_t (by first | with_reducible assumption | ((with_reducible apply ixA_of); (with_reducible assumption); omega; omega) | ((with_reducible apply isAr_of); (with_reducible assumption); decide) | ((with_reducible apply nI_ne0); omega; omega) | with_reducible exact isB_0 | with_reducible exact isB_1 | with_reducible exact isB_bI _)] | rw [bd_r (by with_reducible assumption)] | rw [bd_s] | rw [bd2_s] | rw [bd3_s] | rw [nm_s] | rw [nI_clamp (by omega)] | rw [nI_1] | rw [bd_e (q1')] | rw [bd_e (isPieceM_f hm hq6 h h40)] | rw [if_pos (by first | with_reducible assumption | ((with_reducible refine nI_lt ?_ ?_); omega; omega) | ((with_reducible refine nI_nlt ?_ ?_); omega; omega) | with_reducible exact ne10 | with_reducible rfl)] | rw [if_neg (by first | with_reducible assumption | ((with_reducible refine nI_lt ?_ ?_); omega; omega) | ((with_reducible refine nI_nlt ?_ ?_); omega; omega) | with_reducible exact ne10 | with_reducible rfl)]))
  have q2 := isPiece_t hs0 hcA hn (hnow M rfl) hq h40
  have q2' := isPieceM_t hm hq6 hq h40
  by_cases hpq : p = q
  · subst hpq
    refine ⟨-9000000000000000001, R, M, M, ?_, ?_, hI0⟩
    · unfold mX7_join
      (repeat (first | rw [ck_t (by first | with_reducible assumption | ((with_reducible apply ixA_of); (with_reducible assumption); omega; omega) | ((with_reducible apply isAr_of); (with_reducible assumption); decide) | ((with_reducible apply nI_ne0); omega; omega) | with_reducible exact isB_0 | with_reducible exact isB_1 | with_reducible exact isB_bI _)] | rw [bd_r (by with_reducible assumption)] | rw [bd_s] | rw [bd2_s] | rw [bd3_s] | rw [nm_s] | rw [nI_clamp (by omega)] | rw [nI_1] | rw [bd_e (q1)] | rw [bd_e (q2)] | rw [if_pos (show nI p = nI p from rfl)] | rw [if_pos (by first | with_reducible assumption | ((with_reducible refine nI_lt ?_ ?_); omega; omega) | ((with_reducible refine nI_nlt ?_ ?_); omega; omega) | with_reducible exact ne10 | with_reducible rfl)] | rw [if_neg (by first | with_reducible assumption | ((with_reducible refine nI_lt ?_ ?_); omega; omega) | ((with_reducible refine nI_nlt ?_ ?_); omega; omega) | with_reducible exact ne10 | with_reducible rfl)]))
    · unfold mX8_join
      (repeat (first | rw [ck_t (by first | with_reducible assumption | ((with_reducible apply ixA_of); (with_reducible assumption); omega; omega) | ((with_reducible apply isAr_of); (with_reducible assumption); decide) | ((with_reducible apply nI_ne0); omega; omega) | with_reducible exact isB_0 | with_reducible exact isB_1 | with_reducible exact isB_bI _)] | rw [bd_r (by with_reducible assumption)] | rw [bd_s] | rw [bd2_s] | rw [bd3_s] | rw [nm_s] | rw [nI_clamp (by omega)] | rw [nI_1] | rw [bd_e (q1')] | rw [bd_e (q2')] | rw [if_pos (show nI p = nI p from rfl)] | rw [if_pos (by first | with_reducible assumption | ((with_reducible refine nI_lt ?_ ?_); omega; omega) | ((with_reducible refine nI_nlt ?_ ?_); omega; omega) | with_reducible exact ne10 | with_reducible rfl)] | rw [if_neg (by first | with_reducible assumption | ((with_reducible refine nI_lt ?_ ?_); omega; omega) | ((with_reducible refine nI_nlt ?_ ?_); omega; omega) | with_reducible exact ne10 | with_reducible rfl)]))
  have ne : ¬ nI p = nI q := nI_ne hpq (by omega) (by omega)
  obtain ⟨P, hP⟩ := get_ex hp
  obtain ⟨Q, hQ⟩ := get_ex hq
  have iP := hpp.2 p P hP
  have iQ := hpp.2 q Q hQ
  have p16 := iP.1.2.1
  have q16 := iQ.1.2.1
  have q3 := iQ.1.1
  have hcA0 := hcA
  obtain ⟨g0, g1, g2, g3⟩ := hcA
  obtain ⟨k1, k2⟩ := g3 p (by omega)
  obtain ⟨k3, k4⟩ := g3 q (by omega)
  have k20 := k2.1
  have k40 := k4.1
  have k21 := k2.2.1
  have k41 := k4.2.1
  have pP := hcC.2 p P hP
  have pQ := hcC.2 q Q hQ
  obtain ⟨-, u3, u4, u5, -⟩ := pQ
  obtain ⟨v, v1, v2⟩ := hasMove_ok (R := R) k2 pP u3 u4 u5
  have n1 : mX1_now K R M (o + 20) = some c := hnow M rfl
  rcases v2 with ⟨rfl, e1, e2, e3⟩ | ⟨rfl, v2⟩
  · -- the same move
    have ref := fun (R1 : Rr) (M1 : Mm) (h1 : moA K R1 (o + 2118)) (h2 : psM (M1.2 (o + 2118 + 1)) 0 ps) => joinM_ok (K := K) (R := R1) (M := M1) h1 h2 hpp hP hQ hpq e1 e2 e3
    rcases takeJoined_ok (M := M) r1 k2.2.2 k4.2.2 (by omega) (by omega) pP.1 (hcC.2 q Q hQ).1 p16 q16 q3 with ⟨i, j, M27, hcs, t1, t2, t3, t4⟩ | ⟨hno, t1⟩
    · have hq27 : psM (M27.2 (o + 2118 + 1)) 0 ps := by rw [t4]; exact hq6
      have lW := jW_len (X := P.1) (Y := Q.1) (i := i) (j := j) (by omega)
      have bW : inBs (jW P.1 Q.1 i j) := inBs_of (fun x hx => by
        rcases jW_mem (by omega) hx with z | z
        · exact iP.1.B.m x z
        · exact iQ.1.B.m x z)
      obtain ⟨w, M32, w1, w2, w3, w4, w5⟩ := takeUnbent_ok (M := M27) r2 r1 (by omega) t2 (by omega) bW
      have F32 : Fr (o + 1985) (o + 1991) M M32 := (t3.mono (by omega) (by omega)).tr (w2.mono (by omega) (by omega))
      have e32 : M32.2 = M.2 := w3.trans t4
      have hq32 : psM (M32.2 (o + 2118 + 1)) 0 ps := by rw [e32]; exact hq6
      rcases w4 with ⟨rfl, hout⟩ | ⟨rfl, hout⟩
      · have r32 := w5 rfl
        have eV := r32.1
        have le := ubL_le (jW P.1 Q.1 i j) (jW P.1 Q.1 i j).length
        obtain ⟨jc, j3, jB, jP⟩ := joP_ok iP iQ e1 e2 e3 hcs hout
        by_cases h16 : (ubL (jW P.1 Q.1 i j) (jW P.1 Q.1 i j).length).length ≤ 16
        · have iJ := jP h16
          have hd8 := hx.1.1
          have hcd : cont o d = o + 22 + 162 * d := rfl
          have hx32 := hx.fr (M' := M32) hw.2.2.2.2.1 (fun i q hq => (hw.2.2.2.2.2.1 i q hq).fit) (fun b hb _ => (F32 b (by omega)).1)
          obtain ⟨M37, x1, x2, x3, x4⟩ := draft_ok hs0 hx32 hw.2.2.2.1 hw.2.2.2.2.1 hps hpp.fit
          have hdA := cont_psA hs0 hd8
          have hdA0 := hdA
          obtain ⟨a0', a1', a2', a3'⟩ := hdA
          obtain ⟨l1, l2⟩ := a3' p (by omega)
          have l20 := l2.1
          have lsV : ∃ k, isLs (ubL (jW P.1 Q.1 i j) (jW P.1 Q.1 i j).length) k := isLs_ex (fun z => by rw [z] at j3; simp at j3) (jc.ds j3)
          obtain ⟨M42, y1, y2, y3, y4⟩ := setOrigin_ok (M := M37) l2 r2 (by omega) (r32.fr x3 (by omega)) h16 (by omega) (by decide) (inBs_of (fun x hx => bW.m x (ubL_sub hx))) lsV (x2.2 p P hP)
          have ps42 : psC M42 (cont o d) (ps.set p (joP P (jW P.1 Q.1 i j))) := psC_set x2 hp y3 y2
          obtain ⟨M44, z1, z2, z3, z4⟩ := remove_ok (M := M42) (t := q) hdA0 ps42 (isPs_set hpp iJ).fit (by rw [List.length_set]; exact hq)
          have hpp' : isPs ((ps.set p (joP P (jW P.1 Q.1 i j))).eraseIdx q) := by
            have g := isPs_set (p := p) hpp iJ
            refine ⟨?_, fun t T hT => ?_⟩
            · rw [List.length_eraseIdx, if_pos (by rw [List.length_set]; exact hq), List.length_set]; omega
            · rw [List.getElem?_eraseIdx] at hT
              by_cases zt : t < q
              · rw [if_pos zt] at hT; exact g.2 _ _ hT
              · rw [if_neg zt] at hT; exact g.2 _ _ hT
          have o44 : ∀ b, (b < cont o d ∨ cont o d + 162 ≤ b) → M44.1 b = M32.1 b := fun b h => by rw [(z3 b h).1, (y3 b (by omega)).1, (x3 b h).1]
          have e44 : M44.2 = M.2 := ((z4.trans y4).trans x4).trans e32
          obtain ⟨R1, M17, b1, b2, b3, b4, b5, b6, b7⟩ := chg hs0 hm hw hc ho hx hpp' z2 (fun b hb h => by rw [o44 b h, (F32 b (by omega)).1]) e44 (fun b hb => by rw [o44 b (by omega), (F32 b (by omega)).1])
          have hq17 : psM (M17.2 (o + 2118 + 1)) 0 ps := by rw [b5]; exact hq6
          obtain ⟨M28, f1, f2⟩ := ((ref R1 M17 b4 hq17).2 i j hcs).2.2 hout h16
          obtain ⟨N, n1', n2, n3⟩ := b7 M28 _ _ f1 (by decide) (by decide) (by decide) (by decide)
          obtain ⟨M39, g1', g2', g3'⟩ := f2 N n1' n2
          have r10' : R1 o 10 = some (o + 1988) := by
            obtain ⟨-, -, -, -, -, -, -, -, -, -, -, y, -⟩ := b3
            exact y
          have fin : M17.1 (o + 1988) 2 = nI (ubL (jW P.1 Q.1 i j) (jW P.1 Q.1 i j).length).length := by rw [b6 _ (by omega), o44 _ (by omega)]; exact eV
          refine ⟨(nI (ubL (jW P.1 Q.1 i j) (jW P.1 Q.1 i j).length).length).toInt64, R1, M17, M39, ?_, g1', n3 M39 _ _ g3' (by decide) (by decide) (by decide) (by decide) g2'⟩
          unfold mX7_join
          (repeat (first | rw [ck_t (by first | with_reducible assumption | ((with_reducible apply ixA_of); (with_reducible assumption); omega; omega) | ((with_reducible apply isAr_of); (with_reducible assumption); decide) | ((with_reducible apply nI_ne0); omega; omega) | with_reducible exact isB_0 | with_reducible exact isB_1 | with_reducible exact isB_bI _)] | rw [bd_r (by with_reducible assumption)] | rw [bd_s] | rw [bd2_s] | rw [bd3_s] | rw [nm_s] | rw [nI_clamp (by omega)] | rw [nI_1] | rw [bd_e (q1)] | rw [bd_e (q2)] | rw [if_neg (ne)] | rw [bd_e (n1)] | rw [bd_e (v1)] | rw [bd2_e (t1)] | rw [bd2_e (w1)] | rw [if_neg (ne10)] | rw [eV] | rw [if_pos (show nI (ubL (jW P.1 Q.1 i j) (jW P.1 Q.1 i j).length).length ≤ 16 from nI_le (b := 16) h16 (by decide))] | rw [bd2_e (x1)] | rw [bd_e (y1)] | rw [bd_e (z1)] | rw [bd2_e (b1)] | rw [fin] | rw [if_pos (by first | with_reducible assumption | ((with_reducible refine nI_lt ?_ ?_); omega; omega) | ((with_reducible refine nI_nlt ?_ ?_); omega; omega) | with_reducible exact ne10 | with_reducible rfl)] | rw [if_neg (by first | with_reducible assumption | ((with_reducible refine nI_lt ?_ ?_); omega; omega) | ((with_reducible refine nI_nlt ?_ ?_); omega; omega) | with_reducible exact ne10 | with_reducible rfl)]))
        · obtain ⟨N, f1, f2⟩ := ((ref R M32 hm hq32).2 i j hcs).2.1 hout h16
          refine ⟨-9000000000000000003, R, M32, N, ?_, f1, hI0.kp ((Kp.fr F32 (by omega)).tr (f2.kp (by decide) (by decide) (by decide) (by decide)))⟩
          unfold mX7_join
          (repeat (first | rw [ck_t (by first | with_reducible assumption | ((with_reducible apply ixA_of); (with_reducible assumption); omega; omega) | ((with_reducible apply isAr_of); (with_reducible assumption); decide) | ((with_reducible apply nI_ne0); omega; omega) | with_reducible exact isB_0 | with_reducible exact isB_1 | with_reducible exact isB_bI _)] | rw [bd_r (by with_reducible assumption)] | rw [bd_s] | rw [bd2_s] | rw [bd3_s] | rw [nm_s] | rw [nI_clamp (by omega)] | rw [nI_1] | rw [bd_e (q1)] | rw [bd_e (q2)] | rw [if_neg (ne)] | rw [bd_e (n1)] | rw [bd_e (v1)] | rw [bd2_e (t1)] | rw [bd2_e (w1)] | rw [if_neg (ne10)] | rw [eV] | rw [if_neg (show ¬ nI (ubL (jW P.1 Q.1 i j) (jW P.1 Q.1 i j).length).length ≤ 16 by rw [le32, nI_int (by omega)]; show ¬ ((_ : Nat) : Int) ≤ 16; omega)] | rw [if_pos (by first | with_reducible assumption | ((with_reducible refine nI_lt ?_ ?_); omega; omega) | ((with_reducible refine nI_nlt ?_ ?_); omega; omega) | with_reducible exact ne10 | with_reducible rfl)] | rw [if_neg (by first | with_reducible assumption | ((with_reducible refine nI_lt ?_ ?_); omega; omega) | ((with_reducible refine nI_nlt ?_ ?_); omega; omega) | with_reducible exact ne10 | with_reducible rfl)]))
      · obtain ⟨N, f1, f2⟩ := ((ref R M32 hm hq32).2 i j hcs).1 hout
        refine ⟨-9000000000000000002, R, M32, N, ?_, f1, hI0.kp ((Kp.fr F32 (by omega)).tr (f2.kp (by decide) (by decide) (by decide) (by decide)))⟩
        unfold mX7_join
        (repeat (first | rw [ck_t (by first | with_reducible assumption | ((with_reducible apply ixA_of); (with_reducible assumption); omega; omega) | ((with_reducible apply isAr_of); (with_reducible assumption); decide) | ((with_reducible apply nI_ne0); omega; omega) | with_reducible exact isB_0 | with_reducible exact isB_1 | with_reducible exact isB_bI _)] | rw [bd_r (by with_reducible assumption)] | rw [bd_s] | rw [bd2_s] | rw [bd3_s] | rw [nm_s] | rw [nI_clamp (by omega)] | rw [nI_1] | rw [bd_e (q1)] | rw [bd_e (q2)] | rw [if_neg (ne)] | rw [bd_e (n1)] | rw [bd_e (v1)] | rw [bd2_e (t1)] | rw [bd2_e (w1)] | rw [if_neg (ne10)] | rw [if_pos (by first | with_reducible assumption | ((with_reducible refine nI_lt ?_ ?_); omega; omega) | ((with_reducible refine nI_nlt ?_ ?_); omega; omega) | with_reducible exact ne10 | with_reducible rfl)] | rw [if_neg (by first | with_reducible assumption | ((with_reducible refine nI_lt ?_ ?_); omega; omega) | ((with_reducible refine nI_nlt ?_ ?_); omega; omega) | with_reducible exact ne10 | with_reducible rfl)]))
    · obtain ⟨N, f1, f2⟩ := (ref R M hm hq6).1 hno
      refine ⟨-9000000000000000002, R, M, N, ?_, f1, hI0.kp (f2.kp (by decide) (by decide) (by decide) (by decide))⟩
      unfold mX7_join
      (repeat (first | rw [ck_t (by first | with_reducible assumption | ((with_reducible apply ixA_of); (with_reducible assumption); omega; omega) | ((with_reducible apply isAr_of); (with_reducible assumption); decide) | ((with_reducible apply nI_ne0); omega; omega) | with_reducible exact isB_0 | with_reducible exact isB_1 | with_reducible exact isB_bI _)] | rw [bd_r (by with_reducible assumption)] | rw [bd_s] | rw [bd2_s] | rw [bd3_s] | rw [nm_s] | rw [nI_clamp (by omega)] | rw [nI_1] | rw [bd_e (q1)] | rw [bd_e (q2)] | rw [if_neg (ne)] | rw [bd_e (n1)] | rw [bd_e (v1)] | rw [bd2_e (t1)] | rw [if_neg (ne10)] | rw [if_pos (by first | with_reducible assumption | ((with_reducible refine nI_lt ?_ ?_); omega; omega) | ((with_reducible refine nI_nlt ?_ ?_); omega; omega) | with_reducible exact ne10 | with_reducible rfl)] | rw [if_neg (by first | with_reducible assumption | ((with_reducible refine nI_lt ?_ ?_); omega; omega) | ((with_reducible refine nI_nlt ?_ ?_); omega; omega) | with_reducible exact ne10 | with_reducible rfl)]))
  · refine ⟨-9000000000000000002, R, M, M, ?_, ?_, hI0⟩
    · unfold mX7_join
      (repeat (first | rw [ck_t (by first | with_reducible assumption | ((with_reducible apply ixA_of); (with_reducible assumption); omega; omega) | ((with_reducible apply isAr_of); (with_reducible assumption); decide) | ((with_reducible apply nI_ne0); omega; omega) | with_reducible exact isB_0 | with_reducible exact isB_1 | with_reducible exact isB_bI _)] | rw [bd_r (by with_reducible assumption)] | rw [bd_s] | rw [bd2_s] | rw [bd3_s] | rw [nm_s] | rw [nI_clamp (by omega)] | rw [nI_1] | rw [bd_e (q1)] | rw [bd_e (q2)] | rw [if_neg (ne)] | rw [bd_e (n1)] | rw [bd_e (v1)] | rw [if_pos (by first | with_reducible assumption | ((with_reducible refine nI_lt ?_ ?_); omega; omega) | ((with_reducible refine nI_nlt ?_ ?_); omega; omega) | with_reducible exact ne10 | with_reducible rfl)] | rw [if_neg (by first | with_reducible assumption | ((with_reducible refine nI_lt ?_ ?_); omega; omega) | ((with_reducible refine nI_nlt ?_ ?_); omega; omega) | with_reducible exact ne10 | with_reducible rfl)]))
    · obtain ⟨-, -, s3, s4, s5, -⟩ := hq6.pc hP
      obtain ⟨-, -, t3, t4, t5, -⟩ := hq6.pc hQ
      have gp33 : mX8_get K R M (o + 2118) (nI p) 33 = some (M.2 (o + 2118 + 1) (37 * p + 33)) := get_ok hm rfl (by omega) (by omega)
      have gp34 : mX8_get K R M (o + 2118) (nI p) 34 = some (M.2 (o + 2118 + 1) (37 * p + 34)) := get_ok hm rfl (by omega) (by omega)
      have gp35 : mX8_get K R M (o + 2118) (nI p) 35 = some (M.2 (o + 2118 + 1) (37 * p + 35)) := get_ok hm rfl (by omega) (by omega)
      have gq33 : mX8_get K R M (o + 2118) (nI q) 33 = some (M.2 (o + 2118 + 1) (37 * q + 33)) := get_ok hm rfl (by omega) (by omega)
      have gq34 : mX8_get K R M (o + 2118) (nI q) 34 = some (M.2 (o + 2118 + 1) (37 * q + 34)) := get_ok hm rfl (by omega) (by omega)
      have gq35 : mX8_get K R M (o + 2118) (nI q) 35 = some (M.2 (o + 2118 + 1) (37 * q + 35)) := get_ok hm rfl (by omega) (by omega)
      have k33 : M.2 (o + 2118 + 1) (37 * p + 33) = M.2 (o + 2118 + 1) (37 * q + 33) ↔ P.2.1 = Q.2.1 := by rw [eq64, s3, t3]
      have k34 : M.2 (o + 2118 + 1) (37 * p + 34) = M.2 (o + 2118 + 1) (37 * q + 34) ↔ P.2.2.1 = Q.2.2.1 := by rw [eq64, s4, t4]
      have k35 : M.2 (o + 2118 + 1) (37 * p + 35) = M.2 (o + 2118 + 1) (37 * q + 35) ↔ P.2.2.2.1 = Q.2.2.2.1 := by rw [eq64, s5, t5]
      unfold mX8_join
      (repeat (first | rw [ck_t (by first | with_reducible assumption | ((with_reducible apply ixA_of); (with_reducible assumption); omega; omega) | ((with_reducible apply isAr_of); (with_reducible assumption); decide) | ((with_reducible apply nI_ne0); omega; omega) | with_reducible exact isB_0 | with_reducible exact isB_1 | with_reducible exact isB_bI _)] | rw [bd_r (by with_reducible assumption)] | rw [bd_s] | rw [bd2_s] | rw [bd3_s] | rw [nm_s] | rw [nI_clamp (by omega)] | rw [nI_1] | rw [bd_e (q1')] | rw [bd_e (q2')] | rw [if_neg (ne)] | rw [bd_e (gp33)] | rw [bd_e (gq33)] | rw [if_pos (by first | with_reducible assumption | ((with_reducible refine nI_lt ?_ ?_); omega; omega) | ((with_reducible refine nI_nlt ?_ ?_); omega; omega) | with_reducible exact ne10 | with_reducible rfl)] | rw [if_neg (by first | with_reducible assumption | ((with_reducible refine nI_lt ?_ ?_); omega; omega) | ((with_reducible refine nI_nlt ?_ ?_); omega; omega) | with_reducible exact ne10 | with_reducible rfl)]))
      by_cases c1 : P.2.1 = Q.2.1
      · rw [if_pos (k33.mpr c1), bd_e gp34, bd_e gq34]
        by_cases c2 : P.2.2.1 = Q.2.2.1
        · rw [if_pos (k34.mpr c2), bd_e gp35, bd_e gq35, if_neg (fun z => v2 ⟨c1, c2, k35.mp z⟩)]
        · rw [if_neg (fun z => c2 (k34.mp z))]
      · rw [if_neg (fun z => c1 (k33.mp z))]
