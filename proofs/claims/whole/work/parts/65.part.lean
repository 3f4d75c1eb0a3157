/-! part told alike -/
section PA
variable {K : Kk} {R : Rr} {M : Mm}
theorem moC.kp2 {M M' : Mm} {o : Nat} {S : Sx} (h : moC M (o + 2118) S) (f : ∀ b, o + 2119 ≤ b → b < o + 2129 → M'.1 b = M.1 b ∧ M'.2 b = M.2 b) (k3 : M'.1 (o + 2118) 3 = M.1 (o + 2118) 3) (k4 : M'.1 (o + 2118) 4 = M.1 (o + 2118) 4) (k12 : M'.1 (o + 2118) 12 = M.1 (o + 2118) 12) : moC M' (o + 2118) S := by
  obtain ⟨h1, h2, h3, h4, h5, h6, h7, h8, h9⟩ := h
  refine ⟨by rw [k12]; exact h1, fun i p hp => ?_, fun k hk => ⟨?_, fun i p hp => ?_⟩, by rw [k3]; exact h4, by rw [k4]; exact h5, ?_, ?_, ?_, fun k hk => ⟨?_, ?_⟩⟩
  · rw [(f (o + 2118 + 9) (by omega) (by omega)).2, (f (o + 2118 + 10) (by omega) (by omega)).2]; exact h2 i p hp
  · rw [(f (o + 2118 + 8) (by omega) (by omega)).1]; exact (h3 k hk).1
  · rw [(f (o + 2118 + 6) (by omega) (by omega)).2, (f (o + 2118 + 7) (by omega) (by omega)).2]; exact (h3 k hk).2 i p hp
  · rw [(f (o + 2118 + 1) (by omega) (by omega)).2]; exact h6
  · rw [(f (o + 2118 + 2) (by omega) (by omega)).2]; exact h7
  · rw [(f (o + 2118 + 3) (by omega) (by omega)).2]; exact h8
  · rw [(f (o + 2118 + 5) (by omega) (by omega)).1]; exact (h9 k hk).1
  · rw [(f (o + 2118 + 4) (by omega) (by omega)).2]; exact (h9 k hk).2
theorem chg0 {o : Nat} {M1 : Mm} {S : Sx} {ps : List Pc} {f : Nat → Nat} {d : Nat} (hs : skC K R o) (hm : moA K R (o + 2118)) (hw : WF S) (hc : clC R M o S) (ho : moC M (o + 2118) S) (hx : hiX R M o S.2.2.1 S.2.2.2.1 f d) (hpp : isPs ps) (h1 : psC M1 (cont o d) ps) (e : ∀ b, b < o + 1968 → (b < cont o d ∨ cont o d + 162 ≤ b) → M1.1 b = M.1 b) (eL : M1.2 = M.2) (eH : ∀ b, o + 2118 ≤ b → M1.1 b = M.1 b) :
    ∃ R1 M17, mX1_keepDraft K R M1 (o + 20) = some (R1, M17) ∧ Rh o R R1 ∧ skC K R1 o ∧ moA K R1 (o + 2118) ∧ M17.2 = M.2 ∧ (∀ b, b ≠ o + 20 → M17.1 b = M1.1 b) ∧
      ∀ (Mx : Mm) (is0 as0 : List Nat), FM (o + 2118) is0 as0 M17 Mx → 3 ∉ is0 → 4 ∉ is0 → 12 ∉ is0 → (∀ j, j ∈ as0 → j = 0 ∨ 11 ≤ j) →
        ∃ N, mX8_keep K R1 Mx (o + 2118) = some N ∧ FM (o + 2118) [3, 4] [2] Mx N ∧
          ∀ (M2 : Mm) (is as : List Nat), FM (o + 2118) is as N M2 → 3 ∉ is → 4 ∉ is → 12 ∉ is → (∀ j, j ∈ as → j = 1 ∨ 11 ≤ j) → psM (M2.2 (o + 2118 + 1)) 0 ps → Inv o K R1 M2 := by
  obtain ⟨R1, M17, f', d', k1, k2, k3, k4, k5⟩ := keepC hs hw hx h1 hpp e
  have hm1 := hm.rh k3
  have hd8 := hx.1.1
  have hd1 : cont o d = o + 22 + 162 * d := rfl
  refine ⟨R1, M17, k1, k3, hs.rh k3, hm1, k5.trans eL, k4, fun Mx is0 as0 hF h3 h4 h12 ha => ?_⟩
  have hr := moC_split.mp ho
  have e17 : ∀ b, o + 2118 ≤ b → M17.1 b = M.1 b := fun b hb => (k4 b (by omega)).trans (eH b hb)
  have hH : moH Mx (o + 2118) S.2.2.1 S.2.2.2.1 := by
    obtain ⟨a1, a2, a3, a4, a5⟩ := hr.2
    have s3 := hF.sl 3 h3
    have s4 := hF.sl 4 h4
    have r1 := hF.ar 1 (fun z => by have := ha 1 z; omega)
    have r2 := hF.ar 2 (fun z => by have := ha 2 z; omega)
    have r3 := hF.ar 3 (fun z => by have := ha 3 z; omega)
    rw [e17 _ (by omega)] at s3 s4
    rw [k5, eL] at r1 r2 r3
    exact ⟨s3.trans a1, s4.trans a2, by rw [r1]; exact a3, by rw [r2]; exact a4, by rw [r3]; exact a5⟩
  obtain ⟨N, n1, n2, n3, n4, n5, n6, n7⟩ := keepM_ok hm1 hH hw.2.2.2.1 hw.2.2.2.2.1 hw.2.2.2.2.2.1
  refine ⟨N, n1, ⟨n5, fun k hk => n4 k (fun q => hk (by rw [q]; decide)) (fun q => hk (by rw [q]; decide)), fun b hb => n6 b (hb 2 (by decide))⟩, fun M2 is as hG g3 g4 g12 ga hps => ?_⟩
  refine inv_change (M1 := M17) hs hm hw hc ho hpp k2 k3 (fun b hb => ⟨(k4 b (by omega)).trans (e b (by omega) (by omega)), by rw [k5, eL]⟩) (fun b hb => ⟨?_, ?_⟩) (fun b h1 h2 => ⟨?_, ?_⟩) ?_ ?_ ?_ hps (fun i x hi hx2 => ?_)
  · rw [hG.1 b (by omega), n5 b (by omega), hF.1 b (by omega)]
  · rw [hG.2.2 b (fun j hj => by have := ga j hj; omega), n6 b (by omega), hF.2.2 b (fun j hj => by have := ha j hj; omega)]
  · rw [hG.1 b (by omega), n5 b (by omega), hF.1 b (by omega)]; exact e17 b (by omega)
  · rw [hG.2.2 b (fun j hj => by have := ga j hj; omega), n6 b (by omega), hF.2.2 b (fun j hj => by have := ha j hj; omega), k5, eL]
  · rw [hG.sl 12 g12, n4 12 (by decide) (by decide), hF.sl 12 h12, e17 _ (by omega)]
  · rw [hG.sl 3 g3]; exact n2
  · rw [hG.sl 4 g4]; exact n3
  · rw [hG.ar 2 (fun z => by have := ga 2 z; omega)]; exact n7 i x hi hx2
theorem FM.kp0 {o : Nat} {is as : List Nat} {M M' : Mm} (h : FM (o + 2118) is as M M') (h3 : 3 ∉ is) (h4 : 4 ∉ is) (h12 : 12 ∉ is) (ha : ∀ j, j ∈ as → j = 0 ∨ 11 ≤ j) : Kp o M M' :=
  ⟨fun b hb => ⟨h.1 b (by omega), h.2.2 b (fun j hj => by have := ha j hj; omega)⟩, fun b h1 h2 => ⟨h.1 b (by omega), h.2.2 b (fun j hj => by have := ha j hj; omega)⟩, h.sl 3 h3, h.sl 4 h4, h.sl 12 h12⟩
/-- the draft and the scratch alone are written: nothing has happened -/
theorem Inv_dr {o : Nat} {M' : Mm} {S : Sx} {f : Nat → Nat} {d : Nat} (hs : skC K R o) (hm : moA K R (o + 2118)) (hw : WF S) (hc : clC R M o S) (ho : moC M (o + 2118) S) (hx : hiX R M o S.2.2.1 S.2.2.2.1 f d) (e : ∀ b, b < o + 1968 → (b < cont o d ∨ cont o d + 162 ≤ b) → M'.1 b = M.1 b ∧ M'.2 b = M.2 b) (e2 : ∀ b, o + 2119 ≤ b → b < o + 2129 → M'.1 b = M.1 b ∧ M'.2 b = M.2 b) (k3 : M'.1 (o + 2118) 3 = M.1 (o + 2118) 3) (k4 : M'.1 (o + 2118) 4 = M.1 (o + 2118) 4) (k12 : M'.1 (o + 2118) 12 = M.1 (o + 2118) 12) : Inv o K R M' := by
  have hd8 := hx.1.1
  have hcd : cont o d = o + 22 + 162 * d := rfl
  have hx' := hx.fr (M' := M') hw.2.2.2.2.1 (fun i q hq => (hw.2.2.2.2.2.1 i q hq).fit) (fun b hb h => (e b (by omega) h).1)
  exact ⟨hs, hm, S, hw, hc.hist hw (fun b hb => e b (by omega) (by omega)) ⟨f, d, hx'⟩ rfl rfl rfl, ho.kp2 e2 k3 k4 k12⟩
theorem lset_M {m : Nat} {A B : Pt} {x y z w : Int64} (hx : x.toInt = A.1) (hy : y.toInt = A.2) (hz : z.toInt = B.1) (hw : w.toInt = B.2) : lnM (pL (pL (pL (pL M m 25 x) m 26 y) m 27 z) m 28 w) m A B ∧ FM m [] [0] M (pL (pL (pL (pL M m 25 x) m 26 y) m 27 z) m 28 w) := by
  refine ⟨⟨?_, ?_, ?_, ?_⟩, fun b _ => rfl, fun k _ => rfl, fun b hb => ?_⟩
  · rw [pL_k (by decide), pL_k (by decide), pL_k (by decide), pL_s]; exact hx
  · rw [pL_k (by decide), pL_k (by decide), pL_s]; exact hy
  · rw [pL_k (by decide), pL_s]; exact hz
  · rw [pL_s]; exact hw
  · have := hb 0 (by decide)
    rw [pL_n (by omega), pL_n (by omega), pL_n (by omega), pL_n (by omega)]
def stp (x y : Int32) : Prop := (-1000 ≤ x.toInt ∧ x.toInt ≤ 1000) ∧ (-1000 ≤ y.toInt ∧ y.toInt ≤ 1000) ∧ ¬ (x = 0 ∧ y = 0)
theorem partM_J {m : Nat} {a0 a1 a2 a3 a4 : Int32} (hm : moA K R m) : ∃ s, mX8_part K R M m a0 a1 a2 a3 a4 = mX8_part_J45 K R M m a0 a1 a2 a3 a4 s ∧ iv s (stp a3 a4) := by
  have h0 := hm.1
  unfold mX8_part
  rw [ck_t h0]
  by_cases w3 : -1000 ≤ a3.toInt ∧ a3.toInt ≤ 1000
  · rw [isIn_t (x := a3.toInt64) (a := -1000) (b := 1000) (by rw [i64_int]; exact w3.1) (by rw [i64_int]; exact w3.2), bd_s, if_neg ne10]
    by_cases w4 : -1000 ≤ a4.toInt ∧ a4.toInt ≤ 1000
    · rw [isIn_t (x := a4.toInt64) (a := -1000) (b := 1000) (by rw [i64_int]; exact w4.1) (by rw [i64_int]; exact w4.2), bd_s, if_neg ne10]
      by_cases z3 : a3 = 0
      · rw [if_pos z3]
        by_cases z4 : a4 = 0
        · exact ⟨0, by rw [if_pos z4]; rfl, Or.inr ⟨rfl, fun q => q.2.2 ⟨z3, z4⟩⟩⟩
        · exact ⟨1, by rw [if_neg z4]; rfl, Or.inl ⟨rfl, w3, w4, fun q => z4 q.2⟩⟩
      · exact ⟨1, by rw [if_neg z3]; rfl, Or.inl ⟨rfl, w3, w4, fun q => z3 q.1⟩⟩
    · rw [isIn_f (x := a4.toInt64) (a := -1000) (b := 1000) (by rw [i64_int]; exact w4), bd_s, if_pos rfl]
      exact ⟨0, rfl, Or.inr ⟨rfl, fun q => w4 q.2.1⟩⟩
  · rw [isIn_f (x := a3.toInt64) (a := -1000) (b := 1000) (by rw [i64_int]; exact w3), bd_s, if_pos rfl]
    exact ⟨0, rfl, Or.inr ⟨rfl, fun q => w3 q.1⟩⟩
theorem partC_bad {o : Nat} {a0 a1 a2 a3 a4 : Int32} (h0 : isO K o 7) (q1 : mX7_isPiece K R M o a0 = some 1) (q2 : mX7_isPlace K R M a1 a2 = some 1) (hn : ¬ stp a3 a4) : mX7_part K R M o a0 a1 a2 a3 a4 = some (-9000000000000000001, R, M) := by
  have J : ¬ (a3 = 0 ∧ a4 = 0) → mX7_part_J26 K R M o a0 a1 a2 a3 a4 = some (-9000000000000000001, R, M) := fun hz => by
    unfold mX7_part_J26
    by_cases w3 : -1000 ≤ a3.toInt ∧ a3.toInt ≤ 1000
    · have w4 : ¬ (-1000 ≤ a4.toInt ∧ a4.toInt ≤ 1000) := fun q => hn ⟨w3, q, hz⟩
      (repeat (first | rw [ck_t (by first | with_reducible assumption | ((with_reducible apply ixA_of); (with_reducible assumption); omega; omega) | ((with_reducible apply isAr_of); (with_reducible assumption); decide) | ((with_reducible apply nI_ne0); omega; omega) | with_reducible exact isB_0 | with_reducible exact isB_1 | with_reducible exact isB_bI _)] | rw [bd_r (by with_reducible assumption)] | rw [bd_s] | rw [bd2_s] | rw [bd3_s] | rw [nm_s] | rw [nI_clamp (by omega)] | rw [nI_1] | rw [bd_e (isWithin_t (n := 1000) (by decide) (by decide) w3.1 w3.2)] | rw [bd_e (isWithin_f (n := 1000) (by decide) (by decide) w4)] | rw [if_pos (by first | with_reducible assumption | ((with_reducible refine nI_lt ?_ ?_); omega; omega) | ((with_reducible refine nI_nlt ?_ ?_); omega; omega) | with_reducible exact ne10 | with_reducible rfl)] | rw [if_neg (by first | with_reducible assumption | ((with_reducible refine nI_lt ?_ ?_); omega; omega) | ((with_reducible refine nI_nlt ?_ ?_); omega; omega) | with_reducible exact ne10 | with_reducible rfl)]))
    · (repeat (first | rw [ck_t (by first | with_reducible assumption | ((with_reducible apply ixA_of); (with_reducible assumption); omega; omega) | ((with_reducible apply isAr_of); (with_reducible assumption); decide) | ((with_reducible apply nI_ne0); omega; omega) | with_reducible exact isB_0 | with_reducible exact isB_1 | with_reducible exact isB_bI _)] | rw [bd_r (by with_reducible assumption)] | rw [bd_s] | rw [bd2_s] | rw [bd3_s] | rw [nm_s] | rw [nI_clamp (by omega)] | rw [nI_1] | rw [bd_e (isWithin_f (n := 1000) (by decide) (by decide) w3)] | rw [if_pos (by first | with_reducible assumption | ((with_reducible refine nI_lt ?_ ?_); omega; omega) | ((with_reducible refine nI_nlt ?_ ?_); omega; omega) | with_reducible exact ne10 | with_reducible rfl)] | rw [if_neg (by first | with_reducible assumption | ((with_reducible refine nI_lt ?_ ?_); omega; omega) | ((with_reducible refine nI_nlt ?_ ?_); omega; omega) | with_reducible exact ne10 | with_reducible rfl)]))
  unfold mX7_part
  (repeat (first | rw [ck_t (by first | with_reducible assumption | ((with_reducible apply ixA_of); (with_reducible assumption); omega; omega) | ((with_reducible apply isAr_of); (with_reducible assumption); decide) | ((with_reducible apply nI_ne0); omega; omega) | with_reducible exact isB_0 | with_reducible exact isB_1 | with_reducible exact isB_bI _)] | rw [bd_r (by with_reducible assumption)] | rw [bd_s] | rw [bd2_s] | rw [bd3_s] | rw [nm_s] | rw [nI_clamp (by omega)] | rw [nI_1] | rw [bd_e (q1)] | rw [bd_e (q2)] | rw [if_pos (by first | with_reducible assumption | ((with_reducible refine nI_lt ?_ ?_); omega; omega) | ((with_reducible refine nI_nlt ?_ ?_); omega; omega) | with_reducible exact ne10 | with_reducible rfl)] | rw [if_neg (by first | with_reducible assumption | ((with_reducible refine nI_lt ?_ ?_); omega; omega) | ((with_reducible refine nI_nlt ?_ ?_); omega; omega) | with_reducible exact ne10 | with_reducible rfl)]))
  by_cases z3 : a3 = 0
  · rw [if_pos z3]
    by_cases z4 : a4 = 0
    · rw [if_pos z4]
    · rw [if_neg z4]; exact J (fun q => z4 q.2)
  · rw [if_neg z3]; exact J (fun q => z3 q.1)
/-- the reference's part, its cases -/
theorem partM_ok {m p : Nat} {ps : List Pc} {P : Pc} {a1 a2 a3 a4 : Int32} {A B : Pt} (hm : moA K R m) (hps : psM (M.2 (m + 1)) 0 ps) (hP : ps[p]? = some P) (hpp : isPs ps) (hin : inB (a1.toInt, a2.toInt)) (hst : stp a3 a4) (hA : A = (a1.toInt, a2.toInt)) (hBe : B = (a1.toInt + a3.toInt, a2.toInt + a4.toInt)) :
    ∃ M14, lnM M14 m A B ∧ FM m [15, 21, 24] [0, 11, 12, 15, 16, 17, 18] M M14 ∧ (¬ xsd A B P → mX8_part_J45 K R M m (nI p) a1 a2 a3 a4 1 = some (-9000000000000000002, M14)) ∧ (xsd A B P → (40 ≤ ps.length ∨ ofl A B P) → mX8_part_J45 K R M m (nI p) a1 a2 a3 a4 1 = some (-9000000000000000003, M14)) ∧ (xsd A B P → ps.length < 40 → ¬ ofl A B P → ¬ allW A B (plc P) → mX8_part_J45 K R M m (nI p) a1 a2 a3 a4 1 = some (-9000000000000000004, M14)) ∧
      (xsd A B P → ps.length < 40 → ¬ ofl A B P → allW A B (plc P) → ∀ N M23 ps', mX8_keep K R M14 m = some N → mX8_cutOne K R N m (nI p) = some M23 → psM (M23.2 (m + 1)) 0 ps' → ps'.length = ps.length + 1 → mX8_part_J45 K R M m (nI p) a1 a2 a3 a4 1 = some ((nI ps.length).toInt64, M23)) := by
  have h40 := hpp.1
  have hp := get_lt hP
  have iP := hpp.2 p P hP
  obtain ⟨q1, q2, q3, q4, q5⟩ := plc_ok iP
  have s16 := iP.1.2.1
  obtain ⟨i1, i2, i3, i4⟩ := id hin
  simp only at i1 i2 i3 i4
  obtain ⟨⟨t1, t2⟩, ⟨t3, t4⟩, t5⟩ := id hst
  have hB : lnB A B := by subst hA hBe; unfold lnB inB; simp only; omega
  have e1 : (a1 + a3).toInt64.toInt = B.1 := by rw [i64_int, add32 (by omega) (by omega), hBe]
  have e2 : (a2 + a4).toInt64.toInt = B.2 := by rw [i64_int, add32 (by omega) (by omega), hBe]
  obtain ⟨L0, F0⟩ := lset_M (M := M) (m := m) (A := A) (B := B) (x := a1.toInt64) (y := a2.toInt64) (z := (a1 + a3).toInt64) (w := (a2 + a4).toInt64) (by rw [i64_int, hA]) (by rw [i64_int, hA]) e1 e2
  generalize hX : pL (pL (pL (pL M m 25 a1.toInt64) m 26 a2.toInt64) m 27 (a1 + a3).toInt64) m 28 (a2 + a4).toInt64 = X at L0 F0
  have psX := hps.fr F0 (by decide)
  obtain ⟨v, M14, c1, c2, c3, c4⟩ := crossesM_ok hm (psX.pc hP) (by omega) iP L0 hB
  have l14 := L0.fr c4 (by decide)
  have ps14 := psX.fr c4 (by decide)
  obtain ⟨w, w1, w2⟩ := isLargeM_ok hm iP l14 hB c3
  obtain ⟨x, x1, x2⟩ := isWhole_ok hm l14 hB c3 (by omega) (inBs_of q5)
  have r1 := isPieceM_t hm hps hp h40
  have r2 : mX8_isPlace K R M a1.toInt64 a2.toInt64 = some 1 := isPlaceM_t (by rw [i64_int, i64_int]; exact hin)
  have n40 : ps.length < 40 → ¬ nI ps.length = 40 := fun h q => by have := (nI_eq (by omega) (by decide : 40 < 2 ^ 31)).mp q; omega
  refine ⟨M14, l14, (F0.mo (by decide) (by decide)).tr (c4.mo (by decide) (by decide)), fun hx => ?_, fun hx hf => ?_, fun hx hn hf hw => ?_, fun hx hn hf hw N M23 ps' k1 k2 k3 k4 => ?_⟩
  · rcases c2 with ⟨rfl, c2⟩ | ⟨rfl, c2⟩
    · exact absurd c2 hx
    · unfold mX8_part_J45
      (repeat (first | rw [ck_t (by first | with_reducible assumption | ((with_reducible apply ixA_of); (with_reducible assumption); omega; omega) | ((with_reducible apply isAr_of); (with_reducible assumption); decide) | ((with_reducible apply nI_ne0); omega; omega) | with_reducible exact isB_0 | with_reducible exact isB_1 | with_reducible exact isB_bI _)] | rw [bd_r (by with_reducible assumption)] | rw [bd_s] | rw [bd2_s] | rw [bd3_s] | rw [nm_s] | rw [nI_clamp (by omega)] | rw [nI_1] | rw [bd_e (r1)] | rw [bd_e (r2)] | rw [hX] | rw [bd2_e (c1)] | rw [if_pos (by first | with_reducible assumption | ((with_reducible refine nI_lt ?_ ?_); omega; omega) | ((with_reducible refine nI_nlt ?_ ?_); omega; omega) | with_reducible exact ne10 | with_reducible rfl)] | rw [if_neg (by first | with_reducible assumption | ((with_reducible refine nI_lt ?_ ?_); omega; omega) | ((with_reducible refine nI_nlt ?_ ?_); omega; omega) | with_reducible exact ne10 | with_reducible rfl)]))
  · rcases c2 with ⟨rfl, c2⟩ | ⟨rfl, c2⟩
    · by_cases h4 : ps.length = 40
      · unfold mX8_part_J45
        (repeat (first | rw [ck_t (by first | with_reducible assumption | ((with_reducible apply ixA_of); (with_reducible assumption); omega; omega) | ((with_reducible apply isAr_of); (with_reducible assumption); decide) | ((with_reducible apply nI_ne0); omega; omega) | with_reducible exact isB_0 | with_reducible exact isB_1 | with_reducible exact isB_bI _)] | rw [bd_r (by with_reducible assumption)] | rw [bd_s] | rw [bd2_s] | rw [bd3_s] | rw [nm_s] | rw [nI_clamp (by omega)] | rw [nI_1] | rw [bd_e (r1)] | rw [bd_e (r2)] | rw [hX] | rw [bd2_e (c1)] | rw [bd_e (piecesM_ok hm ps14)] | rw [if_pos (show nI ps.length = 40 by rw [h4]; rfl)] | rw [if_pos (by first | with_reducible assumption | ((with_reducible refine nI_lt ?_ ?_); omega; omega) | ((with_reducible refine nI_nlt ?_ ?_); omega; omega) | with_reducible exact ne10 | with_reducible rfl)] | rw [if_neg (by first | with_reducible assumption | ((with_reducible refine nI_lt ?_ ?_); omega; omega) | ((with_reducible refine nI_nlt ?_ ?_); omega; omega) | with_reducible exact ne10 | with_reducible rfl)]))
      · rcases w2 with ⟨rfl, w2⟩ | ⟨rfl, w2⟩
        · unfold mX8_part_J45
          (repeat (first | rw [ck_t (by first | with_reducible assumption | ((with_reducible apply ixA_of); (with_reducible assumption); omega; omega) | ((with_reducible apply isAr_of); (with_reducible assumption); decide) | ((with_reducible apply nI_ne0); omega; omega) | with_reducible exact isB_0 | with_reducible exact isB_1 | with_reducible exact isB_bI _)] | rw [bd_r (by with_reducible assumption)] | rw [bd_s] | rw [bd2_s] | rw [bd3_s] | rw [nm_s] | rw [nI_clamp (by omega)] | rw [nI_1] | rw [bd_e (r1)] | rw [bd_e (r2)] | rw [hX] | rw [bd2_e (c1)] | rw [bd_e (piecesM_ok hm ps14)] | rw [if_neg (n40 (by omega))] | rw [bd_e (w1)] | rw [if_pos (by first | with_reducible assumption | ((with_reducible refine nI_lt ?_ ?_); omega; omega) | ((with_reducible refine nI_nlt ?_ ?_); omega; omega) | with_reducible exact ne10 | with_reducible rfl)] | rw [if_neg (by first | with_reducible assumption | ((with_reducible refine nI_lt ?_ ?_); omega; omega) | ((with_reducible refine nI_nlt ?_ ?_); omega; omega) | with_reducible exact ne10 | with_reducible rfl)]))
        · rcases hf with hf | hf
          · omega
          · exact absurd hf w2
    · exact absurd hx c2
  · rcases c2 with ⟨rfl, c2⟩ | ⟨rfl, c2⟩
    · rcases w2 with ⟨rfl, w2⟩ | ⟨rfl, w2⟩
      · exact absurd w2 hf
      · rcases x2 with ⟨rfl, x2⟩ | ⟨rfl, x2⟩
        · exact absurd x2 hw
        · unfold mX8_part_J45
          (repeat (first | rw [ck_t (by first | with_reducible assumption | ((with_reducible apply ixA_of); (with_reducible assumption); omega; omega) | ((with_reducible apply isAr_of); (with_reducible assumption); decide) | ((with_reducible apply nI_ne0); omega; omega) | with_reducible exact isB_0 | with_reducible exact isB_1 | with_reducible exact isB_bI _)] | rw [bd_r (by with_reducible assumption)] | rw [bd_s] | rw [bd2_s] | rw [bd3_s] | rw [nm_s] | rw [nI_clamp (by omega)] | rw [nI_1] | rw [bd_e (r1)] | rw [bd_e (r2)] | rw [hX] | rw [bd2_e (c1)] | rw [bd_e (piecesM_ok hm ps14)] | rw [if_neg (n40 hn)] | rw [bd_e (w1)] | rw [bd_e (x1)] | rw [if_pos (by first | with_reducible assumption | ((with_reducible refine nI_lt ?_ ?_); omega; omega) | ((with_reducible refine nI_nlt ?_ ?_); omega; omega) | with_reducible exact ne10 | with_reducible rfl)] | rw [if_neg (by first | with_reducible assumption | ((with_reducible refine nI_lt ?_ ?_); omega; omega) | ((with_reducible refine nI_nlt ?_ ?_); omega; omega) | with_reducible exact ne10 | with_reducible rfl)]))
    · exact absurd hx c2
  · rcases c2 with ⟨rfl, c2⟩ | ⟨rfl, c2⟩
    · rcases w2 with ⟨rfl, w2⟩ | ⟨rfl, w2⟩
      · exact absurd w2 hf
      · rcases x2 with ⟨rfl, x2⟩ | ⟨rfl, x2⟩
        · have e := piecesM_ok hm k3
          rw [k4] at e
          have es : nI (ps.length + 1) - 1 = nI ps.length := pk_sub (a := ps.length + 1) (b := 1) (by omega)
          unfold mX8_part_J45
          (repeat (first | rw [ck_t (by first | with_reducible assumption | ((with_reducible apply ixA_of); (with_reducible assumption); omega; omega) | ((with_reducible apply isAr_of); (with_reducible assumption); decide) | ((with_reducible apply nI_ne0); omega; omega) | with_reducible exact isB_0 | with_reducible exact isB_1 | with_reducible exact isB_bI _)] | rw [bd_r (by with_reducible assumption)] | rw [bd_s] | rw [bd2_s] | rw [bd3_s] | rw [nm_s] | rw [nI_clamp (by omega)] | rw [nI_1] | rw [bd_e (r1)] | rw [bd_e (r2)] | rw [hX] | rw [bd2_e (c1)] | rw [bd_e (piecesM_ok hm ps14)] | rw [if_neg (n40 hn)] | rw [bd_e (w1)] | rw [bd_e (x1)] | rw [bd_e (k1)] | rw [bd_e (k2)] | rw [bd_e (e)] | rw [es] | rw [if_pos (by first | with_reducible assumption | ((with_reducible refine nI_lt ?_ ?_); omega; omega) | ((with_reducible refine nI_nlt ?_ ?_); omega; omega) | with_reducible exact ne10 | with_reducible rfl)] | rw [if_neg (by first | with_reducible assumption | ((with_reducible refine nI_lt ?_ ?_); omega; omega) | ((with_reducible refine nI_nlt ?_ ?_); omega; omega) | with_reducible exact ne10 | with_reducible rfl)]))
        · exact absurd hw x2
    · exact absurd hx c2
end PA
theorem inv_part (o : Nat) (K : Kk) (R : Rr) (M : Mm) (a0 a1 a2 a3 a4 : Int32) (hI : Inv o K R M) : ∃ (v : Int64) (R1 : Rr) (M1 : Mm) (M2 : Mm), mX7_part K R M o a0 a1 a2 a3 a4 = some (v, R1, M1) ∧ mX8_part K R1 M1 (o + 2118) a0 a1 a2 a3 a4 = some (v, M2) ∧ Inv o K R1 M2 := by
  have hI0 := hI
  obtain ⟨hs, hm, S, hw, hc, ho⟩ := hI
  have hs0 := hs
  have m0 := hm.1
  obtain ⟨ps, hps, hpp⟩ := now_ps hw
  obtain ⟨c, hc1, hc2, hcA, hcC, hnow⟩ := now_at hs0 hw hc hps
  obtain ⟨f, d, hx⟩ := hi_of hc
  have hq6 : psM (M.2 (o + 2118 + 1)) 0 ps := ho.2.2.2.2.2.1 ps hps
  have h40 := hpp.1
  have hn := hcC.1
  obtain ⟨s0, -, -, s2, -, -, -, s6, -, -, s9, -, -, -, -, -, -, -, ⟨i0, -⟩, -, -, -, -, s22, -, -, r1, -⟩ := hs
  obtain ⟨sw, sw1, sw2⟩ := partM_J (K := K) (R := R) (M := M) (a0 := a0) (a1 := a1) (a2 := a2) (a3 := a3) (a4 := a4) hm
  rcases cases_n a0 ps.length (by omega) with h | ⟨p, hp, rfl⟩
  · refine ⟨-9000000000000000001, R, M, M, ?_, ?_, hI0⟩
    · unfold mX7_part
      (repeat (first | rw [ck_t (by first | with_reducible assumption | ((with_reducible apply ixA_of); (with_reducible assumption); omega; omega) | ((with_reducible apply isAr_of); (with_reducible assumption); decide) | ((with_reducible apply nI_ne0); omega; omega) | with_reducible exact isB_0 | with_reducible exact isB_1 | with_reducible exact isB_bI _)] | rw [bd_r (by with_reducible assumption)] | rw [bd_s] | rw [bd2_s] | rw [bd3_s] | rw [nm_s] | rw [nI_clamp (by omega)] | rw [nI_1] | rw [bd_e (isPiece_f hs0 hcA hn (hnow M rfl) h)] | rw [if_pos (by first | with_reducible assumption | ((with_reducible refine nI_lt ?_ ?_); omega; omega) | ((with_reducible refine nI_nlt ?_ ?_); omega; omega) | with_reducible exact ne10 | with_reducible rfl)] | rw [if_neg (by first | with_reducible assumption | ((with_reducible refine nI_lt ?_ ?_); omega; omega) | ((with_reducible refine nI_nlt ?_ ?_); omega; omega) | with_reducible exact ne10 | with_reducible rfl)]))
    · rw [sw1]
      unfold mX8_part_J45
      (repeat (first | rw [ck_t (by first | with_reducible assumption | ((with_reducible apply ixA_of); (with_reducible assumption); omega; omega) | ((with_reducible apply isAr_of); (with_reducible assumption); decide) | ((with_reducible apply nI_ne0); omega; omega) | with_reducible exact isB_0 | with_reducible exact isB_1 | with_reducible exact isB_bI _)] | rw [bd_r (by with_reducible assumption)] | rw [bd_s] | rw [bd2_s] | rw [bd3_s] | rw [nm_s] | rw [nI_clamp (by omega)] | rw [nI_1] | rw [bd_e (isPieceM_f hm hq6 h h40)] | rw [if_pos (by first | with_reducible assumption | ((with_reducible refine nI_lt ?_ ?_); omega; omega) | ((with_reducible refine nI_nlt ?_ ?_); omega; omega) | with_reducible exact ne10 | with_reducible rfl)] | rw [if_neg (by first | with_reducible assumption | ((with_reducible refine nI_lt ?_ ?_); omega; omega) | ((with_reducible refine nI_nlt ?_ ?_); omega; omega) | with_reducible exact ne10 | with_reducible rfl)]))
  · have q1 := isPiece_t hs0 hcA hn (hnow M rfl) hp h40
    have q2 := isPieceM_t hm hq6 hp h40
    by_cases hin : inB (a1.toInt, a2.toInt)
    · have y1 := isPlace_t (K := K) (R := R) (M := M) hin
      have y2 : mX8_isPlace K R M a1.toInt64 a2.toInt64 = some 1 := isPlaceM_t (by rw [i64_int, i64_int]; exact hin)
      by_cases hst : stp a3 a4
      · -- a line
        obtain ⟨P, hP⟩ := get_ex hp
        have iP := hpp.2 p P hP
        have s16 := iP.1.2.1
        obtain ⟨q1', q2', q3', q4', q5'⟩ := plc_ok iP
        obtain ⟨j1, j2, j3, j4⟩ := id hin
        simp only at j1 j2 j3 j4
        obtain ⟨⟨t1, t2⟩, ⟨t3, t4⟩, t5⟩ := id hst
        have z0 : (0 : Int32).toInt = 0 := rfl
        obtain ⟨A, hA⟩ : ∃ A : Pt, A = (a1.toInt, a2.toInt) := ⟨_, rfl⟩
        obtain ⟨B, hBe⟩ : ∃ B : Pt, B = (a1.toInt + a3.toInt, a2.toInt + a4.toInt) := ⟨_, rfl⟩
        have hB : lnB A B := by subst hA hBe; unfold lnB inB; simp only; omega
        have hAB : A ≠ B := fun q => t5 (by
          rw [hA, hBe] at q
          have u1 := congrArg Prod.fst q
          have u2 := congrArg Prod.snd q
          simp only at u1 u2
          exact ⟨eq32.mpr (by omega), eq32.mpr (by omega)⟩)
        have ref := fun (R1 : Rr) (M1 : Mm) (h1 : moA K R1 (o + 2118)) (h2 : psM (M1.2 (o + 2118 + 1)) 0 ps) => partM_ok (K := K) (R := R1) (M := M1) h1 h2 hP hpp hin hst hA hBe
        have refJ := fun (R1 : Rr) (M1 : Mm) (h1 : moA K R1 (o + 2118)) => partM_J (K := K) (R := R1) (M := M1) (a0 := nI p) (a1 := a1) (a2 := a2) (a3 := a3) (a4 := a4) h1
        have ref1 : ∀ (R1 : Rr) (M1 : Mm), moA K R1 (o + 2118) → mX8_part K R1 M1 (o + 2118) (nI p) a1 a2 a3 a4 = mX8_part_J45 K R1 M1 (o + 2118) (nI p) a1 a2 a3 a4 1 := fun R1 M1 h1 => by
          obtain ⟨s, u1, u2⟩ := refJ R1 M1 h1
          rcases u2 with ⟨rfl, -⟩ | ⟨-, u2⟩
          · exact u1
          · exact absurd hst u2
        obtain ⟨M9, b1, b2, b3, b4⟩ := lset_ok (R := R) (M := M) (A := A) (B := B) (x := a1) (y := a2) (z := a3) (w := a4) s22 (by rw [hA]) (by rw [hA]) (by rw [hA, hBe]; simp only; omega) (by rw [hA, hBe]; simp only; omega)
        have hcA0 := hcA
        obtain ⟨g0, g1, g2, g3⟩ := hcA
        obtain ⟨k1, k2⟩ := g3 p (by omega)
        have k20 := k2.1
        have n9 : mX1_now K R M9 (o + 20) = some c := hnow M9 (b3 _ (by omega)).1
        have pC9 := (hcC.fr b3 (by omega) (by omega)).2 p P hP
        obtain ⟨M19, c1, c2, c3, c4⟩ := placeInto_ok (M := M9) r1 k2 (by omega) iP (by decide) (by decide) pC9
        have l19 : lnC M19 (o + 1972) A B := b2.eq (fun k _ _ => congrFun (c3 (o + 1972) (by omega)).1 k)
        obtain ⟨M21, d1, d2, d3, d4, d5, d6⟩ := weigh_ok (R := R) s22 l19 hB r1 (by omega) c2 (by omega) (by decide) (inBs_of q5')
        have bc1 := cntS_le A B 1 (plc P) (plc P).length
        have bc2 := cntS_le A B (-1) (plc P) (plc P).length
        obtain ⟨x, x1, x2⟩ := crossesC_ok (R := R) s22 d2 d3 (by omega) (by omega)
        obtain ⟨w, w1, w2⟩ := overfillsC_ok (R := R) s22 d2 d3 (by omega) (by omega)
        have F21 : Fr (o + 1972) (o + 1988) M M21 := ((b3.mono (by omega) (by omega)).tr (c3.mono (by omega) (by omega))).tr (d5.mono (by omega) (by omega))
        have e21 : M21.2 = M.2 := (d6.trans c4).trans b4
        have n21 : M21.1 c 1 = nI ps.length := by rw [(F21 c (by omega)).1]; exact hn
        have z5 : (a3 = 0 → ¬ a4 = 0) := fun q1 q2 => t5 ⟨q1, q2⟩
        have cls : mX7_part K R M o (nI p) a1 a2 a3 a4 = mX7_part_J26 K R M o (nI p) a1 a2 a3 a4 := by
          unfold mX7_part
          (repeat (first | rw [ck_t (by first | with_reducible assumption | ((with_reducible apply ixA_of); (with_reducible assumption); omega; omega) | ((with_reducible apply isAr_of); (with_reducible assumption); decide) | ((with_reducible apply nI_ne0); omega; omega) | with_reducible exact isB_0 | with_reducible exact isB_1 | with_reducible exact isB_bI _)] | rw [bd_r (by with_reducible assumption)] | rw [bd_s] | rw [bd2_s] | rw [bd3_s] | rw [nm_s] | rw [nI_clamp (by omega)] | rw [nI_1] | rw [bd_e (q1)] | rw [bd_e (y1)] | rw [if_pos (by first | with_reducible assumption | ((with_reducible refine nI_lt ?_ ?_); omega; omega) | ((with_reducible refine nI_nlt ?_ ?_); omega; omega) | with_reducible exact ne10 | with_reducible rfl)] | rw [if_neg (by first | with_reducible assumption | ((with_reducible refine nI_lt ?_ ?_); omega; omega) | ((with_reducible refine nI_nlt ?_ ?_); omega; omega) | with_reducible exact ne10 | with_reducible rfl)]))
          by_cases q3 : a3 = 0
          · rw [if_pos q3, if_neg (z5 q3)]
          · rw [if_neg q3]
        have wi3 : mX7_isWithin K R M a3 1000 = some 1 := isWithin_t (n := 1000) (by decide) (by decide) t1 t2
        have wi4 : mX7_isWithin K R M a4 1000 = some 1 := isWithin_t (n := 1000) (by decide) (by decide) t3 t4
        have hq21 : psM (M21.2 (o + 2118 + 1)) 0 ps := by rw [e21]; exact hq6
        rw [cls]
        by_cases hxs : xsd A B P
        · rcases x2 with ⟨rfl, -⟩ | ⟨-, x2⟩
          · by_cases hfull : 40 ≤ ps.length ∨ ofl A B P
            · obtain ⟨M14, u1, u2, u3, u4, u5, u6⟩ := ref R M21 hm hq21
              refine ⟨-9000000000000000003, R, M21, M14, ?_, by rw [ref1 R M21 hm]; exact u4 hxs hfull, hI0.kp ((Kp.fr F21 (by omega)).tr (u2.kp0 (by decide) (by decide) (by decide) (by decide)))⟩
              unfold mX7_part_J26
              by_cases h4 : ps.length < 40
              · rcases w2 with ⟨rfl, w2⟩ | ⟨rfl, w2⟩
                · (repeat (first | rw [ck_t (by first | with_reducible assumption | ((with_reducible apply ixA_of); (with_reducible assumption); omega; omega) | ((with_reducible apply isAr_of); (with_reducible assumption); decide) | ((with_reducible apply nI_ne0); omega; omega) | with_reducible exact isB_0 | with_reducible exact isB_1 | with_reducible exact isB_bI _)] | rw [bd_r (by with_reducible assumption)] | rw [bd_s] | rw [bd2_s] | rw [bd3_s] | rw [nm_s] | rw [nI_clamp (by omega)] | rw [nI_1] | rw [bd_e (wi3)] | rw [bd_e (wi4)] | rw [bd_e (b1)] | rw [bd_e (n9)] | rw [bd_e (c1)] | rw [bd_e (d1)] | rw [bd_e (x1)] | rw [n21] | rw [if_pos (show nI ps.length < 40 from nI_lt (b := 40) h4 (by decide))] | rw [bd_e (w1)] | rw [if_pos (by first | with_reducible assumption | ((with_reducible refine nI_lt ?_ ?_); omega; omega) | ((with_reducible refine nI_nlt ?_ ?_); omega; omega) | with_reducible exact ne10 | with_reducible rfl)] | rw [if_neg (by first | with_reducible assumption | ((with_reducible refine nI_lt ?_ ?_); omega; omega) | ((with_reducible refine nI_nlt ?_ ?_); omega; omega) | with_reducible exact ne10 | with_reducible rfl)]))
                · rcases hfull with z | z
                  · omega
                  · exact absurd z w2
              · (repeat (first | rw [ck_t (by first | with_reducible assumption | ((with_reducible apply ixA_of); (with_reducible assumption); omega; omega) | ((with_reducible apply isAr_of); (with_reducible assumption); decide) | ((with_reducible apply nI_ne0); omega; omega) | with_reducible exact isB_0 | with_reducible exact isB_1 | with_reducible exact isB_bI _)] | rw [bd_r (by with_reducible assumption)] | rw [bd_s] | rw [bd2_s] | rw [bd3_s] | rw [nm_s] | rw [nI_clamp (by omega)] | rw [nI_1] | rw [bd_e (wi3)] | rw [bd_e (wi4)] | rw [bd_e (b1)] | rw [bd_e (n9)] | rw [bd_e (c1)] | rw [bd_e (d1)] | rw [bd_e (x1)] | rw [n21] | rw [if_neg (show ¬ nI ps.length < 40 from nI_nlt (b := 40) (by omega) (by omega))] | rw [if_pos (by first | with_reducible assumption | ((with_reducible refine nI_lt ?_ ?_); omega; omega) | ((with_reducible refine nI_nlt ?_ ?_); omega; omega) | with_reducible exact ne10 | with_reducible rfl)] | rw [if_neg (by first | with_reducible assumption | ((with_reducible refine nI_lt ?_ ?_); omega; omega) | ((with_reducible refine nI_nlt ?_ ?_); omega; omega) | with_reducible exact ne10 | with_reducible rfl)]))
            · have h4 : ps.length < 40 := by omega
              have hof : ¬ ofl A B P := fun q => hfull (Or.inr q)
              have w0 : w = 0 := by
                rcases w2 with ⟨-, w2⟩ | ⟨w2, -⟩
                · exact absurd w2 hof
                · exact w2
              subst w0
              have hd8 := hx.1.1
              have hcd : cont o d = o + 22 + 162 * d := rfl
              have hx21 := hx.fr (M' := M21) hw.2.2.2.2.1 (fun i q hq => (hw.2.2.2.2.2.1 i q hq).fit) (fun b hb _ => (F21 b (by omega)).1)
              obtain ⟨M29, v1, v2, v3, v4⟩ := draft_ok hs0 hx21 hw.2.2.2.1 hw.2.2.2.2.1 hps hpp.fit
              have l29 : lnC M29 (o + 1972) A B := d4.eq (fun k _ _ => congrFun (v3 (o + 1972) (by omega)).1 k)
              obtain ⟨y, M31, f1, f2, f3⟩ := cutOneC_ok (M := M29) hs0 (cont_psA hs0 hd8) (by omega) (by omega) v2 hP iP h4 l29 hB hAB hxs hof
              have e31 : M31.2 = M.2 := (f2.2.1.trans v4).trans e21
              have o31 : ∀ b, b < o + 1968 → (b < cont o d ∨ cont o d + 162 ≤ b) → M31.1 b = M.1 b := fun b hb h => by rw [f2.1 b (by omega) h (by omega), (v3 b h).1, (F21 b (by omega)).1]
              have h31 : ∀ b, o + 2118 ≤ b → M31.1 b = M.1 b := fun b hb => by rw [f2.1 b (by omega) (by omega) (by omega), (v3 b (by omega)).1, (F21 b (by omega)).1]
              have hq31 : psM (M31.2 (o + 2118 + 1)) 0 ps := by rw [e31]; exact hq6
              rcases f3 with ⟨rfl, hW, f4⟩ | ⟨rfl, hW⟩
              · -- cut
                obtain ⟨-, -, -, -, pcL⟩ := prP_ok (s := 1) iP hAB (Or.inl rfl) hxs hof hW
                obtain ⟨-, -, -, -, pcR⟩ := prP_ok (s := -1) iP hAB (Or.inr rfl) hxs hof hW
                have hpp' : isPs (ps.set p (prP A B 1 P) ++ [prP A B (-1) P]) := by
                  have h1 := isPs_set (p := p) hpp pcL
                  refine ⟨by rw [List.length_append, List.length_set]; simp only [List.length_singleton]; omega, fun i q hq => ?_⟩
                  rcases get_app hq with ⟨-, hq⟩ | ⟨-, rfl⟩
                  · exact h1.2 i q hq
                  · exact pcR
                obtain ⟨R1, M34, a1', a2', a3', a4', a5', a6', a7'⟩ := chg0 hs0 hm hw hc ho hx hpp' f4 o31 e31 h31
                have hq34 : psM (M34.2 (o + 2118 + 1)) 0 ps := by rw [a5']; exact hq6
                obtain ⟨M14, u1, u2, u3, u4, u5, u6⟩ := ref R1 M34 a4' hq34
                obtain ⟨N, n1, n2, n3⟩ := a7' M14 _ _ u2 (by decide) (by decide) (by decide) (by decide)
                have psN : psM (N.2 (o + 2118 + 1)) 0 ps := (hq34.fr u2 (by decide)).fr n2 (by decide)
                obtain ⟨M23, g1', g2', g3'⟩ := cutOneM_ok a4' psN hP hpp h4 (u1.fr n2 (by decide)) hB hAB hxs hof hW
                refine ⟨(nI ps.length).toInt64, R1, M34, M23, ?_, ?_, n3 M23 _ _ g3' (by decide) (by decide) (by decide) (by decide) g2'⟩
                · unfold mX7_part_J26
                  (repeat (first | rw [ck_t (by first | with_reducible assumption | ((with_reducible apply ixA_of); (with_reducible assumption); omega; omega) | ((with_reducible apply isAr_of); (with_reducible assumption); decide) | ((with_reducible apply nI_ne0); omega; omega) | with_reducible exact isB_0 | with_reducible exact isB_1 | with_reducible exact isB_bI _)] | rw [bd_r (by with_reducible assumption)] | rw [bd_s] | rw [bd2_s] | rw [bd3_s] | rw [nm_s] | rw [nI_clamp (by omega)] | rw [nI_1] | rw [bd_e (wi3)] | rw [bd_e (wi4)] | rw [bd_e (b1)] | rw [bd_e (n9)] | rw [bd_e (c1)] | rw [bd_e (d1)] | rw [bd_e (x1)] | rw [n21] | rw [if_pos (show nI ps.length < 40 from nI_lt (b := 40) h4 (by decide))] | rw [bd_e (w1)] | rw [bd2_e (v1)] | rw [bd2_e (f1)] | rw [if_neg (ne10)] | rw [bd2_e (a1')] | rw [if_pos (by first | with_reducible assumption | ((with_reducible refine nI_lt ?_ ?_); omega; omega) | ((with_reducible refine nI_nlt ?_ ?_); omega; omega) | with_reducible exact ne10 | with_reducible rfl)] | rw [if_neg (by first | with_reducible assumption | ((with_reducible refine nI_lt ?_ ?_); omega; omega) | ((with_reducible refine nI_nlt ?_ ?_); omega; omega) | with_reducible exact ne10 | with_reducible rfl)]))
                · rw [ref1 R1 M34 a4']
                  exact u6 hxs h4 hof hW N M23 _ n1 g1' g2' (by rw [List.length_append, List.length_set]; rfl)
              · obtain ⟨M14, u1, u2, u3, u4, u5, u6⟩ := ref R M31 hm hq31
                refine ⟨-9000000000000000004, R, M31, M14, ?_, by rw [ref1 R M31 hm]; exact u5 hxs h4 hof hW, ?_⟩
                · unfold mX7_part_J26
                  (repeat (first | rw [ck_t (by first | with_reducible assumption | ((with_reducible apply ixA_of); (with_reducible assumption); omega; omega) | ((with_reducible apply isAr_of); (with_reducible assumption); decide) | ((with_reducible apply nI_ne0); omega; omega) | with_reducible exact isB_0 | with_reducible exact isB_1 | with_reducible exact isB_bI _)] | rw [bd_r (by with_reducible assumption)] | rw [bd_s] | rw [bd2_s] | rw [bd3_s] | rw [nm_s] | rw [nI_clamp (by omega)] | rw [nI_1] | rw [bd_e (wi3)] | rw [bd_e (wi4)] | rw [bd_e (b1)] | rw [bd_e (n9)] | rw [bd_e (c1)] | rw [bd_e (d1)] | rw [bd_e (x1)] | rw [n21] | rw [if_pos (show nI ps.length < 40 from nI_lt (b := 40) h4 (by decide))] | rw [bd_e (w1)] | rw [bd2_e (v1)] | rw [bd2_e (f1)] | rw [if_pos (by first | with_reducible assumption | ((with_reducible refine nI_lt ?_ ?_); omega; omega) | ((with_reducible refine nI_nlt ?_ ?_); omega; omega) | with_reducible exact ne10 | with_reducible rfl)] | rw [if_neg (by first | with_reducible assumption | ((with_reducible refine nI_lt ?_ ?_); omega; omega) | ((with_reducible refine nI_nlt ?_ ?_); omega; omega) | with_reducible exact ne10 | with_reducible rfl)]))
                · have kk := u2.kp0 (by decide) (by decide) (by decide) (by decide)
                  refine Inv_dr hs0 hm hw hc ho hx (fun b hb h => ?_) (fun b h1 h2 => ?_) ?_ ?_ ?_
                  · rw [(kk.1 b hb).1, (kk.1 b hb).2, o31 b hb h, e31]; exact ⟨rfl, rfl⟩
                  · rw [(kk.2.1 b h1 h2).1, (kk.2.1 b h1 h2).2, h31 b (by omega), e31]; exact ⟨rfl, rfl⟩
                  · rw [kk.2.2.1, h31 _ (by omega)]
                  · rw [kk.2.2.2.1, h31 _ (by omega)]
                  · rw [kk.2.2.2.2, h31 _ (by omega)]
          · exact absurd hxs x2
        · rcases x2 with ⟨-, x2⟩ | ⟨rfl, -⟩
          · exact absurd x2 hxs
          · obtain ⟨M14, u1, u2, u3, u4, u5, u6⟩ := ref R M21 hm hq21
            refine ⟨-9000000000000000002, R, M21, M14, ?_, by rw [ref1 R M21 hm]; exact u3 hxs, hI0.kp ((Kp.fr F21 (by omega)).tr (u2.kp0 (by decide) (by decide) (by decide) (by decide)))⟩
            unfold mX7_part_J26
            (repeat (first | rw [ck_t (by first | with_reducible assumption | ((with_reducible apply ixA_of); (with_reducible assumption); omega; omega) | ((with_reducible apply isAr_of); (with_reducible assumption); decide) | ((with_reducible apply nI_ne0); omega; omega) | with_reducible exact isB_0 | with_reducible exact isB_1 | with_reducible exact isB_bI _)] | rw [bd_r (by with_reducible assumption)] | rw [bd_s] | rw [bd2_s] | rw [bd3_s] | rw [nm_s] | rw [nI_clamp (by omega)] | rw [nI_1] | rw [bd_e (wi3)] | rw [bd_e (wi4)] | rw [bd_e (b1)] | rw [bd_e (n9)] | rw [bd_e (c1)] | rw [bd_e (d1)] | rw [bd_e (x1)] | rw [if_pos (by first | with_reducible assumption | ((with_reducible refine nI_lt ?_ ?_); omega; omega) | ((with_reducible refine nI_nlt ?_ ?_); omega; omega) | with_reducible exact ne10 | with_reducible rfl)] | rw [if_neg (by first | with_reducible assumption | ((with_reducible refine nI_lt ?_ ?_); omega; omega) | ((with_reducible refine nI_nlt ?_ ?_); omega; omega) | with_reducible exact ne10 | with_reducible rfl)]))
      · refine ⟨-9000000000000000001, R, M, M, partC_bad s0 q1 y1 hst, ?_, hI0⟩
        rw [sw1]
        rcases sw2 with ⟨-, z⟩ | ⟨rfl, -⟩
        · exact absurd z hst
        · unfold mX8_part_J45
          (repeat (first | rw [ck_t (by first | with_reducible assumption | ((with_reducible apply ixA_of); (with_reducible assumption); omega; omega) | ((with_reducible apply isAr_of); (with_reducible assumption); decide) | ((with_reducible apply nI_ne0); omega; omega) | with_reducible exact isB_0 | with_reducible exact isB_1 | with_reducible exact isB_bI _)] | rw [bd_r (by with_reducible assumption)] | rw [bd_s] | rw [bd2_s] | rw [bd3_s] | rw [nm_s] | rw [nI_clamp (by omega)] | rw [nI_1] | rw [bd_e (q2)] | rw [bd_e (y2)] | rw [if_pos (by first | with_reducible assumption | ((with_reducible refine nI_lt ?_ ?_); omega; omega) | ((with_reducible refine nI_nlt ?_ ?_); omega; omega) | with_reducible exact ne10 | with_reducible rfl)] | rw [if_neg (by first | with_reducible assumption | ((with_reducible refine nI_lt ?_ ?_); omega; omega) | ((with_reducible refine nI_nlt ?_ ?_); omega; omega) | with_reducible exact ne10 | with_reducible rfl)]))
    · refine ⟨-9000000000000000001, R, M, M, ?_, ?_, hI0⟩
      · unfold mX7_part
        (repeat (first | rw [ck_t (by first | with_reducible assumption | ((with_reducible apply ixA_of); (with_reducible assumption); omega; omega) | ((with_reducible apply isAr_of); (with_reducible assumption); decide) | ((with_reducible apply nI_ne0); omega; omega) | with_reducible exact isB_0 | with_reducible exact isB_1 | with_reducible exact isB_bI _)] | rw [bd_r (by with_reducible assumption)] | rw [bd_s] | rw [bd2_s] | rw [bd3_s] | rw [nm_s] | rw [nI_clamp (by omega)] | rw [nI_1] | rw [bd_e (q1)] | rw [bd_e (isPlace_f hin)] | rw [if_pos (by first | with_reducible assumption | ((with_reducible refine nI_lt ?_ ?_); omega; omega) | ((with_reducible refine nI_nlt ?_ ?_); omega; omega) | with_reducible exact ne10 | with_reducible rfl)] | rw [if_neg (by first | with_reducible assumption | ((with_reducible refine nI_lt ?_ ?_); omega; omega) | ((with_reducible refine nI_nlt ?_ ?_); omega; omega) | with_reducible exact ne10 | with_reducible rfl)]))
      · rw [sw1]
        unfold mX8_part_J45
        (repeat (first | rw [ck_t (by first | with_reducible assumption | ((with_reducible apply ixA_of); (with_reducible assumption); omega; omega) | ((with_reducible apply isAr_of); (with_reducible assumption); decide) | ((with_reducible apply nI_ne0); omega; omega) | with_reducible exact isB_0 | with_reducible exact isB_1 | with_reducible exact isB_bI _)] | rw [bd_r (by with_reducible assumption)] | rw [bd_s] | rw [bd2_s] | rw [bd3_s] | rw [nm_s] | rw [nI_clamp (by omega)] | rw [nI_1] | rw [bd_e (q2)] | rw [bd_e (isPlaceM_f (K := K) (R := R) (M := M) (x := a1.toInt64) (y := a2.toInt64) (by rw [i64_int, i64_int]; exact hin))] | rw [if_pos (by first | with_reducible assumption | ((with_reducible refine nI_lt ?_ ?_); omega; omega) | ((with_reducible refine nI_nlt ?_ ?_); omega; omega) | with_reducible exact ne10 | with_reducible rfl)] | rw [if_neg (by first | with_reducible assumption | ((with_reducible refine nI_lt ?_ ?_); omega; omega) | ((with_reducible refine nI_nlt ?_ ?_); omega; omega) | with_reducible exact ne10 | with_reducible rfl)]))
