/-! WHAT CALLS ASK FIRST, over, find -/
section AK
variable {K : Kk} {R : Rr} {M : Mm} {o c p : Nat} {ps : List Pc}
theorem now_at {S : Sx} (hs : skC K R o) (hw : WF S) (hc : clC R M o S) (hps : S.2.2.1[S.2.2.2.1]? = some ps) : ∃ c, o + 22 ≤ c ∧ c + 162 ≤ o + 1318 ∧ psA K R c ∧ psC M c ps ∧ ∀ M', M'.1 (o + 20) = M.1 (o + 20) → mX1_now K R M' (o + 20) = some c := by
  obtain ⟨w1, w2, w3, w4, w5, w6, w7⟩ := hw
  obtain ⟨c1, c2, ⟨f, d, hf, c4, c5, c6⟩, c7⟩ := hc
  have h8 := (hf.2.1 S.2.2.2.1 (by omega)).1
  refine ⟨cont o (f S.2.2.2.1), by show o + 22 ≤ o + 22 + 162 * f S.2.2.2.1; omega, by show o + 22 + 162 * f S.2.2.2.1 + 162 ≤ _; omega, cont_psA hs h8, c6 _ ps hps, fun M' e => now_ok hs hf (by rw [e]; exact c4) (by omega)⟩
theorem isPiece_t (hs : skC K R o) (hA : psA K R c) (hC : M.1 c 1 = nI ps.length) (hnow : mX1_now K R M (o + 20) = some c) (hp : p < ps.length) (h40 : ps.length ≤ 40) : mX7_isPiece K R M o (nI p) = some 1 := by
  obtain ⟨s0, -, -, s2, -, -, -, -, -, -, -, -, -, -, -, -, -, -, ⟨i0, -⟩, -⟩ := hs
  have a0 := hA.1
  unfold mX7_isPiece
  repeat (first | rw [ck_t (by first | with_reducible assumption | ((with_reducible apply ixA_of); (with_reducible assumption); omega; omega) | ((with_reducible apply isAr_of); (with_reducible assumption); decide) | ((with_reducible apply nI_ne0); omega; omega) | with_reducible exact isB_0 | with_reducible exact isB_1 | with_reducible exact isB_bI _)] | rw [bd_r (by with_reducible assumption)] | rw [bd_s] | rw [bd2_s] | rw [bd3_s] | rw [nm_s] | rw [nI_clamp (by omega)] | rw [nI_1] | rw [if_neg (nI_pos (show p < 2 ^ 31 by omega))] | rw [bd_e (hnow)] | rw [hC] | rw [if_pos (by first | with_reducible assumption | ((with_reducible refine nI_lt ?_ ?_); omega; omega) | ((with_reducible refine nI_nlt ?_ ?_); omega; omega) | with_reducible exact ne10 | with_reducible rfl)] | rw [if_neg (by first | with_reducible assumption | ((with_reducible refine nI_lt ?_ ?_); omega; omega) | ((with_reducible refine nI_nlt ?_ ?_); omega; omega) | with_reducible exact ne10 | with_reducible rfl)])
theorem isPiece_f {x : Int32} (hs : skC K R o) (hA : psA K R c) (hC : M.1 c 1 = nI ps.length) (hnow : mX1_now K R M (o + 20) = some c) (hx : x < 0 ∨ nI ps.length ≤ x) : mX7_isPiece K R M o x = some 0 := by
  obtain ⟨s0, -, -, s2, -, -, -, -, -, -, -, -, -, -, -, -, -, -, ⟨i0, -⟩, -⟩ := hs
  have a0 := hA.1
  unfold mX7_isPiece
  by_cases h0 : x < 0
  · repeat (first | rw [ck_t (by first | with_reducible assumption | ((with_reducible apply ixA_of); (with_reducible assumption); omega; omega) | ((with_reducible apply isAr_of); (with_reducible assumption); decide) | ((with_reducible apply nI_ne0); omega; omega) | with_reducible exact isB_0 | with_reducible exact isB_1 | with_reducible exact isB_bI _)] | rw [bd_r (by with_reducible assumption)] | rw [bd_s] | rw [bd2_s] | rw [bd3_s] | rw [nm_s] | rw [nI_clamp (by omega)] | rw [nI_1] | rw [if_pos (by first | with_reducible assumption | ((with_reducible refine nI_lt ?_ ?_); omega; omega) | ((with_reducible refine nI_nlt ?_ ?_); omega; omega) | with_reducible exact ne10 | with_reducible rfl)] | rw [if_neg (by first | with_reducible assumption | ((with_reducible refine nI_lt ?_ ?_); omega; omega) | ((with_reducible refine nI_nlt ?_ ?_); omega; omega) | with_reducible exact ne10 | with_reducible rfl)])
  · have h1 : ¬ x < nI ps.length := Int32.not_lt.mpr (hx.resolve_left h0)
    repeat (first | rw [ck_t (by first | with_reducible assumption | ((with_reducible apply ixA_of); (with_reducible assumption); omega; omega) | ((with_reducible apply isAr_of); (with_reducible assumption); decide) | ((with_reducible apply nI_ne0); omega; omega) | with_reducible exact isB_0 | with_reducible exact isB_1 | with_reducible exact isB_bI _)] | rw [bd_r (by with_reducible assumption)] | rw [bd_s] | rw [bd2_s] | rw [bd3_s] | rw [nm_s] | rw [nI_clamp (by omega)] | rw [nI_1] | rw [bd_e (hnow)] | rw [hC] | rw [if_pos (by first | with_reducible assumption | ((with_reducible refine nI_lt ?_ ?_); omega; omega) | ((with_reducible refine nI_nlt ?_ ?_); omega; omega) | with_reducible exact ne10 | with_reducible rfl)] | rw [if_neg (by first | with_reducible assumption | ((with_reducible refine nI_lt ?_ ?_); omega; omega) | ((with_reducible refine nI_nlt ?_ ?_); omega; omega) | with_reducible exact ne10 | with_reducible rfl)])
theorem psC.num {f : Nat} (h : psC M f ps) : M.1 f 1 = nI ps.length := h.1
end AK
theorem inv_over (o : Nat) (K : Kk) (R : Rr) (M : Mm) (a0 a1 : Int32) (hI : Inv o K R M) : ∃ (v : Int64) (M1 : Mm) (M2 : Mm), mX7_over K R M o a0 a1 = some (v, M1) ∧ mX8_over K R M1 (o + 2118) a0 a1 = some (v, M2) ∧ Inv o K R M2 := by
  have hI0 := hI
  obtain ⟨hs, hm, S, hw, hc, ho⟩ := hI
  have hs0 := hs
  have m0 := hm.1
  obtain ⟨ps, hps, hpp⟩ := now_ps hw
  obtain ⟨c, hc1, hc2, hcA, hcC, hnow⟩ := now_at hs0 hw hc hps
  have hq6 : psM (M.2 (o + 2118 + 1)) 0 ps := ho.2.2.2.2.2.1 ps hps
  have h40 := hpp.1
  have hn := hcC.1
  obtain ⟨s0, -, -, s2, -, -, -, -, -, -, s9, s10, -, -, -, -, -, -, ⟨i0, -⟩, -, -, -, -, -, -, -, r1, r2, -⟩ := hs
  have bad : ∀ x, (x < 0 ∨ nI ps.length ≤ x) → mX7_isPiece K R M o x = some 0 ∧ mX8_isPiece K R M (o + 2118) x = some 0 := fun x hx => ⟨isPiece_f hs0 hcA hn (hnow M rfl) hx, isPieceM_f hm hq6 hx h40⟩
  have good : ∀ p, p < ps.length → mX7_isPiece K R M o (nI p) = some 1 ∧ mX8_isPiece K R M (o + 2118) (nI p) = some 1 := fun p hp => ⟨isPiece_t hs0 hcA hn (hnow M rfl) hp h40, isPieceM_t hm hq6 hp h40⟩
  have B0 : ∀ x, (x < 0 ∨ nI ps.length ≤ x) → a0 = x ∨ a1 = x → a0 = x ∨ (∃ p, p < ps.length ∧ a0 = nI p) → ∃ (v : Int64) (M1 : Mm) (M2 : Mm), mX7_over K R M o a0 a1 = some (v, M1) ∧ mX8_over K R M1 (o + 2118) a0 a1 = some (v, M2) ∧ Inv o K R M2 := fun x hx h1 h2 => by
    refine ⟨-9000000000000000001, M, M, ?_, ?_, hI0⟩
    · unfold mX7_over
      rcases h2 with h2 | ⟨p, hp, h2⟩
      · subst h2; repeat (first | rw [ck_t (by first | with_reducible assumption | ((with_reducible apply ixA_of); (with_reducible assumption); omega; omega) | ((with_reducible apply isAr_of); (with_reducible assumption); decide) | ((with_reducible apply nI_ne0); omega; omega) | with_reducible exact isB_0 | with_reducible exact isB_1 | with_reducible exact isB_bI _)] | rw [bd_r (by with_reducible assumption)] | rw [bd_s] | rw [bd2_s] | rw [bd3_s] | rw [nm_s] | rw [nI_clamp (by omega)] | rw [nI_1] | rw [bd_e ((bad a0 hx).1)] | rw [if_pos (by first | with_reducible assumption | ((with_reducible refine nI_lt ?_ ?_); omega; omega) | ((with_reducible refine nI_nlt ?_ ?_); omega; omega) | with_reducible exact ne10 | with_reducible rfl)] | rw [if_neg (by first | with_reducible assumption | ((with_reducible refine nI_lt ?_ ?_); omega; omega) | ((with_reducible refine nI_nlt ?_ ?_); omega; omega) | with_reducible exact ne10 | with_reducible rfl)])
      · rcases h1 with h1 | h1
        · subst h1; repeat (first | rw [ck_t (by first | with_reducible assumption | ((with_reducible apply ixA_of); (with_reducible assumption); omega; omega) | ((with_reducible apply isAr_of); (with_reducible assumption); decide) | ((with_reducible apply nI_ne0); omega; omega) | with_reducible exact isB_0 | with_reducible exact isB_1 | with_reducible exact isB_bI _)] | rw [bd_r (by with_reducible assumption)] | rw [bd_s] | rw [bd2_s] | rw [bd3_s] | rw [nm_s] | rw [nI_clamp (by omega)] | rw [nI_1] | rw [bd_e ((bad a0 hx).1)] | rw [if_pos (by first | with_reducible assumption | ((with_reducible refine nI_lt ?_ ?_); omega; omega) | ((with_reducible refine nI_nlt ?_ ?_); omega; omega) | with_reducible exact ne10 | with_reducible rfl)] | rw [if_neg (by first | with_reducible assumption | ((with_reducible refine nI_lt ?_ ?_); omega; omega) | ((with_reducible refine nI_nlt ?_ ?_); omega; omega) | with_reducible exact ne10 | with_reducible rfl)])
        · subst h1 h2; repeat (first | rw [ck_t (by first | with_reducible assumption | ((with_reducible apply ixA_of); (with_reducible assumption); omega; omega) | ((with_reducible apply isAr_of); (with_reducible assumption); decide) | ((with_reducible apply nI_ne0); omega; omega) | with_reducible exact isB_0 | with_reducible exact isB_1 | with_reducible exact isB_bI _)] | rw [bd_r (by with_reducible assumption)] | rw [bd_s] | rw [bd2_s] | rw [bd3_s] | rw [nm_s] | rw [nI_clamp (by omega)] | rw [nI_1] | rw [bd_e ((good p hp).1)] | rw [bd_e ((bad a1 hx).1)] | rw [if_pos (by first | with_reducible assumption | ((with_reducible refine nI_lt ?_ ?_); omega; omega) | ((with_reducible refine nI_nlt ?_ ?_); omega; omega) | with_reducible exact ne10 | with_reducible rfl)] | rw [if_neg (by first | with_reducible assumption | ((with_reducible refine nI_lt ?_ ?_); omega; omega) | ((with_reducible refine nI_nlt ?_ ?_); omega; omega) | with_reducible exact ne10 | with_reducible rfl)])
    · unfold mX8_over
      rcases h2 with h2 | ⟨p, hp, h2⟩
      · subst h2; repeat (first | rw [ck_t (by first | with_reducible assumption | ((with_reducible apply ixA_of); (with_reducible assumption); omega; omega) | ((with_reducible apply isAr_of); (with_reducible assumption); decide) | ((with_reducible apply nI_ne0); omega; omega) | with_reducible exact isB_0 | with_reducible exact isB_1 | with_reducible exact isB_bI _)] | rw [bd_r (by with_reducible assumption)] | rw [bd_s] | rw [bd2_s] | rw [bd3_s] | rw [nm_s] | rw [nI_clamp (by omega)] | rw [nI_1] | rw [bd_e ((bad a0 hx).2)] | rw [if_pos (by first | with_reducible assumption | ((with_reducible refine nI_lt ?_ ?_); omega; omega) | ((with_reducible refine nI_nlt ?_ ?_); omega; omega) | with_reducible exact ne10 | with_reducible rfl)] | rw [if_neg (by first | with_reducible assumption | ((with_reducible refine nI_lt ?_ ?_); omega; omega) | ((with_reducible refine nI_nlt ?_ ?_); omega; omega) | with_reducible exact ne10 | with_reducible rfl)])
      · rcases h1 with h1 | h1
        · subst h1; repeat (first | rw [ck_t (by first | with_reducible assumption | ((with_reducible apply ixA_of); (with_reducible assumption); omega; omega) | ((with_reducible apply isAr_of); (with_reducible assumption); decide) | ((with_reducible apply nI_ne0); omega; omega) | with_reducible exact isB_0 | with_reducible exact isB_1 | with_reducible exact isB_bI _)] | rw [bd_r (by with_reducible assumption)] | rw [bd_s] | rw [bd2_s] | rw [bd3_s] | rw [nm_s] | rw [nI_clamp (by omega)] | rw [nI_1] | rw [bd_e ((bad a0 hx).2)] | rw [if_pos (by first | with_reducible assumption | ((with_reducible refine nI_lt ?_ ?_); omega; omega) | ((with_reducible refine nI_nlt ?_ ?_); omega; omega) | with_reducible exact ne10 | with_reducible rfl)] | rw [if_neg (by first | with_reducible assumption | ((with_reducible refine nI_lt ?_ ?_); omega; omega) | ((with_reducible refine nI_nlt ?_ ?_); omega; omega) | with_reducible exact ne10 | with_reducible rfl)])
        · subst h1 h2; repeat (first | rw [ck_t (by first | with_reducible assumption | ((with_reducible apply ixA_of); (with_reducible assumption); omega; omega) | ((with_reducible apply isAr_of); (with_reducible assumption); decide) | ((with_reducible apply nI_ne0); omega; omega) | with_reducible exact isB_0 | with_reducible exact isB_1 | with_reducible exact isB_bI _)] | rw [bd_r (by with_reducible assumption)] | rw [bd_s] | rw [bd2_s] | rw [bd3_s] | rw [nm_s] | rw [nI_clamp (by omega)] | rw [nI_1] | rw [bd_e ((good p hp).2)] | rw [bd_e ((bad a1 hx).2)] | rw [if_pos (by first | with_reducible assumption | ((with_reducible refine nI_lt ?_ ?_); omega; omega) | ((with_reducible refine nI_nlt ?_ ?_); omega; omega) | with_reducible exact ne10 | with_reducible rfl)] | rw [if_neg (by first | with_reducible assumption | ((with_reducible refine nI_lt ?_ ?_); omega; omega) | ((with_reducible refine nI_nlt ?_ ?_); omega; omega) | with_reducible exact ne10 | with_reducible rfl)])
  rcases pk_ix a0 (n := ps.length) (by omega) with h | h | ⟨p, hp, rfl⟩
  · exact B0 a0 (Or.inl h) (Or.inl rfl) (Or.inl rfl)
  · exact B0 a0 (Or.inr h) (Or.inl rfl) (Or.inl rfl)
  · rcases pk_ix a1 (n := ps.length) (by omega) with h | h | ⟨q, hq, rfl⟩
    · exact B0 a1 (Or.inl h) (Or.inr rfl) (Or.inr ⟨p, hp, rfl⟩)
    · exact B0 a1 (Or.inr h) (Or.inr rfl) (Or.inr ⟨p, hp, rfl⟩)
    · by_cases hpq : nI p = nI q
      · refine ⟨-9000000000000000001, M, M, ?_, ?_, hI0⟩
        · unfold mX7_over
          repeat (first | rw [ck_t (by first | with_reducible assumption | ((with_reducible apply ixA_of); (with_reducible assumption); omega; omega) | ((with_reducible apply isAr_of); (with_reducible assumption); decide) | ((with_reducible apply nI_ne0); omega; omega) | with_reducible exact isB_0 | with_reducible exact isB_1 | with_reducible exact isB_bI _)] | rw [bd_r (by with_reducible assumption)] | rw [bd_s] | rw [bd2_s] | rw [bd3_s] | rw [nm_s] | rw [nI_clamp (by omega)] | rw [nI_1] | rw [bd_e ((good p hp).1)] | rw [bd_e ((good q hq).1)] | rw [if_pos (by first | with_reducible assumption | ((with_reducible refine nI_lt ?_ ?_); omega; omega) | ((with_reducible refine nI_nlt ?_ ?_); omega; omega) | with_reducible exact ne10 | with_reducible rfl)] | rw [if_neg (by first | with_reducible assumption | ((with_reducible refine nI_lt ?_ ?_); omega; omega) | ((with_reducible refine nI_nlt ?_ ?_); omega; omega) | with_reducible exact ne10 | with_reducible rfl)])
        · unfold mX8_over
          repeat (first | rw [ck_t (by first | with_reducible assumption | ((with_reducible apply ixA_of); (with_reducible assumption); omega; omega) | ((with_reducible apply isAr_of); (with_reducible assumption); decide) | ((with_reducible apply nI_ne0); omega; omega) | with_reducible exact isB_0 | with_reducible exact isB_1 | with_reducible exact isB_bI _)] | rw [bd_r (by with_reducible assumption)] | rw [bd_s] | rw [bd2_s] | rw [bd3_s] | rw [nm_s] | rw [nI_clamp (by omega)] | rw [nI_1] | rw [bd_e ((good p hp).2)] | rw [bd_e ((good q hq).2)] | rw [if_pos (by first | with_reducible assumption | ((with_reducible refine nI_lt ?_ ?_); omega; omega) | ((with_reducible refine nI_nlt ?_ ?_); omega; omega) | with_reducible exact ne10 | with_reducible rfl)] | rw [if_neg (by first | with_reducible assumption | ((with_reducible refine nI_lt ?_ ?_); omega; omega) | ((with_reducible refine nI_nlt ?_ ?_); omega; omega) | with_reducible exact ne10 | with_reducible rfl)])
      · obtain ⟨P, hP⟩ := get_ex hp
        obtain ⟨Q, hQ⟩ := get_ex hq
        have iP := hpp.2 p P hP
        have iQ := hpp.2 q Q hQ
        have lP := (plc_ok iP).2.2.2.1
        have lQ := (plc_ok iQ).2.2.2.1
        have BP := inBs_of (plc_ok iP).2.2.2.2
        have BQ := inBs_of (plc_ok iQ).2.2.2.2
        have sP := iP.1.2.1
        have sQ := iQ.1.2.1
        obtain ⟨g0, g1, g2, g3⟩ := hcA
        obtain ⟨k1, k2⟩ := g3 p (by omega)
        obtain ⟨k3, k4⟩ := g3 q (by omega)
        have k20 := k2.1
        have k40 := k4.1
        have r10 := r1.1
        obtain ⟨N1, a1, a2, a3, a4⟩ := placeInto_ok (M := M) r1 k2 (by omega) iP (by decide) (by decide) (hcC.2 p P hP)
        obtain ⟨N2, b1, b2, b3, b4⟩ := placeInto_ok (M := N1) r2 k4 (by omega) iQ (by decide) (by decide) ((hcC.2 q Q hQ).fr a3 (by omega))
        have a2' := a2.fr b3 (by omega)
        obtain ⟨v, d1, d2⟩ := liesOver_ok r1 a2' (by omega) (by decide) BP r2 b2 (by omega) (by decide) BQ
        have l2 : N2.2 = M.2 := b4.trans a4
        have hq7 : psM (N2.2 (o + 2118 + 1)) 0 ps := by rw [l2]; exact hq6
        obtain ⟨w, M2, e1, e2, e3⟩ := isOver_ok hm hq7 hP hQ h40 iP iQ
        obtain rfl := d2.un e2
        have hk : Kp o M N2 := (Kp.fr a3 (by omega)).tr (Kp.fr b3 (by omega))
        have t1 := isPieceM_t hm hq7 hp h40
        have t2 := isPieceM_t hm hq7 hq h40
        refine ⟨v.toInt64, N2, M2, ?_, ?_, (hI0.kp hk).kp (e3.kp (by decide) (by decide) (by decide) (by decide))⟩
        · unfold mX7_over
          repeat (first | rw [ck_t (by first | with_reducible assumption | ((with_reducible apply ixA_of); (with_reducible assumption); omega; omega) | ((with_reducible apply isAr_of); (with_reducible assumption); decide) | ((with_reducible apply nI_ne0); omega; omega) | with_reducible exact isB_0 | with_reducible exact isB_1 | with_reducible exact isB_bI _)] | rw [bd_r (by with_reducible assumption)] | rw [bd_s] | rw [bd2_s] | rw [bd3_s] | rw [nm_s] | rw [nI_clamp (by omega)] | rw [nI_1] | rw [bd_e ((good p hp).1)] | rw [bd_e ((good q hq).1)] | rw [bd_e (hnow M rfl)] | rw [bd_e (a1)] | rw [bd_e (hnow N1 ((a3 _ (by omega)).1))] | rw [bd_e (b1)] | rw [bd_e (d1)] | rw [if_pos (by first | with_reducible assumption | ((with_reducible refine nI_lt ?_ ?_); omega; omega) | ((with_reducible refine nI_nlt ?_ ?_); omega; omega) | with_reducible exact ne10 | with_reducible rfl)] | rw [if_neg (by first | with_reducible assumption | ((with_reducible refine nI_lt ?_ ?_); omega; omega) | ((with_reducible refine nI_nlt ?_ ?_); omega; omega) | with_reducible exact ne10 | with_reducible rfl)])
          rcases d2 with ⟨rfl, _⟩ | ⟨rfl, _⟩
          · rw [if_neg ne10]; rfl
          · rw [if_pos rfl]; rfl
        · unfold mX8_over
          repeat (first | rw [ck_t (by first | with_reducible assumption | ((with_reducible apply ixA_of); (with_reducible assumption); omega; omega) | ((with_reducible apply isAr_of); (with_reducible assumption); decide) | ((with_reducible apply nI_ne0); omega; omega) | with_reducible exact isB_0 | with_reducible exact isB_1 | with_reducible exact isB_bI _)] | rw [bd_r (by with_reducible assumption)] | rw [bd_s] | rw [bd2_s] | rw [bd3_s] | rw [nm_s] | rw [nI_clamp (by omega)] | rw [nI_1] | rw [bd_e (t1)] | rw [bd_e (t2)] | rw [bd2_e (e1)] | rw [if_pos (by first | with_reducible assumption | ((with_reducible refine nI_lt ?_ ?_); omega; omega) | ((with_reducible refine nI_nlt ?_ ?_); omega; omega) | with_reducible exact ne10 | with_reducible rfl)] | rw [if_neg (by first | with_reducible assumption | ((with_reducible refine nI_lt ?_ ?_); omega; omega) | ((with_reducible refine nI_nlt ?_ ?_); omega; omega) | with_reducible exact ne10 | with_reducible rfl)])
          rcases d2 with ⟨rfl, _⟩ | ⟨rfl, _⟩
          · rw [if_neg ne10]; rfl
          · rw [if_pos rfl]; rfl
