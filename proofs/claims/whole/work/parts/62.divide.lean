/-! the class parts a ring, and cuts a piece -/
def FD (a a1 : Nat) (M N : Mm) : Prop := (∀ b, b ≠ a → (b < a1 ∨ a1 + 6 ≤ b) → N.1 b = M.1 b) ∧ N.2 = M.2 ∧ ∀ k, 2 ≤ k → N.1 a k = M.1 a k
theorem FD.rf {a a1 : Nat} {M : Mm} : FD a a1 M M := ⟨fun _ _ _ => rfl, rfl, fun _ _ => rfl⟩
theorem FD.tr {a a1 : Nat} {M N N' : Mm} (h : FD a a1 M N) (g : FD a a1 N N') : FD a a1 M N' := ⟨fun b h1 h2 => (g.1 b h1 h2).trans (h.1 b h1 h2), g.2.1.trans h.2.1, fun k hk => (g.2.2 k hk).trans (h.2.2 k hk)⟩
theorem FD.add {a a1 lo : Nat} {N N' : Mm} (da : a + 1 ≤ a1 ∨ a1 + 6 ≤ a) (f : Fr lo (lo + 3) N N') (e2 : N'.2 = N.2) (h1 : a1 ≤ lo) (h2 : lo ≤ a1 + 3) : FD a a1 N N' := ⟨fun b _ hb => (f b (by omega)).1, e2, fun k _ => congrFun (f a (by omega)).1 k⟩
theorem FD.mt {a a1 : Nat} {N N' : Mm} (f : Fr a (a + 1) N N') (e2 : N'.2 = N.2) (ek : ∀ k, 2 ≤ k → N'.1 a k = N.1 a k) : FD a a1 N N' := ⟨fun b hb _ => (f b (by omega)).1, e2, ek⟩
theorem rgC.fd {a a1 q : Nat} {N N' : Mm} {l : List Pt} (h : rgC N q l) (f : FD a a1 N N') (hq : q + 3 ≤ a1 ∨ a1 + 6 ≤ q) (hq2 : a + 1 ≤ q ∨ q + 3 ≤ a) : rgC N' q l := by
  refine ⟨by rw [f.1 q (by omega) (by omega)]; exact h.1, fun i p hp => ?_⟩
  rw [f.1 (q + 1) (by omega) (by omega), f.1 (q + 2) (by omega) (by omega)]
  exact h.2 i p hp
theorem prt_mono (A B : Pt) (s : Int) (l : List Pt) (i : Nat) : ∀ d, (prt A B s l i).length ≤ (prt A B s l (i + d)).length
  | 0 => Nat.le_refl _
  | d + 1 => by
    have := prt_mono A B s l i d
    show _ ≤ (prt A B s l (i + d) ++ _ ++ _).length
    rw [List.length_append, List.length_append]; omega
section DV
variable {K : Kk} {R : Rr} {M : Mm} {a : Nat} {A B : Pt}
theorem add_gen {r n : Nat} {L : List Pt} {x y : Int32} (hA : rgA K R r n) (h : rgC M r L) (hl : L.length ≤ n) (hn : n < 2 ^ 20) : ∃ M' L', mX5_add K R M r x y = some M' ∧ rgC M' r L' ∧ L'.length ≤ n ∧ (L.length < n → L' = L ++ [(x.toInt, y.toInt)]) ∧ Fr r (r + 3) M M' ∧ M'.2 = M.2 := by
  by_cases z : L.length < n
  · obtain ⟨M', e1, e2, e3, e4⟩ := add_ok (x := x) (y := y) hA h z hn
    exact ⟨M', _, e1, e2, by rw [List.length_append]; simp only [List.length_singleton]; omega, fun _ => rfl, e3, e4⟩
  · exact ⟨M, L, add_full hA h (by omega) (by omega), h, hl, fun q => absurd q z, Fr.rf, rfl⟩
theorem divide_ok {q n a1 : Nat} {l : List Pt} (ho : isO K a 2) (h : lnC M a A B) (hB : lnB A B) (hq : rgA K R q n) (hl : rgC M q l) (hn : l.length ≤ n) (hn2 : n < 2 ^ 20) (bl : inBs l) (hr1 : rgA K R a1 16) (hr2 : rgA K R (a1 + 3) 16) (da : a + 1 ≤ a1 ∨ a1 + 6 ≤ a) (dq : q + 3 ≤ a1 ∨ a1 + 6 ≤ q) (daq : a + 1 ≤ q ∨ q + 3 ≤ a) (hlen : allW A B l → ∀ s, sgn1 s → (prt A B s l l.length).length ≤ 16) :
    ∃ v M', mX2_divide K R M a q a1 (a1 + 3) = some (v, M') ∧ ((v = 1 ∧ allW A B l ∧ rgC M' a1 (prt A B 1 l l.length) ∧ rgC M' (a1 + 3) (prt A B (-1) l l.length)) ∨ (v = 0 ∧ ¬ allW A B l)) ∧ FD a a1 M M' := by
  have q00 := hq.1
  have r10 := hr1.1
  have r20 := hr2.1
  have q1 := hq.2.1
  have q2 := hq.2.2.1
  have q3 := hq.2.2.2.1
  have q4 := hq.2.2.2.2
  have hW := lp_ind (f := mX2_divide_L13 K R a q a1 (a1 + 3)) (fun (i : Nat) (s : Int32 × Mm) => s.1 = nI i ∧ FD a a1 M s.2 ∧ (∀ j, j < i → opp (crs A B (vx l j)) (crs A B (vx l (j + 1))) → whl A B (vx l j) (vx l (j + 1))) ∧ ∃ L1 L2, rgC s.2 a1 L1 ∧ rgC s.2 (a1 + 3) L2 ∧ L1.length ≤ 16 ∧ L2.length ≤ 16 ∧ (allW A B l → L1 = prt A B 1 l i ∧ L2 = prt A B (-1) l i)) (fun r => ((r.1 = 1 ∧ allW A B l ∧ rgC r.2 a1 (prt A B 1 l l.length) ∧ rgC r.2 (a1 + 3) (prt A B (-1) l l.length)) ∨ (r.1 = 0 ∧ ¬ allW A B l)) ∧ FD a a1 M r.2) l.length ?_ ?_
  · obtain ⟨⟨v, M'⟩, e1, e2⟩ := hW l.length 0 (nI 0, pI (pI M a1 2 0) (a1 + 3) 2 0) (by omega) ⟨rfl, (FD.add (lo := a1) da (Fr.rf.pI (by omega) (by omega)) rfl (by omega) (by omega)).tr (FD.add (lo := a1 + 3) da (Fr.rf.pI (by omega) (by omega)) rfl (by omega) (by omega)), fun j hj => absurd hj (by omega), [], [], ⟨by show (pI (pI M a1 2 0) (a1 + 3) 2 0).1 a1 2 = _; rw [pI_n (by omega), pI_s]; rfl, fun i p hp => by simp at hp⟩, ⟨pI_s, fun i p hp => by simp at hp⟩, by simp, by simp, fun _ => ⟨rfl, rfl⟩⟩
    refine ⟨v, M', ?_, e2⟩
    unfold mX2_divide
    (repeat (first | rw [ck_t (by first | with_reducible assumption | ((with_reducible apply ixA_of); (with_reducible assumption); omega; omega) | ((with_reducible apply isAr_of); (with_reducible assumption); decide) | ((with_reducible apply nI_ne0); omega; omega) | with_reducible exact isB_0 | with_reducible exact isB_1 | with_reducible exact isB_bI _)] | rw [bd_r (by with_reducible assumption)] | rw [bd_s] | rw [bd2_s] | rw [bd3_s] | rw [nm_s] | rw [nI_clamp (by omega)] | rw [nI_1] | rw [if_pos (by first | with_reducible assumption | ((with_reducible refine nI_lt ?_ ?_); omega; omega) | ((with_reducible refine nI_nlt ?_ ?_); omega; omega) | with_reducible exact ne10 | with_reducible rfl)] | rw [if_neg (by first | with_reducible assumption | ((with_reducible refine nI_lt ?_ ?_); omega; omega) | ((with_reducible refine nI_nlt ?_ ?_); omega; omega) | with_reducible exact ne10 | with_reducible rfl)]))
    exact e1
  · rintro i ⟨z, N⟩ hi ⟨rfl, f1, f2, L1, L2, f3, f4, f5, f6, f7⟩
    have f1 : FD a a1 M N := f1
    have f3 : rgC N a1 L1 := f3
    have f4 : rgC N (a1 + 3) L2 := f4
    have hN := hl.fd f1 dq daq
    have lN := h.eq (fun k k1 _ => f1.2.2 k k1)
    have e := hN.1
    have hj := mod_lt' hi
    have w := wrap_ok (i := i + 1) hq hN (by omega) (by omega)
    have gi := gp_get hi
    have gj := gp_get hj
    have vi : vx l i = gp l i := vx_lt hi
    have vj : vx l (i + 1) = gp l ((i + 1) % l.length) := rfl
    have Bi := bl _ _ gi
    have Bj := bl _ _ gj
    obtain ⟨u1, u2⟩ := hN.2 _ _ gi
    have pe : gp l i = ((N.1 (q + 1) i).toInt, (N.1 (q + 2) i).toInt) := Prod.ext u1.symm u2.symm
    obtain ⟨v, v1, v2⟩ := lside_ok (R := R) ho lN hB (pe ▸ Bi)
    rw [← pe, ← vi] at v2
    have z0 : (0 : Int64).toInt = 0 := rfl
    have x3i : ixA K (q + 1) 0 (nI i) := ixA_of q3 (by omega) (by omega)
    have x4i : ixA K (q + 2) 0 (nI i) := ixA_of q4 (by omega) (by omega)
    have x3j : ixA K (q + 1) 0 (nI ((i + 1) % l.length)) := ixA_of q3 (by omega) (by omega)
    have x4j : ixA K (q + 2) 0 (nI ((i + 1) % l.length)) := ixA_of q4 (by omega) (by omega)
    have cap : ∀ s, sgn1 s → allW A B l → (prt A B s l i).length + (ap1 (0 ≤ s * crs A B (vx l i)) (vx l i)).length + (ap1 (opp (crs A B (vx l i)) (crs A B (vx l (i + 1)))) (mtP A B (vx l i) (vx l (i + 1)))).length ≤ 16 := fun s hs hw => by
      have h1 := prt_mono A B s l (i + 1) (l.length - (i + 1))
      rw [show i + 1 + (l.length - (i + 1)) = l.length by omega] at h1
      have h2 := hlen hw s hs
      have : (prt A B s l (i + 1)).length = (prt A B s l i).length + (ap1 (0 ≤ s * crs A B (vx l i)) (vx l i)).length + (ap1 (opp (crs A B (vx l i)) (crs A B (vx l (i + 1)))) (mtP A B (vx l i) (vx l (i + 1)))).length := by
        show (prt A B s l i ++ _ ++ _).length = _
        rw [List.length_append, List.length_append]
      omega
    -- the corner itself, to the left
    have st1 : ∃ N1 L1', FD a a1 M N1 ∧ rgC N1 a1 L1' ∧ rgC N1 (a1 + 3) L2 ∧ L1'.length ≤ 16 ∧ (allW A B l → L1' = prt A B 1 l i ++ ap1 (0 ≤ 1 * crs A B (vx l i)) (vx l i)) ∧ mX2_divide_B13 K R a q a1 (a1 + 3) (nI i) N = mX2_divide_J77 K R N1 a q a1 (a1 + 3) (nI i) (nI ((i + 1) % l.length)) v := by
      by_cases c : v < 0
      · have cn : ¬ 0 ≤ 1 * crs A B (vx l i) := by rw [lt64, z0, v2] at c; omega
        refine ⟨N, L1, f1, f3, f4, f5, fun hw => by rw [ap1_f cn, List.append_nil]; exact (f7 hw).1, ?_⟩
        unfold mX2_divide_B13
        (repeat (first | rw [ck_t (by first | with_reducible assumption | ((with_reducible apply ixA_of); (with_reducible assumption); omega; omega) | ((with_reducible apply isAr_of); (with_reducible assumption); decide) | ((with_reducible apply nI_ne0); omega; omega) | with_reducible exact isB_0 | with_reducible exact isB_1 | with_reducible exact isB_bI _)] | rw [bd_r (by with_reducible assumption)] | rw [bd_s] | rw [bd2_s] | rw [bd3_s] | rw [nm_s] | rw [nI_clamp (by omega)] | rw [nI_1] | rw [e] | rw [bd_e (w)] | rw [bd_e (v1)] | rw [if_pos (by first | with_reducible assumption | ((with_reducible refine nI_lt ?_ ?_); omega; omega) | ((with_reducible refine nI_nlt ?_ ?_); omega; omega) | with_reducible exact ne10 | with_reducible rfl)] | rw [if_neg (by first | with_reducible assumption | ((with_reducible refine nI_lt ?_ ?_); omega; omega) | ((with_reducible refine nI_nlt ?_ ?_); omega; omega) | with_reducible exact ne10 | with_reducible rfl)]))
      · have cn : 0 ≤ 1 * crs A B (vx l i) := by rw [lt64, z0, v2] at c; omega
        obtain ⟨N1, L1', d1, d2, d3, d4, d5, d6⟩ := add_gen (x := N.1 (q + 1) i) (y := N.1 (q + 2) i) hr1 f3 f5 (by decide)
        refine ⟨N1, L1', f1.tr (FD.add da d5 d6 (by omega) (by omega)), d2, f4.fr d5 (by omega), d3, fun hw => ?_, ?_⟩
        · have k := cap 1 (Or.inl rfl) hw
          rw [ap1_t cn] at k ⊢
          have k1 : L1.length < 16 := by rw [(f7 hw).1]; simp only [List.length_singleton] at k; omega
          rw [d4 k1, (f7 hw).1, ← pe, vi]
        · unfold mX2_divide_B13
          (repeat (first | rw [ck_t (by first | with_reducible assumption | ((with_reducible apply ixA_of); (with_reducible assumption); omega; omega) | ((with_reducible apply isAr_of); (with_reducible assumption); decide) | ((with_reducible apply nI_ne0); omega; omega) | with_reducible exact isB_0 | with_reducible exact isB_1 | with_reducible exact isB_bI _)] | rw [bd_r (by with_reducible assumption)] | rw [bd_s] | rw [bd2_s] | rw [bd3_s] | rw [nm_s] | rw [nI_clamp (by omega)] | rw [nI_1] | rw [e] | rw [bd_e (w)] | rw [bd_e (v1)] | rw [bd_e (d1)] | rw [if_pos (by first | with_reducible assumption | ((with_reducible refine nI_lt ?_ ?_); omega; omega) | ((with_reducible refine nI_nlt ?_ ?_); omega; omega) | with_reducible exact ne10 | with_reducible rfl)] | rw [if_neg (by first | with_reducible assumption | ((with_reducible refine nI_lt ?_ ?_); omega; omega) | ((with_reducible refine nI_nlt ?_ ?_); omega; omega) | with_reducible exact ne10 | with_reducible rfl)]))
    obtain ⟨N1, L1', g1, g2, g3, g4, g5, g6⟩ := st1
    have hN1 := hl.fd g1 dq daq
    obtain ⟨y1, y2⟩ := hN1.2 _ _ gi
    have pe1 : gp l i = ((N1.1 (q + 1) i).toInt, (N1.1 (q + 2) i).toInt) := Prod.ext y1.symm y2.symm
    have st2 : ∃ N2 L2', FD a a1 M N2 ∧ rgC N2 a1 L1' ∧ rgC N2 (a1 + 3) L2' ∧ L2'.length ≤ 16 ∧ (allW A B l → L2' = prt A B (-1) l i ++ ap1 (0 ≤ -1 * crs A B (vx l i)) (vx l i)) ∧ mX2_divide_J77 K R N1 a q a1 (a1 + 3) (nI i) (nI ((i + 1) % l.length)) v = mX2_divide_J102 K R N2 a q a1 (a1 + 3) (nI i) (nI ((i + 1) % l.length)) := by
      by_cases c : v ≤ 0
      · have cn : 0 ≤ -1 * crs A B (vx l i) := by rw [le64, z0, v2] at c; omega
        obtain ⟨N2, L2', d1, d2, d3, d4, d5, d6⟩ := add_gen (x := N1.1 (q + 1) i) (y := N1.1 (q + 2) i) hr2 g3 f6 (by decide)
        refine ⟨N2, L2', g1.tr (FD.add da d5 d6 (by omega) (by omega)), g2.fr d5 (by omega), d2, d3, fun hw => ?_, ?_⟩
        · have k := cap (-1) (Or.inr rfl) hw
          rw [ap1_t cn] at k ⊢
          have k1 : L2.length < 16 := by rw [(f7 hw).2]; simp only [List.length_singleton] at k; omega
          rw [d4 k1, (f7 hw).2, ← pe1, vi]
        · unfold mX2_divide_J77
          (repeat (first | rw [ck_t (by first | with_reducible assumption | ((with_reducible apply ixA_of); (with_reducible assumption); omega; omega) | ((with_reducible apply isAr_of); (with_reducible assumption); decide) | ((with_reducible apply nI_ne0); omega; omega) | with_reducible exact isB_0 | with_reducible exact isB_1 | with_reducible exact isB_bI _)] | rw [bd_r (by with_reducible assumption)] | rw [bd_s] | rw [bd2_s] | rw [bd3_s] | rw [nm_s] | rw [nI_clamp (by omega)] | rw [nI_1] | rw [bd_e (d1)] | rw [if_pos (by first | with_reducible assumption | ((with_reducible refine nI_lt ?_ ?_); omega; omega) | ((with_reducible refine nI_nlt ?_ ?_); omega; omega) | with_reducible exact ne10 | with_reducible rfl)] | rw [if_neg (by first | with_reducible assumption | ((with_reducible refine nI_lt ?_ ?_); omega; omega) | ((with_reducible refine nI_nlt ?_ ?_); omega; omega) | with_reducible exact ne10 | with_reducible rfl)]))
      · have cn : ¬ 0 ≤ -1 * crs A B (vx l i) := by rw [le64, z0, v2] at c; omega
        refine ⟨N1, L2, g1, g2, g3, f6, fun hw => by rw [ap1_f cn, List.append_nil]; exact (f7 hw).2, ?_⟩
        unfold mX2_divide_J77
        (repeat (first | rw [ck_t (by first | with_reducible assumption | ((with_reducible apply ixA_of); (with_reducible assumption); omega; omega) | ((with_reducible apply isAr_of); (with_reducible assumption); decide) | ((with_reducible apply nI_ne0); omega; omega) | with_reducible exact isB_0 | with_reducible exact isB_1 | with_reducible exact isB_bI _)] | rw [bd_r (by with_reducible assumption)] | rw [bd_s] | rw [bd2_s] | rw [bd3_s] | rw [nm_s] | rw [nI_clamp (by omega)] | rw [nI_1] | rw [if_pos (by first | with_reducible assumption | ((with_reducible refine nI_lt ?_ ?_); omega; omega) | ((with_reducible refine nI_nlt ?_ ?_); omega; omega) | with_reducible exact ne10 | with_reducible rfl)] | rw [if_neg (by first | with_reducible assumption | ((with_reducible refine nI_lt ?_ ?_); omega; omega) | ((with_reducible refine nI_nlt ?_ ?_); omega; omega) | with_reducible exact ne10 | with_reducible rfl)]))
    obtain ⟨N2, L2', k1, k2, k3, k4, k5, k6⟩ := st2
    show (∃ s', mX2_divide_B13 K R a q a1 (a1 + 3) (nI i) N = some (.inl s') ∧ _) ∨ ∃ r, mX2_divide_B13 K R a q a1 (a1 + 3) (nI i) N = some (.inr r) ∧ _
    rw [g6, k6]
    have hN2 := hl.fd k1 dq daq
    have lN2 := h.eq (fun k k1' _ => k1.2.2 k k1')
    obtain ⟨t1, t2⟩ := hN2.2 _ _ gi
    obtain ⟨t3, t4⟩ := hN2.2 _ _ gj
    have pi : gp l i = ((N2.1 (q + 1) i).toInt, (N2.1 (q + 2) i).toInt) := Prod.ext t1.symm t2.symm
    have pj : gp l ((i + 1) % l.length) = ((N2.1 (q + 1) ((i + 1) % l.length)).toInt, (N2.1 (q + 2) ((i + 1) % l.length)).toInt) := Prod.ext t3.symm t4.symm
    obtain ⟨b, b1, b2⟩ := between_ok (R := R) ho lN2 hB Bi Bj pi pj
    rw [← vi, ← vj] at b2
    have nx : ∀ N, mX2_divide_J198 K R N a q a1 (a1 + 3) (nI i) = some (.inl (nI (i + 1), N)) := fun N => by unfold mX2_divide_J198; (repeat (first | rw [ck_t (by first | with_reducible assumption | ((with_reducible apply ixA_of); (with_reducible assumption); omega; omega) | ((with_reducible apply isAr_of); (with_reducible assumption); decide) | ((with_reducible apply nI_ne0); omega; omega) | with_reducible exact isB_0 | with_reducible exact isB_1 | with_reducible exact isB_bI _)] | rw [bd_r (by with_reducible assumption)] | rw [bd_s] | rw [bd2_s] | rw [bd3_s] | rw [nm_s] | rw [nI_clamp (by omega)] | rw [nI_1] | rw [if_pos (by first | with_reducible assumption | ((with_reducible refine nI_lt ?_ ?_); omega; omega) | ((with_reducible refine nI_nlt ?_ ?_); omega; omega) | with_reducible exact ne10 | with_reducible rfl)] | rw [if_neg (by first | with_reducible assumption | ((with_reducible refine nI_lt ?_ ?_); omega; omega) | ((with_reducible refine nI_nlt ?_ ?_); omega; omega) | with_reducible exact ne10 | with_reducible rfl)]))
    unfold mX2_divide_J102
    (repeat (first | rw [ck_t (by first | with_reducible assumption | ((with_reducible apply ixA_of); (with_reducible assumption); omega; omega) | ((with_reducible apply isAr_of); (with_reducible assumption); decide) | ((with_reducible apply nI_ne0); omega; omega) | with_reducible exact isB_0 | with_reducible exact isB_1 | with_reducible exact isB_bI _)] | rw [bd_r (by with_reducible assumption)] | rw [bd_s] | rw [bd2_s] | rw [bd3_s] | rw [nm_s] | rw [nI_clamp (by omega)] | rw [nI_1] | rw [bd_e (b1)] | rw [if_pos (by first | with_reducible assumption | ((with_reducible refine nI_lt ?_ ?_); omega; omega) | ((with_reducible refine nI_nlt ?_ ?_); omega; omega) | with_reducible exact ne10 | with_reducible rfl)] | rw [if_neg (by first | with_reducible assumption | ((with_reducible refine nI_lt ?_ ?_); omega; omega) | ((with_reducible refine nI_nlt ?_ ?_); omega; omega) | with_reducible exact ne10 | with_reducible rfl)]))
    rcases b2 with ⟨rfl, b2⟩ | ⟨rfl, b2⟩
    · rw [if_neg ne10]
      have b2' : opp (crs A B (gp l i)) (crs A B (gp l ((i + 1) % l.length))) := by rw [← vi, ← vj]; exact b2
      rcases meet_ok (R := R) ho lN2 hB Bi Bj pi pj b2' with ⟨wh, N3, m1, m2, m3, m4, m5⟩ | ⟨wh, m1⟩
      · rw [← vi, ← vj] at wh m2
        left
        obtain ⟨N4, L1'', d1, d2, d3, d4, d5, d6⟩ := add_gen (x := N3.1 a 0) (y := N3.1 a 1) hr1 (k2.fr m4 (by omega)) g4 (by decide)
        have ea : N4.1 a = N3.1 a := (d5 a (by omega)).1
        obtain ⟨N5, L2'', x1, x2, x3, x4, x5, x6⟩ := add_gen (x := N4.1 a 0) (y := N4.1 a 1) hr2 ((k3.fr m4 (by omega)).fr d5 (by omega)) k4 (by decide)
        refine ⟨(nI (i + 1), N5), ?_, rfl, ((k1.tr (FD.mt m4 m5 m3)).tr (FD.add da d5 d6 (by omega) (by omega))).tr (FD.add da x5 x6 (by omega) (by omega)), fun j hj hop => ?_, L1'', L2'', d2.fr x5 (by omega), x2, d3, x3, fun hw => ?_⟩
        · (repeat (first | rw [ck_t (by first | with_reducible assumption | ((with_reducible apply ixA_of); (with_reducible assumption); omega; omega) | ((with_reducible apply isAr_of); (with_reducible assumption); decide) | ((with_reducible apply nI_ne0); omega; omega) | with_reducible exact isB_0 | with_reducible exact isB_1 | with_reducible exact isB_bI _)] | rw [bd_r (by with_reducible assumption)] | rw [bd_s] | rw [bd2_s] | rw [bd3_s] | rw [nm_s] | rw [nI_clamp (by omega)] | rw [nI_1] | rw [bd2_e (m1)] | rw [if_neg (ne10)] | rw [bd_e (d1)] | rw [bd_e (x1)] | rw [nx N5] | rw [if_pos (by first | with_reducible assumption | ((with_reducible refine nI_lt ?_ ?_); omega; omega) | ((with_reducible refine nI_nlt ?_ ?_); omega; omega) | with_reducible exact ne10 | with_reducible rfl)] | rw [if_neg (by first | with_reducible assumption | ((with_reducible refine nI_lt ?_ ?_); omega; omega) | ((with_reducible refine nI_nlt ?_ ?_); omega; omega) | with_reducible exact ne10 | with_reducible rfl)]))
        · by_cases hji : j = i
          · subst hji; exact wh
          · exact f2 j (by omega) hop
        · have c1 := cap 1 (Or.inl rfl) hw
          have c2 := cap (-1) (Or.inr rfl) hw
          rw [ap1_t b2] at c1 c2
          simp only [List.length_singleton] at c1 c2
          have e1 : L1'.length < 16 := by rw [g5 hw, List.length_append]; omega
          have e2 : L2'.length < 16 := by rw [k5 hw, List.length_append]; omega
          rw [d4 e1, x4 e2, ea, m2, g5 hw, k5 hw]
          show _ = prt A B 1 l i ++ _ ++ _ ∧ _ = prt A B (-1) l i ++ _ ++ _
          rw [ap1_t b2]
          exact ⟨rfl, rfl⟩
      · rw [← vi, ← vj] at wh
        right
        refine ⟨(0, N2), ?_, Or.inr ⟨rfl, fun hw => wh (hw i hi b2)⟩, k1⟩
        (repeat (first | rw [ck_t (by first | with_reducible assumption | ((with_reducible apply ixA_of); (with_reducible assumption); omega; omega) | ((with_reducible apply isAr_of); (with_reducible assumption); decide) | ((with_reducible apply nI_ne0); omega; omega) | with_reducible exact isB_0 | with_reducible exact isB_1 | with_reducible exact isB_bI _)] | rw [bd_r (by with_reducible assumption)] | rw [bd_s] | rw [bd2_s] | rw [bd3_s] | rw [nm_s] | rw [nI_clamp (by omega)] | rw [nI_1] | rw [bd2_e (m1)] | rw [if_pos (by first | with_reducible assumption | ((with_reducible refine nI_lt ?_ ?_); omega; omega) | ((with_reducible refine nI_nlt ?_ ?_); omega; omega) | with_reducible exact ne10 | with_reducible rfl)] | rw [if_neg (by first | with_reducible assumption | ((with_reducible refine nI_lt ?_ ?_); omega; omega) | ((with_reducible refine nI_nlt ?_ ?_); omega; omega) | with_reducible exact ne10 | with_reducible rfl)]))
        rfl
    · rw [if_pos rfl]
      left
      refine ⟨_, nx N2, rfl, k1, fun j hj hop => ?_, L1', L2', k2, k3, g4, k4, fun hw => ?_⟩
      · by_cases hji : j = i
        · subst hji; exact absurd hop b2
        · exact f2 j (by omega) hop
      · rw [g5 hw, k5 hw]
        show _ = prt A B 1 l i ++ _ ++ _ ∧ _ = prt A B (-1) l i ++ _ ++ _
        rw [ap1_f b2, List.append_nil, List.append_nil]
        exact ⟨rfl, rfl⟩
  · rintro ⟨z, N⟩ ⟨rfl, f1, f2, L1, L2, f3, f4, f5, f6, f7⟩
    have f1 : FD a a1 M N := f1
    have f3 : rgC N a1 L1 := f3
    have f4 : rgC N (a1 + 3) L2 := f4
    have e := (hl.fd f1 dq daq).1
    have hw : allW A B l := f2
    refine ⟨(1, N), ?_, Or.inl ⟨rfl, hw, by rw [← (f7 hw).1]; exact f3, by rw [← (f7 hw).2]; exact f4⟩, f1⟩
    show mX2_divide_B13 K R a q a1 (a1 + 3) (nI l.length) N = _
    unfold mX2_divide_B13
    (repeat (first | rw [ck_t (by first | with_reducible assumption | ((with_reducible apply ixA_of); (with_reducible assumption); omega; omega) | ((with_reducible apply isAr_of); (with_reducible assumption); decide) | ((with_reducible apply nI_ne0); omega; omega) | with_reducible exact isB_0 | with_reducible exact isB_1 | with_reducible exact isB_bI _)] | rw [bd_r (by with_reducible assumption)] | rw [bd_s] | rw [bd2_s] | rw [bd3_s] | rw [nm_s] | rw [nI_clamp (by omega)] | rw [nI_1] | rw [e] | rw [if_pos (by first | with_reducible assumption | ((with_reducible refine nI_lt ?_ ?_); omega; omega) | ((with_reducible refine nI_nlt ?_ ?_); omega; omega) | with_reducible exact ne10 | with_reducible rfl)] | rw [if_neg (by first | with_reducible assumption | ((with_reducible refine nI_lt ?_ ?_); omega; omega) | ((with_reducible refine nI_nlt ?_ ?_); omega; omega) | with_reducible exact ne10 | with_reducible rfl)]))
    rfl
theorem setPlace_ok {q r n : Nat} {P : Pc} {pl : List Pt} (hq : pcA K R q) (hr : rgA K R r n) (hd : r + 3 ≤ q ∨ q + 4 ≤ r) (h : rgC M r pl) (hl : pl.length ≤ 16) (hl2 : pl.length ≤ n) (hn : n < 2 ^ 20) (hB : inBs pl) (hk : ∃ k, isLs (pl.map (ivM P)) k) (h1 : P.2.1 = 1 ∨ P.2.1 = -1) (ha : -1000000 ≤ P.2.2.1 ∧ P.2.2.1 ≤ 1000000) (hb : -1000000 ≤ P.2.2.2.1 ∧ P.2.2.2.1 ≤ 1000000) (hP : pcC M q P) : ∃ M', mX3_setPlace K R M q r = some M' ∧ pcC M' q (norm (pl.map (ivM P)), P.2.1, P.2.2.1, P.2.2.2.1, false) ∧ Fr q (q + 4) M M' ∧ M'.2 = M.2 := by
  obtain ⟨a0, a1, a2⟩ := hq
  have a20 := a2.1
  have r0 := hr.1
  obtain ⟨k, hk⟩ := hk
  obtain ⟨g1, g2, g3, g4, g5⟩ := hP
  have tn : (-M.1 q 1).toInt = -P.2.1 := by rw [neg32 (by omega), g2]
  have t1 : -P.2.1 = 1 ∨ -P.2.1 = -1 := by omega
  have ex : (-M.1 q 1 * M.1 q 2).toInt = -P.2.1 * P.2.2.1 := pm1_mul tn t1 g3 (by omega) (by omega)
  have ey : (-M.1 q 1 * M.1 q 3).toInt = -P.2.1 * P.2.2.2.1 := pm1_mul tn t1 g4 (by omega) (by omega)
  have bx : -1000000 ≤ -P.2.1 * P.2.2.1 ∧ -P.2.1 * P.2.2.1 ≤ 1000000 := by rcases h1 with z | z <;> rw [z] <;> omega
  have by' : -1000000 ≤ -P.2.1 * P.2.2.2.1 ∧ -P.2.1 * P.2.2.2.1 ≤ 1000000 := by rcases h1 with z | z <;> rw [z] <;> omega
  obtain ⟨M4, d1, d2, d3, d4⟩ := takeMoved_ok (M := M) (t := M.1 q 1) (x := -M.1 q 1 * M.1 q 2) (y := -M.1 q 1 * M.1 q 3) a2 hr (by omega) hl hl2 (by decide) hn h hB g2 h1 ex ey bx by' hk
  refine ⟨pI M4 q 4 0, ?_, ⟨⟨by rw [pI_n (by omega)]; exact d2.1, fun i p hp => by rw [pI_n (by omega), pI_n (by omega)]; exact d2.2 i p hp⟩, ?_, ?_, ?_, pI_s⟩, (d3.mono (by omega) (by omega)).pI (by omega) (by omega), d4⟩
  · unfold mX3_setPlace
    (repeat (first | rw [ck_t (by first | with_reducible assumption | ((with_reducible apply ixA_of); (with_reducible assumption); omega; omega) | ((with_reducible apply isAr_of); (with_reducible assumption); decide) | ((with_reducible apply nI_ne0); omega; omega) | with_reducible exact isB_0 | with_reducible exact isB_1 | with_reducible exact isB_bI _)] | rw [bd_r (by with_reducible assumption)] | rw [bd_s] | rw [bd2_s] | rw [bd3_s] | rw [nm_s] | rw [nI_clamp (by omega)] | rw [nI_1] | rw [bd_e (d1)] | rw [if_pos (by first | with_reducible assumption | ((with_reducible refine nI_lt ?_ ?_); omega; omega) | ((with_reducible refine nI_nlt ?_ ?_); omega; omega) | with_reducible exact ne10 | with_reducible rfl)] | rw [if_neg (by first | with_reducible assumption | ((with_reducible refine nI_lt ?_ ?_); omega; omega) | ((with_reducible refine nI_nlt ?_ ?_); omega; omega) | with_reducible exact ne10 | with_reducible rfl)]))
  · rw [pI_k (by decide), (d3 q (by omega)).1]; exact g2
  · rw [pI_k (by decide), (d3 q (by omega)).1]; exact g3
  · rw [pI_k (by decide), (d3 q (by omega)).1]; exact g4
end DV
/-- the part of a piece on a side of a line -/
noncomputable def prP (A B : Pt) (s : Int) (P : Pc) : Pc := (norm ((prt A B s (plc P) (plc P).length).map (ivM P)), P.2.1, P.2.2.1, P.2.2.2.1, false)
def xsd (A B : Pt) (P : Pc) : Prop := 0 < cntS A B 1 (plc P) (plc P).length ∧ 0 < cntS A B (-1) (plc P) (plc P).length
def ofl (A B : Pt) (P : Pc) : Prop := 16 < cntS A B 1 (plc P) (plc P).length + 2 ∨ 16 < cntS A B (-1) (plc P) (plc P).length + 2
theorem prP_ok {A B : Pt} {P : Pc} {s : Int} (h : isPc P) (hAB : A ≠ B) (hs : sgn1 s) (hx : xsd A B P) (ho : ¬ ofl A B P) (hw : allW A B (plc P)) : Cv (prt A B s (plc P) (plc P).length) ∧ 3 ≤ (prt A B s (plc P) (plc P).length).length ∧ (prt A B s (plc P) (plc P).length).length ≤ 16 ∧ inBs (prt A B s (plc P) (plc P).length) ∧ isPc (prP A B s P) := by
  obtain ⟨-, q2, -, -, q5⟩ := plc_ok h
  have p3 := plc3 h
  obtain ⟨n1, n2⟩ := prt_n (s := s) q2 p3 hs hAB hw hx.1 hx.2
  have hC := prt_Cv q2 p3 hs hw
  have hin := prt_in (s := s) q2 p3 hw
  have h16 : (prt A B s (plc P) (plc P).length).length ≤ 16 := by
    unfold ofl at ho
    rcases hs with rfl | rfl <;> omega
  exact ⟨hC, by omega, h16, inBs_of (fun x hx => inP_B q2 p3 (inBs_of q5) (hin x hx)), pc_part h hC (by omega) h16 hin⟩
theorem prP_ls {A B : Pt} {P : Pc} {s : Int} (h : isPc P) (hAB : A ≠ B) (hs : sgn1 s) (hx : xsd A B P) (ho : ¬ ofl A B P) (hw : allW A B (plc P)) : ∃ k, isLs ((prt A B s (plc P) (plc P).length).map (ivM P)) k := by
  obtain ⟨hC, h3, -⟩ := prP_ok h hAB hs hx ho hw
  have hC2 : Cv ((prt A B s (plc P) (plc P).length).map (ivM P)) := hC.map h.2.1
  have h32 : 3 ≤ ((prt A B s (plc P) (plc P).length).map (ivM P)).length := by rw [List.length_map]; exact h3
  exact isLs_ex (fun q => by rw [q] at h32; simp at h32) (hC2.ds h32)
def FC (o cd : Nat) (M M' : Mm) : Prop := (∀ b, b ≠ o + 1972 → (b < cd ∨ cd + 162 ≤ b) → (b < o + 1981 ∨ o + 1997 ≤ b) → M'.1 b = M.1 b) ∧ M'.2 = M.2 ∧ ∀ A B, lnC M (o + 1972) A B → lnC M' (o + 1972) A B
theorem FC.rf {o cd : Nat} {M : Mm} : FC o cd M M := ⟨fun _ _ _ _ => rfl, rfl, fun _ _ h => h⟩
theorem FC.tr {o cd : Nat} {M N N' : Mm} (h : FC o cd M N) (g : FC o cd N N') : FC o cd M N' := ⟨fun b h1 h2 h3 => (g.1 b h1 h2 h3).trans (h.1 b h1 h2 h3), g.2.1.trans h.2.1, fun A B hl => g.2.2 A B (h.2.2 A B hl)⟩
theorem FC.fr {o cd lo hi : Nat} {N N' : Mm} (f : Fr lo hi N N') (e2 : N'.2 = N.2) (h : (o + 1981 ≤ lo ∧ hi ≤ o + 1997) ∨ (cd ≤ lo ∧ hi ≤ cd + 162 ∧ cd + 162 ≤ o + 1318)) : FC o cd N N' := ⟨fun b _ h2 h3 => (f b (by omega)).1, e2, fun _ _ hl => hl.eq (fun k _ _ => congrFun (f (o + 1972) (by omega)).1 k)⟩
theorem lnC_un {M : Mm} {a : Nat} {A B A' B' : Pt} (h : lnC M a A B) (g : lnC M a A' B') : A' = A ∧ B' = B := by
  obtain ⟨h1, h2, h3, h4⟩ := h
  obtain ⟨g1, g2, g3, g4⟩ := g
  exact ⟨Prod.ext (by omega) (by omega), Prod.ext (by omega) (by omega)⟩
theorem FC.ln {o cd : Nat} {N N' : Mm} {A B : Pt} (f : Fr (o + 1972) (o + 1973) N N') (e2 : N'.2 = N.2) (h : lnC N (o + 1972) A B) (h' : lnC N' (o + 1972) A B) : FC o cd N N' := ⟨fun b h1 _ _ => (f b (by omega)).1, e2, fun A' B' g => by
  obtain ⟨rfl, rfl⟩ := lnC_un h g
  exact h'⟩
section CO
variable {K : Kk} {R : Rr} {M : Mm} {A B : Pt}
theorem cutOneC_ok {o cd p : Nat} {ps : List Pc} {P : Pc} (hs : skC K R o) (hA : psA K R cd) (hc1 : o + 22 ≤ cd) (hc2 : cd + 162 ≤ o + 1318) (h : psC M cd ps) (hP : ps[p]? = some P) (iP : isPc P) (hn : ps.length < 40) (hl : lnC M (o + 1972) A B) (hB : lnB A B) (hAB : A ≠ B) (hx : xsd A B P) (hof : ¬ ofl A B P) : ∃ v M', mX7_cutOne K R M o cd (nI p) = some (v, M') ∧ FC o cd M M' ∧ ((v = 1 ∧ allW A B (plc P) ∧ psC M' cd (ps.set p (prP A B 1 P) ++ [prP A B (-1) P])) ∨ (v = 0 ∧ ¬ allW A B (plc P))) := by
  obtain ⟨s0, -, -, -, -, -, -, s6, -, s8, s9, -, s11, s12, -, -, -, -, -, -, -, -, -, s22, -, pm, r1, -, rl, rr, -⟩ := hs
  have hp := get_lt hP
  have hA0 := hA
  obtain ⟨a0, a1, a2, a3⟩ := hA
  obtain ⟨k1, k2⟩ := a3 p (by omega)
  have k20 := k2.1
  have pm0 := pm.1
  have rl0 := rl.1
  have rr0 := rr.1
  have hmv := iP.mv
  obtain ⟨q1, q2, q3, q4, q5⟩ := plc_ok iP
  have p3 := plc3 iP
  have s16 := iP.1.2.1
  obtain ⟨M7, b1, b2, b3, b4⟩ := placeInto_ok (M := M) r1 k2 (by omega) iP (by decide) (by decide) (h.2 p P hP)
  have l7 : lnC M7 (o + 1972) A B := hl.eq (fun k _ _ => congrFun (b3 (o + 1972) (by omega)).1 k)
  obtain ⟨v, M13, d1, d2, d3⟩ := divide_ok (R := R) (a1 := o + 1991) s22 l7 hB r1 b2 (by omega) (by decide) (inBs_of q5) rl rr (by omega) (by omega) (by omega) (fun hw s hs => (prP_ok iP hAB hs hx hof hw).2.2.1)
  have f13 : FC o cd M M13 := (FC.fr b3 b4 (by omega)).tr ⟨fun b h1 h2 h3 => d3.1 b h1 (by omega), d3.2.1, fun _ _ hl => hl.eq (fun k k1 _ => d3.2.2 k k1)⟩
  rcases d2 with ⟨rfl, hw, c1, c2⟩ | ⟨rfl, hw⟩
  · obtain ⟨w1, w2, w3, w4, w5⟩ := prP_ok (s := 1) iP hAB (Or.inl rfl) hx hof hw
    obtain ⟨x1, x2, x3, x4, x5⟩ := prP_ok (s := -1) iP hAB (Or.inr rfl) hx hof hw
    have g13 : Fr (o + 1972) (o + 1997) M7 M13 := fun b hb => ⟨d3.1 b (by omega) (by omega), by rw [d3.2.1]⟩
    have h13 : psC M13 cd ps := (h.fr b3 (by omega) (by omega)).fr g13 (by omega) (by omega)
    obtain ⟨M17, e1, e2, e3, e4⟩ := ptake_ok (M := M13) pm k2 (by omega) s16 (h13.2 p P hP)
    obtain ⟨M19, y1, y2, y3, y4⟩ := setPlace_ok (M := M17) pm rr (by omega) (c2.fr e3 (by omega)) x3 x3 (by decide) x4 (prP_ls iP hAB (Or.inr rfl) hx hof hw) iP.2.1 (by omega) (by omega) e2
    obtain ⟨M20, t1, t2, t3, t4⟩ := setPlace_ok (M := M19) k2 rl (by omega) ((c1.fr e3 (by omega)).fr y3 (by omega)) w3 w3 (by decide) w4 (prP_ls iP hAB (Or.inl rfl) hx hof hw) iP.2.1 (by omega) (by omega) (((h13.2 p P hP).fr e3 (by omega)).fr y3 (by omega))
    have h20 : psC M20 cd (ps.set p (prP A B 1 P)) := psC_set ((h13.fr e3 (by omega) (by omega)).fr y3 (by omega) (by omega)) hp t3 t2
    obtain ⟨M21, z1, z2, z3, z4⟩ := padd_ok (M := M20) (P := prP A B (-1) P) hA0 pm (by omega) h20 (by rw [List.length_set]; exact hn) (y2.fr t3 (by omega)) x5.1.2.1
    refine ⟨1, M21, ?_, (((f13.tr (FC.fr e3 e4 (by omega))).tr (FC.fr y3 y4 (by omega))).tr (FC.fr t3 t4 (by omega))).tr (FC.fr z3 z4 (by omega)), Or.inl ⟨rfl, hw, z2⟩⟩
    have cd0 := a0
    unfold mX7_cutOne
    (repeat (first | rw [ck_t (by first | with_reducible assumption | ((with_reducible apply ixA_of); (with_reducible assumption); omega; omega) | ((with_reducible apply isAr_of); (with_reducible assumption); decide) | ((with_reducible apply nI_ne0); omega; omega) | with_reducible exact isB_0 | with_reducible exact isB_1 | with_reducible exact isB_bI _)] | rw [bd_r (by with_reducible assumption)] | rw [bd_s] | rw [bd2_s] | rw [bd3_s] | rw [nm_s] | rw [nI_clamp (by omega)] | rw [nI_1] | rw [bd_e (b1)] | rw [bd2_e (d1)] | rw [if_neg (ne10)] | rw [bd_e (e1)] | rw [bd_e (y1)] | rw [bd_e (t1)] | rw [bd_e (z1)] | rw [if_pos (by first | with_reducible assumption | ((with_reducible refine nI_lt ?_ ?_); omega; omega) | ((with_reducible refine nI_nlt ?_ ?_); omega; omega) | with_reducible exact ne10 | with_reducible rfl)] | rw [if_neg (by first | with_reducible assumption | ((with_reducible refine nI_lt ?_ ?_); omega; omega) | ((with_reducible refine nI_nlt ?_ ?_); omega; omega) | with_reducible exact ne10 | with_reducible rfl)]))
  · refine ⟨0, M13, ?_, f13, Or.inr ⟨rfl, hw⟩⟩
    unfold mX7_cutOne
    (repeat (first | rw [ck_t (by first | with_reducible assumption | ((with_reducible apply ixA_of); (with_reducible assumption); omega; omega) | ((with_reducible apply isAr_of); (with_reducible assumption); decide) | ((with_reducible apply nI_ne0); omega; omega) | with_reducible exact isB_0 | with_reducible exact isB_1 | with_reducible exact isB_bI _)] | rw [bd_r (by with_reducible assumption)] | rw [bd_s] | rw [bd2_s] | rw [bd3_s] | rw [nm_s] | rw [nI_clamp (by omega)] | rw [nI_1] | rw [bd_e (b1)] | rw [bd2_e (d1)] | rw [if_pos (by first | with_reducible assumption | ((with_reducible refine nI_lt ?_ ?_); omega; omega) | ((with_reducible refine nI_nlt ?_ ?_); omega; omega) | with_reducible exact ne10 | with_reducible rfl)] | rw [if_neg (by first | with_reducible assumption | ((with_reducible refine nI_lt ?_ ?_); omega; omega) | ((with_reducible refine nI_nlt ?_ ?_); omega; omega) | with_reducible exact ne10 | with_reducible rfl)]))
end CO
