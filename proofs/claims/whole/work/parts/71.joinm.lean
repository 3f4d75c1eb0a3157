/-! the reference joins -/
theorem cs_un {X Y : List Pt} {i j i' j' : Nat} (hX : Cv X) (X3 : 3 ≤ X.length) (hY : Cv Y) (Y3 : 3 ≤ Y.length) (h : cs X Y i j) (g : cs X Y i' j') : i' = i ∧ j' = j := by
  obtain ⟨h1, h2, h3, h4⟩ := h
  obtain ⟨g1, g2, g3, g4⟩ := g
  have mi := mod_lt' h1
  have mj := mod_lt' h2
  have mi' := mod_lt' g1
  have mj' := mod_lt' g2
  have sX : sd X (gp X i) (gp X ((i + 1) % X.length)) := ⟨i, gp_get h1, gp_get mi⟩
  have sY : sd Y (gp X ((i + 1) % X.length)) (gp X i) := ⟨j, by rw [h4]; exact gp_get h2, by rw [h3]; exact gp_get mj⟩
  have on : ∀ w, w ∈ X → w ∈ Y → w = gp X i ∨ w = gp X ((i + 1) % X.length) := fun w hx hy => by
    rcases hX.le sX hx with z | z | z
    · exact Or.inl z
    · exact Or.inr z
    · have := hY.le0 sY hy
      have e : crs (gp X ((i + 1) % X.length)) (gp X i) w = -crs (gp X i) (gp X ((i + 1) % X.length)) w := by unfold crs; grind
      omega
  have a1 := on (gp X i') (get_mem (gp_get g1)) (by rw [g3]; exact get_mem (gp_get mj'))
  have a2 := on (gp X ((i' + 1) % X.length)) (get_mem (gp_get mi')) (by rw [g4]; exact get_mem (gp_get g2))
  have dX := hX.ds X3
  have dY := hY.ds Y3
  have ij : ∀ {x y : Nat}, x < X.length → y < X.length → gp X x = gp X y → x = y := fun hx hy e => dX _ _ _ (gp_get hx) (by rw [e]; exact gp_get hy)
  have nxt : ∀ {x : Nat}, x < X.length → (x + 1) % X.length = x + 1 ∨ ((x + 1) % X.length = 0 ∧ x + 1 = X.length) := fun {x} hx => by
    by_cases z : x + 1 < X.length
    · exact Or.inl (Nat.mod_eq_of_lt z)
    · exact Or.inr ⟨by rw [show x + 1 = X.length by omega, Nat.mod_self], by omega⟩
  have ei : i' = i := by
    rcases a1 with z | z
    · exact ij g1 h1 z
    · exfalso
      have e1 := ij g1 mi z
      rcases a2 with w | w
      · have e2 := ij mi' h1 w
        rcases nxt h1 with q | ⟨q, q'⟩ <;> rcases nxt g1 with t | ⟨t, t'⟩ <;> omega
      · have e2 := ij mi' mi w
        rcases nxt h1 with q | ⟨q, q'⟩ <;> rcases nxt g1 with t | ⟨t, t'⟩ <;> omega
  subst ei
  refine ⟨rfl, dY _ _ _ (gp_get g2) ?_⟩
  rw [← g4, h4]; exact gp_get h2
theorem mod3 (k a b n : Nat) : (k + (a + b) % n) % n = ((k + a) % n + b) % n := by rw [Nat.add_mod_mod, Nat.mod_add_mod, Nat.add_assoc]
section MP
variable {X Y : List Pt} {t a b : Int} {k k' : Nat}
theorem gp_rm (hk : k < X.length) {y : Nat} (hy : y < X.length) : gp (rotL k (X.map (mvP t a b))) y = mvP t a b (gp X ((k + y) % X.length)) := by
  rw [gp_rot (by rw [List.length_map]; exact hk) (by rw [List.length_map]; exact hy), List.length_map, gp_map (Nat.mod_lt _ (by omega))]
theorem mv_inj (ht : t = 1 ∨ t = -1) {x y : Pt} (h : mvP t a b x = mvP t a b y) : x = y := by
  have h1 := congrArg Prod.fst h
  have h2 := congrArg Prod.snd h
  unfold mvP at h1 h2
  rcases ht with e | e <;> rw [e] at h1 h2 <;> exact Prod.ext (by simp only at h1; omega) (by simp only at h2; omega)
theorem cs_map (ht : t = 1 ∨ t = -1) (hk : k < X.length) (hk' : k' < Y.length) {i j : Nat} (hi : i < X.length) (hj : j < Y.length) : cs (rotL k (X.map (mvP t a b))) (rotL k' (Y.map (mvP t a b))) i j ↔ cs X Y ((k + i) % X.length) ((k' + j) % Y.length) := by
  have lA : (rotL k (X.map (mvP t a b))).length = X.length := by rw [rotL_len, List.length_map]
  have lB : (rotL k' (Y.map (mvP t a b))).length = Y.length := by rw [rotL_len, List.length_map]
  unfold cs
  rw [lA, lB, gp_rm hk hi, gp_rm hk' (mod_lt' hj), gp_rm hk (mod_lt' hi), gp_rm hk' hj, mod3, mod3]
  constructor
  · rintro ⟨-, -, g3, g4⟩
    exact ⟨Nat.mod_lt _ (by omega), Nat.mod_lt _ (by omega), mv_inj ht g3, mv_inj ht g4⟩
  · rintro ⟨-, -, g3, g4⟩
    exact ⟨hi, hj, by rw [g3], by rw [g4]⟩
theorem cyc_map (hk : k < X.length) {f g n : Nat} (h : (k + f) % X.length = g % X.length) : cyc (rotL k (X.map (mvP t a b))) f n = (cyc X g n).map (mvP t a b) := by
  unfold cyc
  rw [List.map_map]
  refine List.map_congr_left (fun s _ => ?_)
  rw [rotL_len, List.length_map, gp_rm hk (Nat.mod_lt _ (by omega))]
  show _ = mvP t a b (gp X ((g + s) % X.length))
  rw [mod3, h, Nat.mod_add_mod]
theorem jW_map (hk : k < X.length) (hk' : k' < Y.length) (Y2 : 2 ≤ Y.length) {i j : Nat} : jW (rotL k (X.map (mvP t a b))) (rotL k' (Y.map (mvP t a b))) i j = (jW X Y ((k + i) % X.length) ((k' + j) % Y.length)).map (mvP t a b) := by
  have lA : (rotL k (X.map (mvP t a b))).length = X.length := by rw [rotL_len, List.length_map]
  have lB : (rotL k' (Y.map (mvP t a b))).length = Y.length := by rw [rotL_len, List.length_map]
  rw [jW_cyc (by omega) (by omega), jW_cyc (by omega) Y2, List.map_append, lA, lB, cyc_map hk (g := (k + i) % X.length + 1) (by rw [Nat.mod_add_mod, Nat.add_assoc]), cyc_map hk' (g := (k' + j) % Y.length + 2) (by rw [Nat.mod_add_mod, Nat.add_assoc])]
theorem bd1_map {W : List Pt} (ht : t = 1 ∨ t = -1) {x : Nat} (hx : x < W.length) : bd1 (W.map (mvP t a b)) x = bd1 W x := by
  unfold bd1
  rw [List.length_map, gp_map (Nat.mod_lt _ (by omega)), gp_map hx, gp_map (Nat.mod_lt _ (by omega)), crs_mv ht]
theorem outW_map {W : List Pt} (ht : t = 1 ∨ t = -1) : outW (W.map (mvP t a b)) ↔ outW W := by
  unfold outW
  rw [List.length_map]
  constructor
  · intro h x hx; have := h x hx; rw [bd1_map ht hx] at this; exact this
  · intro h x hx; rw [bd1_map ht hx]; exact h x hx
theorem ubL_map {W : List Pt} (ht : t = 1 ∨ t = -1) : ∀ n, n ≤ W.length → ubL (W.map (mvP t a b)) n = (ubL W n).map (mvP t a b)
  | 0, _ => rfl
  | n + 1, h => by
    show ubL (W.map (mvP t a b)) n ++ _ = (ubL W n ++ _).map _
    rw [ubL_map ht n (by omega), bd1_map ht (by omega), gp_map (by omega), List.map_append]
    congr 1
    by_cases z : 0 < bd1 W n
    · rw [ap1_t z, ap1_t z]; rfl
    · rw [ap1_f z, ap1_f z]; rfl
end MP
section JM
variable {K : Kk} {R : Rr} {M : Mm} {m : Nat}
theorem commonSide_ok {A B : List Pt} (hm : moA K R m) (hA : rM M m 15 11 12 A) (hB : rM M m 18 13 14 B) (A20 : A.length ≤ 20) (B20 : B.length ≤ 20) : (∃ i j, cs A B i j ∧ mX8_commonSide K R M m = some (nI i)) ∨ ((∀ i j, ¬ cs A B i j) ∧ mX8_commonSide K R M m = some (-1)) := by
  have h0 := hm.1
  have r13 := mo_r13 hm
  have r14 := mo_r14 hm
  have r16 := mo_r16 hm
  have r17 := mo_r17 hm
  have a13 := mo_a13 hm
  have a14 := mo_a14 hm
  have a16 := mo_a16 hm
  have a17 := mo_a17 hm
  have eA := hA.1
  have eB := hB.1
  have eqx : ∀ {x y : Nat}, x < A.length → y < B.length → (gp A x = gp B y ↔ (M.2 (m + 11) x = M.2 (m + 13) y ∧ M.2 (m + 12) x = M.2 (m + 14) y)) := fun hx hy => by
    obtain ⟨u1, u2⟩ := hA.2 _ _ (gp_get hx)
    obtain ⟨w1, w2⟩ := hB.2 _ _ (gp_get hy)
    rw [eq64, eq64, u1, u2, w1, w2]
    constructor
    · intro q; rw [q]; exact ⟨rfl, rfl⟩
    · rintro ⟨q1, q2⟩; exact Prod.ext q1 q2
  have inner : ∀ i, i < A.length → (∃ j, cs A B i j ∧ lp (mX8_commonSide_L21 K R M m (nI i) (nI ((i + 1) % A.length))) 0 = some (.inr (nI i))) ∨ ((∀ j, ¬ cs A B i j) ∧ lp (mX8_commonSide_L21 K R M m (nI i) (nI ((i + 1) % A.length))) 0 = some (.inl (nI (i + 1)))) := fun i hi => by
    have hi1 := mod_lt' hi
    have hL := lp_ind (f := mX8_commonSide_L21 K R M m (nI i) (nI ((i + 1) % A.length))) (fun (j : Nat) (s : Int32) => s = nI j ∧ ∀ t, t < j → ¬ cs A B i t) (fun x => (∃ j, cs A B i j ∧ x = .inr (nI i)) ∨ ((∀ j, ¬ cs A B i j) ∧ x = .inl (nI (i + 1)))) B.length ?_ ?_
    · obtain ⟨x, e1, e2⟩ := hL B.length 0 0 (by omega) ⟨rfl, fun t ht => absurd ht (by omega)⟩
      rcases e2 with ⟨j, c1, rfl⟩ | ⟨c1, rfl⟩
      · exact Or.inl ⟨j, c1, e1⟩
      · exact Or.inr ⟨c1, e1⟩
    · rintro j s hj ⟨rfl, f⟩
      have hj1 := mod_lt' hj
      have k1 := eqx hi hj1
      have k2 := eqx hi1 hj
      have go : mX8_commonSide_J107 K R M m (nI i) (nI ((i + 1) % A.length)) (nI j) = some (.inl (nI (j + 1))) := by unfold mX8_commonSide_J107; (repeat (first | rw [ck_t (by first | with_reducible assumption | ((with_reducible apply ixA_of); (with_reducible assumption); omega; omega) | ((with_reducible apply isAr_of); (with_reducible assumption); decide) | ((with_reducible apply nI_ne0); omega; omega) | with_reducible exact isB_0 | with_reducible exact isB_1 | with_reducible exact isB_bI _)] | rw [bd_r (by with_reducible assumption)] | rw [bd_s] | rw [bd2_s] | rw [bd3_s] | rw [nm_s] | rw [nI_clamp (by omega)] | rw [nI_1] | rw [if_pos (by first | with_reducible assumption | ((with_reducible refine nI_lt ?_ ?_); omega; omega) | ((with_reducible refine nI_nlt ?_ ?_); omega; omega) | with_reducible exact ne10 | with_reducible rfl)] | rw [if_neg (by first | with_reducible assumption | ((with_reducible refine nI_lt ?_ ?_); omega; omega) | ((with_reducible refine nI_nlt ?_ ?_); omega; omega) | with_reducible exact ne10 | with_reducible rfl)]))
      have nx : ¬ cs A B i j → ∀ t, t < j + 1 → ¬ cs A B i t := fun h t ht => by
        by_cases z : t = j
        · subst z; exact h
        · exact f t (by omega)
      have rem := pk_rem (a := j + 1) (d := B.length) (by omega) (by omega) (by omega)
      show (∃ s', mX8_commonSide_B21 K R M m (nI i) (nI ((i + 1) % A.length)) (nI j) = some (.inl s') ∧ _) ∨ ∃ x, mX8_commonSide_B21 K R M m (nI i) (nI ((i + 1) % A.length)) (nI j) = some (.inr x) ∧ _
      unfold mX8_commonSide_B21
      by_cases c1 : M.2 (m + 11) i = M.2 (m + 13) ((j + 1) % B.length)
      · by_cases c2 : M.2 (m + 12) i = M.2 (m + 14) ((j + 1) % B.length)
        · by_cases c3 : M.2 (m + 11) ((i + 1) % A.length) = M.2 (m + 13) j
          · by_cases c4 : M.2 (m + 12) ((i + 1) % A.length) = M.2 (m + 14) j
            · right
              refine ⟨.inr (nI i), ?_, Or.inl ⟨j, ⟨hi, hj, k1.mpr ⟨c1, c2⟩, k2.mpr ⟨c3, c4⟩⟩, rfl⟩⟩
              (repeat (first | rw [ck_t (by first | with_reducible assumption | ((with_reducible apply ixA_of); (with_reducible assumption); omega; omega) | ((with_reducible apply isAr_of); (with_reducible assumption); decide) | ((with_reducible apply nI_ne0); omega; omega) | with_reducible exact isB_0 | with_reducible exact isB_1 | with_reducible exact isB_bI _)] | rw [bd_r (by with_reducible assumption)] | rw [bd_s] | rw [bd2_s] | rw [bd3_s] | rw [nm_s] | rw [nI_clamp (by omega)] | rw [nI_1] | rw [eB] | rw [rem] | rw [if_pos (by first | with_reducible assumption | ((with_reducible refine nI_lt ?_ ?_); omega; omega) | ((with_reducible refine nI_nlt ?_ ?_); omega; omega) | with_reducible exact ne10 | with_reducible rfl)] | rw [if_neg (by first | with_reducible assumption | ((with_reducible refine nI_lt ?_ ?_); omega; omega) | ((with_reducible refine nI_nlt ?_ ?_); omega; omega) | with_reducible exact ne10 | with_reducible rfl)]))
              rfl
            · left
              refine ⟨nI (j + 1), ?_, rfl, nx (fun q => c4 (k2.mp q.2.2.2).2)⟩
              (repeat (first | rw [ck_t (by first | with_reducible assumption | ((with_reducible apply ixA_of); (with_reducible assumption); omega; omega) | ((with_reducible apply isAr_of); (with_reducible assumption); decide) | ((with_reducible apply nI_ne0); omega; omega) | with_reducible exact isB_0 | with_reducible exact isB_1 | with_reducible exact isB_bI _)] | rw [bd_r (by with_reducible assumption)] | rw [bd_s] | rw [bd2_s] | rw [bd3_s] | rw [nm_s] | rw [nI_clamp (by omega)] | rw [nI_1] | rw [eB] | rw [rem] | rw [go] | rw [if_pos (by first | with_reducible assumption | ((with_reducible refine nI_lt ?_ ?_); omega; omega) | ((with_reducible refine nI_nlt ?_ ?_); omega; omega) | with_reducible exact ne10 | with_reducible rfl)] | rw [if_neg (by first | with_reducible assumption | ((with_reducible refine nI_lt ?_ ?_); omega; omega) | ((with_reducible refine nI_nlt ?_ ?_); omega; omega) | with_reducible exact ne10 | with_reducible rfl)]))
          · left
            refine ⟨nI (j + 1), ?_, rfl, nx (fun q => c3 (k2.mp q.2.2.2).1)⟩
            (repeat (first | rw [ck_t (by first | with_reducible assumption | ((with_reducible apply ixA_of); (with_reducible assumption); omega; omega) | ((with_reducible apply isAr_of); (with_reducible assumption); decide) | ((with_reducible apply nI_ne0); omega; omega) | with_reducible exact isB_0 | with_reducible exact isB_1 | with_reducible exact isB_bI _)] | rw [bd_r (by with_reducible assumption)] | rw [bd_s] | rw [bd2_s] | rw [bd3_s] | rw [nm_s] | rw [nI_clamp (by omega)] | rw [nI_1] | rw [eB] | rw [rem] | rw [go] | rw [if_pos (by first | with_reducible assumption | ((with_reducible refine nI_lt ?_ ?_); omega; omega) | ((with_reducible refine nI_nlt ?_ ?_); omega; omega) | with_reducible exact ne10 | with_reducible rfl)] | rw [if_neg (by first | with_reducible assumption | ((with_reducible refine nI_lt ?_ ?_); omega; omega) | ((with_reducible refine nI_nlt ?_ ?_); omega; omega) | with_reducible exact ne10 | with_reducible rfl)]))
        · left
          refine ⟨nI (j + 1), ?_, rfl, nx (fun q => c2 (k1.mp q.2.2.1).2)⟩
          (repeat (first | rw [ck_t (by first | with_reducible assumption | ((with_reducible apply ixA_of); (with_reducible assumption); omega; omega) | ((with_reducible apply isAr_of); (with_reducible assumption); decide) | ((with_reducible apply nI_ne0); omega; omega) | with_reducible exact isB_0 | with_reducible exact isB_1 | with_reducible exact isB_bI _)] | rw [bd_r (by with_reducible assumption)] | rw [bd_s] | rw [bd2_s] | rw [bd3_s] | rw [nm_s] | rw [nI_clamp (by omega)] | rw [nI_1] | rw [eB] | rw [rem] | rw [go] | rw [if_pos (by first | with_reducible assumption | ((with_reducible refine nI_lt ?_ ?_); omega; omega) | ((with_reducible refine nI_nlt ?_ ?_); omega; omega) | with_reducible exact ne10 | with_reducible rfl)] | rw [if_neg (by first | with_reducible assumption | ((with_reducible refine nI_lt ?_ ?_); omega; omega) | ((with_reducible refine nI_nlt ?_ ?_); omega; omega) | with_reducible exact ne10 | with_reducible rfl)]))
      · left
        refine ⟨nI (j + 1), ?_, rfl, nx (fun q => c1 (k1.mp q.2.2.1).1)⟩
        (repeat (first | rw [ck_t (by first | with_reducible assumption | ((with_reducible apply ixA_of); (with_reducible assumption); omega; omega) | ((with_reducible apply isAr_of); (with_reducible assumption); decide) | ((with_reducible apply nI_ne0); omega; omega) | with_reducible exact isB_0 | with_reducible exact isB_1 | with_reducible exact isB_bI _)] | rw [bd_r (by with_reducible assumption)] | rw [bd_s] | rw [bd2_s] | rw [bd3_s] | rw [nm_s] | rw [nI_clamp (by omega)] | rw [nI_1] | rw [eB] | rw [rem] | rw [go] | rw [if_pos (by first | with_reducible assumption | ((with_reducible refine nI_lt ?_ ?_); omega; omega) | ((with_reducible refine nI_nlt ?_ ?_); omega; omega) | with_reducible exact ne10 | with_reducible rfl)] | rw [if_neg (by first | with_reducible assumption | ((with_reducible refine nI_lt ?_ ?_); omega; omega) | ((with_reducible refine nI_nlt ?_ ?_); omega; omega) | with_reducible exact ne10 | with_reducible rfl)]))
    · rintro s ⟨rfl, f⟩
      refine ⟨.inl (nI (i + 1)), ?_, Or.inr ⟨fun j hj => f j hj.2.1 hj, rfl⟩⟩
      show mX8_commonSide_B21 K R M m (nI i) (nI ((i + 1) % A.length)) (nI B.length) = _
      unfold mX8_commonSide_B21
      (repeat (first | rw [ck_t (by first | with_reducible assumption | ((with_reducible apply ixA_of); (with_reducible assumption); omega; omega) | ((with_reducible apply isAr_of); (with_reducible assumption); decide) | ((with_reducible apply nI_ne0); omega; omega) | with_reducible exact isB_0 | with_reducible exact isB_1 | with_reducible exact isB_bI _)] | rw [bd_r (by with_reducible assumption)] | rw [bd_s] | rw [bd2_s] | rw [bd3_s] | rw [nm_s] | rw [nI_clamp (by omega)] | rw [nI_1] | rw [eB] | rw [if_pos (by first | with_reducible assumption | ((with_reducible refine nI_lt ?_ ?_); omega; omega) | ((with_reducible refine nI_nlt ?_ ?_); omega; omega) | with_reducible exact ne10 | with_reducible rfl)] | rw [if_neg (by first | with_reducible assumption | ((with_reducible refine nI_lt ?_ ?_); omega; omega) | ((with_reducible refine nI_nlt ?_ ?_); omega; omega) | with_reducible exact ne10 | with_reducible rfl)]))
      rfl
  have hL := lp_ind (f := mX8_commonSide_L2 K R M m) (fun (i : Nat) (s : Int32) => s = nI i ∧ ∀ t j, t < i → ¬ cs A B t j) (fun x => (∃ i j, cs A B i j ∧ x = nI i) ∨ ((∀ i j, ¬ cs A B i j) ∧ x = -1)) A.length ?_ ?_
  · obtain ⟨x, e1, e2⟩ := hL A.length 0 0 (by omega) ⟨rfl, fun t j ht => absurd ht (by omega)⟩
    have e3 : mX8_commonSide K R M m = some x := by
      unfold mX8_commonSide
      (repeat (first | rw [ck_t (by first | with_reducible assumption | ((with_reducible apply ixA_of); (with_reducible assumption); omega; omega) | ((with_reducible apply isAr_of); (with_reducible assumption); decide) | ((with_reducible apply nI_ne0); omega; omega) | with_reducible exact isB_0 | with_reducible exact isB_1 | with_reducible exact isB_bI _)] | rw [bd_r (by with_reducible assumption)] | rw [bd_s] | rw [bd2_s] | rw [bd3_s] | rw [nm_s] | rw [nI_clamp (by omega)] | rw [nI_1] | rw [if_pos (by first | with_reducible assumption | ((with_reducible refine nI_lt ?_ ?_); omega; omega) | ((with_reducible refine nI_nlt ?_ ?_); omega; omega) | with_reducible exact ne10 | with_reducible rfl)] | rw [if_neg (by first | with_reducible assumption | ((with_reducible refine nI_lt ?_ ?_); omega; omega) | ((with_reducible refine nI_nlt ?_ ?_); omega; omega) | with_reducible exact ne10 | with_reducible rfl)]))
      exact e1
    rcases e2 with ⟨i, j, c1, rfl⟩ | ⟨c1, rfl⟩
    · exact Or.inl ⟨i, j, c1, e3⟩
    · exact Or.inr ⟨c1, e3⟩
  · rintro i s hi ⟨rfl, f⟩
    have rem := pk_rem (a := i + 1) (d := A.length) (by omega) (by omega) (by omega)
    show (∃ s', mX8_commonSide_B2 K R M m (nI i) = some (.inl s') ∧ _) ∨ ∃ x, mX8_commonSide_B2 K R M m (nI i) = some (.inr x) ∧ _
    unfold mX8_commonSide_B2
    (repeat (first | rw [ck_t (by first | with_reducible assumption | ((with_reducible apply ixA_of); (with_reducible assumption); omega; omega) | ((with_reducible apply isAr_of); (with_reducible assumption); decide) | ((with_reducible apply nI_ne0); omega; omega) | with_reducible exact isB_0 | with_reducible exact isB_1 | with_reducible exact isB_bI _)] | rw [bd_r (by with_reducible assumption)] | rw [bd_s] | rw [bd2_s] | rw [bd3_s] | rw [nm_s] | rw [nI_clamp (by omega)] | rw [nI_1] | rw [eA] | rw [rem] | rw [if_pos (by first | with_reducible assumption | ((with_reducible refine nI_lt ?_ ?_); omega; omega) | ((with_reducible refine nI_nlt ?_ ?_); omega; omega) | with_reducible exact ne10 | with_reducible rfl)] | rw [if_neg (by first | with_reducible assumption | ((with_reducible refine nI_lt ?_ ?_); omega; omega) | ((with_reducible refine nI_nlt ?_ ?_); omega; omega) | with_reducible exact ne10 | with_reducible rfl)]))
    rcases inner i hi with ⟨j, c1, c2⟩ | ⟨c1, c2⟩
    · right
      exact ⟨nI i, c2, Or.inl ⟨i, j, c1, rfl⟩⟩
    · left
      refine ⟨nI (i + 1), c2, rfl, fun t j ht => ?_⟩
      by_cases z : t = i
      · subst z; exact c1 j
      · exact f t j (by omega)
  · rintro s ⟨rfl, f⟩
    refine ⟨-1, ?_, Or.inr ⟨fun i j h => f i j h.1 h, rfl⟩⟩
    show mX8_commonSide_B2 K R M m (nI A.length) = _
    unfold mX8_commonSide_B2
    (repeat (first | rw [ck_t (by first | with_reducible assumption | ((with_reducible apply ixA_of); (with_reducible assumption); omega; omega) | ((with_reducible apply isAr_of); (with_reducible assumption); decide) | ((with_reducible apply nI_ne0); omega; omega) | with_reducible exact isB_0 | with_reducible exact isB_1 | with_reducible exact isB_bI _)] | rw [bd_r (by with_reducible assumption)] | rw [bd_s] | rw [bd2_s] | rw [bd3_s] | rw [nm_s] | rw [nI_clamp (by omega)] | rw [nI_1] | rw [eA] | rw [if_pos (by first | with_reducible assumption | ((with_reducible refine nI_lt ?_ ?_); omega; omega) | ((with_reducible refine nI_nlt ?_ ?_); omega; omega) | with_reducible exact ne10 | with_reducible rfl)] | rw [if_neg (by first | with_reducible assumption | ((with_reducible refine nI_lt ?_ ?_); omega; omega) | ((with_reducible refine nI_nlt ?_ ?_); omega; omega) | with_reducible exact ne10 | with_reducible rfl)]))
    rfl
theorem pushU {U : List Pt} {x y : Int64} (h : rM M m 31 19 20 U) : rM (pI (pL (pL M (m + 19) U.length x) (m + 20) U.length y) m 31 (nI (U.length + 1))) m 31 19 20 (U ++ [(x.toInt, y.toInt)]) ∧ FM m [31] [19, 20] M (pI (pL (pL M (m + 19) U.length x) (m + 20) U.length y) m 31 (nI (U.length + 1))) := by
  refine ⟨⟨by rw [pI_s, List.length_append]; rfl, fun i p hp => ?_⟩, ((FM.rf.pL (by decide)).pL (by decide)).pI (by decide)⟩
  rw [pI_l]
  rcases get_app hp with ⟨hi, hp⟩ | ⟨hi, hq⟩
  · rw [pL_n (show m + 19 ≠ m + 20 by omega), pL_k (by omega), pL_k (by omega), pL_n (show m + 20 ≠ m + 19 by omega)]
    exact h.2 i p hp
  · subst hi hq
    rw [pL_n (show m + 19 ≠ m + 20 by omega), pL_s, pL_s]
    exact ⟨rfl, rfl⟩
theorem together_ok {A B : List Pt} {i j : Nat} (hm : moA K R m) (hA : rM M m 15 11 12 A) (hB : rM M m 18 13 14 B) (A20 : A.length ≤ 20) (B20 : B.length ≤ 20) (B3 : 3 ≤ B.length) (dB : Ds B) (h : cs A B i j) : ∃ M', mX8_together K R M m (nI i) = some M' ∧ rM M' m 31 19 20 (jW A B i j) ∧ FM m [31] [19, 20] M M' := by
  have h0 := hm.1
  have r13 := mo_r13 hm
  have r14 := mo_r14 hm
  have r16 := mo_r16 hm
  have r17 := mo_r17 hm
  have a13 := mo_a13 hm
  have a14 := mo_a14 hm
  have a16 := mo_a16 hm
  have a17 := mo_a17 hm
  have r29 := mo_r29 hm
  have r30 := mo_r30 hm
  have a29 := mo_a29 hm
  have a30 := mo_a30 hm
  obtain ⟨hi, hj, g3, g4⟩ := h
  have hj1 := mod_lt' hj
  have hW := lp_run (f := mX8_together_L7 K R m (nI i)) (fun (t : Nat) (s : Int32 × Mm) => s.1 = nI (t + 1) ∧ rM s.2 m 31 19 20 (cyc A (i + 1) t) ∧ FM m [31] [19, 20] M s.2) A.length ?_ A.length 0 (1, pI M m 31 0) (by omega) ⟨rfl, ⟨pI_s, fun t c hc => by simp [cyc] at hc⟩, FM.rf.pI (by decide)⟩
  · obtain ⟨⟨z, N⟩, e1, rfl, e2, e3⟩ := hW
    have e2 : rM N m 31 19 20 (cyc A (i + 1) A.length) := e2
    have e3 : FM m [31] [19, 20] M N := e3
    have hAN := hA.fr e3 (by decide) (by decide) (by decide)
    have hBN := hB.fr e3 (by decide) (by decide) (by decide)
    have eA := hAN.1
    -- the last loop
    have last : ∃ M', lp (mX8_together_L117 K R m (nI ((j + 1) % B.length))) (1, N) = some M' ∧ rM M' m 31 19 20 (jW A B i j) ∧ FM m [31] [19, 20] M M' := by
      have hL := lp_ind (f := mX8_together_L117 K R m (nI ((j + 1) % B.length))) (fun (t : Nat) (s : Int32 × Mm) => s.1 = nI (t + 1) ∧ rM s.2 m 31 19 20 (cyc A (i + 1) A.length ++ cyc B (j + 2) t) ∧ FM m [31] [19, 20] M s.2) (fun M' => rM M' m 31 19 20 (jW A B i j) ∧ FM m [31] [19, 20] M M') (B.length - 2) ?_ ?_
      · exact hL (B.length - 2) 0 (1, N) (by omega) ⟨rfl, by show rM N m 31 19 20 (cyc A (i + 1) A.length ++ []); rw [List.append_nil]; exact e2, e3⟩
      · rintro t ⟨z, Q⟩ ht ⟨rfl, f1, f2⟩
        have f1 : rM Q m 31 19 20 (cyc A (i + 1) A.length ++ cyc B (j + 2) t) := f1
        have f2 : FM m [31] [19, 20] M Q := f2
        have hBQ := hB.fr f2 (by decide) (by decide) (by decide)
        have eB := hBQ.1
        have eU := f1.1
        have lU : (cyc A (i + 1) A.length ++ cyc B (j + 2) t).length = A.length + t := by rw [List.length_append, cyc_len, cyc_len]
        rw [lU] at eU
        have hk : (j + 2 + t) % B.length < B.length := Nat.mod_lt _ (by omega)
        have mm : ((j + 1) % B.length + (t + 1)) % B.length = (j + 2 + t) % B.length := by rw [Nat.mod_add_mod]; congr 1; omega
        have rem : nI ((j + 1) % B.length) + nI (t + 1) - (nI ((j + 1) % B.length) + nI (t + 1)) / nI B.length * nI B.length = nI ((j + 2 + t) % B.length) := by rw [nI_add, pk_rem (by omega) (by omega) (by omega), mm]
        obtain ⟨u1, u2⟩ := hBQ.2 _ _ (gp_get hk)
        obtain ⟨p1, p2⟩ := pushU (x := Q.2 (m + 13) ((j + 2 + t) % B.length)) (y := Q.2 (m + 14) ((j + 2 + t) % B.length)) f1
        rw [lU] at p1 p2
        have s1 : nI B.length - 1 = nI (B.length - 1) := pk_sub (a := B.length) (b := 1) (by omega)
        refine Or.inl ⟨(nI (t + 1 + 1), pI (pL (pL Q (m + 19) (A.length + t) (Q.2 (m + 13) ((j + 2 + t) % B.length))) (m + 20) (A.length + t) (Q.2 (m + 14) ((j + 2 + t) % B.length))) m 31 (nI (A.length + t + 1))), ?_, rfl, ?_, f2.tr p2⟩
        · show mX8_together_B117 K R m (nI ((j + 1) % B.length)) (nI (t + 1)) Q = _
          unfold mX8_together_B117
          (repeat (first | rw [ck_t (by first | with_reducible assumption | ((with_reducible apply ixA_of); (with_reducible assumption); omega; omega) | ((with_reducible apply isAr_of); (with_reducible assumption); decide) | ((with_reducible apply nI_ne0); omega; omega) | with_reducible exact isB_0 | with_reducible exact isB_1 | with_reducible exact isB_bI _)] | rw [bd_r (by with_reducible assumption)] | rw [bd_s] | rw [bd2_s] | rw [bd3_s] | rw [nm_s] | rw [nI_clamp (by omega)] | rw [nI_1] | rw [pL_i] | rw [eB] | rw [s1] | rw [rem] | rw [eU] | rw [pL_n (show m + 14 ≠ m + 19 by omega)] | rw [if_pos (by first | with_reducible assumption | ((with_reducible refine nI_lt ?_ ?_); omega; omega) | ((with_reducible refine nI_nlt ?_ ?_); omega; omega) | with_reducible exact ne10 | with_reducible rfl)] | rw [if_neg (by first | with_reducible assumption | ((with_reducible refine nI_lt ?_ ?_); omega; omega) | ((with_reducible refine nI_nlt ?_ ?_); omega; omega) | with_reducible exact ne10 | with_reducible rfl)]))
        · show rM _ m 31 19 20 (cyc A (i + 1) A.length ++ cyc B (j + 2) (t + 1))
          rw [cyc_s, ← List.append_assoc]
          rw [u1, u2] at p1
          exact p1
      · rintro ⟨z, Q⟩ ⟨rfl, f1, f2⟩
        have f2 : FM m [31] [19, 20] M Q := f2
        have eB := (hB.fr f2 (by decide) (by decide) (by decide)).1
        have s1 : nI B.length - 1 = nI (B.length - 1) := pk_sub (a := B.length) (b := 1) (by omega)
        refine ⟨Q, ?_, by rw [jW_cyc (by omega) (by omega)]; exact f1, f2⟩
        show mX8_together_B117 K R m (nI ((j + 1) % B.length)) (nI (B.length - 2 + 1)) Q = _
        unfold mX8_together_B117
        (repeat (first | rw [ck_t (by first | with_reducible assumption | ((with_reducible apply ixA_of); (with_reducible assumption); omega; omega) | ((with_reducible apply isAr_of); (with_reducible assumption); decide) | ((with_reducible apply nI_ne0); omega; omega) | with_reducible exact isB_0 | with_reducible exact isB_1 | with_reducible exact isB_bI _)] | rw [bd_r (by with_reducible assumption)] | rw [bd_s] | rw [bd2_s] | rw [bd3_s] | rw [nm_s] | rw [nI_clamp (by omega)] | rw [nI_1] | rw [eB] | rw [s1] | rw [show B.length - 2 + 1 = B.length - 1 by omega] | rw [if_pos (by first | with_reducible assumption | ((with_reducible refine nI_lt ?_ ?_); omega; omega) | ((with_reducible refine nI_nlt ?_ ?_); omega; omega) | with_reducible exact ne10 | with_reducible rfl)] | rw [if_neg (by first | with_reducible assumption | ((with_reducible refine nI_lt ?_ ?_); omega; omega) | ((with_reducible refine nI_nlt ?_ ?_); omega; omega) | with_reducible exact ne10 | with_reducible rfl)]))
        rfl
    obtain ⟨M', l1, l2⟩ := last
    -- where the second one goes on
    have find : lp (mX8_together_L77 K R N m (nI i)) 0 = some M' := by
      have hL := lp_ind (f := mX8_together_L77 K R N m (nI i)) (fun (t : Nat) (s : Int32) => s = nI t) (fun x => x = M') ((j + 1) % B.length) ?_ ?_
      · obtain ⟨x, x1, rfl⟩ := hL ((j + 1) % B.length) 0 0 (by omega) rfl
        exact x1
      · rintro t s ht rfl
        left
        refine ⟨nI (t + 1), ?_, rfl⟩
        have go : mX8_together_J109 K R N m (nI i) (nI t) = some (.inl (nI (t + 1))) := by unfold mX8_together_J109; (repeat (first | rw [ck_t (by first | with_reducible assumption | ((with_reducible apply ixA_of); (with_reducible assumption); omega; omega) | ((with_reducible apply isAr_of); (with_reducible assumption); decide) | ((with_reducible apply nI_ne0); omega; omega) | with_reducible exact isB_0 | with_reducible exact isB_1 | with_reducible exact isB_bI _)] | rw [bd_r (by with_reducible assumption)] | rw [bd_s] | rw [bd2_s] | rw [bd3_s] | rw [nm_s] | rw [nI_clamp (by omega)] | rw [nI_1] | rw [if_pos (by first | with_reducible assumption | ((with_reducible refine nI_lt ?_ ?_); omega; omega) | ((with_reducible refine nI_nlt ?_ ?_); omega; omega) | with_reducible exact ne10 | with_reducible rfl)] | rw [if_neg (by first | with_reducible assumption | ((with_reducible refine nI_lt ?_ ?_); omega; omega) | ((with_reducible refine nI_nlt ?_ ?_); omega; omega) | with_reducible exact ne10 | with_reducible rfl)]))
        have ht2 : t < B.length := by omega
        obtain ⟨u1, u2⟩ := hBN.2 _ _ (gp_get ht2)
        obtain ⟨w1, w2⟩ := hAN.2 _ _ (gp_get hi)
        have ne : gp B t ≠ gp A i := fun q => by
          have := dB t ((j + 1) % B.length) _ (gp_get ht2) (by rw [q, g3]; exact gp_get hj1)
          omega
        show mX8_together_B77 K R N m (nI i) (nI t) = _
        unfold mX8_together_B77
        by_cases c1 : N.2 (m + 13) t = N.2 (m + 11) i
        · have c2 : ¬ N.2 (m + 14) t = N.2 (m + 12) i := fun q => ne (Prod.ext (by rw [← u1, ← w1, c1]) (by rw [← u2, ← w2, q]))
          (repeat (first | rw [ck_t (by first | with_reducible assumption | ((with_reducible apply ixA_of); (with_reducible assumption); omega; omega) | ((with_reducible apply isAr_of); (with_reducible assumption); decide) | ((with_reducible apply nI_ne0); omega; omega) | with_reducible exact isB_0 | with_reducible exact isB_1 | with_reducible exact isB_bI _)] | rw [bd_r (by with_reducible assumption)] | rw [bd_s] | rw [bd2_s] | rw [bd3_s] | rw [nm_s] | rw [nI_clamp (by omega)] | rw [nI_1] | rw [go] | rw [if_pos (by first | with_reducible assumption | ((with_reducible refine nI_lt ?_ ?_); omega; omega) | ((with_reducible refine nI_nlt ?_ ?_); omega; omega) | with_reducible exact ne10 | with_reducible rfl)] | rw [if_neg (by first | with_reducible assumption | ((with_reducible refine nI_lt ?_ ?_); omega; omega) | ((with_reducible refine nI_nlt ?_ ?_); omega; omega) | with_reducible exact ne10 | with_reducible rfl)]))
        · (repeat (first | rw [ck_t (by first | with_reducible assumption | ((with_reducible apply ixA_of); (with_reducible assumption); omega; omega) | ((with_reducible apply isAr_of); (with_reducible assumption); decide) | ((with_reducible apply nI_ne0); omega; omega) | with_reducible exact isB_0 | with_reducible exact isB_1 | with_reducible exact isB_bI _)] | rw [bd_r (by with_reducible assumption)] | rw [bd_s] | rw [bd2_s] | rw [bd3_s] | rw [nm_s] | rw [nI_clamp (by omega)] | rw [nI_1] | rw [go] | rw [if_pos (by first | with_reducible assumption | ((with_reducible refine nI_lt ?_ ?_); omega; omega) | ((with_reducible refine nI_nlt ?_ ?_); omega; omega) | with_reducible exact ne10 | with_reducible rfl)] | rw [if_neg (by first | with_reducible assumption | ((with_reducible refine nI_lt ?_ ?_); omega; omega) | ((with_reducible refine nI_nlt ?_ ?_); omega; omega) | with_reducible exact ne10 | with_reducible rfl)]))
      · rintro s rfl
        refine ⟨M', ?_, rfl⟩
        obtain ⟨u1, u2⟩ := hBN.2 _ _ (gp_get hj1)
        obtain ⟨w1, w2⟩ := hAN.2 _ _ (gp_get hi)
        have c1 : N.2 (m + 13) ((j + 1) % B.length) = N.2 (m + 11) i := by rw [eq64, u1, w1, g3]
        have c2 : N.2 (m + 14) ((j + 1) % B.length) = N.2 (m + 12) i := by rw [eq64, u2, w2, g3]
        show mX8_together_B77 K R N m (nI i) (nI ((j + 1) % B.length)) = _
        unfold mX8_together_B77
        (repeat (first | rw [ck_t (by first | with_reducible assumption | ((with_reducible apply ixA_of); (with_reducible assumption); omega; omega) | ((with_reducible apply isAr_of); (with_reducible assumption); decide) | ((with_reducible apply nI_ne0); omega; omega) | with_reducible exact isB_0 | with_reducible exact isB_1 | with_reducible exact isB_bI _)] | rw [bd_r (by with_reducible assumption)] | rw [bd_s] | rw [bd2_s] | rw [bd3_s] | rw [nm_s] | rw [nI_clamp (by omega)] | rw [nI_1] | rw [if_pos (by first | with_reducible assumption | ((with_reducible refine nI_lt ?_ ?_); omega; omega) | ((with_reducible refine nI_nlt ?_ ?_); omega; omega) | with_reducible exact ne10 | with_reducible rfl)] | rw [if_neg (by first | with_reducible assumption | ((with_reducible refine nI_lt ?_ ?_); omega; omega) | ((with_reducible refine nI_nlt ?_ ?_); omega; omega) | with_reducible exact ne10 | with_reducible rfl)]))
        rw [l1]
        rfl
    refine ⟨M', ?_, l2⟩
    unfold mX8_together
    (repeat (first | rw [ck_t (by first | with_reducible assumption | ((with_reducible apply ixA_of); (with_reducible assumption); omega; omega) | ((with_reducible apply isAr_of); (with_reducible assumption); decide) | ((with_reducible apply nI_ne0); omega; omega) | with_reducible exact isB_0 | with_reducible exact isB_1 | with_reducible exact isB_bI _)] | rw [bd_r (by with_reducible assumption)] | rw [bd_s] | rw [bd2_s] | rw [bd3_s] | rw [nm_s] | rw [nI_clamp (by omega)] | rw [nI_1] | rw [if_pos (by first | with_reducible assumption | ((with_reducible refine nI_lt ?_ ?_); omega; omega) | ((with_reducible refine nI_nlt ?_ ?_); omega; omega) | with_reducible exact ne10 | with_reducible rfl)] | rw [if_neg (by first | with_reducible assumption | ((with_reducible refine nI_lt ?_ ?_); omega; omega) | ((with_reducible refine nI_nlt ?_ ?_); omega; omega) | with_reducible exact ne10 | with_reducible rfl)]))
    have e1 : lp (mX8_together_L7 K R m (nI i)) (1, pI M m 31 0) = lp (mX8_together_L7 K R m (nI i)) (nI (A.length + 1), N) := e1
    rw [e1]
    refine lp_out ?_
    show mX8_together_B7 K R m (nI i) (nI (A.length + 1)) N = _
    unfold mX8_together_B7
    (repeat (first | rw [ck_t (by first | with_reducible assumption | ((with_reducible apply ixA_of); (with_reducible assumption); omega; omega) | ((with_reducible apply isAr_of); (with_reducible assumption); decide) | ((with_reducible apply nI_ne0); omega; omega) | with_reducible exact isB_0 | with_reducible exact isB_1 | with_reducible exact isB_bI _)] | rw [bd_r (by with_reducible assumption)] | rw [bd_s] | rw [bd2_s] | rw [bd3_s] | rw [nm_s] | rw [nI_clamp (by omega)] | rw [nI_1] | rw [eA] | rw [if_neg (show ¬ nI (A.length + 1) ≤ nI A.length by rw [le32, nI_int (by omega), nI_int (by omega)]; omega)] | rw [if_pos (by first | with_reducible assumption | ((with_reducible refine nI_lt ?_ ?_); omega; omega) | ((with_reducible refine nI_nlt ?_ ?_); omega; omega) | with_reducible exact ne10 | with_reducible rfl)] | rw [if_neg (by first | with_reducible assumption | ((with_reducible refine nI_lt ?_ ?_); omega; omega) | ((with_reducible refine nI_nlt ?_ ?_); omega; omega) | with_reducible exact ne10 | with_reducible rfl)]))
    rw [find]
    rfl
  · rintro t ⟨z, Q⟩ ht ⟨rfl, f1, f2⟩
    have f1 : rM Q m 31 19 20 (cyc A (i + 1) t) := f1
    have f2 : FM m [31] [19, 20] M Q := f2
    have hAQ := hA.fr f2 (by decide) (by decide) (by decide)
    have eA := hAQ.1
    have eU := f1.1
    rw [cyc_len] at eU
    have hk : (i + 1 + t) % A.length < A.length := Nat.mod_lt _ (by omega)
    have rem : nI i + nI (t + 1) - (nI i + nI (t + 1)) / nI A.length * nI A.length = nI ((i + 1 + t) % A.length) := by rw [nI_add, pk_rem (by omega) (by omega) (by omega)]; congr 2; omega
    obtain ⟨u1, u2⟩ := hAQ.2 _ _ (gp_get hk)
    obtain ⟨p1, p2⟩ := pushU (x := Q.2 (m + 11) ((i + 1 + t) % A.length)) (y := Q.2 (m + 12) ((i + 1 + t) % A.length)) f1
    rw [cyc_len] at p1 p2
    refine ⟨(nI (t + 1 + 1), pI (pL (pL Q (m + 19) t (Q.2 (m + 11) ((i + 1 + t) % A.length))) (m + 20) t (Q.2 (m + 12) ((i + 1 + t) % A.length))) m 31 (nI (t + 1))), ?_, rfl, ?_, f2.tr p2⟩
    · show mX8_together_B7 K R m (nI i) (nI (t + 1)) Q = _
      unfold mX8_together_B7
      (repeat (first | rw [ck_t (by first | with_reducible assumption | ((with_reducible apply ixA_of); (with_reducible assumption); omega; omega) | ((with_reducible apply isAr_of); (with_reducible assumption); decide) | ((with_reducible apply nI_ne0); omega; omega) | with_reducible exact isB_0 | with_reducible exact isB_1 | with_reducible exact isB_bI _)] | rw [bd_r (by with_reducible assumption)] | rw [bd_s] | rw [bd2_s] | rw [bd3_s] | rw [nm_s] | rw [nI_clamp (by omega)] | rw [nI_1] | rw [pL_i] | rw [eA] | rw [rem] | rw [eU] | rw [pL_n (show m + 12 ≠ m + 19 by omega)] | rw [if_pos (show nI (t + 1) ≤ nI A.length from nI_le (by omega) (by omega))] | rw [if_pos (by first | with_reducible assumption | ((with_reducible refine nI_lt ?_ ?_); omega; omega) | ((with_reducible refine nI_nlt ?_ ?_); omega; omega) | with_reducible exact ne10 | with_reducible rfl)] | rw [if_neg (by first | with_reducible assumption | ((with_reducible refine nI_lt ?_ ?_); omega; omega) | ((with_reducible refine nI_nlt ?_ ?_); omega; omega) | with_reducible exact ne10 | with_reducible rfl)]))
    · show rM _ m 31 19 20 (cyc A (i + 1) (t + 1))
      rw [cyc_s]
      rw [u1, u2] at p1
      exact p1
theorem isOutward_ok {U : List Pt} (hm : moA K R m) (h : rM M m 31 19 20 U) (h3 : 3 ≤ U.length) (h40 : U.length ≤ 40) (hB : inBs U) : ∃ v, mX8_isOutward K R M m = some v ∧ iv v (outW U) := by
  have h0 := hm.1
  have r29 := mo_r29 hm
  have r30 := mo_r30 hm
  have a29 := mo_a29 hm
  have a30 := mo_a30 hm
  have e := h.1
  have z0 : (0 : Int64).toInt = 0 := rfl
  have eqv : (∀ t, t < U.length → 0 ≤ crs (gp U t) (gp U ((t + 1) % U.length)) (gp U ((t + 2) % U.length))) ↔ outW U := by
    constructor
    · intro g x hx
      unfold bd1
      have hk : (x + U.length - 1) % U.length < U.length := Nat.mod_lt _ (by omega)
      have := g _ hk
      have e1 : ((x + U.length - 1) % U.length + 1) % U.length = x := by rw [Nat.mod_add_mod, show x + U.length - 1 + 1 = x + U.length by omega, Nat.add_mod_right, Nat.mod_eq_of_lt hx]
      have e2 : ((x + U.length - 1) % U.length + 2) % U.length = (x + 1) % U.length := by rw [Nat.mod_add_mod, show x + U.length - 1 + 2 = x + 1 + U.length by omega, Nat.add_mod_right]
      rw [e1, e2] at this
      exact this
    · intro g t ht
      have hk := mod_lt' ht
      have := g _ hk
      unfold bd1 at this
      have e1 : ((t + 1) % U.length + U.length - 1) % U.length = t := by
        by_cases z : t + 1 < U.length
        · rw [Nat.mod_eq_of_lt z, show t + 1 + U.length - 1 = t + U.length by omega, Nat.add_mod_right, Nat.mod_eq_of_lt ht]
        · rw [show t + 1 = U.length by omega, Nat.mod_self, Nat.mod_eq_of_lt (by omega)]; omega
      have e2 : ((t + 1) % U.length + 1) % U.length = (t + 2) % U.length := by rw [Nat.mod_add_mod]
      rw [e1, e2] at this
      exact this
  have hL := lp_ind (f := mX8_isOutward_L4 K R M m) (fun (i : Nat) (s : Int32 × Int32) => s.2 = nI i ∧ iv s.1 (∀ t, t < i → 0 ≤ crs (gp U t) (gp U ((t + 1) % U.length)) (gp U ((t + 2) % U.length)))) (fun v => iv v (outW U)) U.length ?_ ?_
  · obtain ⟨v, e1, e2⟩ := hL U.length 0 (1, nI 0) (by omega) ⟨rfl, Or.inl ⟨rfl, fun t ht => absurd ht (by omega)⟩⟩
    refine ⟨v, ?_, e2⟩
    unfold mX8_isOutward
    (repeat (first | rw [ck_t (by first | with_reducible assumption | ((with_reducible apply ixA_of); (with_reducible assumption); omega; omega) | ((with_reducible apply isAr_of); (with_reducible assumption); decide) | ((with_reducible apply nI_ne0); omega; omega) | with_reducible exact isB_0 | with_reducible exact isB_1 | with_reducible exact isB_bI _)] | rw [bd_r (by with_reducible assumption)] | rw [bd_s] | rw [bd2_s] | rw [bd3_s] | rw [nm_s] | rw [nI_clamp (by omega)] | rw [nI_1] | rw [if_pos (by first | with_reducible assumption | ((with_reducible refine nI_lt ?_ ?_); omega; omega) | ((with_reducible refine nI_nlt ?_ ?_); omega; omega) | with_reducible exact ne10 | with_reducible rfl)] | rw [if_neg (by first | with_reducible assumption | ((with_reducible refine nI_lt ?_ ?_); omega; omega) | ((with_reducible refine nI_nlt ?_ ?_); omega; omega) | with_reducible exact ne10 | with_reducible rfl)]))
    exact e1
  · rintro i ⟨x, z⟩ hi ⟨rfl, f0⟩
    have f : iv x (∀ t, t < i → 0 ≤ crs (gp U t) (gp U ((t + 1) % U.length)) (gp U ((t + 2) % U.length))) := f0
    clear f0
    have hi1 := mod_lt' hi
    have hi2 : (i + 2) % U.length < U.length := Nat.mod_lt _ (by omega)
    have B0 := hB _ _ (gp_get hi)
    have B1 := hB _ _ (gp_get hi1)
    have B2 := hB _ _ (gp_get hi2)
    have p0 := h.pt (gp_get hi)
    have p1 := h.pt (gp_get hi1)
    have p2 := h.pt (gp_get hi2)
    obtain ⟨v, v1, v2⟩ := sideM_ok (K := K) (R := R) (M := M) (p0 ▸ B0) (p1 ▸ B1) (p2 ▸ B2)
    rw [← p0, ← p1, ← p2] at v2
    have rem1 := pk_rem (a := i + 1) (d := U.length) (by omega) (by omega) (by omega)
    have rem2 := pk_rem (a := i + 2) (d := U.length) (by omega) (by omega) (by omega)
    have i2 : nI i + 2 = nI (i + 2) := nI_add i 2
    have J : ∀ x : Int32, mX8_isOutward_J86 K R M m (nI i) x = some (.inl (x, nI (i + 1))) := fun x => by unfold mX8_isOutward_J86; (repeat (first | rw [ck_t (by first | with_reducible assumption | ((with_reducible apply ixA_of); (with_reducible assumption); omega; omega) | ((with_reducible apply isAr_of); (with_reducible assumption); decide) | ((with_reducible apply nI_ne0); omega; omega) | with_reducible exact isB_0 | with_reducible exact isB_1 | with_reducible exact isB_bI _)] | rw [bd_r (by with_reducible assumption)] | rw [bd_s] | rw [bd2_s] | rw [bd3_s] | rw [nm_s] | rw [nI_clamp (by omega)] | rw [nI_1] | rw [if_pos (by first | with_reducible assumption | ((with_reducible refine nI_lt ?_ ?_); omega; omega) | ((with_reducible refine nI_nlt ?_ ?_); omega; omega) | with_reducible exact ne10 | with_reducible rfl)] | rw [if_neg (by first | with_reducible assumption | ((with_reducible refine nI_lt ?_ ?_); omega; omega) | ((with_reducible refine nI_nlt ?_ ?_); omega; omega) | with_reducible exact ne10 | with_reducible rfl)]))
    have J0 : mX8_isOutward_J85 K R M m (nI i) = some (.inl (0, nI (i + 1))) := by unfold mX8_isOutward_J85; exact J 0
    have nx : ∀ {c : Prop}, (∀ t, t < i + 1 → 0 ≤ crs (gp U t) (gp U ((t + 1) % U.length)) (gp U ((t + 2) % U.length))) → ∀ t, t < i → 0 ≤ crs (gp U t) (gp U ((t + 1) % U.length)) (gp U ((t + 2) % U.length)) := fun {_} g t ht => g t (by omega)
    left
    show ∃ s', mX8_isOutward_B4 K R M m x (nI i) = some (.inl s') ∧ _
    unfold mX8_isOutward_B4
    (repeat (first | rw [ck_t (by first | with_reducible assumption | ((with_reducible apply ixA_of); (with_reducible assumption); omega; omega) | ((with_reducible apply isAr_of); (with_reducible assumption); decide) | ((with_reducible apply nI_ne0); omega; omega) | with_reducible exact isB_0 | with_reducible exact isB_1 | with_reducible exact isB_bI _)] | rw [bd_r (by with_reducible assumption)] | rw [bd_s] | rw [bd2_s] | rw [bd3_s] | rw [nm_s] | rw [nI_clamp (by omega)] | rw [nI_1] | rw [e] | rw [i2] | rw [rem1] | rw [rem2] | rw [if_pos (by first | with_reducible assumption | ((with_reducible refine nI_lt ?_ ?_); omega; omega) | ((with_reducible refine nI_nlt ?_ ?_); omega; omega) | with_reducible exact ne10 | with_reducible rfl)] | rw [if_neg (by first | with_reducible assumption | ((with_reducible refine nI_lt ?_ ?_); omega; omega) | ((with_reducible refine nI_nlt ?_ ?_); omega; omega) | with_reducible exact ne10 | with_reducible rfl)]))
    rcases f with ⟨rfl, f⟩ | ⟨rfl, f⟩
    · (repeat (first | rw [ck_t (by first | with_reducible assumption | ((with_reducible apply ixA_of); (with_reducible assumption); omega; omega) | ((with_reducible apply isAr_of); (with_reducible assumption); decide) | ((with_reducible apply nI_ne0); omega; omega) | with_reducible exact isB_0 | with_reducible exact isB_1 | with_reducible exact isB_bI _)] | rw [bd_r (by with_reducible assumption)] | rw [bd_s] | rw [bd2_s] | rw [bd3_s] | rw [nm_s] | rw [nI_clamp (by omega)] | rw [nI_1] | rw [if_neg (ne10)] | rw [bd_e (v1)] | rw [if_pos (by first | with_reducible assumption | ((with_reducible refine nI_lt ?_ ?_); omega; omega) | ((with_reducible refine nI_nlt ?_ ?_); omega; omega) | with_reducible exact ne10 | with_reducible rfl)] | rw [if_neg (by first | with_reducible assumption | ((with_reducible refine nI_lt ?_ ?_); omega; omega) | ((with_reducible refine nI_nlt ?_ ?_); omega; omega) | with_reducible exact ne10 | with_reducible rfl)]))
      by_cases c1 : v < 0
      · rw [if_pos c1, J0]
        exact ⟨_, rfl, rfl, Or.inr ⟨rfl, fun g => by have := g i (by omega); rw [lt64, z0, v2] at c1; omega⟩⟩
      · rw [if_neg c1, J]
        refine ⟨_, rfl, rfl, Or.inl ⟨rfl, fun t ht => ?_⟩⟩
        by_cases z : t = i
        · subst z; rw [lt64, z0, v2] at c1; omega
        · exact f t (by omega)
    · (repeat (first | rw [ck_t (by first | with_reducible assumption | ((with_reducible apply ixA_of); (with_reducible assumption); omega; omega) | ((with_reducible apply isAr_of); (with_reducible assumption); decide) | ((with_reducible apply nI_ne0); omega; omega) | with_reducible exact isB_0 | with_reducible exact isB_1 | with_reducible exact isB_bI _)] | rw [bd_r (by with_reducible assumption)] | rw [bd_s] | rw [bd2_s] | rw [bd3_s] | rw [nm_s] | rw [nI_clamp (by omega)] | rw [nI_1] | rw [J0] | rw [if_pos (by first | with_reducible assumption | ((with_reducible refine nI_lt ?_ ?_); omega; omega) | ((with_reducible refine nI_nlt ?_ ?_); omega; omega) | with_reducible exact ne10 | with_reducible rfl)] | rw [if_neg (by first | with_reducible assumption | ((with_reducible refine nI_lt ?_ ?_); omega; omega) | ((with_reducible refine nI_nlt ?_ ?_); omega; omega) | with_reducible exact ne10 | with_reducible rfl)]))
      exact ⟨_, rfl, rfl, Or.inr ⟨rfl, fun g => f (fun t ht => g t (by omega))⟩⟩
  · rintro ⟨x, z⟩ ⟨rfl, f0⟩
    have f : iv x (∀ t, t < U.length → 0 ≤ crs (gp U t) (gp U ((t + 1) % U.length)) (gp U ((t + 2) % U.length))) := f0
    refine ⟨x, ?_, f.congr eqv⟩
    show mX8_isOutward_B4 K R M m x (nI U.length) = _
    unfold mX8_isOutward_B4
    have := f.b
    (repeat (first | rw [ck_t (by first | with_reducible assumption | ((with_reducible apply ixA_of); (with_reducible assumption); omega; omega) | ((with_reducible apply isAr_of); (with_reducible assumption); decide) | ((with_reducible apply nI_ne0); omega; omega) | with_reducible exact isB_0 | with_reducible exact isB_1 | with_reducible exact isB_bI _)] | rw [bd_r (by with_reducible assumption)] | rw [bd_s] | rw [bd2_s] | rw [bd3_s] | rw [nm_s] | rw [nI_clamp (by omega)] | rw [nI_1] | rw [e] | rw [if_pos (by first | with_reducible assumption | ((with_reducible refine nI_lt ?_ ?_); omega; omega) | ((with_reducible refine nI_nlt ?_ ?_); omega; omega) | with_reducible exact ne10 | with_reducible rfl)] | rw [if_neg (by first | with_reducible assumption | ((with_reducible refine nI_lt ?_ ?_); omega; omega) | ((with_reducible refine nI_nlt ?_ ?_); omega; omega) | with_reducible exact ne10 | with_reducible rfl)]))
    rfl
theorem dropPiece_ok {t : Nat} {ps : List Pc} (hm : moA K R m) (h : psM (M.2 (m + 1)) 0 ps) (hf : fitP ps) (ht : t < ps.length) : ∃ M', mX8_dropPiece K R M m (nI t) = some M' ∧ psM (M'.2 (m + 1)) 0 (ps.eraseIdx t) ∧ FM m [] [1] M M' := by
  have h0 := hm.1
  have b0 := mo_r0 hm
  have b1 := mo_a0 hm
  have h40 := hf.1
  have e1480 := h.1
  rw [Nat.zero_add] at e1480
  have s1 : nI ps.length - 1 = nI (ps.length - 1) := pk_sub (a := ps.length) (b := 1) (by omega)
  have m37 : ∀ x, (37 : Int32) * nI x = nI (37 * x) := fun x => by rw [show (37 : Int32) = nI 37 from rfl, pk_mul]
  have hL := lp_ind (f := mX8_dropPiece_L5 K R m) (fun (i : Nat) (s : Int32 × Mm) => s.1 = nI (37 * t + i) ∧ FM m [] [1] M s.2 ∧ ∀ k, s.2.2 (m + 1) k = if 37 * t ≤ k ∧ k < 37 * t + i then M.2 (m + 1) (k + 37) else M.2 (m + 1) k) (fun M' => psM (M'.2 (m + 1)) 0 (ps.eraseIdx t) ∧ FM m [] [1] M M') (37 * (ps.length - 1) - 37 * t) ?_ ?_
  · obtain ⟨M', e1, e2⟩ := hL (37 * (ps.length - 1) - 37 * t) 0 (nI (37 * t), M) (by omega) ⟨rfl, FM.rf, fun k => by rw [if_neg (by omega)]⟩
    refine ⟨M', ?_, e2⟩
    unfold mX8_dropPiece
    (repeat (first | rw [ck_t (by first | with_reducible assumption | ((with_reducible apply ixA_of); (with_reducible assumption); omega; omega) | ((with_reducible apply isAr_of); (with_reducible assumption); decide) | ((with_reducible apply nI_ne0); omega; omega) | with_reducible exact isB_0 | with_reducible exact isB_1 | with_reducible exact isB_bI _)] | rw [bd_r (by with_reducible assumption)] | rw [bd_s] | rw [bd2_s] | rw [bd3_s] | rw [nm_s] | rw [nI_clamp (by omega)] | rw [nI_1] | rw [m37] | rw [if_pos (by first | with_reducible assumption | ((with_reducible refine nI_lt ?_ ?_); omega; omega) | ((with_reducible refine nI_nlt ?_ ?_); omega; omega) | with_reducible exact ne10 | with_reducible rfl)] | rw [if_neg (by first | with_reducible assumption | ((with_reducible refine nI_lt ?_ ?_); omega; omega) | ((with_reducible refine nI_nlt ?_ ?_); omega; omega) | with_reducible exact ne10 | with_reducible rfl)]))
    exact e1
  · rintro i ⟨z, N⟩ hi ⟨rfl, f1, f2⟩
    have f1 : FM m [] [1] M N := f1
    have f2 : ∀ k, N.2 (m + 1) k = if 37 * t ≤ k ∧ k < 37 * t + i then M.2 (m + 1) (k + 37) else M.2 (m + 1) k := f2
    have eP : mX8_pieces K R N m = some (nI ps.length) := by
      have n1480 : N.2 (m + 1) 1480 = lN ps.length := by rw [f2 1480, if_neg (by omega)]; exact e1480
      have ix : ixA K (m + 1) 1 1480 := ixA_of (i := 1480) b1 (by omega) (by omega)
      have cl : (1480 : Int32).toNatClampNeg = 1480 := nI_clamp (n := 1480) (by omega)
      unfold mX8_pieces
      (repeat (first | rw [ck_t (by first | with_reducible assumption | ((with_reducible apply ixA_of); (with_reducible assumption); omega; omega) | ((with_reducible apply isAr_of); (with_reducible assumption); decide) | ((with_reducible apply nI_ne0); omega; omega) | with_reducible exact isB_0 | with_reducible exact isB_1 | with_reducible exact isB_bI _)] | rw [bd_r (by with_reducible assumption)] | rw [bd_s] | rw [bd2_s] | rw [bd3_s] | rw [nm_s] | rw [nI_clamp (by omega)] | rw [nI_1] | rw [cl] | rw [n1480] | rw [lN_i32] | rw [if_pos (by first | with_reducible assumption | ((with_reducible refine nI_lt ?_ ?_); omega; omega) | ((with_reducible refine nI_nlt ?_ ?_); omega; omega) | with_reducible exact ne10 | with_reducible rfl)] | rw [if_neg (by first | with_reducible assumption | ((with_reducible refine nI_lt ?_ ?_); omega; omega) | ((with_reducible refine nI_nlt ?_ ?_); omega; omega) | with_reducible exact ne10 | with_reducible rfl)]))
    have i37 : nI (37 * t + i) + 37 = nI (37 * t + i + 37) := nI_add (37 * t + i) 37
    have x1 : ixA K (m + 1) 1 (nI (37 * t + i + 37)) := ixA_of b1 (by omega) (by omega)
    have x2 : ixA K (m + 1) 1 (nI (37 * t + i)) := ixA_of b1 (by omega) (by omega)
    refine Or.inl ⟨(nI (37 * t + (i + 1)), pL N (m + 1) (37 * t + i) (N.2 (m + 1) (37 * t + i + 37))), ?_, rfl, f1.pL (by decide), fun k => ?_⟩
    · show mX8_dropPiece_B5 K R m (nI (37 * t + i)) N = _
      unfold mX8_dropPiece_B5
      (repeat (first | rw [ck_t (by first | with_reducible assumption | ((with_reducible apply ixA_of); (with_reducible assumption); omega; omega) | ((with_reducible apply isAr_of); (with_reducible assumption); decide) | ((with_reducible apply nI_ne0); omega; omega) | with_reducible exact isB_0 | with_reducible exact isB_1 | with_reducible exact isB_bI _)] | rw [bd_r (by with_reducible assumption)] | rw [bd_s] | rw [bd2_s] | rw [bd3_s] | rw [nm_s] | rw [nI_clamp (by omega)] | rw [nI_1] | rw [bd_e (eP)] | rw [s1] | rw [m37] | rw [i37] | rw [if_pos (by first | with_reducible assumption | ((with_reducible refine nI_lt ?_ ?_); omega; omega) | ((with_reducible refine nI_nlt ?_ ?_); omega; omega) | with_reducible exact ne10 | with_reducible rfl)] | rw [if_neg (by first | with_reducible assumption | ((with_reducible refine nI_lt ?_ ?_); omega; omega) | ((with_reducible refine nI_nlt ?_ ?_); omega; omega) | with_reducible exact ne10 | with_reducible rfl)]))
      rfl
    · show (pL N (m + 1) (37 * t + i) (N.2 (m + 1) (37 * t + i + 37))).2 (m + 1) k = _
      by_cases z : k = 37 * t + i
      · subst z
        rw [pL_s, if_pos (by omega), f2, if_neg (by omega)]
      · rw [pL_k z, f2 k]
        by_cases z2 : 37 * t ≤ k ∧ k < 37 * t + i
        · rw [if_pos z2, if_pos (by omega)]
        · rw [if_neg z2, if_neg (by omega)]
  · rintro ⟨z, N⟩ ⟨rfl, f1, f2⟩
    have f1 : FM m [] [1] M N := f1
    have f2 : ∀ k, N.2 (m + 1) k = if 37 * t ≤ k ∧ k < 37 * t + (37 * (ps.length - 1) - 37 * t) then M.2 (m + 1) (k + 37) else M.2 (m + 1) k := f2
    have n1480 : N.2 (m + 1) 1480 = lN ps.length := by rw [f2 1480, if_neg (by omega)]; exact e1480
    have ix : ixA K (m + 1) 1 1480 := ixA_of (i := 1480) b1 (by omega) (by omega)
    have cl : (1480 : Int32).toNatClampNeg = 1480 := nI_clamp (n := 1480) (by omega)
    have eP : mX8_pieces K R N m = some (nI ps.length) := by
      unfold mX8_pieces
      (repeat (first | rw [ck_t (by first | with_reducible assumption | ((with_reducible apply ixA_of); (with_reducible assumption); omega; omega) | ((with_reducible apply isAr_of); (with_reducible assumption); decide) | ((with_reducible apply nI_ne0); omega; omega) | with_reducible exact isB_0 | with_reducible exact isB_1 | with_reducible exact isB_bI _)] | rw [bd_r (by with_reducible assumption)] | rw [bd_s] | rw [bd2_s] | rw [bd3_s] | rw [nm_s] | rw [nI_clamp (by omega)] | rw [nI_1] | rw [cl] | rw [n1480] | rw [lN_i32] | rw [if_pos (by first | with_reducible assumption | ((with_reducible refine nI_lt ?_ ?_); omega; omega) | ((with_reducible refine nI_nlt ?_ ?_); omega; omega) | with_reducible exact ne10 | with_reducible rfl)] | rw [if_neg (by first | with_reducible assumption | ((with_reducible refine nI_lt ?_ ?_); omega; omega) | ((with_reducible refine nI_nlt ?_ ?_); omega; omega) | with_reducible exact ne10 | with_reducible rfl)]))
    have l1 : lN ps.length - 1 = lN (ps.length - 1) := by
      have z1 : (1 : Int64).toInt = 1 := rfl
      rw [eq64, sub64 (by rw [lN_int (by omega), z1]; omega) (by rw [lN_int (by omega), z1]; omega), lN_int (by omega), lN_int (by omega), z1]; omega
    refine ⟨pL N (m + 1) 1480 (lN (ps.length - 1)), ?_, ⟨by rw [Nat.zero_add, pL_s, List.length_eraseIdx, if_pos ht], fun j P hP => ?_⟩, f1.pL (by decide)⟩
    · show mX8_dropPiece_B5 K R m (nI (37 * t + (37 * (ps.length - 1) - 37 * t))) N = _
      rw [show 37 * t + (37 * (ps.length - 1) - 37 * t) = 37 * (ps.length - 1) by omega]
      unfold mX8_dropPiece_B5
      (repeat (first | rw [ck_t (by first | with_reducible assumption | ((with_reducible apply ixA_of); (with_reducible assumption); omega; omega) | ((with_reducible apply isAr_of); (with_reducible assumption); decide) | ((with_reducible apply nI_ne0); omega; omega) | with_reducible exact isB_0 | with_reducible exact isB_1 | with_reducible exact isB_bI _)] | rw [bd_r (by with_reducible assumption)] | rw [bd_s] | rw [bd2_s] | rw [bd3_s] | rw [nm_s] | rw [nI_clamp (by omega)] | rw [nI_1] | rw [bd_e (eP)] | rw [s1] | rw [m37] | rw [cl] | rw [n1480] | rw [l1] | rw [if_pos (by first | with_reducible assumption | ((with_reducible refine nI_lt ?_ ?_); omega; omega) | ((with_reducible refine nI_nlt ?_ ?_); omega; omega) | with_reducible exact ne10 | with_reducible rfl)] | rw [if_neg (by first | with_reducible assumption | ((with_reducible refine nI_lt ?_ ?_); omega; omega) | ((with_reducible refine nI_nlt ?_ ?_); omega; omega) | with_reducible exact ne10 | with_reducible rfl)]))
      rfl
    · rw [Nat.zero_add]
      rw [List.getElem?_eraseIdx] at hP
      by_cases zj : j < t
      · rw [if_pos zj] at hP
        exact pcM_eq (h.pc hP) (hf.2 _ _ hP) (fun k hk => by rw [pL_k (by omega), f2, if_neg (by omega)])
      · rw [if_neg zj] at hP
        have lj := get_lt hP
        obtain ⟨g1, g2, g3, g4, g5, g6⟩ := h.pc hP
        have sh : ∀ k, k < 37 → (pL N (m + 1) 1480 (lN (ps.length - 1))).2 (m + 1) (37 * j + k) = M.2 (m + 1) (37 * (j + 1) + k) := fun k hk => by
          rw [pL_k (by omega), f2, if_pos (by omega), show 37 * j + k + 37 = 37 * (j + 1) + k by omega]
        have l16 := hf.2 _ _ hP
        have sh0 := sh 0 (by omega)
        simp only [Nat.add_zero] at sh0
        refine ⟨by rw [sh0]; exact g1, fun i c hc => ?_, by rw [sh 33 (by omega)]; exact g3, by rw [sh 34 (by omega)]; exact g4, by rw [sh 35 (by omega)]; exact g5, by rw [sh 36 (by omega)]; exact g6⟩
        have li := get_lt hc
        have q1 := sh (1 + 2 * i) (by omega)
        have q2 := sh (2 + 2 * i) (by omega)
        rw [← Nat.add_assoc, ← Nat.add_assoc] at q1 q2
        rw [q1, q2]
        exact g2 i c hc
end JM
