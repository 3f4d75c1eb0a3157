/-! figure: pure, and what both sides ask -/
theorem area_sgn {l : List Pt} {s : Int} (h3 : 3 ≤ l.length) (h : ∀ (i j k : Nat) a b c, i < j → j < k → l[i]? = some a → l[j]? = some b → l[k]? = some c → 0 < s * crs a b c) : 0 < s * area l := by
  have g := fun {i : Nat} (hi : i < l.length) => gp_get hi
  have tmi : ∀ i, i + 1 < l.length → tm l i = (gp l i).1 * (gp l (i + 1)).2 - (gp l (i + 1)).1 * (gp l i).2 := fun i hi => by unfold tm; rw [Nat.mod_eq_of_lt hi]
  have Q : ∀ k, k + 2 ≤ l.length → 0 ≤ s * (sumN (tm l) (k + 1) + ((gp l (k + 1)).1 * (gp l 0).2 - (gp l 0).1 * (gp l (k + 1)).2)) ∧ (0 < k → 0 < s * (sumN (tm l) (k + 1) + ((gp l (k + 1)).1 * (gp l 0).2 - (gp l 0).1 * (gp l (k + 1)).2))) := by
    intro k
    induction k with
    | zero =>
      intro hk
      have e : sumN (tm l) 1 + ((gp l 1).1 * (gp l 0).2 - (gp l 0).1 * (gp l 1).2) = 0 := by
        show 0 + tm l 0 + _ = 0
        rw [tmi 0 (by omega), show 0 + 1 = 1 from rfl]; omega
      rw [e, Int.mul_zero]
      exact ⟨by omega, fun z => absurd z (by omega)⟩
    | succ k ih =>
      intro hk
      obtain ⟨i1, -⟩ := ih (by omega)
      have t := h 0 (k + 1) (k + 2) _ _ _ (by omega) (by omega) (g (by omega)) (g (by omega)) (g (by omega))
      have e : sumN (tm l) (k + 1 + 1) + ((gp l (k + 1 + 1)).1 * (gp l 0).2 - (gp l 0).1 * (gp l (k + 1 + 1)).2) = (sumN (tm l) (k + 1) + ((gp l (k + 1)).1 * (gp l 0).2 - (gp l 0).1 * (gp l (k + 1)).2)) + crs (gp l 0) (gp l (k + 1)) (gp l (k + 2)) := by
        show sumN (tm l) (k + 1) + tm l (k + 1) + _ = _
        rw [tmi (k + 1) (by omega)]
        unfold crs
        grind
      rw [e, Int.mul_add]
      exact ⟨by omega, fun _ => by omega⟩
  have := (Q (l.length - 2) (by omega)).2 (by omega)
  have e : area l = sumN (tm l) (l.length - 2 + 1) + ((gp l (l.length - 2 + 1)).1 * (gp l 0).2 - (gp l 0).1 * (gp l (l.length - 2 + 1)).2) := by
    unfold area
    have : sumN (tm l) l.length = sumN (tm l) (l.length - 2 + 1) + tm l (l.length - 2 + 1) := (congrArg (sumN (tm l)) (show l.length = l.length - 2 + 1 + 1 by omega)).trans rfl
    rw [this]
    unfold tm
    rw [show l.length - 2 + 1 + 1 = l.length by omega, Nat.mod_self]
  rw [e]; exact this
theorem Cv_AL {l : List Pt} (h : Cv l) : AL l := fun i k a b p ha hb hp hk hk2 => by
  rcases h.side ha hb hp with z | z | z
  · exact absurd z hk
  · exact absurd z hk2
  · exact z
theorem rev_get {l : List Pt} {i : Nat} (h : i < l.length) : l.reverse[i]? = l[l.length - 1 - i]? := List.getElem?_reverse h
theorem rev_rot {H L : List Pt} {t : Nat} (hn : L.length = H.length) (ht : t < H.length) (h : ∀ i, i < H.length → L[i]? = H[(t + H.length - i) % H.length]?) : rotL (H.length - 1 - t) H.reverse = L := by
  refine List.ext_getElem? (fun i => ?_)
  by_cases hi : i < H.length
  · rw [rotL_get (by rw [List.length_reverse]; omega) (by rw [List.length_reverse]; exact hi), List.length_reverse, h i hi]
    by_cases z : H.length - 1 - t + i < H.length
    · rw [Nat.mod_eq_of_lt z, rev_get z]
      congr 1
      rw [show t + H.length - i = (t - i) + H.length by omega, Nat.add_mod_right, Nat.mod_eq_of_lt (by omega)]; omega
    · rw [Nat.mod_eq_sub_mod (by omega), Nat.mod_eq_of_lt (by omega), rev_get (by omega)]
      congr 1
      rw [Nat.mod_eq_of_lt (by omega)]; omega
  · rw [List.getElem?_eq_none (by rw [rotL_len, List.length_reverse]; omega), List.getElem?_eq_none (by omega)]
/-- the first place in a list at which another one begins, and whether it goes on so -/
def gsP (H L : List Pt) (s : Bool) : Prop := ∃ t f, H[t]? = some f ∧ L[0]? = some f ∧ (∀ j, j < t → H[j]? ≠ some f) ∧ ∀ i, i < H.length → L[i]? = H[(if s = true then t + i + H.length else t + H.length - i) % H.length]?
noncomputable def oneL (H : List Pt) : List Pt := @ite _ (area H < 0) (Classical.propDecidable _) H.reverse H
theorem oneL_mem {H : List Pt} {p : Pt} : p ∈ oneL H ↔ p ∈ H := by
  unfold oneL
  by_cases h : area H < 0
  · rw [if_pos h]; exact List.mem_reverse
  · rw [if_neg h]
theorem oneL_len {H : List Pt} : (oneL H).length = H.length := by
  unfold oneL
  by_cases h : area H < 0
  · rw [if_pos h]; exact List.length_reverse
  · rw [if_neg h]
theorem rot_back {H L : List Pt} {t : Nat} (ht : t < H.length) (h : rotL t H = L) : ∃ j, j < L.length ∧ rotL j L = H := by
  obtain ⟨j, j1, j2⟩ := rot_rot ht
  rw [h] at j2
  exact ⟨j, by rw [← h, rotL_len]; exact j1, j2⟩
theorem fig_good {H L : List Pt} (hL : GW H L) (h3 : 3 ≤ L.length) (hn : L.length = H.length) (hg : gsP H L true ∨ gsP H L false) : AL (oneL H) ∧ 3 ≤ (oneL H).length ∧ L = norm (oneL H) := by
  have cL := GW_Cv hL (by omega)
  have fin : ∀ X, Cv X → oneL H = X → AL (oneL H) ∧ 3 ≤ (oneL H).length ∧ L = norm (oneL H) := fun X hX e => by
    have hx3 : 3 ≤ X.length := by rw [← e, oneL_len]; omega
    rw [e]
    refine ⟨Cv_AL hX, hx3, GW_un hL ((GW_norm hX hx3).1.mem (fun p => ?_))⟩
    rw [← e]; exact oneL_mem.symm
  rcases hg with ⟨t, f, g1, g2, g3, g4⟩ | ⟨t, f, g1, g2, g3, g4⟩
  · have ht := get_lt g1
    have e : rotL t H = L := List.ext_getElem? (fun i => by
      by_cases hi : i < H.length
      · rw [rotL_get ht hi, g4 i hi, if_pos rfl, Nat.add_mod_right]
      · rw [List.getElem?_eq_none (by rw [rotL_len]; omega), List.getElem?_eq_none (by omega)])
    obtain ⟨j, j1, j2⟩ := rot_back ht e
    have cH : Cv H := by rw [← j2]; exact cL.rot j1
    have ar := area_sgn (s := 1) (l := H) (by omega) (fun i j k a b c h1 h2 ha hb hc => by have := cH i j k a b c h1 h2 ha hb hc; omega)
    exact fin H cH (by unfold oneL; rw [if_neg (by omega)])
  · have ht := get_lt g1
    have e := rev_rot hn ht (fun i hi => by have := g4 i hi; simp only [Bool.false_eq_true, if_false] at this; exact this)
    obtain ⟨j, j1, j2⟩ := rot_back (by rw [List.length_reverse]; omega) e
    have cH : Cv H.reverse := by rw [← j2]; exact cL.rot j1
    have ar := area_sgn (s := -1) (l := H) (by omega) (fun i j k a b c h1 h2 ha hb hc => by
      have hk := get_lt hc
      have := cH (H.length - 1 - k) (H.length - 1 - j) (H.length - 1 - i) c b a (by omega) (by omega) (by rw [rev_get (by omega), show H.length - 1 - (H.length - 1 - k) = k by omega]; exact hc) (by rw [rev_get (by omega), show H.length - 1 - (H.length - 1 - j) = j by omega]; exact hb) (by rw [rev_get (by omega), show H.length - 1 - (H.length - 1 - i) = i by omega]; exact ha)
      have e : crs a b c = -crs c b a := by unfold crs; grind
      omega)
    exact fin H.reverse cH (by unfold oneL; rw [if_pos (by omega)])
theorem fig_ring {H L : List Pt} (hL : GW H L) (hA : AL (oneL H)) (h3 : 3 ≤ (oneL H).length) : 3 ≤ L.length ∧ L.length = H.length ∧ (gsP H L true ∨ gsP H L false) ∧ L = norm (oneL H) := by
  have hC := AL_Cv hA
  have eL : L = norm (oneL H) := GW_un hL ((GW_norm hC h3).1.mem (fun p => oneL_mem.symm))
  have len : L.length = H.length := by rw [eL, norm_len, oneL_len]
  rw [oneL_len] at h3
  obtain ⟨k, hk⟩ := isLs_ex (l := oneL H) (fun q => by have := oneL_len (H := H); rw [q] at this; simp at this; omega) (hC.ds (by rw [oneL_len]; exact h3))
  have hkl := isLs_lt hk
  rw [oneL_len] at hkl
  rw [norm_of hk] at eL
  have dsL := GW_ds hL
  refine ⟨by omega, len, ?_, by rw [norm_of hk]; exact eL⟩
  obtain ⟨f, f1⟩ := get_ex (l := L) (i := 0) (by omega)
  by_cases ha : area H < 0
  · have eo : oneL H = H.reverse := by unfold oneL; rw [if_pos ha]
    rw [eo] at eL hC
    have dsR := hC.ds (by rw [List.length_reverse]; exact h3)
    have Li : ∀ i, i < H.length → L[i]? = H[(H.length - 1 - k + H.length - i) % H.length]? := fun i hi => by
      rw [eL, rotL_get (by rw [List.length_reverse]; exact hkl) (by rw [List.length_reverse]; exact hi), List.length_reverse]
      by_cases z : k + i < H.length
      · rw [Nat.mod_eq_of_lt z, rev_get z]
        congr 1
        rw [show H.length - 1 - k + H.length - i = (H.length - 1 - k - i) + H.length by omega, Nat.add_mod_right, Nat.mod_eq_of_lt (by omega)]; omega
      · rw [Nat.mod_eq_sub_mod (by omega), Nat.mod_eq_of_lt (by omega), rev_get (by omega)]
        congr 1
        rw [Nat.mod_eq_of_lt (by omega)]; omega
    have h0 := Li 0 (by omega)
    rw [f1, show H.length - 1 - k + H.length - 0 = (H.length - 1 - k) + H.length by omega, Nat.add_mod_right, Nat.mod_eq_of_lt (by omega)] at h0
    refine Or.inr ⟨H.length - 1 - k, f, h0.symm, f1, fun j hj q => ?_, fun i hi => by rw [if_neg (by decide)]; exact Li i hi⟩
    have d1 : H.reverse[H.length - 1 - j]? = some f := by rw [rev_get (by omega), show H.length - 1 - (H.length - 1 - j) = j by omega]; exact q
    have d2 : H.reverse[k]? = some f := by rw [rev_get hkl]; exact h0.symm
    have := dsR _ _ _ d1 d2
    omega
  · have eo : oneL H = H := by unfold oneL; rw [if_neg ha]
    rw [eo] at eL hC
    have dsR := hC.ds h3
    have Li : ∀ i, i < H.length → L[i]? = H[(k + i + H.length) % H.length]? := fun i hi => by
      rw [eL, rotL_get hkl hi, Nat.add_mod_right]
    have h0 := Li 0 (by omega)
    rw [f1, Nat.add_zero, Nat.add_mod_right, Nat.mod_eq_of_lt hkl] at h0
    refine Or.inl ⟨k, f, h0.symm, f1, fun j hj q => ?_, fun i hi => by rw [if_pos rfl]; exact Li i hi⟩
    have := dsR _ _ _ q h0.symm
    omega
section FG
variable {K : Kk} {R : Rr} {M : Mm}
def row (l : List Pt) (i : Nat) : Prop := ∀ k, k < l.length → k ≠ i → k ≠ (i + 1) % l.length → 0 < crs (gp l i) (gp l ((i + 1) % l.length)) (gp l k)
theorem row_AL {l : List Pt} : (∀ i, i < l.length → row l i) ↔ AL l := by
  constructor
  · intro h i k a b p ha hb hp h1 h2
    have := h i (get_lt ha) k (get_lt hp) h1 h2
    rw [gp_of ha, gp_of hb, gp_of hp] at this; exact this
  · intro h i hi k hk h1 h2
    exact h i k _ _ _ (gp_get hi) (gp_get (mod_lt' hi)) (gp_get hk) h1 h2
theorem isRing_in {r n i : Nat} {l : List Pt} (hA : rgA K R r n) (h : rgC M r l) (hl : l.length ≤ n) (hn : n < 2 ^ 20) (hB : inBs l) (hi : i < l.length) : (row l i ∧ lp (mX5_isRing_L20 K R M r (nI i) (nI ((i + 1) % l.length))) 0 = some (.inl (nI (i + 1)))) ∨ (¬ row l i ∧ lp (mX5_isRing_L20 K R M r (nI i) (nI ((i + 1) % l.length))) 0 = some (.inr 0)) := by
  have hA0 := hA
  obtain ⟨a0, a1, a2, a3, a4⟩ := hA
  have e := h.1
  have hj := mod_lt' hi
  have hL := lp_ind (f := mX5_isRing_L20 K R M r (nI i) (nI ((i + 1) % l.length))) (fun (k : Nat) (s : Int32) => s = nI k ∧ ∀ t, t < k → t ≠ i → t ≠ (i + 1) % l.length → 0 < crs (gp l i) (gp l ((i + 1) % l.length)) (gp l t)) (fun x => (row l i ∧ x = .inl (nI (i + 1))) ∨ (¬ row l i ∧ x = .inr 0)) l.length ?_ ?_
  · obtain ⟨x, e1, e2⟩ := hL l.length 0 0 (by omega) ⟨rfl, fun t ht => absurd ht (by omega)⟩
    rcases e2 with ⟨e2, rfl⟩ | ⟨e2, rfl⟩
    · exact Or.inl ⟨e2, e1⟩
    · exact Or.inr ⟨e2, e1⟩
  · rintro k s hk ⟨rfl, f⟩
    have gk := gp_get hk
    obtain ⟨u1, u2⟩ := h.2 _ _ gk
    have pk : gp l k = ((M.1 (r + 1) k).toInt, (M.1 (r + 2) k).toInt) := Prod.ext u1.symm u2.symm
    have Bk := hB _ _ gk
    obtain ⟨v, v1, v2⟩ := sideAt_ok (R := R) hA0 h hl hn hB (gp_get hi) (gp_get hj) (pk ▸ Bk)
    rw [← pk] at v2
    have go : mX5_isRing_J63 K R M r (nI i) (nI ((i + 1) % l.length)) (nI k) = some (.inl (nI (k + 1))) := by unfold mX5_isRing_J63; (repeat (first | rw [ck_t (by first | with_reducible assumption | ((with_reducible apply ixA_of); (with_reducible assumption); omega; omega) | ((with_reducible apply isAr_of); (with_reducible assumption); decide) | ((with_reducible apply nI_ne0); omega; omega) | with_reducible exact isB_0 | with_reducible exact isB_1 | with_reducible exact isB_bI _)] | rw [bd_r (by with_reducible assumption)] | rw [bd_s] | rw [bd2_s] | rw [bd3_s] | rw [nm_s] | rw [nI_clamp (by omega)] | rw [nI_1] | rw [if_pos (by first | with_reducible assumption | ((with_reducible refine nI_lt ?_ ?_); omega; omega) | ((with_reducible refine nI_nlt ?_ ?_); omega; omega) | with_reducible exact ne10 | with_reducible rfl)] | rw [if_neg (by first | with_reducible assumption | ((with_reducible refine nI_lt ?_ ?_); omega; omega) | ((with_reducible refine nI_nlt ?_ ?_); omega; omega) | with_reducible exact ne10 | with_reducible rfl)]))
    have nx : (k ≠ i → k ≠ (i + 1) % l.length → 0 < crs (gp l i) (gp l ((i + 1) % l.length)) (gp l k)) → ∀ t, t < k + 1 → t ≠ i → t ≠ (i + 1) % l.length → 0 < crs (gp l i) (gp l ((i + 1) % l.length)) (gp l t) := fun g t ht t1 t2 => by
      by_cases z : t = k
      · subst z; exact g t1 t2
      · exact f t (by omega) t1 t2
    show (∃ s', mX5_isRing_B20 K R M r (nI i) (nI ((i + 1) % l.length)) (nI k) = some (.inl s') ∧ _) ∨ ∃ x, mX5_isRing_B20 K R M r (nI i) (nI ((i + 1) % l.length)) (nI k) = some (.inr x) ∧ _
    unfold mX5_isRing_B20
    by_cases c1 : k = i
    · left
      refine ⟨nI (k + 1), ?_, rfl, nx (fun q => absurd c1 q)⟩
      (repeat (first | rw [ck_t (by first | with_reducible assumption | ((with_reducible apply ixA_of); (with_reducible assumption); omega; omega) | ((with_reducible apply isAr_of); (with_reducible assumption); decide) | ((with_reducible apply nI_ne0); omega; omega) | with_reducible exact isB_0 | with_reducible exact isB_1 | with_reducible exact isB_bI _)] | rw [bd_r (by with_reducible assumption)] | rw [bd_s] | rw [bd2_s] | rw [bd3_s] | rw [nm_s] | rw [nI_clamp (by omega)] | rw [nI_1] | rw [e] | rw [if_pos (show nI k = nI i by rw [c1])] | rw [go] | rw [if_pos (by first | with_reducible assumption | ((with_reducible refine nI_lt ?_ ?_); omega; omega) | ((with_reducible refine nI_nlt ?_ ?_); omega; omega) | with_reducible exact ne10 | with_reducible rfl)] | rw [if_neg (by first | with_reducible assumption | ((with_reducible refine nI_lt ?_ ?_); omega; omega) | ((with_reducible refine nI_nlt ?_ ?_); omega; omega) | with_reducible exact ne10 | with_reducible rfl)]))
    · by_cases c2 : k = (i + 1) % l.length
      · left
        refine ⟨nI (k + 1), ?_, rfl, nx (fun _ q => absurd c2 q)⟩
        (repeat (first | rw [ck_t (by first | with_reducible assumption | ((with_reducible apply ixA_of); (with_reducible assumption); omega; omega) | ((with_reducible apply isAr_of); (with_reducible assumption); decide) | ((with_reducible apply nI_ne0); omega; omega) | with_reducible exact isB_0 | with_reducible exact isB_1 | with_reducible exact isB_bI _)] | rw [bd_r (by with_reducible assumption)] | rw [bd_s] | rw [bd2_s] | rw [bd3_s] | rw [nm_s] | rw [nI_clamp (by omega)] | rw [nI_1] | rw [e] | rw [if_neg (nI_ne c1 (by omega) (by omega))] | rw [if_pos (show nI k = nI ((i + 1) % l.length) by rw [← c2])] | rw [go] | rw [if_pos (by first | with_reducible assumption | ((with_reducible refine nI_lt ?_ ?_); omega; omega) | ((with_reducible refine nI_nlt ?_ ?_); omega; omega) | with_reducible exact ne10 | with_reducible rfl)] | rw [if_neg (by first | with_reducible assumption | ((with_reducible refine nI_lt ?_ ?_); omega; omega) | ((with_reducible refine nI_nlt ?_ ?_); omega; omega) | with_reducible exact ne10 | with_reducible rfl)]))
      · by_cases c3 : v ≤ 0
        · right
          rw [le64, v2] at c3
          have c3 : crs (gp l i) (gp l ((i + 1) % l.length)) (gp l k) ≤ 0 := c3
          refine ⟨.inr 0, ?_, Or.inr ⟨fun q => by have := q k hk c1 c2; omega, rfl⟩⟩
          (repeat (first | rw [ck_t (by first | with_reducible assumption | ((with_reducible apply ixA_of); (with_reducible assumption); omega; omega) | ((with_reducible apply isAr_of); (with_reducible assumption); decide) | ((with_reducible apply nI_ne0); omega; omega) | with_reducible exact isB_0 | with_reducible exact isB_1 | with_reducible exact isB_bI _)] | rw [bd_r (by with_reducible assumption)] | rw [bd_s] | rw [bd2_s] | rw [bd3_s] | rw [nm_s] | rw [nI_clamp (by omega)] | rw [nI_1] | rw [e] | rw [if_neg (nI_ne c1 (by omega) (by omega))] | rw [if_neg (nI_ne c2 (by omega) (by omega))] | rw [bd_e (v1)] | rw [if_pos (show v ≤ 0 by rw [le64, v2]; exact c3)] | rw [if_pos (by first | with_reducible assumption | ((with_reducible refine nI_lt ?_ ?_); omega; omega) | ((with_reducible refine nI_nlt ?_ ?_); omega; omega) | with_reducible exact ne10 | with_reducible rfl)] | rw [if_neg (by first | with_reducible assumption | ((with_reducible refine nI_lt ?_ ?_); omega; omega) | ((with_reducible refine nI_nlt ?_ ?_); omega; omega) | with_reducible exact ne10 | with_reducible rfl)]))
          rfl
        · left
          have c4 : 0 < crs (gp l i) (gp l ((i + 1) % l.length)) (gp l k) := by
            rw [le64, v2] at c3
            have c3 : ¬ crs (gp l i) (gp l ((i + 1) % l.length)) (gp l k) ≤ 0 := c3
            omega
          refine ⟨nI (k + 1), ?_, rfl, nx (fun _ _ => c4)⟩
          (repeat (first | rw [ck_t (by first | with_reducible assumption | ((with_reducible apply ixA_of); (with_reducible assumption); omega; omega) | ((with_reducible apply isAr_of); (with_reducible assumption); decide) | ((with_reducible apply nI_ne0); omega; omega) | with_reducible exact isB_0 | with_reducible exact isB_1 | with_reducible exact isB_bI _)] | rw [bd_r (by with_reducible assumption)] | rw [bd_s] | rw [bd2_s] | rw [bd3_s] | rw [nm_s] | rw [nI_clamp (by omega)] | rw [nI_1] | rw [e] | rw [if_neg (nI_ne c1 (by omega) (by omega))] | rw [if_neg (nI_ne c2 (by omega) (by omega))] | rw [bd_e (v1)] | rw [go] | rw [if_pos (by first | with_reducible assumption | ((with_reducible refine nI_lt ?_ ?_); omega; omega) | ((with_reducible refine nI_nlt ?_ ?_); omega; omega) | with_reducible exact ne10 | with_reducible rfl)] | rw [if_neg (by first | with_reducible assumption | ((with_reducible refine nI_lt ?_ ?_); omega; omega) | ((with_reducible refine nI_nlt ?_ ?_); omega; omega) | with_reducible exact ne10 | with_reducible rfl)]))
  · rintro s ⟨rfl, f⟩
    refine ⟨.inl (nI (i + 1)), ?_, Or.inl ⟨f, rfl⟩⟩
    show mX5_isRing_B20 K R M r (nI i) (nI ((i + 1) % l.length)) (nI l.length) = _
    unfold mX5_isRing_B20
    (repeat (first | rw [ck_t (by first | with_reducible assumption | ((with_reducible apply ixA_of); (with_reducible assumption); omega; omega) | ((with_reducible apply isAr_of); (with_reducible assumption); decide) | ((with_reducible apply nI_ne0); omega; omega) | with_reducible exact isB_0 | with_reducible exact isB_1 | with_reducible exact isB_bI _)] | rw [bd_r (by with_reducible assumption)] | rw [bd_s] | rw [bd2_s] | rw [bd3_s] | rw [nm_s] | rw [nI_clamp (by omega)] | rw [nI_1] | rw [e] | rw [if_pos (by first | with_reducible assumption | ((with_reducible refine nI_lt ?_ ?_); omega; omega) | ((with_reducible refine nI_nlt ?_ ?_); omega; omega) | with_reducible exact ne10 | with_reducible rfl)] | rw [if_neg (by first | with_reducible assumption | ((with_reducible refine nI_lt ?_ ?_); omega; omega) | ((with_reducible refine nI_nlt ?_ ?_); omega; omega) | with_reducible exact ne10 | with_reducible rfl)]))
    rfl
theorem isRing_ok {r n : Nat} {l : List Pt} (hA : rgA K R r n) (h : rgC M r l) (hl : l.length ≤ n) (hn : n < 2 ^ 20) (hB : inBs l) : ∃ v, mX5_isRing K R M r = some v ∧ iv v (AL l ∧ 3 ≤ l.length) := by
  have a0 := hA.1
  have e := h.1
  have hL := lp_ind (f := mX5_isRing_L2 K R M r) (fun (i : Nat) (s : Int32) => s = nI i ∧ ∀ t, t < i → row l t) (fun v => iv v (AL l ∧ 3 ≤ l.length)) l.length ?_ ?_
  · obtain ⟨v, e1, e2⟩ := hL l.length 0 (nI 0) (by omega) ⟨rfl, fun t ht => absurd ht (by omega)⟩
    refine ⟨v, ?_, e2⟩
    unfold mX5_isRing
    (repeat (first | rw [ck_t (by first | with_reducible assumption | ((with_reducible apply ixA_of); (with_reducible assumption); omega; omega) | ((with_reducible apply isAr_of); (with_reducible assumption); decide) | ((with_reducible apply nI_ne0); omega; omega) | with_reducible exact isB_0 | with_reducible exact isB_1 | with_reducible exact isB_bI _)] | rw [bd_r (by with_reducible assumption)] | rw [bd_s] | rw [bd2_s] | rw [bd3_s] | rw [nm_s] | rw [nI_clamp (by omega)] | rw [nI_1] | rw [if_pos (by first | with_reducible assumption | ((with_reducible refine nI_lt ?_ ?_); omega; omega) | ((with_reducible refine nI_nlt ?_ ?_); omega; omega) | with_reducible exact ne10 | with_reducible rfl)] | rw [if_neg (by first | with_reducible assumption | ((with_reducible refine nI_lt ?_ ?_); omega; omega) | ((with_reducible refine nI_nlt ?_ ?_); omega; omega) | with_reducible exact ne10 | with_reducible rfl)]))
    exact e1
  · rintro i s hi ⟨rfl, f⟩
    have hj := mod_lt' hi
    have w := wrap_ok (i := i + 1) hA h (by omega) (by omega)
    show (∃ s', mX5_isRing_B2 K R M r (nI i) = some (.inl s') ∧ _) ∨ ∃ x, mX5_isRing_B2 K R M r (nI i) = some (.inr x) ∧ _
    unfold mX5_isRing_B2
    rcases isRing_in hA h hl hn hB hi with ⟨g1, g2⟩ | ⟨g1, g2⟩
    · left
      refine ⟨nI (i + 1), ?_, rfl, fun t ht => ?_⟩
      · (repeat (first | rw [ck_t (by first | with_reducible assumption | ((with_reducible apply ixA_of); (with_reducible assumption); omega; omega) | ((with_reducible apply isAr_of); (with_reducible assumption); decide) | ((with_reducible apply nI_ne0); omega; omega) | with_reducible exact isB_0 | with_reducible exact isB_1 | with_reducible exact isB_bI _)] | rw [bd_r (by with_reducible assumption)] | rw [bd_s] | rw [bd2_s] | rw [bd3_s] | rw [nm_s] | rw [nI_clamp (by omega)] | rw [nI_1] | rw [e] | rw [bd_e (w)] | rw [if_pos (by first | with_reducible assumption | ((with_reducible refine nI_lt ?_ ?_); omega; omega) | ((with_reducible refine nI_nlt ?_ ?_); omega; omega) | with_reducible exact ne10 | with_reducible rfl)] | rw [if_neg (by first | with_reducible assumption | ((with_reducible refine nI_lt ?_ ?_); omega; omega) | ((with_reducible refine nI_nlt ?_ ?_); omega; omega) | with_reducible exact ne10 | with_reducible rfl)]))
        exact g2
      · by_cases z : t = i
        · subst z; exact g1
        · exact f t (by omega)
    · right
      refine ⟨0, ?_, Or.inr ⟨rfl, fun q => g1 (row_AL.mpr q.1 i hi)⟩⟩
      (repeat (first | rw [ck_t (by first | with_reducible assumption | ((with_reducible apply ixA_of); (with_reducible assumption); omega; omega) | ((with_reducible apply isAr_of); (with_reducible assumption); decide) | ((with_reducible apply nI_ne0); omega; omega) | with_reducible exact isB_0 | with_reducible exact isB_1 | with_reducible exact isB_bI _)] | rw [bd_r (by with_reducible assumption)] | rw [bd_s] | rw [bd2_s] | rw [bd3_s] | rw [nm_s] | rw [nI_clamp (by omega)] | rw [nI_1] | rw [e] | rw [bd_e (w)] | rw [if_pos (by first | with_reducible assumption | ((with_reducible refine nI_lt ?_ ?_); omega; omega) | ((with_reducible refine nI_nlt ?_ ?_); omega; omega) | with_reducible exact ne10 | with_reducible rfl)] | rw [if_neg (by first | with_reducible assumption | ((with_reducible refine nI_lt ?_ ?_); omega; omega) | ((with_reducible refine nI_nlt ?_ ?_); omega; omega) | with_reducible exact ne10 | with_reducible rfl)]))
      exact g2
  · rintro s ⟨rfl, f⟩
    have al := row_AL.mp f
    show ∃ x, mX5_isRing_B2 K R M r (nI l.length) = some (.inr x) ∧ _
    unfold mX5_isRing_B2
    by_cases c : l.length < 3
    · refine ⟨0, ?_, Or.inr ⟨rfl, fun q => by omega⟩⟩
      (repeat (first | rw [ck_t (by first | with_reducible assumption | ((with_reducible apply ixA_of); (with_reducible assumption); omega; omega) | ((with_reducible apply isAr_of); (with_reducible assumption); decide) | ((with_reducible apply nI_ne0); omega; omega) | with_reducible exact isB_0 | with_reducible exact isB_1 | with_reducible exact isB_bI _)] | rw [bd_r (by with_reducible assumption)] | rw [bd_s] | rw [bd2_s] | rw [bd3_s] | rw [nm_s] | rw [nI_clamp (by omega)] | rw [nI_1] | rw [e] | rw [if_pos (show nI l.length < 3 from nI_lt (b := 3) c (by decide))] | rw [if_pos (by first | with_reducible assumption | ((with_reducible refine nI_lt ?_ ?_); omega; omega) | ((with_reducible refine nI_nlt ?_ ?_); omega; omega) | with_reducible exact ne10 | with_reducible rfl)] | rw [if_neg (by first | with_reducible assumption | ((with_reducible refine nI_lt ?_ ?_); omega; omega) | ((with_reducible refine nI_nlt ?_ ?_); omega; omega) | with_reducible exact ne10 | with_reducible rfl)]))
      rfl
    · refine ⟨1, ?_, Or.inl ⟨rfl, al, by omega⟩⟩
      (repeat (first | rw [ck_t (by first | with_reducible assumption | ((with_reducible apply ixA_of); (with_reducible assumption); omega; omega) | ((with_reducible apply isAr_of); (with_reducible assumption); decide) | ((with_reducible apply nI_ne0); omega; omega) | with_reducible exact isB_0 | with_reducible exact isB_1 | with_reducible exact isB_bI _)] | rw [bd_r (by with_reducible assumption)] | rw [bd_s] | rw [bd2_s] | rw [bd3_s] | rw [nm_s] | rw [nI_clamp (by omega)] | rw [nI_1] | rw [e] | rw [if_neg (show ¬ nI l.length < 3 from nI_nlt (b := 3) (by omega) (by omega))] | rw [if_pos (by first | with_reducible assumption | ((with_reducible refine nI_lt ?_ ?_); omega; omega) | ((with_reducible refine nI_nlt ?_ ?_); omega; omega) | with_reducible exact ne10 | with_reducible rfl)] | rw [if_neg (by first | with_reducible assumption | ((with_reducible refine nI_lt ?_ ?_); omega; omega) | ((with_reducible refine nI_nlt ?_ ?_); omega; omega) | with_reducible exact ne10 | with_reducible rfl)]))
      rfl
theorem takeBack_ok {r q n n2 : Nat} {l : List Pt} (hA : rgA K R r n) (hq : rgA K R q n2) (hd : r + 3 ≤ q ∨ q + 3 ≤ r) (h : rgC M q l) (hl : l.length ≤ n) (hl2 : l.length ≤ n2) (hn : n < 2 ^ 20) (hn2 : n2 < 2 ^ 20) : ∃ M', mX5_takeBackwards K R M r q = some M' ∧ rgC M' r l.reverse ∧ Fr r (r + 3) M M' ∧ M'.2 = M.2 := by
  have a0 := hA.1
  obtain ⟨q0, q1, q2, q3, q4⟩ := hq
  have hL := lp_ind (f := mX5_takeBackwards_L12 K R r q) (fun (i : Nat) (s : Int32 × Mm) => s.1 = nI (l.length - i) + (-1) ∧ rgC s.2 r (l.reverse.take i) ∧ Fr r (r + 3) M s.2 ∧ s.2.2 = M.2) (fun M' => rgC M' r l.reverse ∧ Fr r (r + 3) M M' ∧ M'.2 = M.2) l.length ?_ ?_
  · obtain ⟨M', e1, e2⟩ := hL l.length 0 (nI l.length + (-1), pI M r 2 0) (by omega) ⟨rfl, ⟨pI_s, fun i p hp => by simp at hp⟩, Fr.rf.pI (by omega) (by omega), rfl⟩
    refine ⟨M', ?_, e2⟩
    have e3 : (pI M r 2 0).1 q 2 = nI l.length := by rw [pI_n (by omega)]; exact h.1
    have e4 : nI l.length - 1 = nI l.length + (-1) := by rw [Int32.sub_eq_add_neg]
    unfold mX5_takeBackwards
    (repeat (first | rw [ck_t (by first | with_reducible assumption | ((with_reducible apply ixA_of); (with_reducible assumption); omega; omega) | ((with_reducible apply isAr_of); (with_reducible assumption); decide) | ((with_reducible apply nI_ne0); omega; omega) | with_reducible exact isB_0 | with_reducible exact isB_1 | with_reducible exact isB_bI _)] | rw [bd_r (by with_reducible assumption)] | rw [bd_s] | rw [bd2_s] | rw [bd3_s] | rw [nm_s] | rw [nI_clamp (by omega)] | rw [nI_1] | rw [e3] | rw [e4] | rw [if_pos (by first | with_reducible assumption | ((with_reducible refine nI_lt ?_ ?_); omega; omega) | ((with_reducible refine nI_nlt ?_ ?_); omega; omega) | with_reducible exact ne10 | with_reducible rfl)] | rw [if_neg (by first | with_reducible assumption | ((with_reducible refine nI_lt ?_ ?_); omega; omega) | ((with_reducible refine nI_nlt ?_ ?_); omega; omega) | with_reducible exact ne10 | with_reducible rfl)]))
    exact e1
  · rintro i ⟨z, N⟩ hi ⟨rfl, f1, f2, f3⟩
    have f1 : rgC N r (l.reverse.take i) := f1
    have f2 : Fr r (r + 3) M N := f2
    have f3 : N.2 = M.2 := f3
    have ei : nI (l.length - i) + (-1) = nI (l.length - i - 1) := by
      have := pk_m1 (l.length - i - 1)
      rw [show l.length - i - 1 + 1 = l.length - i by omega] at this; exact this
    have hN := h.fr f2 (by omega)
    obtain ⟨c, hc⟩ := get_ex (l := l) (i := l.length - i - 1) (by omega)
    obtain ⟨u1, u2⟩ := hN.2 _ _ hc
    have hcr : l.reverse[i]? = some c := by rw [rev_get hi, show l.length - 1 - i = l.length - i - 1 by omega]; exact hc
    obtain ⟨N2, d1, d2, d3, d4⟩ := add_ok (x := N.1 (q + 1) (l.length - i - 1)) (y := N.1 (q + 2) (l.length - i - 1)) hA f1 (by rw [List.length_take, List.length_reverse]; omega) hn
    refine Or.inl ⟨(nI (l.length - (i + 1)) + (-1), N2), ?_, rfl, ?_, f2.tr d3, d4.trans f3⟩
    · show mX5_takeBackwards_B12 K R r q (nI (l.length - i) + (-1)) N = _
      rw [ei, show l.length - i - 1 = l.length - (i + 1) by omega] at *
      unfold mX5_takeBackwards_B12
      (repeat (first | rw [ck_t (by first | with_reducible assumption | ((with_reducible apply ixA_of); (with_reducible assumption); omega; omega) | ((with_reducible apply isAr_of); (with_reducible assumption); decide) | ((with_reducible apply nI_ne0); omega; omega) | with_reducible exact isB_0 | with_reducible exact isB_1 | with_reducible exact isB_bI _)] | rw [bd_r (by with_reducible assumption)] | rw [bd_s] | rw [bd2_s] | rw [bd3_s] | rw [nm_s] | rw [nI_clamp (by omega)] | rw [nI_1] | rw [if_neg (nI_pos (show l.length - (i + 1) < 2 ^ 31 by omega))] | rw [bd_e (d1)] | rw [if_pos (by first | with_reducible assumption | ((with_reducible refine nI_lt ?_ ?_); omega; omega) | ((with_reducible refine nI_nlt ?_ ?_); omega; omega) | with_reducible exact ne10 | with_reducible rfl)] | rw [if_neg (by first | with_reducible assumption | ((with_reducible refine nI_lt ?_ ?_); omega; omega) | ((with_reducible refine nI_nlt ?_ ?_); omega; omega) | with_reducible exact ne10 | with_reducible rfl)]))
    · show rgC N2 r (l.reverse.take (i + 1))
      rw [take_app hcr]
      rw [u1, u2] at d2
      exact d2
  · rintro ⟨z, N⟩ ⟨rfl, f1, f2, f3⟩
    have f1 : rgC N r (l.reverse.take l.length) := f1
    rw [show l.length = l.reverse.length from List.length_reverse.symm, List.take_length] at f1
    refine ⟨N, ?_, f1, f2, f3⟩
    show mX5_takeBackwards_B12 K R r q (nI (l.length - l.length) + (-1)) N = _
    rw [Nat.sub_self]
    unfold mX5_takeBackwards_B12
    rw [if_pos (show nI 0 + (-1) < 0 by decide)]
    rfl
/-- does the hand go as the ring that was found? -/
theorem goesAs_ok {m : Nat} {H L : List Pt} {w : Int32} {s : Bool} (hm : moA K R m) (h : rM M m 12 9 10 H) (hL : rM M m 24 17 18 L) (hH : H.length ≤ 16) (hn : L.length = H.length) (h0 : 0 < H.length) (hf : ∃ f, L[0]? = some f ∧ f ∈ H) (hw : (w = 1 ∧ s = true) ∨ (w = -1 ∧ s = false)) : ∃ v, mX8_goesAs K R M m w = some v ∧ iv v (gsP H L s) := by
  have hm0 := hm.1
  have r10 := mo_r10 hm
  have r11 := mo_r11 hm
  have a10 := mo_a10 hm
  have a11 := mo_a11 hm
  have r22 := mo_r22 hm
  have r23 := mo_r23 hm
  have a22 := mo_a22 hm
  have a23 := mo_a23 hm
  have e := h.1
  obtain ⟨f, f1, f2⟩ := hf
  obtain ⟨y1, y2⟩ := hL.2 0 f f1
  have fin : ∀ t, H[t]? = some f → (∀ j, j < t → H[j]? ≠ some f) → ∃ v, mX8_goesAs_J48 K R M m w (nI t) = some v ∧ iv v (gsP H L s) := fun t ht hno => by
    have lt := get_lt ht
    have key : ∀ i, i < H.length → nI t + w * nI i + nI H.length - (nI t + w * nI i + nI H.length) / nI H.length * nI H.length = nI ((if s = true then t + i + H.length else t + H.length - i) % H.length) := fun i hi => by
      have e2 : nI t + w * nI i + nI H.length = nI (if s = true then t + i + H.length else t + H.length - i) := by
        rcases hw with ⟨rfl, rfl⟩ | ⟨rfl, rfl⟩
        · rw [if_pos rfl, Int32.one_mul, nI_add, nI_add]
        · rw [if_neg (by decide), eq32, nI_int (by omega), Int32.neg_mul, Int32.one_mul]
          have n1 : (-nI i).toInt = -(i : Int) := by rw [neg32 (by rw [nI_int (by omega)]; omega), nI_int (by omega)]
          have n2 : (nI t + -nI i).toInt = t - (i : Int) := by rw [add32 (by rw [n1, nI_int (by omega)]; omega) (by rw [n1, nI_int (by omega)]; omega), n1, nI_int (by omega)]; omega
          rw [add32 (by rw [n2, nI_int (by omega)]; omega) (by rw [n2, nI_int (by omega)]; omega), n2, nI_int (by omega)]
          omega
      rw [e2, pk_rem (by split <;> omega) (by omega) (by omega)]
    have gsi : (∀ i, i < H.length → L[i]? = H[(if s = true then t + i + H.length else t + H.length - i) % H.length]?) ↔ gsP H L s := by
      constructor
      · intro g; exact ⟨t, f, ht, f1, hno, g⟩
      · rintro ⟨t', f', g1, g2, g3, g4⟩
        have := get_un g2 f1
        subst this
        have : t' = t := by
          rcases Nat.lt_trichotomy t t' with z | z | z
          · exact absurd ht (g3 t z)
          · exact z.symm
          · exact absurd g1 (hno t' z)
        subst this
        exact g4
    have hW := lp_ind (f := mX8_goesAs_L63 K R M m w (nI t)) (fun (i : Nat) (x : Int32 × Int32) => x.2 = nI i ∧ iv x.1 (∀ j, j < i → L[j]? = H[(if s = true then t + j + H.length else t + H.length - j) % H.length]?)) (fun v => iv v (gsP H L s)) H.length ?_ ?_
    · obtain ⟨v, e1, e2⟩ := hW H.length 0 (1, nI 0) (by omega) ⟨rfl, Or.inl ⟨rfl, fun j hj => absurd hj (by omega)⟩⟩
      refine ⟨v, ?_, e2⟩
      unfold mX8_goesAs_J48
      (repeat (first | rw [ck_t (by first | with_reducible assumption | ((with_reducible apply ixA_of); (with_reducible assumption); omega; omega) | ((with_reducible apply isAr_of); (with_reducible assumption); decide) | ((with_reducible apply nI_ne0); omega; omega) | with_reducible exact isB_0 | with_reducible exact isB_1 | with_reducible exact isB_bI _)] | rw [bd_r (by with_reducible assumption)] | rw [bd_s] | rw [bd2_s] | rw [bd3_s] | rw [nm_s] | rw [nI_clamp (by omega)] | rw [nI_1] | rw [e] | rw [if_neg (nI_ne (show t ≠ H.length by omega) (by omega) (by omega))] | rw [if_pos (by first | with_reducible assumption | ((with_reducible refine nI_lt ?_ ?_); omega; omega) | ((with_reducible refine nI_nlt ?_ ?_); omega; omega) | with_reducible exact ne10 | with_reducible rfl)] | rw [if_neg (by first | with_reducible assumption | ((with_reducible refine nI_lt ?_ ?_); omega; omega) | ((with_reducible refine nI_nlt ?_ ?_); omega; omega) | with_reducible exact ne10 | with_reducible rfl)]))
      exact e1
    · rintro i ⟨x, z⟩ hi ⟨rfl, g0⟩
      have g : iv x (∀ j, j < i → L[j]? = H[(if s = true then t + j + H.length else t + H.length - j) % H.length]?) := g0
      clear g0
      have hk : (if s = true then t + i + H.length else t + H.length - i) % H.length < H.length := Nat.mod_lt _ h0
      have kk := key i hi
      generalize hK : (if s = true then t + i + H.length else t + H.length - i) % H.length = k at *
      obtain ⟨p, hp⟩ := get_ex hk
      obtain ⟨c, hc⟩ := get_ex (l := L) (i := i) (by omega)
      obtain ⟨u1, u2⟩ := h.2 _ _ hp
      obtain ⟨w1, w2⟩ := hL.2 _ _ hc
      have J : ∀ x : Int32, mX8_goesAs_J135 K R M m w (nI t) (nI i) x = some (.inl (x, nI (i + 1))) := fun x => by unfold mX8_goesAs_J135; (repeat (first | rw [ck_t (by first | with_reducible assumption | ((with_reducible apply ixA_of); (with_reducible assumption); omega; omega) | ((with_reducible apply isAr_of); (with_reducible assumption); decide) | ((with_reducible apply nI_ne0); omega; omega) | with_reducible exact isB_0 | with_reducible exact isB_1 | with_reducible exact isB_bI _)] | rw [bd_r (by with_reducible assumption)] | rw [bd_s] | rw [bd2_s] | rw [bd3_s] | rw [nm_s] | rw [nI_clamp (by omega)] | rw [nI_1] | rw [if_pos (by first | with_reducible assumption | ((with_reducible refine nI_lt ?_ ?_); omega; omega) | ((with_reducible refine nI_nlt ?_ ?_); omega; omega) | with_reducible exact ne10 | with_reducible rfl)] | rw [if_neg (by first | with_reducible assumption | ((with_reducible refine nI_lt ?_ ?_); omega; omega) | ((with_reducible refine nI_nlt ?_ ?_); omega; omega) | with_reducible exact ne10 | with_reducible rfl)]))
      have J0 : mX8_goesAs_J134 K R M m w (nI t) (nI i) = some (.inl (0, nI (i + 1))) := by unfold mX8_goesAs_J134; exact J 0
      have eqi : L[i]? = H[k]? ↔ (M.2 (m + 9) k = M.2 (m + 17) i ∧ M.2 (m + 10) k = M.2 (m + 18) i) := by
        rw [hc, hp, eq64, eq64, u1, u2, w1, w2]
        constructor
        · intro q; cases q; exact ⟨rfl, rfl⟩
        · rintro ⟨q1, q2⟩; rw [Prod.ext q1 q2]
      left
      show ∃ s', mX8_goesAs_B63 K R M m w (nI t) x (nI i) = some (.inl s') ∧ _
      unfold mX8_goesAs_B63
      (repeat (first | rw [ck_t (by first | with_reducible assumption | ((with_reducible apply ixA_of); (with_reducible assumption); omega; omega) | ((with_reducible apply isAr_of); (with_reducible assumption); decide) | ((with_reducible apply nI_ne0); omega; omega) | with_reducible exact isB_0 | with_reducible exact isB_1 | with_reducible exact isB_bI _)] | rw [bd_r (by with_reducible assumption)] | rw [bd_s] | rw [bd2_s] | rw [bd3_s] | rw [nm_s] | rw [nI_clamp (by omega)] | rw [nI_1] | rw [e] | rw [kk] | rw [if_pos (by first | with_reducible assumption | ((with_reducible refine nI_lt ?_ ?_); omega; omega) | ((with_reducible refine nI_nlt ?_ ?_); omega; omega) | with_reducible exact ne10 | with_reducible rfl)] | rw [if_neg (by first | with_reducible assumption | ((with_reducible refine nI_lt ?_ ?_); omega; omega) | ((with_reducible refine nI_nlt ?_ ?_); omega; omega) | with_reducible exact ne10 | with_reducible rfl)]))
      rcases g with ⟨rfl, g⟩ | ⟨rfl, g⟩
      · rw [if_neg ne10]
        by_cases c1 : M.2 (m + 9) k = M.2 (m + 17) i
        · by_cases c2 : M.2 (m + 10) k = M.2 (m + 18) i
          · refine ⟨(1, nI (i + 1)), ?_, rfl, Or.inl ⟨rfl, fun j hj => ?_⟩⟩
            · (repeat (first | rw [ck_t (by first | with_reducible assumption | ((with_reducible apply ixA_of); (with_reducible assumption); omega; omega) | ((with_reducible apply isAr_of); (with_reducible assumption); decide) | ((with_reducible apply nI_ne0); omega; omega) | with_reducible exact isB_0 | with_reducible exact isB_1 | with_reducible exact isB_bI _)] | rw [bd_r (by with_reducible assumption)] | rw [bd_s] | rw [bd2_s] | rw [bd3_s] | rw [nm_s] | rw [nI_clamp (by omega)] | rw [nI_1] | rw [J 1] | rw [if_pos (by first | with_reducible assumption | ((with_reducible refine nI_lt ?_ ?_); omega; omega) | ((with_reducible refine nI_nlt ?_ ?_); omega; omega) | with_reducible exact ne10 | with_reducible rfl)] | rw [if_neg (by first | with_reducible assumption | ((with_reducible refine nI_lt ?_ ?_); omega; omega) | ((with_reducible refine nI_nlt ?_ ?_); omega; omega) | with_reducible exact ne10 | with_reducible rfl)]))
            · by_cases z : j = i
              · subst z; rw [hK]; exact eqi.mpr ⟨c1, c2⟩
              · exact g j (by omega)
          · refine ⟨(0, nI (i + 1)), ?_, rfl, Or.inr ⟨rfl, fun q => c2 (eqi.mp (by have := q i (by omega); rw [hK] at this; exact this)).2⟩⟩
            (repeat (first | rw [ck_t (by first | with_reducible assumption | ((with_reducible apply ixA_of); (with_reducible assumption); omega; omega) | ((with_reducible apply isAr_of); (with_reducible assumption); decide) | ((with_reducible apply nI_ne0); omega; omega) | with_reducible exact isB_0 | with_reducible exact isB_1 | with_reducible exact isB_bI _)] | rw [bd_r (by with_reducible assumption)] | rw [bd_s] | rw [bd2_s] | rw [bd3_s] | rw [nm_s] | rw [nI_clamp (by omega)] | rw [nI_1] | rw [J0] | rw [if_pos (by first | with_reducible assumption | ((with_reducible refine nI_lt ?_ ?_); omega; omega) | ((with_reducible refine nI_nlt ?_ ?_); omega; omega) | with_reducible exact ne10 | with_reducible rfl)] | rw [if_neg (by first | with_reducible assumption | ((with_reducible refine nI_lt ?_ ?_); omega; omega) | ((with_reducible refine nI_nlt ?_ ?_); omega; omega) | with_reducible exact ne10 | with_reducible rfl)]))
        · refine ⟨(0, nI (i + 1)), ?_, rfl, Or.inr ⟨rfl, fun q => c1 (eqi.mp (by have := q i (by omega); rw [hK] at this; exact this)).1⟩⟩
          (repeat (first | rw [ck_t (by first | with_reducible assumption | ((with_reducible apply ixA_of); (with_reducible assumption); omega; omega) | ((with_reducible apply isAr_of); (with_reducible assumption); decide) | ((with_reducible apply nI_ne0); omega; omega) | with_reducible exact isB_0 | with_reducible exact isB_1 | with_reducible exact isB_bI _)] | rw [bd_r (by with_reducible assumption)] | rw [bd_s] | rw [bd2_s] | rw [bd3_s] | rw [nm_s] | rw [nI_clamp (by omega)] | rw [nI_1] | rw [J0] | rw [if_pos (by first | with_reducible assumption | ((with_reducible refine nI_lt ?_ ?_); omega; omega) | ((with_reducible refine nI_nlt ?_ ?_); omega; omega) | with_reducible exact ne10 | with_reducible rfl)] | rw [if_neg (by first | with_reducible assumption | ((with_reducible refine nI_lt ?_ ?_); omega; omega) | ((with_reducible refine nI_nlt ?_ ?_); omega; omega) | with_reducible exact ne10 | with_reducible rfl)]))
      · rw [if_pos rfl, J0]
        exact ⟨_, rfl, rfl, Or.inr ⟨rfl, fun q => g (fun j hj => q j (by omega))⟩⟩
    · rintro ⟨x, z⟩ ⟨rfl, g0⟩
      have g : iv x (∀ j, j < H.length → L[j]? = H[(if s = true then t + j + H.length else t + H.length - j) % H.length]?) := g0
      refine ⟨x, ?_, g.congr gsi⟩
      show mX8_goesAs_B63 K R M m w (nI t) x (nI H.length) = _
      unfold mX8_goesAs_B63
      have := g.b
      (repeat (first | rw [ck_t (by first | with_reducible assumption | ((with_reducible apply ixA_of); (with_reducible assumption); omega; omega) | ((with_reducible apply isAr_of); (with_reducible assumption); decide) | ((with_reducible apply nI_ne0); omega; omega) | with_reducible exact isB_0 | with_reducible exact isB_1 | with_reducible exact isB_bI _)] | rw [bd_r (by with_reducible assumption)] | rw [bd_s] | rw [bd2_s] | rw [bd3_s] | rw [nm_s] | rw [nI_clamp (by omega)] | rw [nI_1] | rw [e] | rw [if_pos (by first | with_reducible assumption | ((with_reducible refine nI_lt ?_ ?_); omega; omega) | ((with_reducible refine nI_nlt ?_ ?_); omega; omega) | with_reducible exact ne10 | with_reducible rfl)] | rw [if_neg (by first | with_reducible assumption | ((with_reducible refine nI_lt ?_ ?_); omega; omega) | ((with_reducible refine nI_nlt ?_ ?_); omega; omega) | with_reducible exact ne10 | with_reducible rfl)]))
      rfl
  have hW := lp_ind (f := mX8_goesAs_L2 K R M m w) (fun (i : Nat) (x : Int32) => x = nI i ∧ ∀ j, j < i → H[j]? ≠ some f) (fun v => iv v (gsP H L s)) H.length ?_ ?_
  · obtain ⟨v, e1, e2⟩ := hW H.length 0 (nI 0) (by omega) ⟨rfl, fun j hj => absurd hj (by omega)⟩
    refine ⟨v, ?_, e2⟩
    unfold mX8_goesAs
    (repeat (first | rw [ck_t (by first | with_reducible assumption | ((with_reducible apply ixA_of); (with_reducible assumption); omega; omega) | ((with_reducible apply isAr_of); (with_reducible assumption); decide) | ((with_reducible apply nI_ne0); omega; omega) | with_reducible exact isB_0 | with_reducible exact isB_1 | with_reducible exact isB_bI _)] | rw [bd_r (by with_reducible assumption)] | rw [bd_s] | rw [bd2_s] | rw [bd3_s] | rw [nm_s] | rw [nI_clamp (by omega)] | rw [nI_1] | rw [if_pos (by first | with_reducible assumption | ((with_reducible refine nI_lt ?_ ?_); omega; omega) | ((with_reducible refine nI_nlt ?_ ?_); omega; omega) | with_reducible exact ne10 | with_reducible rfl)] | rw [if_neg (by first | with_reducible assumption | ((with_reducible refine nI_lt ?_ ?_); omega; omega) | ((with_reducible refine nI_nlt ?_ ?_); omega; omega) | with_reducible exact ne10 | with_reducible rfl)]))
    exact e1
  · rintro i x hi ⟨rfl, g⟩
    obtain ⟨p, hp⟩ := get_ex hi
    obtain ⟨u1, u2⟩ := h.2 _ _ hp
    have cl0 : (0 : Int32).toNatClampNeg = 0 := rfl
    have x22 : ixA K (m + 17) 1 0 := ixA_of (i := 0) a22 (by omega) (by omega)
    have x23 : ixA K (m + 18) 1 0 := ixA_of (i := 0) a23 (by omega) (by omega)
    have J : mX8_goesAs_J42 K R M m w (nI i) = some (.inl (nI (i + 1))) := by unfold mX8_goesAs_J42; (repeat (first | rw [ck_t (by first | with_reducible assumption | ((with_reducible apply ixA_of); (with_reducible assumption); omega; omega) | ((with_reducible apply isAr_of); (with_reducible assumption); decide) | ((with_reducible apply nI_ne0); omega; omega) | with_reducible exact isB_0 | with_reducible exact isB_1 | with_reducible exact isB_bI _)] | rw [bd_r (by with_reducible assumption)] | rw [bd_s] | rw [bd2_s] | rw [bd3_s] | rw [nm_s] | rw [nI_clamp (by omega)] | rw [nI_1] | rw [if_pos (by first | with_reducible assumption | ((with_reducible refine nI_lt ?_ ?_); omega; omega) | ((with_reducible refine nI_nlt ?_ ?_); omega; omega) | with_reducible exact ne10 | with_reducible rfl)] | rw [if_neg (by first | with_reducible assumption | ((with_reducible refine nI_lt ?_ ?_); omega; omega) | ((with_reducible refine nI_nlt ?_ ?_); omega; omega) | with_reducible exact ne10 | with_reducible rfl)]))
    have eqi : p = f ↔ (M.2 (m + 9) i = M.2 (m + 17) 0 ∧ M.2 (m + 10) i = M.2 (m + 18) 0) := by
      rw [eq64, eq64, u1, u2, y1, y2]
      constructor
      · intro q; rw [q]; exact ⟨rfl, rfl⟩
      · rintro ⟨q1, q2⟩; exact Prod.ext q1 q2
    have nx : p ≠ f → ∀ j, j < i + 1 → H[j]? ≠ some f := fun q j hj z => by
      by_cases hji : j = i
      · subst hji; exact q (get_un hp z)
      · exact g j (by omega) z
    show (∃ s', mX8_goesAs_B2 K R M m w (nI i) = some (.inl s') ∧ _) ∨ ∃ x, mX8_goesAs_B2 K R M m w (nI i) = some (.inr x) ∧ _
    unfold mX8_goesAs_B2
    by_cases c1 : M.2 (m + 9) i = M.2 (m + 17) 0
    · by_cases c2 : M.2 (m + 10) i = M.2 (m + 18) 0
      · right
        have pf := eqi.mpr ⟨c1, c2⟩
        subst pf
        obtain ⟨v, v1, v2⟩ := fin i hp g
        refine ⟨v, ?_, v2⟩
        (repeat (first | rw [ck_t (by first | with_reducible assumption | ((with_reducible apply ixA_of); (with_reducible assumption); omega; omega) | ((with_reducible apply isAr_of); (with_reducible assumption); decide) | ((with_reducible apply nI_ne0); omega; omega) | with_reducible exact isB_0 | with_reducible exact isB_1 | with_reducible exact isB_bI _)] | rw [bd_r (by with_reducible assumption)] | rw [bd_s] | rw [bd2_s] | rw [bd3_s] | rw [nm_s] | rw [nI_clamp (by omega)] | rw [nI_1] | rw [e] | rw [cl0] | rw [v1] | rw [if_pos (by first | with_reducible assumption | ((with_reducible refine nI_lt ?_ ?_); omega; omega) | ((with_reducible refine nI_nlt ?_ ?_); omega; omega) | with_reducible exact ne10 | with_reducible rfl)] | rw [if_neg (by first | with_reducible assumption | ((with_reducible refine nI_lt ?_ ?_); omega; omega) | ((with_reducible refine nI_nlt ?_ ?_); omega; omega) | with_reducible exact ne10 | with_reducible rfl)]))
        rfl
      · left
        refine ⟨nI (i + 1), ?_, rfl, nx (fun q => c2 (eqi.mp q).2)⟩
        (repeat (first | rw [ck_t (by first | with_reducible assumption | ((with_reducible apply ixA_of); (with_reducible assumption); omega; omega) | ((with_reducible apply isAr_of); (with_reducible assumption); decide) | ((with_reducible apply nI_ne0); omega; omega) | with_reducible exact isB_0 | with_reducible exact isB_1 | with_reducible exact isB_bI _)] | rw [bd_r (by with_reducible assumption)] | rw [bd_s] | rw [bd2_s] | rw [bd3_s] | rw [nm_s] | rw [nI_clamp (by omega)] | rw [nI_1] | rw [e] | rw [cl0] | rw [J] | rw [if_pos (by first | with_reducible assumption | ((with_reducible refine nI_lt ?_ ?_); omega; omega) | ((with_reducible refine nI_nlt ?_ ?_); omega; omega) | with_reducible exact ne10 | with_reducible rfl)] | rw [if_neg (by first | with_reducible assumption | ((with_reducible refine nI_lt ?_ ?_); omega; omega) | ((with_reducible refine nI_nlt ?_ ?_); omega; omega) | with_reducible exact ne10 | with_reducible rfl)]))
    · left
      refine ⟨nI (i + 1), ?_, rfl, nx (fun q => c1 (eqi.mp q).1)⟩
      (repeat (first | rw [ck_t (by first | with_reducible assumption | ((with_reducible apply ixA_of); (with_reducible assumption); omega; omega) | ((with_reducible apply isAr_of); (with_reducible assumption); decide) | ((with_reducible apply nI_ne0); omega; omega) | with_reducible exact isB_0 | with_reducible exact isB_1 | with_reducible exact isB_bI _)] | rw [bd_r (by with_reducible assumption)] | rw [bd_s] | rw [bd2_s] | rw [bd3_s] | rw [nm_s] | rw [nI_clamp (by omega)] | rw [nI_1] | rw [e] | rw [cl0] | rw [J] | rw [if_pos (by first | with_reducible assumption | ((with_reducible refine nI_lt ?_ ?_); omega; omega) | ((with_reducible refine nI_nlt ?_ ?_); omega; omega) | with_reducible exact ne10 | with_reducible rfl)] | rw [if_neg (by first | with_reducible assumption | ((with_reducible refine nI_lt ?_ ?_); omega; omega) | ((with_reducible refine nI_nlt ?_ ?_); omega; omega) | with_reducible exact ne10 | with_reducible rfl)]))
  · rintro x ⟨rfl, g⟩
    obtain ⟨j, hj, hjf⟩ := mem_get f2
    exact absurd hjf (g j hj)
end FG
