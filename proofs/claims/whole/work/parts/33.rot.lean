/-! PURE: rings turned, begun at the least, moved -/
def rotL (k : Nat) (l : List Pt) : List Pt := l.drop k ++ l.take k
def isLs (l : List Pt) (k : Nat) : Prop := ∃ f, l[k]? = some f ∧ ∀ (j : Nat) p, j ≠ k → l[j]? = some p → ltP f p
noncomputable def lsI (l : List Pt) : Nat := @dite _ (∃ k, isLs l k) (Classical.propDecidable _) (fun h => Classical.choose h) (fun _ => 0)
noncomputable def norm (l : List Pt) : List Pt := rotL (lsI l) l
abbrev mvL (P : Pc) : List Pt := P.1.map (mvP P.2.1 P.2.2.1 P.2.2.2.1)
/-- a piece's place -/
noncomputable def plc (P : Pc) : List Pt := norm (mvL P)
def Ds (l : List Pt) : Prop := ∀ (i j : Nat) p, l[i]? = some p → l[j]? = some p → i = j
theorem rotL_len (k : Nat) (l : List Pt) : (rotL k l).length = l.length := by unfold rotL; simp; omega
theorem rotL_get {k i : Nat} {l : List Pt} (hk : k < l.length) (hi : i < l.length) : (rotL k l)[i]? = l[(k + i) % l.length]? := by
  unfold rotL
  by_cases h : k + i < l.length
  · rw [List.getElem?_append_left (by simp; omega), List.getElem?_drop, Nat.mod_eq_of_lt h]
  · rw [List.getElem?_append_right (by simp; omega), List.length_drop, List.getElem?_take, if_pos (by omega)]
    congr 1
    rw [show k + i = (i - (l.length - k)) + l.length by omega, Nat.add_mod_right, Nat.mod_eq_of_lt (by omega)]
theorem rotL_mem {k : Nat} {l : List Pt} {p : Pt} : p ∈ rotL k l ↔ p ∈ l := by
  unfold rotL
  rw [List.mem_append]
  constructor
  · rintro (h | h)
    · exact List.mem_of_mem_drop h
    · exact List.mem_of_mem_take h
  · intro h
    rw [← List.take_append_drop k l] at h
    rcases List.mem_append.mp h with h | h
    · exact Or.inr h
    · exact Or.inl h
theorem rotL_0 (l : List Pt) : rotL 0 l = l := by unfold rotL; simp
theorem isLs_un {l : List Pt} {k j : Nat} (h : isLs l k) (g : isLs l j) : k = j := by
  obtain ⟨f, h1, h2⟩ := h
  obtain ⟨e, g1, g2⟩ := g
  by_cases q : k = j
  · exact q
  · exact absurd (g2 k f q h1) (fun z => ltP_asy z (h2 j e (Ne.symm q) g1))
theorem lsI_of {l : List Pt} {k : Nat} (h : isLs l k) : lsI l = k := by
  unfold lsI
  have he : ∃ k, isLs l k := ⟨k, h⟩
  rw [dif_pos he]
  exact isLs_un (Classical.choose_spec he) h
theorem norm_of {l : List Pt} {k : Nat} (h : isLs l k) : norm l = rotL k l := by unfold norm; rw [lsI_of h]
theorem least_ex : ∀ (l : List Pt), l ≠ [] → ∃ f, f ∈ l ∧ ∀ p, p ∈ l → p = f ∨ ltP f p
  | [], h => absurd rfl h
  | [x], _ => ⟨x, List.mem_singleton.mpr rfl, fun p hp => Or.inl (List.mem_singleton.mp hp)⟩
  | x :: y :: t, _ => by
    obtain ⟨f, hf, h⟩ := least_ex (y :: t) (by simp)
    rcases ltP_tot x f with g | g | g
    · refine ⟨x, List.mem_cons_self, fun p hp => ?_⟩
      rcases List.mem_cons.mp hp with e | e
      · exact Or.inl e
      · rcases h p e with z | z
        · rw [z]; exact Or.inr g
        · exact Or.inr (ltP_tr g z)
    · refine ⟨x, List.mem_cons_self, fun p hp => ?_⟩
      rcases List.mem_cons.mp hp with e | e
      · exact Or.inl e
      · rw [g]; exact h p e
    · refine ⟨f, List.mem_cons_of_mem _ hf, fun p hp => ?_⟩
      rcases List.mem_cons.mp hp with e | e
      · rw [e]; exact Or.inr g
      · exact h p e
theorem isLs_ex {l : List Pt} (h : l ≠ []) (d : Ds l) : ∃ k, isLs l k := by
  obtain ⟨f, hf, hall⟩ := least_ex l h
  obtain ⟨k, _, hk⟩ := mem_get hf
  refine ⟨k, f, hk, fun j p hj hp => ?_⟩
  rcases hall p (get_mem hp) with e | e
  · subst e; exact absurd (d j k p hp hk) hj
  · exact e
theorem isLs_lt {l : List Pt} {k : Nat} (h : isLs l k) : k < l.length := by obtain ⟨f, hf, _⟩ := h; exact get_lt hf
/-- the ring begun at its least one -/
theorem lstF_rot {l : List Pt} {k : Nat} (h : isLs l k) : lstF (rotL k l) := by
  have hk := isLs_lt h
  obtain ⟨f, h1, h2⟩ := h
  intro a ha i b hi hb
  have hil := get_lt hb
  rw [rotL_len] at hil
  rw [rotL_get hk (by omega), Nat.add_zero, Nat.mod_eq_of_lt hk] at ha
  obtain rfl := get_un ha h1
  rw [rotL_get hk hil] at hb
  refine h2 _ b ?_ hb
  by_cases q : k + i < l.length
  · rw [Nat.mod_eq_of_lt q]; omega
  · rw [show k + i = (k + i - l.length) + l.length by omega, Nat.add_mod_right, Nat.mod_eq_of_lt (by omega)]; omega
theorem isLs_0 {l : List Pt} (h : lstF l) (hl : l ≠ []) : isLs l 0 := by
  match l, hl with
  | x :: t, _ => exact ⟨x, rfl, fun j p hj hp => h x rfl j p (by omega) hp⟩
theorem norm_F {l : List Pt} (h : lstF l) : norm l = l := by
  by_cases hl : l = []
  · subst hl; unfold norm rotL; simp
  · rw [norm_of (isLs_0 h hl), rotL_0]
/-! triples -/
theorem crs_rot (a b c : Pt) : crs b c a = crs a b c := by unfold crs; grind
theorem crs_rot2 (a b c : Pt) : crs c a b = crs a b c := by unfold crs; grind
theorem crs_swap (a b c : Pt) : crs a c b = -crs a b c := by unfold crs; grind
theorem crs_aa (a b : Pt) : crs a a b = 0 := by unfold crs; grind
theorem crs_ab (a b : Pt) : crs a b a = 0 := by unfold crs; grind
theorem crs_bb (a b : Pt) : crs a b b = 0 := by unfold crs; grind
theorem crs_mv {t a b : Int} (ht : t = 1 ∨ t = -1) (p q r : Pt) : crs (mvP t a b p) (mvP t a b q) (mvP t a b r) = crs p q r := by
  unfold crs mvP
  rcases ht with rfl | rfl <;> grind
theorem Cv.rot {l : List Pt} {k : Nat} (h : Cv l) (hk : k < l.length) : Cv (rotL k l) := by
  intro x y z a b c hxy hyz ha hb hc
  have hz := get_lt hc
  rw [rotL_len] at hz
  rw [rotL_get hk (by omega)] at ha hb hc
  have md : ∀ i, i < l.length → (k + i < l.length ∧ (k + i) % l.length = k + i) ∨ (l.length ≤ k + i ∧ (k + i) % l.length = k + i - l.length) := fun i hi => by
    by_cases q : k + i < l.length
    · exact Or.inl ⟨q, Nat.mod_eq_of_lt q⟩
    · refine Or.inr ⟨by omega, ?_⟩
      rw [show k + i = (k + i - l.length) + l.length by omega, Nat.add_mod_right, Nat.mod_eq_of_lt (by omega)]; omega
  rcases md x (by omega) with ⟨u1, u2⟩ | ⟨u1, u2⟩ <;> rcases md y (by omega) with ⟨v1, v2⟩ | ⟨v1, v2⟩ <;> rcases md z (by omega) with ⟨w1, w2⟩ | ⟨w1, w2⟩ <;> rw [u2] at ha <;> rw [v2] at hb <;> rw [w2] at hc <;> first | omega | skip
  · exact h _ _ _ a b c (by omega) (by omega) ha hb hc
  · rw [← crs_rot2]; exact h _ _ _ c a b (by omega) (by omega) hc ha hb
  · rw [← crs_rot]; exact h _ _ _ b c a (by omega) (by omega) hb hc ha
  · exact h _ _ _ a b c (by omega) (by omega) ha hb hc
theorem Cv.ds {l : List Pt} (h : Cv l) (h3 : 3 ≤ l.length) : Ds l := by
  have key : ∀ (i j : Nat) p, i < j → l[i]? = some p → l[j]? = some p → False := fun i j p hij hi hj => by
    have hjl := get_lt hj
    by_cases h0 : 0 < i
    · obtain ⟨q, hq⟩ := get_ex (l := l) (i := 0) (by omega)
      have := h 0 i j q p p h0 hij hq hi hj
      rw [crs_bb] at this; omega
    · by_cases h1 : i + 1 < j
      · obtain ⟨q, hq⟩ := get_ex (l := l) (i := i + 1) (by omega)
        have := h i (i + 1) j p q p (by omega) h1 hi hq hj
        rw [crs_ab] at this; omega
      · obtain ⟨q, hq⟩ := get_ex (l := l) (i := j + 1) (by omega)
        have := h i j (j + 1) p p q hij (by omega) hi hj hq
        rw [crs_aa] at this; omega
  intro i j p hi hj
  rcases Nat.lt_trichotomy i j with g | g | g
  · exact absurd (key i j p g hi hj) id
  · exact g
  · exact absurd (key j i p g hj hi) id
theorem get_map {l : List Pt} {f : Pt → Pt} {i : Nat} {p : Pt} (h : (l.map f)[i]? = some p) : ∃ q, l[i]? = some q ∧ p = f q := by
  rw [List.getElem?_map] at h
  cases hq : l[i]? with
  | none => rw [hq] at h; cases h
  | some q => rw [hq] at h; cases h; exact ⟨q, rfl, rfl⟩
theorem map_get {l : List Pt} {f : Pt → Pt} {i : Nat} {p : Pt} (h : l[i]? = some p) : (l.map f)[i]? = some (f p) := by rw [List.getElem?_map, h]; rfl
theorem Cv.map {l : List Pt} {t a b : Int} (h : Cv l) (ht : t = 1 ∨ t = -1) : Cv (l.map (mvP t a b)) := by
  intro x y z p q r hxy hyz hp hq hr
  obtain ⟨p', hp', rfl⟩ := get_map hp
  obtain ⟨q', hq', rfl⟩ := get_map hq
  obtain ⟨r', hr', rfl⟩ := get_map hr
  rw [crs_mv ht]
  exact h x y z p' q' r' hxy hyz hp' hq' hr'
/-- the side behind corner i of a strictly convex ring has all others left -/
theorem Cv.side {l : List Pt} (h : Cv l) {i j : Nat} {a b p : Pt} (ha : l[i]? = some a) (hb : l[(i + 1) % l.length]? = some b) (hp : l[j]? = some p) : j = i ∨ j = (i + 1) % l.length ∨ 0 < crs a b p := by
  have hi := get_lt ha
  have hj := get_lt hp
  by_cases q : i + 1 < l.length
  · rw [Nat.mod_eq_of_lt q] at hb ⊢
    by_cases h1 : j < i
    · refine Or.inr (Or.inr ?_)
      rw [← crs_rot2]; exact h j i (i + 1) p a b h1 (by omega) hp ha hb
    · by_cases h2 : j = i
      · exact Or.inl h2
      · by_cases h3 : j = i + 1
        · exact Or.inr (Or.inl h3)
        · exact Or.inr (Or.inr (h i (i + 1) j a b p (by omega) (by omega) ha hb hp))
  · have : i + 1 = l.length := by omega
    rw [this, Nat.mod_self] at hb ⊢
    by_cases h2 : j = i
    · exact Or.inl h2
    · by_cases h3 : j = 0
      · exact Or.inr (Or.inl h3)
      · refine Or.inr (Or.inr ?_)
        rw [← crs_rot]; exact h 0 j i b p a (by omega) (by omega) hb hp ha
/-- what is strictly left is not outside -/
theorem left_in {a b p : Pt} (h : 0 < crs a b p) : ¬ out a b p ∧ out a p b := by
  refine ⟨?_, Or.inl (by rw [crs_swap]; omega)⟩
  rintro (g | ⟨g, -⟩) <;> omega
theorem GW_cv {l : List Pt} (h : Cv l) (h3 : 3 ≤ l.length) (hf : lstF l) : GW l l := by
  obtain ⟨f, f0⟩ := get_ex (l := l) (i := 0) (by omega)
  refine ⟨f, f0, get_mem f0, fun p hp => ?_, fun i b hi hb => ?_, Or.inr fun i a b ha hb => ⟨get_mem hb, ?_, fun p hp => ?_⟩⟩
  · obtain ⟨i, hi, hpi⟩ := mem_get hp
    by_cases q : i = 0
    · subst q; exact Or.inl (get_un hpi f0)
    · exact Or.inr (hf f f0 i p (by omega) hpi)
  · rintro rfl
    exact ltP_irr (hf b f0 i b hi hb)
  · rintro rfl
    have := h.ds h3 _ _ _ ha hb
    have hi := get_lt ha
    by_cases q : i + 1 < l.length
    · rw [Nat.mod_eq_of_lt q] at this; omega
    · have e : i + 1 = l.length := by omega
      rw [e, Nat.mod_self] at this; omega
  · obtain ⟨j, hj, hpj⟩ := mem_get hp
    rcases h.side ha hb hpj with g | g | g
    · subst g; exact Or.inl (get_un hpj ha)
    · subst g; exact Or.inr (Or.inl (get_un hpj hb))
    · exact Or.inr (Or.inr (left_in g))
theorem GW.mem {S S' L : List Pt} (h : GW S L) (e : ∀ p, p ∈ S' ↔ p ∈ S) : GW S' L := by
  obtain ⟨f, h1, h2, h3, h4, h5⟩ := h
  refine ⟨f, h1, (e f).mpr h2, fun p hp => h3 p ((e p).mp hp), h4, ?_⟩
  rcases h5 with ⟨g1, g2⟩ | g
  · exact Or.inl ⟨g1, fun p hp => g2 p ((e p).mp hp)⟩
  · refine Or.inr fun i a b ha hb => ?_
    obtain ⟨e1, e2, e3⟩ := g i a b ha hb
    exact ⟨(e b).mpr e1, e2, fun p hp => e3 p ((e p).mp hp)⟩
/-- a convex ring in any order of its points, as gift wrapping gives it -/
theorem GW_norm {l : List Pt} (h : Cv l) (h3 : 3 ≤ l.length) : GW l (norm l) ∧ Cv (norm l) ∧ lstF (norm l) ∧ (norm l).length = l.length := by
  obtain ⟨k, hk⟩ := isLs_ex (l := l) (by rintro rfl; simp at h3) (h.ds h3)
  rw [norm_of hk]
  have hc := h.rot (isLs_lt hk)
  have hl := lstF_rot hk
  exact ⟨(GW_cv hc (by rw [rotL_len]; exact h3) hl).mem (fun p => rotL_mem.symm), hc, hl, rotL_len k l⟩
theorem norm_mem {l : List Pt} {p : Pt} : p ∈ norm l ↔ p ∈ l := rotL_mem
theorem norm_len (l : List Pt) : (norm l).length = l.length := rotL_len _ _
/-- the place of a piece that is well made -/
theorem plc_ok {P : Pc} (h : isPc P) : GW (mvL P) (plc P) ∧ Cv (plc P) ∧ lstF (plc P) ∧ (plc P).length = P.1.length ∧ ∀ p, p ∈ plc P → inB p := by
  obtain ⟨⟨h1, h2, h3, h4, h5⟩, h6, h7⟩ := h
  have hc : Cv (mvL P) := h3.map h6
  obtain ⟨g1, g2, g3, g4⟩ := GW_norm hc (by rw [List.length_map]; exact h1)
  refine ⟨g1, g2, g3, by rw [show plc P = norm (mvL P) from rfl, g4, List.length_map], fun p hp => ?_⟩
  obtain ⟨i, _, hi⟩ := mem_get (norm_mem.mp hp)
  obtain ⟨q, hq, rfl⟩ := get_map hi
  exact h7 i q hq
