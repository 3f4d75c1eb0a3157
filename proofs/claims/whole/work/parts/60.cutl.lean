/-! PURE GEOMETRY: the parts of a ring, pieces of them -/
theorem GW_un {S L L' : List Pt} (h : GW S L) (g : GW S L') : L = L' := by
  have key : ∀ {L L' : List Pt}, GW S L → GW S L' → L.length ≤ L'.length ∧ ∀ (i : Nat) a b, L[i]? = some a → L'[i]? = some b → a = b := fun {L L'} h g => by
    obtain ⟨f, f1, f2, f3, f4, f5⟩ := id h
    obtain ⟨f', g1, g2, g3, g4, g5⟩ := id g
    have ff : f = f' := by
      rcases f3 f' g2 with z | z
      · exact z.symm
      · rcases g3 f f2 with w | w
        · exact w
        · exact absurd w (fun q => ltP_asy z q)
    subst ff
    have p1 := get_lt f1
    have p2 := get_lt g1
    have one : ∀ {L : List Pt}, GW S L → L.length = 1 → ∀ p, p ∈ S → ∀ q, q ∈ S → p = q := fun {L} h h1 p hp q hq => by
      obtain ⟨u, u1, u2, u3, u4, u5⟩ := id h
      rcases u5 with ⟨-, z⟩ | z
      · rw [z p hp, z q hq]
      · have e := z 0 u u u1 (by rw [h1]; exact u1)
        exact absurd rfl e.2.1
    have eqs : ∀ (i : Nat) a b, L[i]? = some a → L'[i]? = some b → a = b := by
      intro i
      induction i with
      | zero => intro a b ha hb; rw [get_un ha f1, get_un hb g1]
      | succ i ih =>
        intro a b ha hb
        have la := get_lt ha
        have lb := get_lt hb
        obtain ⟨a0, ha0⟩ := get_ex (l := L) (i := i) (by omega)
        obtain ⟨b0, hb0⟩ := get_ex (l := L') (i := i) (by omega)
        have e := ih a0 b0 ha0 hb0
        subst e
        exact Ed_un (h.ed (by omega) ha0 (by rw [Nat.mod_eq_of_lt la]; exact ha)) (g.ed (by omega) hb0 (by rw [Nat.mod_eq_of_lt lb]; exact hb))
    refine ⟨?_, eqs⟩
    by_cases z : L.length ≤ L'.length
    · exact z
    · exfalso
      have nx : L'.length < L.length := by omega
      by_cases h1 : L'.length = 1
      · obtain ⟨c, hc⟩ := get_ex nx
        exact f4 _ c (by omega) hc (one g h1 c (GW_in h c (get_mem hc)) f f2)
      · obtain ⟨a0, ha0⟩ := get_ex (l := L) (i := L'.length - 1) (by omega)
        obtain ⟨b0, hb0⟩ := get_ex (l := L') (i := L'.length - 1) (by omega)
        obtain ⟨c, hc⟩ := get_ex nx
        have e := eqs _ a0 b0 ha0 hb0
        subst e
        have e1 := h.ed (by omega) ha0 (by rw [show L'.length - 1 + 1 = L'.length by omega, Nat.mod_eq_of_lt nx]; exact hc)
        have e2 := g.ed (by omega) hb0 (by rw [show L'.length - 1 + 1 = L'.length by omega, Nat.mod_self]; exact g1)
        exact f4 _ c (by omega) hc (Ed_un e1 e2)
  have k1 := key h g
  have k2 := key g h
  refine List.ext_getElem? (fun i => ?_)
  by_cases hi : i < L.length
  · obtain ⟨a, ha⟩ := get_ex hi
    obtain ⟨b, hb⟩ := get_ex (l := L') (i := i) (by omega)
    rw [ha, hb, k1.2 i a b ha hb]
  · rw [List.getElem?_eq_none (by omega), List.getElem?_eq_none (by omega)]
theorem norm_eq {l m : List Pt} (h : Cv l) (h3 : 3 ≤ l.length) (g : Cv m) (g3 : 3 ≤ m.length) (e : ∀ p, p ∈ l ↔ p ∈ m) : norm l = norm m := GW_un (GW_norm h h3).1 ((GW_norm g g3).1.mem e)
/-- a move turned back -/
abbrev ivM (P : Pc) : Pt → Pt := mvP P.2.1 (-P.2.1 * P.2.2.1) (-P.2.1 * P.2.2.2.1)
theorem iv_mv {P : Pc} (h1 : P.2.1 = 1 ∨ P.2.1 = -1) (x : Pt) : mvP P.2.1 P.2.2.1 P.2.2.2.1 (ivM P x) = x ∧ ivM P (mvP P.2.1 P.2.2.1 P.2.2.2.1 x) = x := by
  unfold ivM mvP
  rcases h1 with e | e <;> rw [e] <;> exact ⟨Prod.ext (by simp only; omega) (by simp only; omega), Prod.ext (by simp only; omega) (by simp only; omega)⟩
theorem plc_mem {P : Pc} {c : Pt} (h : c ∈ plc P) : ∃ o, o ∈ P.1 ∧ c = mvP P.2.1 P.2.2.1 P.2.2.2.1 o := by
  obtain ⟨o, h1, h2⟩ := List.mem_map.mp (norm_mem.mp h)
  exact ⟨o, h1, h2.symm⟩
theorem plc3 {P : Pc} (h : isPc P) : 3 ≤ (plc P).length := by rw [(plc_ok h).2.2.2.1]; exact h.1.1
theorem iv_B {P : Pc} (h : isPc P) {x : Pt} (hx : inP (plc P) x) : inB (ivM P x) := by
  obtain ⟨-, q2, -, q4, -⟩ := plc_ok h
  have F := fan q2 (plc3 h) (inP_H.mp hx)
  have g' : ∀ (G : Hp) (c : Pt), gv G (hpt c) = G.1 * c.1 + G.2.1 * c.2 + G.2.2 := fun G c => by unfold gv hpt; simp
  have tr : ∀ (G : Hp) (c : Pt), gv (P.2.1 * G.1, P.2.1 * G.2.1, G.1 * (-P.2.1 * P.2.2.1) + G.2.1 * (-P.2.1 * P.2.2.2.1) + G.2.2) (hpt c) = gv G (hpt (ivM P c)) := fun G c => by unfold gv hpt ivM mvP; grind
  have bd : ∀ G : Hp, (∀ o, inB o → gv G (hpt o) ≤ 0) → gv G (hpt (ivM P x)) ≤ 0 := fun G hG => by
    rw [← tr]
    refine F.le (fun c hc => ?_)
    rw [tr]
    obtain ⟨o, ho, rfl⟩ := plc_mem hc
    rw [(iv_mv h.2.1 o).2]
    exact hG o (h.1.B.m o ho)
  have f1 := bd (1, 0, -100000) (fun c hc => by unfold inB at hc; rw [g']; simp only; omega)
  have f2 := bd (-1, 0, -100000) (fun c hc => by unfold inB at hc; rw [g']; simp only; omega)
  have f3 := bd (0, 1, -100000) (fun c hc => by unfold inB at hc; rw [g']; simp only; omega)
  have f4 := bd (0, -1, -100000) (fun c hc => by unfold inB at hc; rw [g']; simp only; omega)
  rw [g'] at f1 f2 f3 f4
  unfold inB
  simp only at f1 f2 f3 f4
  omega
theorem rg_part {P : Pc} (h : isPc P) {pl : List Pt} (hC : Cv pl) (h3 : 3 ≤ pl.length) (h16 : pl.length ≤ 16) (hin : ∀ x, x ∈ pl → inP (plc P) x) : isRg (norm (pl.map (ivM P))) := by
  have hC2 : Cv (pl.map (ivM P)) := hC.map h.2.1
  have h32 : 3 ≤ (pl.map (ivM P)).length := by rw [List.length_map]; exact h3
  obtain ⟨-, n2, n3, n4⟩ := GW_norm hC2 h32
  refine ⟨by omega, by rw [n4, List.length_map]; exact h16, n2, n3, fun i p hp => ?_⟩
  obtain ⟨x, hx, rfl⟩ := List.mem_map.mp (norm_mem.mp (get_mem hp))
  exact iv_B h (hin x hx)
theorem part_mv {P : Pc} (h : isPc P) {pl : List Pt} (t a b : Int) {i : Nat} {c : Pt} (hc : (norm (pl.map (ivM P)))[i]? = some c) : ∃ x, x ∈ pl ∧ c = ivM P x ∧ mvP P.2.1 P.2.2.1 P.2.2.2.1 c = x := by
  obtain ⟨x, hx, rfl⟩ := List.mem_map.mp (norm_mem.mp (get_mem hc))
  exact ⟨x, hx, rfl, (iv_mv h.2.1 x).1⟩
/-- the part of a piece: of the same move -/
theorem pc_part {P : Pc} (h : isPc P) {pl : List Pt} (hC : Cv pl) (h3 : 3 ≤ pl.length) (h16 : pl.length ≤ 16) (hin : ∀ x, x ∈ pl → inP (plc P) x) : isPc (norm (pl.map (ivM P)), P.2.1, P.2.2.1, P.2.2.2.1, false) := by
  refine ⟨rg_part h hC h3 h16 hin, h.2.1, fun i c hc => ?_⟩
  obtain ⟨x, hx, -, e⟩ := part_mv h 0 0 0 hc
  show inB (mvP P.2.1 P.2.2.1 P.2.2.2.1 c)
  rw [e]
  obtain ⟨-, q2, -, -, q5⟩ := plc_ok h
  exact inP_B q2 (plc3 h) (inBs_of q5) (hin x hx)
/-! the parts -/
noncomputable def ap1 (c : Prop) (x : Pt) : List Pt := @ite _ c (Classical.propDecidable _) [x] []
theorem ap1_t {c : Prop} {x : Pt} (h : c) : ap1 c x = [x] := by unfold ap1; rw [if_pos h]
theorem ap1_f {c : Prop} {x : Pt} (h : ¬ c) : ap1 c x = [] := by unfold ap1; rw [if_neg h]
noncomputable def prt (A B : Pt) (s : Int) (l : List Pt) : Nat → List Pt
  | 0 => []
  | i + 1 => prt A B s l i ++ ap1 (0 ≤ s * crs A B (vx l i)) (vx l i) ++ ap1 (opp (crs A B (vx l i)) (crs A B (vx l (i + 1)))) (mtP A B (vx l i) (vx l (i + 1)))
noncomputable def cntS (A B : Pt) (s : Int) (l : List Pt) : Nat → Nat
  | 0 => 0
  | i + 1 => cntS A B s l i + @ite _ (0 < s * crs A B (vx l i)) (Classical.propDecidable _) 1 0
noncomputable def bb (c : Prop) : Bool := @decide c (Classical.propDecidable _)
theorem bb_t {c : Prop} (h : c) : bb c = true := by unfold bb; exact @decide_eq_true _ (Classical.propDecidable _) h
theorem bb_f {c : Prop} (h : ¬ c) : bb c = false := by unfold bb; exact @decide_eq_false _ (Classical.propDecidable _) h
theorem bb_i {c : Prop} : bb c = true ↔ c := by
  constructor
  · intro h
    by_cases z : c
    · exact z
    · rw [bb_f z] at h; cases h
  · exact bb_t
section PR
variable {A B : Pt} {s : Int} {l : List Pt}
noncomputable def kys (f : Nat → Prop) (n : Nat) : List Nat := (List.range n).filter (fun k => bb (f k))
theorem kys_get {f : Nat → Prop} {n i k : Nat} (h : (kys f n)[i]? = some k) : k < n ∧ f k := by
  have := List.mem_filter.mp (List.mem_of_getElem? h)
  exact ⟨List.mem_range.mp this.1, bb_i.mp this.2⟩
theorem kys_lt {f : Nat → Prop} {n i j k m : Nat} (hij : i < j) (h : (kys f n)[i]? = some k) (g : (kys f n)[j]? = some m) : k < m := by
  have p : (kys f n).Pairwise (· < ·) := List.pairwise_lt_range.filter _
  obtain ⟨hi, ei⟩ := List.getElem?_eq_some_iff.mp h
  obtain ⟨hj, ej⟩ := List.getElem?_eq_some_iff.mp g
  have := List.pairwise_iff_getElem.mp p i j hi hj hij
  rw [ei, ej] at this; exact this
theorem kys_mem {f : Nat → Prop} {n k : Nat} : k ∈ kys f n ↔ k < n ∧ f k := by
  unfold kys
  rw [List.mem_filter, List.mem_range, bb_i]
theorem kys_2 (f : Nat → Prop) (i : Nat) : kys f (2 * (i + 1)) = kys f (2 * i) ++ @ite _ (f (2 * i)) (Classical.propDecidable _) [2 * i] [] ++ @ite _ (f (2 * i + 1)) (Classical.propDecidable _) [2 * i + 1] [] := by
  unfold kys
  have one : ∀ k, [k].filter (fun k => bb (f k)) = @ite _ (f k) (Classical.propDecidable _) [k] [] := fun k => by
    by_cases h : f k
    · rw [if_pos h]
      exact (List.filter_cons_of_pos (p := fun k => bb (f k)) (bb_t h)).trans rfl
    · rw [if_neg h]
      exact (List.filter_cons_of_neg (p := fun k => bb (f k)) (by rw [bb_f h]; decide)).trans rfl
  rw [show 2 * (i + 1) = 2 * i + 1 + 1 by omega, List.range_succ, List.range_succ, List.filter_append, List.filter_append, one, one]
theorem prt_keys : ∀ i, prt A B s l i = (kys (kkp A B s l) (2 * i)).map (kpt A B l)
  | 0 => rfl
  | i + 1 => by
    have e0 : kkp A B s l (2 * i) = (0 ≤ s * crs A B (vx l i)) := by unfold kkp; rw [if_pos (by omega), show 2 * i / 2 = i by omega]
    have e1 : kkp A B s l (2 * i + 1) = opp (crs A B (vx l i)) (crs A B (vx l (i + 1))) := by unfold kkp; rw [if_neg (by omega), show (2 * i + 1) / 2 = i by omega]
    have p0 : kpt A B l (2 * i) = vx l i := by unfold kpt; rw [if_pos (by omega), show 2 * i / 2 = i by omega]
    have p1 : kpt A B l (2 * i + 1) = mtP A B (vx l i) (vx l (i + 1)) := by unfold kpt; rw [if_neg (by omega), show (2 * i + 1) / 2 = i by omega]
    rw [kys_2, List.map_append, List.map_append, ← prt_keys i, e0, e1]
    show prt A B s l i ++ _ ++ _ = _
    congr 1
    · congr 1
      by_cases h : 0 ≤ s * crs A B (vx l i)
      · rw [ap1_t h, if_pos h]; show _ = [kpt A B l (2 * i)]; rw [p0]
      · rw [ap1_f h, if_neg h]; rfl
    · by_cases h : opp (crs A B (vx l i)) (crs A B (vx l (i + 1)))
      · rw [ap1_t h, if_pos h]; show _ = [kpt A B l (2 * i + 1)]; rw [p1]
      · rw [ap1_f h, if_neg h]; rfl
abbrev allW (A B : Pt) (l : List Pt) : Prop := ∀ i, i < l.length → opp (crs A B (vx l i)) (crs A B (vx l (i + 1))) → whl A B (vx l i) (vx l (i + 1))
theorem prt_get {i : Nat} {x : Pt} (h : (prt A B s l l.length)[i]? = some x) : ∃ k, (kys (kkp A B s l) (2 * l.length))[i]? = some k ∧ x = kpt A B l k := by
  rw [prt_keys, List.getElem?_map] at h
  cases hk : (kys (kkp A B s l) (2 * l.length))[i]? with
  | none => rw [hk] at h; cases h
  | some k => rw [hk] at h; cases h; exact ⟨k, rfl, rfl⟩
theorem prt_Cv (hC : Cv l) (h3 : 3 ≤ l.length) (hs : sgn1 s) (hw : allW A B l) : Cv (prt A B s l l.length) := by
  intro i j k a b c hij hjk ha hb hc
  obtain ⟨x, hx, rfl⟩ := prt_get ha
  obtain ⟨y, hy, rfl⟩ := prt_get hb
  obtain ⟨z, hz, rfl⟩ := prt_get hc
  have gx := kys_get hx
  have gy := kys_get hy
  have gz := kys_get hz
  exact key_cv hC h3 hs hw (kys_lt hij hx hy) (kys_lt hjk hy hz) gz.1 gx.2 gy.2 gz.2
theorem vx_m {i : Nat} (h : 0 < l.length) : vx l i ∈ l := by unfold vx; exact get_mem (gp_get (Nat.mod_lt _ h))
theorem prt_in (hC : Cv l) (h3 : 3 ≤ l.length) (hw : allW A B l) : ∀ x, x ∈ prt A B s l l.length → inP l x := fun x hx => by
  obtain ⟨i, -, hi⟩ := mem_get hx
  obtain ⟨k, hk, rfl⟩ := prt_get hi
  have g := kys_get hk
  rw [inP_H]
  rcases key_on hw g.1 g.2 with ⟨-, e, -⟩ | ⟨-, -, -, w0, w1, -, g2, g3, g4⟩
  · rw [e]; exact hC.inH (vx_m (by omega))
  · intro j a b ha hb
    have h1 := hC.inH (vx_m (l := l) (i := k / 2) (by omega)) j a b ha hb
    have h2 := hC.inH (vx_m (l := l) (i := k / 2 + 1) (by omega)) j a b ha hb
    have e := g4 (fG a b)
    have m1 := Int.mul_nonneg (show 0 ≤ w0 by omega) h1
    have m2 := Int.mul_nonneg g3 h2
    rcases ilg (gv (fG a b) (hpt (kpt A B l k))) 0 with r | r
    · have := Int.mul_neg_of_pos_of_neg (show 0 < w0 + w1 by omega) r; omega
    · exact r
/-! where the line goes through -/
def zky (A B : Pt) (l : List Pt) (k : Nat) : Prop := if k % 2 = 0 then crs A B (vx l (k / 2)) = 0 else opp (crs A B (vx l (k / 2))) (crs A B (vx l (k / 2 + 1)))
theorem zky_kkp {k : Nat} (h : zky A B l k) (s : Int) : kkp A B s l k := by
  unfold zky at h
  unfold kkp
  by_cases z : k % 2 = 0
  · rw [if_pos z] at h ⊢; rw [h, Int.mul_zero]; omega
  · rw [if_neg z] at h ⊢; exact h
theorem zky_0 (hw : allW A B l) {k : Nat} (hk : k < 2 * l.length) (h : zky A B l k) : crs A B (kpt A B l k) = 0 := by
  rcases key_on hw hk (zky_kkp h 1) with ⟨z, e, -⟩ | ⟨-, -, e, -⟩
  · unfold zky at h; rw [if_pos z] at h; rw [e]; exact h
  · exact e
theorem zky_le2 (hC : Cv l) (h3 : 3 ≤ l.length) (hAB : A ≠ B) (hw : allW A B l) : (kys (zky A B l) (2 * l.length)).length ≤ 2 := by
  by_cases h : (kys (zky A B l) (2 * l.length)).length ≤ 2
  · exact h
  · exfalso
    have ex : ∀ i, i < 3 → ∃ k, (kys (zky A B l) (2 * l.length))[i]? = some k := fun i hi => ⟨_, List.getElem?_eq_getElem (show i < _ by omega)⟩
    obtain ⟨a, ha⟩ := ex 0 (by omega)
    obtain ⟨b, hb⟩ := ex 1 (by omega)
    obtain ⟨c, hc⟩ := ex 2 (by omega)
    have ga := kys_get ha
    have gb := kys_get hb
    have gc := kys_get hc
    have := key_cv hC h3 (Or.inl rfl) hw (kys_lt (by omega) ha hb) (kys_lt (by omega) hb hc) gc.1 (zky_kkp ga.2 1) (zky_kkp gb.2 1) (zky_kkp gc.2 1)
    rw [collin hAB (zky_0 hw ga.1 ga.2) (zky_0 hw gb.1 gb.2) (zky_0 hw gc.1 gc.2)] at this
    omega
theorem prt_len (hs : sgn1 s) : ∀ i, (prt A B s l i).length = cntS A B s l i + (kys (zky A B l) (2 * i)).length
  | 0 => rfl
  | i + 1 => by
    have e0 : zky A B l (2 * i) = (crs A B (vx l i) = 0) := by unfold zky; rw [if_pos (by omega), show 2 * i / 2 = i by omega]
    have e1 : zky A B l (2 * i + 1) = opp (crs A B (vx l i)) (crs A B (vx l (i + 1))) := by unfold zky; rw [if_neg (by omega), show (2 * i + 1) / 2 = i by omega]
    have ih := prt_len hs i
    show (prt A B s l i ++ _ ++ _).length = cntS A B s l i + _ + _
    rw [kys_2, e0, e1, List.length_append, List.length_append, List.length_append, List.length_append, ih]
    have n1 : ((ap1 (0 ≤ s * crs A B (vx l i)) (vx l i)).length : Nat) = (@ite Nat (0 < s * crs A B (vx l i)) (Classical.propDecidable _) 1 0) + (@ite _ (crs A B (vx l i) = 0) (Classical.propDecidable _) [2 * i] []).length := by
      have tri : 0 < s * crs A B (vx l i) ∨ crs A B (vx l i) = 0 ∨ s * crs A B (vx l i) < 0 := by rcases hs with rfl | rfl <;> omega
      rcases tri with h | h | h
      · rw [ap1_t (by omega), if_pos h, if_neg (fun q => by rw [q] at h; omega)]; rfl
      · rw [ap1_t (by rw [h, Int.mul_zero]; omega), if_neg (by rw [h, Int.mul_zero]; omega), if_pos h]; rfl
      · rw [ap1_f (by omega), if_neg (by omega), if_neg (fun q => by rw [q] at h; omega)]; rfl
    have n2 : (ap1 (opp (crs A B (vx l i)) (crs A B (vx l (i + 1)))) (mtP A B (vx l i) (vx l (i + 1)))).length = (@ite _ (opp (crs A B (vx l i)) (crs A B (vx l (i + 1)))) (Classical.propDecidable _) [2 * i + 1] []).length := by
      by_cases h : opp (crs A B (vx l i)) (crs A B (vx l (i + 1)))
      · rw [ap1_t h, if_pos h]; rfl
      · rw [ap1_f h, if_neg h]; rfl
    omega
theorem ivt (hs : sgn1 s) : ∀ d i, 0 < s * crs A B (vx l i) → s * crs A B (vx l (i + d)) < 0 → ∃ k, 2 * i < k ∧ k < 2 * (i + d) ∧ zky A B l k
  | 0, i, h, g => by rw [Nat.add_zero] at g; omega
  | d + 1, i, h, g => by
    have tri : 0 < s * crs A B (vx l (i + 1)) ∨ crs A B (vx l (i + 1)) = 0 ∨ s * crs A B (vx l (i + 1)) < 0 := by rcases hs with rfl | rfl <;> omega
    rcases tri with z | z | z
    · obtain ⟨k, k1, k2, k3⟩ := ivt hs d (i + 1) z (by rw [show i + 1 + d = i + (d + 1) by omega]; exact g)
      exact ⟨k, by omega, by omega, k3⟩
    · have hd : d ≠ 0 := fun q => by subst q; rw [z, Int.mul_zero] at g; omega
      exact ⟨2 * (i + 1), by omega, by omega, by unfold zky; rw [if_pos (by omega), show 2 * (i + 1) / 2 = i + 1 by omega]; exact z⟩
    · exact ⟨2 * i + 1, by omega, by omega, by unfold zky; rw [if_neg (by omega), show (2 * i + 1) / 2 = i by omega]; unfold opp; rcases hs with rfl | rfl <;> omega⟩
theorem zky_two (hs : sgn1 s) {i j : Nat} (hij : i < j) (hj : j < l.length) (h : 0 < s * crs A B (vx l i)) (g : s * crs A B (vx l j) < 0) : ∃ k m, k ≠ m ∧ k < 2 * l.length ∧ m < 2 * l.length ∧ zky A B l k ∧ zky A B l m := by
  obtain ⟨k, k1, k2, k3⟩ := ivt hs (j - i) i h (by rw [show i + (j - i) = j by omega]; exact g)
  have hs' : sgn1 (-s) := by rcases hs with rfl | rfl <;> unfold sgn1 <;> omega
  have tri : 0 < s * crs A B (vx l 0) ∨ crs A B (vx l 0) = 0 ∨ s * crs A B (vx l 0) < 0 := by rcases hs with rfl | rfl <;> omega
  rcases tri with z | z | z
  · obtain ⟨m, m1, m2, m3⟩ := ivt (A := A) (B := B) (l := l) hs' (l.length - j) j (by rw [Int.neg_mul]; omega) (by rw [show j + (l.length - j) = l.length by omega, vx_n, Int.neg_mul]; omega)
    exact ⟨k, m, by omega, by omega, by omega, k3, m3⟩
  · exact ⟨k, 0, by omega, by omega, by omega, k3, by unfold zky; rw [if_pos (by omega)]; exact z⟩
  · obtain ⟨m, m1, m2, m3⟩ := ivt (A := A) (B := B) (l := l) hs' i 0 (by rw [Int.neg_mul]; omega) (by rw [Nat.zero_add, Int.neg_mul]; omega)
    exact ⟨k, m, by omega, by omega, by omega, k3, m3⟩
theorem two_len {α : Type} {L : List α} {a b : α} (ha : a ∈ L) (hb : b ∈ L) (h : a ≠ b) : 2 ≤ L.length := by
  match L, ha, hb with
  | [x], ha, hb => exact absurd ((List.mem_singleton.mp ha).trans (List.mem_singleton.mp hb).symm) h
  | x :: y :: L, _, _ => simp only [List.length_cons]; omega
theorem cntS_ex : ∀ n, 0 < cntS A B s l n → ∃ i, i < n ∧ 0 < s * crs A B (vx l i)
  | 0, h => absurd h (by show ¬ 0 < 0; omega)
  | n + 1, h => by
    by_cases z : 0 < s * crs A B (vx l n)
    · exact ⟨n, by omega, z⟩
    · have h : 0 < cntS A B s l n + @ite _ (0 < s * crs A B (vx l n)) (Classical.propDecidable _) 1 0 := h
      rw [if_neg z] at h
      obtain ⟨i, hi, hp⟩ := cntS_ex n h
      exact ⟨i, by omega, hp⟩
/-- a part has the corners on its side and two on the line -/
theorem prt_n (hC : Cv l) (h3 : 3 ≤ l.length) (hs : sgn1 s) (hAB : A ≠ B) (hw : allW A B l) (h1 : 0 < cntS A B 1 l l.length) (h2 : 0 < cntS A B (-1) l l.length) : (prt A B s l l.length).length = cntS A B s l l.length + 2 ∧ 0 < cntS A B s l l.length := by
  have up := zky_le2 hC h3 hAB hw
  obtain ⟨i, hi, gi⟩ := cntS_ex _ h1
  obtain ⟨j, hj, gj⟩ := cntS_ex _ h2
  have dn : 2 ≤ (kys (zky A B l) (2 * l.length)).length := by
    have two : ∃ k m, k ≠ m ∧ k < 2 * l.length ∧ m < 2 * l.length ∧ zky A B l k ∧ zky A B l m := by
      rcases Nat.lt_trichotomy i j with z | z | z
      · exact zky_two (s := 1) (Or.inl rfl) z hj gi (by omega)
      · subst z; omega
      · exact zky_two (s := -1) (Or.inr rfl) z hi gj (by omega)
    obtain ⟨k, m, k1, k2, k3, k4, k5⟩ := two
    exact two_len (kys_mem.mpr ⟨k2, k4⟩) (kys_mem.mpr ⟨k3, k5⟩) k1
  refine ⟨by rw [prt_len hs]; omega, ?_⟩
  rcases hs with rfl | rfl
  · exact h1
  · exact h2
end PR
