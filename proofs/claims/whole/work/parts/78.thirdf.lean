/-! third, the class: one piece against another -/
noncomputable def thP (P Q : Pc) (L : List Pt) : Pc := (norm (L.map (ivM P)), Q.2.1 * P.2.1, Q.2.1 * P.2.2.1 + Q.2.2.1, Q.2.1 * P.2.2.2.1 + Q.2.2.2.1, false)
abbrev thI (Q : Pc) (L : List Pt) : Prop := ∀ x, x ∈ L → inB (mvP Q.2.1 Q.2.2.1 Q.2.2.2.1 x)
noncomputable abbrev thS (P Q : Pc) : List Pt := aS (plc P) Q.1
def thR (P Q : Pc) (N : List Pc) (v : Int64) (N' : List Pc) : Prop :=
  (¬ ovr (plc P) Q.1 ∧ v = 0 ∧ N' = N) ∨ (ovr (plc P) Q.1 ∧ ¬ allX (plc P) Q.1 ∧ v = -9000000000000000004 ∧ N' = N) ∨
  (ovr (plc P) Q.1 ∧ allX (plc P) Q.1 ∧ ∃ L, GW (thS P Q) L ∧ (((16 < L.length ∨ 40 ≤ N.length) ∧ v = -9000000000000000003 ∧ N' = N) ∨ (L.length ≤ 16 ∧ N.length < 40 ∧ ¬ thI Q L ∧ v = -9000000000000000001 ∧ N' = N) ∨ (L.length ≤ 16 ∧ N.length < 40 ∧ thI Q L ∧ v = 0 ∧ N' = N ++ [thP P Q L])))
theorem thR.un {P Q : Pc} {N N' N'' : List Pc} {v w : Int64} (h : thR P Q N v N') (g : thR P Q N w N'') : v = w ∧ N' = N'' := by
  rcases h with ⟨h1, rfl, rfl⟩ | ⟨h1, h2, rfl, rfl⟩ | ⟨h1, h2, L, h3, h4⟩
  · rcases g with ⟨g1, rfl, rfl⟩ | ⟨g1, g2, rfl, rfl⟩ | ⟨g1, g2, L', g3, g4⟩
    · exact ⟨rfl, rfl⟩
    · exact absurd g1 h1
    · exact absurd g1 h1
  · rcases g with ⟨g1, rfl, rfl⟩ | ⟨g1, g2, rfl, rfl⟩ | ⟨g1, g2, L', g3, g4⟩
    · exact absurd h1 g1
    · exact ⟨rfl, rfl⟩
    · exact absurd g2 h2
  · rcases g with ⟨g1, rfl, rfl⟩ | ⟨g1, g2, rfl, rfl⟩ | ⟨g1, g2, L', g3, g4⟩
    · exact absurd h1 g1
    · exact absurd h2 g2
    · have := GW_un h3 g3
      subst this
      rcases h4 with ⟨a1, rfl, rfl⟩ | ⟨a1, a2, a3, rfl, rfl⟩ | ⟨a1, a2, a3, rfl, rfl⟩ <;> rcases g4 with ⟨b1, rfl, rfl⟩ | ⟨b1, b2, b3, rfl, rfl⟩ | ⟨b1, b2, b3, rfl, rfl⟩
      · exact ⟨rfl, rfl⟩
      · omega
      · omega
      · omega
      · exact ⟨rfl, rfl⟩
      · exact absurd b3 a3
      · omega
      · exact absurd a3 b3
      · exact ⟨rfl, rfl⟩
theorem tq_pm {a b : Int} (ha : a = 1 ∨ a = -1) (hb : b = 1 ∨ b = -1) : a * b = 1 ∨ a * b = -1 := by rcases ha with rfl | rfl <;> rcases hb with rfl | rfl <;> decide
theorem mv_mv {P Q : Pc} (z : Pt) : mvP (Q.2.1 * P.2.1) (Q.2.1 * P.2.2.1 + Q.2.2.1) (Q.2.1 * P.2.2.2.1 + Q.2.2.2.1) z = mvP Q.2.1 Q.2.2.1 Q.2.2.2.1 (mvP P.2.1 P.2.2.1 P.2.2.2.1 z) := by
  unfold mvP
  refine Prod.ext ?_ ?_
  · show Q.2.1 * P.2.1 * z.1 + (Q.2.1 * P.2.2.1 + Q.2.2.1) = Q.2.1 * (P.2.1 * z.1 + P.2.2.1) + Q.2.2.1
    rw [Int.mul_add, Int.mul_assoc]; omega
  · show Q.2.1 * P.2.1 * z.2 + (Q.2.1 * P.2.2.2.1 + Q.2.2.2.1) = Q.2.1 * (P.2.1 * z.2 + P.2.2.2.1) + Q.2.2.2.1
    rw [Int.mul_add, Int.mul_assoc]; omega
theorem th_geo {P Q : Pc} (iP : isPc P) (iQ : isPc Q) (ov : ovr (plc P) Q.1) (hX : allX (plc P) Q.1) : (∃ L, GW (thS P Q) L) ∧ ∀ L, GW (thS P Q) L → 3 ≤ L.length ∧ Cv L ∧ (∀ x, x ∈ L → inP (plc P) x) ∧ inBs L := by
  obtain ⟨-, cP, -, pl, pB⟩ := plc_ok iP
  have p3 := plc3 iP
  obtain ⟨q1, q2, q3, q4, q5⟩ := iQ.1
  obtain ⟨ne, o3⟩ := ovr_3 cP p3 q3 q1 (inBs_of pB) iQ.1.B ov hX
  refine ⟨(hull_ex ne).elim (fun L h => ⟨L, h.1⟩), fun L hL => ?_⟩
  have l3 := o3 L hL
  have hin : ∀ x, x ∈ L → inP (plc P) x := fun x hx => aS_in cP p3 hX (GW_in hL x hx)
  exact ⟨l3, GW_Cv hL (by omega), hin, inBs_of (fun x hx => inP_B cP p3 (inBs_of pB) (hin x hx))⟩
theorem thP_ok {P Q : Pc} {L : List Pt} (iP : isPc P) (iQ : isPc Q) (cL : Cv L) (l3 : 3 ≤ L.length) (l16 : L.length ≤ 16) (hin : ∀ x, x ∈ L → inP (plc P) x) : isRg (thP P Q L).1 ∧ (∃ k, isLs (L.map (ivM P)) k) ∧ (∃ k, isLs (mvL (thP P Q L)) k) ∧ (inBs (norm (mvL (thP P Q L))) ↔ thI Q L) ∧ (thI Q L → isPc (thP P Q L)) := by
  have rg := rg_part iP cL l3 l16 hin
  have tt := tq_pm iQ.2.1 iP.2.1
  have ivt : -P.2.1 = 1 ∨ -P.2.1 = -1 := by have := iP.2.1; omega
  have iv1 : P.2.1 = 1 ∨ P.2.1 = -1 := iP.2.1
  have Cm : Cv (L.map (ivM P)) := cL.map iv1
  have back : ∀ c, c ∈ (thP P Q L).1 → ∃ x, x ∈ L ∧ mvP (Q.2.1 * P.2.1) (Q.2.1 * P.2.2.1 + Q.2.2.1) (Q.2.1 * P.2.2.2.1 + Q.2.2.2.1) c = mvP Q.2.1 Q.2.2.1 Q.2.2.2.1 x := fun c hc => by
    obtain ⟨x, hx, e⟩ := List.mem_map.mp (norm_mem.mp hc)
    exact ⟨x, hx, by rw [mv_mv, ← e, (iv_mv iP.2.1 x).1]⟩
  have forth : ∀ x, x ∈ L → ∃ c, c ∈ (thP P Q L).1 ∧ mvP (Q.2.1 * P.2.1) (Q.2.1 * P.2.2.1 + Q.2.2.1) (Q.2.1 * P.2.2.2.1 + Q.2.2.2.1) c = mvP Q.2.1 Q.2.2.1 Q.2.2.2.1 x := fun x hx => ⟨ivM P x, norm_mem.mpr (List.mem_map.mpr ⟨x, hx, rfl⟩), by rw [mv_mv, (iv_mv iP.2.1 x).1]⟩
  refine ⟨rg, isLs_ex (fun z => by have := List.length_map (as := L) (ivM P); rw [z] at this; simp at this; omega) (Cm.ds (by rw [List.length_map]; exact l3)), isLs_ex (fun z => ?_) ((rg.2.2.1.map tt).ds (by rw [List.length_map]; exact rg.1)), ⟨fun h x hx => ?_, fun h => inBs_of (fun y hy => ?_)⟩, fun h => ⟨rg, tt, fun i c hc => ?_⟩⟩
  · have e := List.length_map (as := (thP P Q L).1) (mvP (Q.2.1 * P.2.1) (Q.2.1 * P.2.2.1 + Q.2.2.1) (Q.2.1 * P.2.2.2.1 + Q.2.2.2.1))
    have := rg.1
    have z' : (thP P Q L).1.map (mvP (Q.2.1 * P.2.1) (Q.2.1 * P.2.2.1 + Q.2.2.1) (Q.2.1 * P.2.2.2.1 + Q.2.2.2.1)) = [] := z
    rw [z'] at e
    have e : 0 = (thP P Q L).1.length := e
    have : 3 ≤ (thP P Q L).1.length := this
    omega
  · obtain ⟨c, hc, e⟩ := forth x hx
    rw [← e]
    exact h.m _ (norm_mem.mpr (List.mem_map.mpr ⟨c, hc, rfl⟩))
  · obtain ⟨c, hc, e⟩ := List.mem_map.mp (norm_mem.mp hy)
    obtain ⟨x, hx, e2⟩ := back c hc
    rw [← e]
    show inB (mvP (Q.2.1 * P.2.1) (Q.2.1 * P.2.2.1 + Q.2.2.1) (Q.2.1 * P.2.2.2.1 + Q.2.2.2.1) c)
    rw [e2]; exact h x hx
  · obtain ⟨x, hx, e2⟩ := back c (get_mem hc)
    show inB (mvP (Q.2.1 * P.2.1) (Q.2.1 * P.2.2.1 + Q.2.2.1) (Q.2.1 * P.2.2.2.1 + Q.2.2.2.1) c)
    rw [e2]; exact h x hx
section TF
variable {K : Kk} {R : Rr} {M : Mm} {q : Nat}
theorem trace_ok {a b na nb : Nat} {A B : List Pt} (hc : cmA K R q) (hA : rgA K R a na) (hB : rgA K R b nb) (da : q + 8 ≤ a ∨ a + 3 ≤ q) (db : q + 8 ≤ b ∨ b + 3 ≤ q) (hAl : rgC M a A) (hBl : rgC M b B) (la : A.length ≤ na) (lb : B.length ≤ nb) (na2 : na < 2 ^ 20) (nb2 : nb < 2 ^ 20) (bA : inBs A) (bB : inBs B) (cA : Cv A) (cB : Cv B) (A3 : 3 ≤ A.length) (B3 : 3 ≤ B.length) (A16 : A.length ≤ 16) (B16 : B.length ≤ 16) (ov : ovr A B) : ∃ v M', mX0_trace K R M q a b = some (v, M') ∧ Fr (q + 1) (q + 8) M M' ∧ M'.2 = M.2 ∧ ((v = 1 ∧ allX A B ∧ ∃ L, rgC M' (q + 1) L ∧ L.length ≤ 66 ∧ GW (aS A B) L) ∨ (v = 0 ∧ ¬ allX A B)) := by
  have c0 := hc.1
  have r1 := hc.2.2.2.1
  have d0 := hc.2.2.2.2.1.1
  have a0 := hA.1
  have b0 := hB.1
  have f0 : Fr (q + 4) (q + 7) M (pI M (q + 4) 2 0) := Fr.rf.pI (by omega) (by omega)
  have z0 : rgC (pI M (q + 4) 2 0) (q + 4) [] := ⟨pI_s, fun i p hp => by cases hp⟩
  have s0 : srtd [] [] := ⟨List.Pairwise.nil, fun p => Iff.rfl, Nat.le_refl _⟩
  obtain ⟨M1, T1, e1, e2, e3, e4, e5⟩ := held_ok hc hA hB da db (hAl.fr f0 (by omega)) (hBl.fr f0 (by omega)) la lb na2 nb2 bA bB z0 s0 (by show 0 + A.length ≤ 66; omega)
  have l1 := hlL_len (A := A) (B := B) A.length
  have l2 := hlL_len (A := B) (B := A) B.length
  have F1 := f0.tr e4
  obtain ⟨M2, T2, g1, g2, g3, g4, g5⟩ := held_ok hc hB hA db da (hBl.fr F1 (by omega)) (hAl.fr F1 (by omega)) lb la nb2 na2 bB bA e2 e3 (by show (hlL A B A.length).length + B.length ≤ 66; omega)
  have F2 := F1.tr g4
  obtain ⟨v, M3, h1, h2, h3, h4⟩ := cross_ok hc hA hB da db (hAl.fr F2 (by omega)) (hBl.fr F2 (by omega)) la lb na2 nb2 bA bB cB g2 g3 (by rw [List.length_append]; show (hlL A B A.length).length + (hlL B A B.length).length ≤ 32; omega) A16
  have F3 : Fr (q + 1) (q + 8) M M3 := (F2.mono (by omega) (by omega)).tr (h2.mono (by omega) (by omega))
  have E3 : M3.2 = M.2 := h3.trans (g5.trans e5)
  rcases h4 with ⟨rfl, hX, T, t1, t2⟩ | ⟨rfl, hX⟩
  · have t2 : srtd (aS A B) T := t2
    obtain ⟨ne, o3⟩ := ovr_3 cA A3 cB B3 bA bB ov hX
    obtain ⟨L0, hL0, -⟩ := hull_ex ne
    have l3 := o3 L0 hL0
    have n1 := nd_len L0 T (GW_ds hL0) (fun p hp => (t2.2.1 p).mpr (GW_in hL0 p hp))
    have n2 := aS_len (A := A) cB A16 B16
    have n3 := t2.2.2
    obtain ⟨M4, L, k1, k2, k3, k4, k5⟩ := goRound_ok hc t1 t2.1 (by omega) (by omega) (inBs_of (fun p hp => inP_B cA A3 bA (aS_in cA A3 hX ((t2.2.1 p).mp hp))))
    have hL := k3.mem (S' := aS A B) (fun p => (t2.2.1 p).symm)
    have n4 := nd_len L T (GW_ds hL) (fun p hp => (t2.2.1 p).mpr (GW_in hL p hp))
    refine ⟨1, M4, ?_, F3.tr (k4.mono (by omega) (by omega)), k5.trans E3, Or.inl ⟨rfl, hX, L, k2, by omega, hL⟩⟩
    unfold mX0_trace
    (repeat (first | rw [ck_t (by first | with_reducible assumption | ((with_reducible apply ixA_of); (with_reducible assumption); omega; omega) | ((with_reducible apply isAr_of); (with_reducible assumption); decide) | ((with_reducible apply nI_ne0); omega; omega) | with_reducible exact isB_0 | with_reducible exact isB_1 | with_reducible exact isB_bI _)] | rw [bd_r (by with_reducible assumption)] | rw [bd_s] | rw [bd2_s] | rw [bd3_s] | rw [nm_s] | rw [nI_clamp (by omega)] | rw [nI_1] | rw [bd_e (e1)] | rw [bd_e (g1)] | rw [bd2_e (h1)] | rw [if_neg (ne10)] | rw [bd_e (k1)] | rw [if_pos (by first | with_reducible assumption | ((with_reducible refine nI_lt ?_ ?_); omega; omega) | ((with_reducible refine nI_nlt ?_ ?_); omega; omega) | with_reducible exact ne10 | with_reducible rfl)] | rw [if_neg (by first | with_reducible assumption | ((with_reducible refine nI_lt ?_ ?_); omega; omega) | ((with_reducible refine nI_nlt ?_ ?_); omega; omega) | with_reducible exact ne10 | with_reducible rfl)]))
  · refine ⟨0, M3, ?_, F3, E3, Or.inr ⟨rfl, hX⟩⟩
    unfold mX0_trace
    (repeat (first | rw [ck_t (by first | with_reducible assumption | ((with_reducible apply ixA_of); (with_reducible assumption); omega; omega) | ((with_reducible apply isAr_of); (with_reducible assumption); decide) | ((with_reducible apply nI_ne0); omega; omega) | with_reducible exact isB_0 | with_reducible exact isB_1 | with_reducible exact isB_bI _)] | rw [bd_r (by with_reducible assumption)] | rw [bd_s] | rw [bd2_s] | rw [bd3_s] | rw [nm_s] | rw [nI_clamp (by omega)] | rw [nI_1] | rw [bd_e (e1)] | rw [bd_e (g1)] | rw [bd2_e (h1)] | rw [if_pos (by first | with_reducible assumption | ((with_reducible refine nI_lt ?_ ?_); omega; omega) | ((with_reducible refine nI_nlt ?_ ?_); omega; omega) | with_reducible exact ne10 | with_reducible rfl)] | rw [if_neg (by first | with_reducible assumption | ((with_reducible refine nI_lt ?_ ?_); omega; omega) | ((with_reducible refine nI_nlt ?_ ?_); omega; omega) | with_reducible exact ne10 | with_reducible rfl)]))
theorem setPlace2_ok {q r n : Nat} {t a b : Int} {pl : List Pt} (hq : pcA K R q) (hr : rgA K R r n) (hd : r + 3 ≤ q ∨ q + 4 ≤ r) (h : rgC M r pl) (hl : pl.length ≤ 16) (hl2 : pl.length ≤ n) (hn : n < 2 ^ 20) (hB : inBs pl) (hk : ∃ k, isLs (pl.map (mvP t (-t * a) (-t * b))) k) (h1 : t = 1 ∨ t = -1) (ha : -1000000 ≤ a ∧ a ≤ 1000000) (hb : -1000000 ≤ b ∧ b ≤ 1000000) (g2 : (M.1 q 1).toInt = t) (g3 : (M.1 q 2).toInt = a) (g4 : (M.1 q 3).toInt = b) : ∃ M', mX3_setPlace K R M q r = some M' ∧ pcC M' q (norm (pl.map (mvP t (-t * a) (-t * b))), t, a, b, false) ∧ Fr q (q + 4) M M' ∧ M'.2 = M.2 := by
  obtain ⟨a0, a1, a2⟩ := hq
  have a20 := a2.1
  have r0 := hr.1
  obtain ⟨k, hk⟩ := hk
  have tn : (-M.1 q 1).toInt = -t := by rw [neg32 (by omega), g2]
  have t1 : -t = 1 ∨ -t = -1 := by omega
  have ex : (-M.1 q 1 * M.1 q 2).toInt = -t * a := pm1_mul tn t1 g3 (by omega) (by omega)
  have ey : (-M.1 q 1 * M.1 q 3).toInt = -t * b := pm1_mul tn t1 g4 (by omega) (by omega)
  have bx : -1000000 ≤ -t * a ∧ -t * a ≤ 1000000 := by rcases h1 with z | z <;> rw [z] <;> omega
  have by' : -1000000 ≤ -t * b ∧ -t * b ≤ 1000000 := by rcases h1 with z | z <;> rw [z] <;> omega
  obtain ⟨M4, d1, d2, d3, d4⟩ := takeMoved_ok (M := M) (t := M.1 q 1) (x := -M.1 q 1 * M.1 q 2) (y := -M.1 q 1 * M.1 q 3) a2 hr (by omega) hl hl2 (by decide) hn h hB g2 h1 ex ey bx by' hk
  refine ⟨pI M4 q 4 0, ?_, ⟨⟨by rw [pI_n (by omega)]; exact d2.1, fun i p hp => by rw [pI_n (by omega), pI_n (by omega)]; exact d2.2 i p hp⟩, ?_, ?_, ?_, pI_s⟩, (d3.mono (by omega) (by omega)).pI (by omega) (by omega), d4⟩
  · unfold mX3_setPlace
    (repeat (first | rw [ck_t (by first | with_reducible assumption | ((with_reducible apply ixA_of); (with_reducible assumption); omega; omega) | ((with_reducible apply isAr_of); (with_reducible assumption); decide) | ((with_reducible apply nI_ne0); omega; omega) | with_reducible exact isB_0 | with_reducible exact isB_1 | with_reducible exact isB_bI _)] | rw [bd_r (by with_reducible assumption)] | rw [bd_s] | rw [bd2_s] | rw [bd3_s] | rw [nm_s] | rw [nI_clamp (by omega)] | rw [nI_1] | rw [bd_e (d1)] | rw [if_pos (by first | with_reducible assumption | ((with_reducible refine nI_lt ?_ ?_); omega; omega) | ((with_reducible refine nI_nlt ?_ ?_); omega; omega) | with_reducible exact ne10 | with_reducible rfl)] | rw [if_neg (by first | with_reducible assumption | ((with_reducible refine nI_lt ?_ ?_); omega; omega) | ((with_reducible refine nI_nlt ?_ ?_); omega; omega) | with_reducible exact ne10 | with_reducible rfl)]))
  · rw [pI_k (by decide), (d3 q (by omega)).1]; exact g2
  · rw [pI_k (by decide), (d3 q (by omega)).1]; exact g3
  · rw [pI_k (by decide), (d3 q (by omega)).1]; exact g4
theorem placeInto2_ok {q r n : Nat} {P : Pc} (hr : rgA K R r n) (hq : pcA K R q) (hd : r + 3 ≤ q ∨ q + 4 ≤ r) (h16 : P.1.length ≤ 16) (hB : inBs P.1) (h1 : P.2.1 = 1 ∨ P.2.1 = -1) (ba : -1000000 ≤ P.2.2.1 ∧ P.2.2.1 ≤ 1000000) (bb : -1000000 ≤ P.2.2.2.1 ∧ P.2.2.2.1 ≤ 1000000) (hk : ∃ k, isLs (mvL P) k) (hn : 16 ≤ n) (hn2 : n < 2 ^ 20) (h : pcC M q P) : ∃ M', mX3_placeInto K R M q r = some M' ∧ rgC M' r (norm (mvL P)) ∧ Fr r (r + 3) M M' ∧ M'.2 = M.2 := by
  obtain ⟨a0, a1, a2⟩ := hq
  obtain ⟨g1, g2, g3, g4, g5⟩ := h
  obtain ⟨k, hk⟩ := hk
  have h0 := hr.1
  obtain ⟨M', e1, e2⟩ := takeMoved_ok (M := M) (n := n) hr a2 (by omega) (by omega) h16 hn2 (by decide) g1 hB g2 h1 g3 g4 ba bb hk
  refine ⟨M', ?_, e2⟩
  unfold mX3_placeInto
  (repeat (first | rw [ck_t (by first | with_reducible assumption | ((with_reducible apply ixA_of); (with_reducible assumption); omega; omega) | ((with_reducible apply isAr_of); (with_reducible assumption); decide) | ((with_reducible apply nI_ne0); omega; omega) | with_reducible exact isB_0 | with_reducible exact isB_1 | with_reducible exact isB_bI _)] | rw [bd_r (by with_reducible assumption)] | rw [bd_s] | rw [bd2_s] | rw [bd3_s] | rw [nm_s] | rw [nI_clamp (by omega)] | rw [nI_1] | rw [bd_e (e1)] | rw [if_pos (by first | with_reducible assumption | ((with_reducible refine nI_lt ?_ ?_); omega; omega) | ((with_reducible refine nI_nlt ?_ ?_); omega; omega) | with_reducible exact ne10 | with_reducible rfl)] | rw [if_neg (by first | with_reducible assumption | ((with_reducible refine nI_lt ?_ ?_); omega; omega) | ((with_reducible refine nI_nlt ?_ ?_); omega; omega) | with_reducible exact ne10 | with_reducible rfl)]))
def FT (o cd : Nat) (M M' : Mm) : Prop := (∀ b, (b < cd ∨ cd + 162 ≤ b) → (b < o + 1973 ∨ o + 1991 ≤ b) → M'.1 b = M.1 b) ∧ M'.2 = M.2
theorem FT.rf {o cd : Nat} {M : Mm} : FT o cd M M := ⟨fun _ _ _ => rfl, rfl⟩
theorem FT.tr {o cd : Nat} {M N N' : Mm} (h : FT o cd M N) (g : FT o cd N N') : FT o cd M N' := ⟨fun b h1 h2 => (g.1 b h1 h2).trans (h.1 b h1 h2), g.2.trans h.2⟩
theorem FT.fr {o cd lo hi : Nat} {N N' : Mm} (f : Fr lo hi N N') (e2 : N'.2 = N.2) (h : (o + 1973 ≤ lo ∧ hi ≤ o + 1991) ∨ (cd ≤ lo ∧ hi ≤ cd + 162)) : FT o cd N N' := ⟨fun b h1 h2 => (f b (by omega)).1, e2⟩
theorem addCommon_ok {o cd pa qa : Nat} {N : List Pc} {P Q : Pc} (hs : skC K R o) (hcd : psA K R cd) (c1 : o + 22 ≤ cd) (c2 : cd + 162 ≤ o + 1318) (hpA : pcA K R pa) (p1 : o + 22 ≤ pa) (p2 : pa + 4 ≤ o + 1967) (p3 : pa + 4 ≤ cd ∨ cd + 162 ≤ pa) (hqA : pcA K R qa) (q1 : o + 22 ≤ qa) (q2 : qa + 4 ≤ o + 1967) (q3 : qa + 4 ≤ cd ∨ cd + 162 ≤ qa) (hP : pcC M pa P) (hQ : pcC M qa Q) (iP : isPc P) (iQ : isPc Q) (hN : psC M cd N) (hf : fitP N) : ∃ v M' N', mX7_addCommon K R M o cd pa qa = some (v, M') ∧ FT o cd M M' ∧ thR P Q N v N' ∧ psC M' cd N' := by
  obtain ⟨s0, -, -, -, -, -, -, -, s7, s8, s9, s10, -, -, -, -, -, -, -, -, -, -, -, -, hcm, hmd, h1, h2, -⟩ := hs
  have m0 := hcm.1
  have cm0 := hcm.2.1
  have cmr := hcm.2.2.1
  have cm10 := cmr.1
  have h10 := h1.1
  have h20 := h2.1
  have cd0 := hcd.1
  have pa0 := hpA.1
  have qa0 := hqA.1
  have qa1 := hqA.2.1
  have md0 := hmd.1
  obtain ⟨-, cP, -, pl, pB⟩ := plc_ok iP
  have pl3 := plc3 iP
  have pl16 : (plc P).length ≤ 16 := by rw [pl]; exact iP.1.2.1
  have iQ1 := iQ.1
  obtain ⟨x1, x2, x3, x4, x5⟩ := iQ1
  have n40 := hf.1
  obtain ⟨M6, e1, e2, e3, e4⟩ := placeInto_ok (M := M) (n := 66) h1 hpA (by omega) iP (by decide) (by decide) hP
  have Q6 := hQ.fr e3 (by omega)
  have N6 := hN.fr e3 n40 (by omega)
  have F6 : FT o cd M M6 := FT.fr e3 e4 (by omega)
  obtain ⟨w, w1, w2⟩ := liesOver_ok (M := M6) h1 e2 (by omega) (by decide) (inBs_of pB) hqA.2.2 Q6.1 x2 (by decide) iQ.1.B
  rcases w2 with ⟨rfl, ov⟩ | ⟨rfl, ov⟩
  · obtain ⟨v, M13, t1, t2, t3, t4⟩ := trace_ok (M := M6) hcm h1 hqA.2.2 (by omega) (by omega) e2 Q6.1 (by omega) x2 (by decide) (by decide) (inBs_of pB) iQ.1.B cP x3 pl3 x1 pl16 x2 ov
    have F13 := F6.tr (FT.fr (cd := cd) (o := o) t2 t3 (by omega))
    have N13 := N6.fr t2 n40 (by omega)
    have eN : M13.1 cd 1 = nI N.length := N13.1
    rcases t4 with ⟨rfl, hX, L, r1, r66, hL⟩ | ⟨rfl, hX⟩
    · have eL : M13.1 (o + 1973 + 1) 2 = nI L.length := r1.1
      obtain ⟨-, geo⟩ := th_geo iP iQ ov hX
      obtain ⟨l3, cL, hin, bL⟩ := geo L hL
      by_cases l16 : L.length ≤ 16
      · have le := nI_le' l16 (by decide)
        have le : nI L.length ≤ 16 := le
        by_cases l40 : N.length < 40
        · have lt : nI N.length < 40 := nI_lt (b := 40) l40 (by decide)
          obtain ⟨rg, ls1, ls2, fit, pcn⟩ := thP_ok iP iQ cL l3 l16 hin
          have P13 : pcC M13 pa P := (hP.fr e3 (by omega)).fr t2 (by omega)
          have Q13 : pcC M13 qa Q := Q6.fr t2 (by omega)
          have mvP' := iP.mv
          have mvQ := iQ.mv
          -- the part in its origin
          generalize hM21 : pI (pI (pI M13 (o + 1981) 1 (M13.1 pa 1)) (o + 1981) 2 (M13.1 pa 2)) (o + 1981) 3 (M13.1 pa 3) = M21
          have f21 : Fr (o + 1981) (o + 1985) M13 M21 := by rw [← hM21]; exact ((Fr.rf.pI (by omega) (by omega)).pI (by omega) (by omega)).pI (by omega) (by omega)
          have l21 : M21.2 = M13.2 := by rw [← hM21]; rfl
          have k1 : (M21.1 (o + 1981) 1).toInt = P.2.1 := by rw [← hM21, pI_k (by decide), pI_k (by decide), pI_s]; exact P13.2.1
          have k2 : (M21.1 (o + 1981) 2).toInt = P.2.2.1 := by rw [← hM21, pI_k (by decide), pI_s]; exact P13.2.2.1
          have k3 : (M21.1 (o + 1981) 3).toInt = P.2.2.2.1 := by rw [← hM21, pI_s]; exact P13.2.2.2.1
          obtain ⟨M23, y1, y2, y3, y4⟩ := setPlace2_ok (M := M21) (n := 66) hmd cmr (by omega) (r1.fr f21 (by omega)) l16 (by omega) (by decide) bL ls1 iP.2.1 (by omega) (by omega) k1 k2 k3
          have F23 : Fr (o + 1981) (o + 1985) M13 M23 := f21.tr (y3.mono (by omega) (by omega))
          have P23 : pcC M23 pa P := P13.fr F23 (by omega)
          have Q23 : pcC M23 qa Q := Q13.fr F23 (by omega)
          obtain ⟨-, u1, u2, u3, -⟩ := P23
          obtain ⟨-, v1, v2, v3, -⟩ := Q23
          have mb : -2000000 ≤ P.2.2.1 ∧ P.2.2.1 ≤ 2000000 ∧ -2000000 ≤ P.2.2.2.1 ∧ P.2.2.2.1 ≤ 2000000 ∧ -2000000 ≤ P.2.1 ∧ P.2.1 ≤ 2000000 := by have := iP.2.1; omega
          have w1' := pm1_mul v1 iQ.2.1 u1 (by omega) (by omega)
          have w2' := pm1_mul v1 iQ.2.1 u2 (by omega) (by omega)
          have w3' := pm1_mul v1 iQ.2.1 u3 (by omega) (by omega)
          have b2 : -200000 ≤ Q.2.1 * P.2.2.1 ∧ Q.2.1 * P.2.2.1 ≤ 200000 := by rcases iQ.2.1 with z | z <;> rw [z] <;> omega
          have b3 : -200000 ≤ Q.2.1 * P.2.2.2.1 ∧ Q.2.1 * P.2.2.2.1 ≤ 200000 := by rcases iQ.2.1 with z | z <;> rw [z] <;> omega
          have z2 : (M23.1 qa 1 * M23.1 pa 2 + M23.1 qa 2).toInt = Q.2.1 * P.2.2.1 + Q.2.2.1 := by rw [add32 (by rw [w2', v2]; omega) (by rw [w2', v2]; omega), w2', v2]
          have z3 : (M23.1 qa 1 * M23.1 pa 3 + M23.1 qa 3).toInt = Q.2.1 * P.2.2.2.1 + Q.2.2.2.1 := by rw [add32 (by rw [w3', v3]; omega) (by rw [w3', v3]; omega), w3', v3]
          generalize hM24 : pI (pI (pI M23 (o + 1981) 1 (M23.1 qa 1 * M23.1 pa 1)) (o + 1981) 2 (M23.1 qa 1 * M23.1 pa 2 + M23.1 qa 2)) (o + 1981) 3 (M23.1 qa 1 * M23.1 pa 3 + M23.1 qa 3) = M24
          have f24 : Fr (o + 1981) (o + 1985) M23 M24 := by rw [← hM24]; exact ((Fr.rf.pI (by omega) (by omega)).pI (by omega) (by omega)).pI (by omega) (by omega)
          have l24 : M24.2 = M23.2 := by rw [← hM24]; rfl
          have pc24 : pcC M24 (o + 1981) (thP P Q L) := by
            obtain ⟨j1, j2, j3, j4, j5⟩ := y2
            have en : ∀ b, b ≠ o + 1981 → M24.1 b = M23.1 b := fun b hb => by rw [← hM24, pI_n hb, pI_n hb, pI_n hb]
            exact ⟨⟨by rw [en _ (by omega)]; exact j1.1, fun i p hp => by rw [en _ (by omega), en _ (by omega)]; exact j1.2 i p hp⟩, by rw [← hM24, pI_k (by decide), pI_k (by decide), pI_s]; exact w1', by rw [← hM24, pI_k (by decide), pI_s]; exact z2, by rw [← hM24, pI_s]; exact z3, by rw [← hM24, pI_k (by decide), pI_k (by decide), pI_k (by decide)]; exact j5⟩
          have tl : (thP P Q L).1.length = L.length := by show (norm (L.map (ivM P))).length = _; rw [norm_len, List.length_map]
          obtain ⟨M26, d1, d2, d3, d4⟩ := placeInto2_ok (M := M24) (n := 66) (P := thP P Q L) h2 hmd (by omega) (by omega) rg.B (tq_pm iQ.2.1 iP.2.1) (show _ ≤ Q.2.1 * P.2.2.1 + Q.2.2.1 ∧ Q.2.1 * P.2.2.1 + Q.2.2.1 ≤ _ by omega) (show _ ≤ Q.2.1 * P.2.2.2.1 + Q.2.2.2.1 ∧ Q.2.1 * P.2.2.2.1 + Q.2.2.2.1 ≤ _ by omega) ls2 (by decide) (by decide) pc24
          have ml : (norm (mvL (thP P Q L))).length = L.length := by rw [norm_len, List.length_map, tl]
          obtain ⟨u, i1, i2⟩ := isInBounds_ok (M := M26) h2 d2 (by omega) (by decide)
          have F26 : FT o cd M M26 := ((F13.tr (FT.fr F23 (y4.trans l21) (by omega))).tr (FT.fr f24 l24 (by omega))).tr (FT.fr d3 d4 (by omega))
          have N26 : psC M26 cd N := ((N13.fr F23 n40 (by omega)).fr f24 n40 (by omega)).fr d3 n40 (by omega)
          rcases i2 with ⟨rfl, i2⟩ | ⟨rfl, i2⟩
          · have hI := fit.mp i2
            obtain ⟨M30, g1, g2, g3, g4⟩ := padd_ok (M := M26) hcd hmd (by omega) N26 l40 (pc24.fr d3 (by omega)) (by omega)
            refine ⟨0, M30, N ++ [thP P Q L], ?_, F26.tr (FT.fr g3 g4 (by omega)), Or.inr (Or.inr ⟨ov, hX, L, hL, Or.inr (Or.inr ⟨l16, l40, hI, rfl, rfl⟩)⟩), g2⟩
            unfold mX7_addCommon
            (repeat (first | rw [ck_t (by first | with_reducible assumption | ((with_reducible apply ixA_of); (with_reducible assumption); omega; omega) | ((with_reducible apply isAr_of); (with_reducible assumption); decide) | ((with_reducible apply nI_ne0); omega; omega) | with_reducible exact isB_0 | with_reducible exact isB_1 | with_reducible exact isB_bI _)] | rw [bd_r (by with_reducible assumption)] | rw [bd_s] | rw [bd2_s] | rw [bd3_s] | rw [nm_s] | rw [nI_clamp (by omega)] | rw [nI_1] | rw [bd_e (e1)] | rw [bd_e (w1)] | rw [if_neg (ne10)] | rw [bd2_e (t1)] | rw [eL] | rw [if_pos (le)] | rw [eN] | rw [if_pos (lt)] | rw [bd_e (setMove_ok md0)] | rw [hM21] | rw [bd_e (y1)] | rw [hM24] | rw [bd_e (d1)] | rw [bd_e (i1)] | rw [bd_e (g1)] | rw [if_pos (by first | with_reducible assumption | ((with_reducible refine nI_lt ?_ ?_); omega; omega) | ((with_reducible refine nI_nlt ?_ ?_); omega; omega) | with_reducible exact ne10 | with_reducible rfl)] | rw [if_neg (by first | with_reducible assumption | ((with_reducible refine nI_lt ?_ ?_); omega; omega) | ((with_reducible refine nI_nlt ?_ ?_); omega; omega) | with_reducible exact ne10 | with_reducible rfl)]))
          · refine ⟨-9000000000000000001, M26, N, ?_, F26, Or.inr (Or.inr ⟨ov, hX, L, hL, Or.inr (Or.inl ⟨l16, l40, fun z => i2 (fit.mpr z), rfl, rfl⟩)⟩), N26⟩
            unfold mX7_addCommon
            (repeat (first | rw [ck_t (by first | with_reducible assumption | ((with_reducible apply ixA_of); (with_reducible assumption); omega; omega) | ((with_reducible apply isAr_of); (with_reducible assumption); decide) | ((with_reducible apply nI_ne0); omega; omega) | with_reducible exact isB_0 | with_reducible exact isB_1 | with_reducible exact isB_bI _)] | rw [bd_r (by with_reducible assumption)] | rw [bd_s] | rw [bd2_s] | rw [bd3_s] | rw [nm_s] | rw [nI_clamp (by omega)] | rw [nI_1] | rw [bd_e (e1)] | rw [bd_e (w1)] | rw [if_neg (ne10)] | rw [bd2_e (t1)] | rw [eL] | rw [if_pos (le)] | rw [eN] | rw [if_pos (lt)] | rw [bd_e (setMove_ok md0)] | rw [hM21] | rw [bd_e (y1)] | rw [hM24] | rw [bd_e (d1)] | rw [bd_e (i1)] | rw [if_pos (by first | with_reducible assumption | ((with_reducible refine nI_lt ?_ ?_); omega; omega) | ((with_reducible refine nI_nlt ?_ ?_); omega; omega) | with_reducible exact ne10 | with_reducible rfl)] | rw [if_neg (by first | with_reducible assumption | ((with_reducible refine nI_lt ?_ ?_); omega; omega) | ((with_reducible refine nI_nlt ?_ ?_); omega; omega) | with_reducible exact ne10 | with_reducible rfl)]))
        · have lt : ¬ nI N.length < 40 := by rw [lt32, nI_int (by omega)]; show ¬ ((_ : Nat) : Int) < 40; omega
          refine ⟨-9000000000000000003, M13, N, ?_, F13, Or.inr (Or.inr ⟨ov, hX, L, hL, Or.inl ⟨Or.inr (by omega), rfl, rfl⟩⟩), N13⟩
          unfold mX7_addCommon
          (repeat (first | rw [ck_t (by first | with_reducible assumption | ((with_reducible apply ixA_of); (with_reducible assumption); omega; omega) | ((with_reducible apply isAr_of); (with_reducible assumption); decide) | ((with_reducible apply nI_ne0); omega; omega) | with_reducible exact isB_0 | with_reducible exact isB_1 | with_reducible exact isB_bI _)] | rw [bd_r (by with_reducible assumption)] | rw [bd_s] | rw [bd2_s] | rw [bd3_s] | rw [nm_s] | rw [nI_clamp (by omega)] | rw [nI_1] | rw [bd_e (e1)] | rw [bd_e (w1)] | rw [if_neg (ne10)] | rw [bd2_e (t1)] | rw [eL] | rw [if_pos (le)] | rw [eN] | rw [if_neg (lt)] | rw [if_pos (by first | with_reducible assumption | ((with_reducible refine nI_lt ?_ ?_); omega; omega) | ((with_reducible refine nI_nlt ?_ ?_); omega; omega) | with_reducible exact ne10 | with_reducible rfl)] | rw [if_neg (by first | with_reducible assumption | ((with_reducible refine nI_lt ?_ ?_); omega; omega) | ((with_reducible refine nI_nlt ?_ ?_); omega; omega) | with_reducible exact ne10 | with_reducible rfl)]))
      · have le : ¬ nI L.length ≤ 16 := nI_nle' (b := 16) (by omega) (by omega)
        refine ⟨-9000000000000000003, M13, N, ?_, F13, Or.inr (Or.inr ⟨ov, hX, L, hL, Or.inl ⟨Or.inl (by omega), rfl, rfl⟩⟩), N13⟩
        unfold mX7_addCommon
        (repeat (first | rw [ck_t (by first | with_reducible assumption | ((with_reducible apply ixA_of); (with_reducible assumption); omega; omega) | ((with_reducible apply isAr_of); (with_reducible assumption); decide) | ((with_reducible apply nI_ne0); omega; omega) | with_reducible exact isB_0 | with_reducible exact isB_1 | with_reducible exact isB_bI _)] | rw [bd_r (by with_reducible assumption)] | rw [bd_s] | rw [bd2_s] | rw [bd3_s] | rw [nm_s] | rw [nI_clamp (by omega)] | rw [nI_1] | rw [bd_e (e1)] | rw [bd_e (w1)] | rw [if_neg (ne10)] | rw [bd2_e (t1)] | rw [eL] | rw [if_neg (le)] | rw [if_pos (by first | with_reducible assumption | ((with_reducible refine nI_lt ?_ ?_); omega; omega) | ((with_reducible refine nI_nlt ?_ ?_); omega; omega) | with_reducible exact ne10 | with_reducible rfl)] | rw [if_neg (by first | with_reducible assumption | ((with_reducible refine nI_lt ?_ ?_); omega; omega) | ((with_reducible refine nI_nlt ?_ ?_); omega; omega) | with_reducible exact ne10 | with_reducible rfl)]))
    · refine ⟨-9000000000000000004, M13, N, ?_, F13, Or.inr (Or.inl ⟨ov, hX, rfl, rfl⟩), N13⟩
      unfold mX7_addCommon
      (repeat (first | rw [ck_t (by first | with_reducible assumption | ((with_reducible apply ixA_of); (with_reducible assumption); omega; omega) | ((with_reducible apply isAr_of); (with_reducible assumption); decide) | ((with_reducible apply nI_ne0); omega; omega) | with_reducible exact isB_0 | with_reducible exact isB_1 | with_reducible exact isB_bI _)] | rw [bd_r (by with_reducible assumption)] | rw [bd_s] | rw [bd2_s] | rw [bd3_s] | rw [nm_s] | rw [nI_clamp (by omega)] | rw [nI_1] | rw [bd_e (e1)] | rw [bd_e (w1)] | rw [if_neg (ne10)] | rw [bd2_e (t1)] | rw [if_pos (by first | with_reducible assumption | ((with_reducible refine nI_lt ?_ ?_); omega; omega) | ((with_reducible refine nI_nlt ?_ ?_); omega; omega) | with_reducible exact ne10 | with_reducible rfl)] | rw [if_neg (by first | with_reducible assumption | ((with_reducible refine nI_lt ?_ ?_); omega; omega) | ((with_reducible refine nI_nlt ?_ ?_); omega; omega) | with_reducible exact ne10 | with_reducible rfl)]))
  · refine ⟨0, M6, N, ?_, F6, Or.inl ⟨ov, rfl, rfl⟩, N6⟩
    unfold mX7_addCommon
    (repeat (first | rw [ck_t (by first | with_reducible assumption | ((with_reducible apply ixA_of); (with_reducible assumption); omega; omega) | ((with_reducible apply isAr_of); (with_reducible assumption); decide) | ((with_reducible apply nI_ne0); omega; omega) | with_reducible exact isB_0 | with_reducible exact isB_1 | with_reducible exact isB_bI _)] | rw [bd_r (by with_reducible assumption)] | rw [bd_s] | rw [bd2_s] | rw [bd3_s] | rw [nm_s] | rw [nI_clamp (by omega)] | rw [nI_1] | rw [bd_e (e1)] | rw [bd_e (w1)] | rw [if_pos (by first | with_reducible assumption | ((with_reducible refine nI_lt ?_ ?_); omega; omega) | ((with_reducible refine nI_nlt ?_ ?_); omega; omega) | with_reducible exact ne10 | with_reducible rfl)] | rw [if_neg (by first | with_reducible assumption | ((with_reducible refine nI_lt ?_ ?_); omega; omega) | ((with_reducible refine nI_nlt ?_ ?_); omega; omega) | with_reducible exact ne10 | with_reducible rfl)]))
end TF
