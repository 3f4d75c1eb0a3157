/-! COPIES of rings, pieces, all pieces -/
section CY
variable {K : Kk} {R : Rr} {M : Mm}
theorem cpy_at {f g : Nat → Int32} {n j : Nat} (h : j < n) : va_cpy f g 0 0 n j = f j := by simp [va_cpy, h]
theorem take_ok {r q n n2 : Nat} {l : List Pt} (hr : rgA K R r n) (hq : rgA K R q n2) (hd : r + 3 ≤ q ∨ q + 3 ≤ r) (hl : l.length ≤ n) (hl2 : l.length ≤ n2) (hn : n < 2 ^ 20) (h : rgC M q l) : ∃ M', mX5_take K R M r q = some M' ∧ rgC M' r l ∧ Fr r (r + 3) M M' ∧ M'.2 = M.2 := by
  obtain ⟨a0, a1, a2, a3, a4⟩ := hr
  obtain ⟨c0, c1, c2, c3, c4⟩ := hq
  obtain ⟨h1, h2⟩ := h
  have hsz : (if (nI n : Int32) < nI l.length then nI n else nI l.length) = nI l.length := if_neg (nI_nlt hl (by omega))
  have hcl : (nI l.length).toNatClampNeg = l.length := nI_clamp (by omega)
  generalize e5 : pI M r 2 (nI l.length) = M5
  generalize e8 : cpI M5 (q + 1) (r + 1) 0 0 (nI l.length) = M8
  generalize e12 : cpI M8 (q + 2) (r + 2) 0 0 (nI l.length) = M12
  have f5 : ∀ b, b ≠ r → M5.1 b = M.1 b := fun b hb => by rw [← e5, pI_n hb]
  have f8 : ∀ b, b ≠ r + 1 → M8.1 b = M5.1 b := fun b hb => by rw [← e8]; simp [cpI, hb]
  have f12 : ∀ b, b ≠ r + 2 → M12.1 b = M8.1 b := fun b hb => by rw [← e12]; simp [cpI, hb]
  have s5 : M5.1 r 2 = nI l.length := by rw [← e5, pI_s]
  have s8 : M8.1 r 2 = nI l.length := by rw [f8 r (by omega)]; exact s5
  have ok : ∀ a b n0 n1, isA K a 0 n0 → isA K b 0 n1 → l.length ≤ n0 → l.length ≤ n1 → okC K 0 a b 0 0 (nI l.length) := fun a b n0 n1 ha hb h0 h1 => ⟨n0, n1, ha, hb, by decide, by decide, nI_pos (by omega), by rw [hcl]; show 0 + _ ≤ _; omega, by rw [hcl]; show 0 + _ ≤ _; omega⟩
  refine ⟨M12, ?_, ⟨?_, fun i p hp => ?_⟩, fun b hb => ⟨?_, ?_⟩, ?_⟩
  · unfold mX5_take
    rw [ck_t a0, ck_t c0, a1, bd_s, ck_t (isAr_of a3 (by decide)), alen_of a3, h1, hsz, nm_s, e5, c1, bd_s, s5, ck_t (ok _ _ _ _ c3 a3 hl2 hl), nm_s, e8, c2, bd_s, a2, bd_s, s8, ck_t (ok _ _ _ _ c4 a4 hl2 hl), nm_s, e12]
  · rw [f12 r (by omega)]; exact s8
  · have hi := (List.getElem?_eq_some_iff.mp hp).1
    rw [f12 (r + 1) (by omega)]
    have g1 : M8.1 (r + 1) i = M.1 (q + 1) i := by
      rw [← e8]
      show (if r + 1 = r + 1 then va_cpy (M5.1 (q + 1)) (M5.1 (r + 1)) 0 0 (nI l.length).toNatClampNeg else _) i = _
      rw [if_pos rfl, hcl, cpy_at hi, f5 _ (by omega)]
    have g2 : M12.1 (r + 2) i = M.1 (q + 2) i := by
      rw [← e12]
      show (if r + 2 = r + 2 then va_cpy (M8.1 (q + 2)) (M8.1 (r + 2)) 0 0 (nI l.length).toNatClampNeg else _) i = _
      rw [if_pos rfl, hcl, cpy_at hi, f8 _ (by omega), f5 _ (by omega)]
    rw [g1, g2]
    exact h2 i p hp
  · rw [f12 b (by omega), f8 b (by omega), f5 b (by omega)]
  · rw [← e12, ← e8, ← e5]; rfl
  · rw [← e12, ← e8, ← e5]; rfl
theorem isB_bI (b : Bool) : isB (bI b) := by
  cases b
  · exact isB_0
  · exact isB_1
theorem setMove_ok {r : Nat} {t a b : Int32} (h : isO K r 3) : mX3_setMove K R M r t a b = some (pI (pI (pI M r 1 t) r 2 a) r 3 b) := by
  unfold mX3_setMove
  rw [ck_t h, nm_s, nm_s, nm_s]
theorem ptake_ok {r q : Nat} {p : Pc} (hr : pcA K R r) (hq : pcA K R q) (hd : r + 4 ≤ q ∨ q + 4 ≤ r) (hl : p.1.length ≤ 16) (h : pcC M q p) : ∃ M', mX3_take K R M r q = some M' ∧ pcC M' r p ∧ Fr r (r + 4) M M' ∧ M'.2 = M.2 := by
  obtain ⟨a0, a1, a2⟩ := hr
  obtain ⟨c0, c1, c2⟩ := hq
  obtain ⟨h1, h2, h3, h4, h5⟩ := h
  obtain ⟨M5, e1, e2, e3, e4⟩ := take_ok (M := M) a2 c2 (by omega) hl hl (by decide) h1
  have eq := (e3 q (by omega)).1
  generalize e9 : pI (pI (pI (pI M5 r 1 (M5.1 q 1)) r 2 (M5.1 q 2)) r 3 (M5.1 q 3)) r 4 (M5.1 q 4) = M9
  have g : ∀ b, b ≠ r → M9.1 b = M5.1 b := fun b hb => by rw [← e9, pI_n hb, pI_n hb, pI_n hb, pI_n hb]
  have fr5 : Fr r (r + 4) M M5 := e3.mono (by omega) (by omega)
  have fr9 : Fr r (r + 4) M M9 := by
    rw [← e9]
    exact (((fr5.pI (by omega) (by omega)).pI (by omega) (by omega)).pI (by omega) (by omega)).pI (by omega) (by omega)
  refine ⟨M9, ?_, ⟨⟨by rw [g _ (by omega)]; exact e2.1, fun i c hc => by rw [g _ (by omega), g _ (by omega)]; exact e2.2 i c hc⟩, ?_, ?_, ?_, ?_⟩, fr9, by rw [← e9]; exact e4⟩
  · unfold mX3_take
    have hq4 : (pI (pI (pI M5 r 1 (M5.1 q 1)) r 2 (M5.1 q 2)) r 3 (M5.1 q 3)).1 q 4 = M5.1 q 4 := by rw [pI_n (by omega), pI_n (by omega), pI_n (by omega)]
    rw [ck_t a0, ck_t c0, a1, bd_s, c1, bd_s, ck_t a2.1, e1, bd_s, setMove_ok a0, bd_s, hq4, ck_t (by rw [eq, h5]; exact isB_bI _), nm_s, e9]
  · rw [← e9, pI_k (by decide), pI_k (by decide), pI_k (by decide), pI_s, eq]; exact h2
  · rw [← e9, pI_k (by decide), pI_k (by decide), pI_s, eq]; exact h3
  · rw [← e9, pI_k (by decide), pI_s, eq]; exact h4
  · rw [← e9, pI_s, eq]; exact h5
/-- lists of pieces that fit -/
def fitP (ps : List Pc) : Prop := ps.length ≤ 40 ∧ ∀ (i : Nat) p, ps[i]? = some p → p.1.length ≤ 16
theorem isPs.fit {ps : List Pc} (h : isPs ps) : fitP ps := ⟨h.1, fun i p hp => (h.2 i p hp).1.2.1⟩
theorem pstake_ok {r q : Nat} {ps : List Pc} (hr : psA K R r) (hq : psA K R q) (hd : r + 162 ≤ q ∨ q + 162 ≤ r) (hf : fitP ps) (h : psC M q ps) : ∃ M', mX4_take K R M r q = some M' ∧ psC M' r ps ∧ Fr r (r + 162) M M' ∧ M'.2 = M.2 := by
  obtain ⟨a0, a1, a2, a3⟩ := hr
  obtain ⟨c0, c1, c2, c3⟩ := hq
  obtain ⟨h1, h2⟩ := h
  have h40 := hf.1
  have hL := lp_ind (f := mX4_take_L10 K R r q) (fun (i : Nat) (s : Int32 × Mm) => s.1 = nI i ∧ Fr r (r + 162) M s.2 ∧ s.2.2 = M.2 ∧ s.2.1 r 1 = nI ps.length ∧ ∀ j p, j < i → ps[j]? = some p → pcC s.2 (r + 2 + 4 * j) p) (fun M' => psC M' r ps ∧ Fr r (r + 162) M M' ∧ M'.2 = M.2) ps.length ?_ ?_
  · obtain ⟨M', e1, e2⟩ := hL ps.length 0 (nI 0, pI M r 1 (nI ps.length)) (by omega) ⟨rfl, Fr.rf.pI (by omega) (by omega), rfl, pI_s, fun j p hj => absurd hj (by omega)⟩
    refine ⟨M', ?_, e2⟩
    unfold mX4_take
    rw [ck_t a0, ck_t c0, h1, nm_s, nm_s]
    exact e1
  · rintro i ⟨x, N⟩ hi ⟨rfl, f1, f2, f3, f4⟩
    obtain ⟨p, hp⟩ : ∃ p, ps[i]? = some p := ⟨_, List.getElem?_eq_getElem hi⟩
    have hpc : pcC N (q + 2 + 4 * i) p := (h2 i p hp).fr f1 (by omega)
    obtain ⟨M2, e1, e2, e3, e4⟩ := ptake_ok (M := N) (a3 i (by omega)).2 (c3 i (by omega)).2 (by omega) (hf.2 i p hp) hpc
    refine Or.inl ⟨(nI (i + 1), M2), ?_, rfl, f1.tr (e3.mono (by omega) (by omega)), e4.trans f2, by rw [(e3 r (by omega)).1]; exact f3, fun j p2 hj hp2 => ?_⟩
    · show mX4_take_B10 K R r q (nI i) N = _
      unfold mX4_take_B10
      rw [show N.1 r 1 = nI ps.length from f3, if_pos (nI_lt hi (by omega)), a1, bd_s, ck_t (ixA_of a2 (by omega) (by decide)), nI_clamp (by omega), (a3 i (by omega)).1, bd_s, c1, bd_s, ck_t (ixA_of c2 (by omega) (by decide)), (c3 i (by omega)).1, bd_s, ck_t (a3 i (by omega)).2.1, e1, bd_s, nI_1, nm_s]
    · by_cases hji : j = i
      · subst hji
        rw [hp] at hp2; cases hp2
        exact e2
      · exact (f4 j p2 (by omega) hp2).fr e3 (by omega)
  · rintro ⟨x, N⟩ ⟨rfl, f1, f2, f3, f4⟩
    refine ⟨N, ?_, ⟨f3, fun j p hp => f4 j p (List.getElem?_eq_some_iff.mp hp).1 hp⟩, f1, f2⟩
    show mX4_take_B10 K R r q (nI ps.length) N = _
    unfold mX4_take_B10
    rw [show N.1 r 1 = nI ps.length from f3, if_neg (nI_nlt (Nat.le_refl _) (by omega))]
    rfl
end CY
