/-! LOOPS, and the history -/
theorem lp_ind {σ ρ : Type} {f : σ → Option (σ ⊕ ρ)} (P : Nat → σ → Prop) (Q : ρ → Prop) (N : Nat) (hs : ∀ i s, i < N → P i s → (∃ s', f s = some (.inl s') ∧ P (i + 1) s') ∨ ∃ r, f s = some (.inr r) ∧ Q r) (he : ∀ s, P N s → ∃ r, f s = some (.inr r) ∧ Q r) : ∀ d i s, i + d = N → P i s → ∃ r, lp f s = some r ∧ Q r := by
  intro d
  induction d with
  | zero =>
    intro i s h1 h2
    obtain rfl : i = N := by omega
    obtain ⟨r, h3, h4⟩ := he s h2
    exact ⟨r, lp_out h3, h4⟩
  | succ d ih =>
    intro i s h1 h2
    rcases hs i s (by omega) h2 with ⟨s', h3, h4⟩ | ⟨r, h3, h4⟩
    · rw [lp_go h3]; exact ih (i + 1) s' (by omega) h4
    · exact ⟨r, lp_out h3, h4⟩
theorem psM.eq {f g : Nat → Int64} {q q' : Nat} {ps : List Pc} (hw : isPs ps) (h : psM f q ps) (e : ∀ k, k < 1481 → g (q' + k) = f (q + k)) : psM g q' ps := by
  refine ⟨by rw [e 1480 (by decide)]; exact h.1, fun i p hp => ?_⟩
  have hi := (List.getElem?_eq_some_iff.mp hp).1
  have h40 := hw.1
  obtain ⟨⟨r1, r2, -⟩, -⟩ := hw.2 i p hp
  have e2 : ∀ k, k < 37 → g (q' + 37 * i + k) = f (q + 37 * i + k) := fun k hk => by
    have := e (37 * i + k) (by omega)
    rwa [← Nat.add_assoc, ← Nat.add_assoc] at this
  obtain ⟨h1, h2, h3, h4, h5, h6⟩ := h.2 i p hp
  have e0 := e2 0 (by decide)
  rw [Nat.add_zero, Nat.add_zero] at e0
  refine ⟨by rw [e0]; exact h1, fun j c hc => ?_, by rw [e2 33 (by decide)]; exact h3, by rw [e2 34 (by decide)]; exact h4, by rw [e2 35 (by decide)]; exact h5, by rw [e2 36 (by decide)]; exact h6⟩
  have hj := (List.getElem?_eq_some_iff.mp hc).1
  have a1 := e2 (1 + 2 * j) (by omega)
  have a2 := e2 (2 + 2 * j) (by omega)
  rw [← Nat.add_assoc, ← Nat.add_assoc] at a1 a2
  rw [a1, a2]
  exact h2 j c hc
/-- the reference's history -/
def moH (M : Mm) (m : Nat) (hs : List (List Pc)) (now : Nat) : Prop := M.1 m 3 = nI now ∧ M.1 m 4 = nI (hs.length - 1 - now) ∧ (∀ ps, hs[now]? = some ps → psM (M.2 (m + 1)) 0 ps) ∧ (∀ (i : Nat) ps, i < now → hs[i]? = some ps → psM (M.2 (m + 2)) (1481 * i) ps) ∧ ∀ (j : Nat) ps, now < hs.length - 1 - j → hs[hs.length - 1 - j]? = some ps → psM (M.2 (m + 3)) (1481 * j) ps
def moR (M : Mm) (m : Nat) (S : Sx) : Prop := M.1 m 12 = nI S.1.length ∧ ptM M (m + 9) (m + 10) 0 S.1 ∧ (∀ k, k < 5 → M.1 (m + 8) k = nI (S.2.1 k).length ∧ ptM M (m + 6) (m + 7) (16 * k) (S.2.1 k)) ∧ ∀ k, k < 4 → M.1 (m + 5) k = bI (S.2.2.2.2 k).isSome ∧ ∀ ps, S.2.2.2.2 k = some ps → psM (M.2 (m + 4)) (1481 * k) ps
theorem moC_split {M : Mm} {m : Nat} {S : Sx} : moC M m S ↔ moR M m S ∧ moH M m S.2.2.1 S.2.2.2.1 :=
  ⟨fun ⟨h1, h2, h3, h4, h5, h6, h7, h8, h9⟩ => ⟨⟨h1, h2, h3, h9⟩, h4, h5, h6, h7, h8⟩, fun ⟨⟨h1, h2, h3, h9⟩, h4, h5, h6, h7, h8⟩ => ⟨h1, h2, h3, h4, h5, h6, h7, h8, h9⟩⟩
/-- the rest of the reference's state stays -/
theorem moR.fr {M M' : Mm} {m : Nat} {S S' : Sx} (h : moR M m S) (e12 : M'.1 m 12 = M.1 m 12) (ea : ∀ b, m + 4 ≤ b → b < m + 11 → M'.1 b = M.1 b ∧ M'.2 b = M.2 b) (h1 : S'.1 = S.1) (h2 : S'.2.1 = S.2.1) (h3 : S'.2.2.2.2 = S.2.2.2.2) : moR M' m S' := by
  obtain ⟨g1, g2, g3, g4⟩ := h
  refine ⟨by rw [e12, h1]; exact g1, fun i p hp => ?_, fun k hk => ⟨by rw [(ea _ (by omega) (by omega)).1, h2]; exact (g3 k hk).1, fun i p hp => ?_⟩, fun k hk => ⟨by rw [(ea _ (by omega) (by omega)).1, h3]; exact (g4 k hk).1, fun ps hp => ?_⟩⟩
  · rw [(ea _ (by omega) (by omega)).2, (ea _ (by omega) (by omega)).2]; rw [h1] at hp; exact g2 i p hp
  · rw [(ea _ (by omega) (by omega)).2, (ea _ (by omega) (by omega)).2]; rw [h2] at hp; exact (g3 k hk).2 i p hp
  · rw [(ea _ (by omega) (by omega)).2]; rw [h3] at hp; exact (g4 k hk).2 ps hp
/-- the rest of the class's state stays -/
theorem clC.hist {R R' : Rr} {M M' : Mm} {o : Nat} {S S' : Sx} (hw : WF S) (h : clC R M o S) (e : ∀ b, b < o + 20 ∨ (o + 1318 ≤ b ∧ b < o + 1968) → M'.1 b = M.1 b ∧ M'.2 b = M.2 b) (hh : hiC R' M' o S'.2.2.1 S'.2.2.2.1) (h1 : S'.1 = S.1) (h2 : S'.2.1 = S.2.1) (h3 : S'.2.2.2.2 = S.2.2.2.2) : clC R' M' o S' := by
  obtain ⟨c1, c2, -, c7⟩ := h
  obtain ⟨w1, w2, w3, w4, w5, w6, w7⟩ := hw
  have rg : ∀ a l, (a + 3 ≤ o + 20 ∨ (o + 1318 ≤ a ∧ a + 3 ≤ o + 1968)) → rgC M a l → rgC M' a l := fun a l ha hr => ⟨by rw [(e a (by omega)).1]; exact hr.1, fun i p hp => by rw [(e (a + 1) (by omega)).1, (e (a + 2) (by omega)).1]; exact hr.2 i p hp⟩
  refine ⟨by rw [h1]; exact rg _ _ (by omega) c1, fun k hk => by rw [h2]; exact rg _ _ (by omega) (c2 k hk), hh, fun k hk => ⟨by rw [(e _ (by omega)).1, h3]; exact (c7 k hk).1, fun ps hp => ?_⟩⟩
  rw [h3] at hp
  have h40 := (w7 k ps hk hp).1
  have g := (c7 k hk).2 ps hp
  refine ⟨by rw [(e _ (by omega)).1]; exact g.1, fun i p hi => ?_⟩
  have hi2 := (List.getElem?_eq_some_iff.mp hi).1
  obtain ⟨a1, a2, a3, a4, a5⟩ := g.2 i p hi
  have e1 := (e (o + 1319 + 162 * k + 2 + 4 * i) (by omega)).1
  exact ⟨rg _ _ (by omega) a1, by rw [e1]; exact a2, by rw [e1]; exact a3, by rw [e1]; exact a4, by rw [e1]; exact a5⟩
theorem WF.hist {S : Sx} {hs : List (List Pc)} {now : Nat} (h : WF S) (h1 : now < hs.length) (h2 : hs.length ≤ 7) (h3 : ∀ (i : Nat) ps, hs[i]? = some ps → isPs ps) : WF (S.1, S.2.1, hs, now, S.2.2.2.2) := ⟨h.1, h.2.1, h.2.2.1, h1, h2, h3, h.2.2.2.2.2.2⟩
theorem hiC.step {R : Rr} {M M' : Mm} {o : Nat} {hs : List (List Pc)} {now now' : Nat} (h : hiC R M o hs now) (hw : ∀ (i : Nat) ps, hs[i]? = some ps → isPs ps) (hl : hs.length ≤ 7) (e : ∀ b, b ≠ o + 20 → M'.1 b = M.1 b) (e2 : M'.1 (o + 20) 2 = nI now') (e3 : M'.1 (o + 20) 3 = M.1 (o + 20) 3) : hiC R M' o hs now' := by
  obtain ⟨g, d, h3, h4, h5, h6⟩ := h
  refine ⟨g, d, h3, e2, by rw [e3]; exact h5, fun i q hq => ?_⟩
  have h40 := (hw i q hq).1
  obtain ⟨p1, p2⟩ := h6 i q hq
  refine ⟨by rw [e _ (by show o + 22 + 162 * g i ≠ _; omega)]; exact p1, fun j p hp => ?_⟩
  have hj := (List.getElem?_eq_some_iff.mp hp).1
  obtain ⟨⟨a1, a6⟩, a2, a3, a4, a5⟩ := p2 j p hp
  have ee : ∀ x, o + 22 ≤ x → M'.1 x = M.1 x := fun x hx => e x (by omega)
  have hc : o + 22 ≤ cont o (g i) := by show o + 22 ≤ o + 22 + 162 * g i; omega
  refine ⟨⟨by rw [ee _ (by omega)]; exact a1, fun x y hxy => by rw [ee _ (by omega), ee _ (by omega)]; exact a6 x y hxy⟩, by rw [ee _ (by omega)]; exact a2, by rw [ee _ (by omega)]; exact a3, by rw [ee _ (by omega)]; exact a4, by rw [ee _ (by omega)]; exact a5⟩
/-- one state of pieces goes to an array, another one comes from a third: the loops of undo and redo -/
def mvS (M M' : Mm) (m i x y u v : Nat) : Prop := M'.1 = M.1 ∧ (∀ b, b ≠ m + 1 → b ≠ x → M'.2 b = M.2 b) ∧ (∀ k, k < i → M'.2 x (1481 * u + k) = M.2 (m + 1) k ∧ M'.2 (m + 1) k = M.2 y (1481 * v + k)) ∧ (∀ k, i ≤ k → M'.2 (m + 1) k = M.2 (m + 1) k) ∧ ∀ k, k < 1481 * u → M'.2 x k = M.2 x k
theorem mvS.go {M M' : Mm} {m i x y u v : Nat} (hx : x ≠ m + 1) (hy : y ≠ m + 1) (hxy : y ≠ x) (h : mvS M M' m i x y u v) : mvS M (pL (pL M' x (1481 * u + i) (M'.2 (m + 1) i)) (m + 1) i (M'.2 y (1481 * v + i))) m (i + 1) x y u v := by
  obtain ⟨h1, h2, h3, h4, h5⟩ := h
  refine ⟨h1, fun b hb1 hb2 => by rw [pL_n hb1, pL_n hb2]; exact h2 b hb1 hb2, fun k hk => ?_, fun k hk => ?_, fun k hk => ?_⟩
  · rw [pL_n hx]
    by_cases hki : k = i
    · subst hki
      rw [pL_s, pL_s, h4 k (Nat.le_refl _), h2 y hy hxy]
      exact ⟨rfl, rfl⟩
    · rw [pL_k (show 1481 * u + k ≠ 1481 * u + i by omega), pL_k hki, pL_n (Ne.symm hx)]
      exact h3 k (by omega)
  · rw [pL_k (by omega), pL_n (Ne.symm hx)]; exact h4 k (by omega)
  · rw [pL_n hx, pL_k (by omega)]; exact h5 k hk
theorem ixN {a b : Nat} (ha : a < 2 ^ 20) (hb : b < 2 ^ 20) : (1481 : Int32) * nI a + nI b = nI (1481 * a + b) := by
  rw [show (1481 : Int32) = nI 1481 from rfl, pk_mul, nI_add]
theorem undo_ref {K : Kk} {R : Rr} {M : Mm} {m kp un : Nat} (hm : moA K R m) (h3 : M.1 m 3 = nI (kp + 1)) (h4 : M.1 m 4 = nI un) (hk : kp < 6) (hu : un < 6) : ∃ M', mX8_undo K R M m = some ((nI kp).toInt64, M') ∧ M'.1 m 3 = nI kp ∧ M'.1 m 4 = nI (un + 1) ∧ (∀ k, k ≠ 3 → k ≠ 4 → M'.1 m k = M.1 m k) ∧ (∀ b, b ≠ m → M'.1 b = M.1 b) ∧ mvS M (M.1, M'.2) m 1481 (m + 3) (m + 2) un kp := by
  have hne : ¬ nI (kp + 1) = 0 := nI_ne0 (by omega) (by omega)
  have hL : ∀ (d i : Nat) (s : Int32 × Mm), i + d = 1481 → (s.1 = nI i ∧ mvS M (M.1, s.2.2) m i (m + 3) (m + 2) un kp ∧ s.2.1 = (pI M m 3 (nI kp)).1) → ∃ r, lp (mX8_undo_L23 K R m) s = some r ∧ (r.1 = (nI kp).toInt64 ∧ r.2.1 = (pI (pI M m 3 (nI kp)) m 4 (nI (un + 1))).1 ∧ mvS M (M.1, r.2.2) m 1481 (m + 3) (m + 2) un kp) := by
    refine lp_ind (fun (i : Nat) (s : Int32 × Mm) => s.1 = nI i ∧ mvS M (M.1, s.2.2) m i (m + 3) (m + 2) un kp ∧ s.2.1 = (pI M m 3 (nI kp)).1) _ 1481 ?_ ?_
    · rintro i ⟨j, N⟩ hi ⟨rfl, hv, hN⟩
      refine Or.inl ⟨(nI (i + 1), pL (pL N (m + 3) (1481 * un + i) (N.2 (m + 1) i)) (m + 1) i (N.2 (m + 2) (1481 * kp + i))), ?_, rfl, ?_, hN⟩
      · show mX8_undo_B23 K R m (nI i) N = _
        have hN : N.1 = (pI M m 3 (nI kp)).1 := hN
        unfold mX8_undo_B23
        rw [if_pos (show nI i < 1481 from nI_lt (b := 1481) hi (by decide)), mo_r2 hm, bd_s, mo_r0 hm, bd_s, ck_t (ixA_of (mo_a0 hm) hi (by decide)), hN, pI_k (by decide), h4, ixN (by omega) (by omega), ck_t (ixA_of (mo_a2 hm) (by omega) (by decide)), nm_s, mo_r1 hm, bd_s, pL_i, hN, pI_s, ixN (by omega) (by omega), ck_t (ixA_of (mo_a1 hm) (by omega) (by decide)), nm_s, nI_1, nm_s, nI_clamp (by omega), nI_clamp (by omega), nI_clamp (by omega), pL_n (show m + 2 ≠ m + 3 by omega)]
      · have := hv.go (show m + 3 ≠ m + 1 by omega) (show m + 2 ≠ m + 1 by omega) (show m + 2 ≠ m + 3 by omega)
        exact this
    · rintro ⟨j, N⟩ ⟨rfl, hv, hN⟩
      refine ⟨((nI kp).toInt64, pI N m 4 (nI (un + 1))), ?_, rfl, ?_, hv⟩
      · show mX8_undo_B23 K R m (nI 1481) N = _
        have hN : N.1 = (pI M m 3 (nI kp)).1 := hN
        unfold mX8_undo_B23
        rw [if_neg (by decide), hN, pI_k (by decide), h4, nI_1, nm_s, pI_k (by decide), hN, pI_s]
        rfl
      · have hN : N.1 = (pI M m 3 (nI kp)).1 := hN
        show u2 N.1 m 4 _ = u2 (pI M m 3 (nI kp)).1 m 4 _
        rw [hN]
  obtain ⟨r, hr, h1, h2, h5⟩ := hL 1481 0 (nI 0, pI M m 3 (nI kp)) rfl ⟨rfl, ⟨rfl, fun _ _ _ => rfl, fun k hk => absurd hk (by omega), fun _ _ => rfl, fun _ _ => rfl⟩, rfl⟩
  refine ⟨r.2, ?_, ?_, ?_, fun k k3 k4 => ?_, fun b hb => ?_, h5⟩
  · unfold mX8_undo
    rw [ck_t hm.1, h3, if_neg hne, nI_pred, nm_s, nm_s]
    have e : lp (mX8_undo_L23 K R m) (0, pI M m 3 (nI kp)) = some r := hr
    rw [e, ← h1]
  · rw [h2, pI_k (by decide), pI_s]
  · rw [h2, pI_s]
  · rw [h2, pI_k k4, pI_k k3]
  · rw [h2, pI_n hb, pI_n hb]
