/-! A CHANGE IS KEPT, on both sides -/
def pushH (hs : List (List Pc)) (now : Nat) (ps : List Pc) : List (List Pc) := if now = 6 then hs.drop 1 ++ [ps] else hs.take (now + 1) ++ [ps]
def nowH (now : Nat) : Nat := if now = 6 then 6 else now + 1
theorem pushH_len {hs : List (List Pc)} {now : Nat} {ps : List Pc} (h : now < hs.length) (h7 : hs.length ≤ 7) : (pushH hs now ps).length = nowH now + 1 := by
  unfold pushH nowH
  by_cases hn : now = 6
  · rw [if_pos hn, if_pos hn]; simp; omega
  · rw [if_neg hn, if_neg hn]; simp; omega
theorem pushH_at {hs : List (List Pc)} {now i : Nat} {ps : List Pc} (h : now < hs.length) (h7 : hs.length ≤ 7) (hi : i < nowH now) : (pushH hs now ps)[i]? = hs[if now = 6 then i + 1 else i]? := by
  unfold pushH
  unfold nowH at hi
  by_cases hn : now = 6
  · rw [if_pos hn] at hi
    rw [if_pos hn, if_pos hn, List.getElem?_append_left (by simp; omega), List.getElem?_drop, Nat.add_comm]
  · rw [if_neg hn] at hi
    rw [if_neg hn, if_neg hn, List.getElem?_append_left (by simp; omega), List.getElem?_take, if_pos (by omega)]
theorem pushH_last {hs : List (List Pc)} {now : Nat} {ps : List Pc} (h : now < hs.length) (h7 : hs.length ≤ 7) : (pushH hs now ps)[nowH now]? = some ps := by
  unfold pushH nowH
  by_cases hn : now = 6
  · rw [if_pos hn, if_pos hn, List.getElem?_append_right (by simp; omega)]
    rw [show 6 - (hs.drop 1).length = 0 by simp; omega]; rfl
  · rw [if_neg hn, if_neg hn, List.getElem?_append_right (by simp; omega)]
    rw [show now + 1 - (hs.take (now + 1)).length = 0 by simp; omega]; rfl
theorem pushH_all {hs : List (List Pc)} {now : Nat} {ps : List Pc} (h : now < hs.length) (h7 : hs.length ≤ 7) (hp : isPs ps) (hw : ∀ (i : Nat) q, hs[i]? = some q → isPs q) : ∀ (i : Nat) q, (pushH hs now ps)[i]? = some q → isPs q := by
  intro i q hq
  have hi := (List.getElem?_eq_some_iff.mp hq).1
  rw [pushH_len h h7] at hi
  by_cases hi2 : i < nowH now
  · rw [pushH_at h h7 hi2] at hq
    exact hw _ q hq
  · obtain rfl : i = nowH now := by omega
    rw [pushH_last h h7] at hq
    cases hq
    exact hp
/-- the class's history with its containers told -/
def hiX (R : Rr) (M : Mm) (o : Nat) (hs : List (List Pc)) (now : Nat) (f : Nat → Nat) (d : Nat) : Prop := hiR R o f d ∧ M.1 (o + 20) 2 = nI now ∧ M.1 (o + 20) 3 = nI (hs.length - 1) ∧ ∀ (i : Nat) ps, hs[i]? = some ps → psC M (cont o (f i)) ps
/-- only the history's two references may have changed -/
def Rh (o : Nat) (R R' : Rr) : Prop := (∀ b, b ≠ o + 20 → b ≠ o + 21 → R' b = R b) ∧ ∀ k, k ≠ 1 → R' (o + 20) k = R (o + 20) k
theorem psA.rh {K : Kk} {R R' : Rr} {o a : Nat} (h : psA K R a) (r : Rh o R R') (ha : o + 22 ≤ a) : psA K R' a := by
  obtain ⟨h0, h1, h2, h3⟩ := h
  refine ⟨h0, by rw [r.1 a (by omega) (by omega)]; exact h1, h2, fun p hp => ?_⟩
  obtain ⟨g1, g2, g3, g4, g5, g6, g7, g8⟩ := h3 p hp
  rw [r.1 (a + 1) (by omega) (by omega)]
  refine ⟨g1, g2, ?_, g4, ?_, ?_, g7, g8⟩
  · rw [r.1 _ (by omega) (by omega)]; exact g3
  · rw [r.1 _ (by omega) (by omega)]; exact g5
  · rw [r.1 _ (by omega) (by omega)]; exact g6
theorem rgA.rh {K : Kk} {R R' : Rr} {o a n : Nat} (h : rgA K R a n) (r : Rh o R R') (ha : a + 3 ≤ o + 20 ∨ o + 22 ≤ a) : rgA K R' a n := by
  obtain ⟨h0, h1, h2, h3, h4⟩ := h
  have e := r.1 a (by omega) (by omega)
  exact ⟨h0, by rw [e]; exact h1, by rw [e]; exact h2, h3, h4⟩
theorem skC.rh {K : Kk} {R R' : Rr} {o : Nat} (h : skC K R o) (r : Rh o R R') : skC K R' o := by
  obtain ⟨h0, r0, r1, r2, r3, r4, r5, r6, r7, r8, r9, r10, r11, r12, r13, a1, a2, a3, ⟨i0, i1, i2, i3⟩, a5, a6, a7, a8, a9, a10, a11, a12, a13, a14, a15, a16, a17⟩ := h
  have e := r.1 o (by omega) (by omega)
  obtain ⟨t0, t1, t2, t3, t4, t5, t6⟩ := a8
  obtain ⟨c0, c1, c2, c3, c4, c5, c6⟩ := a10
  obtain ⟨p0, p1, p2⟩ := a11
  refine ⟨h0, by rw [e]; exact r0, by rw [e]; exact r1, by rw [e]; exact r2, by rw [e]; exact r3, by rw [e]; exact r4, by rw [e]; exact r5, by rw [e]; exact r6, by rw [e]; exact r7, by rw [e]; exact r8, by rw [e]; exact r9, by rw [e]; exact r10, by rw [e]; exact r11, by rw [e]; exact r12, by rw [e]; exact r13, a1.rh r (by omega), a2, fun p hp => ⟨by rw [r.1 _ (by omega) (by omega)]; exact (a3 p hp).1, (a3 p hp).2.rh r (by omega)⟩, ⟨i0, by rw [r.2 0 (by decide)]; exact i1, i2, fun j hj => (i3 j hj).rh r (by omega)⟩, a5, fun p hp => ⟨by rw [r.1 _ (by omega) (by omega)]; exact (a6 p hp).1, (a6 p hp).2.rh r (by omega)⟩, a7, ⟨t0, ?_, ?_, ?_, t4, t5, t6⟩, a9, ⟨c0, ?_, c2.rh r (by omega), ?_, c4.rh r (by omega), ?_, c6⟩, ⟨p0, ?_, p2.rh r (by omega)⟩, a12.rh r (by omega), a13.rh r (by omega), a14.rh r (by omega), a15.rh r (by omega), a16, fun p hp => ⟨by rw [r.1 _ (by omega) (by omega)]; exact (a17 p hp).1, (a17 p hp).2.rh r (by omega)⟩⟩
  all_goals (rw [r.1 _ (by omega) (by omega)]; assumption)
theorem moA.rh {K : Kk} {R R' : Rr} {o : Nat} (h : moA K R (o + 2118)) (r : Rh o R R') : moA K R' (o + 2118) := by
  unfold moA at h ⊢
  rw [r.1 (o + 2118) (by omega) (by omega)]
  exact h
section KD
variable {K : Kk} {R : Rr} {M : Mm} {o now : Nat} {hs : List (List Pc)} {f : Nat → Nat} {d : Nat}
theorem now_ok (hs0 : skC K R o) (hf : hiR R o f d) (hn : M.1 (o + 20) 2 = nI now) (h7 : now < 7) : mX1_now K R M (o + 20) = some (cont o (f now)) := by
  obtain ⟨-, -, -, -, -, -, -, -, -, -, -, -, -, -, -, -, -, -, ⟨i0, i1, i2, i3⟩, -⟩ := hs0
  unfold mX1_now
  rw [ck_t i0, i1, bd_s, hn, ck_t (ixA_of i2 h7 (by decide)), nI_clamp (by omega), hf.2.2.2.2 now h7, bd_s]
theorem cont_psA (hs0 : skC K R o) {j : Nat} (hj : j < 8) : psA K R (cont o j) := hs0.2.2.2.2.2.2.2.2.2.2.2.2.2.2.2.2.2.2.1.2.2.2 j hj
theorem draft_ok (hs0 : skC K R o) (hx : hiX R M o hs now f d) (hl : now < hs.length) (h7 : hs.length ≤ 7) {ps : List Pc} (hp : hs[now]? = some ps) (hfit : fitP ps) : ∃ M', mX1_draft K R M (o + 20) = some (cont o d, M') ∧ psC M' (cont o d) ps ∧ Fr (cont o d) (cont o d + 162) M M' ∧ M'.2 = M.2 := by
  obtain ⟨hf, hn, hl2, hps⟩ := hx
  have h8 := (hf.2.1 now (by omega))
  have hA := cont_psA hs0 hf.1
  have hB := cont_psA hs0 h8.1
  obtain ⟨M', e1, e2, e3, e4⟩ := pstake_ok (M := M) hA hB (by show o + 22 + 162 * d + 162 ≤ o + 22 + 162 * f now ∨ o + 22 + 162 * f now + 162 ≤ o + 22 + 162 * d; omega) hfit (hps now ps hp)
  refine ⟨M', ?_, e2, e3, e4⟩
  obtain ⟨-, -, -, -, -, -, -, -, -, -, -, -, -, -, -, -, -, -, ⟨i0, i1, i2, i3⟩, -⟩ := hs0
  unfold mX1_draft
  rw [ck_t i0, hf.2.2.2.1, bd_s, i1, bd_s, hn, ck_t (ixA_of i2 (by omega) (by decide)), nI_clamp (by omega), hf.2.2.2.2 now (by omega), bd_s, ck_t hA.1, e1, bd_s]
/-- behind the draft, the history is as it was -/
theorem hiX.fr {M' : Mm} (hx : hiX R M o hs now f d) (h7 : hs.length ≤ 7) (hw : ∀ (i : Nat) ps, hs[i]? = some ps → fitP ps) (h : ∀ b, (o + 20 ≤ b ∧ b < o + 1318) → (b < cont o d ∨ cont o d + 162 ≤ b) → M'.1 b = M.1 b) : hiX R M' o hs now f d := by
  obtain ⟨hf, hn, hl2, hps⟩ := hx
  have hd : o + 22 ≤ cont o d := by show o + 22 ≤ o + 22 + 162 * d; omega
  refine ⟨hf, by rw [h _ (by omega) (by omega)]; exact hn, by rw [h _ (by omega) (by omega)]; exact hl2, fun i ps hp => ?_⟩
  have hi := (List.getElem?_eq_some_iff.mp hp).1
  have h8 := hf.2.1 i (by omega)
  have h1 := hf.1
  obtain ⟨p1, p2⟩ := hps i ps hp
  have hd1 : cont o d = o + 22 + 162 * d := rfl
  have hd2 : cont o (f i) = o + 22 + 162 * f i := rfl
  have ee : ∀ x, cont o (f i) ≤ x → x < cont o (f i) + 162 → M'.1 x = M.1 x := fun x h1 h2 => h x (by omega) (by omega)
  refine ⟨by rw [ee _ (by omega) (by omega)]; exact p1, fun j p hj => ?_⟩
  have hj2 := (List.getElem?_eq_some_iff.mp hj).1
  have h40 := (hw i ps hp).1
  obtain ⟨⟨a1, a6⟩, a2, a3, a4, a5⟩ := p2 j p hj
  exact ⟨⟨by rw [ee _ (by omega) (by omega)]; exact a1, fun x y hxy => by rw [ee _ (by omega) (by omega), ee _ (by omega) (by omega)]; exact a6 x y hxy⟩, by rw [ee _ (by omega) (by omega)]; exact a2, by rw [ee _ (by omega) (by omega)]; exact a3, by rw [ee _ (by omega) (by omega)]; exact a4, by rw [ee _ (by omega) (by omega)]; exact a5⟩
theorem keepJ (hs0 : skC K R o) (hf : hiR R o f d) {n : Nat} (hn : M.1 (o + 20) 2 = nI n) (h7 : n < 7) : mX1_keepDraft_J65 K R M (o + 20) = some (pR (pR R (o + 21) n (some (cont o d))) (o + 20) 1 (some (cont o (f n))), pI M (o + 20) 3 (nI n)) := by
  have hA := cont_psA hs0 hf.1
  obtain ⟨-, -, -, -, -, -, -, -, -, -, -, -, -, -, -, -, -, -, ⟨i0, i1, i2, i3⟩, -⟩ := hs0
  unfold mX1_keepDraft_J65
  rw [i1, bd_s, hn, ck_t (ixA_of i2 h7 (by decide)), nI_clamp (by omega), hf.2.2.2.2 n h7, bd_s, hf.2.2.2.1, bd_s, ck_t hA.1, nm_s, nm_s, nm_s]
theorem hiR_put (hf : hiR R o f d) {n : Nat} (h7 : n < 7) : hiR (pR (pR R (o + 21) n (some (cont o d))) (o + 20) 1 (some (cont o (f n)))) o (va_up f n d) (f n) := by
  obtain ⟨f1, f2, f3, f4, f5⟩ := hf
  refine ⟨(f2 n h7).1, fun i hi => ?_, fun i j hi hj hij => ?_, pR_s, fun i hi => ?_⟩
  · by_cases hin : i = n
    · subst hin; rw [va_up_self]; exact ⟨f1, fun h => (f2 i hi).2 h.symm⟩
    · rw [va_up_ne _ _ hin]; exact ⟨(f2 i hi).1, fun h => hin (f3 i n hi h7 h)⟩
  · by_cases hin : i = n <;> by_cases hjn : j = n
    · rw [hin, hjn]
    · subst hin; rw [va_up_self, va_up_ne _ _ hjn] at hij; exact absurd hij.symm (f2 j hj).2
    · subst hjn; rw [va_up_self, va_up_ne _ _ hin] at hij; exact absurd hij (f2 i hi).2
    · rw [va_up_ne _ _ hin, va_up_ne _ _ hjn] at hij; exact f3 i j hi hj hij
  · rw [pR_n (show o + 21 ≠ o + 20 by omega)]
    by_cases hin : i = n
    · subst hin; rw [pR_s, va_up_self]
    · rw [pR_k hin, va_up_ne _ _ hin]; exact f5 i hi
/-- the states move one place down -/
def shF (f : Nat → Nat) (i : Nat) : Nat → Nat := fun k => if k < i then f (k + 1) else f k
theorem keep_ok (hs0 : skC K R o) (hx : hiX R M o hs now f d) (hl : now < hs.length) (h7 : hs.length ≤ 7) {ps : List Pc} (hp : psC M (cont o d) ps) (hw : ∀ (i : Nat) q, hs[i]? = some q → fitP q) (hfit : fitP ps) : ∃ R' M' f' d', mX1_keepDraft K R M (o + 20) = some (R', M') ∧ hiX R' M' o (pushH hs now ps) (nowH now) f' d' ∧ Rh o R R' ∧ (∀ b, b ≠ o + 20 → M'.1 b = M.1 b) ∧ M'.2 = M.2 := by
  obtain ⟨hf, hn, hl2, hps⟩ := hx
  have hsk := hs0
  obtain ⟨-, -, -, -, -, -, -, -, -, -, -, -, -, -, -, -, -, -, ⟨i0, i1, i2, i3⟩, -⟩ := hs0
  -- what a container holds doesn't hang on the history's own numbers
  have psk : ∀ (M' : Mm) (j : Nat) q, (∀ b, b ≠ o + 20 → M'.1 b = M.1 b) → fitP q → psC M (cont o j) q → psC M' (cont o j) q := by
    intro M' j q e hq hpq
    have hc : cont o j = o + 22 + 162 * j := rfl
    refine ⟨by rw [e _ (by omega)]; exact hpq.1, fun i p hi => ?_⟩
    obtain ⟨⟨a1, a6⟩, a2, a3, a4, a5⟩ := hpq.2 i p hi
    exact ⟨⟨by rw [e _ (by omega)]; exact a1, fun x y hxy => by rw [e _ (by omega), e _ (by omega)]; exact a6 x y hxy⟩, by rw [e _ (by omega)]; exact a2, by rw [e _ (by omega)]; exact a3, by rw [e _ (by omega)]; exact a4, by rw [e _ (by omega)]; exact a5⟩
  have hlen := pushH_len (ps := ps) hl h7
  by_cases h6 : now = 6
  · subst h6
    -- the loop of the states
    have hL := lp_ind (f := mX1_keepDraft_L18 K (o + 20) (cont o (f 0))) (fun (i : Nat) (s : Int32 × Rr × Mm) => s.1 = nI i ∧ s.2.2 = M ∧ (∀ b, b ≠ o + 21 → s.2.1 b = R b) ∧ ∀ k, k < 7 → s.2.1 (o + 21) k = some (cont o (shF f i k))) (fun r => ∃ R1, r = (pR (pR R1 (o + 21) 6 (some (cont o d))) (o + 20) 1 (some (cont o (f 0))), pI M (o + 20) 3 (nI 6)) ∧ (∀ b, b ≠ o + 21 → R1 b = R b) ∧ ∀ k, k < 7 → R1 (o + 21) k = some (cont o (if k = 6 then f 0 else f (k + 1)))) 6 ?_ ?_
    · obtain ⟨r, e1, R1, rfl, e3, e4⟩ := hL 6 0 (nI 0, R, M) rfl ⟨rfl, rfl, fun _ _ => rfl, fun k hk => by simp [shF]; exact hf.2.2.2.2 k hk⟩
      refine ⟨pR (pR R1 (o + 21) 6 (some (cont o d))) (o + 20) 1 (some (cont o (f 0))), pI M (o + 20) 3 (nI 6), va_up (fun k => if k = 6 then f 0 else f (k + 1)) 6 d, f 0, ?_, ⟨?_, ?_, ?_, fun i q hq => ?_⟩, ⟨fun b h1 h2 => ?_, fun k hk => ?_⟩, fun b hb => pI_n hb, rfl⟩
      · unfold mX1_keepDraft
        rw [ck_t i0, hn, if_pos (by decide), i1, bd_s, ck_t (show ixA K (o + 20 + 1) 4 0 from ixA_of (n := 7) (i := 0) i2 (by decide) (by decide)), hf.2.2.2.2 0 (by decide), bd_s, nm_s]
        exact e1
      · have hf1 : hiR R1 o (fun k => if k = 6 then f 0 else f (k + 1)) d := by
          obtain ⟨f1, f2, f3, f4, f5⟩ := hf
          refine ⟨f1, fun i hi => ?_, fun i j hi hj hij => ?_, by rw [e3 _ (by omega)]; exact f4, e4⟩
          · show (if i = 6 then f 0 else f (i + 1)) < 8 ∧ (if i = 6 then f 0 else f (i + 1)) ≠ d
            by_cases h : i = 6
            · rw [if_pos h]; exact f2 0 (by decide)
            · rw [if_neg h]; exact f2 (i + 1) (by omega)
          · have hij : (if i = 6 then f 0 else f (i + 1)) = (if j = 6 then f 0 else f (j + 1)) := hij
            by_cases h : i = 6 <;> by_cases g : j = 6
            · omega
            · rw [if_pos h, if_neg g] at hij; have := f3 _ _ (by omega) (by omega) hij; omega
            · rw [if_neg h, if_pos g] at hij; have := f3 _ _ (by omega) (by omega) hij; omega
            · rw [if_neg h, if_neg g] at hij; have := f3 _ _ (by omega) (by omega) hij; omega
        have := hiR_put hf1 (n := 6) (by decide)
        exact this
      · show (pI M (o + 20) 3 (nI 6)).1 (o + 20) 2 = nI (nowH 6)
        rw [pI_k (by decide)]; exact hn
      · rw [hlen, pI_s]; rfl
      · have hi := (List.getElem?_eq_some_iff.mp hq).1
        rw [hlen] at hi
        have hi : i < 7 := hi
        refine psk _ _ _ (fun b hb => pI_n hb) ?_ ?_
        · by_cases hi6 : i < 6
          · rw [pushH_at hl h7 (show i < nowH 6 from hi6)] at hq; exact hw _ q hq
          · obtain rfl : i = 6 := by omega
            have := (pushH_last (ps := ps) hl h7).symm.trans hq
            cases this; exact hfit
        · by_cases hi6 : i < 6
          · rw [pushH_at hl h7 (show i < nowH 6 from hi6), if_pos rfl] at hq
            rw [va_up_ne _ _ (show i ≠ 6 by omega)]
            show psC M (cont o (if i = 6 then f 0 else f (i + 1))) q
            rw [if_neg (by omega)]
            exact hps _ q hq
          · obtain rfl : i = 6 := by omega
            have := (pushH_last (ps := ps) hl h7).symm.trans hq
            cases this
            rw [va_up_self]; exact hp
      · rw [pR_n h1, pR_n h2]; exact e3 b h2
      · rw [pR_k hk, pR_n (show o + 20 ≠ o + 21 by omega)]; rw [e3 _ (by omega)]
    · rintro i ⟨x, R1, N⟩ hi ⟨rfl, rfl, e3, e4⟩
      have e3 : ∀ b, b ≠ o + 21 → R1 b = R b := e3
      have e4 : ∀ k, k < 7 → R1 (o + 21) k = some (cont o (shF f i k)) := e4
      refine Or.inl ⟨(nI (i + 1), pR R1 (o + 21) i (some (cont o (f (i + 1)))), N), ?_, rfl, rfl, fun b hb => ?_, fun k hk => ?_⟩
      · show mX1_keepDraft_B18 K (o + 20) (cont o (f 0)) (nI i) R1 N = _
        have hc8 := (hf.2.1 (i + 1) (by omega)).1
        unfold mX1_keepDraft_B18
        rw [if_pos (show nI i < 6 from nI_lt (b := 6) hi (by decide)), e3 (o + 20) (by omega), i1, bd_s, nI_1, ck_t (ixA_of i2 (by omega) (by decide)), nI_clamp (by omega), e4 (i + 1) (by omega)]
        rw [show shF f i (i + 1) = f (i + 1) by simp [shF]; omega, bd_s, ck_t (ixA_of i2 (by omega) (by decide)), ck_t (cont_psA hsk hc8).1, nm_s, nI_clamp (by omega), nm_s]
      · show pR R1 (o + 21) i _ b = R b
        rw [pR_n hb]; exact e3 b hb
      · show pR R1 (o + 21) i _ (o + 21) k = _
        by_cases hki : k = i
        · subst hki; rw [pR_s]; simp [shF]
        · rw [pR_k hki, e4 k hk]; congr 2; unfold shF
          by_cases h1 : k < i
          · rw [if_pos h1, if_pos (by omega)]
          · rw [if_neg h1, if_neg (by omega)]
    · rintro ⟨x, R1, N⟩ ⟨rfl, rfl, e3, e4⟩
      have e3 : ∀ b, b ≠ o + 21 → R1 b = R b := e3
      have e4 : ∀ k, k < 7 → R1 (o + 21) k = some (cont o (shF f 6 k)) := e4
      generalize hR2 : pR R1 (o + 21) 6 (some (cont o (f 0))) = R2
      have r3 : ∀ b, b ≠ o + 21 → R2 b = R b := fun b hb => by rw [← hR2, pR_n hb]; exact e3 b hb
      have r4 : ∀ k, k < 7 → R2 (o + 21) k = some (cont o (if k = 6 then f 0 else f (k + 1))) := fun k hk => by
        rw [← hR2]
        by_cases h : k = 6
        · subst h; rw [pR_s, if_pos rfl]
        · rw [pR_k h, if_neg h, e4 k hk]; congr 2; unfold shF; rw [if_pos (by omega)]
      have rh : Rh o R R2 := ⟨fun b h1 h2 => r3 b h2, fun k _ => by rw [r3 _ (by omega)]⟩
      have hf1 : hiR R2 o (fun k => if k = 6 then f 0 else f (k + 1)) d := by
        obtain ⟨f1, f2, f3, f4, f5⟩ := hf
        refine ⟨f1, fun i hi => ?_, fun i j hi hj hij => ?_, by rw [r3 _ (by omega)]; exact f4, r4⟩
        · show (if i = 6 then f 0 else f (i + 1)) < 8 ∧ (if i = 6 then f 0 else f (i + 1)) ≠ d
          by_cases h : i = 6
          · rw [if_pos h]; exact f2 0 (by decide)
          · rw [if_neg h]; exact f2 (i + 1) (by omega)
        · have hij : (if i = 6 then f 0 else f (i + 1)) = (if j = 6 then f 0 else f (j + 1)) := hij
          by_cases h : i = 6 <;> by_cases g : j = 6
          · omega
          · rw [if_pos h, if_neg g] at hij; have := f3 _ _ (by omega) (by omega) hij; omega
          · rw [if_neg h, if_pos g] at hij; have := f3 _ _ (by omega) (by omega) hij; omega
          · rw [if_neg h, if_neg g] at hij; have := f3 _ _ (by omega) (by omega) hij; omega
      refine ⟨_, ?_, R2, rfl, r3, r4⟩
      show mX1_keepDraft_B18 K (o + 20) (cont o (f 0)) (nI 6) R1 N = _
      unfold mX1_keepDraft_B18
      have h80 := (hf.2.1 0 (by decide)).1
      rw [if_neg (by decide), e3 (o + 20) (by omega), i1, bd_s, ck_t (show ixA K (o + 20 + 1) 4 6 from ixA_of (n := 7) (i := 6) i2 (by decide) (by decide)), ck_t (cont_psA hsk h80).1, nm_s, show pR R1 (o + 20 + 1) 6 (some (cont o (f 0))) = R2 from hR2, keepJ (hsk.rh rh) hf1 hn (by decide)]
      rfl
  · have hne : ¬ nI now = 6 := fun q => h6 ((nI_eq (by omega) (by decide : 6 < 2 ^ 31)).mp q)
    have hn2 : (pI M (o + 20) 2 (nI (now + 1))).1 (o + 20) 2 = nI (now + 1) := pI_s
    have hJ := keepJ (M := pI M (o + 20) 2 (nI (now + 1))) hsk hf hn2 (by omega)
    have eM : ∀ b, b ≠ o + 20 → (pI (pI M (o + 20) 2 (nI (now + 1))) (o + 20) 3 (nI (now + 1))).1 b = M.1 b := fun b hb => by rw [pI_n hb, pI_n hb]
    have hnh : nowH now = now + 1 := if_neg h6
    refine ⟨pR (pR R (o + 21) (now + 1) (some (cont o d))) (o + 20) 1 (some (cont o (f (now + 1)))), pI (pI M (o + 20) 2 (nI (now + 1))) (o + 20) 3 (nI (now + 1)), va_up f (now + 1) d, f (now + 1), ?_, ⟨hiR_put hf (by omega), ?_, ?_, fun i q hq => ?_⟩, ⟨fun b h1 h2 => ?_, fun k hk => ?_⟩, eM, rfl⟩
    · unfold mX1_keepDraft
      rw [ck_t i0, hn, if_neg hne, nI_1, nm_s]
      exact hJ
    · rw [pI_k (by decide), pI_s, hnh]
    · rw [pI_s, hlen, hnh]; rfl
    · have hi := (List.getElem?_eq_some_iff.mp hq).1
      rw [hlen, hnh] at hi
      refine psk _ _ _ eM ?_ ?_
      · by_cases hi6 : i < now + 1
        · rw [pushH_at hl h7 (by rw [hnh]; exact hi6)] at hq; exact hw _ q hq
        · obtain rfl : i = now + 1 := by omega
          have e := pushH_last (ps := ps) hl h7
          rw [hnh] at e
          have := e.symm.trans hq
          cases this; exact hfit
      · by_cases hi6 : i < now + 1
        · rw [pushH_at hl h7 (by rw [hnh]; exact hi6), if_neg h6] at hq
          rw [va_up_ne _ _ (show i ≠ now + 1 by omega)]
          exact hps _ q hq
        · obtain rfl : i = now + 1 := by omega
          have e := pushH_last (ps := ps) hl h7
          rw [hnh] at e
          have := e.symm.trans hq
          cases this
          rw [va_up_self]; exact hp
    · rw [pR_n h1, pR_n h2]
    · rw [pR_k hk, pR_n (show o + 20 ≠ o + 21 by omega)]
end KD
