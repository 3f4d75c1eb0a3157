/-! CONSTRUCTORS: what grows only (shapes, references from null), what a constructor leaves -/
def Gr (K : Kk) (R : Rr) (K' : Kk) (R' : Rr) : Prop := (∀ b c, isO K b c → isO K' b c) ∧ (∀ b t n, isA K b t n → isA K' b t n) ∧ ∀ b k v, R b k = some v → R' b k = some v
theorem Gr.rf {K : Kk} {R : Rr} : Gr K R K R := ⟨fun _ _ h => h, fun _ _ _ h => h, fun _ _ _ h => h⟩
theorem Gr.tr {K K2 K3 : Kk} {R R2 R3 : Rr} (h : Gr K R K2 R2) (g : Gr K2 R2 K3 R3) : Gr K R K3 R3 := ⟨fun b c q => g.1 b c (h.1 b c q), fun b t n q => g.2.1 b t n (h.2.1 b t n q), fun b k v q => g.2.2 b k v (h.2.2 b k v q)⟩
theorem Gr.mem {K K2 : Kk} {R R2 : Rr} (h : Gr K R K2 R2) {x : Nat} (hx : x ∈ K.1) : x ∈ K2.1 := by
  cases e : K.2 x with
  | inl c => exact (h.1 x c ⟨hx, e⟩).1
  | inr q => exact (h.2.1 x q.1 q.2 ⟨hx, e⟩).1
def FZ (R : Rr) (M : Mm) (top : Nat) : Prop := ∀ a, top ≤ a → zr R M a
/-- all addresses lie below -/
def Lo (K : Kk) (top : Nat) : Prop := ∀ b ∈ K.1, b < top
def MZ (K' : Kk) (M M' : Mm) : Prop := M'.2 = M.2 ∧ ∀ b k, M'.1 b k = M.1 b k ∨ (k = 1 ∧ isO K' b 3)
def CR (K : Kk) (R : Rr) (M : Mm) (a top : Nat) (K' : Kk) (R' : Rr) (M' : Mm) (top' : Nat) : Prop := Gr K R K' R' ∧ (∀ b, b < top → b ≠ a → R' b = R b) ∧ FZ R' M' top' ∧ (top < top' → top' - 1 ∈ K'.1) ∧ MZ K' M M' ∧ Lo K' top'
/-- a walk's state within a constructor of the object at a: j its next field -/
def ST (K : Kk) (R : Rr) (M : Mm) (a top : Nat) (K' : Kk) (R' : Rr) (M' : Mm) (cl j : Nat) : Prop := CR K R M a top K' R' M' (top + cl) ∧ (∀ k, j ≤ k → R' a k = none) ∧ a < top
theorem ST.cr {K K' : Kk} {R R' : Rr} {M M' : Mm} {a top cl j : Nat} (h : ST K R M a top K' R' M' cl j) : CR K R M a top K' R' M' (top + cl) := h.1
theorem ST.last {K K' : Kk} {R R' : Rr} {M M' : Mm} {a top cl j : Nat} (h : ST K R M a top K' R' M' cl j) : cl = 0 ∨ top + cl - 1 ∈ K'.1 := by
  by_cases hc : cl = 0
  · exact Or.inl hc
  · exact Or.inr (h.1.2.2.2.1 (by omega))
theorem ST.z {K K' : Kk} {R R' : Rr} {M M' : Mm} {a top cl j : Nat} (h : ST K R M a top K' R' M' cl j) : zr R' M' (top + cl) := h.1.2.2.1 _ (Nat.le_refl _)
theorem ST.start {K : Kk} {R : Rr} {M : Mm} {a top : Nat} (ha : a < top) (hr : R a = fun _ => none) (hz : FZ R M top) (hl : Lo K top) : ST K R M a top K R M 0 0 :=
  ⟨⟨Gr.rf, fun _ _ _ => rfl, hz, fun h => absurd h (by omega), ⟨rfl, fun _ _ => Or.inl rfl⟩, hl⟩, fun k _ => by rw [hr], ha⟩
theorem isO_kp {K : Kk} {b c q : Nat} {sh : Nat ⊕ (Nat × Nat)} (h : isO K b c) (hq : b ≠ q) : isO (kp K q sh) b c := ⟨List.mem_append_left _ h.1, by simp [kp, hq, h.2]⟩
theorem isA_kp {K : Kk} {b t n q : Nat} {sh : Nat ⊕ (Nat × Nat)} (h : isA K b t n) (hq : b ≠ q) : isA (kp K q sh) b t n := ⟨List.mem_append_left _ h.1, by simp [kp, hq, h.2]⟩
theorem isO_new {K : Kk} {q c : Nat} : isO (kp K q (.inl c)) q c := ⟨List.mem_append_right _ List.mem_cons_self, by simp [kp]⟩
theorem isA_new {K : Kk} {q t n : Nat} : isA (kp K q (.inr (t, n))) q t n := ⟨List.mem_append_right _ List.mem_cons_self, by simp [kp]⟩
theorem zgr_new {K : Kk} {R : Rr} {q : Nat} {sh : Nat ⊕ (Nat × Nat)} (h : Lo K q) : Gr K R (kp K q sh) R :=
  ⟨fun b c hb => isO_kp hb (fun e => by have := h b hb.1; omega), fun b t n hb => isA_kp hb (fun e => by have := h b hb.1; omega), fun _ _ _ h => h⟩
theorem zgr_put {K : Kk} {R : Rr} {a k v : Nat} (h : R a k = none) : Gr K R K (pR R a k (some v)) := by
  refine ⟨fun _ _ h => h, fun _ _ _ h => h, fun b j x hx => ?_⟩
  by_cases hb : b = a ∧ j = k
  · obtain ⟨rfl, rfl⟩ := hb
    rw [h] at hx; cases hx
  · simp [pR, u2, hb, hx]
theorem MZ.gr {K' K2 : Kk} {R' R2 : Rr} {M M' : Mm} (h : MZ K' M M') (g : Gr K' R' K2 R2) : MZ K2 M M' := ⟨h.1, fun b k => (h.2 b k).imp id (fun q => ⟨q.1, g.1 _ _ q.2⟩)⟩
section CS
variable {K K' K2 : Kk} {R R' R2 : Rr} {M M' M2 : Mm} {a top cl j : Nat}
theorem ST.new (h : ST K R M a top K' R' M' cl j) (sh : Nat ⊕ (Nat × Nat)) : ST K R M a top (kp K' (top + cl) sh) R' M' (cl + 1) j ∧ Gr K' R' (kp K' (top + cl) sh) R' ∧ top + cl ∈ (kp K' (top + cl) sh).1 ∧ (kp K' (top + cl) sh).2 (top + cl) = sh := by
  obtain ⟨⟨h1, h2, h3, h4, h5, h6⟩, h7, h8⟩ := h
  have g := zgr_new (R := R') (sh := sh) h6
  refine ⟨⟨⟨h1.tr g, h2, fun b hb => h3 b (by omega), fun _ => ?_, h5.gr g, fun b hb => ?_⟩, h7, h8⟩, g, List.mem_append_right _ List.mem_cons_self, by simp [kp]⟩
  · rw [show top + (cl + 1) - 1 = top + cl by omega]
    exact List.mem_append_right _ List.mem_cons_self
  · rcases List.mem_append.mp hb with hb | hb
    · have := h6 b hb; omega
    · rw [List.mem_singleton.mp hb]; omega
theorem zr_pR {b c k : Nat} {v : Option Nat} (h : zr R M b) (hb : b ≠ c) : zr (pR R c k v) M b := ⟨h.1, h.2.1, by rw [show pR R c k v b = R b from u2_ne hb]; exact h.2.2⟩
theorem ST.put (h : ST K R M a top K' R' M' cl j) (k v : Nat) (hk : j ≤ k) : ST K R M a top K' (pR R' a k (some v)) M' cl (k + 1) ∧ Gr K' R' K' (pR R' a k (some v)) ∧ pR R' a k (some v) a k = some v := by
  obtain ⟨⟨h1, h2, h3, h4, h5, h6⟩, h7, h8⟩ := h
  have g := zgr_put (K := K') (v := v) (h7 k hk)
  refine ⟨⟨⟨h1.tr g, fun b hb hne => ?_, fun b hb => zr_pR (h3 b hb) (by omega), h4, h5, h6⟩, fun i hi => ?_, h8⟩, g, by simp [pR, u2]⟩
  · rw [show pR R' a k (some v) b = R' b from u2_ne hne]; exact h2 b hb hne
  · have hik : i ≠ k := by omega
    simp [pR, u2, hik]; exact h7 i (by omega)
theorem ST.arr (h : ST K R M a top K' R' M' cl j) (q k v : Nat) (hq : top ≤ q) (hq2 : q < top + cl) (hn : R' q k = none) : ST K R M a top K' (pR R' q k (some v)) M' cl j ∧ Gr K' R' K' (pR R' q k (some v)) ∧ pR R' q k (some v) q k = some v := by
  obtain ⟨⟨h1, h2, h3, h4, h5, h6⟩, h7, h8⟩ := h
  have g := zgr_put (K := K') (v := v) hn
  refine ⟨⟨⟨h1.tr g, fun b hb hne => ?_, fun b hb => zr_pR (h3 b hb) (by omega), h4, h5, h6⟩, fun i hi => ?_, h8⟩, g, by simp [pR, u2]⟩
  · rw [show pR R' q k (some v) b = R' b from u2_ne (by omega)]; exact h2 b hb hne
  · rw [show pR R' q k (some v) a = R' a from u2_ne (by omega)]; exact h7 i hi
theorem ST.call (h : ST K R M a top K' R' M' cl j) {b d t2 : Nat} (hb : top ≤ b) (hc : CR K' R' M' b (top + cl) K2 R2 M2 t2) (ht : t2 = top + cl + d) : ST K R M a top K2 R2 M2 (cl + d) j ∧ Gr K' R' K2 R2 := by
  subst ht
  obtain ⟨⟨h1, h2, h3, h4, h5, h6⟩, h7, h8⟩ := h
  obtain ⟨c1, c2, c3, c4, c5, c6⟩ := hc
  refine ⟨⟨⟨h1.tr c1, fun x hx hne => ?_, ?_, fun _ => ?_, ?_, ?_⟩, fun i hi => ?_, h8⟩, c1⟩
  · rw [c2 x (by omega) (by omega)]; exact h2 x hx hne
  · rw [← Nat.add_assoc]; exact c3
  · rw [← Nat.add_assoc]
    by_cases hd : d = 0
    · subst hd
      exact c1.mem (h4 (by omega))
    · exact c4 (by omega)
  · refine ⟨c5.1.trans h5.1, fun x k => ?_⟩
    rcases c5.2 x k with e | e
    · rcases h5.2 x k with e2 | e2
      · exact Or.inl (e.trans e2)
      · exact Or.inr ⟨e2.1, c1.1 _ _ e2.2⟩
    · exact Or.inr e
  · rw [← Nat.add_assoc]; exact c6
  · rw [c2 a (by omega) (by omega)]; exact h7 i hi
/-- an int of a piece (its place 1) is written -/
theorem ST.int (h : ST K R M a top K' R' M' cl j) (v : Int32) (ho : isO K' a 3) : ST K R M a top K' R' (pI M' a 1 v) cl j := by
  obtain ⟨⟨h1, h2, h3, h4, h5, h6⟩, h7, h8⟩ := h
  refine ⟨⟨h1, h2, fun b hb => ?_, h4, ⟨h5.1, fun b k => ?_⟩, h6⟩, h7, h8⟩
  · obtain ⟨z1, z2, z3⟩ := h3 b hb
    exact ⟨by rw [show (pI M' a 1 v).1 b = M'.1 b from u2_ne (by omega)]; exact z1, z2, z3⟩
  · by_cases hb : b = a ∧ k = 1
    · obtain ⟨rfl, rfl⟩ := hb
      exact Or.inr ⟨rfl, ho⟩
    · rcases h5.2 b k with e | e
      · exact Or.inl (by rw [show (pI M' a 1 v).1 b k = M'.1 b k by simp [pI, u2, hb]]; exact e)
      · exact Or.inr e
/-- a nought is written where a nought is -/
theorem ST.int0 (h : ST K R M a top K' R' M' cl j) (k : Nat) (h0 : M'.1 a k = 0) : ST K R M a top K' R' (pI M' a k 0) cl j := by
  have e : pI M' a k 0 = M' := by
    have : u2 M'.1 a k 0 = M'.1 := by
      funext b i
      by_cases hb : b = a ∧ i = k
      · obtain ⟨rfl, rfl⟩ := hb
        simp [u2, h0]
      · simp [u2, hb]
    simp [pI, this]
  rw [e]; exact h
end CS

/-! what a ring, a piece .. is in the memory (its references, its arrays) -/
def rgA (K : Kk) (R : Rr) (a n : Nat) : Prop := isO K a 5 ∧ R a 0 = some (a + 1) ∧ R a 1 = some (a + 2) ∧ isA K (a + 1) 0 n ∧ isA K (a + 2) 0 n
def pcA (K : Kk) (R : Rr) (a : Nat) : Prop := isO K a 3 ∧ R a 0 = some (a + 1) ∧ rgA K R (a + 1) 16
def psA (K : Kk) (R : Rr) (a : Nat) : Prop := isO K a 4 ∧ R a 0 = some (a + 1) ∧ isA K (a + 1) 5 40 ∧ ∀ p, p < 40 → R (a + 1) p = some (a + 2 + 4 * p) ∧ pcA K R (a + 2 + 4 * p)
def tlA (K : Kk) (R : Rr) (a : Nat) : Prop := isO K a 6 ∧ R a 0 = some (a + 1) ∧ R a 1 = some (a + 2) ∧ R a 2 = some (a + 3) ∧ isA K (a + 1) 0 640 ∧ isA K (a + 2) 0 640 ∧ isA K (a + 3) 1 640
def cmA (K : Kk) (R : Rr) (a : Nat) : Prop := isO K a 0 ∧ R a 0 = some (a + 1) ∧ rgA K R (a + 1) 66 ∧ R a 1 = some (a + 4) ∧ rgA K R (a + 4) 66 ∧ R a 2 = some (a + 7) ∧ isO K (a + 7) 2
theorem rgA.gr {K K2 : Kk} {R R2 : Rr} {a n : Nat} (h : rgA K R a n) (g : Gr K R K2 R2) : rgA K2 R2 a n := ⟨g.1 _ _ h.1, g.2.2 _ _ _ h.2.1, g.2.2 _ _ _ h.2.2.1, g.2.1 _ _ _ h.2.2.2.1, g.2.1 _ _ _ h.2.2.2.2⟩
theorem pcA.gr {K K2 : Kk} {R R2 : Rr} {a : Nat} (h : pcA K R a) (g : Gr K R K2 R2) : pcA K2 R2 a := ⟨g.1 _ _ h.1, g.2.2 _ _ _ h.2.1, h.2.2.gr g⟩
theorem psA.gr {K K2 : Kk} {R R2 : Rr} {a : Nat} (h : psA K R a) (g : Gr K R K2 R2) : psA K2 R2 a := ⟨g.1 _ _ h.1, g.2.2 _ _ _ h.2.1, g.2.1 _ _ _ h.2.2.1, fun p hp => ⟨g.2.2 _ _ _ (h.2.2.2 p hp).1, (h.2.2.2 p hp).2.gr g⟩⟩
theorem zO_in : Cond.instanceMethod objectInit ∈ ws0 := by first | exact ws0_1 18 rfl rfl | decide +kernel
theorem zO_c : Cond.code objectInit ⟨#[0xb1]⟩ 1 none ∈ ws0 := by first | exact ws0_1 19 rfl rfl | decide +kernel
theorem fF_X0_14 : FF RX0 14 0 0 2 (.object "ScissorsBench$Ring") := ⟨_, _, _, cO_0, by decide, rfl, fl_X0_14, rfl, rfl, by decide +kernel⟩
theorem fF_X0_20 : FF RX0 20 0 1 2 (.object "ScissorsBench$Ring") := ⟨_, _, _, cO_0, by decide, rfl, fl_X0_20, rfl, rfl, by decide +kernel⟩
theorem fF_X0_26 : FF RX0 26 0 2 2 (.object "ScissorsBench$Line") := ⟨_, _, _, cO_0, by decide, rfl, fl_X0_26, rfl, rfl, by decide +kernel⟩
theorem fF_X1_11 : FF RX1 11 1 0 2 (.array (.object "ScissorsBench$Pieces")) := ⟨_, _, _, cO_1, by decide, rfl, fl_X1_11, rfl, rfl, by decide +kernel⟩
theorem fF_X3_14 : FF RX3 14 3 0 2 (.object "ScissorsBench$Ring") := ⟨_, _, _, cO_3, by decide, rfl, fl_X3_14, rfl, rfl, by decide +kernel⟩
theorem fF_X4_11 : FF RX4 11 4 0 2 (.array (.object "ScissorsBench$Piece")) := ⟨_, _, _, cO_4, by decide, rfl, fl_X4_11, rfl, rfl, by decide +kernel⟩
theorem fF_X5_7 : FF RX5 7 5 0 2 (.array .int) := ⟨_, _, _, cO_5, by decide, rfl, fl_X5_7, rfl, rfl, by decide +kernel⟩
theorem fF_X5_13 : FF RX5 13 5 1 2 (.array .int) := ⟨_, _, _, cO_5, by decide, rfl, fl_X5_13, rfl, rfl, by decide +kernel⟩
theorem fF_X6_9 : FF RX6 9 6 0 2 (.array .int) := ⟨_, _, _, cO_6, by decide, rfl, fl_X6_9, rfl, rfl, by decide +kernel⟩
theorem fF_X6_15 : FF RX6 15 6 1 2 (.array .int) := ⟨_, _, _, cO_6, by decide, rfl, fl_X6_15, rfl, rfl, by decide +kernel⟩
theorem fF_X6_18 : FF RX6 18 6 2 2 (.array .long) := ⟨_, _, _, cO_6, by decide, rfl, fl_X6_18, rfl, rfl, by decide +kernel⟩
theorem fF_X7_14 : FF RX7 14 7 0 2 (.object "ScissorsBench$Ring") := ⟨_, _, _, cO_7, by decide, rfl, fl_X7_14, rfl, rfl, by decide +kernel⟩
theorem fF_X7_18 : FF RX7 18 7 1 2 (.array (.object "ScissorsBench$Ring")) := ⟨_, _, _, cO_7, by decide, rfl, fl_X7_18, rfl, rfl, by decide +kernel⟩
theorem fF_X7_25 : FF RX7 25 7 2 2 (.object "ScissorsBench$History") := ⟨_, _, _, cO_7, by decide, rfl, fl_X7_25, rfl, rfl, by decide +kernel⟩
theorem fF_X7_31 : FF RX7 31 7 3 2 (.array (.object "ScissorsBench$Pieces")) := ⟨_, _, _, cO_7, by decide, rfl, fl_X7_31, rfl, rfl, by decide +kernel⟩
theorem fF_X7_36 : FF RX7 36 7 4 2 (.array .boolean) := ⟨_, _, _, cO_7, by decide, rfl, fl_X7_36, rfl, rfl, by decide +kernel⟩
theorem fF_X7_43 : FF RX7 43 7 5 2 (.object "ScissorsBench$Tally") := ⟨_, _, _, cO_7, by decide, rfl, fl_X7_43, rfl, rfl, by decide +kernel⟩
theorem fF_X7_50 : FF RX7 50 7 6 2 (.object "ScissorsBench$Line") := ⟨_, _, _, cO_7, by decide, rfl, fl_X7_50, rfl, rfl, by decide +kernel⟩
theorem fF_X7_57 : FF RX7 57 7 7 2 (.object "ScissorsBench$Common") := ⟨_, _, _, cO_7, by decide, rfl, fl_X7_57, rfl, rfl, by decide +kernel⟩
theorem fF_X7_64 : FF RX7 64 7 8 2 (.object "ScissorsBench$Piece") := ⟨_, _, _, cO_7, by decide, rfl, fl_X7_64, rfl, rfl, by decide +kernel⟩
theorem fF_X7_68 : FF RX7 68 7 9 2 (.object "ScissorsBench$Ring") := ⟨_, _, _, cO_7, by decide, rfl, fl_X7_68, rfl, rfl, by decide +kernel⟩
theorem fF_X7_71 : FF RX7 71 7 10 2 (.object "ScissorsBench$Ring") := ⟨_, _, _, cO_7, by decide, rfl, fl_X7_71, rfl, rfl, by decide +kernel⟩
theorem fF_X7_74 : FF RX7 74 7 11 2 (.object "ScissorsBench$Ring") := ⟨_, _, _, cO_7, by decide, rfl, fl_X7_74, rfl, rfl, by decide +kernel⟩
theorem fF_X7_77 : FF RX7 77 7 12 2 (.object "ScissorsBench$Ring") := ⟨_, _, _, cO_7, by decide, rfl, fl_X7_77, rfl, rfl, by decide +kernel⟩
theorem fF_X7_80 : FF RX7 80 7 13 2 (.array (.object "ScissorsBench$Ring")) := ⟨_, _, _, cO_7, by decide, rfl, fl_X7_80, rfl, rfl, by decide +kernel⟩
theorem fF_X8_7 : FF RX8 7 8 0 2 (.array .long) := ⟨_, _, _, cO_8, by decide, rfl, fl_X8_7, rfl, rfl, by decide +kernel⟩
theorem fF_X8_13 : FF RX8 13 8 1 2 (.array .long) := ⟨_, _, _, cO_8, by decide, rfl, fl_X8_13, rfl, rfl, by decide +kernel⟩
theorem fF_X8_16 : FF RX8 16 8 2 2 (.array .long) := ⟨_, _, _, cO_8, by decide, rfl, fl_X8_16, rfl, rfl, by decide +kernel⟩
theorem fF_X8_19 : FF RX8 19 8 5 2 (.array .long) := ⟨_, _, _, cO_8, by decide, rfl, fl_X8_19, rfl, rfl, by decide +kernel⟩
theorem fF_X8_22 : FF RX8 22 8 6 2 (.array .boolean) := ⟨_, _, _, cO_8, by decide, rfl, fl_X8_22, rfl, rfl, by decide +kernel⟩
theorem fF_X8_26 : FF RX8 26 8 7 2 (.array .long) := ⟨_, _, _, cO_8, by decide, rfl, fl_X8_26, rfl, rfl, by decide +kernel⟩
theorem fF_X8_29 : FF RX8 29 8 8 2 (.array .long) := ⟨_, _, _, cO_8, by decide, rfl, fl_X8_29, rfl, rfl, by decide +kernel⟩
theorem fF_X8_32 : FF RX8 32 8 9 2 (.array .int) := ⟨_, _, _, cO_8, by decide, rfl, fl_X8_32, rfl, rfl, by decide +kernel⟩
theorem fF_X8_36 : FF RX8 36 8 10 2 (.array .long) := ⟨_, _, _, cO_8, by decide, rfl, fl_X8_36, rfl, rfl, by decide +kernel⟩
theorem fF_X8_39 : FF RX8 39 8 11 2 (.array .long) := ⟨_, _, _, cO_8, by decide, rfl, fl_X8_39, rfl, rfl, by decide +kernel⟩
theorem fF_X8_42 : FF RX8 42 8 13 2 (.array .long) := ⟨_, _, _, cO_8, by decide, rfl, fl_X8_42, rfl, rfl, by decide +kernel⟩
theorem fF_X8_45 : FF RX8 45 8 14 2 (.array .long) := ⟨_, _, _, cO_8, by decide, rfl, fl_X8_45, rfl, rfl, by decide +kernel⟩
theorem fF_X8_48 : FF RX8 48 8 16 2 (.array .long) := ⟨_, _, _, cO_8, by decide, rfl, fl_X8_48, rfl, rfl, by decide +kernel⟩
theorem fF_X8_51 : FF RX8 51 8 17 2 (.array .long) := ⟨_, _, _, cO_8, by decide, rfl, fl_X8_51, rfl, rfl, by decide +kernel⟩
theorem fF_X8_54 : FF RX8 54 8 19 2 (.array .long) := ⟨_, _, _, cO_8, by decide, rfl, fl_X8_54, rfl, rfl, by decide +kernel⟩
theorem fF_X8_57 : FF RX8 57 8 20 2 (.array .long) := ⟨_, _, _, cO_8, by decide, rfl, fl_X8_57, rfl, rfl, by decide +kernel⟩
theorem fF_X8_60 : FF RX8 60 8 22 2 (.array .long) := ⟨_, _, _, cO_8, by decide, rfl, fl_X8_60, rfl, rfl, by decide +kernel⟩
theorem fF_X8_63 : FF RX8 63 8 23 2 (.array .long) := ⟨_, _, _, cO_8, by decide, rfl, fl_X8_63, rfl, rfl, by decide +kernel⟩
theorem fF_X8_66 : FF RX8 66 8 29 2 (.array .long) := ⟨_, _, _, cO_8, by decide, rfl, fl_X8_66, rfl, rfl, by decide +kernel⟩
theorem fF_X8_69 : FF RX8 69 8 30 2 (.array .long) := ⟨_, _, _, cO_8, by decide, rfl, fl_X8_69, rfl, rfl, by decide +kernel⟩
theorem fF_X8_72 : FF RX8 72 8 32 2 (.array .long) := ⟨_, _, _, cO_8, by decide, rfl, fl_X8_72, rfl, rfl, by decide +kernel⟩
theorem fF_X8_75 : FF RX8 75 8 33 2 (.array .long) := ⟨_, _, _, cO_8, by decide, rfl, fl_X8_75, rfl, rfl, by decide +kernel⟩
theorem fF_X8_78 : FF RX8 78 8 34 2 (.array .long) := ⟨_, _, _, cO_8, by decide, rfl, fl_X8_78, rfl, rfl, by decide +kernel⟩
theorem fF_X8_81 : FF RX8 81 8 37 2 (.array .long) := ⟨_, _, _, cO_8, by decide, rfl, fl_X8_81, rfl, rfl, by decide +kernel⟩
theorem fF_X8_84 : FF RX8 84 8 38 2 (.array .long) := ⟨_, _, _, cO_8, by decide, rfl, fl_X8_84, rfl, rfl, by decide +kernel⟩
theorem cL_X7_9 : Cond.classLink RX7 9 RX5 ∈ ws0 := ws0_1 20 rfl rfl
theorem cL_X7_22 : Cond.classLink RX7 22 RX1 ∈ ws0 := ws0_1 51 rfl rfl
theorem cL_X1_9 : Cond.classLink RX1 9 RX4 ∈ ws0 := ws0_1 57 rfl rfl
theorem cL_X4_9 : Cond.classLink RX4 9 RX3 ∈ ws0 := ws0_1 64 rfl rfl
theorem cL_X3_9 : Cond.classLink RX3 9 RX5 ∈ ws0 := ws0_1 71 rfl rfl
theorem cL_X7_29 : Cond.classLink RX7 29 RX4 ∈ ws0 := ws0_1 119 rfl rfl
theorem cL_X7_40 : Cond.classLink RX7 40 RX6 ∈ ws0 := ws0_1 121 rfl rfl
theorem cL_X7_47 : Cond.classLink RX7 47 RX2 ∈ ws0 := ws0_1 146 rfl rfl
theorem cL_X7_54 : Cond.classLink RX7 54 RX0 ∈ ws0 := ws0_1 179 rfl rfl
theorem cL_X0_9 : Cond.classLink RX0 9 RX5 ∈ ws0 := ws0_1 185 rfl rfl
theorem cL_X0_23 : Cond.classLink RX0 23 RX2 ∈ ws0 := ws0_1 187 rfl rfl
theorem cL_X7_61 : Cond.classLink RX7 61 RX3 ∈ ws0 := ws0_1 200 rfl rfl
theorem iN_X7 : Cond.instantiable RX7 14 ∈ ws0 := ws0_1 13 rfl rfl
theorem iZ_X7 : Cond.initialized RX7 ∈ ws0 := ws0_1 1 rfl rfl
theorem iN_X5 : Cond.instantiable RX5 3 ∈ ws0 := ws0_1 21 rfl rfl
theorem iZ_X5 : Cond.initialized RX5 ∈ ws0 := ws0_1 2 rfl rfl
theorem iN_X1 : Cond.instantiable RX1 4 ∈ ws0 := ws0_1 52 rfl rfl
theorem iZ_X1 : Cond.initialized RX1 ∈ ws0 := ws0_1 3 rfl rfl
theorem iN_X4 : Cond.instantiable RX4 2 ∈ ws0 := ws0_1 59 rfl rfl
theorem iZ_X4 : Cond.initialized RX4 ∈ ws0 := ws0_1 4 rfl rfl
theorem iN_X3 : Cond.instantiable RX3 5 ∈ ws0 := ws0_1 66 rfl rfl
theorem iZ_X3 : Cond.initialized RX3 ∈ ws0 := ws0_1 5 rfl rfl
theorem iN_X6 : Cond.instantiable RX6 4 ∈ ws0 := ws0_1 122 rfl rfl
theorem iZ_X6 : Cond.initialized RX6 ∈ ws0 := ws0_1 6 rfl rfl
theorem iN_X2 : Cond.instantiable RX2 8 ∈ ws0 := ws0_1 147 rfl rfl
theorem iZ_X2 : Cond.initialized RX2 ∈ ws0 := ws0_1 7 rfl rfl
theorem iN_X0 : Cond.instantiable RX0 3 ∈ ws0 := ws0_1 180 rfl rfl
theorem iZ_X0 : Cond.initialized RX0 ∈ ws0 := ws0_1 8 rfl rfl
theorem iN_X8 : Cond.instantiable RX8 39 ∈ ws0 := ws0_3 206 rfl rfl
theorem iZ_X8 : Cond.initialized RX8 ∈ ws0 := ws0_1 9 rfl rfl
theorem dZ_0 : DZ 0 TX0 3 := ⟨tyX0, tyX0_ok, by decide +kernel⟩
theorem dZ_1 : DZ 1 TX1 4 := ⟨tyX1, tyX1_ok, by decide +kernel⟩
theorem dZ_2 : DZ 2 TX2 8 := ⟨tyX2, tyX2_ok, by decide +kernel⟩
theorem dZ_3 : DZ 3 TX3 5 := ⟨tyX3, tyX3_ok, by decide +kernel⟩
theorem dZ_4 : DZ 4 TX4 2 := ⟨tyX4, tyX4_ok, by decide +kernel⟩
theorem dZ_5 : DZ 5 TX5 3 := ⟨tyX5, tyX5_ok, by decide +kernel⟩
theorem dZ_6 : DZ 6 TX6 4 := ⟨tyX6, tyX6_ok, by decide +kernel⟩
theorem dZ_7 : DZ 7 TX7 14 := ⟨tyX7, tyX7_ok, by decide +kernel⟩
theorem dZ_8 : DZ 8 TX8 39 := ⟨tyX8, tyX8_ok, by decide +kernel⟩
theorem aC_int : Cond.arrayClass .int ∈ ws0 := ws0_1 49 rfl rfl
theorem aC_boolean : Cond.arrayClass .boolean ∈ ws0 := ws0_1 144 rfl rfl
theorem aC_long : Cond.arrayClass .long ∈ ws0 := ws0_1 145 rfl rfl
