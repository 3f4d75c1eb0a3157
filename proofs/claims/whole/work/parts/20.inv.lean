/-! THE STATE IN PURE WORDS, and how both sides hold it. o: the bench, m: the reference (o + 2118). -/
abbrev Pt : Type := Int × Int
/-- a piece: its origin, turn, a, b, spare -/
abbrev Pc : Type := List Pt × Int × Int × Int × Bool
/-- hand, figures, all pieces at the times that are kept (oldest first), which of them is now, shelves -/
abbrev Sx : Type := List Pt × (Nat → List Pt) × List (List Pc) × Nat × (Nat → Option (List Pc))
-- the class
def rgC (M : Mm) (a : Nat) (l : List Pt) : Prop := M.1 a 2 = nI l.length ∧ ∀ i p, l[i]? = some p → (M.1 (a + 1) i).toInt = p.1 ∧ (M.1 (a + 2) i).toInt = p.2
def bI (b : Bool) : Int32 := if b then 1 else 0
def bL (b : Bool) : Int64 := if b then 1 else 0
def pcC (M : Mm) (a : Nat) (p : Pc) : Prop := rgC M (a + 1) p.1 ∧ (M.1 a 1).toInt = p.2.1 ∧ (M.1 a 2).toInt = p.2.2.1 ∧ (M.1 a 3).toInt = p.2.2.2.1 ∧ M.1 a 4 = bI p.2.2.2.2
def psC (M : Mm) (a : Nat) (ps : List Pc) : Prop := M.1 a 1 = nI ps.length ∧ ∀ i p, ps[i]? = some p → pcC M (a + 2 + 4 * i) p
abbrev cont (o j : Nat) : Nat := o + 22 + 162 * j
/-- where the pieces of the times lie: time i in container f i, the draft in container d -/
def hiR (R : Rr) (o : Nat) (f : Nat → Nat) (d : Nat) : Prop := d < 8 ∧ (∀ i, i < 7 → f i < 8 ∧ f i ≠ d) ∧ (∀ i j, i < 7 → j < 7 → f i = f j → i = j) ∧ R (o + 20) 1 = some (cont o d) ∧ ∀ i, i < 7 → R (o + 21) i = some (cont o (f i))
def hiC (R : Rr) (M : Mm) (o : Nat) (hs : List (List Pc)) (now : Nat) : Prop := ∃ f d, hiR R o f d ∧ M.1 (o + 20) 2 = nI now ∧ M.1 (o + 20) 3 = nI (hs.length - 1) ∧ ∀ i ps, hs[i]? = some ps → psC M (cont o (f i)) ps
def clC (R : Rr) (M : Mm) (o : Nat) (S : Sx) : Prop := rgC M (o + 1) S.1 ∧ (∀ k, k < 5 → rgC M (o + 5 + 3 * k) (S.2.1 k)) ∧ hiC R M o S.2.2.1 S.2.2.2.1 ∧ (∀ k, k < 4 → M.1 (o + 1967) k = bI (S.2.2.2.2 k).isSome ∧ ∀ ps, S.2.2.2.2 k = some ps → psC M (o + 1319 + 162 * k) ps)
-- the reference
def pcM (f : Nat → Int64) (q : Nat) (p : Pc) : Prop := f q = lN p.1.length ∧ (∀ i c, p.1[i]? = some c → (f (q + 1 + 2 * i)).toInt = c.1 ∧ (f (q + 2 + 2 * i)).toInt = c.2) ∧ (f (q + 33)).toInt = p.2.1 ∧ (f (q + 34)).toInt = p.2.2.1 ∧ (f (q + 35)).toInt = p.2.2.2.1 ∧ f (q + 36) = bL p.2.2.2.2
def psM (f : Nat → Int64) (q : Nat) (ps : List Pc) : Prop := f (q + 1480) = lN ps.length ∧ ∀ i p, ps[i]? = some p → pcM f (q + 37 * i) p
def ptM (M : Mm) (x y q : Nat) (l : List Pt) : Prop := ∀ i p, l[i]? = some p → (M.2 x (q + i)).toInt = p.1 ∧ (M.2 y (q + i)).toInt = p.2
def moC (M : Mm) (m : Nat) (S : Sx) : Prop := M.1 m 12 = nI S.1.length ∧ ptM M (m + 9) (m + 10) 0 S.1 ∧ (∀ k, k < 5 → M.1 (m + 8) k = nI (S.2.1 k).length ∧ ptM M (m + 6) (m + 7) (16 * k) (S.2.1 k)) ∧
  M.1 m 3 = nI S.2.2.2.1 ∧ M.1 m 4 = nI (S.2.2.1.length - 1 - S.2.2.2.1) ∧ (∀ ps, S.2.2.1[S.2.2.2.1]? = some ps → psM (M.2 (m + 1)) 0 ps) ∧ (∀ i ps, i < S.2.2.2.1 → S.2.2.1[i]? = some ps → psM (M.2 (m + 2)) (1481 * i) ps) ∧
  (∀ j ps, S.2.2.2.1 < S.2.2.1.length - 1 - j → S.2.2.1[S.2.2.1.length - 1 - j]? = some ps → psM (M.2 (m + 3)) (1481 * j) ps) ∧
  (∀ k, k < 4 → M.1 (m + 5) k = bI (S.2.2.2.2 k).isSome ∧ ∀ ps, S.2.2.2.2 k = some ps → psM (M.2 (m + 4)) (1481 * k) ps)
-- what is well made
def inB (p : Pt) : Prop := -100000 ≤ p.1 ∧ p.1 ≤ 100000 ∧ -100000 ≤ p.2 ∧ p.2 ≤ 100000
/-- twice the area of the triangle a b c: above 0 if c is left of the way from a to b -/
def crs (a b c : Pt) : Int := (b.1 - a.1) * (c.2 - a.2) - (b.2 - a.2) * (c.1 - a.1)
def ltP (a b : Pt) : Prop := a.1 < b.1 ∨ (a.1 = b.1 ∧ a.2 < b.2)
/-- strictly convex, against the clock -/
def Cv (l : List Pt) : Prop := ∀ (i j k : Nat) (a b c : Pt), i < j → j < k → l[i]? = some a → l[j]? = some b → l[k]? = some c → 0 < crs a b c
def lstF (l : List Pt) : Prop := ∀ a, l[0]? = some a → ∀ (i : Nat) b, 0 < i → l[i]? = some b → ltP a b
def isRg (l : List Pt) : Prop := 3 ≤ l.length ∧ l.length ≤ 16 ∧ Cv l ∧ lstF l ∧ ∀ (i : Nat) p, l[i]? = some p → inB p
def mvP (t a b : Int) (p : Pt) : Pt := (t * p.1 + a, t * p.2 + b)
def isPc (p : Pc) : Prop := isRg p.1 ∧ (p.2.1 = 1 ∨ p.2.1 = -1) ∧ ∀ (i : Nat) c, p.1[i]? = some c → inB (mvP p.2.1 p.2.2.1 p.2.2.2.1 c)
def isPs (ps : List Pc) : Prop := ps.length ≤ 40 ∧ ∀ (i : Nat) p, ps[i]? = some p → isPc p
def WF (S : Sx) : Prop := S.1.length ≤ 16 ∧ (∀ (i : Nat) p, S.1[i]? = some p → inB p) ∧ (∀ k, k < 5 → S.2.1 k = [] ∨ isRg (S.2.1 k)) ∧ S.2.2.2.1 < S.2.2.1.length ∧ S.2.2.1.length ≤ 7 ∧ (∀ (i : Nat) ps, S.2.2.1[i]? = some ps → isPs ps) ∧ ∀ k ps, k < 4 → S.2.2.2.2 k = some ps → isPs ps
/-- what stays: shapes, references but for the history's -/
def hiS (K : Kk) (R : Rr) (a : Nat) : Prop := isO K a 1 ∧ R a 0 = some (a + 1) ∧ isA K (a + 1) 4 7 ∧ ∀ j, j < 8 → psA K R (a + 2 + 162 * j)
def skC (K : Kk) (R : Rr) (a : Nat) : Prop := isO K a 7 ∧ R a 0 = some (a + 1) ∧ R a 1 = some (a + 4) ∧ R a 2 = some (a + 20) ∧ R a 3 = some (a + 1318) ∧ R a 4 = some (a + 1967) ∧ R a 5 = some (a + 1968) ∧ R a 6 = some (a + 1972) ∧ R a 7 = some (a + 1973) ∧ R a 8 = some (a + 1981) ∧ R a 9 = some (a + 1985) ∧ R a 10 = some (a + 1988) ∧ R a 11 = some (a + 1991) ∧ R a 12 = some (a + 1994) ∧ R a 13 = some (a + 1997) ∧ rgA K R (a + 1) 16 ∧ isA K (a + 4) 3 5 ∧ (∀ p, p < 5 → R (a + 4) p = some (a + 5 + 3 * p) ∧ rgA K R (a + 5 + 3 * p) 16) ∧ hiS K R (a + 20) ∧ isA K (a + 1318) 4 4 ∧ (∀ p, p < 4 → R (a + 1318) p = some (a + 1319 + 162 * p) ∧ psA K R (a + 1319 + 162 * p)) ∧ isA K (a + 1967) 2 4 ∧ tlA K R (a + 1968) ∧ isO K (a + 1972) 2 ∧ cmA K R (a + 1973) ∧ pcA K R (a + 1981) ∧ rgA K R (a + 1985) 66 ∧ rgA K R (a + 1988) 66 ∧ rgA K R (a + 1991) 16 ∧ rgA K R (a + 1994) 16 ∧ isA K (a + 1997) 3 40 ∧ (∀ p, p < 40 → R (a + 1997) p = some (a + 1998 + 3 * p) ∧ rgA K R (a + 1998 + 3 * p) 16)
def Inv (o : Nat) (K : Kk) (R : Rr) (M : Mm) : Prop := skC K R o ∧ moA K R (o + 2118) ∧ ∃ S, WF S ∧ clC R M o S ∧ moC M (o + 2118) S
theorem inv_hO (o : Nat) (K : Kk) (R : Rr) (M : Mm) (h : Inv o K R M) : isO K o 7 ∧ isO K (o + 2118) 8 := ⟨h.1.1, h.2.1.1⟩
theorem mo_r0 {K : Kk} {R : Rr} {a : Nat} (h : moA K R a) : R a 0 = some (a + 1) := h.2.1
theorem mo_a0 {K : Kk} {R : Rr} {a : Nat} (h : moA K R a) : isA K (a + 1) 1 1481 := h.2.2.1
theorem mo_r1 {K : Kk} {R : Rr} {a : Nat} (h : moA K R a) : R a 1 = some (a + 2) := h.2.2.2.1
theorem mo_a1 {K : Kk} {R : Rr} {a : Nat} (h : moA K R a) : isA K (a + 2) 1 8886 := h.2.2.2.2.1
theorem mo_r2 {K : Kk} {R : Rr} {a : Nat} (h : moA K R a) : R a 2 = some (a + 3) := h.2.2.2.2.2.1
theorem mo_a2 {K : Kk} {R : Rr} {a : Nat} (h : moA K R a) : isA K (a + 3) 1 8886 := h.2.2.2.2.2.2.1
theorem mo_r5 {K : Kk} {R : Rr} {a : Nat} (h : moA K R a) : R a 5 = some (a + 4) := h.2.2.2.2.2.2.2.1
theorem mo_a5 {K : Kk} {R : Rr} {a : Nat} (h : moA K R a) : isA K (a + 4) 1 5924 := h.2.2.2.2.2.2.2.2.1
theorem mo_r6 {K : Kk} {R : Rr} {a : Nat} (h : moA K R a) : R a 6 = some (a + 5) := h.2.2.2.2.2.2.2.2.2.1
theorem mo_a6 {K : Kk} {R : Rr} {a : Nat} (h : moA K R a) : isA K (a + 5) 2 4 := h.2.2.2.2.2.2.2.2.2.2.1
theorem mo_r7 {K : Kk} {R : Rr} {a : Nat} (h : moA K R a) : R a 7 = some (a + 6) := h.2.2.2.2.2.2.2.2.2.2.2.1
theorem mo_a7 {K : Kk} {R : Rr} {a : Nat} (h : moA K R a) : isA K (a + 6) 1 80 := h.2.2.2.2.2.2.2.2.2.2.2.2.1
theorem mo_r8 {K : Kk} {R : Rr} {a : Nat} (h : moA K R a) : R a 8 = some (a + 7) := h.2.2.2.2.2.2.2.2.2.2.2.2.2.1
theorem mo_a8 {K : Kk} {R : Rr} {a : Nat} (h : moA K R a) : isA K (a + 7) 1 80 := h.2.2.2.2.2.2.2.2.2.2.2.2.2.2.1
theorem mo_r9 {K : Kk} {R : Rr} {a : Nat} (h : moA K R a) : R a 9 = some (a + 8) := h.2.2.2.2.2.2.2.2.2.2.2.2.2.2.2.1
theorem mo_a9 {K : Kk} {R : Rr} {a : Nat} (h : moA K R a) : isA K (a + 8) 0 5 := h.2.2.2.2.2.2.2.2.2.2.2.2.2.2.2.2.1
theorem mo_r10 {K : Kk} {R : Rr} {a : Nat} (h : moA K R a) : R a 10 = some (a + 9) := h.2.2.2.2.2.2.2.2.2.2.2.2.2.2.2.2.2.1
theorem mo_a10 {K : Kk} {R : Rr} {a : Nat} (h : moA K R a) : isA K (a + 9) 1 16 := h.2.2.2.2.2.2.2.2.2.2.2.2.2.2.2.2.2.2.1
theorem mo_r11 {K : Kk} {R : Rr} {a : Nat} (h : moA K R a) : R a 11 = some (a + 10) := h.2.2.2.2.2.2.2.2.2.2.2.2.2.2.2.2.2.2.2.1
theorem mo_a11 {K : Kk} {R : Rr} {a : Nat} (h : moA K R a) : isA K (a + 10) 1 16 := h.2.2.2.2.2.2.2.2.2.2.2.2.2.2.2.2.2.2.2.2.1
theorem mo_r13 {K : Kk} {R : Rr} {a : Nat} (h : moA K R a) : R a 13 = some (a + 11) := h.2.2.2.2.2.2.2.2.2.2.2.2.2.2.2.2.2.2.2.2.2.1
theorem mo_a13 {K : Kk} {R : Rr} {a : Nat} (h : moA K R a) : isA K (a + 11) 1 20 := h.2.2.2.2.2.2.2.2.2.2.2.2.2.2.2.2.2.2.2.2.2.2.1
theorem mo_r14 {K : Kk} {R : Rr} {a : Nat} (h : moA K R a) : R a 14 = some (a + 12) := h.2.2.2.2.2.2.2.2.2.2.2.2.2.2.2.2.2.2.2.2.2.2.2.1
theorem mo_a14 {K : Kk} {R : Rr} {a : Nat} (h : moA K R a) : isA K (a + 12) 1 20 := h.2.2.2.2.2.2.2.2.2.2.2.2.2.2.2.2.2.2.2.2.2.2.2.2.1
theorem mo_r16 {K : Kk} {R : Rr} {a : Nat} (h : moA K R a) : R a 16 = some (a + 13) := h.2.2.2.2.2.2.2.2.2.2.2.2.2.2.2.2.2.2.2.2.2.2.2.2.2.1
theorem mo_a16 {K : Kk} {R : Rr} {a : Nat} (h : moA K R a) : isA K (a + 13) 1 20 := h.2.2.2.2.2.2.2.2.2.2.2.2.2.2.2.2.2.2.2.2.2.2.2.2.2.2.1
theorem mo_r17 {K : Kk} {R : Rr} {a : Nat} (h : moA K R a) : R a 17 = some (a + 14) := h.2.2.2.2.2.2.2.2.2.2.2.2.2.2.2.2.2.2.2.2.2.2.2.2.2.2.2.1
theorem mo_a17 {K : Kk} {R : Rr} {a : Nat} (h : moA K R a) : isA K (a + 14) 1 20 := h.2.2.2.2.2.2.2.2.2.2.2.2.2.2.2.2.2.2.2.2.2.2.2.2.2.2.2.2.1
theorem mo_r19 {K : Kk} {R : Rr} {a : Nat} (h : moA K R a) : R a 19 = some (a + 15) := h.2.2.2.2.2.2.2.2.2.2.2.2.2.2.2.2.2.2.2.2.2.2.2.2.2.2.2.2.2.1
theorem mo_a19 {K : Kk} {R : Rr} {a : Nat} (h : moA K R a) : isA K (a + 15) 1 600 := h.2.2.2.2.2.2.2.2.2.2.2.2.2.2.2.2.2.2.2.2.2.2.2.2.2.2.2.2.2.2.1
theorem mo_r20 {K : Kk} {R : Rr} {a : Nat} (h : moA K R a) : R a 20 = some (a + 16) := h.2.2.2.2.2.2.2.2.2.2.2.2.2.2.2.2.2.2.2.2.2.2.2.2.2.2.2.2.2.2.2.1
theorem mo_a20 {K : Kk} {R : Rr} {a : Nat} (h : moA K R a) : isA K (a + 16) 1 600 := h.2.2.2.2.2.2.2.2.2.2.2.2.2.2.2.2.2.2.2.2.2.2.2.2.2.2.2.2.2.2.2.2.1
theorem mo_r22 {K : Kk} {R : Rr} {a : Nat} (h : moA K R a) : R a 22 = some (a + 17) := h.2.2.2.2.2.2.2.2.2.2.2.2.2.2.2.2.2.2.2.2.2.2.2.2.2.2.2.2.2.2.2.2.2.1
theorem mo_a22 {K : Kk} {R : Rr} {a : Nat} (h : moA K R a) : isA K (a + 17) 1 600 := h.2.2.2.2.2.2.2.2.2.2.2.2.2.2.2.2.2.2.2.2.2.2.2.2.2.2.2.2.2.2.2.2.2.2.1
theorem mo_r23 {K : Kk} {R : Rr} {a : Nat} (h : moA K R a) : R a 23 = some (a + 18) := h.2.2.2.2.2.2.2.2.2.2.2.2.2.2.2.2.2.2.2.2.2.2.2.2.2.2.2.2.2.2.2.2.2.2.2.1
theorem mo_a23 {K : Kk} {R : Rr} {a : Nat} (h : moA K R a) : isA K (a + 18) 1 600 := h.2.2.2.2.2.2.2.2.2.2.2.2.2.2.2.2.2.2.2.2.2.2.2.2.2.2.2.2.2.2.2.2.2.2.2.2.1
theorem mo_r29 {K : Kk} {R : Rr} {a : Nat} (h : moA K R a) : R a 29 = some (a + 19) := h.2.2.2.2.2.2.2.2.2.2.2.2.2.2.2.2.2.2.2.2.2.2.2.2.2.2.2.2.2.2.2.2.2.2.2.2.2.1
theorem mo_a29 {K : Kk} {R : Rr} {a : Nat} (h : moA K R a) : isA K (a + 19) 1 40 := h.2.2.2.2.2.2.2.2.2.2.2.2.2.2.2.2.2.2.2.2.2.2.2.2.2.2.2.2.2.2.2.2.2.2.2.2.2.2.1
theorem mo_r30 {K : Kk} {R : Rr} {a : Nat} (h : moA K R a) : R a 30 = some (a + 20) := h.2.2.2.2.2.2.2.2.2.2.2.2.2.2.2.2.2.2.2.2.2.2.2.2.2.2.2.2.2.2.2.2.2.2.2.2.2.2.2.1
theorem mo_a30 {K : Kk} {R : Rr} {a : Nat} (h : moA K R a) : isA K (a + 20) 1 40 := h.2.2.2.2.2.2.2.2.2.2.2.2.2.2.2.2.2.2.2.2.2.2.2.2.2.2.2.2.2.2.2.2.2.2.2.2.2.2.2.2.1
theorem mo_r32 {K : Kk} {R : Rr} {a : Nat} (h : moA K R a) : R a 32 = some (a + 21) := h.2.2.2.2.2.2.2.2.2.2.2.2.2.2.2.2.2.2.2.2.2.2.2.2.2.2.2.2.2.2.2.2.2.2.2.2.2.2.2.2.2.1
theorem mo_a32 {K : Kk} {R : Rr} {a : Nat} (h : moA K R a) : isA K (a + 21) 1 640 := h.2.2.2.2.2.2.2.2.2.2.2.2.2.2.2.2.2.2.2.2.2.2.2.2.2.2.2.2.2.2.2.2.2.2.2.2.2.2.2.2.2.2.1
theorem mo_r33 {K : Kk} {R : Rr} {a : Nat} (h : moA K R a) : R a 33 = some (a + 22) := h.2.2.2.2.2.2.2.2.2.2.2.2.2.2.2.2.2.2.2.2.2.2.2.2.2.2.2.2.2.2.2.2.2.2.2.2.2.2.2.2.2.2.2.1
theorem mo_a33 {K : Kk} {R : Rr} {a : Nat} (h : moA K R a) : isA K (a + 22) 1 640 := h.2.2.2.2.2.2.2.2.2.2.2.2.2.2.2.2.2.2.2.2.2.2.2.2.2.2.2.2.2.2.2.2.2.2.2.2.2.2.2.2.2.2.2.2.1
theorem mo_r34 {K : Kk} {R : Rr} {a : Nat} (h : moA K R a) : R a 34 = some (a + 23) := h.2.2.2.2.2.2.2.2.2.2.2.2.2.2.2.2.2.2.2.2.2.2.2.2.2.2.2.2.2.2.2.2.2.2.2.2.2.2.2.2.2.2.2.2.2.1
theorem mo_a34 {K : Kk} {R : Rr} {a : Nat} (h : moA K R a) : isA K (a + 23) 1 640 := h.2.2.2.2.2.2.2.2.2.2.2.2.2.2.2.2.2.2.2.2.2.2.2.2.2.2.2.2.2.2.2.2.2.2.2.2.2.2.2.2.2.2.2.2.2.2.1
theorem mo_r37 {K : Kk} {R : Rr} {a : Nat} (h : moA K R a) : R a 37 = some (a + 24) := h.2.2.2.2.2.2.2.2.2.2.2.2.2.2.2.2.2.2.2.2.2.2.2.2.2.2.2.2.2.2.2.2.2.2.2.2.2.2.2.2.2.2.2.2.2.2.2.1
theorem mo_a37 {K : Kk} {R : Rr} {a : Nat} (h : moA K R a) : isA K (a + 24) 1 1481 := h.2.2.2.2.2.2.2.2.2.2.2.2.2.2.2.2.2.2.2.2.2.2.2.2.2.2.2.2.2.2.2.2.2.2.2.2.2.2.2.2.2.2.2.2.2.2.2.2.1
theorem mo_r38 {K : Kk} {R : Rr} {a : Nat} (h : moA K R a) : R a 38 = some (a + 25) := h.2.2.2.2.2.2.2.2.2.2.2.2.2.2.2.2.2.2.2.2.2.2.2.2.2.2.2.2.2.2.2.2.2.2.2.2.2.2.2.2.2.2.2.2.2.2.2.2.2.1
theorem mo_a38 {K : Kk} {R : Rr} {a : Nat} (h : moA K R a) : isA K (a + 25) 1 37 := h.2.2.2.2.2.2.2.2.2.2.2.2.2.2.2.2.2.2.2.2.2.2.2.2.2.2.2.2.2.2.2.2.2.2.2.2.2.2.2.2.2.2.2.2.2.2.2.2.2.2
theorem zm_o {K : Kk} {M : Mm} {a c k : Nat} (h : Zm K M) (ho : isO K a c) (hc : c ≠ 3 ∨ k ≠ 1) : M.1 a k = 0 := by
  rcases h.2 a k with e | e
  · exact e
  · rcases hc with hc | hc
    · have := ho.2.symm.trans e.2.2
      simp only [Sum.inl.injEq] at this
      exact absurd this hc
    · exact absurd e.1 hc
theorem zm_a {K : Kk} {M : Mm} {a t n k : Nat} (h : Zm K M) (ho : isA K a t n) : M.1 a k = 0 := by
  rcases h.2 a k with e | e
  · exact e
  · have := ho.2.symm.trans e.2.2
    cases this
theorem inv_ini (o : Nat) (K : Kk) (R : Rr) (M : Mm) (hb : beA K R o) (hm : moA K R (o + 2118)) (hz : Zm K M) : Inv o K R M := by
  obtain ⟨h0, r0, r1, r2, r3, r4, r5, r6, r7, r8, r9, r10, r11, r12, r13, a1, a2, a3, a4, a5, a6, a7, a8, a9, a10, a11, a12, a13, a14, a15, a16, a17⟩ := hb
  obtain ⟨i0, i1, i2, i3, i4, i5⟩ := a4
  refine ⟨⟨h0, r0, r1, r2, r3, r4, r5, r6, r7, r8, r9, r10, r11, r12, r13, a1, a2, a3, ⟨i0, i1, i2, fun j hj => ?_⟩, a5, a6, a7, a8, a9, a10, a11, a12, a13, a14, a15, a16, a17⟩, hm, ([], fun _ => [], [[]], 0, fun _ => none), ?_, ?_, ?_⟩
  · by_cases hj0 : j = 0
    · subst hj0; exact i4
    · have := (i5 (j - 1) (by omega)).2
      rw [show o + 20 + 164 + 162 * (j - 1) = o + 20 + 2 + 162 * j by omega] at this
      exact this
  · refine ⟨by decide, fun i p h => by simp at h, fun k _ => Or.inl rfl, by decide, by decide, fun i ps h => ?_, fun k ps _ h => by cases h⟩
    have : ps = [] := by
      match i, h with
      | 0, h => simpa using h.symm
    subst this
    exact ⟨by decide, fun i p h => by simp at h⟩
  · refine ⟨⟨zm_o hz a1.1 (Or.inl (by decide)), fun i p h => by simp at h⟩, fun k hk => ⟨zm_o hz (a3 k hk).2.1 (Or.inl (by decide)), fun i p h => by simp at h⟩, ⟨fun i => i + 1, 0, ⟨by decide, fun i hi => by show i + 1 < 8 ∧ i + 1 ≠ 0; omega, fun i j _ _ h => by have h : i + 1 = j + 1 := h; omega, i3, fun i hi => ?_⟩, zm_o hz i0 (Or.inl (by decide)), zm_o hz i0 (Or.inl (by decide)), fun i ps h => ?_⟩, fun k hk => ⟨zm_a hz a7, fun ps h => by cases h⟩⟩
    · rw [(i5 i hi).1]; congr 1; show _ = o + 22 + 162 * (i + 1); omega
    · have : ps = [] ∧ i = 0 := by
        match i, h with
        | 0, h => exact ⟨by simpa using h.symm, rfl⟩
      obtain ⟨rfl, rfl⟩ := this
      have hp := i5 0 (by decide)
      rw [show o + 20 + 164 + 162 * 0 = cont o (0 + 1) by show _ = o + 22 + 162 * (0 + 1); omega] at hp
      exact ⟨zm_o hz hp.2.1 (Or.inl (by decide)), fun i p h => by simp at h⟩
  · have hl : ∀ b k, M.2 b k = 0 := fun b k => by rw [hz.1]
    have ps0 : ∀ f q, (∀ k, f k = (0 : Int64)) → psM f q [] := fun f q hf => ⟨hf _, fun i p h => by simp at h⟩
    refine ⟨zm_o hz hm.1 (Or.inl (by decide)), fun i p h => by simp at h, fun k hk => ⟨?_, fun i p h => by simp at h⟩, zm_o hz hm.1 (Or.inl (by decide)), zm_o hz hm.1 (Or.inl (by decide)), fun ps h => ?_, fun i ps h => absurd h (by show ¬ i < 0; omega), fun j ps h => absurd h (by show ¬ 0 < 1 - 1 - j; omega), fun k hk => ⟨?_, fun ps h => by cases h⟩⟩
    · exact zm_a hz (mo_a9 hm)
    · have : ps = [] := by simpa using h.symm
      subst this
      exact ps0 _ _ (hl _)
    · exact zm_a hz (mo_a6 hm)
