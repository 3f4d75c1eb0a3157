/-! the words of functions out of bytecode -/
noncomputable def ck {α : Type} (c : Prop) (x : Option α) : Option α := @ite _ c (Classical.propDecidable c) x none
def nm {α β : Type} (x : α) (T : α → β) : β := T x
def bd {α β : Type} (m : Option α) (T : α → Option β) : Option β := m.bind T
def bd2 {α β γ : Type} (m : Option (α × β)) (T : α → β → Option γ) : Option γ := m.bind (fun z => T z.1 z.2)
def bd3 {α β γ δ : Type} (m : Option (α × β × γ)) (T : α → β → γ → Option δ) : Option δ := m.bind (fun z => T z.1 z.2.1 z.2.2)
def it {σ ρ : Type} (f : σ → Option (σ ⊕ ρ)) : Nat → σ → Option ρ
  | 0, _ => none
  | n + 1, s => (f s).bind (Sum.elim (it f n) some)
noncomputable def lp {σ ρ : Type} (f : σ → Option (σ ⊕ ρ)) (s : σ) : Option ρ := @dite _ (∃ r n, it f n s = some r) (Classical.propDecidable _) (fun h => some (Classical.choose h)) (fun _ => none)
def ex {σ ρ : Type} (T : Option ρ) : Option (σ ⊕ ρ) := T.map Sum.inr
section CB
variable {α β γ δ σ ρ υ : Type} {κ : α → Option β} {v v0 : β}
theorem h_start {T : Option α} {r : α} (h : T = some r) : T.bind some = some r := by rw [h]; rfl
theorem h_ck {c : Prop} {T : Option α} (h : (ck c T).bind κ = some v) : c ∧ T.bind κ = some v := by
  by_cases hc : c
  · simp only [ck, if_pos hc] at h
    exact ⟨hc, h⟩
  · simp only [ck, if_neg hc] at h
    cases h
theorem h_nm {x : γ} {T : γ → Option α} (h : (nm x T).bind κ = some v) : ∃ y, y = x ∧ (T y).bind κ = some v := ⟨x, rfl, h⟩
theorem h_bd {m : Option γ} {T : γ → Option α} (h : (bd m T).bind κ = some v) : ∃ a, m = some a ∧ (T a).bind κ = some v := by
  cases m with
  | none => cases h
  | some a => exact ⟨a, rfl, h⟩
theorem h_bd2 {m : Option (γ × δ)} {T : γ → δ → Option α} (h : (bd2 m T).bind κ = some v) : ∃ a b, m = some (a, b) ∧ (T a b).bind κ = some v := by
  cases m with
  | none => cases h
  | some a => exact ⟨a.1, a.2, rfl, h⟩
theorem h_bd3 {m : Option (γ × δ × υ)} {T : γ → δ → υ → Option α} (h : (bd3 m T).bind κ = some v) : ∃ a b c, m = some (a, b, c) ∧ (T a b c).bind κ = some v := by
  cases m with
  | none => cases h
  | some a => exact ⟨a.1, a.2.1, a.2.2, rfl, h⟩
theorem h_if_t {c : Prop} {i : Decidable c} {A B : Option α} (hc : c) (h : (@ite _ c i A B).bind κ = some v) : A.bind κ = some v := by rwa [if_pos hc] at h
theorem h_if_f {c : Prop} {i : Decidable c} {A B : Option α} (hc : ¬ c) (h : (@ite _ c i A B).bind κ = some v) : B.bind κ = some v := by rwa [if_neg hc] at h
theorem h_ret {x r : α} (h : (some x).bind some = some r) : x = r := Option.some.inj h
theorem lp_some {f : σ → Option (σ ⊕ ρ)} {s : σ} {r : ρ} (h : lp f s = some r) : ∃ n, it f n s = some r := by
  unfold lp at h
  by_cases he : ∃ r n, it f n s = some r
  · rw [dif_pos he] at h
    cases h
    exact Classical.choose_spec he
  · rw [dif_neg he] at h
    cases h
theorem it_mono {f : σ → Option (σ ⊕ ρ)} : ∀ (n : Nat) (s : σ) (r : ρ), it f n s = some r → ∀ k, it f (n + k) s = some r
  | 0, s, r, h, k => by cases h
  | n + 1, s, r, h, k => by
    rw [show n + 1 + k = (n + k) + 1 by omega]
    simp only [it] at h ⊢
    cases hf : f s with
    | none => rw [hf] at h; cases h
    | some u =>
      rw [hf] at h
      cases u with
      | inl s' => exact it_mono n s' r h k
      | inr r' => exact h
theorem lp_of {f : σ → Option (σ ⊕ ρ)} {n : Nat} {s : σ} {r : ρ} (h : it f n s = some r) : lp f s = some r := by
  unfold lp
  have he : ∃ r n, it f n s = some r := ⟨r, n, h⟩
  rw [dif_pos he]
  obtain ⟨m, hm⟩ := Classical.choose_spec he
  have h1 := it_mono n s r h m
  have h2 := it_mono m s _ hm n
  rw [Nat.add_comm] at h2
  rw [h1] at h2
  exact h2.symm
/-- one turn of a loop -/
theorem lp_go {f : σ → Option (σ ⊕ ρ)} {s s' : σ} (h : f s = some (.inl s')) : lp f s = lp f s' := by
  cases h2 : lp f s' with
  | some r =>
    obtain ⟨n, hn⟩ := lp_some h2
    exact lp_of (n := n + 1) (by simp only [it, h]; exact hn)
  | none =>
    cases h3 : lp f s with
    | none => rfl
    | some r =>
      obtain ⟨n, hn⟩ := lp_some h3
      cases n with
      | zero => cases hn
      | succ n =>
        simp only [it, h] at hn
        rw [lp_of (n := n) (s := s') hn] at h2
        cases h2
theorem lp_out {f : σ → Option (σ ⊕ ρ)} {s : σ} {r : ρ} (h : f s = some (.inr r)) : lp f s = some r := lp_of (n := 1) (by simp only [it, h]; rfl)
theorem h_lp {f : σ → Option (σ ⊕ α)} {s : σ} (h : (lp f s).bind κ = some v) : ∃ u n, it f n s = some u ∧ κ u = some v := by
  cases hl : lp f s with
  | none => rw [hl] at h; cases h
  | some u =>
    obtain ⟨n, hn⟩ := lp_some hl
    rw [hl] at h
    exact ⟨u, n, hn, h⟩
theorem h_ex {T : Option α} {g : σ → Option α} {u : α} (h : (ex T : Option (σ ⊕ α)).bind (Sum.elim g some) = some u) (hv : κ u = some v0) : T.bind κ = some v0 := by
  cases T with
  | none => cases h
  | some x =>
    cases h
    exact hv
theorem h_it0 {f : σ → Option (σ ⊕ ρ)} {s : σ} {r : ρ} : ¬ it f 0 s = some r := fun h => by cases h
end CB
theorem sw_out {x : Int32} (n : Nat) (hn : n < 1000) (h : ∀ j, j < n → x ≠ Int32.ofNat j) : x.toInt < 0 ∨ ((n : Int) - 1) < x.toInt := by
  by_cases h0 : x.toInt < 0
  · exact Or.inl h0
  · refine Or.inr ?_
    by_cases h1 : x.toInt < n
    · exfalso
      refine h x.toInt.toNat (by omega) ?_
      apply Int32.toInt_inj.mp
      show x.toInt = (nI x.toInt.toNat).toInt
      rw [nI_toInt (by omega)]
      omega
    · omega
abbrev rmz (f lo : Nat) : Room := { frames := f, cells := 0, slots := 0, locals := lo }
theorem r_topI {w : Wt} {cl sl pc : Nat} {lv : List (Nat × Value)} {rest : List Value} {K : Kk} {R : Rr} {M : Mm} {x v : Int32} (e : x = v) (k : w cl sl pc lv (.int x :: rest) K R M) : w cl sl pc lv (.int v :: rest) K R M := e ▸ k
theorem r_mem {w : Wt} {cl sl pc : Nat} {lv : List (Nat × Value)} {st : List Value} {K : Kk} {R R2 : Rr} {M M2 : Mm} (k : w cl sl pc lv st K R2 M2) (eR : R2 = R) (eM : M2 = M) : w cl sl pc lv st K R M := by
  subst eR; subst eM; exact k
theorem r_topL {w : Wt} {cl sl pc : Nat} {lv : List (Nat × Value)} {rest : List Value} {K : Kk} {R : Rr} {M : Mm} {x v : Int64} (e : x = v) (k : w cl sl pc lv (.long x :: rest) K R M) : w cl sl pc lv (.long v :: rest) K R M := e ▸ k
section RZ
variable {l : Launch} {G : Gg} {b0 : Nat} {y : MethodName} {cc : ByteArray} {nL : Nat} {ret : Option FieldType} {f1 l1 f2 l2 : Nat} {res : Option Value} {K' : Kk} {R' : Rr} {M' : Mm} {w : Wt}
variable {pc : Nat} {lv : List (Nat × Value)} {rest : List Value} {K : Kk} {R : Rr} {M : Mm}
variable {y2 : MethodName} {cc2 : ByteArray} {mL2 : Nat} {ret2 : Option FieldType} {K2 : Kk} {R2 : Rr} {M2 : Mm} {v : Value}
theorem r_callV1 (hw : SyB l G b0 y cc nL (rmz f1 l1) w) {a c idx n : Nat} {As : List Value} {T : u_T} {N : Nat} (hm : CT l G b0 y2 cc2 mL2 ret2 (rmz f2 l2) (.ref a :: As) K R M (some v) K2 R2 M2) (hB : LB y2 cc2 mL2 ret2 n) (hI : LI y2) (hL : Cond.methodLink y.cls idx y2 ∈ ws0) (hc : vwCl[c]? = some (y2.cls, T, N)) (ho : isO K a c) (hn : As.length = n)
    (h1 : f2 + 1 ≤ f1) (h2 : 8 + (mL2 + 11) + l2 ≤ l1) {st : List Value} (hst : st = As.reverse ++ .ref a :: rest) (hcat : (rest.map fun v => v.category).sum ≤ 8) (hd : decode cc pc = .ok (.invokevirtual idx, 3))
    (kk : w 0 0 (pc + 3) lv (v :: rest) K2 R2 M2) : w 0 0 pc lv st K R M := r_callV hw hm hB hI hL hc ho hn ⟨h1, h2⟩ ⟨Nat.le_refl _, Nat.le_refl _⟩ hcat hst hd kk
theorem r_callV0 (hw : SyB l G b0 y cc nL (rmz f1 l1) w) {a c idx n : Nat} {As : List Value} {T : u_T} {N : Nat} (hm : CT l G b0 y2 cc2 mL2 ret2 (rmz f2 l2) (.ref a :: As) K R M none K2 R2 M2) (hB : LB y2 cc2 mL2 ret2 n) (hI : LI y2) (hL : Cond.methodLink y.cls idx y2 ∈ ws0) (hc : vwCl[c]? = some (y2.cls, T, N)) (ho : isO K a c) (hn : As.length = n)
    (h1 : f2 + 1 ≤ f1) (h2 : 8 + (mL2 + 11) + l2 ≤ l1) {st : List Value} (hst : st = As.reverse ++ .ref a :: rest) (hcat : (rest.map fun v => v.category).sum ≤ 8) (hd : decode cc pc = .ok (.invokevirtual idx, 3))
    (kk : w 0 0 (pc + 3) lv rest K2 R2 M2) : w 0 0 pc lv st K R M := r_callV hw hm hB hI hL hc ho hn ⟨h1, h2⟩ ⟨Nat.le_refl _, Nat.le_refl _⟩ hcat hst hd kk
theorem r_callS1 (hw : SyB l G b0 y cc nL (rmz f1 l1) w) {idx n : Nat} {As : List Value} (hm : CT l G b0 y2 cc2 mL2 ret2 (rmz f2 l2) As K R M (some v) K2 R2 M2) (hB : LB y2 cc2 mL2 ret2 n) (hI : Cond.static y2 ∈ ws0) (hL : Cond.methodLink y.cls idx y2 ∈ ws0) (hy : y2.cls = y.cls) (hn : As.length = n)
    (h1 : f2 + 1 ≤ f1) (h2 : 8 + (mL2 + 11) + l2 ≤ l1) {st : List Value} (hst : st = As.reverse ++ rest) (hcat : (rest.map fun v => v.category).sum ≤ 8) (hd : decode cc pc = .ok (.invokestatic idx, 3))
    (kk : w 0 0 (pc + 3) lv (v :: rest) K2 R2 M2) : w 0 0 pc lv st K R M := r_callS hw hm hB hI hL hy hn ⟨h1, h2⟩ ⟨Nat.le_refl _, Nat.le_refl _⟩ hcat hst hd kk
theorem r_callSN1 (hw : SyB l G b0 y cc nL (rmz f1 l1) w) {idx n : Nat} {As : List Value} (hm : CT l G b0 y2 cc2 mL2 ret2 (rmz f2 l2) As K R M (some v) K2 R2 M2) (hB : LB y2 cc2 mL2 ret2 n) (hI : Cond.static y2 ∈ ws0) (hL : (y.cls, idx, y2, RX7) ∈ nestW) (hn : As.length = n)
    (h1 : f2 + 1 ≤ f1) (h2 : 8 + (mL2 + 11) + l2 ≤ l1) {st : List Value} (hst : st = As.reverse ++ rest) (hcat : (rest.map fun v => v.category).sum ≤ 8) (hd : decode cc pc = .ok (.invokestatic idx, 3))
    (kk : w 0 0 (pc + 3) lv (v :: rest) K2 R2 M2) : w 0 0 pc lv st K R M := r_callSN hw hm hB hI hL hn ⟨h1, h2⟩ ⟨Nat.le_refl _, Nat.le_refl _⟩ hcat hst hd kk
end RZ
