noncomputable def mX5_wrap (K : Kk) (R : Rr) (M : Mm) (r : Nat) (a0 : Int32) : Option (Int32) :=
  ck (isO K r 5) <| if a0 < (M.1 r 2) then some (a0) else some (a0 - (M.1 r 2))
noncomputable def mX7_sideOf (K : Kk) (R : Rr) (M : Mm) (a0 : Int32) (a1 : Int32) (a2 : Int32) (a3 : Int32) (a4 : Int32) (a5 : Int32) : Option (Int64) :=
  some ((((a2.toInt64) - (a0.toInt64)) * ((a5.toInt64) - (a1.toInt64))) - (((a3.toInt64) - (a1.toInt64)) * ((a4.toInt64) - (a0.toInt64))))
noncomputable def mX5_sideAt (K : Kk) (R : Rr) (M : Mm) (r : Nat) (a0 : Int32) (a1 : Int32) (a2 : Int32) (a3 : Int32) : Option (Int64) :=
  ck (isO K r 5) <| bd (R r 0) fun q2 => ck (ixA K q2 0 a0) <| bd (R r 1) fun q4 => ck (ixA K q4 0 a0) <| ck (ixA K q2 0 a1) <| ck (ixA K q4 0 a1) <| bd (mX7_sideOf K R M (M.1 q2 a0.toNatClampNeg) (M.1 q4 a0.toNatClampNeg) (M.1 q2 a1.toNatClampNeg) (M.1 q4 a1.toNatClampNeg) a2 a3) fun l8 => some (l8)
noncomputable def mX5_holds_B2 (K : Kk) (R : Rr) (M : Mm) (r : Nat) (a0 : Int32) (a1 : Int32) (i3 : Int32) : Option ((Int32) ⊕ (Int32)) :=
  if i3 < (M.1 r 2) then bd (mX5_wrap K R M r (i3 + 1)) fun i5 => bd (mX5_sideAt K R M r i3 i5 a0 a1) fun l6 => if l6 < 0 then ex (some (0)) else nm (i3 + 1 : Int32) fun i8 => some (.inl (i8)) else ex (some (1))
noncomputable def mX5_holds_L2 (K : Kk) (R : Rr) (M : Mm) (r : Nat) (a0 : Int32) (a1 : Int32) (σ : (Int32)) : Option ((Int32) ⊕ (Int32)) :=
  mX5_holds_B2 K R M r a0 a1 σ
noncomputable def mX5_holds (K : Kk) (R : Rr) (M : Mm) (r : Nat) (a0 : Int32) (a1 : Int32) : Option (Int32) :=
  ck (isO K r 5) <| nm (0 : Int32) fun i2 => lp (mX5_holds_L2 K R M r a0 a1) (i2)
noncomputable def mX5_add (K : Kk) (R : Rr) (M : Mm) (r : Nat) (a0 : Int32) (a1 : Int32) : Option (Mm) :=
  ck (isO K r 5) <| bd (R r 0) fun q2 => ck (isAr K q2) <| if (M.1 r 2) < (alen K q2) then ck (ixA K q2 0 (M.1 r 2)) <| nm (pI M q2 (M.1 r 2).toNatClampNeg a0) fun M6 => bd (R r 1) fun q7 => ck (ixA K q7 0 (M6.1 r 2)) <| nm (pI M6 q7 (M6.1 r 2).toNatClampNeg a1) fun M9 => nm (pI M9 r 2 ((M9.1 r 2) + 1)) fun M10 => some (M10) else some (M)
noncomputable def mX0_sortIn_B116 (K : Kk) (R : Rr) (r : Nat) (a0 : Int32) (a1 : Int32) (i2 : Int32) (i8 : Int32) (M9 : Mm) : Option ((Int32 × Mm) ⊕ (Mm)) :=
  if i8 ≤ i2 then ex (bd (R r 1) fun q11 => ck (isO K q11 5) <| if i2 < (M9.1 q11 2) then bd (R q11 0) fun q14 => ck (ixA K q14 0 i2) <| nm (pI M9 q14 i2.toNatClampNeg a0) fun M16 => bd (R q11 1) fun q17 => ck (ixA K q17 0 i2) <| nm (pI M16 q17 i2.toNatClampNeg a1) fun M19 => some (M19) else some (M9)) else bd (R r 1) fun q20 => ck (isO K q20 5) <| bd (R q20 0) fun q22 => ck (ixA K q22 0 (i8 - 1)) <| ck (ixA K q22 0 i8) <| nm (pI M9 q22 i8.toNatClampNeg (M9.1 q22 (i8 - 1).toNatClampNeg)) fun M25 => bd (R q20 1) fun q26 => ck (ixA K q26 0 (i8 - 1)) <| ck (ixA K q26 0 i8) <| nm (pI M25 q26 i8.toNatClampNeg (M25.1 q26 (i8 - 1).toNatClampNeg)) fun M29 => nm (i8 + (-1) : Int32) fun i30 => some (.inl (i30, M29))
noncomputable def mX0_sortIn_L116 (K : Kk) (R : Rr) (r : Nat) (a0 : Int32) (a1 : Int32) (i2 : Int32) (σ : (Int32 × Mm)) : Option ((Int32 × Mm) ⊕ (Mm)) :=
  mX0_sortIn_B116 K R r a0 a1 i2 σ.1 σ.2
noncomputable def mX0_sortIn_J96 (K : Kk) (R : Rr) (M3 : Mm) (r : Nat) (a0 : Int32) (a1 : Int32) (i2 : Int32) : Option (Mm) :=
  bd (R r 1) fun q4 => ck (isO K q4 5) <| bd (mX5_add K R M3 q4 a0 a1) fun M5 => nm ((M5.1 q4 2) - 1 : Int32) fun i7 => lp (mX0_sortIn_L116 K R r a0 a1 i2) (i7, M5)
noncomputable def mX0_sortIn_J58 (K : Kk) (R : Rr) (M32 : Mm) (r : Nat) (a0 : Int32) (a1 : Int32) (i31 : Int32) : Option (Mm) :=
  bd (R r 1) fun q33 => ck (isO K q33 5) <| if i31 < (M32.1 q33 2) then bd (R q33 0) fun q36 => ck (ixA K q36 0 i31) <| if (M32.1 q36 i31.toNatClampNeg) = a0 then bd (R q33 1) fun q39 => ck (ixA K q39 0 i31) <| if (M32.1 q39 i31.toNatClampNeg) = a1 then some (M32) else mX0_sortIn_J96 K R M32 r a0 a1 i31 else mX0_sortIn_J96 K R M32 r a0 a1 i31 else mX0_sortIn_J96 K R M32 r a0 a1 i31
noncomputable def mX0_sortIn_J52 (K : Kk) (R : Rr) (M : Mm) (r : Nat) (a0 : Int32) (a1 : Int32) (i44 : Int32) : Option ((Int32) ⊕ (Mm)) :=
  nm (i44 + 1 : Int32) fun i45 => some (.inl (i45))
noncomputable def mX0_sortIn_B2 (K : Kk) (R : Rr) (M : Mm) (r : Nat) (a0 : Int32) (a1 : Int32) (i43 : Int32) : Option ((Int32) ⊕ (Mm)) :=
  bd (R r 1) fun q46 => ck (isO K q46 5) <| if i43 < (M.1 q46 2) then bd (R q46 0) fun q49 => ck (ixA K q49 0 i43) <| if (M.1 q49 i43.toNatClampNeg) < a0 then mX0_sortIn_J52 K R M r a0 a1 i43 else if (M.1 q49 i43.toNatClampNeg) = a0 then bd (R q46 1) fun q53 => ck (ixA K q53 0 i43) <| if (M.1 q53 i43.toNatClampNeg) < a1 then mX0_sortIn_J52 K R M r a0 a1 i43 else ex (mX0_sortIn_J58 K R M r a0 a1 i43) else ex (mX0_sortIn_J58 K R M r a0 a1 i43) else ex (mX0_sortIn_J58 K R M r a0 a1 i43)
noncomputable def mX0_sortIn_L2 (K : Kk) (R : Rr) (M : Mm) (r : Nat) (a0 : Int32) (a1 : Int32) (σ : (Int32)) : Option ((Int32) ⊕ (Mm)) :=
  mX0_sortIn_B2 K R M r a0 a1 σ
noncomputable def mX0_sortIn (K : Kk) (R : Rr) (M : Mm) (r : Nat) (a0 : Int32) (a1 : Int32) : Option (Mm) :=
  ck (isO K r 0) <| nm (0 : Int32) fun i42 => lp (mX0_sortIn_L2 K R M r a0 a1) (i42)
noncomputable def mX0_sortInHeld_J45 (K : Kk) (R : Rr) (M8 : Mm) (r : Nat) (a0 : Nat) (a1 : Nat) (i7 : Int32) : Option ((Int32 × Mm) ⊕ (Mm)) :=
  nm (i7 + 1 : Int32) fun i9 => some (.inl (i9, M8))
noncomputable def mX0_sortInHeld_B2 (K : Kk) (R : Rr) (r : Nat) (a0 : Nat) (a1 : Nat) (i5 : Int32) (M6 : Mm) : Option ((Int32 × Mm) ⊕ (Mm)) :=
  if i5 < (M6.1 a0 2) then bd (R a0 0) fun q11 => ck (ixA K q11 0 i5) <| bd (R a0 1) fun q13 => ck (ixA K q13 0 i5) <| bd (mX5_holds K R M6 a1 (M6.1 q11 i5.toNatClampNeg) (M6.1 q13 i5.toNatClampNeg)) fun i15 => if i15 = 0 then mX0_sortInHeld_J45 K R M6 r a0 a1 i5 else bd (mX0_sortIn K R M6 r (M6.1 q11 i5.toNatClampNeg) (M6.1 q13 i5.toNatClampNeg)) fun M17 => mX0_sortInHeld_J45 K R M17 r a0 a1 i5 else ex (some (M6))
noncomputable def mX0_sortInHeld_L2 (K : Kk) (R : Rr) (r : Nat) (a0 : Nat) (a1 : Nat) (σ : (Int32 × Mm)) : Option ((Int32 × Mm) ⊕ (Mm)) :=
  mX0_sortInHeld_B2 K R r a0 a1 σ.1 σ.2
noncomputable def mX0_sortInHeld (K : Kk) (R : Rr) (M : Mm) (r : Nat) (a0 : Nat) (a1 : Nat) : Option (Mm) :=
  ck (isO K r 0) <| ck (isO K a0 5) <| ck (isO K a1 5) <| nm (0 : Int32) fun i4 => lp (mX0_sortInHeld_L2 K R r a0 a1) (i4, M)
noncomputable def mX2_set (K : Kk) (R : Rr) (M : Mm) (r : Nat) (a0 : Int32) (a1 : Int32) (a2 : Int32) (a3 : Int32) : Option (Mm) :=
  ck (isO K r 2) <| nm (pI M r 2 a0) fun M2 => nm (pI M2 r 3 a1) fun M3 => nm (pI M3 r 4 a2) fun M4 => nm (pI M4 r 5 a3) fun M5 => some (M5)
noncomputable def mX2_side (K : Kk) (R : Rr) (M : Mm) (r : Nat) (a0 : Int32) (a1 : Int32) : Option (Int64) :=
  ck (isO K r 2) <| some ((((M.1 r 4).toInt64) * ((a1 - (M.1 r 3)).toInt64)) - (((M.1 r 5).toInt64) * ((a0 - (M.1 r 2)).toInt64)))
noncomputable def mX2_isBetween_J45 (K : Kk) (R : Rr) (M : Mm) : Option (Int32) :=
  some (1)
noncomputable def mX2_isBetween_J31 (K : Kk) (R : Rr) (M : Mm) (l2 : Int64) (l3 : Int64) : Option (Int32) :=
  if l2 < 0 then if l3 ≤ 0 then some (0) else mX2_isBetween_J45 K R M  else some (0)
noncomputable def mX2_isBetween (K : Kk) (R : Rr) (M : Mm) (r : Nat) (a0 : Int32) (a1 : Int32) (a2 : Int32) (a3 : Int32) : Option (Int32) :=
  ck (isO K r 2) <| bd (mX2_side K R M r a0 a1) fun l6 => bd (mX2_side K R M r a2 a3) fun l7 => if l6 ≤ 0 then mX2_isBetween_J31 K R M l6 l7 else if l7 < 0 then mX2_isBetween_J45 K R M  else mX2_isBetween_J31 K R M l6 l7
noncomputable def mX0_isParted_J72 (K : Kk) (R : Rr) (M : Mm) : Option (Int32) :=
  some (1)
noncomputable def mX0_isParted_J58 (K : Kk) (R : Rr) (M : Mm) (l3 : Int64) (l4 : Int64) : Option (Int32) :=
  if l3 < 0 then if l4 ≤ 0 then some (0) else mX0_isParted_J72 K R M  else some (0)
noncomputable def mX0_isParted (K : Kk) (R : Rr) (M : Mm) (a0 : Nat) (a1 : Int32) (a2 : Int32) (a3 : Nat) (a4 : Int32) (a5 : Int32) : Option (Int32) :=
  ck (isO K a0 5) <| ck (isO K a3 5) <| bd (R a0 0) fun q7 => ck (ixA K q7 0 a1) <| bd (R a0 1) fun q9 => ck (ixA K q9 0 a1) <| bd (mX5_sideAt K R M a3 a4 a5 (M.1 q7 a1.toNatClampNeg) (M.1 q9 a1.toNatClampNeg)) fun l11 => ck (ixA K q7 0 a2) <| ck (ixA K q9 0 a2) <| bd (mX5_sideAt K R M a3 a4 a5 (M.1 q7 a2.toNatClampNeg) (M.1 q9 a2.toNatClampNeg)) fun l14 => if l11 ≤ 0 then mX0_isParted_J58 K R M l11 l14 else if l14 < 0 then mX0_isParted_J72 K R M  else mX0_isParted_J58 K R M l11 l14
noncomputable def mX2_meet (K : Kk) (R : Rr) (M : Mm) (r : Nat) (a0 : Int32) (a1 : Int32) (a2 : Int32) (a3 : Int32) : Option (Int32 × Mm) :=
  ck (isO K r 2) <| bd (mX2_side K R M r a0 a1) fun l2 => bd (mX2_side K R M r a2 a3) fun l3 => nm (l2 - l3 : Int64) fun l4 => if l4 = 0 then some (0, M) else nm (((a2 - a0).toInt64) * l2 : Int64) fun l6 => nm (((a3 - a1).toInt64) * l2 : Int64) fun l7 => ck (¬ l4 = 0) <| if (l6 - l6 / l4 * l4) = 0 then if (l7 - l7 / l4 * l4) = 0 then nm (pI M r 0 (((a0.toInt64) + (l6 / l4)).toInt32)) fun M11 => nm (pI M11 r 1 (((a1.toInt64) + (l7 / l4)).toInt32)) fun M12 => some (1, M12) else some (0, M) else some (0, M)
noncomputable def mX0_sortInCrossings_J199 (K : Kk) (R : Rr) (M22 : Mm) (r : Nat) (a0 : Nat) (a1 : Nat) (i5 : Int32) (i8 : Int32) (i21 : Int32) : Option ((Int32 × Mm) ⊕ ((Int32 × Mm) ⊕ (Int32 × Mm))) :=
  nm (i21 + 1 : Int32) fun i23 => some (.inl (i23, M22))
noncomputable def mX0_sortInCrossings_B69 (K : Kk) (R : Rr) (r : Nat) (a0 : Nat) (a1 : Nat) (i5 : Int32) (i8 : Int32) (i19 : Int32) (M20 : Mm) : Option ((Int32 × Mm) ⊕ ((Int32 × Mm) ⊕ (Int32 × Mm))) :=
  if i19 < (M20.1 a1 2) then bd (mX5_wrap K R M20 a1 (i19 + 1)) fun i26 => bd (R r 2) fun q27 => bd (R a1 0) fun q28 => ck (ixA K q28 0 i19) <| bd (R a1 1) fun q30 => ck (ixA K q30 0 i19) <| ck (ixA K q28 0 i26) <| ck (ixA K q30 0 i26) <| ck (isO K q27 2) <| bd (mX2_isBetween K R M20 q27 (M20.1 q28 i19.toNatClampNeg) (M20.1 q30 i19.toNatClampNeg) (M20.1 q28 i26.toNatClampNeg) (M20.1 q30 i26.toNatClampNeg)) fun i34 => if i34 = 0 then mX0_sortInCrossings_J199 K R M20 r a0 a1 i5 i8 i19 else bd (mX0_isParted K R M20 a0 i5 i8 a1 i19 i26) fun i37 => if i37 = 0 then mX0_sortInCrossings_J199 K R M20 r a0 a1 i5 i8 i19 else bd2 (mX2_meet K R M20 q27 (M20.1 q28 i19.toNatClampNeg) (M20.1 q30 i19.toNatClampNeg) (M20.1 q28 i26.toNatClampNeg) (M20.1 q30 i26.toNatClampNeg)) fun i39 M40 => if i39 = 0 then ex (ex (some (0, M40))) else bd (mX0_sortIn K R M40 r (M40.1 q27 0) (M40.1 q27 1)) fun M42 => mX0_sortInCrossings_J199 K R M42 r a0 a1 i5 i8 i19 else ex (nm (i5 + 1 : Int32) fun i25 => some (.inl (i25, M20)))
noncomputable def mX0_sortInCrossings_L69 (K : Kk) (R : Rr) (r : Nat) (a0 : Nat) (a1 : Nat) (i5 : Int32) (i8 : Int32) (σ : (Int32 × Mm)) : Option ((Int32 × Mm) ⊕ ((Int32 × Mm) ⊕ (Int32 × Mm))) :=
  mX0_sortInCrossings_B69 K R r a0 a1 i5 i8 σ.1 σ.2
noncomputable def mX0_sortInCrossings_B2 (K : Kk) (R : Rr) (r : Nat) (a0 : Nat) (a1 : Nat) (i5 : Int32) (M6 : Mm) : Option ((Int32 × Mm) ⊕ (Int32 × Mm)) :=
  if i5 < (M6.1 a0 2) then bd (mX5_wrap K R M6 a0 (i5 + 1)) fun i8 => bd (R r 2) fun q9 => bd (R a0 0) fun q10 => ck (ixA K q10 0 i5) <| bd (R a0 1) fun q12 => ck (ixA K q12 0 i5) <| ck (ixA K q10 0 i8) <| ck (ixA K q12 0 i8) <| ck (isO K q9 2) <| bd (mX2_set K R M6 q9 (M6.1 q10 i5.toNatClampNeg) (M6.1 q12 i5.toNatClampNeg) ((M6.1 q10 i8.toNatClampNeg) - (M6.1 q10 i5.toNatClampNeg)) ((M6.1 q12 i8.toNatClampNeg) - (M6.1 q12 i5.toNatClampNeg))) fun M16 => nm (0 : Int32) fun i18 => lp (mX0_sortInCrossings_L69 K R r a0 a1 i5 i8) (i18, M16) else ex (some (1, M6))
noncomputable def mX0_sortInCrossings_L2 (K : Kk) (R : Rr) (r : Nat) (a0 : Nat) (a1 : Nat) (σ : (Int32 × Mm)) : Option ((Int32 × Mm) ⊕ (Int32 × Mm)) :=
  mX0_sortInCrossings_B2 K R r a0 a1 σ.1 σ.2
noncomputable def mX0_sortInCrossings (K : Kk) (R : Rr) (M : Mm) (r : Nat) (a0 : Nat) (a1 : Nat) : Option (Int32 × Mm) :=
  ck (isO K r 0) <| ck (isO K a0 5) <| ck (isO K a1 5) <| nm (0 : Int32) fun i4 => lp (mX0_sortInCrossings_L2 K R r a0 a1) (i4, M)
noncomputable def mX0_goTo_J60 (K : Kk) (R : Rr) (M2 : Mm) (r : Nat) (a1 : Int32) (a2 : Int32) : Option (Mm) :=
  bd (R r 0) fun q3 => ck (isO K q3 5) <| bd (mX5_add K R M2 q3 a1 a2) fun M4 => some (M4)
noncomputable def mX0_goTo_B11 (K : Kk) (R : Rr) (r : Nat) (a0 : Int32) (a1 : Int32) (a2 : Int32) (i9 : Int32) (M10 : Mm) : Option ((Int32 × Mm) ⊕ (Mm)) :=
  if i9 ≤ a0 then ex (mX0_goTo_J60 K R M10 r a1 a2) else if i9 ≤ 0 then ex (mX0_goTo_J60 K R M10 r a1 a2) else bd (R r 0) fun q13 => ck (isO K q13 5) <| bd (mX5_sideAt K R M10 q13 (i9 - 1) i9 a1 a2) fun l14 => if l14 ≤ 0 then nm (pI M10 q13 2 i9) fun M17 => nm (i9 + (-1) : Int32) fun i18 => some (.inl (i18, M17)) else ex (mX0_goTo_J60 K R M10 r a1 a2)
noncomputable def mX0_goTo_L11 (K : Kk) (R : Rr) (r : Nat) (a0 : Int32) (a1 : Int32) (a2 : Int32) (σ : (Int32 × Mm)) : Option ((Int32 × Mm) ⊕ (Mm)) :=
  mX0_goTo_B11 K R r a0 a1 a2 σ.1 σ.2
noncomputable def mX0_goTo (K : Kk) (R : Rr) (M : Mm) (r : Nat) (a0 : Int32) (a1 : Int32) (a2 : Int32) : Option (Mm) :=
  ck (isO K r 0) <| bd (R r 0) fun q6 => ck (isO K q6 5) <| nm ((M.1 q6 2) - 1 : Int32) fun i8 => lp (mX0_goTo_L11 K R r a0 a1 a2) (i8, M)
noncomputable def mX0_goRound_B70 (K : Kk) (R : Rr) (r : Nat) (i13 : Int32) (i15 : Int32) (M16 : Mm) : Option ((Int32 × Mm) ⊕ (Mm)) :=
  if i15 < 0 then ex (bd (R r 0) fun q18 => ck (isO K q18 5) <| nm (pI M16 q18 2 (if ((M16.1 q18 2) - 1) < 0 then 0 else ((M16.1 q18 2) - 1))) fun M20 => some (M20)) else bd (R r 1) fun q21 => ck (isO K q21 5) <| bd (R q21 0) fun q23 => ck (ixA K q23 0 i15) <| bd (R q21 1) fun q25 => ck (ixA K q25 0 i15) <| bd (mX0_goTo K R M16 r i13 (M16.1 q23 i15.toNatClampNeg) (M16.1 q25 i15.toNatClampNeg)) fun M27 => nm (i15 + (-1) : Int32) fun i28 => some (.inl (i28, M27))
noncomputable def mX0_goRound_L70 (K : Kk) (R : Rr) (r : Nat) (i13 : Int32) (σ : (Int32 × Mm)) : Option ((Int32 × Mm) ⊕ (Mm)) :=
  mX0_goRound_B70 K R r i13 σ.1 σ.2
noncomputable def mX0_goRound_B10 (K : Kk) (R : Rr) (r : Nat) (i6 : Int32) (M7 : Mm) : Option ((Int32 × Mm) ⊕ (Mm)) :=
  bd (R r 1) fun q8 => ck (isO K q8 5) <| if i6 < (M7.1 q8 2) then bd (R q8 0) fun q29 => ck (ixA K q29 0 i6) <| bd (R q8 1) fun q31 => ck (ixA K q31 0 i6) <| bd (mX0_goTo K R M7 r 0 (M7.1 q29 i6.toNatClampNeg) (M7.1 q31 i6.toNatClampNeg)) fun M33 => nm (i6 + 1 : Int32) fun i34 => some (.inl (i34, M33)) else ex (bd (R r 0) fun q11 => ck (isO K q11 5) <| nm ((M7.1 q11 2) - 1 : Int32) fun i13 => nm ((M7.1 q8 2) - 2 : Int32) fun i14 => lp (mX0_goRound_L70 K R r i13) (i14, M7))
noncomputable def mX0_goRound_L10 (K : Kk) (R : Rr) (r : Nat) (σ : (Int32 × Mm)) : Option ((Int32 × Mm) ⊕ (Mm)) :=
  mX0_goRound_B10 K R r σ.1 σ.2
noncomputable def mX0_goRound (K : Kk) (R : Rr) (M : Mm) (r : Nat) : Option (Mm) :=
  ck (isO K r 0) <| bd (R r 0) fun q2 => ck (isO K q2 5) <| nm (pI M q2 2 0) fun M4 => nm (0 : Int32) fun i5 => lp (mX0_goRound_L10 K R r) (i5, M4)
noncomputable def mX0_trace (K : Kk) (R : Rr) (M : Mm) (r : Nat) (a0 : Nat) (a1 : Nat) : Option (Int32 × Mm) :=
  ck (isO K r 0) <| ck (isO K a0 5) <| ck (isO K a1 5) <| bd (R r 1) fun q4 => ck (isO K q4 5) <| nm (pI M q4 2 0) fun M6 => bd (mX0_sortInHeld K R M6 r a0 a1) fun M7 => bd (mX0_sortInHeld K R M7 r a1 a0) fun M8 => bd2 (mX0_sortInCrossings K R M8 r a0 a1) fun i9 M10 => if i9 = 0 then some (0, M10) else bd (mX0_goRound K R M10 r) fun M12 => some (1, M12)
noncomputable def mX1_now (K : Kk) (R : Rr) (M : Mm) (r : Nat) : Option (Nat) :=
  ck (isO K r 1) <| bd (R r 0) fun q2 => ck (ixA K q2 4 (M.1 r 2)) <| bd (R q2 (M.1 r 2).toNatClampNeg) fun q4 => some (q4)
noncomputable def mX1_kept (K : Kk) (R : Rr) (M : Mm) (r : Nat) : Option (Int32) :=
  ck (isO K r 1) <| some (M.1 r 2)
noncomputable def mX1_undone (K : Kk) (R : Rr) (M : Mm) (r : Nat) : Option (Int32) :=
  ck (isO K r 1) <| some ((M.1 r 3) - (M.1 r 2))
noncomputable def mX5_take (K : Kk) (R : Rr) (M : Mm) (r : Nat) (a0 : Nat) : Option (Mm) :=
  ck (isO K r 5) <| ck (isO K a0 5) <| bd (R r 0) fun q3 => ck (isAr K q3) <| nm (pI M r 2 (if (alen K q3) < (M.1 a0 2) then (alen K q3) else (M.1 a0 2))) fun M5 => bd (R a0 0) fun q6 => ck (okC K 0 q6 q3 0 0 (M5.1 r 2)) <| nm (cpI M5 q6 q3 0 0 (M5.1 r 2)) fun M8 => bd (R a0 1) fun q9 => bd (R r 1) fun q10 => ck (okC K 0 q9 q10 0 0 (M8.1 r 2)) <| nm (cpI M8 q9 q10 0 0 (M8.1 r 2)) fun M12 => some (M12)
noncomputable def mX3_setMove (K : Kk) (R : Rr) (M : Mm) (r : Nat) (a0 : Int32) (a1 : Int32) (a2 : Int32) : Option (Mm) :=
  ck (isO K r 3) <| nm (pI M r 1 a0) fun M2 => nm (pI M2 r 2 a1) fun M3 => nm (pI M3 r 3 a2) fun M4 => some (M4)
noncomputable def mX3_take (K : Kk) (R : Rr) (M : Mm) (r : Nat) (a0 : Nat) : Option (Mm) :=
  ck (isO K r 3) <| ck (isO K a0 3) <| bd (R r 0) fun q3 => bd (R a0 0) fun q4 => ck (isO K q3 5) <| bd (mX5_take K R M q3 q4) fun M5 => bd (mX3_setMove K R M5 r (M5.1 a0 1) (M5.1 a0 2) (M5.1 a0 3)) fun M7 => ck (isB (M7.1 a0 4)) <| nm (pI M7 r 4 (M7.1 a0 4)) fun M9 => some (M9)
noncomputable def mX4_take_B10 (K : Kk) (R : Rr) (r : Nat) (a0 : Nat) (i5 : Int32) (M6 : Mm) : Option ((Int32 × Mm) ⊕ (Mm)) :=
  if i5 < (M6.1 r 1) then bd (R r 0) fun q8 => ck (ixA K q8 5 i5) <| bd (R q8 i5.toNatClampNeg) fun q10 => bd (R a0 0) fun q11 => ck (ixA K q11 5 i5) <| bd (R q11 i5.toNatClampNeg) fun q13 => ck (isO K q10 3) <| bd (mX3_take K R M6 q10 q13) fun M14 => nm (i5 + 1 : Int32) fun i16 => some (.inl (i16, M14)) else ex (some (M6))
noncomputable def mX4_take_L10 (K : Kk) (R : Rr) (r : Nat) (a0 : Nat) (σ : (Int32 × Mm)) : Option ((Int32 × Mm) ⊕ (Mm)) :=
  mX4_take_B10 K R r a0 σ.1 σ.2
noncomputable def mX4_take (K : Kk) (R : Rr) (M : Mm) (r : Nat) (a0 : Nat) : Option (Mm) :=
  ck (isO K r 4) <| ck (isO K a0 4) <| nm (pI M r 1 (M.1 a0 1)) fun M3 => nm (0 : Int32) fun i4 => lp (mX4_take_L10 K R r a0) (i4, M3)
noncomputable def mX1_draft (K : Kk) (R : Rr) (M : Mm) (r : Nat) : Option (Nat × Mm) :=
  ck (isO K r 1) <| bd (R r 1) fun q2 => bd (R r 0) fun q3 => ck (ixA K q3 4 (M.1 r 2)) <| bd (R q3 (M.1 r 2).toNatClampNeg) fun q5 => ck (isO K q2 4) <| bd (mX4_take K R M q2 q5) fun M6 => some (q2, M6)
noncomputable def mX1_emptyDraft (K : Kk) (R : Rr) (M : Mm) (r : Nat) : Option (Nat × Mm) :=
  ck (isO K r 1) <| bd (R r 1) fun q2 => ck (isO K q2 4) <| nm (pI M q2 1 0) fun M4 => some (q2, M4)
noncomputable def mX1_keepDraft_J65 (K : Kk) (R2 : Rr) (M3 : Mm) (r : Nat) : Option (Rr × Mm) :=
  bd (R2 r 0) fun q4 => ck (ixA K q4 4 (M3.1 r 2)) <| bd (R2 q4 (M3.1 r 2).toNatClampNeg) fun q6 => bd (R2 r 1) fun q7 => ck (isO K q7 4) <| nm (pR R2 q4 (M3.1 r 2).toNatClampNeg (some q7)) fun R9 => nm (pR R9 r 1 (some q6)) fun R10 => nm (pI M3 r 3 (M3.1 r 2)) fun M11 => some (R10, M11)
noncomputable def mX1_keepDraft_B18 (K : Kk) (r : Nat) (q16 : Nat) (i18 : Int32) (R19 : Rr) (M20 : Mm) : Option ((Int32 × Rr × Mm) ⊕ (Rr × Mm)) :=
  if i18 < 6 then bd (R19 r 0) fun q26 => ck (ixA K q26 4 (i18 + 1)) <| bd (R19 q26 (i18 + 1).toNatClampNeg) fun q28 => ck (ixA K q26 4 i18) <| ck (isO K q28 4) <| nm (pR R19 q26 i18.toNatClampNeg (some q28)) fun R31 => nm (i18 + 1 : Int32) fun i32 => some (.inl (i32, R31, M20)) else ex (bd (R19 r 0) fun q22 => ck (ixA K q22 4 6) <| ck (isO K q16 4) <| nm (pR R19 q22 6 (some q16)) fun R25 => mX1_keepDraft_J65 K R25 M20 r)
noncomputable def mX1_keepDraft_L18 (K : Kk) (r : Nat) (q16 : Nat) (σ : (Int32 × Rr × Mm)) : Option ((Int32 × Rr × Mm) ⊕ (Rr × Mm)) :=
  mX1_keepDraft_B18 K r q16 σ.1 σ.2.1 σ.2.2
noncomputable def mX1_keepDraft (K : Kk) (R : Rr) (M : Mm) (r : Nat) : Option (Rr × Mm) :=
  ck (isO K r 1) <| if (M.1 r 2) = 6 then bd (R r 0) fun q14 => ck (ixA K q14 4 0) <| bd (R q14 0) fun q16 => nm (0 : Int32) fun i17 => lp (mX1_keepDraft_L18 K r q16) (i17, R, M) else nm (pI M r 2 ((M.1 r 2) + 1)) fun M13 => mX1_keepDraft_J65 K R M13 r
noncomputable def mX1_stepBack (K : Kk) (R : Rr) (M : Mm) (r : Nat) : Option (Int32 × Mm) :=
  ck (isO K r 1) <| if (M.1 r 2) = 0 then some (0, M) else nm (pI M r 2 ((M.1 r 2) - 1)) fun M3 => some (1, M3)
noncomputable def mX1_stepOn (K : Kk) (R : Rr) (M : Mm) (r : Nat) : Option (Int32 × Mm) :=
  ck (isO K r 1) <| if (M.1 r 2) < (M.1 r 3) then nm (pI M r 2 ((M.1 r 2) + 1)) fun M3 => some (1, M3) else some (0, M)
noncomputable def mX2_weigh_J73 (K : Kk) (R : Rr) (M12 : Mm) (r : Nat) (a0 : Nat) (i8 : Int32) (s9 : Nat) (s10 : Int32) (s11 : Int32) : Option ((Int32 × Mm) ⊕ (Mm)) :=
  ck (isO K s9 2) <| nm (pI M12 s9 7 (s10 + s11)) fun M14 => nm (i8 + 1 : Int32) fun i15 => some (.inl (i15, M14))
noncomputable def mX2_weigh_J53 (K : Kk) (R : Rr) (M21 : Mm) (r : Nat) (a0 : Nat) (i16 : Int32) (l17 : Int64) (s18 : Nat) (s19 : Int32) (s20 : Int32) : Option ((Int32 × Mm) ⊕ (Mm)) :=
  ck (isO K s18 2) <| nm (pI M21 s18 6 (s19 + s20)) fun M23 => if l17 < 0 then mX2_weigh_J73 K R M23 r a0 i16 (r) (M23.1 r 7) (1) else mX2_weigh_J73 K R M23 r a0 i16 (r) (M23.1 r 7) (0)
noncomputable def mX2_weigh_B12 (K : Kk) (R : Rr) (r : Nat) (a0 : Nat) (i6 : Int32) (M7 : Mm) : Option ((Int32 × Mm) ⊕ (Mm)) :=
  if i6 < (M7.1 a0 2) then bd (R a0 0) fun q26 => ck (ixA K q26 0 i6) <| bd (R a0 1) fun q28 => ck (ixA K q28 0 i6) <| bd (mX2_side K R M7 r (M7.1 q26 i6.toNatClampNeg) (M7.1 q28 i6.toNatClampNeg)) fun l30 => if l30 ≤ 0 then mX2_weigh_J53 K R M7 r a0 i6 l30 (r) (M7.1 r 6) (0) else mX2_weigh_J53 K R M7 r a0 i6 l30 (r) (M7.1 r 6) (1) else ex (some (M7))
noncomputable def mX2_weigh_L12 (K : Kk) (R : Rr) (r : Nat) (a0 : Nat) (σ : (Int32 × Mm)) : Option ((Int32 × Mm) ⊕ (Mm)) :=
  mX2_weigh_B12 K R r a0 σ.1 σ.2
noncomputable def mX2_weigh (K : Kk) (R : Rr) (M : Mm) (r : Nat) (a0 : Nat) : Option (Mm) :=
  ck (isO K r 2) <| ck (isO K a0 5) <| nm (pI M r 6 0) fun M3 => nm (pI M3 r 7 0) fun M4 => nm (0 : Int32) fun i5 => lp (mX2_weigh_L12 K R r a0) (i5, M4)
noncomputable def mX2_crosses (K : Kk) (R : Rr) (M : Mm) (r : Nat) : Option (Int32) :=
  ck (isO K r 2) <| if (M.1 r 6) ≤ 0 then some (0) else if (M.1 r 7) ≤ 0 then some (0) else some (1)
noncomputable def mX2_overfills (K : Kk) (R : Rr) (M : Mm) (r : Nat) : Option (Int32) :=
  ck (isO K r 2) <| if ((if (M.1 r 6) < (M.1 r 7) then (M.1 r 7) else (M.1 r 6)) + 2) ≤ 16 then some (0) else some (1)
noncomputable def mX2_divide_J198 (K : Kk) (R : Rr) (M11 : Mm) (r : Nat) (a0 : Nat) (a1 : Nat) (a2 : Nat) (i10 : Int32) : Option ((Int32 × Mm) ⊕ (Int32 × Mm)) :=
  nm (i10 + 1 : Int32) fun i12 => some (.inl (i12, M11))
noncomputable def mX2_divide_J102 (K : Kk) (R : Rr) (M15 : Mm) (r : Nat) (a0 : Nat) (a1 : Nat) (a2 : Nat) (i13 : Int32) (i14 : Int32) : Option ((Int32 × Mm) ⊕ (Int32 × Mm)) :=
  bd (R a0 0) fun q16 => ck (ixA K q16 0 i13) <| bd (R a0 1) fun q18 => ck (ixA K q18 0 i13) <| ck (ixA K q16 0 i14) <| ck (ixA K q18 0 i14) <| bd (mX2_isBetween K R M15 r (M15.1 q16 i13.toNatClampNeg) (M15.1 q18 i13.toNatClampNeg) (M15.1 q16 i14.toNatClampNeg) (M15.1 q18 i14.toNatClampNeg)) fun i22 => if i22 = 0 then mX2_divide_J198 K R M15 r a0 a1 a2 i13 else bd2 (mX2_meet K R M15 r (M15.1 q16 i13.toNatClampNeg) (M15.1 q18 i13.toNatClampNeg) (M15.1 q16 i14.toNatClampNeg) (M15.1 q18 i14.toNatClampNeg)) fun i24 M25 => if i24 = 0 then ex (some (0, M25)) else bd (mX5_add K R M25 a1 (M25.1 r 0) (M25.1 r 1)) fun M27 => bd (mX5_add K R M27 a2 (M27.1 r 0) (M27.1 r 1)) fun M28 => mX2_divide_J198 K R M28 r a0 a1 a2 i13
noncomputable def mX2_divide_J77 (K : Kk) (R : Rr) (M32 : Mm) (r : Nat) (a0 : Nat) (a1 : Nat) (a2 : Nat) (i29 : Int32) (i30 : Int32) (l31 : Int64) : Option ((Int32 × Mm) ⊕ (Int32 × Mm)) :=
  if l31 ≤ 0 then bd (R a0 0) fun q34 => ck (ixA K q34 0 i29) <| bd (R a0 1) fun q36 => ck (ixA K q36 0 i29) <| bd (mX5_add K R M32 a2 (M32.1 q34 i29.toNatClampNeg) (M32.1 q36 i29.toNatClampNeg)) fun M38 => mX2_divide_J102 K R M38 r a0 a1 a2 i29 i30 else mX2_divide_J102 K R M32 r a0 a1 a2 i29 i30
noncomputable def mX2_divide_B13 (K : Kk) (R : Rr) (r : Nat) (a0 : Nat) (a1 : Nat) (a2 : Nat) (i8 : Int32) (M9 : Mm) : Option ((Int32 × Mm) ⊕ (Int32 × Mm)) :=
  if i8 < (M9.1 a0 2) then bd (mX5_wrap K R M9 a0 (i8 + 1)) fun i40 => bd (R a0 0) fun q41 => ck (ixA K q41 0 i8) <| bd (R a0 1) fun q43 => ck (ixA K q43 0 i8) <| bd (mX2_side K R M9 r (M9.1 q41 i8.toNatClampNeg) (M9.1 q43 i8.toNatClampNeg)) fun l45 => if l45 < 0 then mX2_divide_J77 K R M9 r a0 a1 a2 i8 i40 l45 else bd (mX5_add K R M9 a1 (M9.1 q41 i8.toNatClampNeg) (M9.1 q43 i8.toNatClampNeg)) fun M47 => mX2_divide_J77 K R M47 r a0 a1 a2 i8 i40 l45 else ex (some (1, M9))
noncomputable def mX2_divide_L13 (K : Kk) (R : Rr) (r : Nat) (a0 : Nat) (a1 : Nat) (a2 : Nat) (σ : (Int32 × Mm)) : Option ((Int32 × Mm) ⊕ (Int32 × Mm)) :=
  mX2_divide_B13 K R r a0 a1 a2 σ.1 σ.2
noncomputable def mX2_divide (K : Kk) (R : Rr) (M : Mm) (r : Nat) (a0 : Nat) (a1 : Nat) (a2 : Nat) : Option (Int32 × Mm) :=
  ck (isO K r 2) <| ck (isO K a0 5) <| ck (isO K a1 5) <| ck (isO K a2 5) <| nm (pI M a1 2 0) fun M5 => nm (pI M5 a2 2 0) fun M6 => nm (0 : Int32) fun i7 => lp (mX2_divide_L13 K R r a0 a1 a2) (i7, M6)
noncomputable def mX3_hasMove (K : Kk) (R : Rr) (M : Mm) (r : Nat) (a0 : Int32) (a1 : Int32) (a2 : Int32) : Option (Int32) :=
  ck (isO K r 3) <| if (M.1 r 1) = a0 then if (M.1 r 2) = a1 then if (M.1 r 3) = a2 then some (1) else some (0) else some (0) else some (0)
noncomputable def mX5_leastTurned_J63 (K : Kk) (R : Rr) (M : Mm) (r : Nat) (a0 : Int32) (i6 : Int32) (i7 : Int32) : Option ((Int32 × Int32) ⊕ (Int32)) :=
  nm (i7 + 1 : Int32) fun i8 => some (.inl (i6, i8))
noncomputable def mX5_leastTurned_J61 (K : Kk) (R : Rr) (M : Mm) (r : Nat) (a0 : Int32) (i9 : Int32) : Option ((Int32 × Int32) ⊕ (Int32)) :=
  mX5_leastTurned_J63 K R M r a0 i9 i9
noncomputable def mX5_leastTurned_B4 (K : Kk) (R : Rr) (M : Mm) (r : Nat) (a0 : Int32) (i4 : Int32) (i5 : Int32) : Option ((Int32 × Int32) ⊕ (Int32)) :=
  if i5 < (M.1 r 2) then bd (R r 0) fun q11 => ck (ixA K q11 0 i4) <| ck (ixA K q11 0 i5) <| nm (a0 * ((M.1 q11 i4.toNatClampNeg) - (M.1 q11 i5.toNatClampNeg)) : Int32) fun i14 => bd (R r 1) fun q15 => ck (ixA K q15 0 i4) <| ck (ixA K q15 0 i5) <| nm (a0 * ((M.1 q15 i4.toNatClampNeg) - (M.1 q15 i5.toNatClampNeg)) : Int32) fun i18 => if i14 ≤ 0 then if i14 = 0 then if i18 ≤ 0 then mX5_leastTurned_J63 K R M r a0 i4 i5 else mX5_leastTurned_J61 K R M r a0 i5 else mX5_leastTurned_J63 K R M r a0 i4 i5 else mX5_leastTurned_J61 K R M r a0 i5 else ex (some (i4))
noncomputable def mX5_leastTurned_L4 (K : Kk) (R : Rr) (M : Mm) (r : Nat) (a0 : Int32) (σ : (Int32 × Int32)) : Option ((Int32 × Int32) ⊕ (Int32)) :=
  mX5_leastTurned_B4 K R M r a0 σ.1 σ.2
noncomputable def mX5_leastTurned (K : Kk) (R : Rr) (M : Mm) (r : Nat) (a0 : Int32) : Option (Int32) :=
  ck (isO K r 5) <| nm (0 : Int32) fun i2 => nm (1 : Int32) fun i3 => lp (mX5_leastTurned_L4 K R M r a0) (i2, i3)
noncomputable def mX5_takeMoved_B15 (K : Kk) (R : Rr) (r : Nat) (a0 : Nat) (a1 : Int32) (a2 : Int32) (a3 : Int32) (i3 : Int32) (i6 : Int32) (M7 : Mm) : Option ((Int32 × Mm) ⊕ (Mm)) :=
  if i6 < (M7.1 a0 2) then bd (mX5_wrap K R M7 a0 (i3 + i6)) fun i9 => bd (R a0 0) fun q10 => ck (ixA K q10 0 i9) <| bd (R a0 1) fun q12 => ck (ixA K q12 0 i9) <| bd (mX5_add K R M7 r ((a1 * (M7.1 q10 i9.toNatClampNeg)) + a2) ((a1 * (M7.1 q12 i9.toNatClampNeg)) + a3)) fun M14 => nm (i6 + 1 : Int32) fun i15 => some (.inl (i15, M14)) else ex (some (M7))
noncomputable def mX5_takeMoved_L15 (K : Kk) (R : Rr) (r : Nat) (a0 : Nat) (a1 : Int32) (a2 : Int32) (a3 : Int32) (i3 : Int32) (σ : (Int32 × Mm)) : Option ((Int32 × Mm) ⊕ (Mm)) :=
  mX5_takeMoved_B15 K R r a0 a1 a2 a3 i3 σ.1 σ.2
noncomputable def mX5_takeMoved (K : Kk) (R : Rr) (M : Mm) (r : Nat) (a0 : Nat) (a1 : Int32) (a2 : Int32) (a3 : Int32) : Option (Mm) :=
  ck (isO K r 5) <| ck (isO K a0 5) <| bd (mX5_leastTurned K R M a0 a1) fun i3 => nm (pI M r 2 0) fun M4 => nm (0 : Int32) fun i5 => lp (mX5_takeMoved_L15 K R r a0 a1 a2 a3 i3) (i5, M4)
noncomputable def mX3_setOrigin (K : Kk) (R : Rr) (M : Mm) (r : Nat) (a0 : Nat) : Option (Mm) :=
  ck (isO K r 3) <| ck (isO K a0 5) <| bd (R r 0) fun q3 => ck (isO K q3 5) <| bd (mX5_takeMoved K R M q3 a0 1 0 0) fun M4 => nm (pI M4 r 4 0) fun M6 => some (M6)
noncomputable def mX3_setPlace (K : Kk) (R : Rr) (M : Mm) (r : Nat) (a0 : Nat) : Option (Mm) :=
  ck (isO K r 3) <| ck (isO K a0 5) <| bd (R r 0) fun q3 => ck (isO K q3 5) <| bd (mX5_takeMoved K R M q3 a0 (M.1 r 1) ((-(M.1 r 1)) * (M.1 r 2)) ((-(M.1 r 1)) * (M.1 r 3))) fun M4 => nm (pI M4 r 4 0) fun M6 => some (M6)
noncomputable def mX3_placeInto (K : Kk) (R : Rr) (M : Mm) (r : Nat) (a0 : Nat) : Option (Mm) :=
  ck (isO K r 3) <| ck (isO K a0 5) <| bd (R r 0) fun q3 => bd (mX5_takeMoved K R M a0 q3 (M.1 r 1) (M.1 r 2) (M.1 r 3)) fun M4 => some (M4)
noncomputable def mX3_isTriangle (K : Kk) (R : Rr) (M : Mm) (r : Nat) : Option (Int32) :=
  ck (isO K r 3) <| bd (R r 0) fun q2 => ck (isO K q2 5) <| if (M.1 q2 2) = 3 then some (1) else some (0)
noncomputable def mX5_isSlab (K : Kk) (R : Rr) (M : Mm) (r : Nat) : Option (Int32) :=
  ck (isO K r 5) <| if (M.1 r 2) = 4 then bd (R r 0) fun q3 => ck (ixA K q3 0 1) <| ck (ixA K q3 0 0) <| ck (ixA K q3 0 2) <| ck (ixA K q3 0 3) <| if ((M.1 q3 1) - (M.1 q3 0)) = ((M.1 q3 2) - (M.1 q3 3)) then bd (R r 1) fun q9 => ck (ixA K q9 0 1) <| ck (ixA K q9 0 0) <| ck (ixA K q9 0 2) <| ck (ixA K q9 0 3) <| if ((M.1 q9 1) - (M.1 q9 0)) = ((M.1 q9 2) - (M.1 q9 3)) then some (1) else some (0) else some (0) else some (0)
noncomputable def mX5_goesAlongOrUp_J38 (K : Kk) (R : Rr) (M : Mm) : Option (Int32) :=
  some (1)
noncomputable def mX5_goesAlongOrUp (K : Kk) (R : Rr) (M : Mm) (r : Nat) (a0 : Int32) : Option (Int32) :=
  ck (isO K r 5) <| bd (mX5_wrap K R M r (a0 + 1)) fun i2 => bd (R r 0) fun q3 => ck (ixA K q3 0 a0) <| ck (ixA K q3 0 i2) <| if (M.1 q3 a0.toNatClampNeg) = (M.1 q3 i2.toNatClampNeg) then mX5_goesAlongOrUp_J38 K R M  else bd (R r 1) fun q7 => ck (ixA K q7 0 a0) <| ck (ixA K q7 0 i2) <| if (M.1 q7 a0.toNatClampNeg) = (M.1 q7 i2.toNatClampNeg) then mX5_goesAlongOrUp_J38 K R M  else some (0)
noncomputable def mX3_isOfKind (K : Kk) (R : Rr) (M : Mm) (r : Nat) (a0 : Int32) : Option (Int32) :=
  ck (isO K r 3) <| if a0 = 0 then some (1) else if a0 = 1 then bd (mX3_isTriangle K R M r) fun i4 => ck (isB i4) <| some (i4) else if a0 = 2 then bd (R r 0) fun q7 => ck (isO K q7 5) <| bd (mX5_isSlab K R M q7) fun i8 => ck (isB i8) <| some (i8) else if a0 = 3 then bd (R r 0) fun q12 => ck (isO K q12 5) <| bd (mX5_isSlab K R M q12) fun i13 => if i13 = 0 then some (0) else bd (mX5_goesAlongOrUp K R M q12 0) fun i16 => if i16 = 0 then some (0) else bd (mX5_goesAlongOrUp K R M q12 1) fun i18 => if i18 = 0 then some (0) else some (1) else bd (mX3_isTriangle K R M r) fun i20 => if i20 = 0 then some (0) else if (M.1 r 4) = 0 then some (0) else some (1)
noncomputable def mX4_add (K : Kk) (R : Rr) (M : Mm) (r : Nat) (a0 : Nat) : Option (Mm) :=
  ck (isO K r 4) <| ck (isO K a0 3) <| if (M.1 r 1) < 40 then bd (R r 0) fun q4 => ck (ixA K q4 5 (M.1 r 1)) <| bd (R q4 (M.1 r 1).toNatClampNeg) fun q6 => ck (isO K q6 3) <| bd (mX3_take K R M q6 a0) fun M7 => nm (pI M7 r 1 ((M7.1 r 1) + 1)) fun M9 => some (M9) else some (M)
noncomputable def mX4_remove_B2 (K : Kk) (R : Rr) (r : Nat) (i2 : Int32) (M3 : Mm) : Option ((Int32 × Mm) ⊕ (Mm)) :=
  if i2 < ((M3.1 r 1) - 1) then bd (R r 0) fun q6 => ck (ixA K q6 5 i2) <| bd (R q6 i2.toNatClampNeg) fun q8 => ck (ixA K q6 5 (i2 + 1)) <| bd (R q6 (i2 + 1).toNatClampNeg) fun q10 => ck (isO K q8 3) <| bd (mX3_take K R M3 q8 q10) fun M11 => nm (i2 + 1 : Int32) fun i13 => some (.inl (i13, M11)) else ex (nm (pI M3 r 1 ((M3.1 r 1) - 1)) fun M5 => some (M5))
noncomputable def mX4_remove_L2 (K : Kk) (R : Rr) (r : Nat) (σ : (Int32 × Mm)) : Option ((Int32 × Mm) ⊕ (Mm)) :=
  mX4_remove_B2 K R r σ.1 σ.2
noncomputable def mX4_remove (K : Kk) (R : Rr) (M : Mm) (r : Nat) (a0 : Int32) : Option (Mm) :=
  ck (isO K r 4) <| lp (mX4_remove_L2 K R r) (a0, M)
noncomputable def mX5_twiceArea_B4 (K : Kk) (R : Rr) (M : Mm) (r : Nat) (l4 : Int64) (i5 : Int32) : Option ((Int64 × Int32) ⊕ (Int64)) :=
  if i5 < (M.1 r 2) then bd (mX5_wrap K R M r (i5 + 1)) fun i7 => bd (R r 0) fun q8 => ck (ixA K q8 0 i5) <| bd (R r 1) fun q10 => ck (ixA K q10 0 i7) <| ck (ixA K q8 0 i7) <| ck (ixA K q10 0 i5) <| nm (l4 + ((((M.1 q8 i5.toNatClampNeg).toInt64) * ((M.1 q10 i7.toNatClampNeg).toInt64)) - (((M.1 q8 i7.toNatClampNeg).toInt64) * ((M.1 q10 i5.toNatClampNeg).toInt64))) : Int64) fun l14 => nm (i5 + 1 : Int32) fun i15 => some (.inl (l14, i15)) else ex (some (l4))
noncomputable def mX5_twiceArea_L4 (K : Kk) (R : Rr) (M : Mm) (r : Nat) (σ : (Int64 × Int32)) : Option ((Int64 × Int32) ⊕ (Int64)) :=
  mX5_twiceArea_B4 K R M r σ.1 σ.2
noncomputable def mX5_twiceArea (K : Kk) (R : Rr) (M : Mm) (r : Nat) : Option (Int64) :=
  ck (isO K r 5) <| nm (0 : Int64) fun l2 => nm (0 : Int32) fun i3 => lp (mX5_twiceArea_L4 K R M r) (l2, i3)
noncomputable def mX4_twiceArea_J41 (K : Kk) (R : Rr) (M : Mm) (r : Nat) (i6 : Int32) (s7 : Int64) (s8 : Int64) : Option ((Int64 × Int32) ⊕ (Int64)) :=
  nm (s7 + s8 : Int64) fun l9 => nm (i6 + 1 : Int32) fun i10 => some (.inl (l9, i10))
noncomputable def mX4_twiceArea_B4 (K : Kk) (R : Rr) (M : Mm) (r : Nat) (l4 : Int64) (i5 : Int32) : Option ((Int64 × Int32) ⊕ (Int64)) :=
  if i5 < (M.1 r 1) then bd (R r 0) fun q12 => ck (ixA K q12 5 i5) <| bd (R q12 i5.toNatClampNeg) fun q14 => ck (isO K q14 3) <| if (M.1 q14 4) = 0 then bd (R q14 0) fun q17 => ck (isO K q17 5) <| bd (mX5_twiceArea K R M q17) fun l18 => mX4_twiceArea_J41 K R M r i5 (l4) (l18) else mX4_twiceArea_J41 K R M r i5 (l4) (0) else ex (some (l4))
noncomputable def mX4_twiceArea_L4 (K : Kk) (R : Rr) (M : Mm) (r : Nat) (σ : (Int64 × Int32)) : Option ((Int64 × Int32) ⊕ (Int64)) :=
  mX4_twiceArea_B4 K R M r σ.1 σ.2
noncomputable def mX4_twiceArea (K : Kk) (R : Rr) (M : Mm) (r : Nat) : Option (Int64) :=
  ck (isO K r 4) <| nm (0 : Int64) fun l2 => nm (0 : Int32) fun i3 => lp (mX4_twiceArea_L4 K R M r) (l2, i3)
noncomputable def mX5_takeBackwards_B12 (K : Kk) (R : Rr) (r : Nat) (a0 : Nat) (i5 : Int32) (M6 : Mm) : Option ((Int32 × Mm) ⊕ (Mm)) :=
  if i5 < 0 then ex (some (M6)) else bd (R a0 0) fun q8 => ck (ixA K q8 0 i5) <| bd (R a0 1) fun q10 => ck (ixA K q10 0 i5) <| bd (mX5_add K R M6 r (M6.1 q8 i5.toNatClampNeg) (M6.1 q10 i5.toNatClampNeg)) fun M12 => nm (i5 + (-1) : Int32) fun i13 => some (.inl (i13, M12))
noncomputable def mX5_takeBackwards_L12 (K : Kk) (R : Rr) (r : Nat) (a0 : Nat) (σ : (Int32 × Mm)) : Option ((Int32 × Mm) ⊕ (Mm)) :=
  mX5_takeBackwards_B12 K R r a0 σ.1 σ.2
noncomputable def mX5_takeBackwards (K : Kk) (R : Rr) (M : Mm) (r : Nat) (a0 : Nat) : Option (Mm) :=
  ck (isO K r 5) <| ck (isO K a0 5) <| nm (pI M r 2 0) fun M3 => nm ((M3.1 a0 2) - 1 : Int32) fun i4 => lp (mX5_takeBackwards_L12 K R r a0) (i4, M3)
noncomputable def mX5_isSame (K : Kk) (R : Rr) (M : Mm) (r : Nat) (a0 : Int32) (a1 : Nat) (a2 : Int32) : Option (Int32) :=
  ck (isO K r 5) <| ck (isO K a1 5) <| bd (R r 0) fun q3 => ck (ixA K q3 0 a0) <| bd (R a1 0) fun q5 => ck (ixA K q5 0 a2) <| if (M.1 q3 a0.toNatClampNeg) = (M.1 q5 a2.toNatClampNeg) then bd (R r 1) fun q8 => ck (ixA K q8 0 a0) <| bd (R a1 1) fun q10 => ck (ixA K q10 0 a2) <| if (M.1 q8 a0.toNatClampNeg) = (M.1 q10 a2.toNatClampNeg) then some (1) else some (0) else some (0)
noncomputable def mX5_addFrom_B3 (K : Kk) (R : Rr) (r : Nat) (a0 : Nat) (a1 : Int32) (a2 : Int32) (i4 : Int32) (M5 : Mm) : Option ((Int32 × Mm) ⊕ (Mm)) :=
  if i4 < a2 then bd (mX5_wrap K R M5 a0 (a1 + i4)) fun i7 => bd (R a0 0) fun q8 => ck (ixA K q8 0 i7) <| bd (R a0 1) fun q10 => ck (ixA K q10 0 i7) <| bd (mX5_add K R M5 r (M5.1 q8 i7.toNatClampNeg) (M5.1 q10 i7.toNatClampNeg)) fun M12 => nm (i4 + 1 : Int32) fun i13 => some (.inl (i13, M12)) else ex (some (M5))
noncomputable def mX5_addFrom_L3 (K : Kk) (R : Rr) (r : Nat) (a0 : Nat) (a1 : Int32) (a2 : Int32) (σ : (Int32 × Mm)) : Option ((Int32 × Mm) ⊕ (Mm)) :=
  mX5_addFrom_B3 K R r a0 a1 a2 σ.1 σ.2
noncomputable def mX5_addFrom (K : Kk) (R : Rr) (M : Mm) (r : Nat) (a0 : Nat) (a1 : Int32) (a2 : Int32) : Option (Mm) :=
  ck (isO K r 5) <| ck (isO K a0 5) <| nm (0 : Int32) fun i3 => lp (mX5_addFrom_L3 K R r a0 a1 a2) (i3, M)
noncomputable def mX5_takeJoined_J90 (K : Kk) (R : Rr) (M : Mm) (r : Nat) (a0 : Nat) (a1 : Nat) (i5 : Int32) (i9 : Int32) : Option ((Int32) ⊕ ((Int32) ⊕ (Int32 × Mm))) :=
  nm (i9 + 1 : Int32) fun i10 => some (.inl (i10))
noncomputable def mX5_takeJoined_B13 (K : Kk) (R : Rr) (M : Mm) (r : Nat) (a0 : Nat) (a1 : Nat) (i5 : Int32) (i8 : Int32) : Option ((Int32) ⊕ ((Int32) ⊕ (Int32 × Mm))) :=
  if i8 < (M.1 a1 2) then bd (mX5_wrap K R M a1 (i8 + 1)) fun i13 => bd (mX5_isSame K R M a0 i5 a1 i13) fun i14 => if i14 = 0 then mX5_takeJoined_J90 K R M r a0 a1 i5 i8 else bd (mX5_wrap K R M a0 (i5 + 1)) fun i16 => bd (mX5_isSame K R M a0 i16 a1 i8) fun i17 => if i17 = 0 then mX5_takeJoined_J90 K R M r a0 a1 i5 i8 else ex (ex (nm (pI M r 2 0) fun M19 => bd (mX5_addFrom K R M19 r a0 (i5 + 1) (M19.1 a0 2)) fun M20 => bd (mX5_addFrom K R M20 r a1 (i8 + 2) ((M20.1 a1 2) - 2)) fun M21 => some (1, M21))) else ex (nm (i5 + 1 : Int32) fun i12 => some (.inl (i12)))
noncomputable def mX5_takeJoined_L13 (K : Kk) (R : Rr) (M : Mm) (r : Nat) (a0 : Nat) (a1 : Nat) (i5 : Int32) (σ : (Int32)) : Option ((Int32) ⊕ ((Int32) ⊕ (Int32 × Mm))) :=
  mX5_takeJoined_B13 K R M r a0 a1 i5 σ
noncomputable def mX5_takeJoined_B2 (K : Kk) (R : Rr) (M : Mm) (r : Nat) (a0 : Nat) (a1 : Nat) (i5 : Int32) : Option ((Int32) ⊕ (Int32 × Mm)) :=
  if i5 < (M.1 a0 2) then nm (0 : Int32) fun i7 => lp (mX5_takeJoined_L13 K R M r a0 a1 i5) (i7) else ex (some (0, M))
noncomputable def mX5_takeJoined_L2 (K : Kk) (R : Rr) (M : Mm) (r : Nat) (a0 : Nat) (a1 : Nat) (σ : (Int32)) : Option ((Int32) ⊕ (Int32 × Mm)) :=
  mX5_takeJoined_B2 K R M r a0 a1 σ
noncomputable def mX5_takeJoined (K : Kk) (R : Rr) (M : Mm) (r : Nat) (a0 : Nat) (a1 : Nat) : Option (Int32 × Mm) :=
  ck (isO K r 5) <| ck (isO K a0 5) <| ck (isO K a1 5) <| nm (0 : Int32) fun i4 => lp (mX5_takeJoined_L2 K R M r a0 a1) (i4)
noncomputable def mX5_takeUnbent_J91 (K : Kk) (R : Rr) (M8 : Mm) (r : Nat) (a0 : Nat) (i7 : Int32) : Option ((Int32 × Mm) ⊕ (Int32 × Mm)) :=
  nm (i7 + 1 : Int32) fun i9 => some (.inl (i9, M8))
noncomputable def mX5_takeUnbent_B7 (K : Kk) (R : Rr) (r : Nat) (a0 : Nat) (i5 : Int32) (M6 : Mm) : Option ((Int32 × Mm) ⊕ (Int32 × Mm)) :=
  if i5 < (M6.1 a0 2) then bd (mX5_wrap K R M6 a0 ((i5 + (M6.1 a0 2)) - 1)) fun i11 => bd (mX5_wrap K R M6 a0 (i5 + 1)) fun i12 => bd (R a0 0) fun q13 => ck (ixA K q13 0 i12) <| bd (R a0 1) fun q15 => ck (ixA K q15 0 i12) <| bd (mX5_sideAt K R M6 a0 i11 i5 (M6.1 q13 i12.toNatClampNeg) (M6.1 q15 i12.toNatClampNeg)) fun l17 => if l17 < 0 then ex (some (0, M6)) else if l17 ≤ 0 then mX5_takeUnbent_J91 K R M6 r a0 i5 else ck (ixA K q13 0 i5) <| ck (ixA K q15 0 i5) <| bd (mX5_add K R M6 r (M6.1 q13 i5.toNatClampNeg) (M6.1 q15 i5.toNatClampNeg)) fun M22 => mX5_takeUnbent_J91 K R M22 r a0 i5 else ex (some (1, M6))
noncomputable def mX5_takeUnbent_L7 (K : Kk) (R : Rr) (r : Nat) (a0 : Nat) (σ : (Int32 × Mm)) : Option ((Int32 × Mm) ⊕ (Int32 × Mm)) :=
  mX5_takeUnbent_B7 K R r a0 σ.1 σ.2
noncomputable def mX5_takeUnbent (K : Kk) (R : Rr) (M : Mm) (r : Nat) (a0 : Nat) : Option (Int32 × Mm) :=
  ck (isO K r 5) <| ck (isO K a0 5) <| nm (pI M r 2 0) fun M3 => nm (0 : Int32) fun i4 => lp (mX5_takeUnbent_L7 K R r a0) (i4, M3)
noncomputable def mX5_isRing_J63 (K : Kk) (R : Rr) (M : Mm) (r : Nat) (i3 : Int32) (i6 : Int32) (i9 : Int32) : Option ((Int32) ⊕ ((Int32) ⊕ (Int32))) :=
  nm (i9 + 1 : Int32) fun i10 => some (.inl (i10))
noncomputable def mX5_isRing_B20 (K : Kk) (R : Rr) (M : Mm) (r : Nat) (i3 : Int32) (i6 : Int32) (i8 : Int32) : Option ((Int32) ⊕ ((Int32) ⊕ (Int32))) :=
  if i8 < (M.1 r 2) then if i8 = i3 then mX5_isRing_J63 K R M r i3 i6 i8 else if i8 = i6 then mX5_isRing_J63 K R M r i3 i6 i8 else bd (R r 0) fun q15 => ck (ixA K q15 0 i8) <| bd (R r 1) fun q17 => ck (ixA K q17 0 i8) <| bd (mX5_sideAt K R M r i3 i6 (M.1 q15 i8.toNatClampNeg) (M.1 q17 i8.toNatClampNeg)) fun l19 => if l19 ≤ 0 then ex (ex (some (0))) else mX5_isRing_J63 K R M r i3 i6 i8 else ex (nm (i3 + 1 : Int32) fun i12 => some (.inl (i12)))
noncomputable def mX5_isRing_L20 (K : Kk) (R : Rr) (M : Mm) (r : Nat) (i3 : Int32) (i6 : Int32) (σ : (Int32)) : Option ((Int32) ⊕ ((Int32) ⊕ (Int32))) :=
  mX5_isRing_B20 K R M r i3 i6 σ
noncomputable def mX5_isRing_B2 (K : Kk) (R : Rr) (M : Mm) (r : Nat) (i3 : Int32) : Option ((Int32) ⊕ (Int32)) :=
  if i3 < (M.1 r 2) then bd (mX5_wrap K R M r (i3 + 1)) fun i6 => nm (0 : Int32) fun i7 => lp (mX5_isRing_L20 K R M r i3 i6) (i7) else ex (if (M.1 r 2) < 3 then some (0) else some (1))
noncomputable def mX5_isRing_L2 (K : Kk) (R : Rr) (M : Mm) (r : Nat) (σ : (Int32)) : Option ((Int32) ⊕ (Int32)) :=
  mX5_isRing_B2 K R M r σ
noncomputable def mX5_isRing (K : Kk) (R : Rr) (M : Mm) (r : Nat) : Option (Int32) :=
  ck (isO K r 5) <| nm (0 : Int32) fun i2 => lp (mX5_isRing_L2 K R M r) (i2)
noncomputable def mX7_isWithin (K : Kk) (R : Rr) (M : Mm) (a0 : Int32) (a1 : Int32) : Option (Int32) :=
  if a0 < (-a1) then some (0) else if a0 ≤ a1 then some (1) else some (0)
noncomputable def mX7_isPlace (K : Kk) (R : Rr) (M : Mm) (a0 : Int32) (a1 : Int32) : Option (Int32) :=
  bd (mX7_isWithin K R M a0 100000) fun i1 => if i1 = 0 then some (0) else bd (mX7_isWithin K R M a1 100000) fun i3 => if i3 = 0 then some (0) else some (1)
noncomputable def mX5_isInBounds_B2 (K : Kk) (R : Rr) (M : Mm) (r : Nat) (i3 : Int32) : Option ((Int32) ⊕ (Int32)) :=
  if i3 < (M.1 r 2) then bd (R r 0) fun q5 => ck (ixA K q5 0 i3) <| bd (R r 1) fun q7 => ck (ixA K q7 0 i3) <| bd (mX7_isPlace K R M (M.1 q5 i3.toNatClampNeg) (M.1 q7 i3.toNatClampNeg)) fun i9 => if i9 = 0 then ex (some (0)) else nm (i3 + 1 : Int32) fun i11 => some (.inl (i11)) else ex (some (1))
noncomputable def mX5_isInBounds_L2 (K : Kk) (R : Rr) (M : Mm) (r : Nat) (σ : (Int32)) : Option ((Int32) ⊕ (Int32)) :=
  mX5_isInBounds_B2 K R M r σ
noncomputable def mX5_isInBounds (K : Kk) (R : Rr) (M : Mm) (r : Nat) : Option (Int32) :=
  ck (isO K r 5) <| nm (0 : Int32) fun i2 => lp (mX5_isInBounds_L2 K R M r) (i2)
noncomputable def mX5_holdsAll_B2 (K : Kk) (R : Rr) (M : Mm) (r : Nat) (a0 : Nat) (i4 : Int32) : Option ((Int32) ⊕ (Int32)) :=
  if i4 < (M.1 a0 2) then bd (R a0 0) fun q6 => ck (ixA K q6 0 i4) <| bd (R a0 1) fun q8 => ck (ixA K q8 0 i4) <| bd (mX5_holds K R M r (M.1 q6 i4.toNatClampNeg) (M.1 q8 i4.toNatClampNeg)) fun i10 => if i10 = 0 then ex (some (0)) else nm (i4 + 1 : Int32) fun i12 => some (.inl (i12)) else ex (some (1))
noncomputable def mX5_holdsAll_L2 (K : Kk) (R : Rr) (M : Mm) (r : Nat) (a0 : Nat) (σ : (Int32)) : Option ((Int32) ⊕ (Int32)) :=
  mX5_holdsAll_B2 K R M r a0 σ
noncomputable def mX5_holdsAll (K : Kk) (R : Rr) (M : Mm) (r : Nat) (a0 : Nat) : Option (Int32) :=
  ck (isO K r 5) <| ck (isO K a0 5) <| nm (0 : Int32) fun i3 => lp (mX5_holdsAll_L2 K R M r a0) (i3)
noncomputable def mX5_isNoneLeftOfSide_B11 (K : Kk) (R : Rr) (M : Mm) (r : Nat) (a0 : Int32) (a1 : Nat) (i3 : Int32) (i5 : Int32) : Option ((Int32) ⊕ (Int32)) :=
  if i5 < (M.1 a1 2) then bd (R a1 0) fun q7 => ck (ixA K q7 0 i5) <| bd (R a1 1) fun q9 => ck (ixA K q9 0 i5) <| bd (mX5_sideAt K R M r a0 i3 (M.1 q7 i5.toNatClampNeg) (M.1 q9 i5.toNatClampNeg)) fun l11 => if l11 ≤ 0 then nm (i5 + 1 : Int32) fun i13 => some (.inl (i13)) else ex (some (0)) else ex (some (1))
noncomputable def mX5_isNoneLeftOfSide_L11 (K : Kk) (R : Rr) (M : Mm) (r : Nat) (a0 : Int32) (a1 : Nat) (i3 : Int32) (σ : (Int32)) : Option ((Int32) ⊕ (Int32)) :=
  mX5_isNoneLeftOfSide_B11 K R M r a0 a1 i3 σ
noncomputable def mX5_isNoneLeftOfSide (K : Kk) (R : Rr) (M : Mm) (r : Nat) (a0 : Int32) (a1 : Nat) : Option (Int32) :=
  ck (isO K r 5) <| ck (isO K a1 5) <| bd (mX5_wrap K R M r (a0 + 1)) fun i3 => nm (0 : Int32) fun i4 => lp (mX5_isNoneLeftOfSide_L11 K R M r a0 a1 i3) (i4)
noncomputable def mX5_hasSidePartingFrom_B2 (K : Kk) (R : Rr) (M : Mm) (r : Nat) (a0 : Nat) (i4 : Int32) : Option ((Int32) ⊕ (Int32)) :=
  if i4 < (M.1 r 2) then bd (mX5_isNoneLeftOfSide K R M r i4 a0) fun i6 => if i6 = 0 then nm (i4 + 1 : Int32) fun i8 => some (.inl (i8)) else ex (some (1)) else ex (some (0))
noncomputable def mX5_hasSidePartingFrom_L2 (K : Kk) (R : Rr) (M : Mm) (r : Nat) (a0 : Nat) (σ : (Int32)) : Option ((Int32) ⊕ (Int32)) :=
  mX5_hasSidePartingFrom_B2 K R M r a0 σ
noncomputable def mX5_hasSidePartingFrom (K : Kk) (R : Rr) (M : Mm) (r : Nat) (a0 : Nat) : Option (Int32) :=
  ck (isO K r 5) <| ck (isO K a0 5) <| nm (0 : Int32) fun i3 => lp (mX5_hasSidePartingFrom_L2 K R M r a0) (i3)
noncomputable def mX5_liesOver (K : Kk) (R : Rr) (M : Mm) (r : Nat) (a0 : Nat) : Option (Int32) :=
  ck (isO K r 5) <| ck (isO K a0 5) <| bd (mX5_hasSidePartingFrom K R M r a0) fun i3 => if i3 = 0 then bd (mX5_hasSidePartingFrom K R M a0 r) fun i5 => if i5 = 0 then some (1) else some (0) else some (0)
noncomputable def mX6_greatestDivisor_B7 (K : Kk) (R : Rr) (M : Mm) (i2 : Int32) (i3 : Int32) (i4 : Int32) : Option ((Int32 × Int32 × Int32) ⊕ (Int32)) :=
  if i4 < 64 then if i3 = 0 then ex (some (i2)) else ck (¬ i3 = 0) <| nm (i2 - i2 / i3 * i3 : Int32) fun i8 => nm (i4 + 1 : Int32) fun i9 => some (.inl (i3, i8, i9)) else ex (some (i2))
noncomputable def mX6_greatestDivisor_L7 (K : Kk) (R : Rr) (M : Mm) (σ : (Int32 × Int32 × Int32)) : Option ((Int32 × Int32 × Int32) ⊕ (Int32)) :=
  mX6_greatestDivisor_B7 K R M σ.1 σ.2.1 σ.2.2
noncomputable def mX6_greatestDivisor (K : Kk) (R : Rr) (M : Mm) (a0 : Int32) (a1 : Int32) : Option (Int32) :=
  nm (0 : Int32) fun i1 => lp (mX6_greatestDivisor_L7 K R M) (a0, a1, i1)
noncomputable def mX6_firstNotBelow_J77 (K : Kk) (R : Rr) (M : Mm) (r : Nat) (a0 : Int32) (a1 : Int32) (i8 : Int32) (i9 : Int32) (i10 : Int32) : Option ((Int32 × Int32 × Int32) ⊕ (Int32)) :=
  nm (i10 + 1 : Int32) fun i11 => some (.inl (i8, i9, i11))
noncomputable def mX6_firstNotBelow_J73 (K : Kk) (R : Rr) (M : Mm) (r : Nat) (a0 : Int32) (a1 : Int32) (i12 : Int32) (i13 : Int32) (i14 : Int32) : Option ((Int32 × Int32 × Int32) ⊕ (Int32)) :=
  mX6_firstNotBelow_J77 K R M r a0 a1 i12 i14 i13
noncomputable def mX6_firstNotBelow_J65 (K : Kk) (R : Rr) (M : Mm) (r : Nat) (a0 : Int32) (a1 : Int32) (i15 : Int32) (i16 : Int32) (i17 : Int32) : Option ((Int32 × Int32 × Int32) ⊕ (Int32)) :=
  nm (i17 + 1 : Int32) fun i18 => mX6_firstNotBelow_J77 K R M r a0 a1 i18 i15 i16
noncomputable def mX6_firstNotBelow_B11 (K : Kk) (R : Rr) (M : Mm) (r : Nat) (a0 : Int32) (a1 : Int32) (i5 : Int32) (i6 : Int32) (i7 : Int32) : Option ((Int32 × Int32 × Int32) ⊕ (Int32)) :=
  if i7 < 32 then if i5 < i6 then nm ((i5 + i6) / 2 : Int32) fun i21 => bd (R r 0) fun q22 => ck (ixA K q22 0 i21) <| if (M.1 q22 i21.toNatClampNeg) < a0 then mX6_firstNotBelow_J65 K R M r a0 a1 i6 i7 i21 else if (M.1 q22 i21.toNatClampNeg) = a0 then bd (R r 1) fun q26 => ck (ixA K q26 0 i21) <| if (M.1 q26 i21.toNatClampNeg) < a1 then mX6_firstNotBelow_J65 K R M r a0 a1 i6 i7 i21 else mX6_firstNotBelow_J73 K R M r a0 a1 i5 i7 i21 else mX6_firstNotBelow_J73 K R M r a0 a1 i5 i7 i21 else ex (some (i5)) else ex (some (i5))
noncomputable def mX6_firstNotBelow_L11 (K : Kk) (R : Rr) (M : Mm) (r : Nat) (a0 : Int32) (a1 : Int32) (σ : (Int32 × Int32 × Int32)) : Option ((Int32 × Int32 × Int32) ⊕ (Int32)) :=
  mX6_firstNotBelow_B11 K R M r a0 a1 σ.1 σ.2.1 σ.2.2
noncomputable def mX6_firstNotBelow (K : Kk) (R : Rr) (M : Mm) (r : Nat) (a0 : Int32) (a1 : Int32) : Option (Int32) :=
  ck (isO K r 6) <| nm (0 : Int32) fun i2 => nm (M.1 r 3 : Int32) fun i3 => nm (0 : Int32) fun i4 => lp (mX6_firstNotBelow_L11 K R M r a0 a1) (i2, i3, i4)
noncomputable def mX6_addSteps_J54 (K : Kk) (R : Rr) (M3 : Mm) (r : Nat) (a0 : Int32) (a1 : Int32) (a2 : Int32) (i2 : Int32) : Option (Mm) :=
  bd (R r 0) fun q4 => ck (isAr K q4) <| if (M3.1 r 3) < (alen K q4) then ck (okC K 0 q4 q4 i2 (i2 + 1) ((M3.1 r 3) - i2)) <| nm (cpI M3 q4 q4 i2 (i2 + 1) ((M3.1 r 3) - i2)) fun M8 => bd (R r 1) fun q9 => ck (okC K 0 q9 q9 i2 (i2 + 1) ((M8.1 r 3) - i2)) <| nm (cpI M8 q9 q9 i2 (i2 + 1) ((M8.1 r 3) - i2)) fun M11 => bd (R r 2) fun q12 => ck (okC K 1 q12 q12 i2 (i2 + 1) ((M11.1 r 3) - i2)) <| nm (cpL M11 q12 q12 i2 (i2 + 1) ((M11.1 r 3) - i2)) fun M14 => ck (ixA K q4 0 i2) <| nm (pI M14 q4 i2.toNatClampNeg a0) fun M16 => ck (ixA K q9 0 i2) <| nm (pI M16 q9 i2.toNatClampNeg a1) fun M18 => ck (ixA K q12 1 i2) <| nm (pL M18 q12 i2.toNatClampNeg (a2.toInt64)) fun M20 => nm (pI M20 r 3 ((M20.1 r 3) + 1)) fun M21 => some (M21) else some (M3)
noncomputable def mX6_addSteps (K : Kk) (R : Rr) (M : Mm) (r : Nat) (a0 : Int32) (a1 : Int32) (a2 : Int32) : Option (Mm) :=
  ck (isO K r 6) <| bd (mX6_firstNotBelow K R M r a0 a1) fun i22 => if i22 < (M.1 r 3) then bd (R r 0) fun q24 => ck (ixA K q24 0 i22) <| if (M.1 q24 i22.toNatClampNeg) = a0 then bd (R r 1) fun q27 => ck (ixA K q27 0 i22) <| if (M.1 q27 i22.toNatClampNeg) = a1 then bd (R r 2) fun q30 => ck (ixA K q30 1 i22) <| nm (pL M q30 i22.toNatClampNeg ((M.2 q30 i22.toNatClampNeg) + (a2.toInt64))) fun M32 => some (M32) else mX6_addSteps_J54 K R M r a0 a1 a2 i22 else mX6_addSteps_J54 K R M r a0 a1 a2 i22 else mX6_addSteps_J54 K R M r a0 a1 a2 i22
noncomputable def mX6_addSide_J43 (K : Kk) (R : Rr) (M3 : Mm) (r : Nat) (a0 : Int32) (a1 : Int32) (i2 : Int32) : Option (Mm) :=
  ck (¬ i2 = 0) <| bd (mX6_addSteps K R M3 r ((-a0) / i2) ((-a1) / i2) (-i2)) fun M5 => some (M5)
noncomputable def mX6_addSide_J29 (K : Kk) (R : Rr) (M7 : Mm) (r : Nat) (a0 : Int32) (a1 : Int32) (i6 : Int32) : Option (Mm) :=
  ck (¬ i6 = 0) <| bd (mX6_addSteps K R M7 r (a0 / i6) (a1 / i6) i6) fun M9 => some (M9)
noncomputable def mX6_addSide (K : Kk) (R : Rr) (M : Mm) (r : Nat) (a0 : Int32) (a1 : Int32) : Option (Mm) :=
  ck (isO K r 6) <| bd (mX6_greatestDivisor K R M (if 0 ≤ a0 then a0 else 0 - a0) (if 0 ≤ a1 then a1 else 0 - a1)) fun i10 => if i10 = 0 then some (M) else if a0 ≤ 0 then if a0 = 0 then if a1 ≤ 0 then mX6_addSide_J43 K R M r a0 a1 i10 else mX6_addSide_J29 K R M r a0 a1 i10 else mX6_addSide_J43 K R M r a0 a1 i10 else mX6_addSide_J29 K R M r a0 a1 i10
noncomputable def mX6_addSides_B2 (K : Kk) (R : Rr) (r : Nat) (a0 : Nat) (i4 : Int32) (M5 : Mm) : Option ((Int32 × Mm) ⊕ (Mm)) :=
  if i4 < (M5.1 a0 2) then bd (mX5_wrap K R M5 a0 (i4 + 1)) fun i7 => bd (R a0 0) fun q8 => ck (ixA K q8 0 i7) <| ck (ixA K q8 0 i4) <| bd (R a0 1) fun q11 => ck (ixA K q11 0 i7) <| ck (ixA K q11 0 i4) <| bd (mX6_addSide K R M5 r ((M5.1 q8 i7.toNatClampNeg) - (M5.1 q8 i4.toNatClampNeg)) ((M5.1 q11 i7.toNatClampNeg) - (M5.1 q11 i4.toNatClampNeg))) fun M14 => nm (i4 + 1 : Int32) fun i15 => some (.inl (i15, M14)) else ex (some (M5))
noncomputable def mX6_addSides_L2 (K : Kk) (R : Rr) (r : Nat) (a0 : Nat) (σ : (Int32 × Mm)) : Option ((Int32 × Mm) ⊕ (Mm)) :=
  mX6_addSides_B2 K R r a0 σ.1 σ.2
noncomputable def mX6_addSides (K : Kk) (R : Rr) (M : Mm) (r : Nat) (a0 : Nat) : Option (Mm) :=
  ck (isO K r 6) <| ck (isO K a0 5) <| nm (0 : Int32) fun i3 => lp (mX6_addSides_L2 K R r a0) (i3, M)
noncomputable def mX6_leaveOutZeros_J62 (K : Kk) (R : Rr) (M9 : Mm) (r : Nat) (i7 : Int32) (i8 : Int32) : Option ((Int32 × Int32 × Mm) ⊕ (Mm)) :=
  nm (i8 + 1 : Int32) fun i10 => some (.inl (i7, i10, M9))
noncomputable def mX6_leaveOutZeros_B4 (K : Kk) (R : Rr) (r : Nat) (i4 : Int32) (i5 : Int32) (M6 : Mm) : Option ((Int32 × Int32 × Mm) ⊕ (Mm)) :=
  if i5 < (M6.1 r 3) then bd (R r 2) fun q13 => ck (ixA K q13 1 i5) <| if (M6.2 q13 i5.toNatClampNeg) = 0 then mX6_leaveOutZeros_J62 K R M6 r i4 i5 else bd (R r 0) fun q16 => ck (ixA K q16 0 i5) <| ck (ixA K q16 0 i4) <| nm (pI M6 q16 i4.toNatClampNeg (M6.1 q16 i5.toNatClampNeg)) fun M19 => bd (R r 1) fun q20 => ck (ixA K q20 0 i5) <| ck (ixA K q20 0 i4) <| nm (pI M19 q20 i4.toNatClampNeg (M19.1 q20 i5.toNatClampNeg)) fun M23 => ck (ixA K q13 1 i4) <| nm (pL M23 q13 i4.toNatClampNeg (M23.2 q13 i5.toNatClampNeg)) fun M25 => nm (i4 + 1 : Int32) fun i26 => mX6_leaveOutZeros_J62 K R M25 r i26 i5 else ex (nm (pI M6 r 3 i4) fun M12 => some (M12))
noncomputable def mX6_leaveOutZeros_L4 (K : Kk) (R : Rr) (r : Nat) (σ : (Int32 × Int32 × Mm)) : Option ((Int32 × Int32 × Mm) ⊕ (Mm)) :=
  mX6_leaveOutZeros_B4 K R r σ.1 σ.2.1 σ.2.2
noncomputable def mX6_leaveOutZeros (K : Kk) (R : Rr) (M : Mm) (r : Nat) : Option (Mm) :=
  ck (isO K r 6) <| nm (0 : Int32) fun i2 => nm (0 : Int32) fun i3 => lp (mX6_leaveOutZeros_L4 K R r) (i2, i3, M)
noncomputable def mX7_corner (K : Kk) (R : Rr) (M : Mm) (r : Nat) (a0 : Int32) (a1 : Int32) : Option (Int64 × Mm) :=
  ck (isO K r 7) <| bd (mX7_isPlace K R M a0 a1) fun i2 => if i2 = 0 then some ((-9000000000000000001), M) else bd (R r 0) fun q4 => ck (isO K q4 5) <| if (M.1 q4 2) < 16 then bd (mX5_add K R M q4 a0 a1) fun M7 => some ((M7.1 q4 2).toInt64, M7) else some ((-9000000000000000003), M)
noncomputable def mX7_isFigure (K : Kk) (R : Rr) (M : Mm) (a0 : Int32) : Option (Int32) :=
  if a0 < 0 then some (0) else if a0 < 5 then some (1) else some (0)
noncomputable def mX7_figure_J48 (K : Kk) (R : Rr) (M2 : Mm) (r : Nat) (a0 : Int32) : Option (Int64 × Mm) :=
  bd (R r 0) fun q3 => ck (isO K q3 5) <| nm (pI M2 q3 2 0) fun M5 => bd (R r 9) fun q6 => ck (isO K q6 5) <| bd (mX5_isRing K R M5 q6) fun i7 => if i7 = 0 then some ((-9000000000000000002), M5) else bd (R r 1) fun q10 => ck (ixA K q10 3 a0) <| bd (R q10 a0.toNatClampNeg) fun q12 => ck (isO K q12 5) <| bd (mX5_takeMoved K R M5 q12 q6 1 0 0) fun M13 => some ((M13.1 q12 2).toInt64, M13)
noncomputable def mX7_figure (K : Kk) (R : Rr) (M : Mm) (r : Nat) (a0 : Int32) : Option (Int64 × Mm) :=
  ck (isO K r 7) <| bd (mX7_isFigure K R M a0) fun i15 => if i15 = 0 then some ((-9000000000000000001), M) else bd (R r 0) fun q17 => ck (isO K q17 5) <| bd (mX5_twiceArea K R M q17) fun l18 => if l18 < 0 then bd (R r 9) fun q24 => ck (isO K q24 5) <| bd (mX5_takeBackwards K R M q24 q17) fun M25 => mX7_figure_J48 K R M25 r a0 else bd (R r 9) fun q21 => ck (isO K q21 5) <| bd (mX5_take K R M q21 q17) fun M22 => mX7_figure_J48 K R M22 r a0
noncomputable def mX7_area (K : Kk) (R : Rr) (M : Mm) (r : Nat) (a0 : Int32) : Option (Int64) :=
  ck (isO K r 7) <| bd (mX7_isFigure K R M a0) fun i2 => if i2 = 0 then some ((-9000000000000000001)) else bd (R r 1) fun q4 => ck (ixA K q4 3 a0) <| bd (R q4 a0.toNatClampNeg) fun q6 => ck (isO K q6 5) <| if (M.1 q6 2) = 0 then some ((-9000000000000000002)) else bd (mX5_twiceArea K R M q6) fun l9 => some (l9)
noncomputable def mX7_begin (K : Kk) (R : Rr) (M : Mm) (r : Nat) (a0 : Int32) : Option (Int64 × Rr × Mm) :=
  ck (isO K r 7) <| bd (mX7_isFigure K R M a0) fun i2 => if i2 = 0 then some ((-9000000000000000001), R, M) else bd (R r 1) fun q4 => ck (ixA K q4 3 a0) <| bd (R q4 a0.toNatClampNeg) fun q6 => ck (isO K q6 5) <| if (M.1 q6 2) = 0 then some ((-9000000000000000002), R, M) else bd (R r 8) fun q9 => ck (isO K q9 3) <| bd (mX3_setMove K R M q9 1 0 0) fun M10 => bd (mX3_setOrigin K R M10 q9 q6) fun M12 => bd (R r 2) fun q13 => ck (isO K q13 1) <| bd2 (mX1_emptyDraft K R M12 q13) fun q14 M15 => ck (isO K q14 4) <| bd (mX4_add K R M15 q14 q9) fun M17 => bd2 (mX1_keepDraft K R M17 q13) fun R19 M20 => some (0, R19, M20)
noncomputable def mX7_cutOne (K : Kk) (R : Rr) (M : Mm) (r : Nat) (a0 : Nat) (a1 : Int32) : Option (Int32 × Mm) :=
  ck (isO K r 7) <| ck (isO K a0 4) <| bd (R a0 0) fun q3 => ck (ixA K q3 5 a1) <| bd (R q3 a1.toNatClampNeg) fun q5 => bd (R r 9) fun q6 => ck (isO K q5 3) <| bd (mX3_placeInto K R M q5 q6) fun M7 => bd (R r 6) fun q9 => bd (R r 11) fun q10 => bd (R r 12) fun q11 => ck (isO K q9 2) <| bd2 (mX2_divide K R M7 q9 q6 q10 q11) fun i12 M13 => if i12 = 0 then some (0, M13) else bd (R r 8) fun q16 => ck (isO K q16 3) <| bd (mX3_take K R M13 q16 q5) fun M17 => bd (mX3_setPlace K R M17 q16 q11) fun M19 => bd (mX3_setPlace K R M19 q5 q10) fun M20 => bd (mX4_add K R M20 a0 q16) fun M21 => some (1, M21)
noncomputable def mX7_cutThose_J60 (K : Kk) (R : Rr) (M10 : Mm) (r : Nat) (a0 : Int32) (q3 : Nat) (i9 : Int32) : Option ((Int32 × Mm) ⊕ (Int32 × Rr × Mm)) :=
  nm (i9 + 1 : Int32) fun i11 => some (.inl (i11, M10))
noncomputable def mX7_cutThose_B10 (K : Kk) (R : Rr) (r : Nat) (a0 : Int32) (q3 : Nat) (i7 : Int32) (M8 : Mm) : Option ((Int32 × Mm) ⊕ (Int32 × Rr × Mm)) :=
  if i7 < a0 then ck (isO K q3 4) <| bd (R q3 0) fun q18 => ck (ixA K q18 5 i7) <| bd (R q18 i7.toNatClampNeg) fun q20 => bd (R r 9) fun q21 => ck (isO K q20 3) <| bd (mX3_placeInto K R M8 q20 q21) fun M22 => bd (R r 6) fun q24 => ck (isO K q24 2) <| bd (mX2_weigh K R M22 q24 q21) fun M25 => bd (mX2_crosses K R M25 q24) fun i27 => if i27 = 0 then mX7_cutThose_J60 K R M25 r a0 q3 i7 else bd2 (mX7_cutOne K R M25 r q3 i7) fun i29 M30 => if i29 = 0 then ex (some (0, R, M30)) else mX7_cutThose_J60 K R M30 r a0 q3 i7 else ex (bd (R r 2) fun q13 => ck (isO K q13 1) <| bd2 (mX1_keepDraft K R M8 q13) fun R14 M15 => some (1, R14, M15))
noncomputable def mX7_cutThose_L10 (K : Kk) (R : Rr) (r : Nat) (a0 : Int32) (q3 : Nat) (σ : (Int32 × Mm)) : Option ((Int32 × Mm) ⊕ (Int32 × Rr × Mm)) :=
  mX7_cutThose_B10 K R r a0 q3 σ.1 σ.2
noncomputable def mX7_cutThose (K : Kk) (R : Rr) (M : Mm) (r : Nat) (a0 : Int32) : Option (Int32 × Rr × Mm) :=
  ck (isO K r 7) <| bd (R r 2) fun q2 => ck (isO K q2 1) <| bd2 (mX1_draft K R M q2) fun q3 M4 => nm (0 : Int32) fun i6 => lp (mX7_cutThose_L10 K R r a0 q3) (i6, M4)
noncomputable def mX7_cut_J137 (K : Kk) (R2 : Rr) (M20 : Mm) (r : Nat) (q8 : Nat) (i17 : Int32) (i18 : Int32) (i19 : Int32) : Option ((Int32 × Int32 × Int32 × Mm) ⊕ (Int64 × Rr × Mm)) :=
  nm (i19 + 1 : Int32) fun i21 => some (.inl (i17, i18, i21, M20))
noncomputable def mX7_cut_J135 (K : Kk) (R2 : Rr) (M25 : Mm) (r : Nat) (q8 : Nat) (i22 : Int32) (i23 : Int32) (s24 : Int32) : Option ((Int32 × Int32 × Int32 × Mm) ⊕ (Int64 × Rr × Mm)) :=
  mX7_cut_J137 K R2 M25 r q8 i22 s24 i23
noncomputable def mX7_cut_J130 (K : Kk) (R2 : Rr) (M28 : Mm) (r : Nat) (q8 : Nat) (i26 : Int32) (i27 : Int32) : Option ((Int32 × Int32 × Int32 × Mm) ⊕ (Int64 × Rr × Mm)) :=
  mX7_cut_J135 K R2 M28 r q8 i26 i27 (1)
noncomputable def mX7_cut_B66 (K : Kk) (R2 : Rr) (r : Nat) (q8 : Nat) (i13 : Int32) (i14 : Int32) (i15 : Int32) (M16 : Mm) : Option ((Int32 × Int32 × Int32 × Mm) ⊕ (Int64 × Rr × Mm)) :=
  ck (isO K q8 4) <| if i15 < (M16.1 q8 1) then bd (R2 q8 0) fun q37 => ck (ixA K q37 5 i15) <| bd (R2 q37 i15.toNatClampNeg) fun q39 => bd (R2 r 9) fun q40 => ck (isO K q39 3) <| bd (mX3_placeInto K R2 M16 q39 q40) fun M41 => bd (R2 r 6) fun q43 => ck (isO K q43 2) <| bd (mX2_weigh K R2 M41 q43 q40) fun M44 => bd (mX2_crosses K R2 M44 q43) fun i46 => if i46 = 0 then mX7_cut_J137 K R2 M44 r q8 i13 i14 i15 else nm (i13 + 1 : Int32) fun i48 => if i14 = 0 then bd (mX2_overfills K R2 M44 q43) fun i50 => if i50 = 0 then mX7_cut_J135 K R2 M44 r q8 i48 i15 (0) else mX7_cut_J130 K R2 M44 r q8 i48 i15 else mX7_cut_J130 K R2 M44 r q8 i48 i15 else ex (if i14 = 0 then if ((M16.1 q8 1) + i13) ≤ 40 then bd3 (mX7_cutThose K R2 M16 r (M16.1 q8 1)) fun i33 R34 M35 => if i33 = 0 then some ((-9000000000000000004), R34, M35) else some (i13.toInt64, R34, M35) else some ((-9000000000000000003), R2, M16) else some ((-9000000000000000003), R2, M16))
noncomputable def mX7_cut_L66 (K : Kk) (R2 : Rr) (r : Nat) (q8 : Nat) (σ : (Int32 × Int32 × Int32 × Mm)) : Option ((Int32 × Int32 × Int32 × Mm) ⊕ (Int64 × Rr × Mm)) :=
  mX7_cut_B66 K R2 r q8 σ.1 σ.2.1 σ.2.2.1 σ.2.2.2
noncomputable def mX7_cut_J32 (K : Kk) (R2 : Rr) (M3 : Mm) (r : Nat) (a0 : Int32) (a1 : Int32) (a2 : Int32) (a3 : Int32) : Option (Int64 × Rr × Mm) :=
  bd (R2 r 6) fun q4 => ck (isO K q4 2) <| bd (mX2_set K R2 M3 q4 a0 a1 (a2 - a0) (a3 - a1)) fun M5 => bd (R2 r 2) fun q7 => ck (isO K q7 1) <| bd (mX1_now K R2 M5 q7) fun q8 => nm (0 : Int32) fun i10 => nm (0 : Int32) fun i11 => nm (0 : Int32) fun i12 => lp (mX7_cut_L66 K R2 r q8) (i10, i11, i12, M5)
noncomputable def mX7_cut (K : Kk) (R : Rr) (M : Mm) (r : Nat) (a0 : Int32) (a1 : Int32) (a2 : Int32) (a3 : Int32) : Option (Int64 × Rr × Mm) :=
  ck (isO K r 7) <| bd (mX7_isPlace K R M a0 a1) fun i52 => if i52 = 0 then some ((-9000000000000000001), R, M) else bd (mX7_isPlace K R M a2 a3) fun i54 => if i54 = 0 then some ((-9000000000000000001), R, M) else if a0 = a2 then if a1 = a3 then some ((-9000000000000000001), R, M) else mX7_cut_J32 K R M r a0 a1 a2 a3 else mX7_cut_J32 K R M r a0 a1 a2 a3
noncomputable def mX7_isPiece (K : Kk) (R : Rr) (M : Mm) (r : Nat) (a0 : Int32) : Option (Int32) :=
  ck (isO K r 7) <| if a0 < 0 then some (0) else bd (R r 2) fun q3 => ck (isO K q3 1) <| bd (mX1_now K R M q3) fun q4 => ck (isO K q4 4) <| if a0 < (M.1 q4 1) then some (1) else some (0)
noncomputable def mX7_part_J26 (K : Kk) (R2 : Rr) (M3 : Mm) (r : Nat) (a0 : Int32) (a1 : Int32) (a2 : Int32) (a3 : Int32) (a4 : Int32) : Option (Int64 × Rr × Mm) :=
  bd (mX7_isWithin K R2 M3 a3 1000) fun i4 => if i4 = 0 then some ((-9000000000000000001), R2, M3) else bd (mX7_isWithin K R2 M3 a4 1000) fun i6 => if i6 = 0 then some ((-9000000000000000001), R2, M3) else bd (R2 r 6) fun q8 => ck (isO K q8 2) <| bd (mX2_set K R2 M3 q8 a1 a2 a3 a4) fun M9 => bd (R2 r 2) fun q11 => ck (isO K q11 1) <| bd (mX1_now K R2 M9 q11) fun q12 => ck (isO K q12 4) <| bd (R2 q12 0) fun q15 => ck (ixA K q15 5 a0) <| bd (R2 q15 a0.toNatClampNeg) fun q17 => bd (R2 r 9) fun q18 => ck (isO K q17 3) <| bd (mX3_placeInto K R2 M9 q17 q18) fun M19 => bd (mX2_weigh K R2 M19 q8 q18) fun M21 => bd (mX2_crosses K R2 M21 q8) fun i22 => if i22 = 0 then some ((-9000000000000000002), R2, M21) else if (M21.1 q12 1) < 40 then bd (mX2_overfills K R2 M21 q8) fun i25 => if i25 = 0 then nm (M21.1 q12 1 : Int32) fun i27 => bd2 (mX1_draft K R2 M21 q11) fun q28 M29 => bd2 (mX7_cutOne K R2 M29 r q28 a0) fun i30 M31 => if i30 = 0 then some ((-9000000000000000004), R2, M31) else bd2 (mX1_keepDraft K R2 M31 q11) fun R33 M34 => some (i27.toInt64, R33, M34) else some ((-9000000000000000003), R2, M21) else some ((-9000000000000000003), R2, M21)
noncomputable def mX7_part (K : Kk) (R : Rr) (M : Mm) (r : Nat) (a0 : Int32) (a1 : Int32) (a2 : Int32) (a3 : Int32) (a4 : Int32) : Option (Int64 × Rr × Mm) :=
  ck (isO K r 7) <| bd (mX7_isPiece K R M r a0) fun i35 => if i35 = 0 then some ((-9000000000000000001), R, M) else bd (mX7_isPlace K R M a1 a2) fun i37 => if i37 = 0 then some ((-9000000000000000001), R, M) else if a3 = 0 then if a4 = 0 then some ((-9000000000000000001), R, M) else mX7_part_J26 K R M r a0 a1 a2 a3 a4 else mX7_part_J26 K R M r a0 a1 a2 a3 a4
noncomputable def mX7_moveTo (K : Kk) (R : Rr) (M : Mm) (r : Nat) (a0 : Int32) (a1 : Int32) (a2 : Int32) (a3 : Int32) : Option (Int64 × Rr × Mm) :=
  ck (isO K r 7) <| bd (R r 9) fun q2 => bd (R r 2) fun q3 => ck (isO K q3 1) <| bd (mX1_now K R M q3) fun q4 => ck (isO K q4 4) <| bd (R q4 0) fun q7 => ck (ixA K q7 5 a0) <| bd (R q7 a0.toNatClampNeg) fun q9 => ck (isO K q9 3) <| bd (R q9 0) fun q11 => ck (isO K q2 5) <| bd (mX5_takeMoved K R M q2 q11 a1 a2 a3) fun M12 => bd (mX5_isInBounds K R M12 q2) fun i14 => if i14 = 0 then some ((-9000000000000000001), R, M12) else bd2 (mX1_draft K R M12 q3) fun q16 M17 => ck (isO K q16 4) <| bd (R q16 0) fun q19 => ck (ixA K q19 5 a0) <| bd (R q19 a0.toNatClampNeg) fun q21 => ck (isO K q21 3) <| bd (mX3_setMove K R M17 q21 a1 a2 a3) fun M22 => bd2 (mX1_keepDraft K R M22 q3) fun R24 M25 => some (0, R24, M25)
noncomputable def mX7_slide (K : Kk) (R : Rr) (M : Mm) (r : Nat) (a0 : Int32) (a1 : Int32) (a2 : Int32) : Option (Int64 × Rr × Mm) :=
  ck (isO K r 7) <| bd (mX7_isPiece K R M r a0) fun i2 => if i2 = 0 then some ((-9000000000000000001), R, M) else bd (mX7_isWithin K R M a1 200000) fun i4 => if i4 = 0 then some ((-9000000000000000001), R, M) else bd (mX7_isWithin K R M a2 200000) fun i6 => if i6 = 0 then some ((-9000000000000000001), R, M) else bd (R r 2) fun q8 => ck (isO K q8 1) <| bd (mX1_now K R M q8) fun q9 => ck (isO K q9 4) <| bd (R q9 0) fun q12 => ck (ixA K q12 5 a0) <| bd (R q12 a0.toNatClampNeg) fun q14 => ck (isO K q14 3) <| bd3 (mX7_moveTo K R M r a0 (M.1 q14 1) ((M.1 q14 2) + a1) ((M.1 q14 3) + a2)) fun l16 R17 M18 => some (l16, R17, M18)
noncomputable def mX7_half (K : Kk) (R : Rr) (M : Mm) (r : Nat) (a0 : Int32) (a1 : Int32) (a2 : Int32) : Option (Int64 × Rr × Mm) :=
  ck (isO K r 7) <| bd (mX7_isPiece K R M r a0) fun i2 => if i2 = 0 then some ((-9000000000000000001), R, M) else bd (mX7_isWithin K R M a1 200000) fun i4 => if i4 = 0 then some ((-9000000000000000001), R, M) else bd (mX7_isWithin K R M a2 200000) fun i6 => if i6 = 0 then some ((-9000000000000000001), R, M) else bd (R r 2) fun q8 => ck (isO K q8 1) <| bd (mX1_now K R M q8) fun q9 => ck (isO K q9 4) <| bd (R q9 0) fun q12 => ck (ixA K q12 5 a0) <| bd (R q12 a0.toNatClampNeg) fun q14 => ck (isO K q14 3) <| bd3 (mX7_moveTo K R M r a0 (-(M.1 q14 1)) (a1 - (M.1 q14 2)) (a2 - (M.1 q14 3))) fun l16 R17 M18 => some (l16, R17, M18)
noncomputable def mX7_join (K : Kk) (R : Rr) (M : Mm) (r : Nat) (a0 : Int32) (a1 : Int32) : Option (Int64 × Rr × Mm) :=
  ck (isO K r 7) <| bd (mX7_isPiece K R M r a0) fun i2 => if i2 = 0 then some ((-9000000000000000001), R, M) else bd (mX7_isPiece K R M r a1) fun i4 => if i4 = 0 then some ((-9000000000000000001), R, M) else if a0 = a1 then some ((-9000000000000000001), R, M) else bd (R r 2) fun q7 => ck (isO K q7 1) <| bd (mX1_now K R M q7) fun q8 => ck (isO K q8 4) <| bd (R q8 0) fun q11 => ck (ixA K q11 5 a0) <| bd (R q11 a0.toNatClampNeg) fun q13 => bd (mX1_now K R M q7) fun q14 => ck (isO K q14 4) <| bd (R q14 0) fun q16 => ck (ixA K q16 5 a1) <| bd (R q16 a1.toNatClampNeg) fun q18 => ck (isO K q18 3) <| ck (isO K q13 3) <| bd (mX3_hasMove K R M q13 (M.1 q18 1) (M.1 q18 2) (M.1 q18 3)) fun i20 => if i20 = 0 then some ((-9000000000000000002), R, M) else bd (R r 9) fun q23 => bd (R q13 0) fun q24 => bd (R q18 0) fun q25 => ck (isO K q23 5) <| bd2 (mX5_takeJoined K R M q23 q24 q25) fun i26 M27 => if i26 = 0 then some ((-9000000000000000002), R, M27) else bd (R r 10) fun q30 => ck (isO K q30 5) <| bd2 (mX5_takeUnbent K R M27 q30 q23) fun i31 M32 => if i31 = 0 then some ((-9000000000000000002), R, M32) else if (M32.1 q30 2) ≤ 16 then bd2 (mX1_draft K R M32 q7) fun q36 M37 => ck (isO K q36 4) <| bd (R q36 0) fun q39 => ck (ixA K q39 5 a0) <| bd (R q39 a0.toNatClampNeg) fun q41 => ck (isO K q41 3) <| bd (mX3_setOrigin K R M37 q41 q30) fun M42 => bd (mX4_remove K R M42 q36 a1) fun M44 => bd2 (mX1_keepDraft K R M44 q7) fun R45 M46 => bd (R45 r 10) fun q47 => ck (isO K q47 5) <| some ((M46.1 q47 2).toInt64, R45, M46) else some ((-9000000000000000003), R, M32)
noncomputable def mX7_aside_J86 (K : Kk) (R5 : Rr) (M6 : Mm) (r : Nat) (l2 : Int64) (s3 : Nat) (s4 : Int32) : Option (Int64 × Rr × Mm) :=
  ck (isO K s3 3) <| ck (isB s4) <| nm (pI M6 s3 4 s4) fun M9 => bd (R5 r 2) fun q10 => ck (isO K q10 1) <| bd2 (mX1_keepDraft K R5 M9 q10) fun R11 M12 => some (l2, R11, M12)
noncomputable def mX7_aside_J62 (K : Kk) (R15 : Rr) (M16 : Mm) (r : Nat) (a0 : Int32) (a1 : Int32) (s14 : Int64) : Option (Int64 × Rr × Mm) :=
  bd (R15 r 2) fun q17 => ck (isO K q17 1) <| bd2 (mX1_draft K R15 M16 q17) fun q18 M19 => ck (isO K q18 4) <| bd (R15 q18 0) fun q22 => ck (ixA K q22 5 a0) <| bd (R15 q22 a0.toNatClampNeg) fun q24 => if a1 = 1 then mX7_aside_J86 K R15 M19 r s14 (q24) (1) else mX7_aside_J86 K R15 M19 r s14 (q24) (0)
noncomputable def mX7_aside_J50 (K : Kk) (R27 : Rr) (M28 : Mm) (r : Nat) (a0 : Int32) (a1 : Int32) (q26 : Nat) : Option (Int64 × Rr × Mm) :=
  ck (isO K q26 3) <| if (M28.1 q26 4) = 0 then mX7_aside_J62 K R27 M28 r a0 a1 (0) else mX7_aside_J62 K R27 M28 r a0 a1 (1)
noncomputable def mX7_aside (K : Kk) (R : Rr) (M : Mm) (r : Nat) (a0 : Int32) (a1 : Int32) : Option (Int64 × Rr × Mm) :=
  ck (isO K r 7) <| bd (mX7_isPiece K R M r a0) fun i31 => if i31 = 0 then some ((-9000000000000000001), R, M) else if a1 < 0 then some ((-9000000000000000001), R, M) else if a1 ≤ 1 then bd (R r 2) fun q35 => ck (isO K q35 1) <| bd (mX1_now K R M q35) fun q36 => ck (isO K q36 4) <| bd (R q36 0) fun q39 => ck (ixA K q39 5 a0) <| bd (R q39 a0.toNatClampNeg) fun q41 => if a1 = 1 then ck (isO K q41 3) <| bd (mX3_isTriangle K R M q41) fun i43 => if i43 = 0 then some ((-9000000000000000002), R, M) else mX7_aside_J50 K R M r a0 a1 q41 else mX7_aside_J50 K R M r a0 a1 q41 else some ((-9000000000000000001), R, M)
noncomputable def mX7_back_J42 (K : Kk) (R : Rr) (M13 : Mm) (r : Nat) (q3 : Nat) (l11 : Int64) (i12 : Int32) : Option ((Int64 × Int32 × Mm) ⊕ (Int64 × Rr × Mm)) :=
  ck (isO K q3 4) <| bd (R q3 0) fun q15 => ck (ixA K q15 5 i12) <| bd (R q15 i12.toNatClampNeg) fun q17 => ck (isO K q17 3) <| bd (mX3_setMove K R M13 q17 1 0 0) fun M18 => nm (i12 + 1 : Int32) fun i20 => some (.inl (l11, i20, M18))
noncomputable def mX7_back_B13 (K : Kk) (R : Rr) (r : Nat) (q3 : Nat) (l8 : Int64) (i9 : Int32) (M10 : Mm) : Option ((Int64 × Int32 × Mm) ⊕ (Int64 × Rr × Mm)) :=
  ck (isO K q3 4) <| if i9 < (M10.1 q3 1) then bd (R q3 0) fun q27 => ck (ixA K q27 5 i9) <| bd (R q27 i9.toNatClampNeg) fun q29 => ck (isO K q29 3) <| bd (mX3_hasMove K R M10 q29 1 0 0) fun i30 => if i30 = 0 then nm (l8 + 1 : Int64) fun l33 => mX7_back_J42 K R M10 r q3 l33 i9 else mX7_back_J42 K R M10 r q3 l8 i9 else ex (bd (R r 2) fun q23 => ck (isO K q23 1) <| bd2 (mX1_keepDraft K R M10 q23) fun R24 M25 => some (l8, R24, M25))
noncomputable def mX7_back_L13 (K : Kk) (R : Rr) (r : Nat) (q3 : Nat) (σ : (Int64 × Int32 × Mm)) : Option ((Int64 × Int32 × Mm) ⊕ (Int64 × Rr × Mm)) :=
  mX7_back_B13 K R r q3 σ.1 σ.2.1 σ.2.2
noncomputable def mX7_back (K : Kk) (R : Rr) (M : Mm) (r : Nat) : Option (Int64 × Rr × Mm) :=
  ck (isO K r 7) <| bd (R r 2) fun q2 => ck (isO K q2 1) <| bd2 (mX1_draft K R M q2) fun q3 M4 => nm (0 : Int64) fun l6 => nm (0 : Int32) fun i7 => lp (mX7_back_L13 K R r q3) (l6, i7, M4)
noncomputable def mX7_undo (K : Kk) (R : Rr) (M : Mm) (r : Nat) : Option (Int64 × Mm) :=
  ck (isO K r 7) <| bd (R r 2) fun q2 => ck (isO K q2 1) <| bd2 (mX1_stepBack K R M q2) fun i3 M4 => if i3 = 0 then some ((-9000000000000000002), M4) else bd (mX1_kept K R M4 q2) fun i7 => some (i7.toInt64, M4)
noncomputable def mX7_redo (K : Kk) (R : Rr) (M : Mm) (r : Nat) : Option (Int64 × Mm) :=
  ck (isO K r 7) <| bd (R r 2) fun q2 => ck (isO K q2 1) <| bd2 (mX1_stepOn K R M q2) fun i3 M4 => if i3 = 0 then some ((-9000000000000000002), M4) else bd (mX1_undone K R M4 q2) fun i7 => some (i7.toInt64, M4)
noncomputable def mX7_isOf (K : Kk) (R : Rr) (M : Mm) (r : Nat) (a0 : Int32) (a1 : Int32) : Option (Int64) :=
  ck (isO K r 7) <| bd (mX7_isPiece K R M r a0) fun i2 => if i2 = 0 then some ((-9000000000000000001)) else if a1 < 0 then some ((-9000000000000000001)) else if a1 < 5 then bd (R r 2) fun q6 => ck (isO K q6 1) <| bd (mX1_now K R M q6) fun q7 => ck (isO K q7 4) <| bd (R q7 0) fun q10 => ck (ixA K q10 5 a0) <| bd (R q10 a0.toNatClampNeg) fun q12 => ck (isO K q12 3) <| bd (mX3_isOfKind K R M q12 a1) fun i13 => if i13 = 0 then some (0) else some (1) else some ((-9000000000000000001))
noncomputable def mX7_about (K : Kk) (R : Rr) (M : Mm) (r : Nat) (a0 : Int32) (a1 : Int32) : Option (Int64) :=
  ck (isO K r 7) <| bd (mX7_isPiece K R M r a0) fun i2 => if i2 = 0 then some ((-9000000000000000001)) else bd (R r 2) fun q4 => ck (isO K q4 1) <| bd (mX1_now K R M q4) fun q5 => ck (isO K q5 4) <| bd (R q5 0) fun q8 => ck (ixA K q8 5 a0) <| bd (R q8 a0.toNatClampNeg) fun q10 => if a1 = 0 then ck (isO K q10 3) <| bd (R q10 0) fun q13 => ck (isO K q13 5) <| some ((M.1 q13 2).toInt64) else if a1 = 1 then ck (isO K q10 3) <| bd (R q10 0) fun q17 => ck (isO K q17 5) <| bd (mX5_twiceArea K R M q17) fun l18 => some (l18) else if a1 = 2 then ck (isO K q10 3) <| some ((M.1 q10 1).toInt64) else if a1 = 3 then ck (isO K q10 3) <| some ((M.1 q10 2).toInt64) else if a1 = 4 then ck (isO K q10 3) <| some ((M.1 q10 3).toInt64) else if a1 = 5 then ck (isO K q10 3) <| if (M.1 q10 4) = 0 then some (0) else some (1) else some ((-9000000000000000001))
noncomputable def mX7_at_J84 (K : Kk) (R : Rr) (M2 : Mm) (r : Nat) (a1 : Int32) (a2 : Int32) : Option (Int64 × Mm) :=
  if (a2 - a2 / 2 * 2) = 0 then bd (R r 9) fun q8 => ck (isO K q8 5) <| bd (R q8 0) fun q10 => ck (ixA K q10 0 a1) <| some ((M2.1 q10 a1.toNatClampNeg).toInt64, M2) else bd (R r 9) fun q4 => ck (isO K q4 5) <| bd (R q4 1) fun q6 => ck (ixA K q6 0 a1) <| some ((M2.1 q6 a1.toNatClampNeg).toInt64, M2)
noncomputable def mX7_at (K : Kk) (R : Rr) (M : Mm) (r : Nat) (a0 : Int32) (a1 : Int32) (a2 : Int32) : Option (Int64 × Mm) :=
  ck (isO K r 7) <| bd (mX7_isPiece K R M r a0) fun i12 => if i12 = 0 then some ((-9000000000000000001), M) else if a1 < 0 then some ((-9000000000000000001), M) else if a2 < 0 then some ((-9000000000000000001), M) else if a2 ≤ 3 then bd (R r 2) fun q17 => ck (isO K q17 1) <| bd (mX1_now K R M q17) fun q18 => ck (isO K q18 4) <| bd (R q18 0) fun q21 => ck (ixA K q21 5 a0) <| bd (R q21 a0.toNatClampNeg) fun q23 => ck (isO K q23 3) <| bd (R q23 0) fun q25 => ck (isO K q25 5) <| if a1 < (M.1 q25 2) then if a2 < 2 then bd (R r 9) fun q32 => bd (mX3_placeInto K R M q23 q32) fun M33 => mX7_at_J84 K R M33 r a1 a2 else bd (R r 9) fun q29 => ck (isO K q29 5) <| bd (mX5_take K R M q29 q25) fun M30 => mX7_at_J84 K R M30 r a1 a2 else some ((-9000000000000000005), M) else some ((-9000000000000000001), M)
noncomputable def mX7_over (K : Kk) (R : Rr) (M : Mm) (r : Nat) (a0 : Int32) (a1 : Int32) : Option (Int64 × Mm) :=
  ck (isO K r 7) <| bd (mX7_isPiece K R M r a0) fun i2 => if i2 = 0 then some ((-9000000000000000001), M) else bd (mX7_isPiece K R M r a1) fun i4 => if i4 = 0 then some ((-9000000000000000001), M) else if a0 = a1 then some ((-9000000000000000001), M) else bd (R r 2) fun q7 => ck (isO K q7 1) <| bd (mX1_now K R M q7) fun q8 => ck (isO K q8 4) <| bd (R q8 0) fun q11 => ck (ixA K q11 5 a0) <| bd (R q11 a0.toNatClampNeg) fun q13 => bd (R r 9) fun q14 => ck (isO K q13 3) <| bd (mX3_placeInto K R M q13 q14) fun M15 => bd (mX1_now K R M15 q7) fun q17 => ck (isO K q17 4) <| bd (R q17 0) fun q19 => ck (ixA K q19 5 a1) <| bd (R q19 a1.toNatClampNeg) fun q21 => bd (R r 10) fun q22 => ck (isO K q21 3) <| bd (mX3_placeInto K R M15 q21 q22) fun M23 => ck (isO K q14 5) <| bd (mX5_liesOver K R M23 q14 q22) fun i25 => if i25 = 0 then some (0, M23) else some (1, M23)
noncomputable def mX7_find_B23 (K : Kk) (R : Rr) (r : Nat) (a0 : Int32) (a1 : Int32) (q5 : Nat) (i8 : Int32) (M9 : Mm) : Option ((Int32 × Mm) ⊕ (Int64 × Mm)) :=
  ck (isO K q5 4) <| if i8 < (M9.1 q5 1) then bd (R q5 0) fun q12 => ck (ixA K q12 5 i8) <| bd (R q12 i8.toNatClampNeg) fun q14 => bd (R r 9) fun q15 => ck (isO K q14 3) <| bd (mX3_placeInto K R M9 q14 q15) fun M16 => ck (isO K q15 5) <| bd (mX5_holds K R M16 q15 a0 a1) fun i18 => if i18 = 0 then nm (i8 + 1 : Int32) fun i21 => some (.inl (i21, M16)) else ex (some (i8.toInt64, M16)) else ex (some ((-9000000000000000005), M9))
noncomputable def mX7_find_L23 (K : Kk) (R : Rr) (r : Nat) (a0 : Int32) (a1 : Int32) (q5 : Nat) (σ : (Int32 × Mm)) : Option ((Int32 × Mm) ⊕ (Int64 × Mm)) :=
  mX7_find_B23 K R r a0 a1 q5 σ.1 σ.2
noncomputable def mX7_find (K : Kk) (R : Rr) (M : Mm) (r : Nat) (a0 : Int32) (a1 : Int32) : Option (Int64 × Mm) :=
  ck (isO K r 7) <| bd (mX7_isPlace K R M a0 a1) fun i2 => if i2 = 0 then some ((-9000000000000000001), M) else bd (R r 2) fun q4 => ck (isO K q4 1) <| bd (mX1_now K R M q4) fun q5 => nm (0 : Int32) fun i7 => lp (mX7_find_L23 K R r a0 a1 q5) (i7, M)
noncomputable def mX7_firstPairOver_J72 (K : Kk) (R : Rr) (M : Mm) (r : Nat) (a0 : Nat) (i4 : Int32) (i8 : Int32) : Option ((Int32) ⊕ ((Int32) ⊕ (Int64))) :=
  nm (i8 + 1 : Int32) fun i9 => some (.inl (i9))
noncomputable def mX7_firstPairOver_B14 (K : Kk) (R : Rr) (M : Mm) (r : Nat) (a0 : Nat) (i4 : Int32) (i7 : Int32) : Option ((Int32) ⊕ ((Int32) ⊕ (Int64))) :=
  if i7 < (M.1 a0 1) then bd (R a0 0) fun q12 => ck (ixA K q12 5 i4) <| bd (R q12 i4.toNatClampNeg) fun q14 => ck (isO K q14 3) <| if (M.1 q14 4) = 0 then ck (ixA K q12 5 i7) <| bd (R q12 i7.toNatClampNeg) fun q18 => ck (isO K q18 3) <| if (M.1 q18 4) = 0 then bd (R r 13) fun q21 => ck (ixA K q21 3 i4) <| bd (R q21 i4.toNatClampNeg) fun q23 => ck (ixA K q21 3 i7) <| bd (R q21 i7.toNatClampNeg) fun q25 => ck (isO K q23 5) <| bd (mX5_liesOver K R M q23 q25) fun i26 => if i26 = 0 then mX7_firstPairOver_J72 K R M r a0 i4 i7 else ex (ex (some (((40 * i4) + i7).toInt64))) else mX7_firstPairOver_J72 K R M r a0 i4 i7 else mX7_firstPairOver_J72 K R M r a0 i4 i7 else ex (nm (i4 + 1 : Int32) fun i11 => some (.inl (i11)))
noncomputable def mX7_firstPairOver_L14 (K : Kk) (R : Rr) (M : Mm) (r : Nat) (a0 : Nat) (i4 : Int32) (σ : (Int32)) : Option ((Int32) ⊕ ((Int32) ⊕ (Int64))) :=
  mX7_firstPairOver_B14 K R M r a0 i4 σ
noncomputable def mX7_firstPairOver_B2 (K : Kk) (R : Rr) (M : Mm) (r : Nat) (a0 : Nat) (i4 : Int32) : Option ((Int32) ⊕ (Int64)) :=
  if i4 < (M.1 a0 1) then nm (i4 + 1 : Int32) fun i6 => lp (mX7_firstPairOver_L14 K R M r a0 i4) (i6) else ex (some ((-9000000000000000005)))
noncomputable def mX7_firstPairOver_L2 (K : Kk) (R : Rr) (M : Mm) (r : Nat) (a0 : Nat) (σ : (Int32)) : Option ((Int32) ⊕ (Int64)) :=
  mX7_firstPairOver_B2 K R M r a0 σ
noncomputable def mX7_firstPairOver (K : Kk) (R : Rr) (M : Mm) (r : Nat) (a0 : Nat) : Option (Int64) :=
  ck (isO K r 7) <| ck (isO K a0 4) <| nm (0 : Int32) fun i3 => lp (mX7_firstPairOver_L2 K R M r a0) (i3)
noncomputable def mX7_covers_J99 (K : Kk) (R : Rr) (M16 : Mm) (r : Nat) (q6 : Nat) (q10 : Nat) (i15 : Int32) : Option ((Int32 × Mm) ⊕ (Int64 × Mm)) :=
  nm (i15 + 1 : Int32) fun i17 => some (.inl (i17, M16))
noncomputable def mX7_covers_B40 (K : Kk) (R : Rr) (r : Nat) (q6 : Nat) (q10 : Nat) (i13 : Int32) (M14 : Mm) : Option ((Int32 × Mm) ⊕ (Int64 × Mm)) :=
  ck (isO K q10 4) <| if i13 < (M14.1 q10 1) then bd (R q10 0) fun q25 => ck (ixA K q25 5 i13) <| bd (R q25 i13.toNatClampNeg) fun q27 => bd (R r 13) fun q28 => ck (ixA K q28 3 i13) <| bd (R q28 i13.toNatClampNeg) fun q30 => ck (isO K q27 3) <| bd (mX3_placeInto K R M14 q27 q30) fun M31 => if (M31.1 q27 4) = 0 then bd (mX5_holdsAll K R M31 q6 q30) fun i34 => if i34 = 0 then ex (some ((1 + i13).toInt64, M31)) else mX7_covers_J99 K R M31 r q6 q10 i13 else mX7_covers_J99 K R M31 r q6 q10 i13 else ex (bd (mX7_firstPairOver K R M14 r q10) fun l20 => if l20 = ((-9000000000000000005)) then bd (mX4_twiceArea K R M14 q10) fun l22 => bd (mX5_twiceArea K R M14 q6) fun l23 => if l22 = l23 then some (0, M14) else some (2000, M14) else some (100 + l20, M14))
noncomputable def mX7_covers_L40 (K : Kk) (R : Rr) (r : Nat) (q6 : Nat) (q10 : Nat) (σ : (Int32 × Mm)) : Option ((Int32 × Mm) ⊕ (Int64 × Mm)) :=
  mX7_covers_B40 K R r q6 q10 σ.1 σ.2
noncomputable def mX7_covers (K : Kk) (R : Rr) (M : Mm) (r : Nat) (a0 : Int32) : Option (Int64 × Mm) :=
  ck (isO K r 7) <| bd (mX7_isFigure K R M a0) fun i2 => if i2 = 0 then some ((-9000000000000000001), M) else bd (R r 1) fun q4 => ck (ixA K q4 3 a0) <| bd (R q4 a0.toNatClampNeg) fun q6 => ck (isO K q6 5) <| if (M.1 q6 2) = 0 then some ((-9000000000000000002), M) else bd (R r 2) fun q9 => ck (isO K q9 1) <| bd (mX1_now K R M q9) fun q10 => nm (0 : Int32) fun i12 => lp (mX7_covers_L40 K R r q6 q10) (i12, M)
noncomputable def mX7_sumSides_J62 (K : Kk) (R : Rr) (M12 : Mm) (r : Nat) (q3 : Nat) (i11 : Int32) : Option ((Int32 × Mm) ⊕ (Mm)) :=
  nm (i11 + 1 : Int32) fun i13 => some (.inl (i13, M12))
noncomputable def mX7_sumSides_B18 (K : Kk) (R : Rr) (r : Nat) (q3 : Nat) (i9 : Int32) (M10 : Mm) : Option ((Int32 × Mm) ⊕ (Mm)) :=
  ck (isO K q3 4) <| if i9 < (M10.1 q3 1) then bd (R q3 0) fun q19 => ck (ixA K q19 5 i9) <| bd (R q19 i9.toNatClampNeg) fun q21 => ck (isO K q21 3) <| if (M10.1 q21 4) = 0 then bd (R r 9) fun q24 => bd (mX3_placeInto K R M10 q21 q24) fun M25 => bd (R r 5) fun q26 => ck (isO K q26 6) <| bd (mX6_addSides K R M25 q26 q24) fun M27 => mX7_sumSides_J62 K R M27 r q3 i9 else mX7_sumSides_J62 K R M10 r q3 i9 else ex (bd (R r 5) fun q16 => ck (isO K q16 6) <| bd (mX6_leaveOutZeros K R M10 q16) fun M17 => some (M17))
noncomputable def mX7_sumSides_L18 (K : Kk) (R : Rr) (r : Nat) (q3 : Nat) (σ : (Int32 × Mm)) : Option ((Int32 × Mm) ⊕ (Mm)) :=
  mX7_sumSides_B18 K R r q3 σ.1 σ.2
noncomputable def mX7_sumSides (K : Kk) (R : Rr) (M : Mm) (r : Nat) : Option (Mm) :=
  ck (isO K r 7) <| bd (R r 2) fun q2 => ck (isO K q2 1) <| bd (mX1_now K R M q2) fun q3 => bd (R r 5) fun q5 => ck (isO K q5 6) <| nm (pI M q5 3 0) fun M7 => nm (0 : Int32) fun i8 => lp (mX7_sumSides_L18 K R r q3) (i8, M7)
noncomputable def mX7_sums (K : Kk) (R : Rr) (M : Mm) (r : Nat) : Option (Int64 × Mm) :=
  ck (isO K r 7) <| bd (mX7_sumSides K R M r) fun M2 => bd (R r 5) fun q3 => ck (isO K q3 6) <| some ((M2.1 q3 3).toInt64, M2)
noncomputable def mX7_sum (K : Kk) (R : Rr) (M : Mm) (r : Nat) (a0 : Int32) (a1 : Int32) : Option (Int64 × Mm) :=
  ck (isO K r 7) <| if a0 < 0 then some ((-9000000000000000001), M) else if a1 < 0 then some ((-9000000000000000001), M) else if a1 ≤ 2 then bd (mX7_sumSides K R M r) fun M5 => bd (R r 5) fun q6 => ck (isO K q6 6) <| if a0 < (M5.1 q6 3) then if a1 = 2 then bd (R q6 2) fun q15 => ck (ixA K q15 1 a0) <| some (M5.2 q15 a0.toNatClampNeg, M5) else if a1 = 0 then bd (R q6 0) fun q13 => ck (ixA K q13 0 a0) <| some ((M5.1 q13 a0.toNatClampNeg).toInt64, M5) else bd (R q6 1) fun q11 => ck (ixA K q11 0 a0) <| some ((M5.1 q11 a0.toNatClampNeg).toInt64, M5) else some ((-9000000000000000005), M5) else some ((-9000000000000000001), M)
noncomputable def mX7_isShelf (K : Kk) (R : Rr) (M : Mm) (a0 : Int32) : Option (Int32) :=
  if a0 < 0 then some (0) else if a0 < 4 then some (1) else some (0)
noncomputable def mX7_shelve (K : Kk) (R : Rr) (M : Mm) (r : Nat) (a0 : Int32) : Option (Int64 × Mm) :=
  ck (isO K r 7) <| bd (mX7_isShelf K R M a0) fun i2 => if i2 = 0 then some ((-9000000000000000001), M) else bd (R r 3) fun q4 => ck (ixA K q4 4 a0) <| bd (R q4 a0.toNatClampNeg) fun q6 => bd (R r 2) fun q7 => ck (isO K q7 1) <| bd (mX1_now K R M q7) fun q8 => ck (isO K q6 4) <| bd (mX4_take K R M q6 q8) fun M10 => bd (R r 4) fun q12 => ck (ixA K q12 2 a0) <| nm (pI M10 q12 a0.toNatClampNeg (vp_nar .boolean 1)) fun M14 => some ((M14.1 q6 1).toInt64, M14)
noncomputable def mX7_fetch (K : Kk) (R : Rr) (M : Mm) (r : Nat) (a0 : Int32) : Option (Int64 × Rr × Mm) :=
  ck (isO K r 7) <| bd (mX7_isShelf K R M a0) fun i2 => if i2 = 0 then some ((-9000000000000000001), R, M) else bd (R r 4) fun q4 => ck (ixA K q4 2 a0) <| if (M.1 q4 a0.toNatClampNeg) = 0 then some ((-9000000000000000002), R, M) else bd (R r 2) fun q7 => ck (isO K q7 1) <| bd2 (mX1_draft K R M q7) fun q8 M9 => bd (R r 3) fun q11 => ck (ixA K q11 4 a0) <| bd (R q11 a0.toNatClampNeg) fun q13 => ck (isO K q8 4) <| bd (mX4_take K R M9 q8 q13) fun M14 => bd2 (mX1_keepDraft K R M14 q7) fun R16 M17 => bd (R16 r 3) fun q18 => ck (ixA K q18 4 a0) <| bd (R16 q18 a0.toNatClampNeg) fun q20 => ck (isO K q20 4) <| some ((M17.1 q20 1).toInt64, R16, M17)
noncomputable def mX7_addCommon (K : Kk) (R : Rr) (M : Mm) (r : Nat) (a0 : Nat) (a1 : Nat) (a2 : Nat) : Option (Int64 × Mm) :=
  ck (isO K r 7) <| ck (isO K a0 4) <| ck (isO K a1 3) <| ck (isO K a2 3) <| bd (R r 9) fun q5 => bd (mX3_placeInto K R M a1 q5) fun M6 => bd (R a2 0) fun q7 => ck (isO K q5 5) <| bd (mX5_liesOver K R M6 q5 q7) fun i8 => if i8 = 0 then some (0, M6) else bd (R r 7) fun q11 => ck (isO K q11 0) <| bd2 (mX0_trace K R M6 q11 q5 q7) fun i12 M13 => if i12 = 0 then some ((-9000000000000000004), M13) else bd (R q11 0) fun q16 => ck (isO K q16 5) <| if (M13.1 q16 2) ≤ 16 then if (M13.1 a0 1) < 40 then bd (R r 8) fun q20 => ck (isO K q20 3) <| bd (mX3_setMove K R M13 q20 (M13.1 a1 1) (M13.1 a1 2) (M13.1 a1 3)) fun M21 => bd (mX3_setPlace K R M21 q20 q16) fun M23 => bd (mX3_setMove K R M23 q20 ((M23.1 a2 1) * (M23.1 a1 1)) (((M23.1 a2 1) * (M23.1 a1 2)) + (M23.1 a2 2)) (((M23.1 a2 1) * (M23.1 a1 3)) + (M23.1 a2 3))) fun M24 => bd (R r 10) fun q25 => bd (mX3_placeInto K R M24 q20 q25) fun M26 => ck (isO K q25 5) <| bd (mX5_isInBounds K R M26 q25) fun i27 => if i27 = 0 then some ((-9000000000000000001), M26) else bd (mX4_add K R M26 a0 q20) fun M30 => some (0, M30) else some ((-9000000000000000003), M13) else some ((-9000000000000000003), M13)
noncomputable def mX7_third_B63 (K : Kk) (R : Rr) (r : Nat) (q8 : Nat) (q12 : Nat) (q13 : Nat) (i16 : Int32) (i26 : Int32) (M27 : Mm) : Option ((Int32 × Mm) ⊕ ((Int32 × Mm) ⊕ (Int64 × Rr × Mm))) :=
  ck (isO K q12 4) <| if i26 < (M27.1 q12 1) then bd (R q8 0) fun q31 => ck (ixA K q31 5 i16) <| bd (R q31 i16.toNatClampNeg) fun q33 => bd (R q12 0) fun q34 => ck (ixA K q34 5 i26) <| bd (R q34 i26.toNatClampNeg) fun q36 => bd2 (mX7_addCommon K R M27 r q13 q33 q36) fun l37 M38 => if l37 = 0 then nm (i26 + 1 : Int32) fun i40 => some (.inl (i40, M38)) else ex (ex (some (l37, R, M38))) else ex (nm (i16 + 1 : Int32) fun i30 => some (.inl (i30, M27)))
noncomputable def mX7_third_L63 (K : Kk) (R : Rr) (r : Nat) (q8 : Nat) (q12 : Nat) (q13 : Nat) (i16 : Int32) (σ : (Int32 × Mm)) : Option ((Int32 × Mm) ⊕ ((Int32 × Mm) ⊕ (Int64 × Rr × Mm))) :=
  mX7_third_B63 K R r q8 q12 q13 i16 σ.1 σ.2
noncomputable def mX7_third_B51 (K : Kk) (R : Rr) (r : Nat) (q8 : Nat) (q12 : Nat) (q13 : Nat) (i16 : Int32) (M17 : Mm) : Option ((Int32 × Mm) ⊕ (Int64 × Rr × Mm)) :=
  ck (isO K q8 4) <| if i16 < (M17.1 q8 1) then nm (0 : Int32) fun i25 => lp (mX7_third_L63 K R r q8 q12 q13 i16) (i25, M17) else ex (bd (R r 2) fun q20 => ck (isO K q20 1) <| bd2 (mX1_keepDraft K R M17 q20) fun R21 M22 => ck (isO K q13 4) <| some ((M22.1 q13 1).toInt64, R21, M22))
noncomputable def mX7_third_L51 (K : Kk) (R : Rr) (r : Nat) (q8 : Nat) (q12 : Nat) (q13 : Nat) (σ : (Int32 × Mm)) : Option ((Int32 × Mm) ⊕ (Int64 × Rr × Mm)) :=
  mX7_third_B51 K R r q8 q12 q13 σ.1 σ.2
noncomputable def mX7_third (K : Kk) (R : Rr) (M : Mm) (r : Nat) (a0 : Int32) : Option (Int64 × Rr × Mm) :=
  ck (isO K r 7) <| bd (mX7_isShelf K R M a0) fun i2 => if i2 = 0 then some ((-9000000000000000001), R, M) else bd (R r 4) fun q4 => ck (ixA K q4 2 a0) <| if (M.1 q4 a0.toNatClampNeg) = 0 then some ((-9000000000000000002), R, M) else bd (R r 2) fun q7 => ck (isO K q7 1) <| bd (mX1_now K R M q7) fun q8 => bd (R r 3) fun q10 => ck (ixA K q10 4 a0) <| bd (R q10 a0.toNatClampNeg) fun q12 => bd2 (mX1_emptyDraft K R M q7) fun q13 M14 => nm (0 : Int32) fun i15 => lp (mX7_third_L51 K R r q8 q12 q13) (i15, M14)
noncomputable def mX7_figuresTold_J27 (K : Kk) (R : Rr) (M : Mm) (r : Nat) (i6 : Int32) (s7 : Int64) (s8 : Int64) : Option ((Int64 × Int32) ⊕ (Int64)) :=
  nm (s7 + s8 : Int64) fun l9 => nm (i6 + 1 : Int32) fun i10 => some (.inl (l9, i10))
noncomputable def mX7_figuresTold_B4 (K : Kk) (R : Rr) (M : Mm) (r : Nat) (l4 : Int64) (i5 : Int32) : Option ((Int64 × Int32) ⊕ (Int64)) :=
  if i5 < 5 then bd (R r 1) fun q12 => ck (ixA K q12 3 i5) <| bd (R q12 i5.toNatClampNeg) fun q14 => ck (isO K q14 5) <| if (M.1 q14 2) = 0 then mX7_figuresTold_J27 K R M r i5 (l4) (0) else mX7_figuresTold_J27 K R M r i5 (l4) (1) else ex (some (l4))
noncomputable def mX7_figuresTold_L4 (K : Kk) (R : Rr) (M : Mm) (r : Nat) (σ : (Int64 × Int32)) : Option ((Int64 × Int32) ⊕ (Int64)) :=
  mX7_figuresTold_B4 K R M r σ.1 σ.2
noncomputable def mX7_figuresTold (K : Kk) (R : Rr) (M : Mm) (r : Nat) : Option (Int64) :=
  ck (isO K r 7) <| nm (0 : Int64) fun l2 => nm (0 : Int32) fun i3 => lp (mX7_figuresTold_L4 K R M r) (l2, i3)
noncomputable def mX7_plansLaid_J24 (K : Kk) (R : Rr) (M : Mm) (r : Nat) (i6 : Int32) (s7 : Int64) (s8 : Int64) : Option ((Int64 × Int32) ⊕ (Int64)) :=
  nm (s7 + s8 : Int64) fun l9 => nm (i6 + 1 : Int32) fun i10 => some (.inl (l9, i10))
noncomputable def mX7_plansLaid_B4 (K : Kk) (R : Rr) (M : Mm) (r : Nat) (l4 : Int64) (i5 : Int32) : Option ((Int64 × Int32) ⊕ (Int64)) :=
  if i5 < 4 then bd (R r 4) fun q12 => ck (ixA K q12 2 i5) <| if (M.1 q12 i5.toNatClampNeg) = 0 then mX7_plansLaid_J24 K R M r i5 (l4) (0) else mX7_plansLaid_J24 K R M r i5 (l4) (1) else ex (some (l4))
noncomputable def mX7_plansLaid_L4 (K : Kk) (R : Rr) (M : Mm) (r : Nat) (σ : (Int64 × Int32)) : Option ((Int64 × Int32) ⊕ (Int64)) :=
  mX7_plansLaid_B4 K R M r σ.1 σ.2
noncomputable def mX7_plansLaid (K : Kk) (R : Rr) (M : Mm) (r : Nat) : Option (Int64) :=
  ck (isO K r 7) <| nm (0 : Int64) fun l2 => nm (0 : Int32) fun i3 => lp (mX7_plansLaid_L4 K R M r) (l2, i3)
noncomputable def mX7_count (K : Kk) (R : Rr) (M : Mm) (r : Nat) (a0 : Int32) : Option (Int64) :=
  ck (isO K r 7) <| if a0 = 0 then bd (R r 2) fun q3 => ck (isO K q3 1) <| bd (mX1_now K R M q3) fun q4 => ck (isO K q4 4) <| some ((M.1 q4 1).toInt64) else if a0 = 1 then bd (R r 0) fun q8 => ck (isO K q8 5) <| some ((M.1 q8 2).toInt64) else if a0 = 2 then bd (mX7_figuresTold K R M r) fun l11 => some (l11) else if a0 = 3 then bd (R r 2) fun q13 => ck (isO K q13 1) <| bd (mX1_kept K R M q13) fun i14 => some (i14.toInt64) else if a0 = 4 then bd (R r 2) fun q17 => ck (isO K q17 1) <| bd (mX1_undone K R M q17) fun i18 => some (i18.toInt64) else if a0 = 5 then bd (mX7_plansLaid K R M r) fun l21 => some (l21) else if a0 = 6 then bd (R r 2) fun q23 => ck (isO K q23 1) <| bd (mX1_now K R M q23) fun q24 => ck (isO K q24 4) <| bd (mX4_twiceArea K R M q24) fun l26 => some (l26) else some ((-9000000000000000001))
noncomputable def mX8_isIn (K : Kk) (R : Rr) (M : Mm) (a0 : Int64) (a1 : Int64) (a2 : Int64) : Option (Int32) :=
  if a0 < a1 then some (0) else if a0 ≤ a2 then some (1) else some (0)
noncomputable def mX8_isPlace (K : Kk) (R : Rr) (M : Mm) (a0 : Int64) (a1 : Int64) : Option (Int32) :=
  bd (mX8_isIn K R M a0 ((-100000)) 100000) fun i1 => if i1 = 0 then some (0) else bd (mX8_isIn K R M a1 ((-100000)) 100000) fun i3 => if i3 = 0 then some (0) else some (1)
noncomputable def mX8_pieces (K : Kk) (R : Rr) (M : Mm) (r : Nat) : Option (Int32) :=
  ck (isO K r 8) <| bd (R r 0) fun q2 => ck (ixA K q2 1 1480) <| some ((M.2 q2 1480).toInt32)
noncomputable def mX8_isPiece (K : Kk) (R : Rr) (M : Mm) (r : Nat) (a0 : Int32) : Option (Int32) :=
  ck (isO K r 8) <| bd (mX8_pieces K R M r) fun i2 => bd (mX8_isIn K R M (a0.toInt64) 0 ((i2 - 1).toInt64)) fun i3 => ck (isB i3) <| some (i3)
noncomputable def mX8_get (K : Kk) (R : Rr) (M : Mm) (r : Nat) (a0 : Int32) (a1 : Int32) : Option (Int64) :=
  ck (isO K r 8) <| bd (R r 0) fun q2 => ck (ixA K q2 1 ((37 * a0) + a1)) <| some (M.2 q2 ((37 * a0) + a1).toNatClampNeg)
noncomputable def mX8_size (K : Kk) (R : Rr) (M : Mm) (r : Nat) (a0 : Int32) : Option (Int32) :=
  ck (isO K r 8) <| bd (mX8_get K R M r a0 0) fun l2 => some (l2.toInt32)
noncomputable def mX8_keep_B52 (K : Kk) (R : Rr) (r : Nat) (i4 : Int32) (M5 : Mm) : Option ((Int32 × Mm) ⊕ (Mm)) :=
  if i4 < 1481 then bd (R r 1) fun q9 => bd (R r 0) fun q10 => ck (ixA K q10 1 i4) <| ck (ixA K q9 1 ((1481 * (M5.1 r 3)) + i4)) <| nm (pL M5 q9 ((1481 * (M5.1 r 3)) + i4).toNatClampNeg (M5.2 q10 i4.toNatClampNeg)) fun M13 => nm (i4 + 1 : Int32) fun i14 => some (.inl (i14, M13)) else ex (nm (pI M5 r 3 ((M5.1 r 3) + 1)) fun M7 => nm (pI M7 r 4 0) fun M8 => some (M8))
noncomputable def mX8_keep_L52 (K : Kk) (R : Rr) (r : Nat) (σ : (Int32 × Mm)) : Option ((Int32 × Mm) ⊕ (Mm)) :=
  mX8_keep_B52 K R r σ.1 σ.2
noncomputable def mX8_keep_J50 (K : Kk) (R : Rr) (M2 : Mm) (r : Nat) : Option (Mm) :=
  nm (0 : Int32) fun i3 => lp (mX8_keep_L52 K R r) (i3, M2)
noncomputable def mX8_keep_B11 (K : Kk) (R : Rr) (r : Nat) (i17 : Int32) (M18 : Mm) : Option ((Int32 × Mm) ⊕ (Mm)) :=
  if i17 < 7405 then bd (R r 1) fun q21 => ck (ixA K q21 1 (i17 + 1481)) <| ck (ixA K q21 1 i17) <| nm (pL M18 q21 i17.toNatClampNeg (M18.2 q21 (i17 + 1481).toNatClampNeg)) fun M24 => nm (i17 + 1 : Int32) fun i25 => some (.inl (i25, M24)) else ex (nm (pI M18 r 3 ((M18.1 r 3) - 1)) fun M20 => mX8_keep_J50 K R M20 r)
noncomputable def mX8_keep_L11 (K : Kk) (R : Rr) (r : Nat) (σ : (Int32 × Mm)) : Option ((Int32 × Mm) ⊕ (Mm)) :=
  mX8_keep_B11 K R r σ.1 σ.2
noncomputable def mX8_keep (K : Kk) (R : Rr) (M : Mm) (r : Nat) : Option (Mm) :=
  ck (isO K r 8) <| if (M.1 r 3) = 6 then nm (0 : Int32) fun i16 => lp (mX8_keep_L11 K R r) (i16, M) else mX8_keep_J50 K R M r
noncomputable def mX8_undo_B23 (K : Kk) (R : Rr) (r : Nat) (i5 : Int32) (M6 : Mm) : Option ((Int32 × Mm) ⊕ (Int64 × Mm)) :=
  if i5 < 1481 then bd (R r 2) fun q9 => bd (R r 0) fun q10 => ck (ixA K q10 1 i5) <| ck (ixA K q9 1 ((1481 * (M6.1 r 4)) + i5)) <| nm (pL M6 q9 ((1481 * (M6.1 r 4)) + i5).toNatClampNeg (M6.2 q10 i5.toNatClampNeg)) fun M13 => bd (R r 1) fun q14 => ck (ixA K q14 1 ((1481 * (M13.1 r 3)) + i5)) <| nm (pL M13 q10 i5.toNatClampNeg (M13.2 q14 ((1481 * (M13.1 r 3)) + i5).toNatClampNeg)) fun M16 => nm (i5 + 1 : Int32) fun i17 => some (.inl (i17, M16)) else ex (nm (pI M6 r 4 ((M6.1 r 4) + 1)) fun M8 => some ((M8.1 r 3).toInt64, M8))
noncomputable def mX8_undo_L23 (K : Kk) (R : Rr) (r : Nat) (σ : (Int32 × Mm)) : Option ((Int32 × Mm) ⊕ (Int64 × Mm)) :=
  mX8_undo_B23 K R r σ.1 σ.2
noncomputable def mX8_undo (K : Kk) (R : Rr) (M : Mm) (r : Nat) : Option (Int64 × Mm) :=
  ck (isO K r 8) <| if (M.1 r 3) = 0 then some ((-9000000000000000002), M) else nm (pI M r 3 ((M.1 r 3) - 1)) fun M3 => nm (0 : Int32) fun i4 => lp (mX8_undo_L23 K R r) (i4, M3)
noncomputable def mX8_redo_B23 (K : Kk) (R : Rr) (r : Nat) (i5 : Int32) (M6 : Mm) : Option ((Int32 × Mm) ⊕ (Int64 × Mm)) :=
  if i5 < 1481 then bd (R r 1) fun q9 => bd (R r 0) fun q10 => ck (ixA K q10 1 i5) <| ck (ixA K q9 1 ((1481 * (M6.1 r 3)) + i5)) <| nm (pL M6 q9 ((1481 * (M6.1 r 3)) + i5).toNatClampNeg (M6.2 q10 i5.toNatClampNeg)) fun M13 => bd (R r 2) fun q14 => ck (ixA K q14 1 ((1481 * (M13.1 r 4)) + i5)) <| nm (pL M13 q10 i5.toNatClampNeg (M13.2 q14 ((1481 * (M13.1 r 4)) + i5).toNatClampNeg)) fun M16 => nm (i5 + 1 : Int32) fun i17 => some (.inl (i17, M16)) else ex (nm (pI M6 r 3 ((M6.1 r 3) + 1)) fun M8 => some ((M8.1 r 4).toInt64, M8))
noncomputable def mX8_redo_L23 (K : Kk) (R : Rr) (r : Nat) (σ : (Int32 × Mm)) : Option ((Int32 × Mm) ⊕ (Int64 × Mm)) :=
  mX8_redo_B23 K R r σ.1 σ.2
noncomputable def mX8_redo (K : Kk) (R : Rr) (M : Mm) (r : Nat) : Option (Int64 × Mm) :=
  ck (isO K r 8) <| if (M.1 r 4) = 0 then some ((-9000000000000000002), M) else nm (pI M r 4 ((M.1 r 4) - 1)) fun M3 => nm (0 : Int32) fun i4 => lp (mX8_redo_L23 K R r) (i4, M3)
noncomputable def mX8_side (K : Kk) (R : Rr) (M : Mm) (a0 : Int64) (a1 : Int64) (a2 : Int64) (a3 : Int64) (a4 : Int64) (a5 : Int64) : Option (Int64) :=
  some (((a2 - a0) * (a5 - a1)) - ((a3 - a1) * (a4 - a0)))
noncomputable def mX8_point (K : Kk) (R : Rr) (M : Mm) (r : Nat) (a0 : Int64) (a1 : Int64) : Option (Mm) :=
  ck (isO K r 8) <| bd (R r 19) fun q2 => ck (ixA K q2 1 (M.1 r 21)) <| nm (pL M q2 (M.1 r 21).toNatClampNeg a0) fun M4 => bd (R r 20) fun q5 => ck (ixA K q5 1 (M4.1 r 21)) <| nm (pL M4 q5 (M4.1 r 21).toNatClampNeg a1) fun M7 => nm (pI M7 r 21 ((M7.1 r 21) + 1)) fun M8 => some (M8)
noncomputable def mX8_leastPoint_J62 (K : Kk) (R : Rr) (M : Mm) (r : Nat) (i6 : Int32) (i7 : Int32) : Option ((Int32 × Int32) ⊕ (Int32)) :=
  nm (i7 + 1 : Int32) fun i8 => some (.inl (i6, i8))
noncomputable def mX8_leastPoint_J60 (K : Kk) (R : Rr) (M : Mm) (r : Nat) (i9 : Int32) : Option ((Int32 × Int32) ⊕ (Int32)) :=
  mX8_leastPoint_J62 K R M r i9 i9
noncomputable def mX8_leastPoint_B4 (K : Kk) (R : Rr) (M : Mm) (r : Nat) (i4 : Int32) (i5 : Int32) : Option ((Int32 × Int32) ⊕ (Int32)) :=
  if i5 < (M.1 r 21) then bd (R r 19) fun q11 => ck (ixA K q11 1 i5) <| ck (ixA K q11 1 i4) <| if (M.2 q11 i5.toNatClampNeg) < (M.2 q11 i4.toNatClampNeg) then mX8_leastPoint_J60 K R M r i5 else if (M.2 q11 i5.toNatClampNeg) = (M.2 q11 i4.toNatClampNeg) then bd (R r 20) fun q16 => ck (ixA K q16 1 i5) <| ck (ixA K q16 1 i4) <| if (M.2 q16 i5.toNatClampNeg) < (M.2 q16 i4.toNatClampNeg) then mX8_leastPoint_J60 K R M r i5 else mX8_leastPoint_J62 K R M r i4 i5 else mX8_leastPoint_J62 K R M r i4 i5 else ex (some (i4))
noncomputable def mX8_leastPoint_L4 (K : Kk) (R : Rr) (M : Mm) (r : Nat) (σ : (Int32 × Int32)) : Option ((Int32 × Int32) ⊕ (Int32)) :=
  mX8_leastPoint_B4 K R M r σ.1 σ.2
noncomputable def mX8_leastPoint (K : Kk) (R : Rr) (M : Mm) (r : Nat) : Option (Int32) :=
  ck (isO K r 8) <| nm (0 : Int32) fun i2 => nm (1 : Int32) fun i3 => lp (mX8_leastPoint_L4 K R M r) (i2, i3)
noncomputable def mX8_isOuter_J240 (K : Kk) (R : Rr) (M : Mm) (l2 : Int64) (l3 : Int64) (s4 : Int32) : Option (Int32) :=
  if s4 = 0 then some (0) else if l3 ≤ l2 then some (0) else some (1)
noncomputable def mX8_isOuter (K : Kk) (R : Rr) (M : Mm) (r : Nat) (a0 : Int32) (a1 : Int32) (a2 : Int32) : Option (Int32) :=
  ck (isO K r 8) <| bd (R r 19) fun q7 => ck (ixA K q7 1 a0) <| bd (R r 20) fun q9 => ck (ixA K q9 1 a0) <| ck (ixA K q7 1 a1) <| ck (ixA K q9 1 a1) <| ck (ixA K q7 1 a2) <| ck (ixA K q9 1 a2) <| bd (mX8_side K R M (M.2 q7 a0.toNatClampNeg) (M.2 q9 a0.toNatClampNeg) (M.2 q7 a1.toNatClampNeg) (M.2 q9 a1.toNatClampNeg) (M.2 q7 a2.toNatClampNeg) (M.2 q9 a2.toNatClampNeg)) fun l15 => if l15 = 0 then nm ((((M.2 q7 a1.toNatClampNeg) - (M.2 q7 a0.toNatClampNeg)) * ((M.2 q7 a1.toNatClampNeg) - (M.2 q7 a0.toNatClampNeg))) + (((M.2 q9 a1.toNatClampNeg) - (M.2 q9 a0.toNatClampNeg)) * ((M.2 q9 a1.toNatClampNeg) - (M.2 q9 a0.toNatClampNeg))) : Int64) fun l17 => nm ((((M.2 q7 a2.toNatClampNeg) - (M.2 q7 a0.toNatClampNeg)) * ((M.2 q7 a2.toNatClampNeg) - (M.2 q7 a0.toNatClampNeg))) + (((M.2 q9 a2.toNatClampNeg) - (M.2 q9 a0.toNatClampNeg)) * ((M.2 q9 a2.toNatClampNeg) - (M.2 q9 a0.toNatClampNeg))) : Int64) fun l18 => if ((((M.2 q7 a1.toNatClampNeg) - (M.2 q7 a0.toNatClampNeg)) * ((M.2 q7 a2.toNatClampNeg) - (M.2 q7 a0.toNatClampNeg))) + (((M.2 q9 a1.toNatClampNeg) - (M.2 q9 a0.toNatClampNeg)) * ((M.2 q9 a2.toNatClampNeg) - (M.2 q9 a0.toNatClampNeg)))) ≤ 0 then mX8_isOuter_J240 K R M l17 l18 (0) else mX8_isOuter_J240 K R M l17 l18 (1) else if l15 < 0 then some (1) else some (0)
noncomputable def mX8_outermost_J198 (K : Kk) (R : Rr) (M11 : Mm) (r : Nat) (i4 : Int32) (i9 : Int32) (s10 : Int32) : Option ((Int32 × Int32 × Mm) ⊕ (Mm)) :=
  some (.inl (i9, s10, M11))
noncomputable def mX8_outermost_J197 (K : Kk) (R : Rr) (M13 : Mm) (r : Nat) (i4 : Int32) (i12 : Int32) : Option ((Int32 × Int32 × Mm) ⊕ (Mm)) :=
  mX8_outermost_J198 K R M13 r i4 i12 (0)
noncomputable def mX8_outermost_J193 (K : Kk) (R : Rr) (M15 : Mm) (r : Nat) (i4 : Int32) (i14 : Int32) : Option ((Int32 × Int32 × Mm) ⊕ (Mm)) :=
  mX8_outermost_J198 K R M15 r i4 i14 (1)
noncomputable def mX8_outermost_J148 (K : Kk) (R : Rr) (M27 : Mm) (r : Nat) (i4 : Int32) (i6 : Int32) (i32 : Int32) (i33 : Int32) : Option ((Int32 × Int32) ⊕ ((Int32 × Int32 × Mm) ⊕ (Mm))) :=
  nm (i33 + 1 : Int32) fun i34 => some (.inl (i32, i34))
noncomputable def mX8_outermost_J144 (K : Kk) (R : Rr) (M27 : Mm) (r : Nat) (i4 : Int32) (i6 : Int32) (i35 : Int32) : Option ((Int32 × Int32) ⊕ ((Int32 × Int32 × Mm) ⊕ (Mm))) :=
  mX8_outermost_J148 K R M27 r i4 i6 i35 i35
noncomputable def mX8_outermost_J120 (K : Kk) (R : Rr) (M27 : Mm) (r : Nat) (i4 : Int32) (i6 : Int32) (i36 : Int32) (i37 : Int32) (s38 : Int32) : Option ((Int32 × Int32) ⊕ ((Int32 × Int32 × Mm) ⊕ (Mm))) :=
  if s38 = 0 then mX8_outermost_J148 K R M27 r i4 i6 i36 i37 else if i36 < 0 then mX8_outermost_J144 K R M27 r i4 i6 i37 else bd (mX8_isOuter K R M27 r i6 i36 i37) fun i41 => if i41 = 0 then mX8_outermost_J148 K R M27 r i4 i6 i36 i37 else mX8_outermost_J144 K R M27 r i4 i6 i37
noncomputable def mX8_outermost_J115 (K : Kk) (R : Rr) (M27 : Mm) (r : Nat) (i4 : Int32) (i6 : Int32) (i43 : Int32) (i44 : Int32) : Option ((Int32 × Int32) ⊕ ((Int32 × Int32 × Mm) ⊕ (Mm))) :=
  mX8_outermost_J120 K R M27 r i4 i6 i43 i44 (1)
noncomputable def mX8_outermost_B72 (K : Kk) (R : Rr) (M27 : Mm) (r : Nat) (i4 : Int32) (i6 : Int32) (i30 : Int32) (i31 : Int32) : Option ((Int32 × Int32) ⊕ ((Int32 × Int32 × Mm) ⊕ (Mm))) :=
  if i31 < (M27.1 r 21) then bd (R r 19) fun q55 => ck (ixA K q55 1 i31) <| ck (ixA K q55 1 i6) <| if (M27.2 q55 i31.toNatClampNeg) = (M27.2 q55 i6.toNatClampNeg) then bd (R r 20) fun q59 => ck (ixA K q59 1 i31) <| ck (ixA K q59 1 i6) <| if (M27.2 q59 i31.toNatClampNeg) = (M27.2 q59 i6.toNatClampNeg) then mX8_outermost_J120 K R M27 r i4 i6 i30 i31 (0) else mX8_outermost_J115 K R M27 r i4 i6 i30 i31 else mX8_outermost_J115 K R M27 r i4 i6 i30 i31 else ex (if i30 < 0 then mX8_outermost_J197 K R M27 r i4 i30 else bd (R r 19) fun q47 => ck (ixA K q47 1 i30) <| ck (ixA K q47 1 i4) <| if (M27.2 q47 i30.toNatClampNeg) = (M27.2 q47 i4.toNatClampNeg) then bd (R r 20) fun q51 => ck (ixA K q51 1 i30) <| ck (ixA K q51 1 i4) <| if (M27.2 q51 i30.toNatClampNeg) = (M27.2 q51 i4.toNatClampNeg) then mX8_outermost_J197 K R M27 r i4 i30 else mX8_outermost_J193 K R M27 r i4 i30 else mX8_outermost_J193 K R M27 r i4 i30)
noncomputable def mX8_outermost_L72 (K : Kk) (R : Rr) (M27 : Mm) (r : Nat) (i4 : Int32) (i6 : Int32) (σ : (Int32 × Int32)) : Option ((Int32 × Int32) ⊕ ((Int32 × Int32 × Mm) ⊕ (Mm))) :=
  mX8_outermost_B72 K R M27 r i4 i6 σ.1 σ.2
noncomputable def mX8_outermost_B22 (K : Kk) (R : Rr) (r : Nat) (i4 : Int32) (i6 : Int32) (i7 : Int32) (M8 : Mm) : Option ((Int32 × Int32 × Mm) ⊕ (Mm)) :=
  if i7 = 0 then ex (some (M8)) else bd (R r 22) fun q17 => bd (R r 19) fun q18 => ck (ixA K q18 1 i6) <| ck (ixA K q17 1 (M8.1 r 24)) <| nm (pL M8 q17 (M8.1 r 24).toNatClampNeg (M8.2 q18 i6.toNatClampNeg)) fun M21 => bd (R r 23) fun q22 => bd (R r 20) fun q23 => ck (ixA K q23 1 i6) <| ck (ixA K q22 1 (M21.1 r 24)) <| nm (pL M21 q22 (M21.1 r 24).toNatClampNeg (M21.2 q23 i6.toNatClampNeg)) fun M26 => nm (pI M26 r 24 ((M26.1 r 24) + 1)) fun M27 => nm ((-1) : Int32) fun i28 => nm (0 : Int32) fun i29 => lp (mX8_outermost_L72 K R M27 r i4 i6) (i28, i29)
noncomputable def mX8_outermost_L22 (K : Kk) (R : Rr) (r : Nat) (i4 : Int32) (σ : (Int32 × Int32 × Mm)) : Option ((Int32 × Int32 × Mm) ⊕ (Mm)) :=
  mX8_outermost_B22 K R r i4 σ.1 σ.2.1 σ.2.2
noncomputable def mX8_outermost (K : Kk) (R : Rr) (M : Mm) (r : Nat) : Option (Mm) :=
  ck (isO K r 8) <| nm (pI M r 24 0) fun M2 => if (M2.1 r 21) = 0 then some (M2) else bd (mX8_leastPoint K R M2 r) fun i4 => nm (1 : Int32) fun i5 => lp (mX8_outermost_L22 K R r i4) (i4, i5, M2)
noncomputable def mX8_beginPoints (K : Kk) (R : Rr) (M : Mm) (r : Nat) : Option (Mm) :=
  ck (isO K r 8) <| nm (pI M r 21 0) fun M2 => some (M2)
noncomputable def mX8_lookA_B91 (K : Kk) (R : Rr) (r : Nat) (i11 : Int32) (M12 : Mm) : Option ((Int32 × Mm) ⊕ (Mm)) :=
  if i11 < (M12.1 r 15) then bd (R r 13) fun q14 => bd (R r 22) fun q15 => ck (ixA K q15 1 i11) <| ck (ixA K q14 1 i11) <| nm (pL M12 q14 i11.toNatClampNeg (M12.2 q15 i11.toNatClampNeg)) fun M18 => bd (R r 14) fun q19 => bd (R r 23) fun q20 => ck (ixA K q20 1 i11) <| ck (ixA K q19 1 i11) <| nm (pL M18 q19 i11.toNatClampNeg (M18.2 q20 i11.toNatClampNeg)) fun M23 => nm (i11 + 1 : Int32) fun i24 => some (.inl (i24, M23)) else ex (some (M12))
noncomputable def mX8_lookA_L91 (K : Kk) (R : Rr) (r : Nat) (σ : (Int32 × Mm)) : Option ((Int32 × Mm) ⊕ (Mm)) :=
  mX8_lookA_B91 K R r σ.1 σ.2
noncomputable def mX8_lookA_B6 (K : Kk) (R : Rr) (r : Nat) (a0 : Int32) (i4 : Int32) (M5 : Mm) : Option ((Int32 × Mm) ⊕ (Mm)) :=
  bd (mX8_size K R M5 r a0) fun i6 => if i4 < i6 then bd (mX8_get K R M5 r a0 33) fun l25 => bd (mX8_get K R M5 r a0 (1 + (2 * i4))) fun l26 => bd (mX8_get K R M5 r a0 34) fun l27 => bd (mX8_get K R M5 r a0 33) fun l28 => bd (mX8_get K R M5 r a0 (2 + (2 * i4))) fun l29 => bd (mX8_get K R M5 r a0 35) fun l30 => bd (mX8_point K R M5 r ((l25 * l26) + l27) ((l28 * l29) + l30)) fun M31 => nm (i4 + 1 : Int32) fun i32 => some (.inl (i32, M31)) else ex (bd (mX8_outermost K R M5 r) fun M8 => nm (pI M8 r 15 (M8.1 r 24)) fun M9 => nm (0 : Int32) fun i10 => lp (mX8_lookA_L91 K R r) (i10, M9))
noncomputable def mX8_lookA_L6 (K : Kk) (R : Rr) (r : Nat) (a0 : Int32) (σ : (Int32 × Mm)) : Option ((Int32 × Mm) ⊕ (Mm)) :=
  mX8_lookA_B6 K R r a0 σ.1 σ.2
noncomputable def mX8_lookA (K : Kk) (R : Rr) (M : Mm) (r : Nat) (a0 : Int32) : Option (Mm) :=
  ck (isO K r 8) <| bd (mX8_beginPoints K R M r) fun M2 => nm (0 : Int32) fun i3 => lp (mX8_lookA_L6 K R r a0) (i3, M2)
noncomputable def mX8_lookB_B15 (K : Kk) (R : Rr) (r : Nat) (i5 : Int32) (M6 : Mm) : Option ((Int32 × Mm) ⊕ (Mm)) :=
  if i5 < (M6.1 r 18) then bd (R r 16) fun q8 => bd (R r 13) fun q9 => ck (ixA K q9 1 i5) <| ck (ixA K q8 1 i5) <| nm (pL M6 q8 i5.toNatClampNeg (M6.2 q9 i5.toNatClampNeg)) fun M12 => bd (R r 17) fun q13 => bd (R r 14) fun q14 => ck (ixA K q14 1 i5) <| ck (ixA K q13 1 i5) <| nm (pL M12 q13 i5.toNatClampNeg (M12.2 q14 i5.toNatClampNeg)) fun M17 => nm (i5 + 1 : Int32) fun i18 => some (.inl (i18, M17)) else ex (some (M6))
noncomputable def mX8_lookB_L15 (K : Kk) (R : Rr) (r : Nat) (σ : (Int32 × Mm)) : Option ((Int32 × Mm) ⊕ (Mm)) :=
  mX8_lookB_B15 K R r σ.1 σ.2
noncomputable def mX8_lookB (K : Kk) (R : Rr) (M : Mm) (r : Nat) (a0 : Int32) : Option (Mm) :=
  ck (isO K r 8) <| bd (mX8_lookA K R M r a0) fun M2 => nm (pI M2 r 18 (M2.1 r 15)) fun M3 => nm (0 : Int32) fun i4 => lp (mX8_lookB_L15 K R r) (i4, M3)
noncomputable def mX8_originOf_J132 (K : Kk) (R : Rr) (M4 : Mm) (r : Nat) (a0 : Int32) (i10 : Int32) (s11 : Int32) : Option ((Int32 × Int32) ⊕ (Mm)) :=
  nm (i10 + 1 : Int32) fun i12 => some (.inl (s11, i12))
noncomputable def mX8_originOf_J130 (K : Kk) (R : Rr) (M4 : Mm) (r : Nat) (a0 : Int32) (i13 : Int32) (i14 : Int32) : Option ((Int32 × Int32) ⊕ (Mm)) :=
  mX8_originOf_J132 K R M4 r a0 i14 (i13)
noncomputable def mX8_originOf_J125 (K : Kk) (R : Rr) (M4 : Mm) (r : Nat) (a0 : Int32) (i15 : Int32) : Option ((Int32 × Int32) ⊕ (Mm)) :=
  mX8_originOf_J132 K R M4 r a0 i15 (i15)
noncomputable def mX8_originOf_B157 (K : Kk) (R : Rr) (r : Nat) (a0 : Int32) (i8 : Int32) (i21 : Int32) (M22 : Mm) : Option ((Int32 × Mm) ⊕ (Mm)) :=
  if i21 < (M22.1 r 24) then bd (R r 0) fun q24 => bd (R r 22) fun q25 => ck (¬ (M22.1 r 24) = 0) <| ck (ixA K q25 1 ((i8 + i21) - (i8 + i21) / (M22.1 r 24) * (M22.1 r 24))) <| ck (ixA K q24 1 (((37 * a0) + 1) + (2 * i21))) <| nm (pL M22 q24 (((37 * a0) + 1) + (2 * i21)).toNatClampNeg (M22.2 q25 ((i8 + i21) - (i8 + i21) / (M22.1 r 24) * (M22.1 r 24)).toNatClampNeg)) fun M29 => bd (R r 23) fun q30 => ck (¬ (M29.1 r 24) = 0) <| ck (ixA K q30 1 ((i8 + i21) - (i8 + i21) / (M29.1 r 24) * (M29.1 r 24))) <| ck (ixA K q24 1 (((37 * a0) + 2) + (2 * i21))) <| nm (pL M29 q24 (((37 * a0) + 2) + (2 * i21)).toNatClampNeg (M29.2 q30 ((i8 + i21) - (i8 + i21) / (M29.1 r 24) * (M29.1 r 24)).toNatClampNeg)) fun M34 => nm (i21 + 1 : Int32) fun i35 => some (.inl (i35, M34)) else ex (some (M22))
noncomputable def mX8_originOf_L157 (K : Kk) (R : Rr) (r : Nat) (a0 : Int32) (i8 : Int32) (σ : (Int32 × Mm)) : Option ((Int32 × Mm) ⊕ (Mm)) :=
  mX8_originOf_B157 K R r a0 i8 σ.1 σ.2
noncomputable def mX8_originOf_B62 (K : Kk) (R : Rr) (M4 : Mm) (r : Nat) (a0 : Int32) (i8 : Int32) (i9 : Int32) : Option ((Int32 × Int32) ⊕ (Mm)) :=
  if i9 < (M4.1 r 24) then bd (R r 22) fun q36 => ck (ixA K q36 1 i9) <| ck (ixA K q36 1 i8) <| if (M4.2 q36 i9.toNatClampNeg) < (M4.2 q36 i8.toNatClampNeg) then mX8_originOf_J125 K R M4 r a0 i9 else if (M4.2 q36 i9.toNatClampNeg) = (M4.2 q36 i8.toNatClampNeg) then bd (R r 23) fun q41 => ck (ixA K q41 1 i9) <| ck (ixA K q41 1 i8) <| if (M4.2 q41 i9.toNatClampNeg) < (M4.2 q41 i8.toNatClampNeg) then mX8_originOf_J125 K R M4 r a0 i9 else mX8_originOf_J130 K R M4 r a0 i8 i9 else mX8_originOf_J130 K R M4 r a0 i8 i9 else ex (bd (R r 0) fun q17 => ck (ixA K q17 1 (37 * a0)) <| nm (pL M4 q17 (37 * a0).toNatClampNeg ((M4.1 r 24).toInt64)) fun M19 => nm (0 : Int32) fun i20 => lp (mX8_originOf_L157 K R r a0 i8) (i20, M19))
noncomputable def mX8_originOf_L62 (K : Kk) (R : Rr) (M4 : Mm) (r : Nat) (a0 : Int32) (σ : (Int32 × Int32)) : Option ((Int32 × Int32) ⊕ (Mm)) :=
  mX8_originOf_B62 K R M4 r a0 σ.1 σ.2
noncomputable def mX8_originOf_B3 (K : Kk) (R : Rr) (r : Nat) (a0 : Int32) (a1 : Int64) (a2 : Int64) (a3 : Int64) (i3 : Int32) (M4 : Mm) : Option ((Int32 × Mm) ⊕ (Mm)) :=
  if i3 < (M4.1 r 24) then bd (R r 22) fun q45 => ck (ixA K q45 1 i3) <| nm (pL M4 q45 i3.toNatClampNeg (a1 * ((M4.2 q45 i3.toNatClampNeg) - a2))) fun M47 => bd (R r 23) fun q48 => ck (ixA K q48 1 i3) <| nm (pL M47 q48 i3.toNatClampNeg (a1 * ((M47.2 q48 i3.toNatClampNeg) - a3))) fun M50 => nm (i3 + 1 : Int32) fun i51 => some (.inl (i51, M50)) else ex (nm (0 : Int32) fun i6 => nm (1 : Int32) fun i7 => lp (mX8_originOf_L62 K R M4 r a0) (i6, i7))
noncomputable def mX8_originOf_L3 (K : Kk) (R : Rr) (r : Nat) (a0 : Int32) (a1 : Int64) (a2 : Int64) (a3 : Int64) (σ : (Int32 × Mm)) : Option ((Int32 × Mm) ⊕ (Mm)) :=
  mX8_originOf_B3 K R r a0 a1 a2 a3 σ.1 σ.2
noncomputable def mX8_originOf (K : Kk) (R : Rr) (M : Mm) (r : Nat) (a0 : Int32) (a1 : Int64) (a2 : Int64) (a3 : Int64) : Option (Mm) :=
  ck (isO K r 8) <| nm (0 : Int32) fun i2 => lp (mX8_originOf_L3 K R r a0 a1 a2 a3) (i2, M)
noncomputable def mX8_move (K : Kk) (R : Rr) (M : Mm) (r : Nat) (a0 : Int32) (a1 : Int64) (a2 : Int64) (a3 : Int64) : Option (Mm) :=
  ck (isO K r 8) <| bd (R r 0) fun q2 => ck (ixA K q2 1 ((37 * a0) + 33)) <| nm (pL M q2 ((37 * a0) + 33).toNatClampNeg a1) fun M4 => ck (ixA K q2 1 ((37 * a0) + 34)) <| nm (pL M4 q2 ((37 * a0) + 34).toNatClampNeg a2) fun M6 => ck (ixA K q2 1 ((37 * a0) + 35)) <| nm (pL M6 q2 ((37 * a0) + 35).toNatClampNeg a3) fun M8 => some (M8)
noncomputable def mX8_corner (K : Kk) (R : Rr) (M : Mm) (r : Nat) (a0 : Int32) (a1 : Int32) : Option (Int64 × Mm) :=
  ck (isO K r 8) <| bd (mX8_isPlace K R M (a0.toInt64) (a1.toInt64)) fun i2 => if i2 = 0 then some ((-9000000000000000001), M) else if (M.1 r 12) = 16 then some ((-9000000000000000003), M) else bd (R r 10) fun q5 => ck (ixA K q5 1 (M.1 r 12)) <| nm (pL M q5 (M.1 r 12).toNatClampNeg (a0.toInt64)) fun M7 => bd (R r 11) fun q8 => ck (ixA K q8 1 (M7.1 r 12)) <| nm (pL M7 q8 (M7.1 r 12).toNatClampNeg (a1.toInt64)) fun M10 => nm (pI M10 r 12 ((M10.1 r 12) + 1)) fun M11 => some ((M11.1 r 12).toInt64, M11)
noncomputable def mX8_goesAs_J135 (K : Kk) (R : Rr) (M : Mm) (r : Nat) (a0 : Int32) (i2 : Int32) (i8 : Int32) (s9 : Int32) : Option ((Int32 × Int32) ⊕ (Int32)) :=
  nm (i8 + 1 : Int32) fun i10 => some (.inl (s9, i10))
noncomputable def mX8_goesAs_J134 (K : Kk) (R : Rr) (M : Mm) (r : Nat) (a0 : Int32) (i2 : Int32) (i11 : Int32) : Option ((Int32 × Int32) ⊕ (Int32)) :=
  mX8_goesAs_J135 K R M r a0 i2 i11 (0)
noncomputable def mX8_goesAs_B63 (K : Kk) (R : Rr) (M : Mm) (r : Nat) (a0 : Int32) (i2 : Int32) (i6 : Int32) (i7 : Int32) : Option ((Int32 × Int32) ⊕ (Int32)) :=
  if i7 < (M.1 r 12) then ck (¬ (M.1 r 12) = 0) <| nm (((i2 + (a0 * i7)) + (M.1 r 12)) - ((i2 + (a0 * i7)) + (M.1 r 12)) / (M.1 r 12) * (M.1 r 12) : Int32) fun i15 => if i6 = 0 then mX8_goesAs_J134 K R M r a0 i2 i7 else bd (R r 10) fun q17 => ck (ixA K q17 1 i15) <| bd (R r 22) fun q19 => ck (ixA K q19 1 i7) <| if (M.2 q17 i15.toNatClampNeg) = (M.2 q19 i7.toNatClampNeg) then bd (R r 11) fun q22 => ck (ixA K q22 1 i15) <| bd (R r 23) fun q24 => ck (ixA K q24 1 i7) <| if (M.2 q22 i15.toNatClampNeg) = (M.2 q24 i7.toNatClampNeg) then mX8_goesAs_J135 K R M r a0 i2 i7 (1) else mX8_goesAs_J134 K R M r a0 i2 i7 else mX8_goesAs_J134 K R M r a0 i2 i7 else ex (ck (isB i6) <| some (i6))
noncomputable def mX8_goesAs_L63 (K : Kk) (R : Rr) (M : Mm) (r : Nat) (a0 : Int32) (i2 : Int32) (σ : (Int32 × Int32)) : Option ((Int32 × Int32) ⊕ (Int32)) :=
  mX8_goesAs_B63 K R M r a0 i2 σ.1 σ.2
noncomputable def mX8_goesAs_J48 (K : Kk) (R : Rr) (M : Mm) (r : Nat) (a0 : Int32) (i2 : Int32) : Option (Int32) :=
  if i2 = (M.1 r 12) then some (0) else nm (1 : Int32) fun i4 => nm (0 : Int32) fun i5 => lp (mX8_goesAs_L63 K R M r a0 i2) (i4, i5)
noncomputable def mX8_goesAs_J42 (K : Kk) (R : Rr) (M : Mm) (r : Nat) (a0 : Int32) (i29 : Int32) : Option ((Int32) ⊕ (Int32)) :=
  nm (i29 + 1 : Int32) fun i30 => some (.inl (i30))
noncomputable def mX8_goesAs_B2 (K : Kk) (R : Rr) (M : Mm) (r : Nat) (a0 : Int32) (i28 : Int32) : Option ((Int32) ⊕ (Int32)) :=
  if i28 < (M.1 r 12) then bd (R r 10) fun q32 => ck (ixA K q32 1 i28) <| bd (R r 22) fun q34 => ck (ixA K q34 1 0) <| if (M.2 q32 i28.toNatClampNeg) = (M.2 q34 0) then bd (R r 11) fun q37 => ck (ixA K q37 1 i28) <| bd (R r 23) fun q39 => ck (ixA K q39 1 0) <| if (M.2 q37 i28.toNatClampNeg) = (M.2 q39 0) then ex (mX8_goesAs_J48 K R M r a0 i28) else mX8_goesAs_J42 K R M r a0 i28 else mX8_goesAs_J42 K R M r a0 i28 else ex (mX8_goesAs_J48 K R M r a0 i28)
noncomputable def mX8_goesAs_L2 (K : Kk) (R : Rr) (M : Mm) (r : Nat) (a0 : Int32) (σ : (Int32)) : Option ((Int32) ⊕ (Int32)) :=
  mX8_goesAs_B2 K R M r a0 σ
noncomputable def mX8_goesAs (K : Kk) (R : Rr) (M : Mm) (r : Nat) (a0 : Int32) : Option (Int32) :=
  ck (isO K r 8) <| nm (0 : Int32) fun i27 => lp (mX8_goesAs_L2 K R M r a0) (i27)
noncomputable def mX8_figure_B122 (K : Kk) (R : Rr) (r : Nat) (a0 : Int32) (i10 : Int32) (M11 : Mm) : Option ((Int32 × Mm) ⊕ (Int64 × Mm)) :=
  if i10 < (M11.1 r 24) then bd (R r 7) fun q13 => bd (R r 22) fun q14 => ck (ixA K q14 1 i10) <| ck (ixA K q13 1 ((16 * a0) + i10)) <| nm (pL M11 q13 ((16 * a0) + i10).toNatClampNeg (M11.2 q14 i10.toNatClampNeg)) fun M17 => bd (R r 8) fun q18 => bd (R r 23) fun q19 => ck (ixA K q19 1 i10) <| ck (ixA K q18 1 ((16 * a0) + i10)) <| nm (pL M17 q18 ((16 * a0) + i10).toNatClampNeg (M17.2 q19 i10.toNatClampNeg)) fun M22 => nm (i10 + 1 : Int32) fun i23 => some (.inl (i23, M22)) else ex (some ((M11.1 r 24).toInt64, M11))
noncomputable def mX8_figure_L122 (K : Kk) (R : Rr) (r : Nat) (a0 : Int32) (σ : (Int32 × Mm)) : Option ((Int32 × Mm) ⊕ (Int64 × Mm)) :=
  mX8_figure_B122 K R r a0 σ.1 σ.2
noncomputable def mX8_figure_J96 (K : Kk) (R : Rr) (M3 : Mm) (r : Nat) (a0 : Int32) (s2 : Int32) : Option (Int64 × Mm) :=
  nm (pI M3 r 12 0) fun M4 => if s2 = 0 then some ((-9000000000000000002), M4) else bd (R r 9) fun q6 => ck (ixA K q6 0 a0) <| nm (pI M4 q6 a0.toNatClampNeg (M4.1 r 24)) fun M8 => nm (0 : Int32) fun i9 => lp (mX8_figure_L122 K R r a0) (i9, M8)
noncomputable def mX8_figure_J95 (K : Kk) (R : Rr) (M24 : Mm) (r : Nat) (a0 : Int32) : Option (Int64 × Mm) :=
  mX8_figure_J96 K R M24 r a0 (0)
noncomputable def mX8_figure_J91 (K : Kk) (R : Rr) (M25 : Mm) (r : Nat) (a0 : Int32) : Option (Int64 × Mm) :=
  mX8_figure_J96 K R M25 r a0 (1)
noncomputable def mX8_figure_B22 (K : Kk) (R : Rr) (r : Nat) (a0 : Int32) (i30 : Int32) (M31 : Mm) : Option ((Int32 × Mm) ⊕ (Int64 × Mm)) :=
  if i30 < (M31.1 r 12) then bd (R r 10) fun q40 => ck (ixA K q40 1 i30) <| bd (R r 11) fun q42 => ck (ixA K q42 1 i30) <| bd (mX8_point K R M31 r (M31.2 q40 i30.toNatClampNeg) (M31.2 q42 i30.toNatClampNeg)) fun M44 => nm (i30 + 1 : Int32) fun i45 => some (.inl (i45, M44)) else ex (bd (mX8_outermost K R M31 r) fun M33 => if (M33.1 r 24) < 3 then mX8_figure_J95 K R M33 r a0 else if (M33.1 r 24) = (M33.1 r 12) then bd (mX8_goesAs K R M33 r 1) fun i36 => if i36 = 0 then bd (mX8_goesAs K R M33 r ((-1))) fun i38 => if i38 = 0 then mX8_figure_J95 K R M33 r a0 else mX8_figure_J91 K R M33 r a0 else mX8_figure_J91 K R M33 r a0 else mX8_figure_J95 K R M33 r a0)
noncomputable def mX8_figure_L22 (K : Kk) (R : Rr) (r : Nat) (a0 : Int32) (σ : (Int32 × Mm)) : Option ((Int32 × Mm) ⊕ (Int64 × Mm)) :=
  mX8_figure_B22 K R r a0 σ.1 σ.2
noncomputable def mX8_figure (K : Kk) (R : Rr) (M : Mm) (r : Nat) (a0 : Int32) : Option (Int64 × Mm) :=
  ck (isO K r 8) <| bd (mX8_isIn K R M (a0.toInt64) 0 4) fun i26 => if i26 = 0 then some ((-9000000000000000001), M) else bd (mX8_beginPoints K R M r) fun M28 => nm (0 : Int32) fun i29 => lp (mX8_figure_L22 K R r a0) (i29, M28)
noncomputable def mX8_figureArea_B13 (K : Kk) (R : Rr) (M : Mm) (r : Nat) (a0 : Int32) (i5 : Int32) (l7 : Int64) (i8 : Int32) : Option ((Int64 × Int32) ⊕ (Int64)) :=
  if i8 < i5 then nm ((16 * a0) + i8 : Int32) fun i10 => ck (¬ i5 = 0) <| nm ((16 * a0) + ((i8 + 1) - (i8 + 1) / i5 * i5) : Int32) fun i12 => bd (R r 7) fun q13 => ck (ixA K q13 1 i10) <| bd (R r 8) fun q15 => ck (ixA K q15 1 i12) <| ck (ixA K q13 1 i12) <| ck (ixA K q15 1 i10) <| nm (l7 + (((M.2 q13 i10.toNatClampNeg) * (M.2 q15 i12.toNatClampNeg)) - ((M.2 q13 i12.toNatClampNeg) * (M.2 q15 i10.toNatClampNeg))) : Int64) fun l19 => nm (i8 + 1 : Int32) fun i20 => some (.inl (l19, i20)) else ex (some (l7))
noncomputable def mX8_figureArea_L13 (K : Kk) (R : Rr) (M : Mm) (r : Nat) (a0 : Int32) (i5 : Int32) (σ : (Int64 × Int32)) : Option ((Int64 × Int32) ⊕ (Int64)) :=
  mX8_figureArea_B13 K R M r a0 i5 σ.1 σ.2
noncomputable def mX8_figureArea (K : Kk) (R : Rr) (M : Mm) (r : Nat) (a0 : Int32) : Option (Int64) :=
  ck (isO K r 8) <| nm (0 : Int64) fun l2 => bd (R r 9) fun q3 => ck (ixA K q3 0 a0) <| nm (M.1 q3 a0.toNatClampNeg : Int32) fun i5 => nm (0 : Int32) fun i6 => lp (mX8_figureArea_L13 K R M r a0 i5) (l2, i6)
noncomputable def mX8_area (K : Kk) (R : Rr) (M : Mm) (r : Nat) (a0 : Int32) : Option (Int64) :=
  ck (isO K r 8) <| bd (mX8_isIn K R M (a0.toInt64) 0 4) fun i2 => if i2 = 0 then some ((-9000000000000000001)) else bd (R r 9) fun q4 => ck (ixA K q4 0 a0) <| if (M.1 q4 a0.toNatClampNeg) = 0 then some ((-9000000000000000002)) else bd (mX8_figureArea K R M r a0) fun l7 => some (l7)
noncomputable def mX8_begin_B54 (K : Kk) (R : Rr) (r : Nat) (a0 : Int32) (i13 : Int32) (M14 : Mm) : Option ((Int32 × Mm) ⊕ (Int64 × Mm)) :=
  if i13 < (M14.1 r 24) then bd (R r 22) fun q21 => bd (R r 7) fun q22 => ck (ixA K q22 1 ((16 * a0) + i13)) <| ck (ixA K q21 1 i13) <| nm (pL M14 q21 i13.toNatClampNeg (M14.2 q22 ((16 * a0) + i13).toNatClampNeg)) fun M25 => bd (R r 23) fun q26 => bd (R r 8) fun q27 => ck (ixA K q27 1 ((16 * a0) + i13)) <| ck (ixA K q26 1 i13) <| nm (pL M25 q26 i13.toNatClampNeg (M25.2 q27 ((16 * a0) + i13).toNatClampNeg)) fun M30 => nm (i13 + 1 : Int32) fun i31 => some (.inl (i31, M30)) else ex (bd (mX8_originOf K R M14 r 0 1 0 0) fun M16 => bd (mX8_move K R M16 r 0 1 0 0) fun M17 => bd (R r 0) fun q18 => ck (ixA K q18 1 36) <| nm (pL M17 q18 36 0) fun M20 => some (0, M20))
noncomputable def mX8_begin_L54 (K : Kk) (R : Rr) (r : Nat) (a0 : Int32) (σ : (Int32 × Mm)) : Option ((Int32 × Mm) ⊕ (Int64 × Mm)) :=
  mX8_begin_B54 K R r a0 σ.1 σ.2
noncomputable def mX8_begin (K : Kk) (R : Rr) (M : Mm) (r : Nat) (a0 : Int32) : Option (Int64 × Mm) :=
  ck (isO K r 8) <| bd (mX8_isIn K R M (a0.toInt64) 0 4) fun i2 => if i2 = 0 then some ((-9000000000000000001), M) else bd (R r 9) fun q4 => ck (ixA K q4 0 a0) <| if (M.1 q4 a0.toNatClampNeg) = 0 then some ((-9000000000000000002), M) else bd (mX8_keep K R M r) fun M7 => bd (R r 0) fun q8 => ck (ixA K q8 1 1480) <| nm (pL M7 q8 1480 1) fun M10 => nm (pI M10 r 24 (M10.1 q4 a0.toNatClampNeg)) fun M11 => nm (0 : Int32) fun i12 => lp (mX8_begin_L54 K R r a0) (i12, M11)
noncomputable def mX8_sideOf (K : Kk) (R : Rr) (M : Mm) (r : Nat) (a0 : Int64) (a1 : Int64) : Option (Int64) :=
  ck (isO K r 8) <| bd (mX8_side K R M (M.2 r 25) (M.2 r 26) (M.2 r 27) (M.2 r 28) a0 a1) fun l2 => some (l2)
noncomputable def mX8_cornersOn_J58 (K : Kk) (R : Rr) (M : Mm) (r : Nat) (a0 : Int32) (i6 : Int32) (s7 : Int32) (s8 : Int32) : Option ((Int32 × Int32) ⊕ (Int32)) :=
  nm (s7 + s8 : Int32) fun i9 => nm (i6 + 1 : Int32) fun i10 => some (.inl (i9, i10))
noncomputable def mX8_cornersOn_J57 (K : Kk) (R : Rr) (M : Mm) (r : Nat) (a0 : Int32) (i11 : Int32) (s12 : Int32) : Option ((Int32 × Int32) ⊕ (Int32)) :=
  mX8_cornersOn_J58 K R M r a0 i11 (s12) (0)
noncomputable def mX8_cornersOn_J53 (K : Kk) (R : Rr) (M : Mm) (r : Nat) (a0 : Int32) (i13 : Int32) (s14 : Int32) : Option ((Int32 × Int32) ⊕ (Int32)) :=
  mX8_cornersOn_J58 K R M r a0 i13 (s14) (1)
noncomputable def mX8_cornersOn_J42 (K : Kk) (R : Rr) (M : Mm) (r : Nat) (a0 : Int32) (i15 : Int32) (l16 : Int64) (s17 : Int32) : Option ((Int32 × Int32) ⊕ (Int32)) :=
  if a0 < 0 then if l16 < 0 then mX8_cornersOn_J53 K R M r a0 i15 (s17) else mX8_cornersOn_J57 K R M r a0 i15 (s17) else mX8_cornersOn_J57 K R M r a0 i15 (s17)
noncomputable def mX8_cornersOn_B4 (K : Kk) (R : Rr) (M : Mm) (r : Nat) (a0 : Int32) (i4 : Int32) (i5 : Int32) : Option ((Int32 × Int32) ⊕ (Int32)) :=
  if i5 < (M.1 r 15) then bd (R r 13) fun q21 => ck (ixA K q21 1 i5) <| bd (R r 14) fun q23 => ck (ixA K q23 1 i5) <| bd (mX8_sideOf K R M r (M.2 q21 i5.toNatClampNeg) (M.2 q23 i5.toNatClampNeg)) fun l25 => if a0 ≤ 0 then mX8_cornersOn_J42 K R M r a0 i5 l25 (i4) else if l25 ≤ 0 then mX8_cornersOn_J42 K R M r a0 i5 l25 (i4) else mX8_cornersOn_J53 K R M r a0 i5 (i4) else ex (some (i4))
noncomputable def mX8_cornersOn_L4 (K : Kk) (R : Rr) (M : Mm) (r : Nat) (a0 : Int32) (σ : (Int32 × Int32)) : Option ((Int32 × Int32) ⊕ (Int32)) :=
  mX8_cornersOn_B4 K R M r a0 σ.1 σ.2
noncomputable def mX8_cornersOn (K : Kk) (R : Rr) (M : Mm) (r : Nat) (a0 : Int32) : Option (Int32) :=
  ck (isO K r 8) <| nm (0 : Int32) fun i2 => nm (0 : Int32) fun i3 => lp (mX8_cornersOn_L4 K R M r a0) (i2, i3)
noncomputable def mX8_crosses (K : Kk) (R : Rr) (M : Mm) (r : Nat) (a0 : Int32) : Option (Int32 × Mm) :=
  ck (isO K r 8) <| bd (mX8_lookA K R M r a0) fun M2 => bd (mX8_cornersOn K R M2 r 1) fun i3 => if i3 ≤ 0 then some (0, M2) else bd (mX8_cornersOn K R M2 r ((-1))) fun i5 => if i5 ≤ 0 then some (0, M2) else some (1, M2)
noncomputable def mX8_isWhole_J149 (K : Kk) (R : Rr) (M : Mm) (r : Nat) (i6 : Int32) (i7 : Int32) : Option ((Int32 × Int32) ⊕ (Int32)) :=
  nm (i7 + 1 : Int32) fun i8 => some (.inl (i6, i8))
noncomputable def mX8_isWhole_J148 (K : Kk) (R : Rr) (M : Mm) (r : Nat) (i9 : Int32) (s10 : Int32) : Option ((Int32 × Int32) ⊕ (Int32)) :=
  mX8_isWhole_J149 K R M r s10 i9
noncomputable def mX8_isWhole_J147 (K : Kk) (R : Rr) (M : Mm) (r : Nat) (i11 : Int32) : Option ((Int32 × Int32) ⊕ (Int32)) :=
  mX8_isWhole_J148 K R M r i11 (0)
noncomputable def mX8_isWhole_J85 (K : Kk) (R : Rr) (M : Mm) (r : Nat) (i12 : Int32) (i13 : Int32) (i14 : Int32) (l15 : Int64) (l16 : Int64) : Option ((Int32 × Int32) ⊕ (Int32)) :=
  if i12 = 0 then mX8_isWhole_J147 K R M r i13 else bd (R r 13) fun q18 => ck (ixA K q18 1 i14) <| ck (ixA K q18 1 i13) <| ck (¬ (l15 - l16) = 0) <| if ((((M.2 q18 i14.toNatClampNeg) - (M.2 q18 i13.toNatClampNeg)) * l15) - (((M.2 q18 i14.toNatClampNeg) - (M.2 q18 i13.toNatClampNeg)) * l15) / (l15 - l16) * (l15 - l16)) = 0 then bd (R r 14) fun q23 => ck (ixA K q23 1 i14) <| ck (ixA K q23 1 i13) <| if ((((M.2 q23 i14.toNatClampNeg) - (M.2 q23 i13.toNatClampNeg)) * l15) - (((M.2 q23 i14.toNatClampNeg) - (M.2 q23 i13.toNatClampNeg)) * l15) / (l15 - l16) * (l15 - l16)) = 0 then mX8_isWhole_J148 K R M r i13 (1) else mX8_isWhole_J147 K R M r i13 else mX8_isWhole_J147 K R M r i13
noncomputable def mX8_isWhole_J71 (K : Kk) (R : Rr) (M : Mm) (r : Nat) (i27 : Int32) (i28 : Int32) (i29 : Int32) (l30 : Int64) (l31 : Int64) : Option ((Int32 × Int32) ⊕ (Int32)) :=
  if l30 < 0 then if l31 ≤ 0 then mX8_isWhole_J149 K R M r i27 i28 else mX8_isWhole_J85 K R M r i27 i28 i29 l30 l31 else mX8_isWhole_J149 K R M r i27 i28
noncomputable def mX8_isWhole_B4 (K : Kk) (R : Rr) (M : Mm) (r : Nat) (i4 : Int32) (i5 : Int32) : Option ((Int32 × Int32) ⊕ (Int32)) :=
  if i5 < (M.1 r 15) then ck (¬ (M.1 r 15) = 0) <| nm ((i5 + 1) - (i5 + 1) / (M.1 r 15) * (M.1 r 15) : Int32) fun i37 => bd (R r 13) fun q38 => ck (ixA K q38 1 i5) <| bd (R r 14) fun q40 => ck (ixA K q40 1 i5) <| bd (mX8_sideOf K R M r (M.2 q38 i5.toNatClampNeg) (M.2 q40 i5.toNatClampNeg)) fun l42 => ck (ixA K q38 1 i37) <| ck (ixA K q40 1 i37) <| bd (mX8_sideOf K R M r (M.2 q38 i37.toNatClampNeg) (M.2 q40 i37.toNatClampNeg)) fun l45 => if l42 ≤ 0 then mX8_isWhole_J71 K R M r i4 i5 i37 l42 l45 else if l45 < 0 then mX8_isWhole_J85 K R M r i4 i5 i37 l42 l45 else mX8_isWhole_J71 K R M r i4 i5 i37 l42 l45 else ex (ck (isB i4) <| some (i4))
noncomputable def mX8_isWhole_L4 (K : Kk) (R : Rr) (M : Mm) (r : Nat) (σ : (Int32 × Int32)) : Option ((Int32 × Int32) ⊕ (Int32)) :=
  mX8_isWhole_B4 K R M r σ.1 σ.2
noncomputable def mX8_isWhole (K : Kk) (R : Rr) (M : Mm) (r : Nat) : Option (Int32) :=
  ck (isO K r 8) <| nm (1 : Int32) fun i2 => nm (0 : Int32) fun i3 => lp (mX8_isWhole_L4 K R M r) (i2, i3)
noncomputable def mX8_partOn_J187 (K : Kk) (R : Rr) (M7 : Mm) (r : Nat) (a0 : Int32) (i6 : Int32) : Option ((Int32 × Mm) ⊕ (Mm)) :=
  nm (i6 + 1 : Int32) fun i8 => some (.inl (i8, M7))
noncomputable def mX8_partOn_J125 (K : Kk) (R : Rr) (M13 : Mm) (r : Nat) (a0 : Int32) (i9 : Int32) (i10 : Int32) (l11 : Int64) (l12 : Int64) : Option ((Int32 × Mm) ⊕ (Mm)) :=
  bd (R r 13) fun q14 => ck (ixA K q14 1 i9) <| ck (ixA K q14 1 i10) <| ck (¬ (l11 - l12) = 0) <| bd (R r 14) fun q18 => ck (ixA K q18 1 i9) <| ck (ixA K q18 1 i10) <| bd (mX8_point K R M13 r ((M13.2 q14 i9.toNatClampNeg) + ((((M13.2 q14 i10.toNatClampNeg) - (M13.2 q14 i9.toNatClampNeg)) * l11) / (l11 - l12))) ((M13.2 q18 i9.toNatClampNeg) + ((((M13.2 q18 i10.toNatClampNeg) - (M13.2 q18 i9.toNatClampNeg)) * l11) / (l11 - l12)))) fun M21 => mX8_partOn_J187 K R M21 r a0 i9
noncomputable def mX8_partOn_J111 (K : Kk) (R : Rr) (M26 : Mm) (r : Nat) (a0 : Int32) (i22 : Int32) (i23 : Int32) (l24 : Int64) (l25 : Int64) : Option ((Int32 × Mm) ⊕ (Mm)) :=
  if l24 < 0 then if l25 ≤ 0 then mX8_partOn_J187 K R M26 r a0 i22 else mX8_partOn_J125 K R M26 r a0 i22 i23 l24 l25 else mX8_partOn_J187 K R M26 r a0 i22
noncomputable def mX8_partOn_J97 (K : Kk) (R : Rr) (M33 : Mm) (r : Nat) (a0 : Int32) (i29 : Int32) (i30 : Int32) (l31 : Int64) (l32 : Int64) : Option ((Int32 × Mm) ⊕ (Mm)) :=
  if l31 ≤ 0 then mX8_partOn_J111 K R M33 r a0 i29 i30 l31 l32 else if l32 < 0 then mX8_partOn_J125 K R M33 r a0 i29 i30 l31 l32 else mX8_partOn_J111 K R M33 r a0 i29 i30 l31 l32
noncomputable def mX8_partOn_J81 (K : Kk) (R : Rr) (M40 : Mm) (r : Nat) (a0 : Int32) (i36 : Int32) (i37 : Int32) (l38 : Int64) (l39 : Int64) : Option ((Int32 × Mm) ⊕ (Mm)) :=
  bd (R r 13) fun q41 => ck (ixA K q41 1 i36) <| bd (R r 14) fun q43 => ck (ixA K q43 1 i36) <| bd (mX8_point K R M40 r (M40.2 q41 i36.toNatClampNeg) (M40.2 q43 i36.toNatClampNeg)) fun M45 => mX8_partOn_J97 K R M45 r a0 i36 i37 l38 l39
noncomputable def mX8_partOn_J70 (K : Kk) (R : Rr) (M50 : Mm) (r : Nat) (a0 : Int32) (i46 : Int32) (i47 : Int32) (l48 : Int64) (l49 : Int64) : Option ((Int32 × Mm) ⊕ (Mm)) :=
  if a0 < 0 then if l48 ≤ 0 then mX8_partOn_J81 K R M50 r a0 i46 i47 l48 l49 else mX8_partOn_J97 K R M50 r a0 i46 i47 l48 l49 else mX8_partOn_J97 K R M50 r a0 i46 i47 l48 l49
noncomputable def mX8_partOn_B6 (K : Kk) (R : Rr) (r : Nat) (a0 : Int32) (i4 : Int32) (M5 : Mm) : Option ((Int32 × Mm) ⊕ (Mm)) :=
  if i4 < (M5.1 r 15) then ck (¬ (M5.1 r 15) = 0) <| nm ((i4 + 1) - (i4 + 1) / (M5.1 r 15) * (M5.1 r 15) : Int32) fun i56 => bd (R r 13) fun q57 => ck (ixA K q57 1 i4) <| bd (R r 14) fun q59 => ck (ixA K q59 1 i4) <| bd (mX8_sideOf K R M5 r (M5.2 q57 i4.toNatClampNeg) (M5.2 q59 i4.toNatClampNeg)) fun l61 => ck (ixA K q57 1 i56) <| ck (ixA K q59 1 i56) <| bd (mX8_sideOf K R M5 r (M5.2 q57 i56.toNatClampNeg) (M5.2 q59 i56.toNatClampNeg)) fun l64 => if a0 ≤ 0 then mX8_partOn_J70 K R M5 r a0 i4 i56 l61 l64 else if l61 < 0 then mX8_partOn_J70 K R M5 r a0 i4 i56 l61 l64 else mX8_partOn_J81 K R M5 r a0 i4 i56 l61 l64 else ex (bd (mX8_outermost K R M5 r) fun M54 => some (M54))
noncomputable def mX8_partOn_L6 (K : Kk) (R : Rr) (r : Nat) (a0 : Int32) (σ : (Int32 × Mm)) : Option ((Int32 × Mm) ⊕ (Mm)) :=
  mX8_partOn_B6 K R r a0 σ.1 σ.2
noncomputable def mX8_partOn (K : Kk) (R : Rr) (M : Mm) (r : Nat) (a0 : Int32) : Option (Mm) :=
  ck (isO K r 8) <| bd (mX8_beginPoints K R M r) fun M2 => nm (0 : Int32) fun i3 => lp (mX8_partOn_L6 K R r a0) (i3, M2)
noncomputable def mX8_cutOne (K : Kk) (R : Rr) (M : Mm) (r : Nat) (a0 : Int32) : Option (Mm) :=
  ck (isO K r 8) <| bd (mX8_pieces K R M r) fun i2 => bd (R r 0) fun q3 => ck (ixA K q3 1 1480) <| nm (pL M q3 1480 ((M.2 q3 1480) + 1)) fun M5 => bd (mX8_lookA K R M5 r a0) fun M6 => bd (mX8_partOn K R M6 r ((-1))) fun M7 => bd (mX8_get K R M7 r a0 33) fun l8 => bd (mX8_get K R M7 r a0 34) fun l9 => bd (mX8_get K R M7 r a0 35) fun l10 => bd (mX8_originOf K R M7 r i2 l8 l9 l10) fun M11 => bd (mX8_get K R M11 r a0 33) fun l12 => bd (mX8_get K R M11 r a0 34) fun l13 => bd (mX8_get K R M11 r a0 35) fun l14 => bd (mX8_move K R M11 r i2 l12 l13 l14) fun M15 => ck (ixA K q3 1 ((37 * i2) + 36)) <| nm (pL M15 q3 ((37 * i2) + 36).toNatClampNeg 0) fun M17 => bd (mX8_partOn K R M17 r 1) fun M18 => bd (mX8_get K R M18 r a0 33) fun l19 => bd (mX8_get K R M18 r a0 34) fun l20 => bd (mX8_get K R M18 r a0 35) fun l21 => bd (mX8_originOf K R M18 r a0 l19 l20 l21) fun M22 => ck (ixA K q3 1 ((37 * a0) + 36)) <| nm (pL M22 q3 ((37 * a0) + 36).toNatClampNeg 0) fun M24 => some (M24)
noncomputable def mX8_isLarge_J24 (K : Kk) (R : Rr) (M : Mm) : Option (Int32) :=
  some (1)
noncomputable def mX8_isLarge (K : Kk) (R : Rr) (M : Mm) (r : Nat) : Option (Int32) :=
  ck (isO K r 8) <| bd (mX8_cornersOn K R M r 1) fun i2 => if (i2 + 2) ≤ 16 then bd (mX8_cornersOn K R M r ((-1))) fun i4 => if (i4 + 2) ≤ 16 then some (0) else mX8_isLarge_J24 K R M  else mX8_isLarge_J24 K R M 
noncomputable def mX8_cut_J132 (K : Kk) (R : Rr) (M20 : Mm) (r : Nat) (i16 : Int32) (i17 : Int32) (i18 : Int32) (i19 : Int32) : Option ((Int32 × Int32 × Int32 × Int32 × Mm) ⊕ (Int64 × Mm)) :=
  nm (i19 + 1 : Int32) fun i21 => some (.inl (i16, i17, i18, i21, M20))
noncomputable def mX8_cut_J130 (K : Kk) (R : Rr) (M26 : Mm) (r : Nat) (i22 : Int32) (i23 : Int32) (i24 : Int32) (s25 : Int32) : Option ((Int32 × Int32 × Int32 × Int32 × Mm) ⊕ (Int64 × Mm)) :=
  mX8_cut_J132 K R M26 r i22 i23 s25 i24
noncomputable def mX8_cut_J129 (K : Kk) (R : Rr) (M30 : Mm) (r : Nat) (i27 : Int32) (i28 : Int32) (i29 : Int32) : Option ((Int32 × Int32 × Int32 × Int32 × Mm) ⊕ (Int64 × Mm)) :=
  mX8_cut_J130 K R M30 r i27 i28 i29 (0)
noncomputable def mX8_cut_J111 (K : Kk) (R : Rr) (M35 : Mm) (r : Nat) (i31 : Int32) (i32 : Int32) (i33 : Int32) (s34 : Int32) : Option ((Int32 × Int32 × Int32 × Int32 × Mm) ⊕ (Int64 × Mm)) :=
  if i32 = 0 then mX8_cut_J129 K R M35 r i31 s34 i33 else bd (mX8_isWhole K R M35 r) fun i37 => if i37 = 0 then mX8_cut_J129 K R M35 r i31 s34 i33 else mX8_cut_J130 K R M35 r i31 s34 i33 (1)
noncomputable def mX8_cut_J106 (K : Kk) (R : Rr) (M42 : Mm) (r : Nat) (i39 : Int32) (i40 : Int32) (i41 : Int32) : Option ((Int32 × Int32 × Int32 × Int32 × Mm) ⊕ (Int64 × Mm)) :=
  mX8_cut_J111 K R M42 r i39 i40 i41 (1)
noncomputable def mX8_cut_J203 (K : Kk) (R : Rr) (M55 : Mm) (r : Nat) (i11 : Int32) (i50 : Int32) (i54 : Int32) : Option ((Int32 × Mm) ⊕ (Int64 × Mm)) :=
  nm (i54 + 1 : Int32) fun i56 => some (.inl (i56, M55))
noncomputable def mX8_cut_B181 (K : Kk) (R : Rr) (r : Nat) (i11 : Int32) (i50 : Int32) (i52 : Int32) (M53 : Mm) : Option ((Int32 × Mm) ⊕ (Int64 × Mm)) :=
  if i52 < i50 then bd2 (mX8_crosses K R M53 r i52) fun i58 M59 => if i58 = 0 then mX8_cut_J203 K R M59 r i11 i50 i52 else bd (mX8_cutOne K R M59 r i52) fun M61 => mX8_cut_J203 K R M61 r i11 i50 i52 else ex (some (i11.toInt64, M53))
noncomputable def mX8_cut_L181 (K : Kk) (R : Rr) (r : Nat) (i11 : Int32) (i50 : Int32) (σ : (Int32 × Mm)) : Option ((Int32 × Mm) ⊕ (Int64 × Mm)) :=
  mX8_cut_B181 K R r i11 i50 σ.1 σ.2
noncomputable def mX8_cut_B73 (K : Kk) (R : Rr) (r : Nat) (i11 : Int32) (i12 : Int32) (i13 : Int32) (i14 : Int32) (M15 : Mm) : Option ((Int32 × Int32 × Int32 × Int32 × Mm) ⊕ (Int64 × Mm)) :=
  bd (mX8_pieces K R M15 r) fun i43 => if i14 < i43 then bd2 (mX8_crosses K R M15 r i14) fun i62 M63 => if i62 = 0 then mX8_cut_J132 K R M63 r i11 i12 i13 i14 else nm (i11 + 1 : Int32) fun i65 => if i12 = 0 then bd (mX8_isLarge K R M63 r) fun i67 => if i67 = 0 then mX8_cut_J111 K R M63 r i65 i13 i14 (0) else mX8_cut_J106 K R M63 r i65 i13 i14 else mX8_cut_J106 K R M63 r i65 i13 i14 else ex (if i12 = 0 then bd (mX8_pieces K R M15 r) fun i46 => if (i46 + i11) ≤ 40 then if i13 = 0 then some ((-9000000000000000004), M15) else bd (mX8_keep K R M15 r) fun M49 => bd (mX8_pieces K R M49 r) fun i50 => nm (0 : Int32) fun i51 => lp (mX8_cut_L181 K R r i11 i50) (i51, M49) else some ((-9000000000000000003), M15) else some ((-9000000000000000003), M15))
noncomputable def mX8_cut_L73 (K : Kk) (R : Rr) (r : Nat) (σ : (Int32 × Int32 × Int32 × Int32 × Mm)) : Option ((Int32 × Int32 × Int32 × Int32 × Mm) ⊕ (Int64 × Mm)) :=
  mX8_cut_B73 K R r σ.1 σ.2.1 σ.2.2.1 σ.2.2.2.1 σ.2.2.2.2
noncomputable def mX8_cut_J36 (K : Kk) (R : Rr) (M2 : Mm) (r : Nat) (a0 : Int32) (a1 : Int32) (a2 : Int32) (a3 : Int32) : Option (Int64 × Mm) :=
  nm (pL M2 r 25 (a0.toInt64)) fun M3 => nm (pL M3 r 26 (a1.toInt64)) fun M4 => nm (pL M4 r 27 (a2.toInt64)) fun M5 => nm (pL M5 r 28 (a3.toInt64)) fun M6 => nm (0 : Int32) fun i7 => nm (0 : Int32) fun i8 => nm (1 : Int32) fun i9 => nm (0 : Int32) fun i10 => lp (mX8_cut_L73 K R r) (i7, i8, i9, i10, M6)
noncomputable def mX8_cut (K : Kk) (R : Rr) (M : Mm) (r : Nat) (a0 : Int32) (a1 : Int32) (a2 : Int32) (a3 : Int32) : Option (Int64 × Mm) :=
  ck (isO K r 8) <| bd (mX8_isPlace K R M (a0.toInt64) (a1.toInt64)) fun i69 => if i69 = 0 then some ((-9000000000000000001), M) else bd (mX8_isPlace K R M (a2.toInt64) (a3.toInt64)) fun i71 => if i71 = 0 then some ((-9000000000000000001), M) else if a0 = a2 then if a1 = a3 then some ((-9000000000000000001), M) else mX8_cut_J36 K R M r a0 a1 a2 a3 else mX8_cut_J36 K R M r a0 a1 a2 a3
noncomputable def mX8_part_J45 (K : Kk) (R : Rr) (M3 : Mm) (r : Nat) (a0 : Int32) (a1 : Int32) (a2 : Int32) (a3 : Int32) (a4 : Int32) (s2 : Int32) : Option (Int64 × Mm) :=
  bd (mX8_isPiece K R M3 r a0) fun i4 => if i4 = 0 then some ((-9000000000000000001), M3) else bd (mX8_isPlace K R M3 (a1.toInt64) (a2.toInt64)) fun i6 => if i6 = 0 then some ((-9000000000000000001), M3) else if s2 = 0 then some ((-9000000000000000001), M3) else nm (pL M3 r 25 (a1.toInt64)) fun M9 => nm (pL M9 r 26 (a2.toInt64)) fun M10 => nm (pL M10 r 27 ((a1 + a3).toInt64)) fun M11 => nm (pL M11 r 28 ((a2 + a4).toInt64)) fun M12 => bd2 (mX8_crosses K R M12 r a0) fun i13 M14 => if i13 = 0 then some ((-9000000000000000002), M14) else bd (mX8_pieces K R M14 r) fun i16 => if i16 = 40 then some ((-9000000000000000003), M14) else bd (mX8_isLarge K R M14 r) fun i18 => if i18 = 0 then bd (mX8_isWhole K R M14 r) fun i20 => if i20 = 0 then some ((-9000000000000000004), M14) else bd (mX8_keep K R M14 r) fun M22 => bd (mX8_cutOne K R M22 r a0) fun M23 => bd (mX8_pieces K R M23 r) fun i24 => some ((i24 - 1).toInt64, M23) else some ((-9000000000000000003), M14)
noncomputable def mX8_part_J44 (K : Kk) (R : Rr) (M25 : Mm) (r : Nat) (a0 : Int32) (a1 : Int32) (a2 : Int32) (a3 : Int32) (a4 : Int32) : Option (Int64 × Mm) :=
  mX8_part_J45 K R M25 r a0 a1 a2 a3 a4 (0)
noncomputable def mX8_part_J40 (K : Kk) (R : Rr) (M26 : Mm) (r : Nat) (a0 : Int32) (a1 : Int32) (a2 : Int32) (a3 : Int32) (a4 : Int32) : Option (Int64 × Mm) :=
  mX8_part_J45 K R M26 r a0 a1 a2 a3 a4 (1)
noncomputable def mX8_part (K : Kk) (R : Rr) (M : Mm) (r : Nat) (a0 : Int32) (a1 : Int32) (a2 : Int32) (a3 : Int32) (a4 : Int32) : Option (Int64 × Mm) :=
  ck (isO K r 8) <| bd (mX8_isIn K R M (a3.toInt64) ((-1000)) 1000) fun i27 => if i27 = 0 then mX8_part_J44 K R M r a0 a1 a2 a3 a4 else bd (mX8_isIn K R M (a4.toInt64) ((-1000)) 1000) fun i29 => if i29 = 0 then mX8_part_J44 K R M r a0 a1 a2 a3 a4 else if a3 = 0 then if a4 = 0 then mX8_part_J44 K R M r a0 a1 a2 a3 a4 else mX8_part_J40 K R M r a0 a1 a2 a3 a4 else mX8_part_J40 K R M r a0 a1 a2 a3 a4
noncomputable def mX8_fits_J64 (K : Kk) (R : Rr) (M : Mm) (r : Nat) (a0 : Int32) (a1 : Int64) (a2 : Int64) (a3 : Int64) (i6 : Int32) (s7 : Int32) : Option ((Int32 × Int32) ⊕ (Int32)) :=
  nm (i6 + 1 : Int32) fun i8 => some (.inl (s7, i8))
noncomputable def mX8_fits_J63 (K : Kk) (R : Rr) (M : Mm) (r : Nat) (a0 : Int32) (a1 : Int64) (a2 : Int64) (a3 : Int64) (i9 : Int32) : Option ((Int32 × Int32) ⊕ (Int32)) :=
  mX8_fits_J64 K R M r a0 a1 a2 a3 i9 (0)
noncomputable def mX8_fits_B6 (K : Kk) (R : Rr) (M : Mm) (r : Nat) (a0 : Int32) (a1 : Int64) (a2 : Int64) (a3 : Int64) (i4 : Int32) (i5 : Int32) : Option ((Int32 × Int32) ⊕ (Int32)) :=
  bd (mX8_size K R M r a0) fun i10 => if i5 < i10 then if i4 = 0 then mX8_fits_J63 K R M r a0 a1 a2 a3 i5 else bd (mX8_get K R M r a0 (1 + (2 * i5))) fun l14 => bd (mX8_get K R M r a0 (2 + (2 * i5))) fun l15 => bd (mX8_isPlace K R M ((a1 * l14) + a2) ((a1 * l15) + a3)) fun i16 => if i16 = 0 then mX8_fits_J63 K R M r a0 a1 a2 a3 i5 else mX8_fits_J64 K R M r a0 a1 a2 a3 i5 (1) else ex (ck (isB i4) <| some (i4))
noncomputable def mX8_fits_L6 (K : Kk) (R : Rr) (M : Mm) (r : Nat) (a0 : Int32) (a1 : Int64) (a2 : Int64) (a3 : Int64) (σ : (Int32 × Int32)) : Option ((Int32 × Int32) ⊕ (Int32)) :=
  mX8_fits_B6 K R M r a0 a1 a2 a3 σ.1 σ.2
noncomputable def mX8_fits (K : Kk) (R : Rr) (M : Mm) (r : Nat) (a0 : Int32) (a1 : Int64) (a2 : Int64) (a3 : Int64) : Option (Int32) :=
  ck (isO K r 8) <| nm (1 : Int32) fun i2 => nm (0 : Int32) fun i3 => lp (mX8_fits_L6 K R M r a0 a1 a2 a3) (i2, i3)
noncomputable def mX8_moved (K : Kk) (R : Rr) (M : Mm) (r : Nat) (a0 : Int32) (a1 : Int64) (a2 : Int64) (a3 : Int64) : Option (Int64 × Mm) :=
  ck (isO K r 8) <| bd (mX8_fits K R M r a0 a1 a2 a3) fun i2 => if i2 = 0 then some ((-9000000000000000001), M) else bd (mX8_keep K R M r) fun M4 => bd (mX8_move K R M4 r a0 a1 a2 a3) fun M5 => some (0, M5)
noncomputable def mX8_slide (K : Kk) (R : Rr) (M : Mm) (r : Nat) (a0 : Int32) (a1 : Int32) (a2 : Int32) : Option (Int64 × Mm) :=
  ck (isO K r 8) <| bd (mX8_isPiece K R M r a0) fun i2 => if i2 = 0 then some ((-9000000000000000001), M) else bd (mX8_isIn K R M (a1.toInt64) ((-200000)) 200000) fun i4 => if i4 = 0 then some ((-9000000000000000001), M) else bd (mX8_isIn K R M (a2.toInt64) ((-200000)) 200000) fun i6 => if i6 = 0 then some ((-9000000000000000001), M) else bd (mX8_get K R M r a0 33) fun l8 => bd (mX8_get K R M r a0 34) fun l9 => bd (mX8_get K R M r a0 35) fun l10 => bd2 (mX8_moved K R M r a0 l8 (l9 + (a1.toInt64)) (l10 + (a2.toInt64))) fun l11 M12 => some (l11, M12)
noncomputable def mX8_half (K : Kk) (R : Rr) (M : Mm) (r : Nat) (a0 : Int32) (a1 : Int32) (a2 : Int32) : Option (Int64 × Mm) :=
  ck (isO K r 8) <| bd (mX8_isPiece K R M r a0) fun i2 => if i2 = 0 then some ((-9000000000000000001), M) else bd (mX8_isIn K R M (a1.toInt64) ((-200000)) 200000) fun i4 => if i4 = 0 then some ((-9000000000000000001), M) else bd (mX8_isIn K R M (a2.toInt64) ((-200000)) 200000) fun i6 => if i6 = 0 then some ((-9000000000000000001), M) else bd (mX8_get K R M r a0 33) fun l8 => bd (mX8_get K R M r a0 34) fun l9 => bd (mX8_get K R M r a0 35) fun l10 => bd2 (mX8_moved K R M r a0 (-l8) ((a1.toInt64) - l9) ((a2.toInt64) - l10)) fun l11 M12 => some (l11, M12)
noncomputable def mX8_commonSide_J107 (K : Kk) (R : Rr) (M : Mm) (r : Nat) (i3 : Int32) (i6 : Int32) (i9 : Int32) : Option ((Int32) ⊕ ((Int32) ⊕ (Int32))) :=
  nm (i9 + 1 : Int32) fun i10 => some (.inl (i10))
noncomputable def mX8_commonSide_B21 (K : Kk) (R : Rr) (M : Mm) (r : Nat) (i3 : Int32) (i6 : Int32) (i8 : Int32) : Option ((Int32) ⊕ ((Int32) ⊕ (Int32))) :=
  if i8 < (M.1 r 18) then ck (¬ (M.1 r 18) = 0) <| nm ((i8 + 1) - (i8 + 1) / (M.1 r 18) * (M.1 r 18) : Int32) fun i14 => bd (R r 13) fun q15 => ck (ixA K q15 1 i3) <| bd (R r 16) fun q17 => ck (ixA K q17 1 i14) <| if (M.2 q15 i3.toNatClampNeg) = (M.2 q17 i14.toNatClampNeg) then bd (R r 14) fun q20 => ck (ixA K q20 1 i3) <| bd (R r 17) fun q22 => ck (ixA K q22 1 i14) <| if (M.2 q20 i3.toNatClampNeg) = (M.2 q22 i14.toNatClampNeg) then ck (ixA K q15 1 i6) <| ck (ixA K q17 1 i8) <| if (M.2 q15 i6.toNatClampNeg) = (M.2 q17 i8.toNatClampNeg) then ck (ixA K q20 1 i6) <| ck (ixA K q22 1 i8) <| if (M.2 q20 i6.toNatClampNeg) = (M.2 q22 i8.toNatClampNeg) then ex (ex (some (i3))) else mX8_commonSide_J107 K R M r i3 i6 i8 else mX8_commonSide_J107 K R M r i3 i6 i8 else mX8_commonSide_J107 K R M r i3 i6 i8 else mX8_commonSide_J107 K R M r i3 i6 i8 else ex (nm (i3 + 1 : Int32) fun i12 => some (.inl (i12)))
noncomputable def mX8_commonSide_L21 (K : Kk) (R : Rr) (M : Mm) (r : Nat) (i3 : Int32) (i6 : Int32) (σ : (Int32)) : Option ((Int32) ⊕ ((Int32) ⊕ (Int32))) :=
  mX8_commonSide_B21 K R M r i3 i6 σ
noncomputable def mX8_commonSide_B2 (K : Kk) (R : Rr) (M : Mm) (r : Nat) (i3 : Int32) : Option ((Int32) ⊕ (Int32)) :=
  if i3 < (M.1 r 15) then ck (¬ (M.1 r 15) = 0) <| nm ((i3 + 1) - (i3 + 1) / (M.1 r 15) * (M.1 r 15) : Int32) fun i6 => nm (0 : Int32) fun i7 => lp (mX8_commonSide_L21 K R M r i3 i6) (i7) else ex (some ((-1)))
noncomputable def mX8_commonSide_L2 (K : Kk) (R : Rr) (M : Mm) (r : Nat) (σ : (Int32)) : Option ((Int32) ⊕ (Int32)) :=
  mX8_commonSide_B2 K R M r σ
noncomputable def mX8_commonSide (K : Kk) (R : Rr) (M : Mm) (r : Nat) : Option (Int32) :=
  ck (isO K r 8) <| nm (0 : Int32) fun i2 => lp (mX8_commonSide_L2 K R M r) (i2)
noncomputable def mX8_together_J109 (K : Kk) (R : Rr) (M5 : Mm) (r : Nat) (a0 : Int32) (i9 : Int32) : Option ((Int32) ⊕ (Mm)) :=
  nm (i9 + 1 : Int32) fun i10 => some (.inl (i10))
noncomputable def mX8_together_B117 (K : Kk) (R : Rr) (r : Nat) (i8 : Int32) (i22 : Int32) (M23 : Mm) : Option ((Int32 × Mm) ⊕ (Mm)) :=
  if i22 < ((M23.1 r 18) - 1) then bd (R r 29) fun q25 => bd (R r 16) fun q26 => ck (¬ (M23.1 r 18) = 0) <| ck (ixA K q26 1 ((i8 + i22) - (i8 + i22) / (M23.1 r 18) * (M23.1 r 18))) <| ck (ixA K q25 1 (M23.1 r 31)) <| nm (pL M23 q25 (M23.1 r 31).toNatClampNeg (M23.2 q26 ((i8 + i22) - (i8 + i22) / (M23.1 r 18) * (M23.1 r 18)).toNatClampNeg)) fun M30 => bd (R r 30) fun q31 => bd (R r 17) fun q32 => ck (¬ (M30.1 r 18) = 0) <| ck (ixA K q32 1 ((i8 + i22) - (i8 + i22) / (M30.1 r 18) * (M30.1 r 18))) <| ck (ixA K q31 1 (M30.1 r 31)) <| nm (pL M30 q31 (M30.1 r 31).toNatClampNeg (M30.2 q32 ((i8 + i22) - (i8 + i22) / (M30.1 r 18) * (M30.1 r 18)).toNatClampNeg)) fun M36 => nm (pI M36 r 31 ((M36.1 r 31) + 1)) fun M37 => nm (i22 + 1 : Int32) fun i38 => some (.inl (i38, M37)) else ex (some (M23))
noncomputable def mX8_together_L117 (K : Kk) (R : Rr) (r : Nat) (i8 : Int32) (σ : (Int32 × Mm)) : Option ((Int32 × Mm) ⊕ (Mm)) :=
  mX8_together_B117 K R r i8 σ.1 σ.2
noncomputable def mX8_together_B77 (K : Kk) (R : Rr) (M5 : Mm) (r : Nat) (a0 : Int32) (i8 : Int32) : Option ((Int32) ⊕ (Mm)) :=
  bd (R r 16) fun q11 => ck (ixA K q11 1 i8) <| bd (R r 13) fun q13 => ck (ixA K q13 1 a0) <| if (M5.2 q11 i8.toNatClampNeg) = (M5.2 q13 a0.toNatClampNeg) then bd (R r 17) fun q16 => ck (ixA K q16 1 i8) <| bd (R r 14) fun q18 => ck (ixA K q18 1 a0) <| if (M5.2 q16 i8.toNatClampNeg) = (M5.2 q18 a0.toNatClampNeg) then ex (nm (1 : Int32) fun i21 => lp (mX8_together_L117 K R r i8) (i21, M5)) else mX8_together_J109 K R M5 r a0 i8 else mX8_together_J109 K R M5 r a0 i8
noncomputable def mX8_together_L77 (K : Kk) (R : Rr) (M5 : Mm) (r : Nat) (a0 : Int32) (σ : (Int32)) : Option ((Int32) ⊕ (Mm)) :=
  mX8_together_B77 K R M5 r a0 σ
noncomputable def mX8_together_B7 (K : Kk) (R : Rr) (r : Nat) (a0 : Int32) (i4 : Int32) (M5 : Mm) : Option ((Int32 × Mm) ⊕ (Mm)) :=
  if i4 ≤ (M5.1 r 15) then bd (R r 29) fun q39 => bd (R r 13) fun q40 => ck (¬ (M5.1 r 15) = 0) <| ck (ixA K q40 1 ((a0 + i4) - (a0 + i4) / (M5.1 r 15) * (M5.1 r 15))) <| ck (ixA K q39 1 (M5.1 r 31)) <| nm (pL M5 q39 (M5.1 r 31).toNatClampNeg (M5.2 q40 ((a0 + i4) - (a0 + i4) / (M5.1 r 15) * (M5.1 r 15)).toNatClampNeg)) fun M44 => bd (R r 30) fun q45 => bd (R r 14) fun q46 => ck (¬ (M44.1 r 15) = 0) <| ck (ixA K q46 1 ((a0 + i4) - (a0 + i4) / (M44.1 r 15) * (M44.1 r 15))) <| ck (ixA K q45 1 (M44.1 r 31)) <| nm (pL M44 q45 (M44.1 r 31).toNatClampNeg (M44.2 q46 ((a0 + i4) - (a0 + i4) / (M44.1 r 15) * (M44.1 r 15)).toNatClampNeg)) fun M50 => nm (pI M50 r 31 ((M50.1 r 31) + 1)) fun M51 => nm (i4 + 1 : Int32) fun i52 => some (.inl (i52, M51)) else ex (nm (0 : Int32) fun i7 => lp (mX8_together_L77 K R M5 r a0) (i7))
noncomputable def mX8_together_L7 (K : Kk) (R : Rr) (r : Nat) (a0 : Int32) (σ : (Int32 × Mm)) : Option ((Int32 × Mm) ⊕ (Mm)) :=
  mX8_together_B7 K R r a0 σ.1 σ.2
noncomputable def mX8_together (K : Kk) (R : Rr) (M : Mm) (r : Nat) (a0 : Int32) : Option (Mm) :=
  ck (isO K r 8) <| nm (pI M r 31 0) fun M2 => nm (1 : Int32) fun i3 => lp (mX8_together_L7 K R r a0) (i3, M2)
noncomputable def mX8_isOutward_J86 (K : Kk) (R : Rr) (M : Mm) (r : Nat) (i6 : Int32) (s7 : Int32) : Option ((Int32 × Int32) ⊕ (Int32)) :=
  nm (i6 + 1 : Int32) fun i8 => some (.inl (s7, i8))
noncomputable def mX8_isOutward_J85 (K : Kk) (R : Rr) (M : Mm) (r : Nat) (i9 : Int32) : Option ((Int32 × Int32) ⊕ (Int32)) :=
  mX8_isOutward_J86 K R M r i9 (0)
noncomputable def mX8_isOutward_B4 (K : Kk) (R : Rr) (M : Mm) (r : Nat) (i4 : Int32) (i5 : Int32) : Option ((Int32 × Int32) ⊕ (Int32)) :=
  if i5 < (M.1 r 31) then ck (¬ (M.1 r 31) = 0) <| nm ((i5 + 1) - (i5 + 1) / (M.1 r 31) * (M.1 r 31) : Int32) fun i13 => nm ((i5 + 2) - (i5 + 2) / (M.1 r 31) * (M.1 r 31) : Int32) fun i14 => if i4 = 0 then mX8_isOutward_J85 K R M r i5 else bd (R r 29) fun q16 => ck (ixA K q16 1 i5) <| bd (R r 30) fun q18 => ck (ixA K q18 1 i5) <| ck (ixA K q16 1 i13) <| ck (ixA K q18 1 i13) <| ck (ixA K q16 1 i14) <| ck (ixA K q18 1 i14) <| bd (mX8_side K R M (M.2 q16 i5.toNatClampNeg) (M.2 q18 i5.toNatClampNeg) (M.2 q16 i13.toNatClampNeg) (M.2 q18 i13.toNatClampNeg) (M.2 q16 i14.toNatClampNeg) (M.2 q18 i14.toNatClampNeg)) fun l24 => if l24 < 0 then mX8_isOutward_J85 K R M r i5 else mX8_isOutward_J86 K R M r i5 (1) else ex (ck (isB i4) <| some (i4))
noncomputable def mX8_isOutward_L4 (K : Kk) (R : Rr) (M : Mm) (r : Nat) (σ : (Int32 × Int32)) : Option ((Int32 × Int32) ⊕ (Int32)) :=
  mX8_isOutward_B4 K R M r σ.1 σ.2
noncomputable def mX8_isOutward (K : Kk) (R : Rr) (M : Mm) (r : Nat) : Option (Int32) :=
  ck (isO K r 8) <| nm (1 : Int32) fun i2 => nm (0 : Int32) fun i3 => lp (mX8_isOutward_L4 K R M r) (i2, i3)
noncomputable def mX8_dropPiece_B5 (K : Kk) (R : Rr) (r : Nat) (i3 : Int32) (M4 : Mm) : Option ((Int32 × Mm) ⊕ (Mm)) :=
  bd (mX8_pieces K R M4 r) fun i5 => if i3 < (37 * (i5 - 1)) then bd (R r 0) fun q10 => ck (ixA K q10 1 (i3 + 37)) <| ck (ixA K q10 1 i3) <| nm (pL M4 q10 i3.toNatClampNeg (M4.2 q10 (i3 + 37).toNatClampNeg)) fun M13 => nm (i3 + 1 : Int32) fun i14 => some (.inl (i14, M13)) else ex (bd (R r 0) fun q7 => ck (ixA K q7 1 1480) <| nm (pL M4 q7 1480 ((M4.2 q7 1480) - 1)) fun M9 => some (M9))
noncomputable def mX8_dropPiece_L5 (K : Kk) (R : Rr) (r : Nat) (σ : (Int32 × Mm)) : Option ((Int32 × Mm) ⊕ (Mm)) :=
  mX8_dropPiece_B5 K R r σ.1 σ.2
noncomputable def mX8_dropPiece (K : Kk) (R : Rr) (M : Mm) (r : Nat) (a0 : Int32) : Option (Mm) :=
  ck (isO K r 8) <| nm (37 * a0 : Int32) fun i2 => lp (mX8_dropPiece_L5 K R r) (i2, M)
noncomputable def mX8_join_B129 (K : Kk) (R : Rr) (r : Nat) (a0 : Int32) (a1 : Int32) (i25 : Int32) (M26 : Mm) : Option ((Int32 × Mm) ⊕ (Int64 × Mm)) :=
  if i25 < (M26.1 r 31) then bd (R r 29) fun q40 => ck (ixA K q40 1 i25) <| bd (R r 30) fun q42 => ck (ixA K q42 1 i25) <| bd (mX8_point K R M26 r (M26.2 q40 i25.toNatClampNeg) (M26.2 q42 i25.toNatClampNeg)) fun M44 => nm (i25 + 1 : Int32) fun i45 => some (.inl (i45, M44)) else ex (bd (mX8_outermost K R M26 r) fun M28 => if (M28.1 r 24) ≤ 16 then bd (mX8_keep K R M28 r) fun M30 => bd (mX8_get K R M30 r a0 33) fun l31 => bd (mX8_get K R M30 r a0 34) fun l32 => bd (mX8_get K R M30 r a0 35) fun l33 => bd (mX8_originOf K R M30 r a0 l31 l32 l33) fun M34 => bd (R r 0) fun q35 => ck (ixA K q35 1 ((37 * a0) + 36)) <| nm (pL M34 q35 ((37 * a0) + 36).toNatClampNeg 0) fun M37 => nm ((M37.1 r 24).toInt64 : Int64) fun l38 => bd (mX8_dropPiece K R M37 r a1) fun M39 => some (l38, M39) else some ((-9000000000000000003), M28))
noncomputable def mX8_join_L129 (K : Kk) (R : Rr) (r : Nat) (a0 : Int32) (a1 : Int32) (σ : (Int32 × Mm)) : Option ((Int32 × Mm) ⊕ (Int64 × Mm)) :=
  mX8_join_B129 K R r a0 a1 σ.1 σ.2
noncomputable def mX8_join (K : Kk) (R : Rr) (M : Mm) (r : Nat) (a0 : Int32) (a1 : Int32) : Option (Int64 × Mm) :=
  ck (isO K r 8) <| bd (mX8_isPiece K R M r a0) fun i2 => if i2 = 0 then some ((-9000000000000000001), M) else bd (mX8_isPiece K R M r a1) fun i4 => if i4 = 0 then some ((-9000000000000000001), M) else if a0 = a1 then some ((-9000000000000000001), M) else bd (mX8_get K R M r a0 33) fun l7 => bd (mX8_get K R M r a1 33) fun l8 => if l7 = l8 then bd (mX8_get K R M r a0 34) fun l10 => bd (mX8_get K R M r a1 34) fun l11 => if l10 = l11 then bd (mX8_get K R M r a0 35) fun l13 => bd (mX8_get K R M r a1 35) fun l14 => if l13 = l14 then bd (mX8_lookB K R M r a1) fun M16 => bd (mX8_lookA K R M16 r a0) fun M17 => bd (mX8_commonSide K R M17 r) fun i18 => if i18 < 0 then some ((-9000000000000000002), M17) else bd (mX8_together K R M17 r i18) fun M20 => bd (mX8_isOutward K R M20 r) fun i21 => if i21 = 0 then some ((-9000000000000000002), M20) else bd (mX8_beginPoints K R M20 r) fun M23 => nm (0 : Int32) fun i24 => lp (mX8_join_L129 K R r a0 a1) (i24, M23) else some ((-9000000000000000002), M) else some ((-9000000000000000002), M) else some ((-9000000000000000002), M)
noncomputable def mX8_aside_J40 (K : Kk) (R : Rr) (M2 : Mm) (r : Nat) (a0 : Int32) (a1 : Int32) : Option (Int64 × Mm) :=
  bd (mX8_keep K R M2 r) fun M3 => bd (mX8_get K R M3 r a0 36) fun l4 => bd (R r 0) fun q5 => ck (ixA K q5 1 ((37 * a0) + 36)) <| nm (pL M3 q5 ((37 * a0) + 36).toNatClampNeg (a1.toInt64)) fun M7 => some (l4, M7)
noncomputable def mX8_aside (K : Kk) (R : Rr) (M : Mm) (r : Nat) (a0 : Int32) (a1 : Int32) : Option (Int64 × Mm) :=
  ck (isO K r 8) <| bd (mX8_isPiece K R M r a0) fun i8 => if i8 = 0 then some ((-9000000000000000001), M) else bd (mX8_isIn K R M (a1.toInt64) 0 1) fun i10 => if i10 = 0 then some ((-9000000000000000001), M) else if a1 = 1 then bd (mX8_size K R M r a0) fun i13 => if i13 = 3 then mX8_aside_J40 K R M r a0 a1 else some ((-9000000000000000002), M) else mX8_aside_J40 K R M r a0 a1
noncomputable def mX8_back_J58 (K : Kk) (R : Rr) (M11 : Mm) (r : Nat) (i8 : Int32) (s9 : Int32) (s10 : Int32) : Option ((Int32 × Int32 × Mm) ⊕ (Int64 × Mm)) :=
  nm (s9 + s10 : Int32) fun i12 => bd (mX8_move K R M11 r i8 1 0 0) fun M13 => nm (i8 + 1 : Int32) fun i14 => some (.inl (i12, i14, M13))
noncomputable def mX8_back_J53 (K : Kk) (R : Rr) (M17 : Mm) (r : Nat) (i15 : Int32) (s16 : Int32) : Option ((Int32 × Int32 × Mm) ⊕ (Int64 × Mm)) :=
  mX8_back_J58 K R M17 r i15 (s16) (1)
noncomputable def mX8_back_B8 (K : Kk) (R : Rr) (r : Nat) (i5 : Int32) (i6 : Int32) (M7 : Mm) : Option ((Int32 × Int32 × Mm) ⊕ (Int64 × Mm)) :=
  bd (mX8_pieces K R M7 r) fun i18 => if i6 < i18 then bd (mX8_get K R M7 r i6 33) fun l20 => if l20 = 1 then bd (mX8_get K R M7 r i6 34) fun l22 => if l22 = 0 then bd (mX8_get K R M7 r i6 35) fun l24 => if l24 = 0 then mX8_back_J58 K R M7 r i6 (i5) (0) else mX8_back_J53 K R M7 r i6 (i5) else mX8_back_J53 K R M7 r i6 (i5) else mX8_back_J53 K R M7 r i6 (i5) else ex (some (i5.toInt64, M7))
noncomputable def mX8_back_L8 (K : Kk) (R : Rr) (r : Nat) (σ : (Int32 × Int32 × Mm)) : Option ((Int32 × Int32 × Mm) ⊕ (Int64 × Mm)) :=
  mX8_back_B8 K R r σ.1 σ.2.1 σ.2.2
noncomputable def mX8_back (K : Kk) (R : Rr) (M : Mm) (r : Nat) : Option (Int64 × Mm) :=
  ck (isO K r 8) <| bd (mX8_keep K R M r) fun M2 => nm (0 : Int32) fun i3 => nm (0 : Int32) fun i4 => lp (mX8_back_L8 K R r) (i3, i4, M2)
noncomputable def mX8_isSlab (K : Kk) (R : Rr) (M : Mm) (r : Nat) : Option (Int32) :=
  ck (isO K r 8) <| if (M.1 r 15) = 4 then bd (R r 13) fun q3 => ck (ixA K q3 1 0) <| ck (ixA K q3 1 2) <| ck (ixA K q3 1 1) <| ck (ixA K q3 1 3) <| if ((M.2 q3 0) + (M.2 q3 2)) = ((M.2 q3 1) + (M.2 q3 3)) then bd (R r 14) fun q9 => ck (ixA K q9 1 0) <| ck (ixA K q9 1 2) <| ck (ixA K q9 1 1) <| ck (ixA K q9 1 3) <| if ((M.2 q9 0) + (M.2 q9 2)) = ((M.2 q9 1) + (M.2 q9 3)) then some (1) else some (0) else some (0) else some (0)
noncomputable def mX8_isUpright_J62 (K : Kk) (R : Rr) (M : Mm) (r : Nat) (i6 : Int32) (s7 : Int32) : Option ((Int32 × Int32) ⊕ (Int32)) :=
  nm (i6 + 1 : Int32) fun i8 => some (.inl (s7, i8))
noncomputable def mX8_isUpright_J61 (K : Kk) (R : Rr) (M : Mm) (r : Nat) (i9 : Int32) : Option ((Int32 × Int32) ⊕ (Int32)) :=
  mX8_isUpright_J62 K R M r i9 (0)
noncomputable def mX8_isUpright_J57 (K : Kk) (R : Rr) (M : Mm) (r : Nat) (i10 : Int32) : Option ((Int32 × Int32) ⊕ (Int32)) :=
  mX8_isUpright_J62 K R M r i10 (1)
noncomputable def mX8_isUpright_B4 (K : Kk) (R : Rr) (M : Mm) (r : Nat) (i4 : Int32) (i5 : Int32) : Option ((Int32 × Int32) ⊕ (Int32)) :=
  if i5 < (M.1 r 15) then ck (¬ (M.1 r 15) = 0) <| nm ((i5 + 1) - (i5 + 1) / (M.1 r 15) * (M.1 r 15) : Int32) fun i14 => if i4 = 0 then mX8_isUpright_J61 K R M r i5 else bd (R r 13) fun q16 => ck (ixA K q16 1 i5) <| ck (ixA K q16 1 i14) <| if (M.2 q16 i5.toNatClampNeg) = (M.2 q16 i14.toNatClampNeg) then mX8_isUpright_J57 K R M r i5 else bd (R r 14) fun q20 => ck (ixA K q20 1 i5) <| ck (ixA K q20 1 i14) <| if (M.2 q20 i5.toNatClampNeg) = (M.2 q20 i14.toNatClampNeg) then mX8_isUpright_J57 K R M r i5 else mX8_isUpright_J61 K R M r i5 else ex (ck (isB i4) <| some (i4))
noncomputable def mX8_isUpright_L4 (K : Kk) (R : Rr) (M : Mm) (r : Nat) (σ : (Int32 × Int32)) : Option ((Int32 × Int32) ⊕ (Int32)) :=
  mX8_isUpright_B4 K R M r σ.1 σ.2
noncomputable def mX8_isUpright (K : Kk) (R : Rr) (M : Mm) (r : Nat) : Option (Int32) :=
  ck (isO K r 8) <| nm (1 : Int32) fun i2 => nm (0 : Int32) fun i3 => lp (mX8_isUpright_L4 K R M r) (i2, i3)
noncomputable def mX8_isOf_J111 (K : Kk) (R : Rr) (M3 : Mm) (s2 : Int32) : Option (Int64 × Mm) :=
  if s2 = 0 then some (0, M3) else some (1, M3)
noncomputable def mX8_isOf_J110 (K : Kk) (R : Rr) (M5 : Mm) : Option (Int64 × Mm) :=
  mX8_isOf_J111 K R M5 (0)
noncomputable def mX8_isOf_J106 (K : Kk) (R : Rr) (M6 : Mm) : Option (Int64 × Mm) :=
  mX8_isOf_J111 K R M6 (1)
noncomputable def mX8_isOf (K : Kk) (R : Rr) (M : Mm) (r : Nat) (a0 : Int32) (a1 : Int32) : Option (Int64 × Mm) :=
  ck (isO K r 8) <| bd (mX8_isPiece K R M r a0) fun i7 => if i7 = 0 then some ((-9000000000000000001), M) else bd (mX8_isIn K R M (a1.toInt64) 0 4) fun i9 => if i9 = 0 then some ((-9000000000000000001), M) else bd (mX8_lookA K R M r a0) fun M11 => if a1 = 0 then mX8_isOf_J106 K R M11  else if a1 = 1 then if (M11.1 r 15) = 3 then mX8_isOf_J106 K R M11  else mX8_isOf_J110 K R M11  else if a1 = 2 then bd (mX8_isSlab K R M11 r) fun i23 => if i23 = 0 then mX8_isOf_J110 K R M11  else mX8_isOf_J106 K R M11  else if a1 = 3 then bd (mX8_isSlab K R M11 r) fun i19 => if i19 = 0 then mX8_isOf_J110 K R M11  else bd (mX8_isUpright K R M11 r) fun i21 => if i21 = 0 then mX8_isOf_J110 K R M11  else mX8_isOf_J106 K R M11  else if (M11.1 r 15) = 3 then bd (mX8_get K R M11 r a0 36) fun l17 => if l17 = 1 then mX8_isOf_J106 K R M11  else mX8_isOf_J110 K R M11  else mX8_isOf_J110 K R M11 
noncomputable def mX8_areaOf_B10 (K : Kk) (R : Rr) (M2 : Mm) (r : Nat) (l5 : Int64) (i6 : Int32) : Option ((Int64 × Int32) ⊕ (Int64 × Mm)) :=
  if i6 < (M2.1 r 15) then ck (¬ (M2.1 r 15) = 0) <| nm ((i6 + 1) - (i6 + 1) / (M2.1 r 15) * (M2.1 r 15) : Int32) fun i9 => bd (R r 13) fun q10 => ck (ixA K q10 1 i6) <| bd (R r 14) fun q12 => ck (ixA K q12 1 i9) <| ck (ixA K q10 1 i9) <| ck (ixA K q12 1 i6) <| nm (l5 + (((M2.2 q10 i6.toNatClampNeg) * (M2.2 q12 i9.toNatClampNeg)) - ((M2.2 q10 i9.toNatClampNeg) * (M2.2 q12 i6.toNatClampNeg))) : Int64) fun l16 => nm (i6 + 1 : Int32) fun i17 => some (.inl (l16, i17)) else ex (some (l5, M2))
noncomputable def mX8_areaOf_L10 (K : Kk) (R : Rr) (M2 : Mm) (r : Nat) (σ : (Int64 × Int32)) : Option ((Int64 × Int32) ⊕ (Int64 × Mm)) :=
  mX8_areaOf_B10 K R M2 r σ.1 σ.2
noncomputable def mX8_areaOf (K : Kk) (R : Rr) (M : Mm) (r : Nat) (a0 : Int32) : Option (Int64 × Mm) :=
  ck (isO K r 8) <| bd (mX8_lookA K R M r a0) fun M2 => nm (0 : Int64) fun l3 => nm (0 : Int32) fun i4 => lp (mX8_areaOf_L10 K R M2 r) (l3, i4)
noncomputable def mX8_about (K : Kk) (R : Rr) (M : Mm) (r : Nat) (a0 : Int32) (a1 : Int32) : Option (Int64 × Mm) :=
  ck (isO K r 8) <| bd (mX8_isPiece K R M r a0) fun i2 => if i2 = 0 then some ((-9000000000000000001), M) else bd (mX8_isIn K R M (a1.toInt64) 0 5) fun i4 => if i4 = 0 then some ((-9000000000000000001), M) else if a1 = 0 then bd (mX8_size K R M r a0) fun i17 => some (i17.toInt64, M) else if a1 = 1 then bd2 (mX8_areaOf K R M r a0) fun l15 M16 => some (l15, M16) else if a1 = 2 then bd (mX8_get K R M r a0 33) fun l14 => some (l14, M) else if a1 = 3 then bd (mX8_get K R M r a0 34) fun l13 => some (l13, M) else if a1 = 4 then bd (mX8_get K R M r a0 35) fun l12 => some (l12, M) else bd (mX8_get K R M r a0 36) fun l11 => some (l11, M)
noncomputable def mX8_at (K : Kk) (R : Rr) (M : Mm) (r : Nat) (a0 : Int32) (a1 : Int32) (a2 : Int32) : Option (Int64 × Mm) :=
  ck (isO K r 8) <| bd (mX8_isPiece K R M r a0) fun i2 => if i2 = 0 then some ((-9000000000000000001), M) else if a1 < 0 then some ((-9000000000000000001), M) else bd (mX8_isIn K R M (a2.toInt64) 0 3) fun i5 => if i5 = 0 then some ((-9000000000000000001), M) else bd (mX8_size K R M r a0) fun i7 => if a1 < i7 then if a2 ≤ 1 then bd (mX8_lookA K R M r a0) fun M10 => if a2 = 0 then bd (R r 13) fun q14 => ck (ixA K q14 1 a1) <| some (M10.2 q14 a1.toNatClampNeg, M10) else bd (R r 14) fun q12 => ck (ixA K q12 1 a1) <| some (M10.2 q12 a1.toNatClampNeg, M10) else bd (mX8_get K R M r a0 ((a2 - 1) + (2 * a1))) fun l16 => some (l16, M) else some ((-9000000000000000005), M)
noncomputable def mX8_parts_J88 (K : Kk) (R : Rr) (M : Mm) (r : Nat) (i3 : Int32) (i6 : Int32) (i11 : Int32) (s12 : Int32) : Option ((Int32 × Int32) ⊕ ((Int32) ⊕ (Int32))) :=
  nm (i11 + 1 : Int32) fun i13 => some (.inl (s12, i13))
noncomputable def mX8_parts_J87 (K : Kk) (R : Rr) (M : Mm) (r : Nat) (i3 : Int32) (i6 : Int32) (i14 : Int32) : Option ((Int32 × Int32) ⊕ ((Int32) ⊕ (Int32))) :=
  mX8_parts_J88 K R M r i3 i6 i14 (0)
noncomputable def mX8_parts_B24 (K : Kk) (R : Rr) (M : Mm) (r : Nat) (i3 : Int32) (i6 : Int32) (i9 : Int32) (i10 : Int32) : Option ((Int32 × Int32) ⊕ ((Int32) ⊕ (Int32))) :=
  if i10 < (M.1 r 18) then if i9 = 0 then mX8_parts_J87 K R M r i3 i6 i10 else bd (R r 13) fun q19 => ck (ixA K q19 1 i3) <| bd (R r 14) fun q21 => ck (ixA K q21 1 i3) <| ck (ixA K q19 1 i6) <| ck (ixA K q21 1 i6) <| bd (R r 16) fun q25 => ck (ixA K q25 1 i10) <| bd (R r 17) fun q27 => ck (ixA K q27 1 i10) <| bd (mX8_side K R M (M.2 q19 i3.toNatClampNeg) (M.2 q21 i3.toNatClampNeg) (M.2 q19 i6.toNatClampNeg) (M.2 q21 i6.toNatClampNeg) (M.2 q25 i10.toNatClampNeg) (M.2 q27 i10.toNatClampNeg)) fun l29 => if l29 ≤ 0 then mX8_parts_J88 K R M r i3 i6 i10 (1) else mX8_parts_J87 K R M r i3 i6 i10 else ex (if i9 = 0 then nm (i3 + 1 : Int32) fun i17 => some (.inl (i17)) else ex (some (1)))
noncomputable def mX8_parts_L24 (K : Kk) (R : Rr) (M : Mm) (r : Nat) (i3 : Int32) (i6 : Int32) (σ : (Int32 × Int32)) : Option ((Int32 × Int32) ⊕ ((Int32) ⊕ (Int32))) :=
  mX8_parts_B24 K R M r i3 i6 σ.1 σ.2
noncomputable def mX8_parts_B2 (K : Kk) (R : Rr) (M : Mm) (r : Nat) (i3 : Int32) : Option ((Int32) ⊕ (Int32)) :=
  if i3 < (M.1 r 15) then ck (¬ (M.1 r 15) = 0) <| nm ((i3 + 1) - (i3 + 1) / (M.1 r 15) * (M.1 r 15) : Int32) fun i6 => nm (1 : Int32) fun i7 => nm (0 : Int32) fun i8 => lp (mX8_parts_L24 K R M r i3 i6) (i7, i8) else ex (some (0))
noncomputable def mX8_parts_L2 (K : Kk) (R : Rr) (M : Mm) (r : Nat) (σ : (Int32)) : Option ((Int32) ⊕ (Int32)) :=
  mX8_parts_B2 K R M r σ
noncomputable def mX8_parts (K : Kk) (R : Rr) (M : Mm) (r : Nat) : Option (Int32) :=
  ck (isO K r 8) <| nm (0 : Int32) fun i2 => lp (mX8_parts_L2 K R M r) (i2)
noncomputable def mX8_isOver (K : Kk) (R : Rr) (M : Mm) (r : Nat) (a0 : Int32) (a1 : Int32) : Option (Int32 × Mm) :=
  ck (isO K r 8) <| bd (mX8_lookB K R M r a1) fun M2 => bd (mX8_lookA K R M2 r a0) fun M3 => bd (mX8_parts K R M3 r) fun i4 => bd (mX8_lookB K R M3 r a0) fun M5 => bd (mX8_lookA K R M5 r a1) fun M6 => if i4 = 0 then bd (mX8_parts K R M6 r) fun i8 => if i8 = 0 then some (1, M6) else some (0, M6) else some (0, M6)
noncomputable def mX8_over (K : Kk) (R : Rr) (M : Mm) (r : Nat) (a0 : Int32) (a1 : Int32) : Option (Int64 × Mm) :=
  ck (isO K r 8) <| bd (mX8_isPiece K R M r a0) fun i2 => if i2 = 0 then some ((-9000000000000000001), M) else bd (mX8_isPiece K R M r a1) fun i4 => if i4 = 0 then some ((-9000000000000000001), M) else if a0 = a1 then some ((-9000000000000000001), M) else bd2 (mX8_isOver K R M r a0 a1) fun i7 M8 => if i7 = 0 then some (0, M8) else some (1, M8)
noncomputable def mX8_hasA_J74 (K : Kk) (R : Rr) (M : Mm) (r : Nat) (a0 : Int64) (a1 : Int64) (i6 : Int32) (s7 : Int32) : Option ((Int32 × Int32) ⊕ (Int32)) :=
  nm (i6 + 1 : Int32) fun i8 => some (.inl (s7, i8))
noncomputable def mX8_hasA_J73 (K : Kk) (R : Rr) (M : Mm) (r : Nat) (a0 : Int64) (a1 : Int64) (i9 : Int32) : Option ((Int32 × Int32) ⊕ (Int32)) :=
  mX8_hasA_J74 K R M r a0 a1 i9 (0)
noncomputable def mX8_hasA_B6 (K : Kk) (R : Rr) (M : Mm) (r : Nat) (a0 : Int64) (a1 : Int64) (i4 : Int32) (i5 : Int32) : Option ((Int32 × Int32) ⊕ (Int32)) :=
  if i5 < (M.1 r 15) then ck (¬ (M.1 r 15) = 0) <| nm ((i5 + 1) - (i5 + 1) / (M.1 r 15) * (M.1 r 15) : Int32) fun i13 => if i4 = 0 then mX8_hasA_J73 K R M r a0 a1 i5 else bd (R r 13) fun q15 => ck (ixA K q15 1 i5) <| bd (R r 14) fun q17 => ck (ixA K q17 1 i5) <| ck (ixA K q15 1 i13) <| ck (ixA K q17 1 i13) <| bd (mX8_side K R M (M.2 q15 i5.toNatClampNeg) (M.2 q17 i5.toNatClampNeg) (M.2 q15 i13.toNatClampNeg) (M.2 q17 i13.toNatClampNeg) a0 a1) fun l21 => if l21 < 0 then mX8_hasA_J73 K R M r a0 a1 i5 else mX8_hasA_J74 K R M r a0 a1 i5 (1) else ex (ck (isB i4) <| some (i4))
noncomputable def mX8_hasA_L6 (K : Kk) (R : Rr) (M : Mm) (r : Nat) (a0 : Int64) (a1 : Int64) (σ : (Int32 × Int32)) : Option ((Int32 × Int32) ⊕ (Int32)) :=
  mX8_hasA_B6 K R M r a0 a1 σ.1 σ.2
noncomputable def mX8_hasA (K : Kk) (R : Rr) (M : Mm) (r : Nat) (a0 : Int64) (a1 : Int64) : Option (Int32) :=
  ck (isO K r 8) <| nm (1 : Int32) fun i2 => nm (0 : Int32) fun i3 => lp (mX8_hasA_L6 K R M r a0 a1) (i2, i3)
noncomputable def mX8_hasB_J74 (K : Kk) (R : Rr) (M : Mm) (r : Nat) (a0 : Int64) (a1 : Int64) (i6 : Int32) (s7 : Int32) : Option ((Int32 × Int32) ⊕ (Int32)) :=
  nm (i6 + 1 : Int32) fun i8 => some (.inl (s7, i8))
noncomputable def mX8_hasB_J73 (K : Kk) (R : Rr) (M : Mm) (r : Nat) (a0 : Int64) (a1 : Int64) (i9 : Int32) : Option ((Int32 × Int32) ⊕ (Int32)) :=
  mX8_hasB_J74 K R M r a0 a1 i9 (0)
noncomputable def mX8_hasB_B6 (K : Kk) (R : Rr) (M : Mm) (r : Nat) (a0 : Int64) (a1 : Int64) (i4 : Int32) (i5 : Int32) : Option ((Int32 × Int32) ⊕ (Int32)) :=
  if i5 < (M.1 r 18) then ck (¬ (M.1 r 18) = 0) <| nm ((i5 + 1) - (i5 + 1) / (M.1 r 18) * (M.1 r 18) : Int32) fun i13 => if i4 = 0 then mX8_hasB_J73 K R M r a0 a1 i5 else bd (R r 16) fun q15 => ck (ixA K q15 1 i5) <| bd (R r 17) fun q17 => ck (ixA K q17 1 i5) <| ck (ixA K q15 1 i13) <| ck (ixA K q17 1 i13) <| bd (mX8_side K R M (M.2 q15 i5.toNatClampNeg) (M.2 q17 i5.toNatClampNeg) (M.2 q15 i13.toNatClampNeg) (M.2 q17 i13.toNatClampNeg) a0 a1) fun l21 => if l21 < 0 then mX8_hasB_J73 K R M r a0 a1 i5 else mX8_hasB_J74 K R M r a0 a1 i5 (1) else ex (ck (isB i4) <| some (i4))
noncomputable def mX8_hasB_L6 (K : Kk) (R : Rr) (M : Mm) (r : Nat) (a0 : Int64) (a1 : Int64) (σ : (Int32 × Int32)) : Option ((Int32 × Int32) ⊕ (Int32)) :=
  mX8_hasB_B6 K R M r a0 a1 σ.1 σ.2
noncomputable def mX8_hasB (K : Kk) (R : Rr) (M : Mm) (r : Nat) (a0 : Int64) (a1 : Int64) : Option (Int32) :=
  ck (isO K r 8) <| nm (1 : Int32) fun i2 => nm (0 : Int32) fun i3 => lp (mX8_hasB_L6 K R M r a0 a1) (i2, i3)
noncomputable def mX8_find_B16 (K : Kk) (R : Rr) (r : Nat) (a0 : Int32) (a1 : Int32) (i5 : Int32) (M6 : Mm) : Option ((Int32 × Mm) ⊕ (Int64 × Mm)) :=
  bd (mX8_pieces K R M6 r) fun i7 => if i5 < i7 then bd (mX8_lookA K R M6 r i5) fun M9 => bd (mX8_hasA K R M9 r (a0.toInt64) (a1.toInt64)) fun i10 => if i10 = 0 then nm (i5 + 1 : Int32) fun i12 => some (.inl (i12, M9)) else ex (some (i5.toInt64, M9)) else ex (some ((-9000000000000000005), M6))
noncomputable def mX8_find_L16 (K : Kk) (R : Rr) (r : Nat) (a0 : Int32) (a1 : Int32) (σ : (Int32 × Mm)) : Option ((Int32 × Mm) ⊕ (Int64 × Mm)) :=
  mX8_find_B16 K R r a0 a1 σ.1 σ.2
noncomputable def mX8_find (K : Kk) (R : Rr) (M : Mm) (r : Nat) (a0 : Int32) (a1 : Int32) : Option (Int64 × Mm) :=
  ck (isO K r 8) <| bd (mX8_isPlace K R M (a0.toInt64) (a1.toInt64)) fun i2 => if i2 = 0 then some ((-9000000000000000001), M) else nm (0 : Int32) fun i4 => lp (mX8_find_L16 K R r a0 a1) (i4, M)
noncomputable def mX8_isWithin_J109 (K : Kk) (R : Rr) (M8 : Mm) (r : Nat) (i14 : Int32) (s15 : Int32) : Option ((Int32 × Int32) ⊕ (Int32 × Mm)) :=
  nm (i14 + 1 : Int32) fun i16 => some (.inl (s15, i16))
noncomputable def mX8_isWithin_J108 (K : Kk) (R : Rr) (M8 : Mm) (r : Nat) (i17 : Int32) : Option ((Int32 × Int32) ⊕ (Int32 × Mm)) :=
  mX8_isWithin_J109 K R M8 r i17 (0)
noncomputable def mX8_isWithin_B70 (K : Kk) (R : Rr) (M8 : Mm) (r : Nat) (i12 : Int32) (i13 : Int32) : Option ((Int32 × Int32) ⊕ (Int32 × Mm)) :=
  if i13 < (M8.1 r 15) then if i12 = 0 then mX8_isWithin_J108 K R M8 r i13 else bd (R r 13) fun q21 => ck (ixA K q21 1 i13) <| bd (R r 14) fun q23 => ck (ixA K q23 1 i13) <| bd (mX8_hasB K R M8 r (M8.2 q21 i13.toNatClampNeg) (M8.2 q23 i13.toNatClampNeg)) fun i25 => if i25 = 0 then mX8_isWithin_J108 K R M8 r i13 else mX8_isWithin_J109 K R M8 r i13 (1) else ex (ck (isB i12) <| some (i12, M8))
noncomputable def mX8_isWithin_L70 (K : Kk) (R : Rr) (M8 : Mm) (r : Nat) (σ : (Int32 × Int32)) : Option ((Int32 × Int32) ⊕ (Int32 × Mm)) :=
  mX8_isWithin_B70 K R M8 r σ.1 σ.2
noncomputable def mX8_isWithin_B17 (K : Kk) (R : Rr) (r : Nat) (a1 : Int32) (i7 : Int32) (M8 : Mm) : Option ((Int32 × Mm) ⊕ (Int32 × Mm)) :=
  if i7 < (M8.1 r 18) then bd (R r 16) fun q27 => bd (R r 7) fun q28 => ck (ixA K q28 1 ((16 * a1) + i7)) <| ck (ixA K q27 1 i7) <| nm (pL M8 q27 i7.toNatClampNeg (M8.2 q28 ((16 * a1) + i7).toNatClampNeg)) fun M31 => bd (R r 17) fun q32 => bd (R r 8) fun q33 => ck (ixA K q33 1 ((16 * a1) + i7)) <| ck (ixA K q32 1 i7) <| nm (pL M31 q32 i7.toNatClampNeg (M31.2 q33 ((16 * a1) + i7).toNatClampNeg)) fun M36 => nm (i7 + 1 : Int32) fun i37 => some (.inl (i37, M36)) else ex (nm (1 : Int32) fun i10 => nm (0 : Int32) fun i11 => lp (mX8_isWithin_L70 K R M8 r) (i10, i11))
noncomputable def mX8_isWithin_L17 (K : Kk) (R : Rr) (r : Nat) (a1 : Int32) (σ : (Int32 × Mm)) : Option ((Int32 × Mm) ⊕ (Int32 × Mm)) :=
  mX8_isWithin_B17 K R r a1 σ.1 σ.2
noncomputable def mX8_isWithin (K : Kk) (R : Rr) (M : Mm) (r : Nat) (a0 : Int32) (a1 : Int32) : Option (Int32 × Mm) :=
  ck (isO K r 8) <| bd (mX8_lookA K R M r a0) fun M2 => bd (R r 9) fun q3 => ck (ixA K q3 0 a1) <| nm (pI M2 r 18 (M2.1 q3 a1.toNatClampNeg)) fun M5 => nm (0 : Int32) fun i6 => lp (mX8_isWithin_L17 K R r a1) (i6, M5)
noncomputable def mX8_isLaid (K : Kk) (R : Rr) (M : Mm) (r : Nat) (a0 : Int32) : Option (Int32) :=
  ck (isO K r 8) <| bd (mX8_get K R M r a0 36) fun l2 => if l2 = 0 then some (1) else some (0)
noncomputable def mX8_allAreas_J30 (K : Kk) (R : Rr) (M10 : Mm) (r : Nat) (i7 : Int32) (s8 : Int64) (s9 : Int64) : Option ((Int64 × Int32 × Mm) ⊕ (Int64 × Mm)) :=
  nm (s8 + s9 : Int64) fun l11 => nm (i7 + 1 : Int32) fun i12 => some (.inl (l11, i12, M10))
noncomputable def mX8_allAreas_B4 (K : Kk) (R : Rr) (r : Nat) (l4 : Int64) (i5 : Int32) (M6 : Mm) : Option ((Int64 × Int32 × Mm) ⊕ (Int64 × Mm)) :=
  bd (mX8_pieces K R M6 r) fun i13 => if i5 < i13 then bd (mX8_isLaid K R M6 r i5) fun i15 => if i15 = 0 then mX8_allAreas_J30 K R M6 r i5 (l4) (0) else bd2 (mX8_areaOf K R M6 r i5) fun l17 M18 => mX8_allAreas_J30 K R M18 r i5 (l4) (l17) else ex (some (l4, M6))
noncomputable def mX8_allAreas_L4 (K : Kk) (R : Rr) (r : Nat) (σ : (Int64 × Int32 × Mm)) : Option ((Int64 × Int32 × Mm) ⊕ (Int64 × Mm)) :=
  mX8_allAreas_B4 K R r σ.1 σ.2.1 σ.2.2
noncomputable def mX8_allAreas (K : Kk) (R : Rr) (M : Mm) (r : Nat) : Option (Int64 × Mm) :=
  ck (isO K r 8) <| nm (0 : Int64) fun l2 => nm (0 : Int32) fun i3 => lp (mX8_allAreas_L4 K R r) (l2, i3, M)
noncomputable def mX8_covers_J61 (K : Kk) (R : Rr) (M11 : Mm) (r : Nat) (a0 : Int32) (i10 : Int32) : Option ((Int32 × Mm) ⊕ (Int64 × Mm)) :=
  nm (i10 + 1 : Int32) fun i12 => some (.inl (i12, M11))
noncomputable def mX8_covers_J128 (K : Kk) (R : Rr) (M28 : Mm) (r : Nat) (a0 : Int32) (i16 : Int32) (i27 : Int32) : Option ((Int32 × Mm) ⊕ ((Int32 × Mm) ⊕ (Int64 × Mm))) :=
  nm (i27 + 1 : Int32) fun i29 => some (.inl (i29, M28))
noncomputable def mX8_covers_B81 (K : Kk) (R : Rr) (r : Nat) (a0 : Int32) (i16 : Int32) (i25 : Int32) (M26 : Mm) : Option ((Int32 × Mm) ⊕ ((Int32 × Mm) ⊕ (Int64 × Mm))) :=
  bd (mX8_pieces K R M26 r) fun i30 => if i25 < i30 then bd (mX8_isLaid K R M26 r i16) fun i33 => if i33 = 0 then mX8_covers_J128 K R M26 r a0 i16 i25 else bd (mX8_isLaid K R M26 r i25) fun i35 => if i35 = 0 then mX8_covers_J128 K R M26 r a0 i16 i25 else bd2 (mX8_isOver K R M26 r i16 i25) fun i37 M38 => if i37 = 0 then mX8_covers_J128 K R M38 r a0 i16 i25 else ex (ex (some ((100 + (40 * (i16.toInt64))) + (i25.toInt64), M38))) else ex (nm (i16 + 1 : Int32) fun i32 => some (.inl (i32, M26)))
noncomputable def mX8_covers_L81 (K : Kk) (R : Rr) (r : Nat) (a0 : Int32) (i16 : Int32) (σ : (Int32 × Mm)) : Option ((Int32 × Mm) ⊕ ((Int32 × Mm) ⊕ (Int64 × Mm))) :=
  mX8_covers_B81 K R r a0 i16 σ.1 σ.2
noncomputable def mX8_covers_B69 (K : Kk) (R : Rr) (r : Nat) (a0 : Int32) (i16 : Int32) (M17 : Mm) : Option ((Int32 × Mm) ⊕ (Int64 × Mm)) :=
  bd (mX8_pieces K R M17 r) fun i18 => if i16 < i18 then nm (i16 + 1 : Int32) fun i24 => lp (mX8_covers_L81 K R r a0 i16) (i24, M17) else ex (bd2 (mX8_allAreas K R M17 r) fun l20 M21 => bd (mX8_figureArea K R M21 r a0) fun l22 => if l20 = l22 then some (0, M21) else some (2000, M21))
noncomputable def mX8_covers_L69 (K : Kk) (R : Rr) (r : Nat) (a0 : Int32) (σ : (Int32 × Mm)) : Option ((Int32 × Mm) ⊕ (Int64 × Mm)) :=
  mX8_covers_B69 K R r a0 σ.1 σ.2
noncomputable def mX8_covers_B31 (K : Kk) (R : Rr) (r : Nat) (a0 : Int32) (i8 : Int32) (M9 : Mm) : Option ((Int32 × Mm) ⊕ (Int64 × Mm)) :=
  bd (mX8_pieces K R M9 r) fun i13 => if i8 < i13 then bd (mX8_isLaid K R M9 r i8) fun i40 => if i40 = 0 then mX8_covers_J61 K R M9 r a0 i8 else bd2 (mX8_isWithin K R M9 r i8 a0) fun i42 M43 => if i42 = 0 then ex (some (1 + (i8.toInt64), M43)) else mX8_covers_J61 K R M43 r a0 i8 else ex (nm (0 : Int32) fun i15 => lp (mX8_covers_L69 K R r a0) (i15, M9))
noncomputable def mX8_covers_L31 (K : Kk) (R : Rr) (r : Nat) (a0 : Int32) (σ : (Int32 × Mm)) : Option ((Int32 × Mm) ⊕ (Int64 × Mm)) :=
  mX8_covers_B31 K R r a0 σ.1 σ.2
noncomputable def mX8_covers (K : Kk) (R : Rr) (M : Mm) (r : Nat) (a0 : Int32) : Option (Int64 × Mm) :=
  ck (isO K r 8) <| bd (mX8_isIn K R M (a0.toInt64) 0 4) fun i2 => if i2 = 0 then some ((-9000000000000000001), M) else bd (R r 9) fun q4 => ck (ixA K q4 0 a0) <| if (M.1 q4 a0.toNatClampNeg) = 0 then some ((-9000000000000000002), M) else nm (0 : Int32) fun i7 => lp (mX8_covers_L31 K R r a0) (i7, M)
noncomputable def mX8_common_B28 (K : Kk) (R : Rr) (M : Mm) (l3 : Int64) (l4 : Int64) : Option ((Int64 × Int64) ⊕ (Int64)) :=
  if l4 = 0 then ex (some (l3)) else ck (¬ l4 = 0) <| nm (l3 - l3 / l4 * l4 : Int64) fun l7 => some (.inl (l4, l7))
noncomputable def mX8_common_L28 (K : Kk) (R : Rr) (M : Mm) (σ : (Int64 × Int64)) : Option ((Int64 × Int64) ⊕ (Int64)) :=
  mX8_common_B28 K R M σ.1 σ.2
noncomputable def mX8_common_J26 (K : Kk) (R : Rr) (M : Mm) (l1 : Int64) (s2 : Int64) : Option (Int64) :=
  lp (mX8_common_L28 K R M) (l1, s2)
noncomputable def mX8_common_J12 (K : Kk) (R : Rr) (M : Mm) (a1 : Int64) (s8 : Int64) : Option (Int64) :=
  if a1 < 0 then mX8_common_J26 K R M s8 (-a1) else mX8_common_J26 K R M s8 (a1)
noncomputable def mX8_common (K : Kk) (R : Rr) (M : Mm) (a0 : Int64) (a1 : Int64) : Option (Int64) :=
  if a0 < 0 then mX8_common_J12 K R M a1 (-a0) else mX8_common_J12 K R M a1 (a0)
noncomputable def mX8_addStep_J187 (K : Kk) (R : Rr) (M6 : Mm) (s2 : Nat) (s3 : Int32) (s4 : Int64) (s5 : Int64) : Option (Mm) :=
  ck (ixA K s2 1 s3) <| nm (pL M6 s2 s3.toNatClampNeg (s4 + s5)) fun M8 => some (M8)
noncomputable def mX8_addStep_J166 (K : Kk) (R : Rr) (M12 : Mm) (r : Nat) (l9 : Int64) (i10 : Int32) (i11 : Int32) : Option (Mm) :=
  bd (R r 34) fun q13 => ck (ixA K q13 1 i11) <| if i10 = 0 then mX8_addStep_J187 K R M12 (q13) (i11) (M12.2 q13 i11.toNatClampNeg) (-l9) else mX8_addStep_J187 K R M12 (q13) (i11) (M12.2 q13 i11.toNatClampNeg) (l9)
noncomputable def mX8_addStep_J121 (K : Kk) (R : Rr) (M21 : Mm) (r : Nat) (l16 : Int64) (i17 : Int32) (l18 : Int64) (l19 : Int64) (i20 : Int32) : Option (Mm) :=
  if i20 = (M21.1 r 35) then bd (R r 32) fun q23 => ck (ixA K q23 1 i20) <| nm (pL M21 q23 i20.toNatClampNeg l18) fun M25 => bd (R r 33) fun q26 => ck (ixA K q26 1 i20) <| nm (pL M25 q26 i20.toNatClampNeg l19) fun M28 => bd (R r 34) fun q29 => ck (ixA K q29 1 i20) <| nm (pL M28 q29 i20.toNatClampNeg 0) fun M31 => nm (pI M31 r 35 ((M31.1 r 35) + 1)) fun M32 => mX8_addStep_J166 K R M32 r l16 i17 i20 else mX8_addStep_J166 K R M21 r l16 i17 i20
noncomputable def mX8_addStep_J115 (K : Kk) (R : Rr) (M37 : Mm) (r : Nat) (l33 : Int64) (i34 : Int32) (l35 : Int64) (s36 : Int64) (i40 : Int32) : Option ((Int32) ⊕ (Mm)) :=
  nm (i40 + 1 : Int32) fun i41 => some (.inl (i41))
noncomputable def mX8_addStep_B80 (K : Kk) (R : Rr) (M37 : Mm) (r : Nat) (l33 : Int64) (i34 : Int32) (l35 : Int64) (s36 : Int64) (i39 : Int32) : Option ((Int32) ⊕ (Mm)) :=
  if i39 < (M37.1 r 35) then bd (R r 32) fun q43 => ck (ixA K q43 1 i39) <| if (M37.2 q43 i39.toNatClampNeg) = l35 then bd (R r 33) fun q46 => ck (ixA K q46 1 i39) <| if (M37.2 q46 i39.toNatClampNeg) = s36 then ex (mX8_addStep_J121 K R M37 r l33 i34 l35 s36 i39) else mX8_addStep_J115 K R M37 r l33 i34 l35 s36 i39 else mX8_addStep_J115 K R M37 r l33 i34 l35 s36 i39 else ex (mX8_addStep_J121 K R M37 r l33 i34 l35 s36 i39)
noncomputable def mX8_addStep_L80 (K : Kk) (R : Rr) (M37 : Mm) (r : Nat) (l33 : Int64) (i34 : Int32) (l35 : Int64) (s36 : Int64) (σ : (Int32)) : Option ((Int32) ⊕ (Mm)) :=
  mX8_addStep_B80 K R M37 r l33 i34 l35 s36 σ
noncomputable def mX8_addStep_J75 (K : Kk) (R : Rr) (M37 : Mm) (r : Nat) (l33 : Int64) (i34 : Int32) (l35 : Int64) (s36 : Int64) : Option (Mm) :=
  nm (0 : Int32) fun i38 => lp (mX8_addStep_L80 K R M37 r l33 i34 l35 s36) (i38)
noncomputable def mX8_addStep_J60 (K : Kk) (R : Rr) (M53 : Mm) (r : Nat) (l49 : Int64) (l50 : Int64) (i51 : Int32) (s52 : Int64) : Option (Mm) :=
  if i51 = 0 then mX8_addStep_J75 K R M53 r l49 i51 s52 (-l50) else mX8_addStep_J75 K R M53 r l49 i51 s52 (l50)
noncomputable def mX8_addStep_J45 (K : Kk) (R : Rr) (M59 : Mm) (r : Nat) (l55 : Int64) (l56 : Int64) (l57 : Int64) (s58 : Int32) : Option (Mm) :=
  if s58 = 0 then mX8_addStep_J60 K R M59 r l55 l57 s58 (-l56) else mX8_addStep_J60 K R M59 r l55 l57 s58 (l56)
noncomputable def mX8_addStep_J44 (K : Kk) (R : Rr) (M64 : Mm) (r : Nat) (l61 : Int64) (l62 : Int64) (l63 : Int64) : Option (Mm) :=
  mX8_addStep_J45 K R M64 r l61 l62 l63 (0)
noncomputable def mX8_addStep_J40 (K : Kk) (R : Rr) (M68 : Mm) (r : Nat) (l65 : Int64) (l66 : Int64) (l67 : Int64) : Option (Mm) :=
  mX8_addStep_J45 K R M68 r l65 l66 l67 (1)
noncomputable def mX8_addStep (K : Kk) (R : Rr) (M : Mm) (r : Nat) (a0 : Int64) (a1 : Int64) : Option (Mm) :=
  ck (isO K r 8) <| bd (mX8_common K R M a0 a1) fun l69 => ck (¬ l69 = 0) <| nm (a0 / l69 : Int64) fun l71 => nm (a1 / l69 : Int64) fun l72 => if l71 ≤ 0 then if l71 = 0 then if l72 ≤ 0 then mX8_addStep_J44 K R M r l69 l71 l72 else mX8_addStep_J40 K R M r l69 l71 l72 else mX8_addStep_J44 K R M r l69 l71 l72 else mX8_addStep_J40 K R M r l69 l71 l72
noncomputable def mX8_addAll_J83 (K : Kk) (R : Rr) (M7 : Mm) (r : Nat) (i6 : Int32) : Option ((Int32 × Mm) ⊕ (Mm)) :=
  nm (i6 + 1 : Int32) fun i8 => some (.inl (i8, M7))
noncomputable def mX8_addAll_B30 (K : Kk) (R : Rr) (r : Nat) (i4 : Int32) (i15 : Int32) (M16 : Mm) : Option ((Int32 × Mm) ⊕ ((Int32 × Mm) ⊕ (Mm))) :=
  if i15 < (M16.1 r 15) then ck (¬ (M16.1 r 15) = 0) <| nm ((i15 + 1) - (i15 + 1) / (M16.1 r 15) * (M16.1 r 15) : Int32) fun i19 => bd (R r 13) fun q20 => ck (ixA K q20 1 i19) <| ck (ixA K q20 1 i15) <| bd (R r 14) fun q23 => ck (ixA K q23 1 i19) <| ck (ixA K q23 1 i15) <| bd (mX8_addStep K R M16 r ((M16.2 q20 i19.toNatClampNeg) - (M16.2 q20 i15.toNatClampNeg)) ((M16.2 q23 i19.toNatClampNeg) - (M16.2 q23 i15.toNatClampNeg))) fun M26 => nm (i15 + 1 : Int32) fun i27 => some (.inl (i27, M26)) else ex (mX8_addAll_J83 K R M16 r i4)
noncomputable def mX8_addAll_L30 (K : Kk) (R : Rr) (r : Nat) (i4 : Int32) (σ : (Int32 × Mm)) : Option ((Int32 × Mm) ⊕ ((Int32 × Mm) ⊕ (Mm))) :=
  mX8_addAll_B30 K R r i4 σ.1 σ.2
noncomputable def mX8_addAll_B7 (K : Kk) (R : Rr) (r : Nat) (i4 : Int32) (M5 : Mm) : Option ((Int32 × Mm) ⊕ (Mm)) :=
  bd (mX8_pieces K R M5 r) fun i9 => if i4 < i9 then bd (mX8_isLaid K R M5 r i4) fun i11 => if i11 = 0 then mX8_addAll_J83 K R M5 r i4 else bd (mX8_lookA K R M5 r i4) fun M13 => nm (0 : Int32) fun i14 => lp (mX8_addAll_L30 K R r i4) (i14, M13) else ex (some (M5))
noncomputable def mX8_addAll_L7 (K : Kk) (R : Rr) (r : Nat) (σ : (Int32 × Mm)) : Option ((Int32 × Mm) ⊕ (Mm)) :=
  mX8_addAll_B7 K R r σ.1 σ.2
noncomputable def mX8_addAll (K : Kk) (R : Rr) (M : Mm) (r : Nat) : Option (Mm) :=
  ck (isO K r 8) <| nm (pI M r 35 0) fun M2 => nm (0 : Int32) fun i3 => lp (mX8_addAll_L7 K R r) (i3, M2)
noncomputable def mX8_sums_J33 (K : Kk) (R : Rr) (M2 : Mm) (r : Nat) (i7 : Int32) (s8 : Int32) (s9 : Int32) : Option ((Int32 × Int32) ⊕ (Int64 × Mm)) :=
  nm (s8 + s9 : Int32) fun i10 => nm (i7 + 1 : Int32) fun i11 => some (.inl (i10, i11))
noncomputable def mX8_sums_B8 (K : Kk) (R : Rr) (M2 : Mm) (r : Nat) (i5 : Int32) (i6 : Int32) : Option ((Int32 × Int32) ⊕ (Int64 × Mm)) :=
  if i6 < (M2.1 r 35) then bd (R r 34) fun q13 => ck (ixA K q13 1 i6) <| if (M2.2 q13 i6.toNatClampNeg) = 0 then mX8_sums_J33 K R M2 r i6 (i5) (0) else mX8_sums_J33 K R M2 r i6 (i5) (1) else ex (some (i5.toInt64, M2))
noncomputable def mX8_sums_L8 (K : Kk) (R : Rr) (M2 : Mm) (r : Nat) (σ : (Int32 × Int32)) : Option ((Int32 × Int32) ⊕ (Int64 × Mm)) :=
  mX8_sums_B8 K R M2 r σ.1 σ.2
noncomputable def mX8_sums (K : Kk) (R : Rr) (M : Mm) (r : Nat) : Option (Int64 × Mm) :=
  ck (isO K r 8) <| bd (mX8_addAll K R M r) fun M2 => nm (0 : Int32) fun i3 => nm (0 : Int32) fun i4 => lp (mX8_sums_L8 K R M2 r) (i3, i4)
noncomputable def mX8_isAhead_J48 (K : Kk) (R : Rr) (M : Mm) : Option (Int32) :=
  some (1)
noncomputable def mX8_isAhead (K : Kk) (R : Rr) (M : Mm) (r : Nat) (a0 : Int32) (a1 : Int32) : Option (Int32) :=
  ck (isO K r 8) <| bd (R r 32) fun q2 => ck (ixA K q2 1 a0) <| ck (ixA K q2 1 a1) <| if (M.2 q2 a0.toNatClampNeg) < (M.2 q2 a1.toNatClampNeg) then mX8_isAhead_J48 K R M  else if (M.2 q2 a0.toNatClampNeg) = (M.2 q2 a1.toNatClampNeg) then bd (R r 33) fun q7 => ck (ixA K q7 1 a0) <| ck (ixA K q7 1 a1) <| if (M.2 q7 a0.toNatClampNeg) < (M.2 q7 a1.toNatClampNeg) then mX8_isAhead_J48 K R M  else some (0) else some (0)
noncomputable def mX8_sum_J138 (K : Kk) (R : Rr) (M5 : Mm) (r : Nat) (a0 : Int32) (a1 : Int32) (i8 : Int32) : Option ((Int32) ⊕ (Int64 × Mm)) :=
  nm (i8 + 1 : Int32) fun i9 => some (.inl (i9))
noncomputable def mX8_sum_J78 (K : Kk) (R : Rr) (M5 : Mm) (r : Nat) (a0 : Int32) (a1 : Int32) (i7 : Int32) (i15 : Int32) (s16 : Int32) (s17 : Int32) : Option ((Int32 × Int32) ⊕ ((Int32) ⊕ (Int64 × Mm))) :=
  nm (s16 + s17 : Int32) fun i18 => nm (i15 + 1 : Int32) fun i19 => some (.inl (i18, i19))
noncomputable def mX8_sum_J77 (K : Kk) (R : Rr) (M5 : Mm) (r : Nat) (a0 : Int32) (a1 : Int32) (i7 : Int32) (i20 : Int32) (s21 : Int32) : Option ((Int32 × Int32) ⊕ ((Int32) ⊕ (Int64 × Mm))) :=
  mX8_sum_J78 K R M5 r a0 a1 i7 i20 (s21) (0)
noncomputable def mX8_sum_B40 (K : Kk) (R : Rr) (M5 : Mm) (r : Nat) (a0 : Int32) (a1 : Int32) (i7 : Int32) (i13 : Int32) (i14 : Int32) : Option ((Int32 × Int32) ⊕ ((Int32) ⊕ (Int64 × Mm))) :=
  if i14 < (M5.1 r 35) then bd (R r 34) fun q33 => ck (ixA K q33 1 i14) <| if (M5.2 q33 i14.toNatClampNeg) = 0 then mX8_sum_J77 K R M5 r a0 a1 i7 i14 (i13) else bd (mX8_isAhead K R M5 r i14 i7) fun i36 => if i36 = 0 then mX8_sum_J77 K R M5 r a0 a1 i7 i14 (i13) else mX8_sum_J78 K R M5 r a0 a1 i7 i14 (i13) (1) else ex (bd (R r 34) fun q23 => ck (ixA K q23 1 i7) <| if (M5.2 q23 i7.toNatClampNeg) = 0 then mX8_sum_J138 K R M5 r a0 a1 i7 else if i13 = a0 then ex (if a1 = 0 then bd (R r 32) fun q31 => ck (ixA K q31 1 i7) <| some (M5.2 q31 i7.toNatClampNeg, M5) else if a1 = 1 then bd (R r 33) fun q29 => ck (ixA K q29 1 i7) <| some (M5.2 q29 i7.toNatClampNeg, M5) else some (M5.2 q23 i7.toNatClampNeg, M5)) else mX8_sum_J138 K R M5 r a0 a1 i7)
noncomputable def mX8_sum_L40 (K : Kk) (R : Rr) (M5 : Mm) (r : Nat) (a0 : Int32) (a1 : Int32) (i7 : Int32) (σ : (Int32 × Int32)) : Option ((Int32 × Int32) ⊕ ((Int32) ⊕ (Int64 × Mm))) :=
  mX8_sum_B40 K R M5 r a0 a1 i7 σ.1 σ.2
noncomputable def mX8_sum_B26 (K : Kk) (R : Rr) (M5 : Mm) (r : Nat) (a0 : Int32) (a1 : Int32) (i7 : Int32) : Option ((Int32) ⊕ (Int64 × Mm)) :=
  if i7 < (M5.1 r 35) then nm (0 : Int32) fun i11 => nm (0 : Int32) fun i12 => lp (mX8_sum_L40 K R M5 r a0 a1 i7) (i11, i12) else ex (some ((-9000000000000000005), M5))
noncomputable def mX8_sum_L26 (K : Kk) (R : Rr) (M5 : Mm) (r : Nat) (a0 : Int32) (a1 : Int32) (σ : (Int32)) : Option ((Int32) ⊕ (Int64 × Mm)) :=
  mX8_sum_B26 K R M5 r a0 a1 σ
noncomputable def mX8_sum (K : Kk) (R : Rr) (M : Mm) (r : Nat) (a0 : Int32) (a1 : Int32) : Option (Int64 × Mm) :=
  ck (isO K r 8) <| if a0 < 0 then some ((-9000000000000000001), M) else bd (mX8_isIn K R M (a1.toInt64) 0 2) fun i3 => if i3 = 0 then some ((-9000000000000000001), M) else bd (mX8_addAll K R M r) fun M5 => nm (0 : Int32) fun i6 => lp (mX8_sum_L26 K R M5 r a0 a1) (i6)
noncomputable def mX8_shelve_B18 (K : Kk) (R : Rr) (r : Nat) (a0 : Int32) (i5 : Int32) (M6 : Mm) : Option ((Int32 × Mm) ⊕ (Int64 × Mm)) :=
  if i5 < 1481 then bd (R r 5) fun q12 => bd (R r 0) fun q13 => ck (ixA K q13 1 i5) <| ck (ixA K q12 1 ((1481 * a0) + i5)) <| nm (pL M6 q12 ((1481 * a0) + i5).toNatClampNeg (M6.2 q13 i5.toNatClampNeg)) fun M16 => nm (i5 + 1 : Int32) fun i17 => some (.inl (i17, M16)) else ex (bd (R r 6) fun q8 => ck (ixA K q8 2 a0) <| nm (pI M6 q8 a0.toNatClampNeg (vp_nar .boolean 1)) fun M10 => bd (mX8_pieces K R M10 r) fun i11 => some (i11.toInt64, M10))
noncomputable def mX8_shelve_L18 (K : Kk) (R : Rr) (r : Nat) (a0 : Int32) (σ : (Int32 × Mm)) : Option ((Int32 × Mm) ⊕ (Int64 × Mm)) :=
  mX8_shelve_B18 K R r a0 σ.1 σ.2
noncomputable def mX8_shelve (K : Kk) (R : Rr) (M : Mm) (r : Nat) (a0 : Int32) : Option (Int64 × Mm) :=
  ck (isO K r 8) <| bd (mX8_isIn K R M (a0.toInt64) 0 3) fun i2 => if i2 = 0 then some ((-9000000000000000001), M) else nm (0 : Int32) fun i4 => lp (mX8_shelve_L18 K R r a0) (i4, M)
noncomputable def mX8_fetch_B35 (K : Kk) (R : Rr) (r : Nat) (a0 : Int32) (i9 : Int32) (M10 : Mm) : Option ((Int32 × Mm) ⊕ (Int64 × Mm)) :=
  if i9 < 1481 then bd (R r 0) fun q13 => bd (R r 5) fun q14 => ck (ixA K q14 1 ((1481 * a0) + i9)) <| ck (ixA K q13 1 i9) <| nm (pL M10 q13 i9.toNatClampNeg (M10.2 q14 ((1481 * a0) + i9).toNatClampNeg)) fun M17 => nm (i9 + 1 : Int32) fun i18 => some (.inl (i18, M17)) else ex (bd (mX8_pieces K R M10 r) fun i12 => some (i12.toInt64, M10))
noncomputable def mX8_fetch_L35 (K : Kk) (R : Rr) (r : Nat) (a0 : Int32) (σ : (Int32 × Mm)) : Option ((Int32 × Mm) ⊕ (Int64 × Mm)) :=
  mX8_fetch_B35 K R r a0 σ.1 σ.2
noncomputable def mX8_fetch (K : Kk) (R : Rr) (M : Mm) (r : Nat) (a0 : Int32) : Option (Int64 × Mm) :=
  ck (isO K r 8) <| bd (mX8_isIn K R M (a0.toInt64) 0 3) fun i2 => if i2 = 0 then some ((-9000000000000000001), M) else bd (R r 6) fun q4 => ck (ixA K q4 2 a0) <| if (M.1 q4 a0.toNatClampNeg) = 0 then some ((-9000000000000000002), M) else bd (mX8_keep K R M r) fun M7 => nm (0 : Int32) fun i8 => lp (mX8_fetch_L35 K R r a0) (i8, M7)
noncomputable def mX8_meet_J333 (K : Kk) (R : Rr) (M8 : Mm) (r : Nat) (a0 : Int32) (l2 : Int64) (l3 : Int64) (l4 : Int64) (l5 : Int64) (s6 : Nat) (s7 : Int32) : Option (Mm) :=
  ck (isO K s6 8) <| ck (isB s7) <| nm (pI M8 s6 36 s7) fun M11 => bd (R r 13) fun q12 => ck (ixA K q12 1 a0) <| ck (¬ (l2 - l3) = 0) <| bd (R r 14) fun q15 => ck (ixA K q15 1 a0) <| bd (mX8_point K R M11 r ((M11.2 q12 a0.toNatClampNeg) + (l4 / (l2 - l3))) ((M11.2 q15 a0.toNatClampNeg) + (l5 / (l2 - l3)))) fun M17 => some (M17)
noncomputable def mX8_meet_J328 (K : Kk) (R : Rr) (M23 : Mm) (r : Nat) (a0 : Int32) (l18 : Int64) (l19 : Int64) (l20 : Int64) (l21 : Int64) (s22 : Nat) : Option (Mm) :=
  mX8_meet_J333 K R M23 r a0 l18 l19 l20 l21 (s22) (1)
noncomputable def mX8_meet_J250 (K : Kk) (R : Rr) (M28 : Mm) (r : Nat) (a0 : Int32) (i24 : Int32) (l25 : Int64) (l26 : Int64) (s27 : Int32) : Option (Mm) :=
  if s27 = 0 then some (M28) else bd (R r 13) fun q30 => ck (ixA K q30 1 i24) <| ck (ixA K q30 1 a0) <| nm (((M28.2 q30 i24.toNatClampNeg) - (M28.2 q30 a0.toNatClampNeg)) * l25 : Int64) fun l33 => bd (R r 14) fun q34 => ck (ixA K q34 1 i24) <| ck (ixA K q34 1 a0) <| nm (((M28.2 q34 i24.toNatClampNeg) - (M28.2 q34 a0.toNatClampNeg)) * l25 : Int64) fun l37 => if (M28.1 r 36) = 0 then ck (¬ (l25 - l26) = 0) <| if (l33 - l33 / (l25 - l26) * (l25 - l26)) = 0 then if (l37 - l37 / (l25 - l26) * (l25 - l26)) = 0 then mX8_meet_J333 K R M28 r a0 l25 l26 l33 l37 (r) (0) else mX8_meet_J328 K R M28 r a0 l25 l26 l33 l37 (r) else mX8_meet_J328 K R M28 r a0 l25 l26 l33 l37 (r) else mX8_meet_J328 K R M28 r a0 l25 l26 l33 l37 (r)
noncomputable def mX8_meet_J249 (K : Kk) (R : Rr) (M45 : Mm) (r : Nat) (a0 : Int32) (i42 : Int32) (l43 : Int64) (l44 : Int64) : Option (Mm) :=
  mX8_meet_J250 K R M45 r a0 i42 l43 l44 (0)
noncomputable def mX8_meet_J245 (K : Kk) (R : Rr) (M49 : Mm) (r : Nat) (a0 : Int32) (i46 : Int32) (l47 : Int64) (l48 : Int64) : Option (Mm) :=
  mX8_meet_J250 K R M49 r a0 i46 l47 l48 (1)
noncomputable def mX8_meet_J231 (K : Kk) (R : Rr) (M55 : Mm) (r : Nat) (a0 : Int32) (i50 : Int32) (l51 : Int64) (l52 : Int64) (l53 : Int64) (l54 : Int64) : Option (Mm) :=
  if l53 < 0 then if l54 ≤ 0 then mX8_meet_J249 K R M55 r a0 i50 l51 l52 else mX8_meet_J245 K R M55 r a0 i50 l51 l52 else mX8_meet_J249 K R M55 r a0 i50 l51 l52
noncomputable def mX8_meet_J217 (K : Kk) (R : Rr) (M63 : Mm) (r : Nat) (a0 : Int32) (i58 : Int32) (l59 : Int64) (l60 : Int64) (l61 : Int64) (l62 : Int64) : Option (Mm) :=
  if l61 ≤ 0 then mX8_meet_J231 K R M63 r a0 i58 l59 l60 l61 l62 else if l62 < 0 then mX8_meet_J245 K R M63 r a0 i58 l59 l60 else mX8_meet_J231 K R M63 r a0 i58 l59 l60 l61 l62
noncomputable def mX8_meet_J203 (K : Kk) (R : Rr) (M71 : Mm) (r : Nat) (a0 : Int32) (i66 : Int32) (l67 : Int64) (l68 : Int64) (l69 : Int64) (l70 : Int64) : Option (Mm) :=
  if l67 < 0 then if l68 ≤ 0 then mX8_meet_J249 K R M71 r a0 i66 l67 l68 else mX8_meet_J217 K R M71 r a0 i66 l67 l68 l69 l70 else mX8_meet_J249 K R M71 r a0 i66 l67 l68
noncomputable def mX8_meet (K : Kk) (R : Rr) (M : Mm) (r : Nat) (a0 : Int32) (a1 : Int32) : Option (Mm) :=
  ck (isO K r 8) <| ck (¬ (M.1 r 15) = 0) <| nm ((a0 + 1) - (a0 + 1) / (M.1 r 15) * (M.1 r 15) : Int32) fun i75 => ck (¬ (M.1 r 18) = 0) <| nm ((a1 + 1) - (a1 + 1) / (M.1 r 18) * (M.1 r 18) : Int32) fun i77 => bd (R r 16) fun q78 => ck (ixA K q78 1 a1) <| bd (R r 17) fun q80 => ck (ixA K q80 1 a1) <| ck (ixA K q78 1 i77) <| ck (ixA K q80 1 i77) <| bd (R r 13) fun q84 => ck (ixA K q84 1 a0) <| bd (R r 14) fun q86 => ck (ixA K q86 1 a0) <| bd (mX8_side K R M (M.2 q78 a1.toNatClampNeg) (M.2 q80 a1.toNatClampNeg) (M.2 q78 i77.toNatClampNeg) (M.2 q80 i77.toNatClampNeg) (M.2 q84 a0.toNatClampNeg) (M.2 q86 a0.toNatClampNeg)) fun l88 => ck (ixA K q84 1 i75) <| ck (ixA K q86 1 i75) <| bd (mX8_side K R M (M.2 q78 a1.toNatClampNeg) (M.2 q80 a1.toNatClampNeg) (M.2 q78 i77.toNatClampNeg) (M.2 q80 i77.toNatClampNeg) (M.2 q84 i75.toNatClampNeg) (M.2 q86 i75.toNatClampNeg)) fun l91 => bd (mX8_side K R M (M.2 q84 a0.toNatClampNeg) (M.2 q86 a0.toNatClampNeg) (M.2 q84 i75.toNatClampNeg) (M.2 q86 i75.toNatClampNeg) (M.2 q78 a1.toNatClampNeg) (M.2 q80 a1.toNatClampNeg)) fun l92 => bd (mX8_side K R M (M.2 q84 a0.toNatClampNeg) (M.2 q86 a0.toNatClampNeg) (M.2 q84 i75.toNatClampNeg) (M.2 q86 i75.toNatClampNeg) (M.2 q78 i77.toNatClampNeg) (M.2 q80 i77.toNatClampNeg)) fun l93 => if l88 ≤ 0 then mX8_meet_J203 K R M r a0 i75 l88 l91 l92 l93 else if l91 < 0 then mX8_meet_J217 K R M r a0 i75 l88 l91 l92 l93 else mX8_meet_J203 K R M r a0 i75 l88 l91 l92 l93
noncomputable def mX8_inBoth_J54 (K : Kk) (R : Rr) (M8 : Mm) (r : Nat) (i7 : Int32) : Option ((Int32 × Mm) ⊕ (Mm)) :=
  nm (i7 + 1 : Int32) fun i9 => some (.inl (i9, M8))
noncomputable def mX8_inBoth_J105 (K : Kk) (R : Rr) (M15 : Mm) (r : Nat) (i14 : Int32) : Option ((Int32 × Mm) ⊕ (Mm)) :=
  nm (i14 + 1 : Int32) fun i16 => some (.inl (i16, M15))
noncomputable def mX8_inBoth_B123 (K : Kk) (R : Rr) (r : Nat) (i19 : Int32) (i25 : Int32) (M26 : Mm) : Option ((Int32 × Mm) ⊕ ((Int32 × Mm) ⊕ (Mm))) :=
  if i25 < (M26.1 r 18) then bd (mX8_meet K R M26 r i19 i25) fun M29 => nm (i25 + 1 : Int32) fun i30 => some (.inl (i30, M29)) else ex (nm (i19 + 1 : Int32) fun i28 => some (.inl (i28, M26)))
noncomputable def mX8_inBoth_L123 (K : Kk) (R : Rr) (r : Nat) (i19 : Int32) (σ : (Int32 × Mm)) : Option ((Int32 × Mm) ⊕ ((Int32 × Mm) ⊕ (Mm))) :=
  mX8_inBoth_B123 K R r i19 σ.1 σ.2
noncomputable def mX8_inBoth_B113 (K : Kk) (R : Rr) (r : Nat) (i19 : Int32) (M20 : Mm) : Option ((Int32 × Mm) ⊕ (Mm)) :=
  if i19 < (M20.1 r 15) then nm (0 : Int32) fun i24 => lp (mX8_inBoth_L123 K R r i19) (i24, M20) else ex (if (M20.1 r 36) = 0 then bd (mX8_outermost K R M20 r) fun M23 => some (M23) else some (M20))
noncomputable def mX8_inBoth_L113 (K : Kk) (R : Rr) (r : Nat) (σ : (Int32 × Mm)) : Option ((Int32 × Mm) ⊕ (Mm)) :=
  mX8_inBoth_B113 K R r σ.1 σ.2
noncomputable def mX8_inBoth_B62 (K : Kk) (R : Rr) (r : Nat) (i12 : Int32) (M13 : Mm) : Option ((Int32 × Mm) ⊕ (Mm)) :=
  if i12 < (M13.1 r 18) then bd (R r 16) fun q31 => ck (ixA K q31 1 i12) <| bd (R r 17) fun q33 => ck (ixA K q33 1 i12) <| bd (mX8_hasA K R M13 r (M13.2 q31 i12.toNatClampNeg) (M13.2 q33 i12.toNatClampNeg)) fun i35 => if i35 = 0 then mX8_inBoth_J105 K R M13 r i12 else bd (mX8_point K R M13 r (M13.2 q31 i12.toNatClampNeg) (M13.2 q33 i12.toNatClampNeg)) fun M37 => mX8_inBoth_J105 K R M37 r i12 else ex (nm (0 : Int32) fun i18 => lp (mX8_inBoth_L113 K R r) (i18, M13))
noncomputable def mX8_inBoth_L62 (K : Kk) (R : Rr) (r : Nat) (σ : (Int32 × Mm)) : Option ((Int32 × Mm) ⊕ (Mm)) :=
  mX8_inBoth_B62 K R r σ.1 σ.2
noncomputable def mX8_inBoth_B11 (K : Kk) (R : Rr) (r : Nat) (i5 : Int32) (M6 : Mm) : Option ((Int32 × Mm) ⊕ (Mm)) :=
  if i5 < (M6.1 r 15) then bd (R r 13) fun q38 => ck (ixA K q38 1 i5) <| bd (R r 14) fun q40 => ck (ixA K q40 1 i5) <| bd (mX8_hasB K R M6 r (M6.2 q38 i5.toNatClampNeg) (M6.2 q40 i5.toNatClampNeg)) fun i42 => if i42 = 0 then mX8_inBoth_J54 K R M6 r i5 else bd (mX8_point K R M6 r (M6.2 q38 i5.toNatClampNeg) (M6.2 q40 i5.toNatClampNeg)) fun M44 => mX8_inBoth_J54 K R M44 r i5 else ex (nm (0 : Int32) fun i11 => lp (mX8_inBoth_L62 K R r) (i11, M6))
noncomputable def mX8_inBoth_L11 (K : Kk) (R : Rr) (r : Nat) (σ : (Int32 × Mm)) : Option ((Int32 × Mm) ⊕ (Mm)) :=
  mX8_inBoth_B11 K R r σ.1 σ.2
noncomputable def mX8_inBoth (K : Kk) (R : Rr) (M : Mm) (r : Nat) : Option (Mm) :=
  ck (isO K r 8) <| nm (pI M r 36 0) fun M2 => bd (mX8_beginPoints K R M2 r) fun M3 => nm (0 : Int32) fun i4 => lp (mX8_inBoth_L11 K R r) (i4, M3)
noncomputable def mX8_lookPlan_B25 (K : Kk) (R : Rr) (r : Nat) (i2 : Int32) (i7 : Int32) (M8 : Mm) : Option ((Int32 × Mm) ⊕ (Mm)) :=
  if i7 < (M8.1 r 18) then bd (R r 16) fun q10 => bd (R r 5) fun q11 => ck (ixA K q11 1 ((i2 + 1) + (2 * i7))) <| ck (ixA K q10 1 i7) <| nm (pL M8 q10 i7.toNatClampNeg (M8.2 q11 ((i2 + 1) + (2 * i7)).toNatClampNeg)) fun M14 => bd (R r 17) fun q15 => ck (ixA K q11 1 ((i2 + 2) + (2 * i7))) <| ck (ixA K q15 1 i7) <| nm (pL M14 q15 i7.toNatClampNeg (M14.2 q11 ((i2 + 2) + (2 * i7)).toNatClampNeg)) fun M18 => nm (i7 + 1 : Int32) fun i19 => some (.inl (i19, M18)) else ex (some (M8))
noncomputable def mX8_lookPlan_L25 (K : Kk) (R : Rr) (r : Nat) (i2 : Int32) (σ : (Int32 × Mm)) : Option ((Int32 × Mm) ⊕ (Mm)) :=
  mX8_lookPlan_B25 K R r i2 σ.1 σ.2
noncomputable def mX8_lookPlan (K : Kk) (R : Rr) (M : Mm) (r : Nat) (a0 : Int32) (a1 : Int32) : Option (Mm) :=
  ck (isO K r 8) <| nm ((1481 * a0) + (37 * a1) : Int32) fun i2 => bd (R r 5) fun q3 => ck (ixA K q3 1 i2) <| nm (pI M r 18 ((M.2 q3 i2.toNatClampNeg).toInt32)) fun M5 => nm (0 : Int32) fun i6 => lp (mX8_lookPlan_L25 K R r i2) (i6, M5)
noncomputable def mX8_layThird_J128 (K : Kk) (R : Rr) (M : Mm) (r : Nat) (a0 : Int32) (i4 : Int32) (i7 : Int32) (l10 : Int64) (i15 : Int32) (s16 : Int32) : Option ((Int32 × Int32) ⊕ (Int64 × Mm)) :=
  nm (i15 + 1 : Int32) fun i17 => some (.inl (s16, i17))
noncomputable def mX8_layThird_J127 (K : Kk) (R : Rr) (M : Mm) (r : Nat) (a0 : Int32) (i4 : Int32) (i7 : Int32) (l10 : Int64) (i18 : Int32) : Option ((Int32 × Int32) ⊕ (Int64 × Mm)) :=
  mX8_layThird_J128 K R M r a0 i4 i7 l10 i18 (0)
noncomputable def mX8_layThird_B240 (K : Kk) (R : Rr) (r : Nat) (a0 : Int32) (i4 : Int32) (i7 : Int32) (l10 : Int64) (i34 : Int32) (M35 : Mm) : Option ((Int32 × Mm) ⊕ (Int64 × Mm)) :=
  if i34 < 37 then bd (R r 0) fun q54 => bd (R r 38) fun q55 => ck (ixA K q55 1 i34) <| ck (ixA K q54 1 i34) <| nm (pL M35 q54 i34.toNatClampNeg (M35.2 q55 i34.toNatClampNeg)) fun M58 => nm (i34 + 1 : Int32) fun i59 => some (.inl (i59, M58)) else ex (bd (R r 37) fun q37 => bd (mX8_get K R M35 r a0 33) fun l38 => ck (ixA K q37 1 ((37 * i4) + 33)) <| nm (pL M35 q37 ((37 * i4) + 33).toNatClampNeg (l38 * l10)) fun M40 => bd (mX8_get K R M40 r a0 34) fun l41 => bd (R r 5) fun q42 => ck (ixA K q42 1 (i7 + 34)) <| ck (ixA K q37 1 ((37 * i4) + 34)) <| nm (pL M40 q37 ((37 * i4) + 34).toNatClampNeg ((l10 * l41) + (M40.2 q42 (i7 + 34).toNatClampNeg))) fun M45 => bd (mX8_get K R M45 r a0 35) fun l46 => ck (ixA K q42 1 (i7 + 35)) <| ck (ixA K q37 1 ((37 * i4) + 35)) <| nm (pL M45 q37 ((37 * i4) + 35).toNatClampNeg ((l10 * l46) + (M45.2 q42 (i7 + 35).toNatClampNeg))) fun M49 => ck (ixA K q37 1 ((37 * i4) + 36)) <| nm (pL M49 q37 ((37 * i4) + 36).toNatClampNeg 0) fun M51 => ck (ixA K q37 1 1480) <| nm (pL M51 q37 1480 ((M51.2 q37 1480) + 1)) fun M53 => some (0, M53))
noncomputable def mX8_layThird_L240 (K : Kk) (R : Rr) (r : Nat) (a0 : Int32) (i4 : Int32) (i7 : Int32) (l10 : Int64) (σ : (Int32 × Mm)) : Option ((Int32 × Mm) ⊕ (Int64 × Mm)) :=
  mX8_layThird_B240 K R r a0 i4 i7 l10 σ.1 σ.2
noncomputable def mX8_layThird_B204 (K : Kk) (R : Rr) (r : Nat) (a0 : Int32) (i4 : Int32) (i7 : Int32) (l10 : Int64) (i30 : Int32) (M31 : Mm) : Option ((Int32 × Mm) ⊕ (Int64 × Mm)) :=
  if i30 < 33 then bd (R r 37) fun q60 => bd (R r 0) fun q61 => ck (ixA K q61 1 i30) <| ck (ixA K q60 1 ((37 * i4) + i30)) <| nm (pL M31 q60 ((37 * i4) + i30).toNatClampNeg (M31.2 q61 i30.toNatClampNeg)) fun M64 => nm (i30 + 1 : Int32) fun i65 => some (.inl (i65, M64)) else ex (nm (0 : Int32) fun i33 => lp (mX8_layThird_L240 K R r a0 i4 i7 l10) (i33, M31))
noncomputable def mX8_layThird_L204 (K : Kk) (R : Rr) (r : Nat) (a0 : Int32) (i4 : Int32) (i7 : Int32) (l10 : Int64) (σ : (Int32 × Mm)) : Option ((Int32 × Mm) ⊕ (Int64 × Mm)) :=
  mX8_layThird_B204 K R r a0 i4 i7 l10 σ.1 σ.2
noncomputable def mX8_layThird_B148 (K : Kk) (R : Rr) (r : Nat) (a0 : Int32) (i4 : Int32) (i7 : Int32) (l10 : Int64) (i22 : Int32) (M23 : Mm) : Option ((Int32 × Mm) ⊕ (Int64 × Mm)) :=
  if i22 < 37 then bd (R r 38) fun q66 => bd (R r 0) fun q67 => ck (ixA K q67 1 i22) <| ck (ixA K q66 1 i22) <| nm (pL M23 q66 i22.toNatClampNeg (M23.2 q67 i22.toNatClampNeg)) fun M70 => nm (i22 + 1 : Int32) fun i71 => some (.inl (i71, M70)) else ex (bd (mX8_get K R M23 r a0 33) fun l25 => bd (mX8_get K R M23 r a0 34) fun l26 => bd (mX8_get K R M23 r a0 35) fun l27 => bd (mX8_originOf K R M23 r 0 l25 l26 l27) fun M28 => nm (0 : Int32) fun i29 => lp (mX8_layThird_L204 K R r a0 i4 i7 l10) (i29, M28))
noncomputable def mX8_layThird_L148 (K : Kk) (R : Rr) (r : Nat) (a0 : Int32) (i4 : Int32) (i7 : Int32) (l10 : Int64) (σ : (Int32 × Mm)) : Option ((Int32 × Mm) ⊕ (Int64 × Mm)) :=
  mX8_layThird_B148 K R r a0 i4 i7 l10 σ.1 σ.2
noncomputable def mX8_layThird_B61 (K : Kk) (R : Rr) (M : Mm) (r : Nat) (a0 : Int32) (i4 : Int32) (i7 : Int32) (l10 : Int64) (i13 : Int32) (i14 : Int32) : Option ((Int32 × Int32) ⊕ (Int64 × Mm)) :=
  if i14 < (M.1 r 24) then if i13 = 0 then mX8_layThird_J127 K R M r a0 i4 i7 l10 i14 else bd (R r 22) fun q73 => ck (ixA K q73 1 i14) <| bd (R r 5) fun q75 => ck (ixA K q75 1 (i7 + 34)) <| bd (R r 23) fun q77 => ck (ixA K q77 1 i14) <| ck (ixA K q75 1 (i7 + 35)) <| bd (mX8_isPlace K R M ((l10 * (M.2 q73 i14.toNatClampNeg)) + (M.2 q75 (i7 + 34).toNatClampNeg)) ((l10 * (M.2 q77 i14.toNatClampNeg)) + (M.2 q75 (i7 + 35).toNatClampNeg))) fun i80 => if i80 = 0 then mX8_layThird_J127 K R M r a0 i4 i7 l10 i14 else mX8_layThird_J128 K R M r a0 i4 i7 l10 i14 (1) else ex (if i13 = 0 then some ((-9000000000000000001), M) else nm (0 : Int32) fun i21 => lp (mX8_layThird_L148 K R r a0 i4 i7 l10) (i21, M))
noncomputable def mX8_layThird_L61 (K : Kk) (R : Rr) (M : Mm) (r : Nat) (a0 : Int32) (i4 : Int32) (i7 : Int32) (l10 : Int64) (σ : (Int32 × Int32)) : Option ((Int32 × Int32) ⊕ (Int64 × Mm)) :=
  mX8_layThird_B61 K R M r a0 i4 i7 l10 σ.1 σ.2
noncomputable def mX8_layThird (K : Kk) (R : Rr) (M : Mm) (r : Nat) (a0 : Int32) (a1 : Int32) (a2 : Int32) : Option (Int64 × Mm) :=
  ck (isO K r 8) <| bd (R r 37) fun q2 => ck (ixA K q2 1 1480) <| nm ((M.2 q2 1480).toInt32 : Int32) fun i4 => if (M.1 r 24) ≤ 16 then if i4 = 40 then some ((-9000000000000000003), M) else nm ((1481 * a1) + (37 * a2) : Int32) fun i7 => bd (R r 5) fun q8 => ck (ixA K q8 1 (i7 + 33)) <| nm (M.2 q8 (i7 + 33).toNatClampNeg : Int64) fun l10 => nm (1 : Int32) fun i11 => nm (0 : Int32) fun i12 => lp (mX8_layThird_L61 K R M r a0 i4 i7 l10) (i11, i12) else some ((-9000000000000000003), M)
noncomputable def mX8_third_B159 (K : Kk) (R : Rr) (r : Nat) (i21 : Int32) (M22 : Mm) : Option ((Int32 × Mm) ⊕ (Int64 × Mm)) :=
  if i21 < 1481 then bd (R r 0) fun q25 => bd (R r 37) fun q26 => ck (ixA K q26 1 i21) <| ck (ixA K q25 1 i21) <| nm (pL M22 q25 i21.toNatClampNeg (M22.2 q26 i21.toNatClampNeg)) fun M29 => nm (i21 + 1 : Int32) fun i30 => some (.inl (i30, M29)) else ex (bd (mX8_pieces K R M22 r) fun i24 => some (i24.toInt64, M22))
noncomputable def mX8_third_L159 (K : Kk) (R : Rr) (r : Nat) (σ : (Int32 × Mm)) : Option ((Int32 × Mm) ⊕ (Int64 × Mm)) :=
  mX8_third_B159 K R r σ.1 σ.2
noncomputable def mX8_third_J141 (K : Kk) (R : Rr) (M35 : Mm) (r : Nat) (a0 : Int32) (i13 : Int32) (i15 : Int32) (i34 : Int32) : Option ((Int32 × Mm) ⊕ ((Int32 × Mm) ⊕ (Int64 × Mm))) :=
  nm (i34 + 1 : Int32) fun i36 => some (.inl (i36, M35))
noncomputable def mX8_third_B80 (K : Kk) (R : Rr) (r : Nat) (a0 : Int32) (i13 : Int32) (i15 : Int32) (i32 : Int32) (M33 : Mm) : Option ((Int32 × Mm) ⊕ ((Int32 × Mm) ⊕ (Int64 × Mm))) :=
  if i32 < i13 then bd (mX8_lookA K R M33 r i15) fun M39 => bd (mX8_lookPlan K R M39 r a0 i32) fun M40 => bd (mX8_inBoth K R M40 r) fun M41 => if (M41.1 r 36) = 0 then if (M41.1 r 24) < 3 then mX8_third_J141 K R M41 r a0 i13 i15 i32 else bd2 (mX8_layThird K R M41 r i15 a0 i32) fun l44 M45 => if l44 = 0 then mX8_third_J141 K R M45 r a0 i13 i15 i32 else ex (ex (some (l44, M45))) else ex (ex (some ((-9000000000000000004), M41))) else ex (nm (i15 + 1 : Int32) fun i38 => some (.inl (i38, M33)))
noncomputable def mX8_third_L80 (K : Kk) (R : Rr) (r : Nat) (a0 : Int32) (i13 : Int32) (i15 : Int32) (σ : (Int32 × Mm)) : Option ((Int32 × Mm) ⊕ ((Int32 × Mm) ⊕ (Int64 × Mm))) :=
  mX8_third_B80 K R r a0 i13 i15 σ.1 σ.2
noncomputable def mX8_third_B69 (K : Kk) (R : Rr) (r : Nat) (a0 : Int32) (i13 : Int32) (i15 : Int32) (M16 : Mm) : Option ((Int32 × Mm) ⊕ (Int64 × Mm)) :=
  bd (mX8_pieces K R M16 r) fun i17 => if i15 < i17 then nm (0 : Int32) fun i31 => lp (mX8_third_L80 K R r a0 i13 i15) (i31, M16) else ex (bd (mX8_keep K R M16 r) fun M19 => nm (0 : Int32) fun i20 => lp (mX8_third_L159 K R r) (i20, M19))
noncomputable def mX8_third_L69 (K : Kk) (R : Rr) (r : Nat) (a0 : Int32) (i13 : Int32) (σ : (Int32 × Mm)) : Option ((Int32 × Mm) ⊕ (Int64 × Mm)) :=
  mX8_third_B69 K R r a0 i13 σ.1 σ.2
noncomputable def mX8_third_B31 (K : Kk) (R : Rr) (r : Nat) (a0 : Int32) (i8 : Int32) (M9 : Mm) : Option ((Int32 × Mm) ⊕ (Int64 × Mm)) :=
  if i8 < 1481 then bd (R r 37) fun q47 => ck (ixA K q47 1 i8) <| nm (pL M9 q47 i8.toNatClampNeg 0) fun M49 => nm (i8 + 1 : Int32) fun i50 => some (.inl (i50, M49)) else ex (bd (R r 5) fun q11 => ck (ixA K q11 1 ((1481 * a0) + 1480)) <| nm ((M9.2 q11 ((1481 * a0) + 1480).toNatClampNeg).toInt32 : Int32) fun i13 => nm (0 : Int32) fun i14 => lp (mX8_third_L69 K R r a0 i13) (i14, M9))
noncomputable def mX8_third_L31 (K : Kk) (R : Rr) (r : Nat) (a0 : Int32) (σ : (Int32 × Mm)) : Option ((Int32 × Mm) ⊕ (Int64 × Mm)) :=
  mX8_third_B31 K R r a0 σ.1 σ.2
noncomputable def mX8_third (K : Kk) (R : Rr) (M : Mm) (r : Nat) (a0 : Int32) : Option (Int64 × Mm) :=
  ck (isO K r 8) <| bd (mX8_isIn K R M (a0.toInt64) 0 3) fun i2 => if i2 = 0 then some ((-9000000000000000001), M) else bd (R r 6) fun q4 => ck (ixA K q4 2 a0) <| if (M.1 q4 a0.toNatClampNeg) = 0 then some ((-9000000000000000002), M) else nm (0 : Int32) fun i7 => lp (mX8_third_L31 K R r a0) (i7, M)
noncomputable def mX8_count_J78 (K : Kk) (R : Rr) (M : Mm) (r : Nat) (i10 : Int32) (s11 : Int32) (s12 : Int32) : Option ((Int32 × Int32) ⊕ (Int64 × Mm)) :=
  nm (s11 + s12 : Int32) fun i13 => nm (i10 + 1 : Int32) fun i14 => some (.inl (i13, i14))
noncomputable def mX8_count_B58 (K : Kk) (R : Rr) (M : Mm) (r : Nat) (i8 : Int32) (i9 : Int32) : Option ((Int32 × Int32) ⊕ (Int64 × Mm)) :=
  if i9 < 5 then bd (R r 9) fun q16 => ck (ixA K q16 0 i9) <| if (M.1 q16 i9.toNatClampNeg) ≤ 0 then mX8_count_J78 K R M r i9 (i8) (0) else mX8_count_J78 K R M r i9 (i8) (1) else ex (some (i8.toInt64, M))
noncomputable def mX8_count_L58 (K : Kk) (R : Rr) (M : Mm) (r : Nat) (σ : (Int32 × Int32)) : Option ((Int32 × Int32) ⊕ (Int64 × Mm)) :=
  mX8_count_B58 K R M r σ.1 σ.2
noncomputable def mX8_count_J123 (K : Kk) (R : Rr) (M : Mm) (r : Nat) (i25 : Int32) (s26 : Int32) (s27 : Int32) : Option ((Int32 × Int32) ⊕ (Int64 × Mm)) :=
  nm (s26 + s27 : Int32) fun i28 => nm (i25 + 1 : Int32) fun i29 => some (.inl (i28, i29))
noncomputable def mX8_count_B103 (K : Kk) (R : Rr) (M : Mm) (r : Nat) (i23 : Int32) (i24 : Int32) : Option ((Int32 × Int32) ⊕ (Int64 × Mm)) :=
  if i24 < 4 then bd (R r 6) fun q31 => ck (ixA K q31 2 i24) <| if (M.1 q31 i24.toNatClampNeg) = 0 then mX8_count_J123 K R M r i24 (i23) (0) else mX8_count_J123 K R M r i24 (i23) (1) else ex (some (i23.toInt64, M))
noncomputable def mX8_count_L103 (K : Kk) (R : Rr) (M : Mm) (r : Nat) (σ : (Int32 × Int32)) : Option ((Int32 × Int32) ⊕ (Int64 × Mm)) :=
  mX8_count_B103 K R M r σ.1 σ.2
noncomputable def mX8_count (K : Kk) (R : Rr) (M : Mm) (r : Nat) (a0 : Int32) : Option (Int64 × Mm) :=
  ck (isO K r 8) <| nm (0 : Int32) fun i2 => if a0 = 0 then bd (mX8_pieces K R M r) fun i4 => some (i4.toInt64, M) else if a0 = 1 then some ((M.1 r 12).toInt64, M) else if a0 = 2 then nm (0 : Int32) fun i7 => lp (mX8_count_L58 K R M r) (i2, i7) else if a0 = 3 then some ((M.1 r 3).toInt64, M) else if a0 = 4 then some ((M.1 r 4).toInt64, M) else if a0 = 5 then nm (0 : Int32) fun i22 => lp (mX8_count_L103 K R M r) (i2, i22) else if a0 = 6 then bd2 (mX8_allAreas K R M r) fun l35 M36 => some (l35, M36) else some ((-9000000000000000001), M)
