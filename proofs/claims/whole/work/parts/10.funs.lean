/-! written by gen/all.py: every method as a plain function of the plain heap -/
def fJ0_length_8abf5 (x0 : Nat) (s : Hp) : Option (Int32 × Hp) := if (s.2.2 x0).1 = 40 ∧ (s.2.2 x0).2.1 < 28 then some (Int32.ofNat (sLen.getD (s.2.2 x0).2.1 0), s) else none
def fJ0_charAt_5068e (x0 : Nat) (x1 : Int32) (s : Hp) : Option (Int32 × Hp) := if (s.2.2 x0).1 = 40 ∧ (s.2.2 x0).2.1 < 28 ∧ ¬ (x1 < 0 ∨ sLen.getD (s.2.2 x0).2.1 0 ≤ x1.toNatClampNeg) then some ((sByt.getD (s.2.2 x0).2.1 []).getD x1.toNatClampNeg 0, s) else none

def fX0_init (x0 : Nat) (s : Hp) : Option (Hp) :=
  (ck s x0 0).bind fun _ =>
  (mkA s 21 (iI 5) (.long 0)).bind fun s1 =>
  (pR s1 x0 0 0 s.1).bind fun s2 =>
  some s2
def fX8_xOf (x0 : Int32) (s : Hp) : Option (Int32 × Hp) :=
  (mI x0 (iI 8)).bind fun v1 =>
  some (v1, s)
def fX8_yOf (x0 : Int32) (s : Hp) : Option (Int32 × Hp) :=
  (dI x0 (iI 8)).bind fun v1 =>
  some (v1, s)
def fX6_hasColumn_b28 (s : Hp) : Option (Int32 × Hp) :=
  some ((iI 0), s)
def fX6_hasColumn (x0 : Nat) (x1 : Int32) (x2 : Int32) (s : Hp) : Option (Int32 × Hp) :=
  (ck s x0 6).bind fun _ =>
  if x1 < 0 then
  (fX6_hasColumn_b28 s)
  else ((gI s x0 6 1).bind fun v2 =>
  if v2 ≤ x1 then
  (fX6_hasColumn_b28 s)
  else (if x2 < 0 then
  (fX6_hasColumn_b28 s)
  else ((gI s x0 6 2).bind fun v5 =>
  if v5 ≤ x2 then
  (fX6_hasColumn_b28 s)
  else (some ((iI 1), s)))))
def fX8_bitOf (x0 : Int32) (s : Hp) : Option (Int64 × Hp) :=
  some (lsh 1 x0, s)
def fX8_columnOf (x0 : Int32) (x1 : Int32) (s : Hp) : Option (Int32 × Hp) :=
  some ((x1 * (iI 8)) + x0, s)
def fX6_carried_b52 (x0 : Nat) (x1 : Int32) (x3 : Int32) (y0 : Int32) (y1 : Int32) (s : Hp) : Option (Int32 × Hp) :=
  lt_ (y0 - y1) fun z8 =>
  (fX6_hasColumn x0 x3 z8 s).bind fun r9 =>
  if r9.1 = 0 then
  (some (x1, r9.2))
  else ((fX8_columnOf x3 z8 r9.2).bind fun r11 =>
  some (r11.1, r11.2))
def fX6_carried_b41 (x0 : Nat) (x1 : Int32) (x2 : Int32) (x3 : Int32) (y0 : Int32) (y1 : Int32) (s : Hp) : Option (Int32 × Hp) :=
  if x2 = (iI 1) then
  (fX6_carried_b52 x0 x1 x3 (y0 + y1) (iI 1) s)
  else (fX6_carried_b52 x0 x1 x3 (y0 + y1) (iI 0) s)
def fX6_carried_b25 (x0 : Nat) (x1 : Int32) (x2 : Int32) (y0 : Int32) (y1 : Int32) (s : Hp) : Option (Int32 × Hp) :=
  lt_ (y0 - y1) fun z4 =>
  (fX8_yOf x1 s).bind fun r5 =>
  if x2 = (iI 3) then
  (fX6_carried_b41 x0 x1 x2 z4 r5.1 (iI 1) r5.2)
  else (fX6_carried_b41 x0 x1 x2 z4 r5.1 (iI 0) r5.2)
def fX6_carried_b14 (x0 : Nat) (x1 : Int32) (x2 : Int32) (y0 : Int32) (y1 : Int32) (s : Hp) : Option (Int32 × Hp) :=
  if x2 = (iI 4) then
  (fX6_carried_b25 x0 x1 x2 (y0 + y1) (iI 1) s)
  else (fX6_carried_b25 x0 x1 x2 (y0 + y1) (iI 0) s)
def fX6_carried (x0 : Nat) (x1 : Int32) (x2 : Int32) (s : Hp) : Option (Int32 × Hp) :=
  (ck s x0 6).bind fun _ =>
  (fX8_xOf x1 s).bind fun r1 =>
  if x2 = (iI 2) then
  (fX6_carried_b14 x0 x1 x2 r1.1 (iI 1) r1.2)
  else (fX6_carried_b14 x0 x1 x2 r1.1 (iI 0) r1.2)
def fX0_fit_l7 (x0 : Nat) (x1 : Nat) : (Int32 × Hp) → Option ((Int32 × Hp) ⊕ ((Hp))) := fun a =>
  if (iI 5) ≤ a.1 then
  (some (.inr a.2))
  else ((gR a.2 x0 0 0).bind fun v3 =>
  (sL a.2 v3 a.1 0).bind fun s4 =>
  some (.inl (a.1 + iI 1, s4)))
def fX0_fit_b105 (x0 : Nat) (x1 : Nat) (x2 : Int32) (x3 : Int32) (x4 : Int32) (s : Hp) : Option ((Int32 × Hp) ⊕ ((Hp))) :=
  some (.inl (x4 + iI 1, s))
def fX0_fit_l70 (x0 : Nat) (x1 : Nat) (x2 : Int32) (x3 : Int32) : (Int32 × Hp) → Option ((Int32 × Hp) ⊕ ((Hp))) := fun a =>
  if (iI 5) ≤ a.1 then
  (some (.inr a.2))
  else (if x3 = 0 then
  (some (.inr a.2))
  else ((fX6_carried x1 x2 a.1 a.2).bind fun r15 =>
  if r15.1 = x2 then
  ((gR r15.2 x0 0 0).bind fun v17 =>
  (aL r15.2 v17 a.1).bind fun v18 =>
  (fX8_bitOf x2 r15.2).bind fun r19 =>
  (sL r19.2 v17 a.1 (v18 ||| r19.1)).bind fun s20 =>
  fX0_fit_b105 x0 x1 x2 x3 a.1 s20)
  else (fX0_fit_b105 x0 x1 x2 x3 a.1 r15.2)))
def fX0_fit_b111 (x0 : Nat) (x1 : Nat) (x2 : Int32) (s : Hp) : Option ((Int32 × Hp) ⊕ ((Hp))) :=
  some (.inl (x2 + iI 1, s))
def fX0_fit_b63 (x0 : Nat) (x1 : Nat) (x2 : Int32) (x3 : Int32) (y0 : Nat) (y1 : Int64) (y2 : Int64) (s : Hp) : Option ((Int32 × Hp) ⊕ ((Hp))) :=
  (pL s y0 0 1 (y1 ||| y2)).bind fun s12 =>
  (iter (fX0_fit_l70 x0 x1 x2 x3) FU ((iI 0), s12)).bind fun r21 =>
  fX0_fit_b111 x0 x1 x2 r21
def fX0_fit_l27 (x0 : Nat) (x1 : Nat) : (Int32 × Hp) → Option ((Int32 × Hp) ⊕ ((Hp))) := fun a =>
  if (iI 64) ≤ a.1 then
  (some (.inr a.2))
  else ((fX8_xOf a.1 a.2).bind fun r7 =>
  (fX8_yOf a.1 r7.2).bind fun r8 =>
  (fX6_hasColumn x1 r7.1 r8.1 r8.2).bind fun r9 =>
  (gL r9.2 x0 0 1).bind fun v10 =>
  if r9.1 = 0 then
  (fX0_fit_b63 x0 x1 a.1 r9.1 x0 v10 0 r9.2)
  else ((fX8_bitOf a.1 r9.2).bind fun r22 =>
  fX0_fit_b63 x0 x1 a.1 r9.1 x0 v10 r22.1 r22.2))
def fX0_fit (x0 : Nat) (x1 : Nat) (s : Hp) : Option (Hp) :=
  (ck s x0 0).bind fun _ =>
  (pL s x0 0 1 0).bind fun s1 =>
  (iter (fX0_fit_l7 x0 x1) FU ((iI 0), s1)).bind fun r5 =>
  (iter (fX0_fit_l27 x0 x1) FU ((iI 0), r5)).bind fun r23 =>
  some r23
def fX0_shifted (x0 : Int64) (x2 : Int32) (s : Hp) : Option (Int64 × Hp) :=
  if x2 = (iI 1) then
  (some (lush x0 (iI 8), s))
  else (if x2 = (iI 2) then
  (some (lsh x0 (iI 1), s))
  else (if x2 = (iI 3) then
  (some (lsh x0 (iI 8), s))
  else (if x2 = (iI 4) then
  (some (lush x0 (iI 1), s))
  else (some (x0, s)))))
def fX0_carriedSet (x0 : Nat) (x1 : Int64) (x3 : Int32) (s : Hp) : Option (Int64 × Hp) :=
  (ck s x0 0).bind fun _ =>
  (gR s x0 0 0).bind fun v1 =>
  (aL s v1 x3).bind fun v2 =>
  lt_ (x1 &&& v2) fun z3 =>
  (fX0_shifted (x1 &&& (z3 ^^^ (-1))) x3 s).bind fun r4 =>
  some (z3 ||| r4.1, r4.2)
def fX0_reverseOf (x0 : Int32) (s : Hp) : Option (Int32 × Hp) :=
  if x0 = 0 then
  (some ((iI 0), s))
  else ((mI (x0 + (iI 1)) (iI 4)).bind fun v2 =>
  some (v2 + (iI 1), s))
def fX0_sourcesOf (x0 : Nat) (x1 : Int64) (x3 : Int32) (s : Hp) : Option (Int64 × Hp) :=
  (ck s x0 0).bind fun _ =>
  (fX0_reverseOf x3 s).bind fun r1 =>
  (fX0_shifted x1 r1.1 r1.2).bind fun r2 =>
  (gL r2.2 x0 0 1).bind fun v3 =>
  (gR r2.2 x0 0 0).bind fun v4 =>
  (aL r2.2 v4 x3).bind fun v5 =>
  lt_ ((r2.1 &&& v3) &&& (v5 ^^^ (-1))) fun z6 =>
  (gR r2.2 x0 0 0).bind fun v7 =>
  (aL r2.2 v7 x3).bind fun v8 =>
  some (z6 ||| (x1 &&& v8), r2.2)
def fX0_widened (x0 : Int64) (s : Hp) : Option (Int64 × Hp) :=
  lt_ ((x0 ||| (lsh (x0 &&& 9187201950435737471) (iI 1))) ||| (lush (x0 &&& (-72340172838076674)) (iI 1))) fun z1 =>
  some ((z1 ||| (lsh z1 (iI 8))) ||| (lush z1 (iI 8)), s)
def fX1_init (x0 : Nat) (s : Hp) : Option (Hp) :=
  (ck s x0 1).bind fun _ =>
  (mkA s 20 (iI 24) (.int 0)).bind fun s1 =>
  (pR s1 x0 1 0 s.1).bind fun s2 =>
  (pI s2 x0 1 6 (iI (-1))).bind fun s3 =>
  some s3
def fX1_take (x0 : Nat) (x1 : Nat) (x2 : Nat) (s : Hp) : Option (Hp) :=
  (ck s x0 1).bind fun _ =>
  (pR s x0 1 1 x1).bind fun s1 =>
  (pR s1 x0 1 2 x2).bind fun s2 =>
  some s2
def fX1_knows_b28 (s : Hp) : Option (Int32 × Hp) :=
  some ((iI 0), s)
def fX1_knows (x0 : Nat) (x1 : Int32) (x2 : Int32) (x3 : Int32) (s : Hp) : Option (Int32 × Hp) :=
  (ck s x0 1).bind fun _ =>
  (gI s x0 1 7).bind fun v1 =>
  if v1 = x1 then
  ((gI s x0 1 8).bind fun v3 =>
  if v3 = x2 then
  ((gI s x0 1 9).bind fun v5 =>
  if v5 = x3 then
  (some ((iI 1), s))
  else (fX1_knows_b28 s))
  else (fX1_knows_b28 s))
  else (fX1_knows_b28 s)
def fX1_remember (x0 : Nat) (x1 : Int32) (x2 : Int32) (x3 : Int32) (s : Hp) : Option (Hp) :=
  (ck s x0 1).bind fun _ =>
  (pI s x0 1 7 x1).bind fun s1 =>
  (pI s1 x0 1 8 x2).bind fun s2 =>
  (pI s2 x0 1 9 x3).bind fun s3 =>
  some s3
def fX1_actIn (x0 : Nat) (x1 : Int32) (s : Hp) : Option (Int32 × Hp) :=
  (ck s x0 1).bind fun _ =>
  (gI s x0 1 6).bind fun v1 =>
  if v1 < x1 then
  (some ((iI (-1)), s))
  else ((gR s x0 1 0).bind fun v3 =>
  (aI s v3 x1).bind fun v4 =>
  some (v4, s))
def fX2_placeOf (x0 : Int32) (x1 : Int32) (x2 : Int32) (s : Hp) : Option (Int32 × Hp) :=
  some ((((x0 * (iI 5)) + x1) * (iI 10)) + x2, s)
def fX2_leastAt_l3 (x0 : Nat) (x1 : Int32) (x2 : Int32) (x3 : Int64) : (Int32 × Hp) → Option ((Int32 × Hp) ⊕ ((Hp) ⊕ (Int32 × Hp))) := fun a =>
  if (iI 9) < a.1 then
  (some (.inr (.inl a.2)))
  else ((gR a.2 x0 2 0).bind fun v2 =>
  (fX2_placeOf x1 x2 a.1 a.2).bind fun r3 =>
  (aL r3.2 v2 r3.1).bind fun v4 =>
  if (lg_cmp (v4 &&& x3) 0) = 0 then
  (some (.inl (a.1 + iI 1, r3.2)))
  else (some (.inr (.inr (a.1, r3.2)))))
def fX2_leastAt (x0 : Nat) (x1 : Int32) (x2 : Int32) (x3 : Int64) (s : Hp) : Option (Int32 × Hp) :=
  (ck s x0 2).bind fun _ =>
  (iter (fX2_leastAt_l3 x0 x1 x2 x3) FU ((iI 0), s)).bind (Sum.elim (fun r6a => some ((iI 99), r6a)) (fun r6b => some (r6b.1, r6b.2)))
def fX2_soonestOf_l3 (x0 : Nat) (x1 : Int32) (x2 : Int32) (x3 : Int64) : (Int32 × Hp) → Option ((Int32 × Hp) ⊕ ((Hp) ⊕ (Int32 × Hp))) := fun a =>
  if x1 ≤ a.1 then
  (some (.inr (.inl a.2)))
  else ((fX2_leastAt x0 a.1 x2 x3 a.2).bind fun r2 =>
  if r2.1 = (iI 99) then
  (some (.inl (a.1 + iI 1, r2.2)))
  else (some (.inr (.inr (a.1, r2.2)))))
def fX2_soonestOf (x0 : Nat) (x1 : Int32) (x2 : Int32) (x3 : Int64) (s : Hp) : Option (Int32 × Hp) :=
  (ck s x0 2).bind fun _ =>
  (iter (fX2_soonestOf_l3 x0 x1 x2 x3) FU ((iI 0), s)).bind (Sum.elim (fun r4a => some ((iI (-1)), r4a)) (fun r4b => some (r4b.1, r4b.2)))
def fX6_shopFact (x0 : Nat) (x1 : Int32) (x2 : Int32) (s : Hp) : Option (Int32 × Hp) :=
  (ck s x0 6).bind fun _ =>
  (gR s x0 6 15).bind fun v1 =>
  (aI s v1 ((x1 * (iI 6)) + x2)).bind fun v2 =>
  some (v2, s)
def fX1_placeOf (x0 : Nat) (x1 : Int32) (x2 : Int32) (x3 : Int32) (x4 : Int32) (s : Hp) : Option (Int32 × Hp) :=
  (ck s x0 1).bind fun _ =>
  (gI s x0 1 4).bind fun v1 =>
  (gI s x0 1 5).bind fun v2 =>
  (gR s x0 1 3).bind fun v3 =>
  (gI s v3 6 3).bind fun v4 =>
  some ((((((x1 * (v1 + (iI 1))) + x2) * (v2 + (iI 1))) + x3) * v4) + x4, s)
def fX1_canAct_b51 (s : Hp) : Option (Int32 × Hp) :=
  some ((iI 1), s)
def fX1_canAct_b55 (s : Hp) : Option (Int32 × Hp) :=
  some ((iI 0), s)
def fX1_canAct_b31 (s : Hp) : Option (Int32 × Hp) :=
  some ((iI 0), s)
def fX1_canAct (x0 : Nat) (x1 : Int32) (x2 : Int32) (x3 : Int32) (x4 : Int32) (s : Hp) : Option (Int32 × Hp) :=
  (ck s x0 1).bind fun _ =>
  if x1 = (iI 1) then
  ((gI s x0 1 4).bind fun v6 =>
  if v6 ≤ x2 then
  (fX1_canAct_b31 s)
  else ((gR s x0 1 3).bind fun v8 =>
  (gI s v8 6 3).bind fun v9 =>
  if (v9 - (iI 1)) ≤ x4 then
  (fX1_canAct_b31 s)
  else (some ((iI 1), s))))
  else (if x1 = (iI 2) then
  ((gI s x0 1 5).bind fun v3 =>
  if v3 ≤ x3 then
  (fX1_canAct_b55 s)
  else (if x4 ≤ 0 then
  (fX1_canAct_b55 s)
  else (fX1_canAct_b51 s)))
  else (fX1_canAct_b51 s))
def fX1_levelBy_b22 (y0 : Int32) (y1 : Int32) (s : Hp) : Option (Int32 × Hp) :=
  some (y0 - y1, s)
def fX1_levelBy_b11 (x0 : Int32) (y0 : Int32) (y1 : Int32) (s : Hp) : Option (Int32 × Hp) :=
  if x0 = (iI 2) then
  (fX1_levelBy_b22 (y0 + y1) (iI 1) s)
  else (fX1_levelBy_b22 (y0 + y1) (iI 0) s)
def fX1_levelBy (x0 : Int32) (x1 : Int32) (s : Hp) : Option (Int32 × Hp) :=
  if x0 = (iI 1) then
  (fX1_levelBy_b11 x0 x1 (iI 1) s)
  else (fX1_levelBy_b11 x0 x1 (iI 0) s)
def fX6_coolsIn_b22 (s : Hp) : Option (Int32 × Hp) :=
  some ((iI 0), s)
def fX6_coolsIn (x0 : Nat) (x1 : Int32) (s : Hp) : Option (Int32 × Hp) :=
  (ck s x0 6).bind fun _ =>
  (gI s x0 6 5).bind fun v1 =>
  if v1 ≤ 0 then
  (fX6_coolsIn_b22 s)
  else ((gI s x0 6 5).bind fun v3 =>
  (mI (x1 + (iI 1)) v3).bind fun v4 =>
  if v4 = 0 then
  (some ((iI 1), s))
  else (fX6_coolsIn_b22 s))
def fX1_cooled (x0 : Nat) (x1 : Int32) (x2 : Int32) (s : Hp) : Option (Int32 × Hp) :=
  (ck s x0 1).bind fun _ =>
  (gR s x0 1 3).bind fun v1 =>
  (fX6_coolsIn v1 x2 s).bind fun r2 =>
  if r2.1 = 0 then
  (some (x1, r2.2))
  else (some (imax (iI 0) (x1 - (iI 1)), r2.2))
def fX1_goalOf_b26 (x0 : Nat) (x2 : Int32) (x5 : Int32) (x6 : Int32) (y0 : Int32) (y1 : Int32) (s : Hp) : Option (Int64 × Hp) :=
  lt_ (y0 + y1) fun z4 =>
  (gR s x0 1 1).bind fun v5 =>
  (fX1_cooled x0 x5 x2 s).bind fun r6 =>
  (fX1_placeOf x0 (x2 + (iI 1)) x6 z4 r6.1 r6.2).bind fun r7 =>
  (aL r7.2 v5 r7.1).bind fun v8 =>
  some (v8, r7.2)
def fX1_goalOf_b11 (x0 : Nat) (x1 : Int32) (x2 : Int32) (x4 : Int32) (x5 : Int32) (y0 : Int32) (y1 : Int32) (s : Hp) : Option (Int64 × Hp) :=
  lt_ (y0 + y1) fun z2 =>
  if x1 = (iI 2) then
  (fX1_goalOf_b26 x0 x2 x5 z2 x4 (iI 1) s)
  else (fX1_goalOf_b26 x0 x2 x5 z2 x4 (iI 0) s)
def fX1_goalOf (x0 : Nat) (x1 : Int32) (x2 : Int32) (x3 : Int32) (x4 : Int32) (x5 : Int32) (s : Hp) : Option (Int64 × Hp) :=
  (ck s x0 1).bind fun _ =>
  if x1 = (iI 1) then
  (fX1_goalOf_b11 x0 x1 x2 x4 x5 x3 (iI 1) s)
  else (fX1_goalOf_b11 x0 x1 x2 x4 x5 x3 (iI 0) s)
def fX6_windAt (x0 : Nat) (x1 : Int32) (x2 : Int32) (s : Hp) : Option (Int32 × Hp) :=
  (ck s x0 6).bind fun _ =>
  (gR s x0 6 14).bind fun v1 =>
  (aI s v1 ((x1 * (iI 24)) + x2)).bind fun v2 =>
  some (v2, s)
def fX1_leading_b71 (x0 : Nat) (x1 : Int32) (x2 : Int32) (x3 : Int32) (x4 : Int32) (x5 : Int64) (x7 : Int32) (s : Hp) : Option ((Int64 × Int32 × Hp) ⊕ ((Int64 × Hp))) :=
  some (.inl (x5, x7 + iI 1, s))
def fX1_leading_l6 (x0 : Nat) (x1 : Int32) (x2 : Int32) (x3 : Int32) (x4 : Int32) : (Int64 × Int32 × Hp) → Option ((Int64 × Int32 × Hp) ⊕ ((Int64 × Hp))) := fun a =>
  if (iI 3) ≤ a.2.1 then
  (some (.inr (a.1, a.2.2)))
  else ((fX1_canAct x0 a.2.1 x2 x3 x4 a.2.2).bind fun r2 =>
  if r2.1 = 0 then
  (fX1_leading_b71 x0 x1 x2 x3 x4 a.1 a.2.1 r2.2)
  else ((fX1_levelBy a.2.1 x4 r2.2).bind fun r4 =>
  (fX1_goalOf x0 a.2.1 x1 x2 x3 r4.1 r4.2).bind fun r5 =>
  (gR r5.2 x0 1 2).bind fun v6 =>
  (gR r5.2 x0 1 3).bind fun v7 =>
  (fX6_windAt v7 r4.1 x1 r5.2).bind fun r8 =>
  (fX0_sourcesOf v6 r5.1 r8.1 r8.2).bind fun r9 =>
  lt_ (a.1 ||| r9.1) fun z10 =>
  fX1_leading_b71 x0 x1 x2 x3 x4 z10 a.2.1 r9.2))
def fX1_leading (x0 : Nat) (x1 : Int32) (x2 : Int32) (x3 : Int32) (x4 : Int32) (s : Hp) : Option (Int64 × Hp) :=
  (ck s x0 1).bind fun _ =>
  (iter (fX1_leading_l6 x0 x1 x2 x3 x4) FU (0, (iI 0), s)).bind fun r11 =>
  some (r11.1, r11.2)
def fX1_markHour_l23 (x0 : Nat) (x1 : Int32) (x2 : Int32) (x3 : Int32) : (Int32 × Hp) → Option ((Int32 × Hp) ⊕ ((Hp))) := fun a =>
  (gR a.2 x0 1 3).bind fun v5 =>
  (gI a.2 v5 6 3).bind fun v6 =>
  if v6 ≤ a.1 then
  (some (.inr a.2))
  else ((gR a.2 x0 1 1).bind fun v8 =>
  (fX1_placeOf x0 x1 x2 x3 a.1 a.2).bind fun r9 =>
  (fX1_leading x0 x1 x2 x3 a.1 r9.2).bind fun r10 =>
  (sL r10.2 v8 r9.1 r10.1).bind fun s11 =>
  some (.inl (a.1 + iI 1, s11)))
def fX1_markHour_l12 (x0 : Nat) (x1 : Int32) (x2 : Int32) : (Int32 × Hp) → Option ((Int32 × Hp) ⊕ ((Hp))) := fun a =>
  (gI a.2 x0 1 5).bind fun v3 =>
  if v3 < a.1 then
  (some (.inr a.2))
  else ((iter (fX1_markHour_l23 x0 x1 x2 a.1) FU ((iI 0), a.2)).bind fun r12 =>
  some (.inl (a.1 + iI 1, r12)))
def fX1_markHour_l2 (x0 : Nat) (x1 : Int32) : (Int32 × Hp) → Option ((Int32 × Hp) ⊕ ((Hp))) := fun a =>
  (gI a.2 x0 1 4).bind fun v1 =>
  if v1 < a.1 then
  (some (.inr a.2))
  else ((iter (fX1_markHour_l12 x0 x1 a.1) FU ((iI 0), a.2)).bind fun r13 =>
  some (.inl (a.1 + iI 1, r13)))
def fX1_markHour (x0 : Nat) (x1 : Int32) (s : Hp) : Option (Hp) :=
  (ck s x0 1).bind fun _ =>
  (iter (fX1_markHour_l2 x0 x1) FU ((iI 0), s)).bind fun r14 =>
  some r14
def fX6_shopColumn (x0 : Nat) (x1 : Int32) (s : Hp) : Option (Int32 × Hp) :=
  (ck s x0 6).bind fun _ =>
  (fX6_shopFact x0 x1 (iI 0) s).bind fun r1 =>
  (fX6_shopFact x0 x1 (iI 1) r1.2).bind fun r2 =>
  (fX8_columnOf r1.1 r2.1 r2.2).bind fun r3 =>
  some (r3.1, r3.2)
def fX1_firstAct_b77 (x0 : Nat) (x1 : Int32) (x2 : Int32) (x3 : Int32) (x4 : Int32) (x5 : Int32) (x6 : Int32) (s : Hp) : Option ((Int32 × Hp) ⊕ ((Hp) ⊕ (Int32 × Hp))) :=
  some (.inl (x6 + iI 1, s))
def fX1_firstAct_l3 (x0 : Nat) (x1 : Int32) (x2 : Int32) (x3 : Int32) (x4 : Int32) (x5 : Int32) : (Int32 × Hp) → Option ((Int32 × Hp) ⊕ ((Hp) ⊕ (Int32 × Hp))) := fun a =>
  if (iI 3) ≤ a.1 then
  (some (.inr (.inl a.2)))
  else ((fX1_canAct x0 a.1 x2 x3 x4 a.2).bind fun r2 =>
  if r2.1 = 0 then
  (fX1_firstAct_b77 x0 x1 x2 x3 x4 x5 a.1 r2.2)
  else ((fX1_levelBy a.1 x4 r2.2).bind fun r4 =>
  (gR r4.2 x0 1 3).bind fun v5 =>
  (gR r4.2 x0 1 3).bind fun v6 =>
  (fX6_windAt v6 r4.1 x1 r4.2).bind fun r7 =>
  (fX6_carried v5 x5 r7.1 r7.2).bind fun r8 =>
  (fX1_goalOf x0 a.1 x1 x2 x3 r4.1 r8.2).bind fun r9 =>
  (fX8_bitOf r8.1 r9.2).bind fun r10 =>
  if (lg_cmp (r9.1 &&& r10.1) 0) = 0 then
  (fX1_firstAct_b77 x0 x1 x2 x3 x4 x5 a.1 r10.2)
  else (some (.inr (.inr (a.1, r10.2))))))
def fX1_firstAct (x0 : Nat) (x1 : Int32) (x2 : Int32) (x3 : Int32) (x4 : Int32) (x5 : Int32) (s : Hp) : Option (Int32 × Hp) :=
  (ck s x0 1).bind fun _ =>
  (iter (fX1_firstAct_l3 x0 x1 x2 x3 x4 x5) FU ((iI 0), s)).bind (Sum.elim (fun r12a => some ((iI 0), r12a)) (fun r12b => some (r12b.1, r12b.2)))
def fX1_walk_b97 (x0 : Nat) (x2 : Int32) (x4 : Int32) (x6 : Int32) (x8 : Int32) (y0 : Int32) (y1 : Int32) (s : Hp) : Option ((Int32 × Int32 × Int32 × Int32 × Int32 × Hp) ⊕ ((Hp))) :=
  lt_ (y0 + y1) fun z14 =>
  (gR s x0 1 3).bind fun v15 =>
  (gR s x0 1 3).bind fun v16 =>
  (fX6_windAt v16 x8 x6 s).bind fun r17 =>
  (fX6_carried v15 x2 r17.1 r17.2).bind fun r18 =>
  (fX1_cooled x0 x8 x6 r18.2).bind fun r19 =>
  some (.inl (r18.1, r19.1, x4, z14, x6 + iI 1, r19.2))
def fX1_walk_b81 (x0 : Nat) (x2 : Int32) (x5 : Int32) (x6 : Int32) (x7 : Int32) (x8 : Int32) (y0 : Int32) (y1 : Int32) (s : Hp) : Option ((Int32 × Int32 × Int32 × Int32 × Int32 × Hp) ⊕ ((Hp))) :=
  lt_ (y0 + y1) fun z12 =>
  if x7 = (iI 2) then
  (fX1_walk_b97 x0 x2 z12 x6 x8 x5 (iI 1) s)
  else (fX1_walk_b97 x0 x2 z12 x6 x8 x5 (iI 0) s)
def fX1_walk_l28 (x0 : Nat) : (Int32 × Int32 × Int32 × Int32 × Int32 × Hp) → Option ((Int32 × Int32 × Int32 × Int32 × Int32 × Hp) ⊕ ((Hp))) := fun a =>
  (gI a.2.2.2.2.2 x0 1 6).bind fun v5 =>
  if v5 < a.2.2.2.2.1 then
  (some (.inr a.2.2.2.2.2))
  else ((fX1_firstAct x0 a.2.2.2.2.1 a.2.2.1 a.2.2.2.1 a.2.1 a.1 a.2.2.2.2.2).bind fun r7 =>
  (fX1_levelBy r7.1 a.2.1 r7.2).bind fun r8 =>
  (gR r8.2 x0 1 0).bind fun v9 =>
  (sI r8.2 v9 a.2.2.2.2.1 r7.1).bind fun s10 =>
  if r7.1 = (iI 1) then
  (fX1_walk_b81 x0 a.1 a.2.2.2.1 a.2.2.2.2.1 r7.1 r8.1 a.2.2.1 (iI 1) s10)
  else (fX1_walk_b81 x0 a.1 a.2.2.2.1 a.2.2.2.2.1 r7.1 r8.1 a.2.2.1 (iI 0) s10))
def fX1_walk (x0 : Nat) (x1 : Int32) (s : Hp) : Option (Hp) :=
  (ck s x0 1).bind fun _ =>
  (gR s x0 1 3).bind fun v1 =>
  (fX6_shopColumn v1 x1 s).bind fun r2 =>
  (gR r2.2 x0 1 3).bind fun v3 =>
  (fX6_shopFact v3 x1 (iI 2) r2.2).bind fun r4 =>
  (iter (fX1_walk_l28 x0) FU (r2.1, r4.1, (iI 0), (iI 0), (iI 0), r4.2)).bind fun r20 =>
  some r20
def fX1_find_l92 (x0 : Nat) (x2 : Int32) (x4 : Int32) (x5 : Int32) (x6 : Int32) : (Int32 × Hp) → Option ((Int32 × Hp) ⊕ ((Hp))) := fun a =>
  if x6 ≤ a.1 then
  (some (.inr a.2))
  else ((gR a.2 x0 1 1).bind fun v20 =>
  (sL a.2 v20 a.1 0).bind fun s21 =>
  some (.inl (a.1 + iI 1, s21)))
def fX1_find_l116 (x0 : Nat) (x2 : Int32) (x4 : Int32) (x5 : Int32) : (Int32 × Hp) → Option ((Int32 × Hp) ⊕ ((Hp))) := fun a =>
  (gI a.2 x0 1 5).bind fun v23 =>
  if v23 < a.1 then
  (some (.inr a.2))
  else ((gR a.2 x0 1 1).bind fun v25 =>
  (gI a.2 x0 1 6).bind fun v26 =>
  (gI a.2 x0 1 4).bind fun v27 =>
  (fX1_placeOf x0 (v26 + (iI 1)) v27 a.1 x5 a.2).bind fun r28 =>
  (fX8_bitOf x4 r28.2).bind fun r29 =>
  (sL r29.2 v25 r28.1 r29.1).bind fun s30 =>
  some (.inl (a.1 + iI 1, s30)))
def fX1_find_l165 (x0 : Nat) (x2 : Int32) : (Int32 × Hp) → Option ((Int32 × Hp) ⊕ ((Hp))) := fun a =>
  if a.1 ≤ 0 then
  (some (.inr a.2))
  else ((fX1_markHour x0 a.1 a.2).bind fun s34 =>
  some (.inl (a.1 + iI (-1), s34)))
def fX1_find (x0 : Nat) (x1 : Nat) (x2 : Int32) (x3 : Nat) (x4 : Int32) (x5 : Int32) (s : Hp) : Option (Hp) :=
  (ck s x0 1).bind fun _ =>
  (pR s x0 1 3 x1).bind fun s1 =>
  (gI s1 x1 6 4).bind fun v2 =>
  (fX8_bitOf x4 s1).bind fun r3 =>
  (fX2_soonestOf x3 v2 x5 r3.1 r3.2).bind fun r4 =>
  (pI r4.2 x0 1 6 r4.1).bind fun s5 =>
  (gI s5 x0 1 6).bind fun v6 =>
  if v6 = (iI (-1)) then
  (some s5)
  else ((gI s5 x0 1 6).bind fun v8 =>
  (fX8_bitOf x4 s5).bind fun r9 =>
  (fX2_leastAt x3 v8 x5 r9.1 r9.2).bind fun r10 =>
  (pI r10.2 x0 1 4 r10.1).bind fun s11 =>
  (fX6_shopFact x1 x2 (iI 4) s11).bind fun r12 =>
  (pI r12.2 x0 1 5 r12.1).bind fun s13 =>
  (gI s13 x0 1 6).bind fun v14 =>
  (gI s13 x0 1 4).bind fun v15 =>
  (gI s13 x0 1 5).bind fun v16 =>
  (gI s13 x1 6 3).bind fun v17 =>
  lt_ ((((v14 + (iI 2)) * (v15 + (iI 1))) * (v16 + (iI 1))) * v17) fun z18 =>
  (iter (fX1_find_l92 x0 x2 x4 x5 z18) FU ((iI 0), s13)).bind fun r22 =>
  (iter (fX1_find_l116 x0 x2 x4 x5) FU ((iI 0), r22)).bind fun r31 =>
  (gI r31 x0 1 6).bind fun v32 =>
  (iter (fX1_find_l165 x0 x2) FU (v32, r31)).bind fun r35 =>
  (fX1_walk x0 x2 r35).bind fun s36 =>
  some s36)
def fX2_init (x0 : Nat) (s : Hp) : Option (Hp) :=
  (ck s x0 2).bind fun _ =>
  (mkA s 21 (iI 1200) (.long 0)).bind fun s1 =>
  (pR s1 x0 2 0 s.1).bind fun s2 =>
  (mkA s2 20 (iI 32) (.int 0)).bind fun s3 =>
  (pR s3 x0 2 1 s2.1).bind fun s4 =>
  (mkA s4 20 (iI 32) (.int 0)).bind fun s5 =>
  (pR s5 x0 2 2 s4.1).bind fun s6 =>
  some s6
def fX2_clearCells_l2 (x0 : Nat) : (Int32 × Hp) → Option ((Int32 × Hp) ⊕ ((Hp))) := fun a =>
  (gR a.2 x0 2 0).bind fun v1 =>
  (aN a.2 v1).bind fun v2 =>
  if v2 ≤ a.1 then
  (some (.inr a.2))
  else ((gR a.2 x0 2 0).bind fun v4 =>
  (sL a.2 v4 a.1 0).bind fun s5 =>
  some (.inl (a.1 + iI 1, s5)))
def fX2_clearCells (x0 : Nat) (s : Hp) : Option (Hp) :=
  (ck s x0 2).bind fun _ =>
  (iter (fX2_clearCells_l2 x0) FU ((iI 0), s)).bind fun r6 =>
  some r6
def fX2_addCells (x0 : Nat) (x1 : Int32) (x2 : Int32) (x3 : Int32) (x4 : Int64) (s : Hp) : Option (Hp) :=
  (ck s x0 2).bind fun _ =>
  (gR s x0 2 0).bind fun v1 =>
  (fX2_placeOf x1 x2 x3 s).bind fun r2 =>
  (aL r2.2 v1 r2.1).bind fun v3 =>
  (sL r2.2 v1 r2.1 (v3 ||| x4)).bind fun s4 =>
  some s4
def fX2_columnsAt_l5 (x0 : Nat) (x1 : Int32) (x2 : Int32) : (Int64 × Int32 × Hp) → Option ((Int64 × Int32 × Hp) ⊕ ((Int64 × Hp))) := fun a =>
  if (iI 9) < a.2.1 then
  (some (.inr (a.1, a.2.2)))
  else ((gR a.2.2 x0 2 0).bind fun v2 =>
  (fX2_placeOf x1 x2 a.2.1 a.2.2).bind fun r3 =>
  (aL r3.2 v2 r3.1).bind fun v4 =>
  lt_ (a.1 ||| v4) fun z5 =>
  some (.inl (z5, a.2.1 + iI 1, r3.2)))
def fX2_columnsAt (x0 : Nat) (x1 : Int32) (x2 : Int32) (s : Hp) : Option (Int64 × Hp) :=
  (ck s x0 2).bind fun _ =>
  (iter (fX2_columnsAt_l5 x0 x1 x2) FU (0, (iI 0), s)).bind fun r6 =>
  some (r6.1, r6.2)
def fX2_leastOfAll_l7 (x0 : Nat) (x1 : Int32) (x2 : Int32) (x3 : Int64) : (Int32 × Int32 × Hp) → Option ((Int32 × Int32 × Hp) ⊕ ((Int32 × Hp))) := fun a =>
  if x1 ≤ a.2.1 then
  (some (.inr (a.1, a.2.2)))
  else ((fX2_leastAt x0 a.2.1 x2 x3 a.2.2).bind fun r2 =>
  lt_ (imin a.1 r2.1) fun z3 =>
  some (.inl (z3, a.2.1 + iI 1, r2.2)))
def fX2_leastOfAll (x0 : Nat) (x1 : Int32) (x2 : Int32) (x3 : Int64) (s : Hp) : Option (Int32 × Hp) :=
  (ck s x0 2).bind fun _ =>
  (iter (fX2_leastOfAll_l7 x0 x1 x2 x3) FU ((iI 99), (iI 0), s)).bind fun r4 =>
  if r4.1 = (iI 99) then
  (some ((iI (-1)), r4.2))
  else (some (r4.1, r4.2))
def fX2_clearTours_l2 (x0 : Nat) : (Int32 × Hp) → Option ((Int32 × Hp) ⊕ ((Hp))) := fun a =>
  (gR a.2 x0 2 1).bind fun v1 =>
  (aN a.2 v1).bind fun v2 =>
  if v2 ≤ a.1 then
  (some (.inr a.2))
  else ((gR a.2 x0 2 1).bind fun v4 =>
  (sI a.2 v4 a.1 (iI 99)).bind fun s5 =>
  (gR s5 x0 2 2).bind fun v6 =>
  (sI s5 v6 a.1 (iI 99)).bind fun s7 =>
  some (.inl (a.1 + iI 1, s7)))
def fX2_clearTours (x0 : Nat) (s : Hp) : Option (Hp) :=
  (ck s x0 2).bind fun _ =>
  (iter (fX2_clearTours_l2 x0) FU ((iI 0), s)).bind fun r8 =>
  some r8
def fX2_addTour (x0 : Nat) (x1 : Int32) (x2 : Int32) (x3 : Int32) (s : Hp) : Option (Hp) :=
  (ck s x0 2).bind fun _ =>
  (gR s x0 2 1).bind fun v1 =>
  (gR s x0 2 1).bind fun v2 =>
  (aI s v2 x1).bind fun v3 =>
  (sI s v1 x1 (imin v3 x2)).bind fun s4 =>
  (gR s4 x0 2 2).bind fun v5 =>
  (gR s4 x0 2 2).bind fun v6 =>
  (aI s4 v6 x1).bind fun v7 =>
  (sI s4 v5 x1 (imin v7 x3)).bind fun s8 =>
  some s8
def fX2_spreadTours_l14 (x0 : Nat) (x1 : Int32) : (Int32 × Hp) → Option ((Int32 × Hp) ⊕ ((Hp))) := fun a =>
  if (iI 5) ≤ a.1 then
  (some (.inr a.2))
  else (lt_ (x1 &&& ((ish (iI 1) a.1) ^^^ (iI (-1)))) fun z6 =>
  (gR a.2 x0 2 1).bind fun v7 =>
  (aI a.2 v7 x1).bind fun v8 =>
  (gR a.2 x0 2 2).bind fun v9 =>
  (aI a.2 v9 x1).bind fun v10 =>
  (fX2_addTour x0 z6 v8 v10 a.2).bind fun s11 =>
  some (.inl (a.1 + iI 1, s11)))
def fX2_spreadTours_l8 (x0 : Nat) : (Int32 × Hp) → Option ((Int32 × Hp) ⊕ ((Hp))) := fun a =>
  if a.1 < 0 then
  (some (.inr a.2))
  else ((iter (fX2_spreadTours_l14 x0 a.1) FU ((iI 0), a.2)).bind fun r12 =>
  some (.inl (a.1 + iI (-1), r12)))
def fX2_spreadTours (x0 : Nat) (s : Hp) : Option (Hp) :=
  (ck s x0 2).bind fun _ =>
  (gR s x0 2 1).bind fun v1 =>
  (aN s v1).bind fun v2 =>
  lt_ (v2 - (iI 1)) fun z3 =>
  (iter (fX2_spreadTours_l8 x0) FU (z3, s)).bind fun r13 =>
  some r13
def fX2_sandOfTour (x0 : Nat) (x1 : Int32) (s : Hp) : Option (Int32 × Hp) :=
  (ck s x0 2).bind fun _ =>
  (gR s x0 2 1).bind fun v1 =>
  (aI s v1 x1).bind fun v2 =>
  if v2 = (iI 99) then
  (some ((iI (-1)), s))
  else ((gR s x0 2 1).bind fun v4 =>
  (aI s v4 x1).bind fun v5 =>
  some (v5, s))
def fX2_hourOfTour_b21 (s : Hp) : Option (Int32 × Hp) :=
  some ((iI (-1)), s)
def fX2_hourOfTour (x0 : Nat) (x1 : Int32) (s : Hp) : Option (Int32 × Hp) :=
  (ck s x0 2).bind fun _ =>
  (gR s x0 2 2).bind fun v1 =>
  (aI s v1 x1).bind fun v2 =>
  if v2 = (iI 99) then
  (fX2_hourOfTour_b21 s)
  else ((gR s x0 2 2).bind fun v4 =>
  (aI s v4 x1).bind fun v5 =>
  if v5 = (iI (-1)) then
  (fX2_hourOfTour_b21 s)
  else ((gR s x0 2 2).bind fun v7 =>
  (aI s v7 x1).bind fun v8 =>
  some (v8, s)))
def fX2_canTour (x0 : Nat) (x1 : Int32) (x2 : Int32) (s : Hp) : Option (Int32 × Hp) :=
  (ck s x0 2).bind fun _ =>
  (gR s x0 2 1).bind fun v1 =>
  (aI s v1 x1).bind fun v2 =>
  if x2 < v2 then
  (some ((iI 0), s))
  else (some ((iI 1), s))
def fX3_init (x0 : Nat) (s : Hp) : Option (Hp) :=
  (ck s x0 3).bind fun _ =>
  (pI s x0 3 1 (iI (-1))).bind fun s1 =>
  some s1
def fX6_clear_l72 (x0 : Nat) : (Int32 × Hp) → Option ((Int32 × Hp) ⊕ ((Hp))) := fun a =>
  (gR a.2 x0 6 14).bind fun v15 =>
  (aN a.2 v15).bind fun v16 =>
  if v16 ≤ a.1 then
  (some (.inr a.2))
  else ((gR a.2 x0 6 14).bind fun v18 =>
  (sI a.2 v18 a.1 (iI (-1))).bind fun s19 =>
  some (.inl (a.1 + iI 1, s19)))
def fX6_clear_l96 (x0 : Nat) : (Int32 × Hp) → Option ((Int32 × Hp) ⊕ ((Hp))) := fun a =>
  (gR a.2 x0 6 17).bind fun v21 =>
  (aN a.2 v21).bind fun v22 =>
  if v22 ≤ a.1 then
  (some (.inr a.2))
  else ((gR a.2 x0 6 17).bind fun v24 =>
  (sI a.2 v24 a.1 (iI 0)).bind fun s25 =>
  some (.inl (a.1 + iI 1, s25)))
def fX6_clear (x0 : Nat) (s : Hp) : Option (Hp) :=
  (ck s x0 6).bind fun _ =>
  (pI s x0 6 0 (iI 0)).bind fun s1 =>
  (pI s1 x0 6 1 (iI 0)).bind fun s2 =>
  (pI s2 x0 6 2 (iI 0)).bind fun s3 =>
  (pI s3 x0 6 3 (iI 0)).bind fun s4 =>
  (pI s4 x0 6 4 (iI 0)).bind fun s5 =>
  (pI s5 x0 6 5 (iI 0)).bind fun s6 =>
  (pI s6 x0 6 6 (iI 0)).bind fun s7 =>
  (pI s7 x0 6 7 (iI 0)).bind fun s8 =>
  (pI s8 x0 6 8 (iI 0)).bind fun s9 =>
  (pI s9 x0 6 9 (iI 0)).bind fun s10 =>
  (pI s10 x0 6 10 (iI (-1))).bind fun s11 =>
  (pI s11 x0 6 11 (iI 0)).bind fun s12 =>
  (pI s12 x0 6 12 (iI 0)).bind fun s13 =>
  (pI s13 x0 6 13 (iI 0)).bind fun s14 =>
  (iter (fX6_clear_l72 x0) FU ((iI 0), s14)).bind fun r20 =>
  (iter (fX6_clear_l96 x0) FU ((iI 0), r20)).bind fun r26 =>
  some r26
def fX3_isLetter_b16 (s : Hp) : Option (Int32 × Hp) :=
  some ((iI 0), s)
def fX3_isLetter (x0 : Int32) (s : Hp) : Option (Int32 × Hp) :=
  if x0 < (iI 97) then
  (fX3_isLetter_b16 s)
  else (if (iI 122) < x0 then
  (fX3_isLetter_b16 s)
  else (some ((iI 1), s)))
def fX3_isDigit_b16 (s : Hp) : Option (Int32 × Hp) :=
  some ((iI 0), s)
def fX3_isDigit (x0 : Int32) (s : Hp) : Option (Int32 × Hp) :=
  if x0 < (iI 48) then
  (fX3_isDigit_b16 s)
  else (if (iI 57) < x0 then
  (fX3_isDigit_b16 s)
  else (some ((iI 1), s)))
def fX3_advance_b39 (x0 : Nat) (s : Hp) : Option ((Hp) ⊕ ((Hp))) :=
  (gI s x0 3 4).bind fun v8 =>
  (pI s x0 3 4 (v8 + (iI 1))).bind fun s9 =>
  some (.inl s9)
def fX3_advance_l0 (x0 : Nat) : Hp → Option ((Hp) ⊕ ((Hp))) := fun a =>
  (gI a x0 3 4).bind fun v1 =>
  (gI a x0 3 3).bind fun v2 =>
  if v2 ≤ v1 then
  (some (.inr a))
  else ((gR a x0 3 2).bind fun v4 =>
  (gI a x0 3 4).bind fun v5 =>
  (aB a v4 v5).bind fun v6 =>
  if v6 = (iI 32) then
  (fX3_advance_b39 x0 a)
  else ((gR a x0 3 2).bind fun v10 =>
  (gI a x0 3 4).bind fun v11 =>
  (aB a v10 v11).bind fun v12 =>
  if v12 = (iI 10) then
  (fX3_advance_b39 x0 a)
  else (some (.inr a))))
def fX3_advance_b251 (x0 : Nat) (y0 : Nat) (y1 : Int32) (s : Hp) : Option (Hp) :=
  (pI s y0 3 5 y1).bind fun s34 =>
  (gI s34 x0 3 4).bind fun v35 =>
  (pI s34 x0 3 4 (v35 + (iI 1))).bind fun s36 =>
  some s36
def fX3_advance_l163 (x0 : Nat) : Hp → Option ((Hp) ⊕ ((Hp))) := fun a =>
  (gI a x0 3 4).bind fun v39 =>
  (gI a x0 3 3).bind fun v40 =>
  if v40 ≤ v39 then
  (some (.inr a))
  else ((gR a x0 3 2).bind fun v42 =>
  (gI a x0 3 4).bind fun v43 =>
  (aB a v42 v43).bind fun v44 =>
  (fX3_isDigit v44 a).bind fun r45 =>
  if r45.1 = 0 then
  (some (.inr r45.2))
  else ((gI r45.2 x0 3 7).bind fun v47 =>
  (gR r45.2 x0 3 2).bind fun v48 =>
  (gI r45.2 x0 3 4).bind fun v49 =>
  (aB r45.2 v48 v49).bind fun v50 =>
  (pI r45.2 x0 3 7 (imin (iI 1000000) (((v47 * (iI 10)) + v50) - (iI 48)))).bind fun s51 =>
  (gI s51 x0 3 4).bind fun v52 =>
  (pI s51 x0 3 4 (v52 + (iI 1))).bind fun s53 =>
  some (.inl s53)))
def fX3_advance_l99 (x0 : Nat) : Hp → Option ((Hp) ⊕ ((Hp))) := fun a =>
  (gI a x0 3 4).bind fun v56 =>
  (gI a x0 3 3).bind fun v57 =>
  if v57 ≤ v56 then
  (some (.inr a))
  else ((gR a x0 3 2).bind fun v59 =>
  (gI a x0 3 4).bind fun v60 =>
  (aB a v59 v60).bind fun v61 =>
  (fX3_isLetter v61 a).bind fun r62 =>
  if r62.1 = 0 then
  (some (.inr r62.2))
  else ((gI r62.2 x0 3 4).bind fun v64 =>
  (pI r62.2 x0 3 4 (v64 + (iI 1))).bind fun s65 =>
  some (.inl s65)))
def fX3_advance_b52 (x0 : Nat) (s : Hp) : Option (Hp) :=
  (gI s x0 3 4).bind fun v15 =>
  (pI s x0 3 6 v15).bind fun s16 =>
  (gI s16 x0 3 4).bind fun v17 =>
  (gI s16 x0 3 3).bind fun v18 =>
  if v17 < v18 then
  ((gR s16 x0 3 2).bind fun v20 =>
  (gI s16 x0 3 4).bind fun v21 =>
  (aB s16 v20 v21).bind fun v22 =>
  (fX3_isLetter v22 s16).bind fun r23 =>
  if r23.1 = 0 then
  ((gR r23.2 x0 3 2).bind fun v25 =>
  (gI r23.2 x0 3 4).bind fun v26 =>
  (aB r23.2 v25 v26).bind fun v27 =>
  (fX3_isDigit v27 r23.2).bind fun r28 =>
  if r28.1 = 0 then
  ((gR r28.2 x0 3 2).bind fun v30 =>
  (gI r28.2 x0 3 4).bind fun v31 =>
  (aB r28.2 v30 v31).bind fun v32 =>
  if v32 = (iI 59) then
  (fX3_advance_b251 x0 x0 (iI 3) r28.2)
  else (fX3_advance_b251 x0 x0 (iI 4) r28.2))
  else ((pI r28.2 x0 3 5 (iI 2)).bind fun s37 =>
  (pI s37 x0 3 7 (iI 0)).bind fun s38 =>
  (iter (fX3_advance_l163 x0) FU s38).bind fun r54 =>
  some r54))
  else ((pI r23.2 x0 3 5 (iI 1)).bind fun s55 =>
  (iter (fX3_advance_l99 x0) FU s55).bind fun r66 =>
  some r66))
  else ((pI s16 x0 3 5 (iI 0)).bind fun s67 =>
  some s67)
def fX3_advance (x0 : Nat) (s : Hp) : Option (Hp) :=
  (ck s x0 3).bind fun _ =>
  (iter (fX3_advance_l0 x0) FU s).bind fun r14 =>
  fX3_advance_b52 x0 r14
def fX3_isWord_b24 (s : Hp) : Option (Int32 × Hp) :=
  some ((iI 0), s)
def fX3_isWord_l28 (x0 : Nat) (x1 : Nat) : (Int32 × Hp) → Option ((Int32 × Hp) ⊕ ((Hp) ⊕ (Hp))) := fun a =>
  (fJ0_length_8abf5 x1 a.2).bind fun r7 =>
  if r7.1 ≤ a.1 then
  (some (.inr (.inl r7.2)))
  else ((gR r7.2 x0 3 2).bind fun v9 =>
  (gI r7.2 x0 3 6).bind fun v10 =>
  (aB r7.2 v9 (v10 + a.1)).bind fun v11 =>
  (fJ0_charAt_5068e x1 a.1 r7.2).bind fun r12 =>
  if v11 = r12.1 then
  (some (.inl (a.1 + iI 1, r12.2)))
  else (some (.inr (.inr r12.2))))
def fX3_isWord (x0 : Nat) (x1 : Nat) (s : Hp) : Option (Int32 × Hp) :=
  (ck s x0 3).bind fun _ =>
  (gI s x0 3 5).bind fun v1 =>
  if v1 = (iI 1) then
  ((gI s x0 3 4).bind fun v3 =>
  (gI s x0 3 6).bind fun v4 =>
  (fJ0_length_8abf5 x1 s).bind fun r5 =>
  if (v3 - v4) = r5.1 then
  ((iter (fX3_isWord_l28 x0 x1) FU ((iI 0), r5.2)).bind (Sum.elim (fun r14a => some ((iI 1), r14a)) (fun r14b => some ((iI 0), r14b))))
  else (fX3_isWord_b24 r5.2))
  else (fX3_isWord_b24 s)
def fX3_fail (x0 : Nat) (x1 : Int32) (x2 : Int32) (s : Hp) : Option (Hp) :=
  (ck s x0 3).bind fun _ =>
  (gI s x0 3 0).bind fun v1 =>
  if v1 = 0 then
  ((pI s x0 3 0 x1).bind fun s3 =>
  (pI s3 x0 3 1 x2).bind fun s4 =>
  some s4)
  else (some s)
def fX3_takeWord (x0 : Nat) (x1 : Nat) (s : Hp) : Option (Hp) :=
  (ck s x0 3).bind fun _ =>
  (fX3_isWord x0 x1 s).bind fun r1 =>
  if r1.1 = 0 then
  ((gI r1.2 x0 3 6).bind fun v3 =>
  (fX3_fail x0 (iI 1) v3 r1.2).bind fun s4 =>
  some s4)
  else ((fX3_advance x0 r1.2).bind fun s5 =>
  some s5)
def fX3_takeNumber_b51 (x0 : Nat) (x3 : Int32) (s : Hp) : Option (Int32 × Hp) :=
  (gI s x0 3 0).bind fun v7 =>
  if v7 = 0 then
  (some (x3, s))
  else (some ((iI 0), s))
def fX3_takeNumber_b35 (x0 : Nat) (x3 : Int32) (s : Hp) : Option (Int32 × Hp) :=
  (gI s x0 3 6).bind fun v5 =>
  (fX3_fail x0 (iI 2) v5 s).bind fun s6 =>
  fX3_takeNumber_b51 x0 x3 s6
def fX3_takeNumber (x0 : Nat) (x1 : Int32) (x2 : Int32) (s : Hp) : Option (Int32 × Hp) :=
  (ck s x0 3).bind fun _ =>
  (gI s x0 3 7).bind fun v1 =>
  (gI s x0 3 5).bind fun v2 =>
  if v2 = (iI 2) then
  (if v1 < x1 then
  (fX3_takeNumber_b35 x0 v1 s)
  else (if v1 ≤ x2 then
  ((fX3_advance x0 s).bind fun s10 =>
  fX3_takeNumber_b51 x0 v1 s10)
  else (fX3_takeNumber_b35 x0 v1 s)))
  else ((gI s x0 3 6).bind fun v11 =>
  (fX3_fail x0 (iI 1) v11 s).bind fun s12 =>
  fX3_takeNumber_b51 x0 v1 s12)
def fX3_readSizes (K : Nat → Nat) (x0 : Nat) (s : Hp) : Option (Hp) :=
  (ck s x0 3).bind fun _ =>
  (fX3_takeWord x0 (K 0) s).bind fun s1 =>
  (fX3_takeWord x0 (K 1) s1).bind fun s2 =>
  (gR s2 x0 3 9).bind fun v3 =>
  (fX3_takeNumber x0 (iI 2) (iI 8) s2).bind fun r4 =>
  (pI r4.2 v3 6 1 r4.1).bind fun s5 =>
  (fX3_takeWord x0 (K 2) s5).bind fun s6 =>
  (gR s6 x0 3 9).bind fun v7 =>
  (fX3_takeNumber x0 (iI 2) (iI 8) s6).bind fun r8 =>
  (pI r8.2 v7 6 2 r8.1).bind fun s9 =>
  (fX3_takeWord x0 (K 3) s9).bind fun s10 =>
  (gR s10 x0 3 9).bind fun v11 =>
  (fX3_takeNumber x0 (iI 2) (iI 5) s10).bind fun r12 =>
  (pI r12.2 v11 6 3 r12.1).bind fun s13 =>
  (fX3_takeWord x0 (K 4) s13).bind fun s14 =>
  (gR s14 x0 3 9).bind fun v15 =>
  (fX3_takeNumber x0 (iI 1) (iI 24) s14).bind fun r16 =>
  (pI r16.2 v15 6 4 r16.1).bind fun s17 =>
  (fX3_takeWord x0 (K 5) s17).bind fun s18 =>
  (gR s18 x0 3 9).bind fun v19 =>
  (fX3_takeNumber x0 (iI 0) (iI 24) s18).bind fun r20 =>
  (pI r20.2 v19 6 5 r20.1).bind fun s21 =>
  (gR s21 x0 3 9).bind fun v22 =>
  (pI s21 v22 6 7 (iI 9)).bind fun s23 =>
  some s23
def fX3_readSells (K : Nat → Nat) (x0 : Nat) (s : Hp) : Option (Hp) :=
  (ck s x0 3).bind fun _ =>
  (fX3_advance x0 s).bind fun s1 =>
  (fX3_takeWord x0 (K 7) s1).bind fun s2 =>
  (gR s2 x0 3 9).bind fun v3 =>
  (gR s2 x0 3 9).bind fun v4 =>
  (gI s2 v4 6 3).bind fun v5 =>
  (fX3_takeNumber x0 (iI 0) (v5 - (iI 1)) s2).bind fun r6 =>
  (pI r6.2 v3 6 6 r6.1).bind fun s7 =>
  (fX3_takeWord x0 (K 8) s7).bind fun s8 =>
  (gR s8 x0 3 9).bind fun v9 =>
  (fX3_takeNumber x0 (iI 0) (iI 99) s8).bind fun r10 =>
  (pI r10.2 v9 6 7 r10.1).bind fun s11 =>
  some s11
def fX3_windWord (K : Nat → Nat) (x0 : Nat) (s : Hp) : Option (Int32 × Hp) :=
  (ck s x0 3).bind fun _ =>
  (fX3_isWord x0 (K 11) s).bind fun r1 =>
  if r1.1 = 0 then
  ((fX3_isWord x0 (K 12) r1.2).bind fun r3 =>
  if r3.1 = 0 then
  ((fX3_isWord x0 (K 13) r3.2).bind fun r5 =>
  if r5.1 = 0 then
  ((fX3_isWord x0 (K 14) r5.2).bind fun r7 =>
  if r7.1 = 0 then
  ((fX3_isWord x0 (K 15) r7.2).bind fun r9 =>
  if r9.1 = 0 then
  (some ((iI (-1)), r9.2))
  else (some ((iI 4), r9.2)))
  else (some ((iI 3), r7.2)))
  else (some ((iI 2), r5.2)))
  else (some ((iI 1), r3.2)))
  else (some ((iI 0), r1.2))
def fX3_takeWind_b26 (K : Nat → Nat) (x1 : Int32) (s : Hp) : Option (Int32 × Hp) :=
  some (x1, s)
def fX3_takeWind (K : Nat → Nat) (x0 : Nat) (s : Hp) : Option (Int32 × Hp) :=
  (ck s x0 3).bind fun _ =>
  (fX3_windWord K x0 s).bind fun r1 =>
  if r1.1 = (iI (-1)) then
  ((gI r1.2 x0 3 6).bind fun v4 =>
  (fX3_fail x0 (iI 1) v4 r1.2).bind fun s5 =>
  fX3_takeWind_b26 K r1.1 s5)
  else ((fX3_advance x0 r1.2).bind fun s3 =>
  fX3_takeWind_b26 K r1.1 s3)
def fX3_readWind_b18 (K : Nat → Nat) (x0 : Nat) (s : Hp) : Option (Hp) :=
  (gI s x0 3 8).bind fun v3 =>
  (pI s x0 3 8 (v3 + (iI 1))).bind fun s4 =>
  (fX3_advance x0 s4).bind fun s5 =>
  (gR s5 x0 3 9).bind fun v6 =>
  (gI s5 v6 6 3).bind fun v7 =>
  (fX3_takeNumber x0 (iI 1) (v7 - (iI 1)) s5).bind fun r8 =>
  (fX3_takeWord x0 (K 10) r8.2).bind fun s9 =>
  (gR s9 x0 3 9).bind fun v10 =>
  (gI s9 v10 6 4).bind fun v11 =>
  (fX3_takeNumber x0 (iI 0) (v11 - (iI 1)) s9).bind fun r12 =>
  (fX3_takeWind K x0 r12.2).bind fun r13 =>
  (gI r13.2 x0 3 0).bind fun v14 =>
  if v14 = 0 then
  ((gR r13.2 x0 3 9).bind fun v16 =>
  (gR r13.2 v16 6 14).bind fun v17 =>
  (sI r13.2 v17 ((r8.1 * (iI 24)) + r12.1) r13.1).bind fun s18 =>
  some s18)
  else (some r13.2)
def fX3_readWind (K : Nat → Nat) (x0 : Nat) (s : Hp) : Option (Hp) :=
  (ck s x0 3).bind fun _ =>
  (gI s x0 3 8).bind fun v1 =>
  if v1 < (iI 20) then
  (fX3_readWind_b18 K x0 s)
  else ((gI s x0 3 6).bind fun v19 =>
  (fX3_fail x0 (iI 3) v19 s).bind fun s20 =>
  fX3_readWind_b18 K x0 s20)
def fX3_readShop_b20 (K : Nat → Nat) (x0 : Nat) (s : Hp) : Option (Hp) :=
  (fX3_advance x0 s).bind fun s4 =>
  (fX3_takeWord x0 (K 17) s4).bind fun s5 =>
  (gR s5 x0 3 9).bind fun v6 =>
  (gI s5 v6 6 1).bind fun v7 =>
  (fX3_takeNumber x0 (iI 0) (v7 - (iI 1)) s5).bind fun r8 =>
  (gR r8.2 x0 3 9).bind fun v9 =>
  (gI r8.2 v9 6 2).bind fun v10 =>
  (fX3_takeNumber x0 (iI 0) (v10 - (iI 1)) r8.2).bind fun r11 =>
  (gR r11.2 x0 3 9).bind fun v12 =>
  (gI r11.2 v12 6 3).bind fun v13 =>
  (fX3_takeNumber x0 (iI 0) (v13 - (iI 1)) r11.2).bind fun r14 =>
  (fX3_takeWord x0 (K 18) r14.2).bind fun s15 =>
  (fX3_takeNumber x0 (iI 0) (iI 9) s15).bind fun r16 =>
  (fX3_takeWord x0 (K 19) r16.2).bind fun s17 =>
  (fX3_takeNumber x0 (iI 0) (iI 9) s17).bind fun r18 =>
  (fX3_takeWord x0 (K 20) r18.2).bind fun s19 =>
  (fX3_takeNumber x0 (iI 0) (iI 9) s19).bind fun r20 =>
  (gI r20.2 x0 3 0).bind fun v21 =>
  if v21 = 0 then
  ((gR r20.2 x0 3 9).bind fun v23 =>
  (gI r20.2 v23 6 8).bind fun v24 =>
  lt_ (v24 * (iI 6)) fun z25 =>
  (gR r20.2 x0 3 9).bind fun v26 =>
  (gR r20.2 v26 6 15).bind fun v27 =>
  (sI r20.2 v27 (z25 + (iI 0)) r8.1).bind fun s28 =>
  (gR s28 x0 3 9).bind fun v29 =>
  (gR s28 v29 6 15).bind fun v30 =>
  (sI s28 v30 (z25 + (iI 1)) r11.1).bind fun s31 =>
  (gR s31 x0 3 9).bind fun v32 =>
  (gR s31 v32 6 15).bind fun v33 =>
  (sI s31 v33 (z25 + (iI 2)) r14.1).bind fun s34 =>
  (gR s34 x0 3 9).bind fun v35 =>
  (gR s34 v35 6 15).bind fun v36 =>
  (sI s34 v36 (z25 + (iI 3)) r16.1).bind fun s37 =>
  (gR s37 x0 3 9).bind fun v38 =>
  (gR s37 v38 6 15).bind fun v39 =>
  (sI s37 v39 (z25 + (iI 4)) r18.1).bind fun s40 =>
  (gR s40 x0 3 9).bind fun v41 =>
  (gR s40 v41 6 15).bind fun v42 =>
  (sI s40 v42 (z25 + (iI 5)) r20.1).bind fun s43 =>
  (gR s43 x0 3 9).bind fun v44 =>
  (gI s43 v44 6 8).bind fun v45 =>
  (pI s43 v44 6 8 (v45 + (iI 1))).bind fun s46 =>
  some s46)
  else (some r20.2)
def fX3_readShop (K : Nat → Nat) (x0 : Nat) (s : Hp) : Option (Hp) :=
  (ck s x0 3).bind fun _ =>
  (gR s x0 3 9).bind fun v1 =>
  (gI s v1 6 8).bind fun v2 =>
  if v2 < (iI 4) then
  (fX3_readShop_b20 K x0 s)
  else ((gI s x0 3 6).bind fun v47 =>
  (fX3_fail x0 (iI 3) v47 s).bind fun s48 =>
  fX3_readShop_b20 K x0 s48)
def fX6_doorFact (x0 : Nat) (x1 : Int32) (x2 : Int32) (s : Hp) : Option (Int32 × Hp) :=
  (ck s x0 6).bind fun _ =>
  (gR s x0 6 16).bind fun v1 =>
  (aI s v1 ((x1 * (iI 3)) + x2)).bind fun v2 =>
  some (v2, s)
def fX6_doorAt_l2 (x0 : Nat) (x1 : Int32) : (Int32 × Hp) → Option ((Int32 × Hp) ⊕ ((Hp) ⊕ (Int32 × Hp))) := fun a =>
  (gI a.2 x0 6 9).bind fun v1 =>
  if v1 ≤ a.1 then
  (some (.inr (.inl a.2)))
  else ((fX6_doorFact x0 a.1 (iI 0) a.2).bind fun r3 =>
  (fX6_doorFact x0 a.1 (iI 1) r3.2).bind fun r4 =>
  (fX8_columnOf r3.1 r4.1 r4.2).bind fun r5 =>
  if r5.1 = x1 then
  (some (.inr (.inr (a.1, r5.2))))
  else (some (.inl (a.1 + iI 1, r5.2))))
def fX6_doorAt (x0 : Nat) (x1 : Int32) (s : Hp) : Option (Int32 × Hp) :=
  (ck s x0 6).bind fun _ =>
  (iter (fX6_doorAt_l2 x0 x1) FU ((iI 0), s)).bind (Sum.elim (fun r7a => some ((iI (-1)), r7a)) (fun r7b => some (r7b.1, r7b.2)))
def fX3_readDoor_b87 (K : Nat → Nat) (x0 : Nat) (x1 : Int32) (x3 : Int32) (s : Hp) : Option (Hp) :=
  (fX3_takeWord x0 (K 22) s).bind fun s17 =>
  (fX3_takeNumber x0 (iI 0) (iI 9) s17).bind fun r18 =>
  (gI r18.2 x0 3 0).bind fun v19 =>
  if v19 = 0 then
  ((gR r18.2 x0 3 9).bind fun v21 =>
  (gI r18.2 v21 6 9).bind fun v22 =>
  lt_ (v22 * (iI 3)) fun z23 =>
  (gR r18.2 x0 3 9).bind fun v24 =>
  (gR r18.2 v24 6 16).bind fun v25 =>
  (sI r18.2 v25 (z23 + (iI 0)) x1).bind fun s26 =>
  (gR s26 x0 3 9).bind fun v27 =>
  (gR s26 v27 6 16).bind fun v28 =>
  (sI s26 v28 (z23 + (iI 1)) x3).bind fun s29 =>
  (gR s29 x0 3 9).bind fun v30 =>
  (gR s29 v30 6 16).bind fun v31 =>
  (sI s29 v31 (z23 + (iI 2)) r18.1).bind fun s32 =>
  (gR s32 x0 3 9).bind fun v33 =>
  (gI s32 v33 6 9).bind fun v34 =>
  (pI s32 v33 6 9 (v34 + (iI 1))).bind fun s35 =>
  some s35)
  else (some r18.2)
def fX3_readDoor_b20 (K : Nat → Nat) (x0 : Nat) (s : Hp) : Option (Hp) :=
  (fX3_advance x0 s).bind fun s4 =>
  (fX3_takeWord x0 (K 17) s4).bind fun s5 =>
  (gR s5 x0 3 9).bind fun v6 =>
  (gI s5 v6 6 1).bind fun v7 =>
  (fX3_takeNumber x0 (iI 0) (v7 - (iI 1)) s5).bind fun r8 =>
  (gI r8.2 x0 3 6).bind fun v9 =>
  (gR r8.2 x0 3 9).bind fun v10 =>
  (gI r8.2 v10 6 2).bind fun v11 =>
  (fX3_takeNumber x0 (iI 0) (v11 - (iI 1)) r8.2).bind fun r12 =>
  (gR r12.2 x0 3 9).bind fun v13 =>
  (fX8_columnOf r8.1 r12.1 r12.2).bind fun r14 =>
  (fX6_doorAt v13 r14.1 r14.2).bind fun r15 =>
  if r15.1 = (iI (-1)) then
  (fX3_readDoor_b87 K x0 r8.1 r12.1 r15.2)
  else ((fX3_fail x0 (iI 2) v9 r15.2).bind fun s36 =>
  fX3_readDoor_b87 K x0 r8.1 r12.1 s36)
def fX3_readDoor (K : Nat → Nat) (x0 : Nat) (s : Hp) : Option (Hp) :=
  (ck s x0 3).bind fun _ =>
  (gR s x0 3 9).bind fun v1 =>
  (gI s v1 6 9).bind fun v2 =>
  if v2 < (iI 5) then
  (fX3_readDoor_b20 K x0 s)
  else ((gI s x0 3 6).bind fun v37 =>
  (fX3_fail x0 (iI 3) v37 s).bind fun s38 =>
  fX3_readDoor_b20 K x0 s38)
def fX3_readFair (K : Nat → Nat) (x0 : Nat) (s : Hp) : Option (Hp) :=
  (ck s x0 3).bind fun _ =>
  (fX3_advance x0 s).bind fun s1 =>
  (fX3_takeWord x0 (K 17) s1).bind fun s2 =>
  (gR s2 x0 3 9).bind fun v3 =>
  (gI s2 v3 6 1).bind fun v4 =>
  (fX3_takeNumber x0 (iI 0) (v4 - (iI 1)) s2).bind fun r5 =>
  (gR r5.2 x0 3 9).bind fun v6 =>
  (gI r5.2 v6 6 2).bind fun v7 =>
  (fX3_takeNumber x0 (iI 0) (v7 - (iI 1)) r5.2).bind fun r8 =>
  (fX3_takeWord x0 (K 10) r8.2).bind fun s9 =>
  (gR s9 x0 3 9).bind fun v10 =>
  (gI s9 v10 6 4).bind fun v11 =>
  (fX3_takeNumber x0 (iI 0) (v11 - (iI 1)) s9).bind fun r12 =>
  (fX3_takeWord x0 (K 24) r12.2).bind fun s13 =>
  (gR s13 x0 3 9).bind fun v14 =>
  (gI s13 v14 6 4).bind fun v15 =>
  (fX3_takeNumber x0 r12.1 (v15 - (iI 1)) s13).bind fun r16 =>
  (gR r16.2 x0 3 9).bind fun v17 =>
  (fX8_columnOf r5.1 r8.1 r16.2).bind fun r18 =>
  (pI r18.2 v17 6 10 r18.1).bind fun s19 =>
  (gR s19 x0 3 9).bind fun v20 =>
  (pI s19 v20 6 11 r12.1).bind fun s21 =>
  (gR s21 x0 3 9).bind fun v22 =>
  (pI s21 v22 6 12 r16.1).bind fun s23 =>
  some s23
def fX6_setAct (x0 : Nat) (x1 : Int32) (x2 : Int32) (x3 : Int32) (s : Hp) : Option (Hp) :=
  (ck s x0 6).bind fun _ =>
  (gR s x0 6 17).bind fun v1 =>
  (sI s v1 ((x1 * (iI 24)) + x2) x3).bind fun s2 =>
  some s2
def fX3_readPlan_b62 (K : Nat → Nat) (x0 : Nat) (x1 : Int32) (x2 : Int32) (x3 : Int32) (y0 : Nat) (y1 : Nat) (s : Hp) : Option (Hp) :=
  (fX3_takeWord y0 y1 s).bind fun s11 =>
  (gI s11 x0 3 0).bind fun v12 =>
  if v12 = 0 then
  ((gR s11 x0 3 9).bind fun v14 =>
  (fX6_setAct v14 x1 x2 x3 s11).bind fun s15 =>
  some s15)
  else (some s11)
def fX3_readPlan_b48 (K : Nat → Nat) (x0 : Nat) (x1 : Int32) (x2 : Int32) (y0 : Int32) (s : Hp) : Option (Hp) :=
  if y0 = (iI 1) then
  (fX3_readPlan_b62 K x0 x1 x2 y0 x0 (K 26) s)
  else (fX3_readPlan_b62 K x0 x1 x2 y0 x0 (K 27) s)
def fX3_readPlan (K : Nat → Nat) (x0 : Nat) (s : Hp) : Option (Hp) :=
  (ck s x0 3).bind fun _ =>
  (fX3_advance x0 s).bind fun s1 =>
  (gR s1 x0 3 9).bind fun v2 =>
  (gI s1 v2 6 8).bind fun v3 =>
  (fX3_takeNumber x0 (iI 0) (v3 - (iI 1)) s1).bind fun r4 =>
  (gR r4.2 x0 3 9).bind fun v5 =>
  (gI r4.2 v5 6 4).bind fun v6 =>
  (fX3_takeNumber x0 (iI 0) (v6 - (iI 1)) r4.2).bind fun r7 =>
  (fX3_isWord x0 (K 26) r7.2).bind fun r8 =>
  if r8.1 = 0 then
  (fX3_readPlan_b48 K x0 r4.1 r7.1 (iI 2) r8.2)
  else (fX3_readPlan_b48 K x0 r4.1 r7.1 (iI 1) r8.2)
def fX3_readLine (K : Nat → Nat) (x0 : Nat) (s : Hp) : Option (Hp) :=
  (ck s x0 3).bind fun _ =>
  (gR s x0 3 9).bind fun v1 =>
  (gI s v1 6 0).bind fun v2 =>
  if v2 = 0 then
  ((fX3_readSizes K x0 s).bind fun s24 =>
  some s24)
  else ((fX3_isWord x0 (K 6) s).bind fun r4 =>
  if r4.1 = 0 then
  ((fX3_isWord x0 (K 9) r4.2).bind fun r6 =>
  if r6.1 = 0 then
  ((fX3_isWord x0 (K 16) r6.2).bind fun r8 =>
  if r8.1 = 0 then
  ((fX3_isWord x0 (K 21) r8.2).bind fun r10 =>
  if r10.1 = 0 then
  ((fX3_isWord x0 (K 23) r10.2).bind fun r12 =>
  if r12.1 = 0 then
  ((fX3_isWord x0 (K 25) r12.2).bind fun r14 =>
  if r14.1 = 0 then
  ((gI r14.2 x0 3 6).bind fun v16 =>
  (fX3_fail x0 (iI 1) v16 r14.2).bind fun s17 =>
  some s17)
  else ((fX3_readPlan K x0 r14.2).bind fun s18 =>
  some s18))
  else ((fX3_readFair K x0 r12.2).bind fun s19 =>
  some s19))
  else ((fX3_readDoor K x0 r10.2).bind fun s20 =>
  some s20))
  else ((fX3_readShop K x0 r8.2).bind fun s21 =>
  some s21))
  else ((fX3_readWind K x0 r6.2).bind fun s22 =>
  some s22))
  else ((fX3_readSells K x0 r4.2).bind fun s23 =>
  some s23))
def fX3_takeSign (x0 : Nat) (s : Hp) : Option (Hp) :=
  (ck s x0 3).bind fun _ =>
  (gI s x0 3 5).bind fun v1 =>
  if v1 = (iI 3) then
  ((fX3_advance x0 s).bind fun s5 =>
  some s5)
  else ((gI s x0 3 6).bind fun v3 =>
  (fX3_fail x0 (iI 1) v3 s).bind fun s4 =>
  some s4)
def fX6_spreadWinds_b44 (x0 : Nat) (x1 : Int32) (x3 : Int32) (x4 : Int32) (s : Hp) : Option ((Int32 × Int32 × Hp) ⊕ ((Hp))) :=
  (gR s x0 6 14).bind fun v7 =>
  (aI s v7 x4).bind fun v8 =>
  some (.inl (v8, x3 + iI 1, s))
def fX6_spreadWinds_l11 (x0 : Nat) (x1 : Int32) : (Int32 × Int32 × Hp) → Option ((Int32 × Int32 × Hp) ⊕ ((Hp))) := fun a =>
  if (iI 24) ≤ a.2.1 then
  (some (.inr a.2.2))
  else (lt_ ((x1 * (iI 24)) + a.2.1) fun z3 =>
  (gR a.2.2 x0 6 14).bind fun v4 =>
  (aI a.2.2 v4 z3).bind fun v5 =>
  if v5 = (iI (-1)) then
  ((gR a.2.2 x0 6 14).bind fun v9 =>
  (sI a.2.2 v9 z3 a.1).bind fun s10 =>
  fX6_spreadWinds_b44 x0 x1 a.2.1 z3 s10)
  else (fX6_spreadWinds_b44 x0 x1 a.2.1 z3 a.2.2))
def fX6_spreadWinds_l2 (x0 : Nat) : (Int32 × Hp) → Option ((Int32 × Hp) ⊕ ((Hp))) := fun a =>
  if (iI 5) ≤ a.1 then
  (some (.inr a.2))
  else ((iter (fX6_spreadWinds_l11 x0 a.1) FU ((iI 0), (iI 0), a.2)).bind fun r11 =>
  some (.inl (a.1 + iI 1, r11)))
def fX6_spreadWinds (x0 : Nat) (s : Hp) : Option (Hp) :=
  (ck s x0 6).bind fun _ =>
  (iter (fX6_spreadWinds_l2 x0) FU ((iI 0), s)).bind fun r12 =>
  some r12
def fX3_reads_l54 (K : Nat → Nat) (x0 : Nat) : (Int32 × Hp) → Option ((Int32 × Hp) ⊕ ((Hp))) := fun a =>
  (gI a.2 x0 3 3).bind fun v12 =>
  if v12 ≤ a.1 then
  (some (.inr a.2))
  else ((gI a.2 x0 3 5).bind fun v14 =>
  if v14 = 0 then
  (some (.inr a.2))
  else ((gI a.2 x0 3 0).bind fun v16 =>
  if v16 = 0 then
  ((fX3_readLine K x0 a.2).bind fun s18 =>
  (fX3_takeSign x0 s18).bind fun s19 =>
  (gR s19 x0 3 9).bind fun v20 =>
  (gI s19 v20 6 0).bind fun v21 =>
  (pI s19 v20 6 0 (v21 + (iI 1))).bind fun s22 =>
  some (.inl (a.1 + iI 1, s22)))
  else (some (.inr a.2))))
def fX3_reads_b104 (K : Nat → Nat) (x0 : Nat) (s : Hp) : Option (Int32 × Hp) :=
  (gR s x0 3 9).bind fun v24 =>
  (fX6_spreadWinds v24 s).bind fun s25 =>
  (gI s25 x0 3 0).bind fun v26 =>
  if v26 = 0 then
  (some ((iI 1), s25))
  else (some ((iI 0), s25))
def fX3_reads (K : Nat → Nat) (x0 : Nat) (x1 : Nat) (x2 : Int32) (x3 : Nat) (s : Hp) : Option (Int32 × Hp) :=
  (ck s x0 3).bind fun _ =>
  (pR s x0 3 2 x1).bind fun s1 =>
  (aN s1 x1).bind fun v2 =>
  (pI s1 x0 3 3 (imin x2 v2)).bind fun s3 =>
  (pR s3 x0 3 9 x3).bind fun s4 =>
  (gR s4 x0 3 9).bind fun v5 =>
  (fX6_clear v5 s4).bind fun s6 =>
  (pI s6 x0 3 0 (iI 0)).bind fun s7 =>
  (pI s7 x0 3 1 (iI (-1))).bind fun s8 =>
  (pI s8 x0 3 4 (iI 0)).bind fun s9 =>
  (pI s9 x0 3 8 (iI 0)).bind fun s10 =>
  (fX3_advance x0 s10).bind fun s11 =>
  (iter (fX3_reads_l54 K x0) FU ((iI 0), s11)).bind fun r23 =>
  fX3_reads_b104 K x0 r23
def fX4_init_l45 (x0 : Nat) : (Int32 × Hp) → Option ((Int32 × Hp) ⊕ ((Hp))) := fun a =>
  if (iI 4) ≤ a.1 then
  (some (.inr a.2))
  else ((gR a.2 x0 4 3).bind fun v12 =>
  lt_ (mk a.2 (2, 5, df2)) fun s13 =>
  (fX2_init a.2.1 s13).bind fun s14 =>
  (sR s14 26 2 v12 a.1 a.2.1).bind fun s15 =>
  some (.inl (a.1 + iI 1, s15)))
def fX4_init (x0 : Nat) (s : Hp) : Option (Hp) :=
  (ck s x0 4).bind fun _ =>
  (mkA s 21 (iI 16000) (.long 0)).bind fun s1 =>
  (pR s1 x0 4 0 s.1).bind fun s2 =>
  lt_ (mk s2 (0, 2, df0)) fun s3 =>
  (fX0_init s2.1 s3).bind fun s4 =>
  (pR s4 x0 4 1 s2.1).bind fun s5 =>
  lt_ (mk s5 (1, 10, df1)) fun s6 =>
  (fX1_init s5.1 s6).bind fun s7 =>
  (pR s7 x0 4 2 s5.1).bind fun s8 =>
  (mkA s8 26 (iI 4) .null).bind fun s9 =>
  (pR s9 x0 4 3 s8.1).bind fun s10 =>
  (iter (fX4_init_l45 x0) FU ((iI 0), s10)).bind fun r16 =>
  some r16
def fX4_blockCount (x0 : Nat) (s : Hp) : Option (Int32 × Hp) :=
  (ck s x0 4).bind fun _ =>
  (gI s x0 4 7).bind fun v1 =>
  (gI s x0 4 8).bind fun v2 =>
  (gR s x0 4 4).bind fun v3 =>
  (gI s v3 6 3).bind fun v4 =>
  some (((v1 + (iI 1)) * (v2 + (iI 1))) * v4, s)
def fX4_placeOf (x0 : Nat) (x1 : Int32) (x2 : Int32) (x3 : Int32) (s : Hp) : Option (Int32 × Hp) :=
  (ck s x0 4).bind fun _ =>
  (gI s x0 4 8).bind fun v1 =>
  (gR s x0 4 4).bind fun v2 =>
  (gI s v2 6 3).bind fun v3 =>
  (gI s x0 4 9).bind fun v4 =>
  some (((((x1 * (v1 + (iI 1))) + x2) * v3) + x3) * v4, s)
def fX4_prepare_l66 (x0 : Nat) (x1 : Nat) (x2 : Int32) (x3 : Int32) : (Int32 × Hp) → Option ((Int32 × Hp) ⊕ ((Hp))) := fun a =>
  (fX4_blockCount x0 a.2).bind fun r12 =>
  (gI r12.2 x0 4 9).bind fun v13 =>
  if (r12.1 * v13) ≤ a.1 then
  (some (.inr r12.2))
  else ((gR r12.2 x0 4 0).bind fun v15 =>
  (sL r12.2 v15 a.1 0).bind fun s16 =>
  some (.inl (a.1 + iI 1, s16)))
def fX4_prepare_b125 (y0 : Nat) (y1 : Int32) (y2 : Int64) (s : Hp) : Option (Hp) :=
  (sL s y0 y1 y2).bind fun s24 =>
  some s24
def fX4_prepare (x0 : Nat) (x1 : Nat) (x2 : Int32) (x3 : Int32) (x4 : Int32) (s : Hp) : Option (Hp) :=
  (ck s x0 4).bind fun _ =>
  (pR s x0 4 4 x1).bind fun s1 =>
  (pI s1 x0 4 10 x3).bind fun s2 =>
  (pI s2 x0 4 9 (imax (iI 1) (imin x4 (iI 32)))).bind fun s3 =>
  (fX6_shopFact x1 x2 (iI 2) s3).bind fun r4 =>
  (pI r4.2 x0 4 6 r4.1).bind fun s5 =>
  (fX6_shopFact x1 x2 (iI 3) s5).bind fun r6 =>
  (pI r6.2 x0 4 7 r6.1).bind fun s7 =>
  (fX6_shopFact x1 x2 (iI 4) s7).bind fun r8 =>
  (pI r8.2 x0 4 8 r8.1).bind fun s9 =>
  (gR s9 x0 4 1).bind fun v10 =>
  (fX0_fit v10 x1 s9).bind fun s11 =>
  (iter (fX4_prepare_l66 x0 x1 x2 x3) FU ((iI 0), s11)).bind fun r17 =>
  (gR r17 x0 4 0).bind fun v18 =>
  (gI r17 x0 4 6).bind fun v19 =>
  (fX4_placeOf x0 (iI 0) (iI 0) v19 r17).bind fun r20 =>
  if x3 = (iI 4) then
  (fX4_prepare_b125 v18 r20.1 1 r20.2)
  else ((fX6_shopColumn x1 x2 r20.2).bind fun r22 =>
  (fX8_bitOf r22.1 r22.2).bind fun r23 =>
  fX4_prepare_b125 v18 r20.1 r23.1 r23.2)
def fX6_coolings (x0 : Nat) (x1 : Int32) (s : Hp) : Option (Int32 × Hp) :=
  (ck s x0 6).bind fun _ =>
  (gI s x0 6 5).bind fun v1 =>
  if v1 ≤ 0 then
  (some ((iI 0), s))
  else ((gI s x0 6 5).bind fun v3 =>
  (dI x1 v3).bind fun v4 =>
  some (v4, s))
def fX4_joined (x0 : Nat) (x1 : Int64) (x3 : Int64) (s : Hp) : Option (Int64 × Hp) :=
  (ck s x0 4).bind fun _ =>
  (gI s x0 4 10).bind fun v1 =>
  if v1 = (iI 4) then
  (some (x1 + x3, s))
  else (some (x1 ||| x3, s))
def fX4_passLayer_b207 (x0 : Nat) (x5 : Int32) (x6 : Int32) (x7 : Int32) (x8 : Int32) (x9 : Int32) (x10 : Int32) (x11 : Int32) (y0 : Nat) (y1 : Int32) (y2 : Int64) (s : Hp) : Option ((Int32 × Hp) ⊕ ((Hp))) :=
  (sL s y0 y1 y2).bind fun s19 =>
  some (.inl (x11 + iI 1, s19))
def fX4_passLayer_b174 (x0 : Nat) (x5 : Int32) (x6 : Int32) (x7 : Int32) (x8 : Int32) (x9 : Int32) (x10 : Int32) (x11 : Int32) (x12 : Int64) (s : Hp) : Option ((Int32 × Hp) ⊕ ((Hp))) :=
  (gR s x0 4 0).bind fun v14 =>
  (gI s x0 4 10).bind fun v15 =>
  if v15 = (iI 4) then
  (fX4_passLayer_b207 x0 x5 x6 x7 x8 x9 x10 x11 v14 (x5 + x11) x12 s)
  else ((gR s x0 4 1).bind fun v17 =>
  (fX0_carriedSet v17 x12 x10 s).bind fun r18 =>
  fX4_passLayer_b207 x0 x5 x6 x7 x8 x9 x10 x11 v14 (x5 + x11) r18.1 r18.2)
def fX4_passLayer_b151 (x0 : Nat) (x5 : Int32) (x6 : Int32) (x7 : Int32) (x8 : Int32) (x9 : Int32) (x10 : Int32) (x11 : Int32) (x12 : Int64) (s : Hp) : Option ((Int32 × Hp) ⊕ ((Hp))) :=
  if x7 = 0 then
  (fX4_passLayer_b174 x0 x5 x6 x7 x8 x9 x10 x11 x12 s)
  else ((gR s x0 4 0).bind fun v20 =>
  (aL s v20 (x9 + x11)).bind fun v21 =>
  (fX4_joined x0 x12 v21 s).bind fun r22 =>
  fX4_passLayer_b174 x0 x5 x6 x7 x8 x9 x10 x11 r22.1 r22.2)
def fX4_passLayer_l107 (x0 : Nat) (x5 : Int32) (x6 : Int32) (x7 : Int32) (x8 : Int32) (x9 : Int32) (x10 : Int32) : (Int32 × Hp) → Option ((Int32 × Hp) ⊕ ((Hp))) := fun a =>
  (gI a.2 x0 4 9).bind fun v8 =>
  if v8 ≤ a.1 then
  (some (.inr a.2))
  else ((gR a.2 x0 4 0).bind fun v10 =>
  (aL a.2 v10 (x5 + a.1)).bind fun v11 =>
  if x6 = 0 then
  (fX4_passLayer_b151 x0 x5 x6 x7 x8 x9 x10 a.1 v11 a.2)
  else ((gR a.2 x0 4 0).bind fun v23 =>
  (aL a.2 v23 (x8 + a.1)).bind fun v24 =>
  (fX4_joined x0 v11 v24 a.2).bind fun r25 =>
  fX4_passLayer_b151 x0 x5 x6 x7 x8 x9 x10 a.1 r25.1 r25.2))
def fX4_passLayer_b90 (x0 : Nat) (x3 : Int32) (x4 : Int32) (x5 : Int32) (x6 : Int32) (x7 : Int32) (x8 : Int32) (y0 : Int32) (s : Hp) : Option (Hp) :=
  (gR s x0 4 4).bind fun v6 =>
  (fX6_windAt v6 x3 x4 s).bind fun r7 =>
  (iter (fX4_passLayer_l107 x0 x5 x6 x7 x8 y0 r7.1) FU ((iI 0), r7.2)).bind fun r26 =>
  some r26
def fX4_passLayer_b68 (x0 : Nat) (x1 : Int32) (x2 : Int32) (x3 : Int32) (x4 : Int32) (x5 : Int32) (x6 : Int32) (x7 : Int32) (y0 : Int32) (s : Hp) : Option (Hp) :=
  if x7 = 0 then
  (fX4_passLayer_b90 x0 x3 x4 x5 x6 x7 y0 (iI 0) s)
  else ((fX4_placeOf x0 x1 (x2 - (iI 1)) (x3 + (iI 1)) s).bind fun r27 =>
  fX4_passLayer_b90 x0 x3 x4 x5 x6 x7 y0 r27.1 r27.2)
def fX4_passLayer_b46 (x0 : Nat) (x1 : Int32) (x2 : Int32) (x3 : Int32) (x4 : Int32) (x5 : Int32) (x6 : Int32) (y0 : Int32) (s : Hp) : Option (Hp) :=
  if x6 = 0 then
  (fX4_passLayer_b68 x0 x1 x2 x3 x4 x5 x6 y0 (iI 0) s)
  else ((fX4_placeOf x0 (x1 - (iI 1)) x2 (x3 - (iI 1)) s).bind fun r28 =>
  fX4_passLayer_b68 x0 x1 x2 x3 x4 x5 x6 y0 r28.1 r28.2)
def fX4_passLayer_b45 (x0 : Nat) (x1 : Int32) (x2 : Int32) (x3 : Int32) (x4 : Int32) (x5 : Int32) (x6 : Int32) (s : Hp) : Option (Hp) :=
  fX4_passLayer_b46 x0 x1 x2 x3 x4 x5 x6 (iI 0) s
def fX4_passLayer_b22 (x0 : Nat) (x1 : Int32) (x2 : Int32) (x3 : Int32) (x4 : Int32) (x5 : Int32) (y0 : Int32) (s : Hp) : Option (Hp) :=
  if x2 ≤ 0 then
  (fX4_passLayer_b45 x0 x1 x2 x3 x4 x5 y0 s)
  else ((gR s x0 4 4).bind fun v29 =>
  (gI s v29 6 3).bind fun v30 =>
  if (v30 - (iI 1)) ≤ x3 then
  (fX4_passLayer_b45 x0 x1 x2 x3 x4 x5 y0 s)
  else (fX4_passLayer_b46 x0 x1 x2 x3 x4 x5 y0 (iI 1) s))
def fX4_passLayer_b21 (x0 : Nat) (x1 : Int32) (x2 : Int32) (x3 : Int32) (x4 : Int32) (x5 : Int32) (s : Hp) : Option (Hp) :=
  fX4_passLayer_b22 x0 x1 x2 x3 x4 x5 (iI 0) s
def fX4_passLayer (x0 : Nat) (x1 : Int32) (x2 : Int32) (x3 : Int32) (x4 : Int32) (s : Hp) : Option (Hp) :=
  (ck s x0 4).bind fun _ =>
  (fX4_placeOf x0 x1 x2 x3 s).bind fun r1 =>
  if x1 ≤ 0 then
  (fX4_passLayer_b21 x0 x1 x2 x3 x4 r1.1 r1.2)
  else (if x3 ≤ 0 then
  (fX4_passLayer_b21 x0 x1 x2 x3 x4 r1.1 r1.2)
  else (fX4_passLayer_b22 x0 x1 x2 x3 x4 r1.1 (iI 1) r1.2))
def fX4_sinkAll_l11 (x0 : Nat) (x1 : Int32) (x2 : Int32) (x3 : Int32) : (Int32 × Hp) → Option ((Int32 × Hp) ⊕ ((Hp))) := fun a =>
  (gI a.2 x0 4 9).bind fun v2 =>
  if v2 ≤ a.1 then
  (some (.inr a.2))
  else ((gR a.2 x0 4 0).bind fun v4 =>
  (gR a.2 x0 4 0).bind fun v5 =>
  (aL a.2 v5 (x3 + a.1)).bind fun v6 =>
  (gR a.2 x0 4 0).bind fun v7 =>
  (gI a.2 x0 4 9).bind fun v8 =>
  (aL a.2 v7 ((x3 + v8) + a.1)).bind fun v9 =>
  (fX4_joined x0 v6 v9 a.2).bind fun r10 =>
  (sL r10.2 v4 (x3 + a.1) r10.1).bind fun s11 =>
  some (.inl (a.1 + iI 1, s11)))
def fX4_sinkAll_b141 (x0 : Nat) (x1 : Int32) (x2 : Int32) (x4 : Int32) (x5 : Int32) (x6 : Int32) (y0 : Nat) (y1 : Int32) (y2 : Int64) (s : Hp) : Option ((Int32 × Hp) ⊕ ((Hp))) :=
  (sL s y0 y1 y2).bind fun s23 =>
  some (.inl (x6 + iI 1, s23))
def fX4_sinkAll_l90 (x0 : Nat) (x1 : Int32) (x2 : Int32) (x4 : Int32) (x5 : Int32) : (Int32 × Hp) → Option ((Int32 × Hp) ⊕ ((Hp))) := fun a =>
  (gI a.2 x0 4 9).bind fun v17 =>
  if v17 ≤ a.1 then
  (some (.inr a.2))
  else ((gR a.2 x0 4 0).bind fun v19 =>
  (gR a.2 x0 4 4).bind fun v20 =>
  (gI a.2 v20 6 3).bind fun v21 =>
  if v21 ≤ (x4 + (iI 1)) then
  (fX4_sinkAll_b141 x0 x1 x2 x4 x5 a.1 v19 (x5 + a.1) 0 a.2)
  else ((gR a.2 x0 4 0).bind fun v24 =>
  (gI a.2 x0 4 9).bind fun v25 =>
  (aL a.2 v24 ((x5 + v25) + a.1)).bind fun v26 =>
  fX4_sinkAll_b141 x0 x1 x2 x4 x5 a.1 v19 (x5 + a.1) v26 a.2))
def fX4_sinkAll_l65 (x0 : Nat) (x1 : Int32) (x2 : Int32) : (Int32 × Hp) → Option ((Int32 × Hp) ⊕ ((Hp))) := fun a =>
  (gR a.2 x0 4 4).bind fun v13 =>
  (gI a.2 v13 6 3).bind fun v14 =>
  if v14 ≤ a.1 then
  (some (.inr a.2))
  else ((fX4_placeOf x0 x1 x2 a.1 a.2).bind fun r16 =>
  (iter (fX4_sinkAll_l90 x0 x1 x2 a.1 r16.1) FU ((iI 0), r16.2)).bind fun r27 =>
  some (.inl (a.1 + iI 1, r27)))
def fX4_sinkAll (x0 : Nat) (x1 : Int32) (x2 : Int32) (s : Hp) : Option (Hp) :=
  (ck s x0 4).bind fun _ =>
  (fX4_placeOf x0 x1 x2 (iI 0) s).bind fun r1 =>
  (iter (fX4_sinkAll_l11 x0 x1 x2 r1.1) FU ((iI 0), r1.2)).bind fun r12 =>
  (iter (fX4_sinkAll_l65 x0 x1 x2) FU ((iI 1), r12)).bind fun r28 =>
  some r28
def fX4_moveTag (x0 : Nat) (x1 : Int32) (x2 : Int32) (x3 : Int64) (s : Hp) : Option (Hp) :=
  (ck s x0 4).bind fun _ =>
  (gR s x0 4 0).bind fun v1 =>
  (aL s v1 x1).bind fun v2 =>
  lt_ (v2 &&& x3) fun z3 =>
  if (lg_cmp z3 0) = 0 then
  (some s)
  else ((gR s x0 4 0).bind fun v5 =>
  (aL s v5 x1).bind fun v6 =>
  (sL s v5 x1 (v6 &&& (z3 ^^^ (-1)))).bind fun s7 =>
  (gR s7 x0 4 0).bind fun v8 =>
  (aL s7 v8 x2).bind fun v9 =>
  (sL s7 v8 x2 (v9 ||| z3)).bind fun s10 =>
  some s10)
def fX4_markDoors_l5 (x0 : Nat) (x1 : Int32) : (Int64 × Int32 × Hp) → Option ((Int64 × Int32 × Hp) ⊕ ((Int64 × Hp))) := fun a =>
  (gI a.2.2 x0 4 9).bind fun v1 =>
  if v1 ≤ a.2.1 then
  (some (.inr (a.1, a.2.2)))
  else ((gR a.2.2 x0 4 0).bind fun v3 =>
  (aL a.2.2 v3 (x1 + a.2.1)).bind fun v4 =>
  lt_ (a.1 ||| v4) fun z5 =>
  some (.inl (z5, a.2.1 + iI 1, a.2.2)))
def fX4_markDoors_b125 (x0 : Nat) (x1 : Int32) (x2 : Int64) (x4 : Int32) (x5 : Int64) (x7 : Int32) (s : Hp) : Option ((Int32 × Hp) ⊕ ((Hp))) :=
  some (.inl (x7 + iI 1, s))
def fX4_markDoors_l78 (x0 : Nat) (x1 : Int32) (x2 : Int64) (x4 : Int32) (x5 : Int64) : (Int32 × Hp) → Option ((Int32 × Hp) ⊕ ((Hp))) := fun a =>
  (gI a.2 x0 4 9).bind fun v16 =>
  if v16 ≤ a.1 then
  (some (.inr a.2))
  else (if (lg_cmp (x2 &&& x5) 0) = 0 then
  (some (.inr a.2))
  else (if ((isr a.1 x4) &&& (iI 1)) = 0 then
  ((fX4_moveTag x0 (x1 + a.1) (x1 + (a.1 ||| (ish (iI 1) x4))) x5 a.2).bind fun s20 =>
  fX4_markDoors_b125 x0 x1 x2 x4 x5 a.1 s20)
  else (fX4_markDoors_b125 x0 x1 x2 x4 x5 a.1 a.2)))
def fX4_markDoors_b131 (x0 : Nat) (x1 : Int32) (x2 : Int64) (x4 : Int32) (s : Hp) : Option ((Int32 × Hp) ⊕ ((Hp))) :=
  some (.inl (x4 + iI 1, s))
def fX4_markDoors_l35 (x0 : Nat) (x1 : Int32) (x2 : Int64) : (Int32 × Hp) → Option ((Int32 × Hp) ⊕ ((Hp))) := fun a =>
  (gR a.2 x0 4 4).bind fun v7 =>
  (gI a.2 v7 6 9).bind fun v8 =>
  if v8 ≤ a.1 then
  (some (.inr a.2))
  else ((gR a.2 x0 4 4).bind fun v10 =>
  (fX6_doorFact v10 a.1 (iI 0) a.2).bind fun r11 =>
  (gR r11.2 x0 4 4).bind fun v12 =>
  (fX6_doorFact v12 a.1 (iI 1) r11.2).bind fun r13 =>
  (fX8_columnOf r11.1 r13.1 r13.2).bind fun r14 =>
  (fX8_bitOf r14.1 r14.2).bind fun r15 =>
  (iter (fX4_markDoors_l78 x0 x1 x2 a.1 r15.1) FU ((iI 0), r15.2)).bind fun r21 =>
  fX4_markDoors_b131 x0 x1 x2 a.1 r21)
def fX4_markDoors (x0 : Nat) (x1 : Int32) (s : Hp) : Option (Hp) :=
  (ck s x0 4).bind fun _ =>
  (iter (fX4_markDoors_l5 x0 x1) FU (0, (iI 0), s)).bind fun r6 =>
  (iter (fX4_markDoors_l35 x0 x1 r6.1) FU ((iI 0), r6.2)).bind fun r22 =>
  some r22
def fX4_noteTours_b54 (x0 : Nat) (x1 : Int32) (x3 : Int32) (x4 : Int32) (x5 : Int32) (s : Hp) : Option ((Int32 × Hp) ⊕ ((Hp))) :=
  some (.inl (x5 + iI 1, s))
def fX4_noteTours_l19 (x0 : Nat) (x1 : Int32) (x3 : Int32) (x4 : Int32) : (Int32 × Hp) → Option ((Int32 × Hp) ⊕ ((Hp))) := fun a =>
  (gI a.2 x0 4 9).bind fun v4 =>
  if v4 ≤ a.1 then
  (some (.inr a.2))
  else ((gR a.2 x0 4 0).bind fun v6 =>
  (aL a.2 v6 (x3 + a.1)).bind fun v7 =>
  if (lg_cmp v7 0) = 0 then
  (fX4_noteTours_b54 x0 x1 x3 x4 a.1 a.2)
  else ((gR a.2 x0 4 5).bind fun v9 =>
  (fX2_addTour v9 a.1 x1 x4 a.2).bind fun s10 =>
  fX4_noteTours_b54 x0 x1 x3 x4 a.1 s10))
def fX4_noteTours_b16 (x0 : Nat) (x1 : Int32) (x3 : Int32) (x4 : Int32) (s : Hp) : Option (Hp) :=
  (iter (fX4_noteTours_l19 x0 x1 x3 x4) FU ((iI 0), s)).bind fun r11 =>
  some r11
def fX4_noteTours (x0 : Nat) (x1 : Int32) (x2 : Int32) (x3 : Int32) (x4 : Int32) (s : Hp) : Option (Hp) :=
  (ck s x0 4).bind fun _ =>
  (gR s x0 4 4).bind fun v1 =>
  (gI s v1 6 6).bind fun v2 =>
  if v2 < x2 then
  (fX4_noteTours_b16 x0 x1 x3 x4 s)
  else ((fX4_markDoors x0 x3 s).bind fun s12 =>
  fX4_noteTours_b16 x0 x1 x3 x4 s12)
def fX4_countHour_l8 (x0 : Nat) (x1 : Int32) (x2 : Int64) : (Int32 × Hp) → Option ((Int32 × Hp) ⊕ ((Hp))) := fun a =>
  if a.1 < 0 then
  (some (.inr a.2))
  else ((fX4_moveTag x0 (x1 + a.1) ((x1 + a.1) + (iI 1)) x2 a.2).bind fun s4 =>
  some (.inl (a.1 + iI (-1), s4)))
def fX4_countHour (x0 : Nat) (x1 : Int32) (x2 : Int64) (s : Hp) : Option (Hp) :=
  (ck s x0 4).bind fun _ =>
  (gI s x0 4 9).bind fun v1 =>
  lt_ (v1 - (iI 2)) fun z2 =>
  (iter (fX4_countHour_l8 x0 x1 x2) FU (z2, s)).bind fun r5 =>
  some r5
def fX4_note_b97 (x0 : Nat) (x3 : Int32) (x5 : Int32) (s : Hp) : Option (Hp) :=
  (gI s x0 4 10).bind fun v8 =>
  if v8 = (iI 3) then
  (if x3 ≤ 0 then
  (some s)
  else ((fX4_countHour x0 x5 (-1) s).bind fun s11 =>
  some s11))
  else (some s)
def fX4_note (x0 : Nat) (x1 : Int32) (x2 : Int32) (x3 : Int32) (x4 : Int32) (s : Hp) : Option (Hp) :=
  (ck s x0 4).bind fun _ =>
  (fX4_placeOf x0 x1 x2 x3 s).bind fun r1 =>
  (gI r1.2 x0 4 10).bind fun v2 =>
  if v2 = 0 then
  ((gR r1.2 x0 4 5).bind fun v20 =>
  (gR r1.2 x0 4 0).bind fun v21 =>
  (aL r1.2 v21 r1.1).bind fun v22 =>
  (fX2_addCells v20 x4 x3 x1 v22 r1.2).bind fun s23 =>
  some s23)
  else ((gI r1.2 x0 4 10).bind fun v4 =>
  if v4 = (iI 1) then
  ((fX4_noteTours x0 x1 x3 r1.1 x4 r1.2).bind fun s19 =>
  some s19)
  else ((gI r1.2 x0 4 10).bind fun v6 =>
  if v6 = (iI 2) then
  ((gR r1.2 x0 4 4).bind fun v12 =>
  (gI r1.2 v12 6 11).bind fun v13 =>
  if x4 < v13 then
  (fX4_note_b97 x0 x3 r1.1 r1.2)
  else ((gR r1.2 x0 4 4).bind fun v15 =>
  (gI r1.2 v15 6 10).bind fun v16 =>
  (fX8_bitOf v16 r1.2).bind fun r17 =>
  (fX4_countHour x0 r1.1 r17.1 r17.2).bind fun s18 =>
  some s18))
  else (fX4_note_b97 x0 x3 r1.1 r1.2)))
def fX4_passHour_l57 (x0 : Nat) (x1 : Int32) (x2 : Int32) (x3 : Int32) (x4 : Int32) (x5 : Int32) : (Int32 × Hp) → Option ((Int32 × Hp) ⊕ ((Hp))) := fun a =>
  if x4 < a.1 then
  (some (.inr a.2))
  else ((gR a.2 x0 4 4).bind fun v12 =>
  (gI a.2 v12 6 3).bind fun v13 =>
  if v13 ≤ a.1 then
  (some (.inr a.2))
  else ((fX4_passLayer x0 x2 x3 a.1 x1 a.2).bind fun s15 =>
  some (.inl (a.1 + iI 1, s15))))
def fX4_passHour_l122 (x0 : Nat) (x1 : Int32) (x2 : Int32) (x3 : Int32) (x4 : Int32) : (Int32 × Hp) → Option ((Int32 × Hp) ⊕ ((Hp))) := fun a =>
  if x4 < a.1 then
  (some (.inr a.2))
  else ((gR a.2 x0 4 4).bind fun v21 =>
  (gI a.2 v21 6 3).bind fun v22 =>
  if v22 ≤ a.1 then
  (some (.inr a.2))
  else ((fX4_note x0 x2 x3 a.1 x1 a.2).bind fun s24 =>
  some (.inl (a.1 + iI 1, s24))))
def fX4_passHour_b156 (x0 : Nat) (x1 : Int32) (x2 : Int32) (x3 : Int32) (s : Hp) : Option ((Int32 × Hp) ⊕ ((Hp))) :=
  some (.inl (x3 + iI (-1), s))
def fX4_passHour_b118 (x0 : Nat) (x1 : Int32) (x2 : Int32) (x3 : Int32) (x4 : Int32) (x5 : Int32) (s : Hp) : Option ((Int32 × Hp) ⊕ ((Hp))) :=
  (iter (fX4_passHour_l122 x0 x1 x2 x3 x4) FU (x5, s)).bind fun r25 =>
  fX4_passHour_b156 x0 x1 x2 x3 r25
def fX4_passHour_b91 (x0 : Nat) (x1 : Int32) (x2 : Int32) (x3 : Int32) (x4 : Int32) (x5 : Int32) (s : Hp) : Option ((Int32 × Hp) ⊕ ((Hp))) :=
  (gR s x0 4 4).bind fun v17 =>
  (fX6_coolsIn v17 x1 s).bind fun r18 =>
  if r18.1 = 0 then
  (fX4_passHour_b118 x0 x1 x2 x3 x4 x5 r18.2)
  else ((fX4_sinkAll x0 x2 x3 r18.2).bind fun s26 =>
  lt_ (imax (iI 0) (x5 - (iI 1))) fun z27 =>
  fX4_passHour_b118 x0 x1 x2 x3 x4 z27 s26)
def fX4_passHour_l22 (x0 : Nat) (x1 : Int32) (x2 : Int32) : (Int32 × Hp) → Option ((Int32 × Hp) ⊕ ((Hp))) := fun a =>
  if a.1 < 0 then
  (some (.inr a.2))
  else ((gI a.2 x0 4 6).bind fun v6 =>
  lt_ ((v6 + x2) - a.1) fun z7 =>
  (gR a.2 x0 4 4).bind fun v8 =>
  (fX6_coolings v8 x1 a.2).bind fun r9 =>
  lt_ (imax (iI 0) (z7 - r9.1)) fun z10 =>
  (iter (fX4_passHour_l57 x0 x1 x2 a.1 z7 z10) FU (z10, r9.2)).bind fun r16 =>
  fX4_passHour_b91 x0 x1 x2 a.1 z7 z10 r16)
def fX4_passHour_l5 (x0 : Nat) (x1 : Int32) : (Int32 × Hp) → Option ((Int32 × Hp) ⊕ ((Hp))) := fun a =>
  if a.1 < 0 then
  (some (.inr a.2))
  else ((gI a.2 x0 4 8).bind fun v3 =>
  lt_ (imin v3 ((x1 + (iI 1)) - a.1)) fun z4 =>
  (iter (fX4_passHour_l22 x0 x1 a.1) FU (z4, a.2)).bind fun r28 =>
  some (.inl (a.1 + iI (-1), r28)))
def fX4_passHour (x0 : Nat) (x1 : Int32) (s : Hp) : Option (Hp) :=
  (ck s x0 4).bind fun _ =>
  (gI s x0 4 7).bind fun v1 =>
  (iter (fX4_passHour_l5 x0 x1) FU (v1, s)).bind fun r29 =>
  some r29
def fX4_cellsOf_b68 (x0 : Nat) (s : Hp) : Option (Nat × Hp) :=
  (gR s x0 4 5).bind fun v7 =>
  some (v7, s)
def fX4_cellsOf_l39 (x0 : Nat) (x1 : Nat) (x3 : Int32) : (Int32 × Hp) → Option ((Int32 × Hp) ⊕ ((Hp))) := fun a =>
  (gI a.2 x1 6 4).bind fun v11 =>
  if v11 ≤ a.1 then
  (some (.inr a.2))
  else ((fX4_passHour x0 a.1 a.2).bind fun s13 =>
  some (.inl (a.1 + iI 1, s13)))
def fX4_cellsOf (x0 : Nat) (x1 : Nat) (x2 : Int32) (x3 : Int32) (s : Hp) : Option (Nat × Hp) :=
  (ck s x0 4).bind fun _ =>
  (gR s x0 4 3).bind fun v1 =>
  (aR s 26 v1 x2).bind fun v2 =>
  (pR s x0 4 5 v2).bind fun s3 =>
  (gR s3 x0 4 5).bind fun v4 =>
  (gI s3 v4 2 3).bind fun v5 =>
  if v5 = x3 then
  (fX4_cellsOf_b68 x0 s3)
  else ((gR s3 x0 4 5).bind fun v8 =>
  (fX2_clearCells v8 s3).bind fun s9 =>
  (fX4_prepare x0 x1 x2 (iI 0) (iI 1) s9).bind fun s10 =>
  (iter (fX4_cellsOf_l39 x0 x1 x3) FU ((iI 0), s10)).bind fun r14 =>
  (gR r14 x0 4 5).bind fun v15 =>
  (pI r14 v15 2 3 x3).bind fun s16 =>
  fX4_cellsOf_b68 x0 s16)
def fX4_toursOf_b100 (x0 : Nat) (s : Hp) : Option (Nat × Hp) :=
  (gR s x0 4 5).bind fun v7 =>
  some (v7, s)
def fX4_toursOf_l64 (x0 : Nat) (x1 : Nat) (x3 : Int32) : (Int32 × Hp) → Option ((Int32 × Hp) ⊕ ((Hp))) := fun a =>
  (gI a.2 x1 6 4).bind fun v16 =>
  if v16 ≤ a.1 then
  (some (.inr a.2))
  else ((fX4_passHour x0 a.1 a.2).bind fun s18 =>
  some (.inl (a.1 + iI 1, s18)))
def fX4_toursOf (x0 : Nat) (x1 : Nat) (x2 : Int32) (x3 : Int32) (s : Hp) : Option (Nat × Hp) :=
  (ck s x0 4).bind fun _ =>
  (gR s x0 4 3).bind fun v1 =>
  (aR s 26 v1 x2).bind fun v2 =>
  (pR s x0 4 5 v2).bind fun s3 =>
  (gR s3 x0 4 5).bind fun v4 =>
  (gI s3 v4 2 4).bind fun v5 =>
  if v5 = x3 then
  (fX4_toursOf_b100 x0 s3)
  else ((gR s3 x0 4 5).bind fun v8 =>
  (fX2_clearTours v8 s3).bind fun s9 =>
  (gI s9 x1 6 9).bind fun v10 =>
  (fX4_prepare x0 x1 x2 (iI 1) (ish (iI 1) v10) s9).bind fun s11 =>
  (gI s11 x0 4 6).bind fun v12 =>
  (gI s11 x0 4 6).bind fun v13 =>
  (fX4_placeOf x0 (iI 0) (iI 0) v13 s11).bind fun r14 =>
  (fX4_noteTours x0 (iI 0) v12 r14.1 (iI (-1)) r14.2).bind fun s15 =>
  (iter (fX4_toursOf_l64 x0 x1 x3) FU ((iI 0), s15)).bind fun r19 =>
  (gR r19 x0 4 5).bind fun v20 =>
  (fX2_spreadTours v20 r19).bind fun s21 =>
  (gR s21 x0 4 5).bind fun v22 =>
  (pI s21 v22 2 4 x3).bind fun s23 =>
  fX4_toursOf_b100 x0 s23)
def fX4_highestTag_b39 (x0 : Nat) (x1 : Int32) (x2 : Int32) (s : Hp) : Option ((Int32 × Int32 × Hp) ⊕ ((Int32 × Hp))) :=
  some (.inl (x1, x2 + iI 1, s))
def fX4_highestTag_l4 (x0 : Nat) : (Int32 × Int32 × Hp) → Option ((Int32 × Int32 × Hp) ⊕ ((Int32 × Hp))) := fun a =>
  (fX4_blockCount x0 a.2.2).bind fun r1 =>
  (gI r1.2 x0 4 9).bind fun v2 =>
  if (r1.1 * v2) ≤ a.2.1 then
  (some (.inr (a.1, r1.2)))
  else ((gR r1.2 x0 4 0).bind fun v4 =>
  (aL r1.2 v4 a.2.1).bind fun v5 =>
  if (lg_cmp v5 0) = 0 then
  (fX4_highestTag_b39 x0 a.1 a.2.1 r1.2)
  else ((gI r1.2 x0 4 9).bind fun v7 =>
  (mI a.2.1 v7).bind fun v8 =>
  lt_ (imax a.1 v8) fun z9 =>
  fX4_highestTag_b39 x0 z9 a.2.1 r1.2))
def fX4_highestTag (x0 : Nat) (s : Hp) : Option (Int32 × Hp) :=
  (ck s x0 4).bind fun _ =>
  (iter (fX4_highestTag_l4 x0) FU ((iI 0), (iI 0), s)).bind fun r10 =>
  some (r10.1, r10.2)
def fX4_hoursAtFair_l20 (x0 : Nat) (x1 : Nat) : (Int32 × Hp) → Option ((Int32 × Hp) ⊕ ((Hp))) := fun a =>
  (gI a.2 x1 6 12).bind fun v4 =>
  if v4 < a.1 then
  (some (.inr a.2))
  else ((fX4_passHour x0 a.1 a.2).bind fun s6 =>
  some (.inl (a.1 + iI 1, s6)))
def fX4_hoursAtFair (x0 : Nat) (x1 : Nat) (x2 : Int32) (s : Hp) : Option (Int32 × Hp) :=
  (ck s x0 4).bind fun _ =>
  (gI s x1 6 12).bind fun v1 =>
  (gI s x1 6 11).bind fun v2 =>
  (fX4_prepare x0 x1 x2 (iI 2) ((v1 - v2) + (iI 2)) s).bind fun s3 =>
  (iter (fX4_hoursAtFair_l20 x0 x1) FU ((iI 0), s3)).bind fun r7 =>
  (fX4_highestTag x0 r7).bind fun r8 =>
  some (r8.1, r8.2)
def fX4_hoursAloft_l15 (x0 : Nat) (x1 : Nat) : (Int32 × Hp) → Option ((Int32 × Hp) ⊕ ((Hp))) := fun a =>
  (gI a.2 x1 6 4).bind fun v3 =>
  if v3 ≤ a.1 then
  (some (.inr a.2))
  else ((fX4_passHour x0 a.1 a.2).bind fun s5 =>
  some (.inl (a.1 + iI 1, s5)))
def fX4_hoursAloft (x0 : Nat) (x1 : Nat) (x2 : Int32) (s : Hp) : Option (Int32 × Hp) :=
  (ck s x0 4).bind fun _ =>
  (gI s x1 6 4).bind fun v1 =>
  (fX4_prepare x0 x1 x2 (iI 3) (v1 + (iI 1)) s).bind fun s2 =>
  (iter (fX4_hoursAloft_l15 x0 x1) FU ((iI 0), s2)).bind fun r6 =>
  (fX4_highestTag x0 r6).bind fun r7 =>
  some (r7.1, r7.2)
def fX4_rowsOfActs_l11 (x0 : Nat) (x3 : Int32) : (Int32 × Hp) → Option ((Int32 × Hp) ⊕ ((Hp))) := fun a =>
  if x3 ≤ a.1 then
  (some (.inr a.2))
  else ((fX4_passHour x0 a.1 a.2).bind fun s3 =>
  some (.inl (a.1 + iI 1, s3)))
def fX4_rowsOfActs_l35 (x0 : Nat) : (Int64 × Int32 × Hp) → Option ((Int64 × Int32 × Hp) ⊕ ((Int64 × Hp))) := fun a =>
  (fX4_blockCount x0 a.2.2).bind fun r5 =>
  if r5.1 ≤ a.2.1 then
  (some (.inr (a.1, r5.2)))
  else ((gR r5.2 x0 4 0).bind fun v7 =>
  (aL r5.2 v7 a.2.1).bind fun v8 =>
  lt_ (a.1 + v8) fun z9 =>
  some (.inl (z9, a.2.1 + iI 1, r5.2)))
def fX4_rowsOfActs (x0 : Nat) (x1 : Nat) (x2 : Int32) (x3 : Int32) (s : Hp) : Option (Int64 × Hp) :=
  (ck s x0 4).bind fun _ =>
  (fX4_prepare x0 x1 x2 (iI 4) (iI 1) s).bind fun s1 =>
  (iter (fX4_rowsOfActs_l11 x0 x3) FU ((iI 0), s1)).bind fun r4 =>
  (iter (fX4_rowsOfActs_l35 x0) FU (0, (iI 0), r4)).bind fun r10 =>
  some (r10.1, r10.2)
def fX4_actOnWay_b77 (x0 : Nat) (x4 : Int32) (s : Hp) : Option (Int32 × Hp) :=
  (gR s x0 4 2).bind fun v6 =>
  (fX1_actIn v6 x4 s).bind fun r7 =>
  some (r7.1, r7.2)
def fX4_actOnWay (x0 : Nat) (x1 : Nat) (x2 : Int32) (x3 : Int32) (x4 : Int32) (x5 : Int32) (x6 : Int32) (s : Hp) : Option (Int32 × Hp) :=
  (ck s x0 4).bind fun _ =>
  (fX4_cellsOf x0 x1 x2 x3 s).bind fun r1 =>
  lt_ (((x6 * (iI 8)) * (iI 8)) + x5) fun z2 =>
  (gR r1.2 x0 4 2).bind fun v3 =>
  (fX1_knows v3 x3 x2 z2 r1.2).bind fun r4 =>
  if r4.1 = 0 then
  ((gR r4.2 x0 4 2).bind fun v8 =>
  (gR r4.2 x0 4 0).bind fun v9 =>
  (gR r4.2 x0 4 1).bind fun v10 =>
  (fX1_take v8 v9 v10 r4.2).bind fun s11 =>
  (gR s11 x0 4 2).bind fun v12 =>
  (fX1_find v12 x1 x2 r1.1 x5 x6 s11).bind fun s13 =>
  (gR s13 x0 4 2).bind fun v14 =>
  (fX1_remember v14 x3 x2 z2 s13).bind fun s15 =>
  fX4_actOnWay_b77 x0 x4 s15)
  else (fX4_actOnWay_b77 x0 x4 r4.2)
def fX5_init (x0 : Nat) (s : Hp) : Option (Hp) :=
  (ck s x0 5).bind fun _ =>
  (mkA s 21 (iI 60) (.long 0)).bind fun s1 =>
  (pR s1 x0 5 0 s.1).bind fun s2 =>
  (pI s2 x0 5 1 (iI (-1))).bind fun s3 =>
  some s3
def fX5_isThere (x0 : Nat) (s : Hp) : Option (Int32 × Hp) :=
  (ck s x0 5).bind fun _ =>
  (gI s x0 5 1).bind fun v1 =>
  if v1 < 0 then
  (some ((iI 0), s))
  else (some ((iI 1), s))
def fX5_renew_l12 (x0 : Nat) : (Int32 × Hp) → Option ((Int32 × Hp) ⊕ ((Hp))) := fun a =>
  (gI a.2 x0 5 1).bind fun v3 =>
  if v3 ≤ a.1 then
  (some (.inr a.2))
  else ((gR a.2 x0 5 0).bind fun v5 =>
  (sL a.2 v5 a.1 0).bind fun s6 =>
  some (.inl (a.1 + iI 1, s6)))
def fX5_renew (x0 : Nat) (x1 : Int32) (x2 : Int32) (s : Hp) : Option (Hp) :=
  (ck s x0 5).bind fun _ =>
  (pI s x0 5 2 x1).bind fun s1 =>
  (pI s1 x0 5 1 x2).bind fun s2 =>
  (iter (fX5_renew_l12 x0) FU ((iI 0), s2)).bind fun r7 =>
  some r7
def fX5_holds_b30 (s : Hp) : Option (Int32 × Hp) :=
  some ((iI 0), s)
def fX5_holds (x0 : Nat) (x1 : Int32) (x2 : Int32) (s : Hp) : Option (Int32 × Hp) :=
  (ck s x0 5).bind fun _ =>
  if x1 < 0 then
  (fX5_holds_b30 s)
  else (if x2 < 0 then
  (fX5_holds_b30 s)
  else ((gI s x0 5 1).bind fun v3 =>
  if v3 < x1 then
  (fX5_holds_b30 s)
  else ((gI s x0 5 1).bind fun v5 =>
  if (v5 - x1) < x2 then
  (fX5_holds_b30 s)
  else (some ((iI 1), s)))))
def fX5_put (x0 : Nat) (x1 : Int32) (x2 : Int64) (s : Hp) : Option (Hp) :=
  (ck s x0 5).bind fun _ =>
  (gI s x0 5 2).bind fun v1 =>
  if v1 = 0 then
  ((gR s x0 5 0).bind fun v13 =>
  (sL s v13 x1 (Int32.toInt64 (i2b (Int64.toInt32 x2)))).bind fun s14 =>
  some s14)
  else ((gI s x0 5 2).bind fun v3 =>
  if v3 = (iI 1) then
  ((gR s x0 5 0).bind fun v11 =>
  (sL s v11 x1 (Int32.toInt64 (i2s (Int64.toInt32 x2)))).bind fun s12 =>
  some s12)
  else ((gI s x0 5 2).bind fun v5 =>
  if v5 = (iI 2) then
  ((gR s x0 5 0).bind fun v9 =>
  (sL s v9 x1 (Int32.toInt64 (Int64.toInt32 x2))).bind fun s10 =>
  some s10)
  else ((gR s x0 5 0).bind fun v7 =>
  (sL s v7 x1 x2).bind fun s8 =>
  some s8)))
def fX5_copyTo (x0 : Nat) (x1 : Int32) (x2 : Nat) (x3 : Int32) (x4 : Int32) (s : Hp) : Option (Hp) :=
  (ck s x0 5).bind fun _ =>
  (gR s x0 5 0).bind fun v1 =>
  (gR s x2 5 0).bind fun v2 =>
  (cpV s 21 v1 x1 v2 x3 x4).bind fun s3 =>
  some s3
def fX5_keepsWithin_b15 (s : Hp) : Option (Int32 × Hp) :=
  some ((iI 0), s)
def fX5_keepsWithin_l19 (x0 : Nat) (x1 : Nat) : (Int32 × Hp) → Option ((Int32 × Hp) ⊕ ((Hp) ⊕ (Hp))) := fun a =>
  (gI a.2 x0 5 1).bind fun v7 =>
  if v7 ≤ a.1 then
  (some (.inr (.inl a.2)))
  else ((gR a.2 x0 5 0).bind fun v9 =>
  (aL a.2 v9 a.1).bind fun v10 =>
  if (lg_cmp v10 0) < 0 then
  (some (.inr (.inr a.2)))
  else ((gR a.2 x0 5 0).bind fun v12 =>
  (aL a.2 v12 a.1).bind fun v13 =>
  (aN a.2 x1).bind fun v14 =>
  (mI a.1 v14).bind fun v15 =>
  (aI a.2 x1 v15).bind fun v16 =>
  if (lg_cmp v13 (Int32.toInt64 v16)) < 0 then
  (some (.inl (a.1 + iI 1, a.2)))
  else (some (.inr (.inr a.2)))))
def fX5_keepsWithin_b55 (s : Hp) : Option (Int32 × Hp) :=
  some ((iI 0), s)
def fX5_keepsWithin (x0 : Nat) (x1 : Nat) (s : Hp) : Option (Int32 × Hp) :=
  (ck s x0 5).bind fun _ =>
  (aN s x1).bind fun v1 =>
  if v1 = 0 then
  (fX5_keepsWithin_b15 s)
  else ((gI s x0 5 1).bind fun v3 =>
  (aN s x1).bind fun v4 =>
  (mI v3 v4).bind fun v5 =>
  if v5 = 0 then
  ((iter (fX5_keepsWithin_l19 x0 x1) FU ((iI 0), s)).bind (Sum.elim (fun r18a => some ((iI 1), r18a)) (fun r18b => fX5_keepsWithin_b55 r18b)))
  else (fX5_keepsWithin_b15 s))
def fX5_at (x0 : Nat) (x1 : Int32) (s : Hp) : Option (Int32 × Hp) :=
  (ck s x0 5).bind fun _ =>
  (gR s x0 5 0).bind fun v1 =>
  (aL s v1 x1).bind fun v2 =>
  some (Int64.toInt32 v2, s)
def fX6_init (x0 : Nat) (s : Hp) : Option (Hp) :=
  (ck s x0 6).bind fun _ =>
  (pI s x0 6 10 (iI (-1))).bind fun s1 =>
  (mkA s1 20 (iI 120) (.int 0)).bind fun s2 =>
  (pR s2 x0 6 14 s1.1).bind fun s3 =>
  (mkA s3 20 (iI 24) (.int 0)).bind fun s4 =>
  (pR s4 x0 6 15 s3.1).bind fun s5 =>
  (mkA s5 20 (iI 15) (.int 0)).bind fun s6 =>
  (pR s6 x0 6 16 s5.1).bind fun s7 =>
  (mkA s7 20 (iI 96) (.int 0)).bind fun s8 =>
  (pR s8 x0 6 17 s7.1).bind fun s9 =>
  (mkA s9 20 (iI 240) (.int 0)).bind fun s10 =>
  (pR s10 x0 6 18 s9.1).bind fun s11 =>
  some s11
def fX6_stands (x0 : Nat) (s : Hp) : Option (Int32 × Hp) :=
  (ck s x0 6).bind fun _ =>
  (gI s x0 6 0).bind fun v1 =>
  if v1 ≤ 0 then
  (some ((iI 0), s))
  else (some ((iI 1), s))
def fX6_hasShop_b16 (s : Hp) : Option (Int32 × Hp) :=
  some ((iI 0), s)
def fX6_hasShop (x0 : Nat) (x1 : Int32) (s : Hp) : Option (Int32 × Hp) :=
  (ck s x0 6).bind fun _ =>
  if x1 < 0 then
  (fX6_hasShop_b16 s)
  else ((gI s x0 6 8).bind fun v2 =>
  if v2 ≤ x1 then
  (fX6_hasShop_b16 s)
  else (some ((iI 1), s)))
def fX6_hasTwoShops_b25 (s : Hp) : Option (Int32 × Hp) :=
  some ((iI 0), s)
def fX6_hasTwoShops (x0 : Nat) (x1 : Int32) (x2 : Int32) (s : Hp) : Option (Int32 × Hp) :=
  (ck s x0 6).bind fun _ =>
  (fX6_hasShop x0 x1 s).bind fun r1 =>
  if r1.1 = 0 then
  (fX6_hasTwoShops_b25 r1.2)
  else ((fX6_hasShop x0 x2 r1.2).bind fun r3 =>
  if r3.1 = 0 then
  (fX6_hasTwoShops_b25 r3.2)
  else (if x1 = x2 then
  (fX6_hasTwoShops_b25 r3.2)
  else (some ((iI 1), r3.2))))
def fX6_hasDoor_b16 (s : Hp) : Option (Int32 × Hp) :=
  some ((iI 0), s)
def fX6_hasDoor (x0 : Nat) (x1 : Int32) (s : Hp) : Option (Int32 × Hp) :=
  (ck s x0 6).bind fun _ =>
  if x1 < 0 then
  (fX6_hasDoor_b16 s)
  else ((gI s x0 6 9).bind fun v2 =>
  if v2 ≤ x1 then
  (fX6_hasDoor_b16 s)
  else (some ((iI 1), s)))
def fX6_hasDoors_b18 (s : Hp) : Option (Int32 × Hp) :=
  some ((iI 0), s)
def fX6_hasDoors (x0 : Nat) (x1 : Int32) (s : Hp) : Option (Int32 × Hp) :=
  (ck s x0 6).bind fun _ =>
  if x1 < 0 then
  (fX6_hasDoors_b18 s)
  else ((gI s x0 6 9).bind fun v2 =>
  if (ish (iI 1) v2) ≤ x1 then
  (fX6_hasDoors_b18 s)
  else (some ((iI 1), s)))
def fX6_hasLayer_b16 (s : Hp) : Option (Int32 × Hp) :=
  some ((iI 0), s)
def fX6_hasLayer (x0 : Nat) (x1 : Int32) (s : Hp) : Option (Int32 × Hp) :=
  (ck s x0 6).bind fun _ =>
  if x1 < 0 then
  (fX6_hasLayer_b16 s)
  else ((gI s x0 6 3).bind fun v2 =>
  if v2 ≤ x1 then
  (fX6_hasLayer_b16 s)
  else (some ((iI 1), s)))
def fX6_hasHour_b16 (s : Hp) : Option (Int32 × Hp) :=
  some ((iI 0), s)
def fX6_hasHour (x0 : Nat) (x1 : Int32) (s : Hp) : Option (Int32 × Hp) :=
  (ck s x0 6).bind fun _ =>
  if x1 < 0 then
  (fX6_hasHour_b16 s)
  else ((gI s x0 6 4).bind fun v2 =>
  if v2 ≤ x1 then
  (fX6_hasHour_b16 s)
  else (some ((iI 1), s)))
def fX6_actAt (x0 : Nat) (x1 : Int32) (x2 : Int32) (s : Hp) : Option (Int32 × Hp) :=
  (ck s x0 6).bind fun _ =>
  (gR s x0 6 17).bind fun v1 =>
  (aI s v1 ((x1 * (iI 24)) + x2)).bind fun v2 =>
  some (v2, s)
def fX6_changeFact (x0 : Nat) (x1 : Int32) (x2 : Int32) (s : Hp) : Option (Int32 × Hp) :=
  (ck s x0 6).bind fun _ =>
  (gR s x0 6 18).bind fun v1 =>
  (aI s v1 ((x1 * (iI 4)) + x2)).bind fun v2 =>
  some (v2, s)
def fX6_saleBrings (x0 : Nat) (x1 : Int32) (s : Hp) : Option (Int32 × Hp) :=
  (ck s x0 6).bind fun _ =>
  (gI s x0 6 7).bind fun v1 =>
  some (imax (iI 0) (v1 - x1), s)
def fX6_change (x0 : Nat) (x1 : Int32) (x2 : Int32) (x3 : Int32) (s : Hp) : Option (Int32 × Hp) :=
  (ck s x0 6).bind fun _ =>
  (fX6_actAt x0 x1 x2 s).bind fun r1 =>
  (gI r1.2 x0 6 13).bind fun v2 =>
  lt_ (v2 * (iI 4)) fun z3 =>
  (gR r1.2 x0 6 18).bind fun v4 =>
  (sI r1.2 v4 z3 x1).bind fun s5 =>
  (gR s5 x0 6 18).bind fun v6 =>
  (sI s5 v6 (z3 + (iI 1)) x2).bind fun s7 =>
  (gR s7 x0 6 18).bind fun v8 =>
  (sI s7 v8 (z3 + (iI 2)) x3).bind fun s9 =>
  (gR s9 x0 6 18).bind fun v10 =>
  (sI s9 v10 (z3 + (iI 3)) r1.1).bind fun s11 =>
  (gI s11 x0 6 13).bind fun v12 =>
  (pI s11 x0 6 13 (v12 + (iI 1))).bind fun s13 =>
  (fX6_setAct x0 x1 x2 x3 s13).bind fun s14 =>
  some (r1.1, s14)
def fX6_takeBack (x0 : Nat) (s : Hp) : Option (Hp) :=
  (ck s x0 6).bind fun _ =>
  (gI s x0 6 13).bind fun v1 =>
  (pI s x0 6 13 (v1 - (iI 1))).bind fun s2 =>
  (gI s2 x0 6 13).bind fun v3 =>
  (fX6_changeFact x0 v3 (iI 0) s2).bind fun r4 =>
  (gI r4.2 x0 6 13).bind fun v5 =>
  (fX6_changeFact x0 v5 (iI 1) r4.2).bind fun r6 =>
  (gI r6.2 x0 6 13).bind fun v7 =>
  (fX6_changeFact x0 v7 (iI 3) r6.2).bind fun r8 =>
  (fX6_setAct x0 r4.1 r6.1 r8.1 r8.2).bind fun s9 =>
  some s9
def fX6_copyFrom (x0 : Nat) (x1 : Nat) (s : Hp) : Option (Hp) :=
  (ck s x0 6).bind fun _ =>
  (gI s x1 6 0).bind fun v1 =>
  (pI s x0 6 0 v1).bind fun s2 =>
  (gI s2 x1 6 1).bind fun v3 =>
  (pI s2 x0 6 1 v3).bind fun s4 =>
  (gI s4 x1 6 2).bind fun v5 =>
  (pI s4 x0 6 2 v5).bind fun s6 =>
  (gI s6 x1 6 3).bind fun v7 =>
  (pI s6 x0 6 3 v7).bind fun s8 =>
  (gI s8 x1 6 4).bind fun v9 =>
  (pI s8 x0 6 4 v9).bind fun s10 =>
  (gI s10 x1 6 5).bind fun v11 =>
  (pI s10 x0 6 5 v11).bind fun s12 =>
  (gI s12 x1 6 6).bind fun v13 =>
  (pI s12 x0 6 6 v13).bind fun s14 =>
  (gI s14 x1 6 7).bind fun v15 =>
  (pI s14 x0 6 7 v15).bind fun s16 =>
  (gI s16 x1 6 8).bind fun v17 =>
  (pI s16 x0 6 8 v17).bind fun s18 =>
  (gI s18 x1 6 9).bind fun v19 =>
  (pI s18 x0 6 9 v19).bind fun s20 =>
  (gI s20 x1 6 10).bind fun v21 =>
  (pI s20 x0 6 10 v21).bind fun s22 =>
  (gI s22 x1 6 11).bind fun v23 =>
  (pI s22 x0 6 11 v23).bind fun s24 =>
  (gI s24 x1 6 12).bind fun v25 =>
  (pI s24 x0 6 12 v25).bind fun s26 =>
  (gI s26 x1 6 13).bind fun v27 =>
  (pI s26 x0 6 13 v27).bind fun s28 =>
  (gR s28 x1 6 14).bind fun v29 =>
  (gR s28 x0 6 14).bind fun v30 =>
  (gR s28 x0 6 14).bind fun v31 =>
  (aN s28 v31).bind fun v32 =>
  (cpV s28 20 v29 (iI 0) v30 (iI 0) v32).bind fun s33 =>
  (gR s33 x1 6 15).bind fun v34 =>
  (gR s33 x0 6 15).bind fun v35 =>
  (gR s33 x0 6 15).bind fun v36 =>
  (aN s33 v36).bind fun v37 =>
  (cpV s33 20 v34 (iI 0) v35 (iI 0) v37).bind fun s38 =>
  (gR s38 x1 6 16).bind fun v39 =>
  (gR s38 x0 6 16).bind fun v40 =>
  (gR s38 x0 6 16).bind fun v41 =>
  (aN s38 v41).bind fun v42 =>
  (cpV s38 20 v39 (iI 0) v40 (iI 0) v42).bind fun s43 =>
  (gR s43 x1 6 17).bind fun v44 =>
  (gR s43 x0 6 17).bind fun v45 =>
  (gR s43 x0 6 17).bind fun v46 =>
  (aN s43 v46).bind fun v47 =>
  (cpV s43 20 v44 (iI 0) v45 (iI 0) v47).bind fun s48 =>
  (gR s48 x1 6 18).bind fun v49 =>
  (gR s48 x0 6 18).bind fun v50 =>
  (gR s48 x0 6 18).bind fun v51 =>
  (aN s48 v51).bind fun v52 =>
  (cpV s48 20 v49 (iI 0) v50 (iI 0) v52).bind fun s53 =>
  some s53
def fX7_init (x0 : Nat) (s : Hp) : Option (Hp) :=
  (ck s x0 7).bind fun _ =>
  (mkA s 20 (iI 700) (.int 0)).bind fun s1 =>
  (pR s1 x0 7 0 s.1).bind fun s2 =>
  (mkA s2 20 (iI 125) (.int 0)).bind fun s3 =>
  (pR s3 x0 7 1 s2.1).bind fun s4 =>
  (mkA s4 20 (iI 96) (.int 0)).bind fun s5 =>
  (pR s5 x0 7 2 s4.1).bind fun s6 =>
  (mkA s6 23 (iI 96) (.int 0)).bind fun s7 =>
  (pR s7 x0 7 3 s6.1).bind fun s8 =>
  (mkA s8 20 (iI 96) (.int 0)).bind fun s9 =>
  (pR s9 x0 7 4 s8.1).bind fun s10 =>
  (mkA s10 23 (iI 5) (.int 0)).bind fun s11 =>
  (pR s11 x0 7 5 s10.1).bind fun s12 =>
  some s12
def fX7_pageOf (x0 : Nat) (x1 : Int32) (x2 : Int32) (s : Hp) : Option (Int32 × Hp) :=
  (ck s x0 7).bind fun _ =>
  some ((x2 * (iI 28)) + (x1 * (iI 7)), s)
def fX7_begin_l34 (x0 : Nat) (x4 : Int32) : (Int32 × Hp) → Option ((Int32 × Hp) ⊕ ((Hp))) := fun a =>
  if (iI 6) ≤ a.1 then
  (some (.inr a.2))
  else ((gR a.2 x0 7 0).bind fun v8 =>
  (fX7_pageOf x0 x4 (iI 0) a.2).bind fun r9 =>
  (gR r9.2 x0 7 6).bind fun v10 =>
  (fX6_shopFact v10 x4 a.1 r9.2).bind fun r11 =>
  (sI r11.2 v8 (r9.1 + a.1) r11.1).bind fun s12 =>
  some (.inl (a.1 + iI 1, s12)))
def fX7_begin_l19 (x0 : Nat) : (Int32 × Hp) → Option ((Int32 × Hp) ⊕ ((Hp))) := fun a =>
  (gR a.2 x0 7 6).bind fun v4 =>
  (gI a.2 v4 6 8).bind fun v5 =>
  if v5 ≤ a.1 then
  (some (.inr a.2))
  else ((iter (fX7_begin_l34 x0 a.1) FU ((iI 0), a.2)).bind fun r13 =>
  (gR r13 x0 7 0).bind fun v14 =>
  (fX7_pageOf x0 a.1 (iI 0) r13).bind fun r15 =>
  (sI r15.2 v14 (r15.1 + (iI 6)) (iI 0)).bind fun s16 =>
  some (.inl (a.1 + iI 1, s16)))
def fX7_begin_l98 (x0 : Nat) : (Int32 × Hp) → Option ((Int32 × Hp) ⊕ ((Hp))) := fun a =>
  (gR a.2 x0 7 6).bind fun v18 =>
  (gI a.2 v18 6 9).bind fun v19 =>
  if v19 ≤ a.1 then
  (some (.inr a.2))
  else ((gR a.2 x0 7 1).bind fun v21 =>
  (gR a.2 x0 7 6).bind fun v22 =>
  (fX6_doorFact v22 a.1 (iI 2) a.2).bind fun r23 =>
  (sI r23.2 v21 a.1 r23.1).bind fun s24 =>
  some (.inl (a.1 + iI 1, s24)))
def fX7_begin (x0 : Nat) (x1 : Nat) (x2 : Int32) (x3 : Int32) (s : Hp) : Option (Hp) :=
  (ck s x0 7).bind fun _ =>
  (pL s x0 7 7 (Int32.toInt64 x2)).bind fun s1 =>
  (pI s1 x0 7 8 x3).bind fun s2 =>
  (pR s2 x0 7 6 x1).bind fun s3 =>
  (iter (fX7_begin_l19 x0) FU ((iI 0), s3)).bind fun r17 =>
  (iter (fX7_begin_l98 x0) FU ((iI 0), r17)).bind fun r25 =>
  some r25
def fX7_beginBehind (x0 : Nat) (x1 : Nat) (x2 : Nat) (x3 : Int32) (s : Hp) : Option (Hp) :=
  (ck s x0 7).bind fun _ =>
  (pI s x0 7 8 (iI 0)).bind fun s1 =>
  (pR s1 x0 7 6 x1).bind fun s2 =>
  (gR s2 x2 7 0).bind fun v3 =>
  (gR s2 x0 7 0).bind fun v4 =>
  (cpV s2 20 v3 (x3 * (iI 28)) v4 (x3 * (iI 28)) (iI 28)).bind fun s5 =>
  (gR s5 x2 7 1).bind fun v6 =>
  (gR s5 x0 7 1).bind fun v7 =>
  (cpV s5 20 v6 (x3 * (iI 5)) v7 (x3 * (iI 5)) (iI 5)).bind fun s8 =>
  some s8
def fX7_drawGusts_b71 (x0 : Nat) (x1 : Int32) (y0 : Nat) (y1 : Int32) (y2 : Int32) (s : Hp) : Option ((Int32 × Hp) ⊕ ((Hp))) :=
  (sZ s y0 y1 y2).bind fun s12 =>
  some (.inl (x1 + iI 1, s12))
def fX7_drawGusts_b40 (x0 : Nat) (x1 : Int32) (s : Hp) : Option ((Int32 × Hp) ⊕ ((Hp))) :=
  (gR s x0 7 5).bind fun v6 =>
  (gL s x0 7 7).bind fun v7 =>
  (dL v7 65536).bind fun v8 =>
  (mL v8 100).bind fun v9 =>
  (gI s x0 7 8).bind fun v10 =>
  if 0 ≤ (lg_cmp v9 (Int32.toInt64 v10)) then
  (fX7_drawGusts_b71 x0 x1 v6 x1 (iI 0) s)
  else (fX7_drawGusts_b71 x0 x1 v6 x1 (iI 1) s)
def fX7_drawGusts_l2 (x0 : Nat) : (Int32 × Hp) → Option ((Int32 × Hp) ⊕ ((Hp))) := fun a =>
  (gR a.2 x0 7 6).bind fun v1 =>
  (gI a.2 v1 6 3).bind fun v2 =>
  if v2 ≤ a.1 then
  (some (.inr a.2))
  else ((gI a.2 x0 7 8).bind fun v4 =>
  if v4 ≤ 0 then
  (fX7_drawGusts_b40 x0 a.1 a.2)
  else ((gL a.2 x0 7 7).bind fun v13 =>
  (pL a.2 x0 7 7 (((1103515245 * v13) + 12345) &&& 2147483647)).bind fun s14 =>
  fX7_drawGusts_b40 x0 a.1 s14))
def fX7_drawGusts (x0 : Nat) (s : Hp) : Option (Hp) :=
  (ck s x0 7).bind fun _ =>
  (iter (fX7_drawGusts_l2 x0) FU ((iI 1), s)).bind fun r15 =>
  some r15
def fX7_reasonAgainst (x0 : Nat) (x1 : Int32) (x2 : Int32) (s : Hp) : Option (Int32 × Hp) :=
  (ck s x0 7).bind fun _ =>
  if x1 = (iI 1) then
  ((gR s x0 7 0).bind fun v9 =>
  (aI s v9 (x2 + (iI 2))).bind fun v10 =>
  (gR s x0 7 6).bind fun v11 =>
  (gI s v11 6 3).bind fun v12 =>
  if v10 < (v12 - (iI 1)) then
  ((gR s x0 7 0).bind fun v14 =>
  (aI s v14 (x2 + (iI 3))).bind fun v15 =>
  if v15 ≤ 0 then
  (some ((iI 1), s))
  else (some ((iI 0), s)))
  else (some ((iI 3), s)))
  else (if x1 = (iI 2) then
  ((gR s x0 7 0).bind fun v3 =>
  (aI s v3 (x2 + (iI 2))).bind fun v4 =>
  if 0 < v4 then
  ((gR s x0 7 0).bind fun v6 =>
  (aI s v6 (x2 + (iI 4))).bind fun v7 =>
  if v7 ≤ 0 then
  (some ((iI 2), s))
  else (some ((iI 0), s)))
  else (some ((iI 4), s)))
  else (some ((iI 0), s)))
def fX7_doAct (x0 : Nat) (x1 : Int32) (x2 : Int32) (s : Hp) : Option (Hp) :=
  (ck s x0 7).bind fun _ =>
  if x1 = (iI 1) then
  ((gR s x0 7 0).bind fun v9 =>
  (aI s v9 (x2 + (iI 2))).bind fun v10 =>
  (sI s v9 (x2 + (iI 2)) (v10 + (iI 1))).bind fun s11 =>
  (gR s11 x0 7 0).bind fun v12 =>
  (aI s11 v12 (x2 + (iI 3))).bind fun v13 =>
  (sI s11 v12 (x2 + (iI 3)) (v13 - (iI 1))).bind fun s14 =>
  some s14)
  else (if x1 = (iI 2) then
  ((gR s x0 7 0).bind fun v3 =>
  (aI s v3 (x2 + (iI 2))).bind fun v4 =>
  (sI s v3 (x2 + (iI 2)) (v4 - (iI 1))).bind fun s5 =>
  (gR s5 x0 7 0).bind fun v6 =>
  (aI s5 v6 (x2 + (iI 4))).bind fun v7 =>
  (sI s5 v6 (x2 + (iI 4)) (v7 - (iI 1))).bind fun s8 =>
  some s8)
  else (some s))
def fX7_carry_b76 (x0 : Nat) (x2 : Int32) (x5 : Int32) (x6 : Int32) (s : Hp) : Option (Int32 × Hp) :=
  (gR s x0 7 0).bind fun v15 =>
  (fX8_xOf x6 s).bind fun r16 =>
  (sI r16.2 v15 (x2 + (iI 0)) r16.1).bind fun s17 =>
  (gR s17 x0 7 0).bind fun v18 =>
  (fX8_yOf x6 s17).bind fun r19 =>
  (sI r19.2 v18 (x2 + (iI 1)) r19.1).bind fun s20 =>
  if x6 = x5 then
  (some ((iI 0), s20))
  else (some ((iI 1), s20))
def fX7_carry (x0 : Nat) (x1 : Int32) (x2 : Int32) (s : Hp) : Option (Int32 × Hp) :=
  (ck s x0 7).bind fun _ =>
  (gR s x0 7 0).bind fun v1 =>
  (aI s v1 (x2 + (iI 2))).bind fun v2 =>
  (gR s x0 7 6).bind fun v3 =>
  (fX6_windAt v3 v2 x1 s).bind fun r4 =>
  (gR r4.2 x0 7 0).bind fun v5 =>
  (aI r4.2 v5 (x2 + (iI 0))).bind fun v6 =>
  (gR r4.2 x0 7 0).bind fun v7 =>
  (aI r4.2 v7 (x2 + (iI 1))).bind fun v8 =>
  (fX8_columnOf v6 v8 r4.2).bind fun r9 =>
  (gR r9.2 x0 7 6).bind fun v10 =>
  (fX6_carried v10 r9.1 r4.1 r9.2).bind fun r11 =>
  (gR r11.2 x0 7 5).bind fun v12 =>
  (aZ r11.2 v12 v2).bind fun v13 =>
  if v13 = 0 then
  (fX7_carry_b76 x0 x2 r9.1 r11.1 r11.2)
  else ((gR r11.2 x0 7 6).bind fun v22 =>
  (fX6_carried v22 r11.1 r4.1 r11.2).bind fun r23 =>
  fX7_carry_b76 x0 x2 r9.1 r23.1 r23.2)
def fX7_sell_b65 (s : Hp) : Option (Int32 × Hp) :=
  some ((iI (-1)), s)
def fX7_sell (x0 : Nat) (x1 : Int32) (x2 : Int32) (s : Hp) : Option (Int32 × Hp) :=
  (ck s x0 7).bind fun _ =>
  (gR s x0 7 0).bind fun v1 =>
  (aI s v1 (x2 + (iI 2))).bind fun v2 =>
  (gR s x0 7 6).bind fun v3 =>
  (gR s x0 7 0).bind fun v4 =>
  (aI s v4 (x2 + (iI 0))).bind fun v5 =>
  (gR s x0 7 0).bind fun v6 =>
  (aI s v6 (x2 + (iI 1))).bind fun v7 =>
  (fX8_columnOf v5 v7 s).bind fun r8 =>
  (fX6_doorAt v3 r8.1 r8.2).bind fun r9 =>
  if r9.1 = (iI (-1)) then
  (fX7_sell_b65 r9.2)
  else ((gR r9.2 x0 7 6).bind fun v11 =>
  (gI r9.2 v11 6 6).bind fun v12 =>
  if v12 < v2 then
  (fX7_sell_b65 r9.2)
  else ((gR r9.2 x0 7 0).bind fun v14 =>
  (aI r9.2 v14 (x2 + (iI 5))).bind fun v15 =>
  if 0 < v15 then
  (lt_ (((x1 + (iI 1)) * (iI 5)) + r9.1) fun z17 =>
  (gR r9.2 x0 7 1).bind fun v18 =>
  (aI r9.2 v18 z17).bind fun v19 =>
  if 0 < v19 then
  ((gR r9.2 x0 7 1).bind fun v21 =>
  (aI r9.2 v21 z17).bind fun v22 =>
  (sI r9.2 v21 z17 (v22 - (iI 1))).bind fun s23 =>
  (gR s23 x0 7 0).bind fun v24 =>
  (aI s23 v24 (x2 + (iI 5))).bind fun v25 =>
  (sI s23 v24 (x2 + (iI 5)) (v25 - (iI 1))).bind fun s26 =>
  (gR s26 x0 7 0).bind fun v27 =>
  (aI s26 v27 (x2 + (iI 6))).bind fun v28 =>
  (gR s26 x0 7 6).bind fun v29 =>
  (fX6_saleBrings v29 v2 s26).bind fun r30 =>
  (sI r30.2 v27 (x2 + (iI 6)) (v28 + r30.1)).bind fun s31 =>
  (gR s31 x0 7 0).bind fun v32 =>
  (gR s31 x0 7 6).bind fun v33 =>
  (gI s31 v33 6 3).bind fun v34 =>
  (sI s31 v32 (x2 + (iI 2)) (imin (v2 + (iI 1)) (v34 - (iI 1)))).bind fun s35 =>
  some (r9.1, s35))
  else (some ((iI (-1)), r9.2)))
  else (fX7_sell_b65 r9.2)))
def fX7_flyHour_b106 (x0 : Nat) (x2 : Int32) (x3 : Int32) (x4 : Int32) (s : Hp) : Option (Hp) :=
  (gR s x0 7 4).bind fun v17 =>
  (fX7_sell x0 x2 x3 s).bind fun r18 =>
  (sI r18.2 v17 x4 r18.1).bind fun s19 =>
  some s19
def fX7_flyHour_b59 (x0 : Nat) (x2 : Int32) (x3 : Int32) (x4 : Int32) (s : Hp) : Option (Hp) :=
  (gR s x0 7 3).bind fun v11 =>
  (fX7_carry x0 x2 x3 s).bind fun r12 =>
  (sZ r12.2 v11 x4 r12.1).bind fun s13 =>
  (gR s13 x0 7 6).bind fun v14 =>
  (fX6_coolsIn v14 x2 s13).bind fun r15 =>
  if r15.1 = 0 then
  (fX7_flyHour_b106 x0 x2 x3 x4 r15.2)
  else ((gR r15.2 x0 7 0).bind fun v20 =>
  (aI r15.2 v20 (x3 + (iI 2))).bind fun v21 =>
  if v21 ≤ 0 then
  (fX7_flyHour_b106 x0 x2 x3 x4 r15.2)
  else ((gR r15.2 x0 7 0).bind fun v23 =>
  (aI r15.2 v23 (x3 + (iI 2))).bind fun v24 =>
  (sI r15.2 v23 (x3 + (iI 2)) (v24 - (iI 1))).bind fun s25 =>
  fX7_flyHour_b106 x0 x2 x3 x4 s25))
def fX7_flyHour (x0 : Nat) (x1 : Int32) (x2 : Int32) (s : Hp) : Option (Hp) :=
  (ck s x0 7).bind fun _ =>
  (fX7_pageOf x0 x1 (x2 + (iI 1)) s).bind fun r1 =>
  lt_ ((x1 * (iI 24)) + x2) fun z2 =>
  (gR r1.2 x0 7 6).bind fun v3 =>
  (fX6_actAt v3 x1 x2 r1.2).bind fun r4 =>
  (gR r4.2 x0 7 2).bind fun v5 =>
  (fX7_reasonAgainst x0 r4.1 r1.1 r4.2).bind fun r6 =>
  (sI r6.2 v5 z2 r6.1).bind fun s7 =>
  (gR s7 x0 7 2).bind fun v8 =>
  (aI s7 v8 z2).bind fun v9 =>
  if v9 = 0 then
  ((fX7_doAct x0 r4.1 r1.1 s7).bind fun s26 =>
  fX7_flyHour_b59 x0 x2 r1.1 z2 s26)
  else (fX7_flyHour_b59 x0 x2 r1.1 z2 s7)
def fX7_flyFrom_l66 (x0 : Nat) (x2 : Int32) : (Int32 × Hp) → Option ((Int32 × Hp) ⊕ ((Hp))) := fun a =>
  (gR a.2 x0 7 6).bind fun v13 =>
  (gI a.2 v13 6 8).bind fun v14 =>
  if v14 ≤ a.1 then
  (some (.inr a.2))
  else ((fX7_flyHour x0 a.1 x2 a.2).bind fun s16 =>
  some (.inl (a.1 + iI 1, s16)))
def fX7_flyFrom_l2 (x0 : Nat) : (Int32 × Hp) → Option ((Int32 × Hp) ⊕ ((Hp))) := fun a =>
  (gR a.2 x0 7 6).bind fun v1 =>
  (gI a.2 v1 6 4).bind fun v2 =>
  if v2 ≤ a.1 then
  (some (.inr a.2))
  else (lt_ (a.1 * (iI 28)) fun z4 =>
  (gR a.2 x0 7 0).bind fun v5 =>
  (gR a.2 x0 7 0).bind fun v6 =>
  (cpV a.2 20 v5 z4 v6 (z4 + (iI 28)) (iI 28)).bind fun s7 =>
  lt_ (a.1 * (iI 5)) fun z8 =>
  (gR s7 x0 7 1).bind fun v9 =>
  (gR s7 x0 7 1).bind fun v10 =>
  (cpV s7 20 v9 z8 v10 (z8 + (iI 5)) (iI 5)).bind fun s11 =>
  (fX7_drawGusts x0 s11).bind fun s12 =>
  (iter (fX7_flyFrom_l66 x0 a.1) FU ((iI 0), s12)).bind fun r17 =>
  some (.inl (a.1 + iI 1, r17)))
def fX7_flyFrom (x0 : Nat) (x1 : Int32) (s : Hp) : Option (Hp) :=
  (ck s x0 7).bind fun _ =>
  (iter (fX7_flyFrom_l2 x0) FU (x1, s)).bind fun r18 =>
  some r18
def fX7_factBehind (x0 : Nat) (x1 : Int32) (x2 : Int32) (x3 : Int32) (s : Hp) : Option (Int32 × Hp) :=
  (ck s x0 7).bind fun _ =>
  (gR s x0 7 0).bind fun v1 =>
  (fX7_pageOf x0 x1 (x2 + (iI 1)) s).bind fun r2 =>
  (aI r2.2 v1 (r2.1 + x3)).bind fun v3 =>
  some (v3, r2.2)
def fX7_columnBehind (x0 : Nat) (x1 : Int32) (x2 : Int32) (s : Hp) : Option (Int32 × Hp) :=
  (ck s x0 7).bind fun _ =>
  (fX7_factBehind x0 x1 x2 (iI 0) s).bind fun r1 =>
  (fX7_factBehind x0 x1 x2 (iI 1) r1.2).bind fun r2 =>
  (fX8_columnOf r1.1 r2.1 r2.2).bind fun r3 =>
  some (r3.1, r3.2)
def fX7_factAtEnd (x0 : Nat) (x1 : Int32) (x2 : Int32) (s : Hp) : Option (Int32 × Hp) :=
  (ck s x0 7).bind fun _ =>
  (gR s x0 7 6).bind fun v1 =>
  (gI s v1 6 4).bind fun v2 =>
  (fX7_factBehind x0 x1 (v2 - (iI 1)) x2 s).bind fun r3 =>
  some (r3.1, r3.2)
def fX7_columnAtEnd (x0 : Nat) (x1 : Int32) (s : Hp) : Option (Int32 × Hp) :=
  (ck s x0 7).bind fun _ =>
  (gR s x0 7 6).bind fun v1 =>
  (gI s v1 6 4).bind fun v2 =>
  (fX7_columnBehind x0 x1 (v2 - (iI 1)) s).bind fun r3 =>
  some (r3.1, r3.2)
def fX7_wantedAtEnd (x0 : Nat) (x1 : Int32) (s : Hp) : Option (Int32 × Hp) :=
  (ck s x0 7).bind fun _ =>
  (gR s x0 7 1).bind fun v1 =>
  (gR s x0 7 6).bind fun v2 =>
  (gI s v2 6 4).bind fun v3 =>
  (aI s v1 ((v3 * (iI 5)) + x1)).bind fun v4 =>
  some (v4, s)
def fX7_reasonAt (x0 : Nat) (x1 : Int32) (x2 : Int32) (s : Hp) : Option (Int32 × Hp) :=
  (ck s x0 7).bind fun _ =>
  (gR s x0 7 2).bind fun v1 =>
  (aI s v1 ((x1 * (iI 24)) + x2)).bind fun v2 =>
  some (v2, s)
def fX7_isCarriedAt (x0 : Nat) (x1 : Int32) (x2 : Int32) (s : Hp) : Option (Int32 × Hp) :=
  (ck s x0 7).bind fun _ =>
  (gR s x0 7 3).bind fun v1 =>
  (aZ s v1 ((x1 * (iI 24)) + x2)).bind fun v2 =>
  (rZ v2).bind fun _ => some (v2, s)
def fX7_saleDoorAt (x0 : Nat) (x1 : Int32) (x2 : Int32) (s : Hp) : Option (Int32 × Hp) :=
  (ck s x0 7).bind fun _ =>
  (gR s x0 7 4).bind fun v1 =>
  (aI s v1 ((x1 * (iI 24)) + x2)).bind fun v2 =>
  some (v2, s)
def fX7_moneyOfAll_l4 (x0 : Nat) : (Int32 × Int32 × Hp) → Option ((Int32 × Int32 × Hp) ⊕ ((Int32 × Hp))) := fun a =>
  (gR a.2.2 x0 7 6).bind fun v1 =>
  (gI a.2.2 v1 6 8).bind fun v2 =>
  if v2 ≤ a.2.1 then
  (some (.inr (a.1, a.2.2)))
  else ((fX7_factAtEnd x0 a.2.1 (iI 6) a.2.2).bind fun r4 =>
  lt_ (a.1 + r4.1) fun z5 =>
  some (.inl (z5, a.2.1 + iI 1, r4.2)))
def fX7_moneyOfAll (x0 : Nat) (s : Hp) : Option (Int32 × Hp) :=
  (ck s x0 7).bind fun _ =>
  (iter (fX7_moneyOfAll_l4 x0) FU ((iI 0), (iI 0), s)).bind fun r6 =>
  some (r6.1, r6.2)
def fX8_init_l98 (x0 : Nat) : (Int32 × Hp) → Option ((Int32 × Hp) ⊕ ((Hp))) := fun a =>
  if (iI 3) ≤ a.1 then
  (some (.inr a.2))
  else ((gR a.2 x0 8 4).bind fun v26 =>
  lt_ (mk a.2 (6, 19, df6)) fun s27 =>
  (fX6_init a.2.1 s27).bind fun s28 =>
  (sR s28 24 6 v26 a.1 a.2.1).bind fun s29 =>
  some (.inl (a.1 + iI 1, s29)))
def fX8_init_l124 (x0 : Nat) : (Int32 × Hp) → Option ((Int32 × Hp) ⊕ ((Hp))) := fun a =>
  if (iI 4) ≤ a.1 then
  (some (.inr a.2))
  else ((gR a.2 x0 8 6).bind fun v32 =>
  lt_ (mk a.2 (5, 3, df5)) fun s33 =>
  (fX5_init a.2.1 s33).bind fun s34 =>
  (sR s34 25 5 v32 a.1 a.2.1).bind fun s35 =>
  some (.inl (a.1 + iI 1, s35)))
def fX8_init (x0 : Nat) (s : Hp) : Option (Hp) :=
  (ck s x0 8).bind fun _ =>
  (mkA s 22 (iI 1600) (.int 0)).bind fun s1 =>
  (pR s1 x0 8 0 s.1).bind fun s2 =>
  lt_ (mk s2 (3, 10, df3)) fun s3 =>
  (fX3_init s2.1 s3).bind fun s4 =>
  (pR s4 x0 8 1 s2.1).bind fun s5 =>
  lt_ (mk s5 (7, 9, df7)) fun s6 =>
  (fX7_init s5.1 s6).bind fun s7 =>
  (pR s7 x0 8 2 s5.1).bind fun s8 =>
  lt_ (mk s8 (7, 9, df7)) fun s9 =>
  (fX7_init s8.1 s9).bind fun s10 =>
  (pR s10 x0 8 3 s8.1).bind fun s11 =>
  (mkA s11 24 (iI 3) .null).bind fun s12 =>
  (pR s12 x0 8 4 s11.1).bind fun s13 =>
  (mkA s13 23 (iI 3) (.int 0)).bind fun s14 =>
  (pR s14 x0 8 5 s13.1).bind fun s15 =>
  (mkA s15 25 (iI 4) .null).bind fun s16 =>
  (pR s16 x0 8 6 s15.1).bind fun s17 =>
  lt_ (mk s17 (6, 19, df6)) fun s18 =>
  (fX6_init s17.1 s18).bind fun s19 =>
  (pR s19 x0 8 7 s17.1).bind fun s20 =>
  lt_ (mk s20 (6, 19, df6)) fun s21 =>
  (fX6_init s20.1 s21).bind fun s22 =>
  (pR s22 x0 8 8 s20.1).bind fun s23 =>
  (pI s23 x0 8 12 (iI 1)).bind fun s24 =>
  (iter (fX8_init_l98 x0) FU ((iI 0), s24)).bind fun r30 =>
  (iter (fX8_init_l124 x0) FU ((iI 0), r30)).bind fun r36 =>
  some r36
def fX8_putBytes_l3 (x0 : Nat) (x1 : Int32) : (Int32 × Hp) → Option ((Int32 × Hp) ⊕ ((Hp))) := fun a =>
  if a.1 < 0 then
  (some (.inr a.2))
  else ((gR a.2 x0 8 0).bind fun v2 =>
  (gI a.2 x0 8 10).bind fun v3 =>
  (sB a.2 v2 v3 (i2b (isr x1 a.1))).bind fun s4 =>
  (gI s4 x0 8 10).bind fun v5 =>
  (pI s4 x0 8 10 (v5 + (iI 1))).bind fun s6 =>
  some (.inl (a.1 + iI (-8), s6)))
def fX8_putBytes (x0 : Nat) (x1 : Int32) (s : Hp) : Option (Hp) :=
  (ck s x0 8).bind fun _ =>
  (iter (fX8_putBytes_l3 x0 x1) FU ((iI 24), s)).bind fun r7 =>
  some r7
def fX8_feed (x0 : Nat) (x1 : Int32) (x2 : Int32) (x3 : Int32) (x4 : Int32) (x5 : Int32) (s : Hp) : Option (Int32 × Hp) :=
  (ck s x0 8).bind fun _ =>
  (gI s x0 8 10).bind fun v1 =>
  if v1 ≤ (iI 1580) then
  ((fX8_putBytes x0 x1 s).bind fun s3 =>
  (fX8_putBytes x0 x2 s3).bind fun s4 =>
  (fX8_putBytes x0 x3 s4).bind fun s5 =>
  (fX8_putBytes x0 x4 s5).bind fun s6 =>
  (fX8_putBytes x0 x5 s6).bind fun s7 =>
  (gI s7 x0 8 10).bind fun v8 =>
  some (v8, s7))
  else (some ((iI (-1)), s))
def fX8_end_b12 (s : Hp) : Option (Int32 × Hp) :=
  some ((iI (-1)), s)
def fX8_end (x0 : Nat) (x1 : Int32) (s : Hp) : Option (Int32 × Hp) :=
  (ck s x0 8).bind fun _ =>
  if x1 < 0 then
  (fX8_end_b12 s)
  else ((gI s x0 8 10).bind fun v2 =>
  if x1 ≤ v2 then
  ((pI s x0 8 10 x1).bind fun s4 =>
  some (x1, s4))
  else (fX8_end_b12 s))
def fX8_forgetAll (x0 : Nat) (s : Hp) : Option (Hp) :=
  (ck s x0 8).bind fun _ =>
  (pZ s x0 8 11 (iI 0)).bind fun s1 =>
  (gI s1 x0 8 12).bind fun v2 =>
  (pI s1 x0 8 12 (v2 + (iI 1))).bind fun s3 =>
  some s3
def fX8_valley (K : Nat → Nat) (x0 : Nat) (s : Hp) : Option (Int32 × Hp) :=
  (ck s x0 8).bind fun _ =>
  (gR s x0 8 1).bind fun v1 =>
  (gR s x0 8 0).bind fun v2 =>
  (gI s x0 8 10).bind fun v3 =>
  (gR s x0 8 8).bind fun v4 =>
  (fX3_reads K v1 v2 v3 v4 s).bind fun r5 =>
  (pI r5.2 x0 8 10 (iI 0)).bind fun s6 =>
  if r5.1 = 0 then
  (some ((iI (-4)), s6))
  else ((gR s6 x0 8 7).bind fun v8 =>
  (gR s6 x0 8 8).bind fun v9 =>
  (pR s6 x0 8 7 v9).bind fun s10 =>
  (pR s10 x0 8 8 v8).bind fun s11 =>
  (fX8_forgetAll x0 s11).bind fun s12 =>
  (gR s12 x0 8 7).bind fun v13 =>
  (gI s12 v13 6 0).bind fun v14 =>
  some (v14, s12))
def fX8_fault (x0 : Nat) (x1 : Int32) (s : Hp) : Option (Int32 × Hp) :=
  (ck s x0 8).bind fun _ =>
  if x1 = 0 then
  ((gR s x0 8 1).bind fun v5 =>
  (gI s v5 3 0).bind fun v6 =>
  some (v6, s))
  else (if x1 = (iI 1) then
  ((gR s x0 8 1).bind fun v3 =>
  (gI s v3 3 1).bind fun v4 =>
  some (v4, s))
  else (some ((iI (-1)), s)))
def fX8_wind_b22 (s : Hp) : Option (Int32 × Hp) :=
  some ((iI (-2)), s)
def fX8_wind (x0 : Nat) (x1 : Int32) (x2 : Int32) (s : Hp) : Option (Int32 × Hp) :=
  (ck s x0 8).bind fun _ =>
  (gR s x0 8 7).bind fun v1 =>
  (fX6_hasLayer v1 x1 s).bind fun r2 =>
  if r2.1 = 0 then
  (fX8_wind_b22 r2.2)
  else ((gR r2.2 x0 8 7).bind fun v4 =>
  (fX6_hasHour v4 x2 r2.2).bind fun r5 =>
  if r5.1 = 0 then
  (fX8_wind_b22 r5.2)
  else ((gR r5.2 x0 8 7).bind fun v7 =>
  (fX6_windAt v7 x1 x2 r5.2).bind fun r8 =>
  some (r8.1, r8.2)))
def fX8_isWind_b13 (s : Hp) : Option (Int32 × Hp) :=
  some ((iI 0), s)
def fX8_isWind (x0 : Int32) (s : Hp) : Option (Int32 × Hp) :=
  if x0 < 0 then
  (fX8_isWind_b13 s)
  else (if (iI 5) ≤ x0 then
  (fX8_isWind_b13 s)
  else (some ((iI 1), s)))
def fX8_often_b18 (s : Hp) : Option (Int32 × Hp) :=
  some ((iI (-2)), s)
def fX8_often_b58 (x0 : Nat) (x1 : Int32) (x2 : Int32) (x4 : Int32) (y0 : Int32) (y1 : Int32) (s : Hp) : Option ((Int32 × Int32 × Hp) ⊕ ((Int32 × Hp))) :=
  lt_ (y0 + y1) fun z12 =>
  some (.inl (z12, x4 + iI 1, s))
def fX8_often_l26 (x0 : Nat) (x1 : Int32) (x2 : Int32) : (Int32 × Int32 × Hp) → Option ((Int32 × Int32 × Hp) ⊕ ((Int32 × Hp))) := fun a =>
  (gR a.2.2 x0 8 7).bind fun v6 =>
  (gI a.2.2 v6 6 4).bind fun v7 =>
  if v7 ≤ a.2.1 then
  (some (.inr (a.1, a.2.2)))
  else ((gR a.2.2 x0 8 7).bind fun v9 =>
  (fX6_windAt v9 x1 a.2.1 a.2.2).bind fun r10 =>
  if r10.1 = x2 then
  (fX8_often_b58 x0 x1 x2 a.2.1 a.1 (iI 1) r10.2)
  else (fX8_often_b58 x0 x1 x2 a.2.1 a.1 (iI 0) r10.2))
def fX8_often (x0 : Nat) (x1 : Int32) (x2 : Int32) (s : Hp) : Option (Int32 × Hp) :=
  (ck s x0 8).bind fun _ =>
  (gR s x0 8 7).bind fun v1 =>
  (fX6_hasLayer v1 x1 s).bind fun r2 =>
  if r2.1 = 0 then
  (fX8_often_b18 r2.2)
  else ((fX8_isWind x2 r2.2).bind fun r4 =>
  if r4.1 = 0 then
  (fX8_often_b18 r4.2)
  else ((iter (fX8_often_l26 x0 x1 x2) FU ((iI 0), (iI 0), r4.2)).bind fun r13 =>
  some (r13.1, r13.2)))
def fX8_shop_b21 (s : Hp) : Option (Int32 × Hp) :=
  some ((iI (-2)), s)
def fX8_shop (x0 : Nat) (x1 : Int32) (x2 : Int32) (s : Hp) : Option (Int32 × Hp) :=
  (ck s x0 8).bind fun _ =>
  (gR s x0 8 7).bind fun v1 =>
  (fX6_hasShop v1 x1 s).bind fun r2 =>
  if r2.1 = 0 then
  (fX8_shop_b21 r2.2)
  else (if x2 < 0 then
  (fX8_shop_b21 r2.2)
  else (if x2 < (iI 6) then
  ((gR r2.2 x0 8 7).bind fun v6 =>
  (fX6_shopFact v6 x1 x2 r2.2).bind fun r7 =>
  some (r7.1, r7.2))
  else (fX8_shop_b21 r2.2)))
def fX8_flown_b33 (x0 : Nat) (s : Hp) : Option (Nat × Hp) :=
  (gR s x0 8 2).bind fun v3 =>
  some (v3, s)
def fX8_flown (x0 : Nat) (s : Hp) : Option (Nat × Hp) :=
  (ck s x0 8).bind fun _ =>
  (gI s x0 8 11).bind fun v1 =>
  if v1 = 0 then
  ((gR s x0 8 2).bind fun v4 =>
  (gR s x0 8 7).bind fun v5 =>
  (fX7_begin v4 v5 (iI 0) (iI 0) s).bind fun s6 =>
  (gR s6 x0 8 2).bind fun v7 =>
  (fX7_flyFrom v7 (iI 0) s6).bind fun s8 =>
  (pZ s8 x0 8 11 (iI 1)).bind fun s9 =>
  fX8_flown_b33 x0 s9)
  else (fX8_flown_b33 x0 s)
def fX8_door_b20 (s : Hp) : Option (Int32 × Hp) :=
  some ((iI (-2)), s)
def fX8_door (x0 : Nat) (x1 : Int32) (x2 : Int32) (s : Hp) : Option (Int32 × Hp) :=
  (ck s x0 8).bind fun _ =>
  (gR s x0 8 7).bind fun v1 =>
  (fX6_hasDoor v1 x1 s).bind fun r2 =>
  if r2.1 = 0 then
  (fX8_door_b20 r2.2)
  else (if x2 < 0 then
  (fX8_door_b20 r2.2)
  else (if x2 ≤ (iI 3) then
  (if x2 = (iI 3) then
  ((fX8_flown x0 r2.2).bind fun r9 =>
  (fX7_wantedAtEnd r9.1 x1 r9.2).bind fun r10 =>
  some (r10.1, r10.2))
  else ((gR r2.2 x0 8 7).bind fun v7 =>
  (fX6_doorFact v7 x1 x2 r2.2).bind fun r8 =>
  some (r8.1, r8.2)))
  else (fX8_door_b20 r2.2)))
def fX8_hasShopHour_b26 (s : Hp) : Option (Int32 × Hp) :=
  some ((iI 0), s)
def fX8_hasShopHour (x0 : Nat) (x1 : Int32) (x2 : Int32) (s : Hp) : Option (Int32 × Hp) :=
  (ck s x0 8).bind fun _ =>
  (gR s x0 8 7).bind fun v1 =>
  (fX6_hasShop v1 x1 s).bind fun r2 =>
  if r2.1 = 0 then
  (fX8_hasShopHour_b26 r2.2)
  else ((gR r2.2 x0 8 7).bind fun v4 =>
  (fX6_hasHour v4 x2 r2.2).bind fun r5 =>
  if r5.1 = 0 then
  (fX8_hasShopHour_b26 r5.2)
  else (some ((iI 1), r5.2)))
def fX8_act (x0 : Nat) (x1 : Int32) (x2 : Int32) (s : Hp) : Option (Int32 × Hp) :=
  (ck s x0 8).bind fun _ =>
  (fX8_hasShopHour x0 x1 x2 s).bind fun r1 =>
  if r1.1 = 0 then
  (some ((iI (-2)), r1.2))
  else ((gR r1.2 x0 8 7).bind fun v3 =>
  (fX6_actAt v3 x1 x2 r1.2).bind fun r4 =>
  some (r4.1, r4.2))
def fX8_isAct_b13 (s : Hp) : Option (Int32 × Hp) :=
  some ((iI 0), s)
def fX8_isAct (x0 : Int32) (s : Hp) : Option (Int32 × Hp) :=
  if x0 < 0 then
  (fX8_isAct_b13 s)
  else (if (iI 3) ≤ x0 then
  (fX8_isAct_b13 s)
  else (some ((iI 1), s)))
def fX8_plan_b16 (s : Hp) : Option (Int32 × Hp) :=
  some ((iI (-2)), s)
def fX8_plan (x0 : Nat) (x1 : Int32) (x2 : Int32) (x3 : Int32) (s : Hp) : Option (Int32 × Hp) :=
  (ck s x0 8).bind fun _ =>
  (fX8_hasShopHour x0 x1 x2 s).bind fun r1 =>
  if r1.1 = 0 then
  (fX8_plan_b16 r1.2)
  else ((fX8_isAct x3 r1.2).bind fun r3 =>
  if r3.1 = 0 then
  (fX8_plan_b16 r3.2)
  else ((gR r3.2 x0 8 7).bind fun v5 =>
  (gI r3.2 v5 6 13).bind fun v6 =>
  if v6 < (iI 60) then
  ((pZ r3.2 x0 8 11 (iI 0)).bind fun s8 =>
  (gR s8 x0 8 7).bind fun v9 =>
  (fX6_change v9 x1 x2 x3 s8).bind fun r10 =>
  some (r10.1, r10.2))
  else (some ((iI (-5)), r3.2))))
def fX8_undo (x0 : Nat) (s : Hp) : Option (Int32 × Hp) :=
  (ck s x0 8).bind fun _ =>
  (gR s x0 8 7).bind fun v1 =>
  (fX6_stands v1 s).bind fun r2 =>
  if r2.1 = 0 then
  (some ((iI (-2)), r2.2))
  else ((gR r2.2 x0 8 7).bind fun v4 =>
  (gI r2.2 v4 6 13).bind fun v5 =>
  if 0 < v5 then
  ((pZ r2.2 x0 8 11 (iI 0)).bind fun s7 =>
  (gR s7 x0 8 7).bind fun v8 =>
  (fX6_takeBack v8 s7).bind fun s9 =>
  (gR s9 x0 8 7).bind fun v10 =>
  (gI s9 v10 6 13).bind fun v11 =>
  some (v11, s9))
  else (some ((iI (-5)), r2.2)))
def fX8_changed_b19 (s : Hp) : Option (Int32 × Hp) :=
  some ((iI (-2)), s)
def fX8_changed_b37 (s : Hp) : Option (Int32 × Hp) :=
  some ((iI (-1)), s)
def fX8_changed (x0 : Nat) (x1 : Int32) (x2 : Int32) (s : Hp) : Option (Int32 × Hp) :=
  (ck s x0 8).bind fun _ =>
  (gR s x0 8 7).bind fun v1 =>
  (fX6_stands v1 s).bind fun r2 =>
  if r2.1 = 0 then
  (fX8_changed_b19 r2.2)
  else (if x2 < 0 then
  (fX8_changed_b19 r2.2)
  else (if x2 < (iI 4) then
  (if x1 < 0 then
  (fX8_changed_b37 r2.2)
  else ((gR r2.2 x0 8 7).bind fun v7 =>
  (gI r2.2 v7 6 13).bind fun v8 =>
  if x1 < v8 then
  ((gR r2.2 x0 8 7).bind fun v10 =>
  (fX6_changeFact v10 x1 x2 r2.2).bind fun r11 =>
  some (r11.1, r11.2))
  else (fX8_changed_b37 r2.2)))
  else (fX8_changed_b19 r2.2)))
def fX8_where_b19 (s : Hp) : Option (Int32 × Hp) :=
  some ((iI (-2)), s)
def fX8_where (x0 : Nat) (x1 : Int32) (x2 : Int32) (x3 : Int32) (s : Hp) : Option (Int32 × Hp) :=
  (ck s x0 8).bind fun _ =>
  (fX8_hasShopHour x0 x1 x2 s).bind fun r1 =>
  if r1.1 = 0 then
  (fX8_where_b19 r1.2)
  else (if x3 < 0 then
  (fX8_where_b19 r1.2)
  else (if x3 < (iI 7) then
  ((fX8_flown x0 r1.2).bind fun r5 =>
  (fX7_factBehind r5.1 x1 x2 x3 r5.2).bind fun r6 =>
  some (r6.1, r6.2))
  else (fX8_where_b19 r1.2)))
def fX8_why (x0 : Nat) (x1 : Int32) (x2 : Int32) (s : Hp) : Option (Int32 × Hp) :=
  (ck s x0 8).bind fun _ =>
  (fX8_hasShopHour x0 x1 x2 s).bind fun r1 =>
  if r1.1 = 0 then
  (some ((iI (-2)), r1.2))
  else ((fX8_flown x0 r1.2).bind fun r3 =>
  (fX7_reasonAt r3.1 x1 x2 r3.2).bind fun r4 =>
  some (r4.1, r4.2))
def fX8_vain_b52 (x0 : Nat) (x1 : Int32) (x2 : Nat) (x4 : Int32) (y0 : Int32) (y1 : Int32) (s : Hp) : Option ((Int32 × Int32 × Hp) ⊕ ((Int32 × Hp))) :=
  lt_ (y0 + y1) fun z10 =>
  some (.inl (z10, x4 + iI 1, s))
def fX8_vain_l24 (x0 : Nat) (x1 : Int32) (x2 : Nat) : (Int32 × Int32 × Hp) → Option ((Int32 × Int32 × Hp) ⊕ ((Int32 × Hp))) := fun a =>
  (gR a.2.2 x0 8 7).bind fun v5 =>
  (gI a.2.2 v5 6 4).bind fun v6 =>
  if v6 ≤ a.2.1 then
  (some (.inr (a.1, a.2.2)))
  else ((fX7_reasonAt x2 x1 a.2.1 a.2.2).bind fun r8 =>
  if r8.1 = 0 then
  (fX8_vain_b52 x0 x1 x2 a.2.1 a.1 (iI 0) r8.2)
  else (fX8_vain_b52 x0 x1 x2 a.2.1 a.1 (iI 1) r8.2))
def fX8_vain (x0 : Nat) (x1 : Int32) (s : Hp) : Option (Int32 × Hp) :=
  (ck s x0 8).bind fun _ =>
  (gR s x0 8 7).bind fun v1 =>
  (fX6_hasShop v1 x1 s).bind fun r2 =>
  if r2.1 = 0 then
  (some ((iI (-2)), r2.2))
  else ((fX8_flown x0 r2.2).bind fun r4 =>
  (iter (fX8_vain_l24 x0 x1 r4.1) FU ((iI 0), (iI 0), r4.2)).bind fun r11 =>
  some (r11.1, r11.2))
def fX8_blown (x0 : Nat) (x1 : Int32) (x2 : Int32) (s : Hp) : Option (Int32 × Hp) :=
  (ck s x0 8).bind fun _ =>
  (fX8_hasShopHour x0 x1 x2 s).bind fun r1 =>
  if r1.1 = 0 then
  (some ((iI (-2)), r1.2))
  else ((fX8_flown x0 r1.2).bind fun r3 =>
  (fX7_isCarriedAt r3.1 x1 x2 r3.2).bind fun r4 =>
  if r4.1 = 0 then
  (some ((iI 0), r4.2))
  else (some ((iI 1), r4.2)))
def fX8_sales_b27 (s : Hp) : Option (Int32 × Hp) :=
  some ((iI (-2)), s)
def fX8_sales_b86 (x0 : Nat) (x1 : Int32) (x2 : Int32) (x3 : Nat) (x5 : Int32) (y0 : Int32) (y1 : Int32) (s : Hp) : Option ((Int32 × Int32 × Hp) ⊕ ((Int32 × Hp))) :=
  lt_ (y0 + y1) fun z11 =>
  some (.inl (z11, x5 + iI 1, s))
def fX8_sales_b85 (x0 : Nat) (x1 : Int32) (x2 : Int32) (x3 : Nat) (x5 : Int32) (y0 : Int32) (s : Hp) : Option ((Int32 × Int32 × Hp) ⊕ ((Int32 × Hp))) :=
  fX8_sales_b86 x0 x1 x2 x3 x5 y0 (iI 0) s
def fX8_sales_b81 (x0 : Nat) (x1 : Int32) (x2 : Int32) (x3 : Nat) (x5 : Int32) (y0 : Int32) (s : Hp) : Option ((Int32 × Int32 × Hp) ⊕ ((Int32 × Hp))) :=
  fX8_sales_b86 x0 x1 x2 x3 x5 y0 (iI 1) s
def fX8_sales_l41 (x0 : Nat) (x1 : Int32) (x2 : Int32) (x3 : Nat) : (Int32 × Int32 × Hp) → Option ((Int32 × Int32 × Hp) ⊕ ((Int32 × Hp))) := fun a =>
  (gR a.2.2 x0 8 7).bind fun v6 =>
  (gI a.2.2 v6 6 4).bind fun v7 =>
  if v7 ≤ a.2.1 then
  (some (.inr (a.1, a.2.2)))
  else ((fX7_saleDoorAt x3 x1 a.2.1 a.2.2).bind fun r9 =>
  if r9.1 = (iI (-1)) then
  (fX8_sales_b85 x0 x1 x2 x3 a.2.1 a.1 r9.2)
  else (if x2 = (iI (-1)) then
  (fX8_sales_b81 x0 x1 x2 x3 a.2.1 a.1 r9.2)
  else (if x2 = r9.1 then
  (fX8_sales_b81 x0 x1 x2 x3 a.2.1 a.1 r9.2)
  else (fX8_sales_b85 x0 x1 x2 x3 a.2.1 a.1 r9.2))))
def fX8_sales_b30 (x0 : Nat) (x1 : Int32) (x2 : Int32) (s : Hp) : Option (Int32 × Hp) :=
  (fX8_flown x0 s).bind fun r5 =>
  (iter (fX8_sales_l41 x0 x1 x2 r5.1) FU ((iI 0), (iI 0), r5.2)).bind fun r14 =>
  some (r14.1, r14.2)
def fX8_sales (x0 : Nat) (x1 : Int32) (x2 : Int32) (s : Hp) : Option (Int32 × Hp) :=
  (ck s x0 8).bind fun _ =>
  (gR s x0 8 7).bind fun v1 =>
  (fX6_hasShop v1 x1 s).bind fun r2 =>
  if r2.1 = 0 then
  (fX8_sales_b27 r2.2)
  else (if x2 = (iI (-1)) then
  (fX8_sales_b30 x0 x1 x2 r2.2)
  else ((gR r2.2 x0 8 7).bind fun v15 =>
  (fX6_hasDoor v15 x2 r2.2).bind fun r16 =>
  if r16.1 = 0 then
  (fX8_sales_b27 r16.2)
  else (fX8_sales_b30 x0 x1 x2 r16.2)))
def fX8_sold_b60 (x0 : Nat) (x1 : Int32) (x2 : Int32) (x3 : Nat) (x4 : Int32) (x5 : Int32) (s : Hp) : Option ((Int32 × Int32 × Hp) ⊕ ((Hp) ⊕ (Int32 × Hp))) :=
  some (.inl (x4, x5 + iI 1, s))
def fX8_sold_l25 (x0 : Nat) (x1 : Int32) (x2 : Int32) (x3 : Nat) : (Int32 × Int32 × Hp) → Option ((Int32 × Int32 × Hp) ⊕ ((Hp) ⊕ (Int32 × Hp))) := fun a =>
  (gR a.2.2 x0 8 7).bind fun v5 =>
  (gI a.2.2 v5 6 4).bind fun v6 =>
  if v6 ≤ a.2.1 then
  (some (.inr (.inl a.2.2)))
  else ((fX7_saleDoorAt x3 x1 a.2.1 a.2.2).bind fun r8 =>
  if r8.1 = (iI (-1)) then
  (fX8_sold_b60 x0 x1 x2 x3 a.1 a.2.1 r8.2)
  else (if a.1 = x2 then
  (some (.inr (.inr (a.2.1, r8.2))))
  else (fX8_sold_b60 x0 x1 x2 x3 (a.1 + iI 1) a.2.1 r8.2)))
def fX8_sold (x0 : Nat) (x1 : Int32) (x2 : Int32) (s : Hp) : Option (Int32 × Hp) :=
  (ck s x0 8).bind fun _ =>
  (gR s x0 8 7).bind fun v1 =>
  (fX6_hasShop v1 x1 s).bind fun r2 =>
  if r2.1 = 0 then
  (some ((iI (-2)), r2.2))
  else ((fX8_flown x0 r2.2).bind fun r4 =>
  (iter (fX8_sold_l25 x0 x1 x2 r4.1) FU ((iI 0), (iI 0), r4.2)).bind (Sum.elim (fun r11a => some ((iI (-1)), r11a)) (fun r11b => some (r11b.1, r11b.2))))
def fX8_money (x0 : Nat) (s : Hp) : Option (Int32 × Hp) :=
  (ck s x0 8).bind fun _ =>
  (gR s x0 8 7).bind fun v1 =>
  (fX6_stands v1 s).bind fun r2 =>
  if r2.1 = 0 then
  (some ((iI (-2)), r2.2))
  else ((fX8_flown x0 r2.2).bind fun r4 =>
  (fX7_moneyOfAll r4.1 r4.2).bind fun r5 =>
  some (r5.1, r5.2))
def fX8_richest_b61 (x0 : Nat) (x1 : Nat) (x2 : Int32) (x3 : Int32) (x4 : Int32) (s : Hp) : Option ((Int32 × Int32 × Int32 × Hp) ⊕ ((Int32 × Hp))) :=
  some (.inl (x2, x3, x4 + iI 1, s))
def fX8_richest_l25 (x0 : Nat) (x1 : Nat) : (Int32 × Int32 × Int32 × Hp) → Option ((Int32 × Int32 × Int32 × Hp) ⊕ ((Int32 × Hp))) := fun a =>
  (gR a.2.2.2 x0 8 7).bind fun v5 =>
  (gI a.2.2.2 v5 6 8).bind fun v6 =>
  if v6 ≤ a.2.2.1 then
  (some (.inr (a.1, a.2.2.2)))
  else ((fX7_factAtEnd x1 a.2.2.1 (iI 6) a.2.2.2).bind fun r8 =>
  if r8.1 ≤ a.2.1 then
  (fX8_richest_b61 x0 x1 a.1 a.2.1 a.2.2.1 r8.2)
  else ((fX7_factAtEnd x1 a.2.2.1 (iI 6) r8.2).bind fun r10 =>
  fX8_richest_b61 x0 x1 a.2.2.1 r10.1 a.2.2.1 r10.2))
def fX8_richest (x0 : Nat) (s : Hp) : Option (Int32 × Hp) :=
  (ck s x0 8).bind fun _ =>
  (gR s x0 8 7).bind fun v1 =>
  (fX6_stands v1 s).bind fun r2 =>
  if r2.1 = 0 then
  (some ((iI (-2)), r2.2))
  else ((fX8_flown x0 r2.2).bind fun r4 =>
  (iter (fX8_richest_l25 x0 r4.1) FU ((iI (-1)), (iI (-1)), (iI 0), r4.2)).bind fun r11 =>
  some (r11.1, r11.2))
def fX8_meets_b95 (x0 : Nat) (x1 : Int32) (x2 : Int32) (x3 : Nat) (x4 : Int32) (x5 : Int32) (s : Hp) : Option ((Int32 × Int32 × Hp) ⊕ ((Int32 × Hp))) :=
  some (.inl (x4, x5 + iI 1, s))
def fX8_meets_b62 (x0 : Nat) (x1 : Int32) (x2 : Int32) (x3 : Nat) (x4 : Int32) (x5 : Int32) (y0 : Int32) (s : Hp) : Option ((Int32 × Int32 × Hp) ⊕ ((Int32 × Hp))) :=
  if y0 = 0 then
  (fX8_meets_b95 x0 x1 x2 x3 x4 x5 s)
  else ((fX7_columnBehind x3 x1 x5 s).bind fun r12 =>
  (fX7_columnBehind x3 x2 x5 r12.2).bind fun r13 =>
  if r12.1 = r13.1 then
  (lt_ (x4 ||| (ish (iI 1) x5)) fun z15 =>
  fX8_meets_b95 x0 x1 x2 x3 z15 x5 r13.2)
  else (fX8_meets_b95 x0 x1 x2 x3 x4 x5 r13.2))
def fX8_meets_l26 (x0 : Nat) (x1 : Int32) (x2 : Int32) (x3 : Nat) : (Int32 × Int32 × Hp) → Option ((Int32 × Int32 × Hp) ⊕ ((Int32 × Hp))) := fun a =>
  (gR a.2.2 x0 8 7).bind fun v5 =>
  (gI a.2.2 v5 6 4).bind fun v6 =>
  if v6 ≤ a.2.1 then
  (some (.inr (a.1, a.2.2)))
  else ((fX7_factBehind x3 x1 a.2.1 (iI 2) a.2.2).bind fun r8 =>
  (fX7_factBehind x3 x2 a.2.1 (iI 2) r8.2).bind fun r9 =>
  if r8.1 = r9.1 then
  (fX8_meets_b62 x0 x1 x2 x3 a.1 a.2.1 (iI 1) r9.2)
  else (fX8_meets_b62 x0 x1 x2 x3 a.1 a.2.1 (iI 0) r9.2))
def fX8_meets (x0 : Nat) (x1 : Int32) (x2 : Int32) (s : Hp) : Option (Int32 × Hp) :=
  (ck s x0 8).bind fun _ =>
  (gR s x0 8 7).bind fun v1 =>
  (fX6_hasTwoShops v1 x1 x2 s).bind fun r2 =>
  if r2.1 = 0 then
  (some ((iI (-2)), r2.2))
  else ((fX8_flown x0 r2.2).bind fun r4 =>
  (iter (fX8_meets_l26 x0 x1 x2 r4.1) FU ((iI 0), (iI 0), r4.2)).bind fun r16 =>
  some (r16.1, r16.2))
def fX8_over_b23 (s : Hp) : Option (Int32 × Hp) :=
  some ((iI (-2)), s)
def fX8_over_b75 (x0 : Nat) (x1 : Int32) (x2 : Int32) (x3 : Int32) (x4 : Nat) (x5 : Int32) (x6 : Int32) (s : Hp) : Option ((Int32 × Int32 × Hp) ⊕ ((Int32 × Hp))) :=
  some (.inl (x5, x6 + iI 1, s))
def fX8_over_l38 (x0 : Nat) (x1 : Int32) (x2 : Int32) (x3 : Int32) (x4 : Nat) : (Int32 × Int32 × Hp) → Option ((Int32 × Int32 × Hp) ⊕ ((Int32 × Hp))) := fun a =>
  (gR a.2.2 x0 8 7).bind fun v8 =>
  (gI a.2.2 v8 6 4).bind fun v9 =>
  if v9 ≤ a.2.1 then
  (some (.inr (a.1, a.2.2)))
  else ((fX7_columnBehind x4 x1 a.2.1 a.2.2).bind fun r11 =>
  (fX8_columnOf x2 x3 r11.2).bind fun r12 =>
  if r11.1 = r12.1 then
  (lt_ (a.1 ||| (ish (iI 1) a.2.1)) fun z14 =>
  fX8_over_b75 x0 x1 x2 x3 x4 z14 a.2.1 r12.2)
  else (fX8_over_b75 x0 x1 x2 x3 x4 a.1 a.2.1 r12.2))
def fX8_over (x0 : Nat) (x1 : Int32) (x2 : Int32) (x3 : Int32) (s : Hp) : Option (Int32 × Hp) :=
  (ck s x0 8).bind fun _ =>
  (gR s x0 8 7).bind fun v1 =>
  (fX6_hasShop v1 x1 s).bind fun r2 =>
  if r2.1 = 0 then
  (fX8_over_b23 r2.2)
  else ((gR r2.2 x0 8 7).bind fun v4 =>
  (fX6_hasColumn v4 x2 x3 r2.2).bind fun r5 =>
  if r5.1 = 0 then
  (fX8_over_b23 r5.2)
  else ((fX8_flown x0 r5.2).bind fun r7 =>
  (iter (fX8_over_l38 x0 x1 x2 x3 r7.1) FU ((iI 0), (iI 0), r7.2)).bind fun r15 =>
  some (r15.1, r15.2)))
def fX8_grounded_b54 (x0 : Nat) (x1 : Int32) (x2 : Nat) (x3 : Int32) (x4 : Int32) (s : Hp) : Option ((Int32 × Int32 × Hp) ⊕ ((Int32 × Hp))) :=
  some (.inl (x3, x4 + iI 1, s))
def fX8_grounded_l24 (x0 : Nat) (x1 : Int32) (x2 : Nat) : (Int32 × Int32 × Hp) → Option ((Int32 × Int32 × Hp) ⊕ ((Int32 × Hp))) := fun a =>
  (gR a.2.2 x0 8 7).bind fun v5 =>
  (gI a.2.2 v5 6 4).bind fun v6 =>
  if v6 ≤ a.2.1 then
  (some (.inr (a.1, a.2.2)))
  else ((fX7_factBehind x2 x1 a.2.1 (iI 2) a.2.2).bind fun r8 =>
  if r8.1 = 0 then
  (lt_ (a.1 ||| (ish (iI 1) a.2.1)) fun z10 =>
  fX8_grounded_b54 x0 x1 x2 z10 a.2.1 r8.2)
  else (fX8_grounded_b54 x0 x1 x2 a.1 a.2.1 r8.2))
def fX8_grounded (x0 : Nat) (x1 : Int32) (s : Hp) : Option (Int32 × Hp) :=
  (ck s x0 8).bind fun _ =>
  (gR s x0 8 7).bind fun v1 =>
  (fX6_hasShop v1 x1 s).bind fun r2 =>
  if r2.1 = 0 then
  (some ((iI (-2)), r2.2))
  else ((fX8_flown x0 r2.2).bind fun r4 =>
  (iter (fX8_grounded_l24 x0 x1 r4.1) FU ((iI 0), (iI 0), r4.2)).bind fun r11 =>
  some (r11.1, r11.2))
def fX8_hasShopCell_b39 (s : Hp) : Option (Int32 × Hp) :=
  some ((iI 0), s)
def fX8_hasShopCell (x0 : Nat) (x1 : Int32) (x2 : Int32) (x3 : Int32) (x4 : Int32) (s : Hp) : Option (Int32 × Hp) :=
  (ck s x0 8).bind fun _ =>
  (gR s x0 8 7).bind fun v1 =>
  (fX6_hasShop v1 x1 s).bind fun r2 =>
  if r2.1 = 0 then
  (fX8_hasShopCell_b39 r2.2)
  else ((gR r2.2 x0 8 7).bind fun v4 =>
  (fX6_hasColumn v4 x2 x3 r2.2).bind fun r5 =>
  if r5.1 = 0 then
  (fX8_hasShopCell_b39 r5.2)
  else ((gR r5.2 x0 8 7).bind fun v7 =>
  (fX6_hasLayer v7 x4 r5.2).bind fun r8 =>
  if r8.1 = 0 then
  (fX8_hasShopCell_b39 r8.2)
  else (some ((iI 1), r8.2))))
def fX8_roaming_b18 (x0 : Nat) (s : Hp) : Option (Nat × Hp) :=
  (gR s x0 8 9).bind fun v5 =>
  some (v5, s)
def fX8_roaming (x0 : Nat) (s : Hp) : Option (Nat × Hp) :=
  (ck s x0 8).bind fun _ =>
  (gO s x0 8 9).bind fun v1 =>
  (match v1 with | none => lt_ (mk s (4, 11, df4)) fun s2 =>
  (fX4_init s.1 s2).bind fun s3 =>
  (pR s3 x0 8 9 s.1).bind fun s4 =>
  fX8_roaming_b18 x0 s4 | some q6 => fX8_roaming_b18 x0 s)
def fX8_reachOf (x0 : Nat) (x1 : Int32) (s : Hp) : Option (Nat × Hp) :=
  (ck s x0 8).bind fun _ =>
  (fX8_roaming x0 s).bind fun r1 =>
  (gR r1.2 x0 8 7).bind fun v2 =>
  (gI r1.2 x0 8 12).bind fun v3 =>
  (fX4_cellsOf r1.1 v2 x1 v3 r1.2).bind fun r4 =>
  some (r4.1, r4.2)
def fX8_least_b51 (x0 : Nat) (x1 : Int32) (x4 : Int32) (x5 : Int32) (s : Hp) : Option (Int32 × Hp) :=
  (fX8_reachOf x0 x1 s).bind fun r7 =>
  (gR r7.2 x0 8 7).bind fun v8 =>
  (gI r7.2 v8 6 4).bind fun v9 =>
  (fX8_bitOf x5 r7.2).bind fun r10 =>
  (fX2_leastOfAll r7.1 v9 x4 r10.1 r10.2).bind fun r11 =>
  some (r11.1, r11.2)
def fX8_least (x0 : Nat) (x1 : Int32) (x2 : Int32) (x3 : Int32) (x4 : Int32) (s : Hp) : Option (Int32 × Hp) :=
  (ck s x0 8).bind fun _ =>
  (fX8_hasShopCell x0 x1 x2 x3 x4 s).bind fun r1 =>
  if r1.1 = 0 then
  (some ((iI (-2)), r1.2))
  else ((fX8_columnOf x2 x3 r1.2).bind fun r3 =>
  (gR r3.2 x0 8 7).bind fun v4 =>
  (fX6_shopColumn v4 x1 r3.2).bind fun r5 =>
  if r5.1 = r3.1 then
  ((gR r5.2 x0 8 7).bind fun v12 =>
  (fX6_shopFact v12 x1 (iI 2) r5.2).bind fun r13 =>
  if r13.1 = x4 then
  (some ((iI 0), r13.2))
  else (fX8_least_b51 x0 x1 x4 r3.1 r13.2))
  else (fX8_least_b51 x0 x1 x4 r3.1 r5.2))
def fX8_soonest (x0 : Nat) (x1 : Int32) (x2 : Int32) (x3 : Int32) (x4 : Int32) (s : Hp) : Option (Int32 × Hp) :=
  (ck s x0 8).bind fun _ =>
  (fX8_hasShopCell x0 x1 x2 x3 x4 s).bind fun r1 =>
  if r1.1 = 0 then
  (some ((iI (-2)), r1.2))
  else ((fX8_reachOf x0 x1 r1.2).bind fun r3 =>
  (gR r3.2 x0 8 7).bind fun v4 =>
  (gI r3.2 v4 6 4).bind fun v5 =>
  (fX8_columnOf x2 x3 r3.2).bind fun r6 =>
  (fX8_bitOf r6.1 r6.2).bind fun r7 =>
  (fX2_soonestOf r3.1 v5 x4 r7.1 r7.2).bind fun r8 =>
  some (r8.1, r8.2))
def fX8_way_b24 (s : Hp) : Option (Int32 × Hp) :=
  some ((iI (-2)), s)
def fX8_way (x0 : Nat) (x1 : Int32) (x2 : Int32) (x3 : Int32) (x4 : Int32) (x5 : Int32) (s : Hp) : Option (Int32 × Hp) :=
  (ck s x0 8).bind fun _ =>
  (fX8_hasShopCell x0 x1 x2 x3 x4 s).bind fun r1 =>
  if r1.1 = 0 then
  (fX8_way_b24 r1.2)
  else ((gR r1.2 x0 8 7).bind fun v3 =>
  (fX6_hasHour v3 x5 r1.2).bind fun r4 =>
  if r4.1 = 0 then
  (fX8_way_b24 r4.2)
  else ((fX8_roaming x0 r4.2).bind fun r6 =>
  (gR r6.2 x0 8 7).bind fun v7 =>
  (gI r6.2 x0 8 12).bind fun v8 =>
  (fX8_columnOf x2 x3 r6.2).bind fun r9 =>
  (fX4_actOnWay r6.1 v7 x1 v8 x5 r9.1 x4 r9.2).bind fun r10 =>
  some (r10.1, r10.2)))
def fJ13_bitCount_95d88 (x0 : Int64) (s : Hp) : Option (Int32 × Hp) :=
  lt_ (x0 - ((lush x0 (iI 1)) &&& 6148914691236517205)) fun z1 =>
  lt_ ((z1 &&& 3689348814741910323) + ((lush z1 (iI 2)) &&& 3689348814741910323)) fun z2 =>
  lt_ ((z2 + (lush z2 (iI 4))) &&& 1085102592571150095) fun z3 =>
  lt_ (z3 + (lush z3 (iI 8))) fun z4 =>
  lt_ (z4 + (lush z4 (iI 16))) fun z5 =>
  lt_ (z5 + (lush z5 (iI 32))) fun z6 =>
  some ((Int64.toInt32 z6) &&& (iI 127), s)
def fX8_spots_l24 (x0 : Nat) (x2 : Int32) (x3 : Nat) : (Int32 × Int32 × Hp) → Option ((Int32 × Int32 × Hp) ⊕ ((Int32 × Hp))) := fun a =>
  (gR a.2.2 x0 8 7).bind fun v4 =>
  (gI a.2.2 v4 6 3).bind fun v5 =>
  if v5 ≤ a.2.1 then
  (some (.inr (a.1, a.2.2)))
  else ((fX2_columnsAt x3 x2 a.2.1 a.2.2).bind fun r7 =>
  (fJ13_bitCount_95d88 r7.1 r7.2).bind fun r8 =>
  lt_ (a.1 + r8.1) fun z9 =>
  some (.inl (z9, a.2.1 + iI 1, r8.2)))
def fX8_spots (x0 : Nat) (x1 : Int32) (x2 : Int32) (s : Hp) : Option (Int32 × Hp) :=
  (ck s x0 8).bind fun _ =>
  (fX8_hasShopHour x0 x1 x2 s).bind fun r1 =>
  if r1.1 = 0 then
  (some ((iI (-2)), r1.2))
  else ((fX8_reachOf x0 x1 r1.2).bind fun r3 =>
  (iter (fX8_spots_l24 x0 x2 r3.1) FU ((iI 0), (iI 0), r3.2)).bind fun r10 =>
  some (r10.1, r10.2))
def fX8_columns_l24 (x0 : Nat) (x2 : Int32) (x3 : Nat) : (Int64 × Int32 × Hp) → Option ((Int64 × Int32 × Hp) ⊕ ((Int64 × Hp))) := fun a =>
  (gR a.2.2 x0 8 7).bind fun v4 =>
  (gI a.2.2 v4 6 3).bind fun v5 =>
  if v5 ≤ a.2.1 then
  (some (.inr (a.1, a.2.2)))
  else ((fX2_columnsAt x3 x2 a.2.1 a.2.2).bind fun r7 =>
  lt_ (a.1 ||| r7.1) fun z8 =>
  some (.inl (z8, a.2.1 + iI 1, r7.2)))
def fX8_columns (x0 : Nat) (x1 : Int32) (x2 : Int32) (s : Hp) : Option (Int32 × Hp) :=
  (ck s x0 8).bind fun _ =>
  (fX8_hasShopHour x0 x1 x2 s).bind fun r1 =>
  if r1.1 = 0 then
  (some ((iI (-2)), r1.2))
  else ((fX8_reachOf x0 x1 r1.2).bind fun r3 =>
  (iter (fX8_columns_l24 x0 x2 r3.1) FU (0, (iI 0), r3.2)).bind fun r9 =>
  (fJ13_bitCount_95d88 r9.1 r9.2).bind fun r10 =>
  some (r10.1, r10.2))
def fX8_ways (x0 : Nat) (x1 : Int32) (x2 : Int32) (s : Hp) : Option (Int64 × Hp) :=
  (ck s x0 8).bind fun _ =>
  (fX8_hasShopHour x0 x1 x2 s).bind fun r1 =>
  if r1.1 = 0 then
  (some ((-2), r1.2))
  else ((fX8_roaming x0 r1.2).bind fun r3 =>
  (gR r3.2 x0 8 7).bind fun v4 =>
  (fX4_rowsOfActs r3.1 v4 x1 (x2 + (iI 1)) r3.2).bind fun r5 =>
  some (r5.1, r5.2))
def fX8_hasShopDoors_b26 (s : Hp) : Option (Int32 × Hp) :=
  some ((iI 0), s)
def fX8_hasShopDoors (x0 : Nat) (x1 : Int32) (x2 : Int32) (s : Hp) : Option (Int32 × Hp) :=
  (ck s x0 8).bind fun _ =>
  (gR s x0 8 7).bind fun v1 =>
  (fX6_hasShop v1 x1 s).bind fun r2 =>
  if r2.1 = 0 then
  (fX8_hasShopDoors_b26 r2.2)
  else ((gR r2.2 x0 8 7).bind fun v4 =>
  (fX6_hasDoors v4 x2 r2.2).bind fun r5 =>
  if r5.1 = 0 then
  (fX8_hasShopDoors_b26 r5.2)
  else (some ((iI 1), r5.2)))
def fX8_toursOf (x0 : Nat) (x1 : Int32) (s : Hp) : Option (Nat × Hp) :=
  (ck s x0 8).bind fun _ =>
  (fX8_roaming x0 s).bind fun r1 =>
  (gR r1.2 x0 8 7).bind fun v2 =>
  (gI r1.2 x0 8 12).bind fun v3 =>
  (fX4_toursOf r1.1 v2 x1 v3 r1.2).bind fun r4 =>
  some (r4.1, r4.2)
def fX8_tour (x0 : Nat) (x1 : Int32) (x2 : Int32) (s : Hp) : Option (Int32 × Hp) :=
  (ck s x0 8).bind fun _ =>
  (fX8_hasShopDoors x0 x1 x2 s).bind fun r1 =>
  if r1.1 = 0 then
  (some ((iI (-2)), r1.2))
  else ((fX8_toursOf x0 x1 r1.2).bind fun r3 =>
  (fX2_sandOfTour r3.1 x2 r3.2).bind fun r4 =>
  some (r4.1, r4.2))
def fX8_done (x0 : Nat) (x1 : Int32) (x2 : Int32) (s : Hp) : Option (Int32 × Hp) :=
  (ck s x0 8).bind fun _ =>
  (fX8_hasShopDoors x0 x1 x2 s).bind fun r1 =>
  if r1.1 = 0 then
  (some ((iI (-2)), r1.2))
  else ((fX8_toursOf x0 x1 r1.2).bind fun r3 =>
  (fX2_hourOfTour r3.1 x2 r3.2).bind fun r4 =>
  some (r4.1, r4.2))
def fX8_isStock_b14 (s : Hp) : Option (Int32 × Hp) :=
  some ((iI 0), s)
def fX8_isStock (x0 : Int32) (s : Hp) : Option (Int32 × Hp) :=
  if x0 < 0 then
  (fX8_isStock_b14 s)
  else (if (iI 9) < x0 then
  (fX8_isStock_b14 s)
  else (some ((iI 1), s)))
def fJ6_bitCount_0f7a4 (x0 : Int32) (s : Hp) : Option (Int32 × Hp) :=
  lt_ (x0 - ((iush x0 (iI 1)) &&& (iI 1431655765))) fun z1 =>
  lt_ ((z1 &&& (iI 858993459)) + ((iush z1 (iI 2)) &&& (iI 858993459))) fun z2 =>
  lt_ ((z2 + (iush z2 (iI 4))) &&& (iI 252645135)) fun z3 =>
  lt_ (z3 + (iush z3 (iI 8))) fun z4 =>
  lt_ (z4 + (iush z4 (iI 16))) fun z5 =>
  some (z5 &&& (iI 63), s)
def fX8_doors_b27 (s : Hp) : Option (Int32 × Hp) :=
  some ((iI (-2)), s)
def fX8_doors_b85 (x0 : Nat) (x2 : Int32) (x3 : Int32) (x4 : Nat) (x5 : Int32) (x6 : Int32) (s : Hp) : Option ((Int32 × Int32 × Hp) ⊕ ((Int32 × Hp))) :=
  some (.inl (x5, x6 + iI 1, s))
def fX8_doors_l43 (x0 : Nat) (x2 : Int32) (x3 : Int32) (x4 : Nat) : (Int32 × Int32 × Hp) → Option ((Int32 × Int32 × Hp) ⊕ ((Int32 × Hp))) := fun a =>
  (gR a.2.2 x0 8 7).bind fun v9 =>
  (gI a.2.2 v9 6 9).bind fun v10 =>
  if (ish (iI 1) v10) ≤ a.2.1 then
  (some (.inr (a.1, a.2.2)))
  else ((fX2_canTour x4 a.2.1 x2 a.2.2).bind fun r12 =>
  if r12.1 = 0 then
  (fX8_doors_b85 x0 x2 x3 x4 a.1 a.2.1 r12.2)
  else ((fJ6_bitCount_0f7a4 a.2.1 r12.2).bind fun r14 =>
  (fJ6_bitCount_0f7a4 a.1 r14.2).bind fun r15 =>
  if r14.1 ≤ r15.1 then
  (fX8_doors_b85 x0 x2 x3 x4 a.1 a.2.1 r15.2)
  else (fX8_doors_b85 x0 x2 x3 x4 a.2.1 a.2.1 r15.2)))
def fX8_doors (x0 : Nat) (x1 : Int32) (x2 : Int32) (x3 : Int32) (s : Hp) : Option (Int32 × Hp) :=
  (ck s x0 8).bind fun _ =>
  (gR s x0 8 7).bind fun v1 =>
  (fX6_hasShop v1 x1 s).bind fun r2 =>
  if r2.1 = 0 then
  (fX8_doors_b27 r2.2)
  else ((fX8_isStock x2 r2.2).bind fun r4 =>
  if r4.1 = 0 then
  (fX8_doors_b27 r4.2)
  else (if x3 < 0 then
  (fX8_doors_b27 r4.2)
  else (if x3 ≤ (iI 1) then
  ((fX8_toursOf x0 x1 r4.2).bind fun r8 =>
  (iter (fX8_doors_l43 x0 x2 x3 r8.1) FU ((iI 0), (iI 0), r8.2)).bind fun r17 =>
  if x3 = 0 then
  ((fJ6_bitCount_0f7a4 r17.1 r17.2).bind fun r19 =>
  some (r19.1, r19.2))
  else (some (r17.1, r17.2)))
  else (fX8_doors_b27 r4.2))))
def fX8_fair (x0 : Nat) (x1 : Int32) (s : Hp) : Option (Int32 × Hp) :=
  (ck s x0 8).bind fun _ =>
  (gR s x0 8 7).bind fun v1 =>
  (fX6_hasShop v1 x1 s).bind fun r2 =>
  if r2.1 = 0 then
  (some ((iI (-2)), r2.2))
  else ((gR r2.2 x0 8 7).bind fun v4 =>
  (gI r2.2 v4 6 10).bind fun v5 =>
  if v5 = (iI (-1)) then
  (some ((iI (-1)), r2.2))
  else ((fX8_roaming x0 r2.2).bind fun r7 =>
  (gR r7.2 x0 8 7).bind fun v8 =>
  (fX4_hoursAtFair r7.1 v8 x1 r7.2).bind fun r9 =>
  some (r9.1, r9.2)))
def fX8_aloft (x0 : Nat) (x1 : Int32) (s : Hp) : Option (Int32 × Hp) :=
  (ck s x0 8).bind fun _ =>
  (gR s x0 8 7).bind fun v1 =>
  (fX6_hasShop v1 x1 s).bind fun r2 =>
  if r2.1 = 0 then
  (some ((iI (-2)), r2.2))
  else ((fX8_roaming x0 r2.2).bind fun r4 =>
  (gR r4.2 x0 8 7).bind fun v5 =>
  (fX4_hoursAloft r4.1 v5 x1 r4.2).bind fun r6 =>
  some (r6.1, r6.2))
def fX8_lasts_b68 (x0 : Nat) (x2 : Nat) (x3 : Int32) (x4 : Int32) (x5 : Int32) (s : Hp) : Option ((Int32 × Int32 × Hp) ⊕ ((Int32 × Hp))) :=
  some (.inl (x3, x5 + iI 1, s))
def fX8_lasts_l40 (x0 : Nat) (x2 : Nat) (x4 : Int32) : (Int32 × Int32 × Hp) → Option ((Int32 × Int32 × Hp) ⊕ ((Int32 × Hp))) := fun a =>
  (gR a.2.2 x0 8 7).bind fun v8 =>
  (gI a.2.2 v8 6 3).bind fun v9 =>
  if v9 ≤ a.2.1 then
  (some (.inr (a.1, a.2.2)))
  else ((fX2_columnsAt x2 x4 a.2.1 a.2.2).bind fun r11 =>
  if (lg_cmp r11.1 0) = 0 then
  (fX8_lasts_b68 x0 x2 a.1 x4 a.2.1 r11.2)
  else (fX8_lasts_b68 x0 x2 x4 x4 a.2.1 r11.2))
def fX8_lasts_l25 (x0 : Nat) (x2 : Nat) : (Int32 × Int32 × Hp) → Option ((Int32 × Int32 × Hp) ⊕ ((Int32 × Hp))) := fun a =>
  (gR a.2.2 x0 8 7).bind fun v5 =>
  (gI a.2.2 v5 6 4).bind fun v6 =>
  if v6 ≤ a.2.1 then
  (some (.inr (a.1, a.2.2)))
  else ((iter (fX8_lasts_l40 x0 x2 a.2.1) FU (a.1, (iI 1), a.2.2)).bind fun r13 =>
  some (.inl (r13.1, a.2.1 + iI 1, r13.2)))
def fX8_lasts (x0 : Nat) (x1 : Int32) (s : Hp) : Option (Int32 × Hp) :=
  (ck s x0 8).bind fun _ =>
  (gR s x0 8 7).bind fun v1 =>
  (fX6_hasShop v1 x1 s).bind fun r2 =>
  if r2.1 = 0 then
  (some ((iI (-2)), r2.2))
  else ((fX8_reachOf x0 x1 r2.2).bind fun r4 =>
  (iter (fX8_lasts_l25 x0 r4.1) FU ((iI (-1)), (iI 0), r4.2)).bind fun r14 =>
  some (r14.1, r14.2))
def fX8_columnsNear_l13 (x0 : Nat) (x1 : Nat) (x2 : Int32) (x3 : Int32) (x4 : Int32) : (Int64 × Int32 × Hp) → Option ((Int64 × Int32 × Hp) ⊕ ((Int64 × Hp))) := fun a =>
  (gR a.2.2 x0 8 7).bind fun v2 =>
  (gI a.2.2 v2 6 3).bind fun v3 =>
  if (imin (x3 + x4) (v3 - (iI 1))) < a.2.1 then
  (some (.inr (a.1, a.2.2)))
  else ((fX2_columnsAt x1 x2 a.2.1 a.2.2).bind fun r5 =>
  lt_ (a.1 ||| r5.1) fun z6 =>
  some (.inl (z6, a.2.1 + iI 1, r5.2)))
def fX8_columnsNear (x0 : Nat) (x1 : Nat) (x2 : Int32) (x3 : Int32) (x4 : Int32) (s : Hp) : Option (Int64 × Hp) :=
  (ck s x0 8).bind fun _ =>
  lt_ (imax (iI 0) (x3 - x4)) fun z1 =>
  (iter (fX8_columnsNear_l13 x0 x1 x2 x3 x4) FU (0, z1, s)).bind fun r7 =>
  if x4 = 0 then
  (some (r7.1, r7.2))
  else ((fX0_widened r7.1 r7.2).bind fun r9 =>
  some (r9.1, r9.2))
def fX8_firstTogether_l18 (x0 : Nat) (x1 : Nat) (x2 : Nat) (x3 : Int32) (x4 : Int32) : (Int32 × Hp) → Option ((Int32 × Hp) ⊕ ((Hp) ⊕ (Hp))) := fun a =>
  (gR a.2 x0 8 7).bind fun v4 =>
  (gI a.2 v4 6 3).bind fun v5 =>
  if v5 ≤ a.1 then
  (some (.inr (.inl a.2)))
  else ((fX2_columnsAt x1 x4 a.1 a.2).bind fun r7 =>
  (fX8_columnsNear x0 x2 x4 a.1 x3 r7.2).bind fun r8 =>
  if (lg_cmp (r7.1 &&& r8.1) 0) = 0 then
  (some (.inl (a.1 + iI 1, r8.2)))
  else (some (.inr (.inr r8.2))))
def fX8_firstTogether_l3 (x0 : Nat) (x1 : Nat) (x2 : Nat) (x3 : Int32) : (Int32 × Hp) → Option ((Int32 × Hp) ⊕ ((Hp) ⊕ (Int32 × Hp))) := fun a =>
  (gR a.2 x0 8 7).bind fun v1 =>
  (gI a.2 v1 6 4).bind fun v2 =>
  if v2 ≤ a.1 then
  (some (.inr (.inl a.2)))
  else ((iter (fX8_firstTogether_l18 x0 x1 x2 x3 a.1) FU ((iI 0), a.2)).bind (Sum.elim (fun r10a => some (.inl (a.1 + iI 1, r10a))) (fun r10b => some (.inr (.inr (a.1, r10b))))))
def fX8_firstTogether (x0 : Nat) (x1 : Nat) (x2 : Nat) (x3 : Int32) (s : Hp) : Option (Int32 × Hp) :=
  (ck s x0 8).bind fun _ =>
  (iter (fX8_firstTogether_l3 x0 x1 x2 x3) FU ((iI 0), s)).bind (Sum.elim (fun r11a => some ((iI (-1)), r11a)) (fun r11b => some (r11b.1, r11b.2)))
def fX8_meet (x0 : Nat) (x1 : Int32) (x2 : Int32) (s : Hp) : Option (Int32 × Hp) :=
  (ck s x0 8).bind fun _ =>
  (gR s x0 8 7).bind fun v1 =>
  (fX6_hasTwoShops v1 x1 x2 s).bind fun r2 =>
  if r2.1 = 0 then
  (some ((iI (-2)), r2.2))
  else ((fX8_reachOf x0 x1 r2.2).bind fun r4 =>
  (fX8_reachOf x0 x2 r4.2).bind fun r5 =>
  (fX8_firstTogether x0 r4.1 r5.1 (iI 0) r5.2).bind fun r6 =>
  some (r6.1, r6.2))
def fX8_rope (x0 : Nat) (x1 : Int32) (x2 : Int32) (s : Hp) : Option (Int32 × Hp) :=
  (ck s x0 8).bind fun _ =>
  (gR s x0 8 7).bind fun v1 =>
  (fX6_hasTwoShops v1 x1 x2 s).bind fun r2 =>
  if r2.1 = 0 then
  (some ((iI (-2)), r2.2))
  else ((fX8_reachOf x0 x1 r2.2).bind fun r4 =>
  (fX8_reachOf x0 x2 r4.2).bind fun r5 =>
  (fX8_firstTogether x0 r4.1 r5.1 (iI 1) r5.2).bind fun r6 =>
  some (r6.1, r6.2))
def fX8_landing_l22 (x0 : Nat) : (Int32 × Int32 × Int32 × Hp) → Option ((Int32 × Int32 × Int32 × Hp) ⊕ ((Int32 × Hp) ⊕ (Hp))) := fun a =>
  if a.2.2.1 ≤ 0 then
  (some (.inr (.inl (a.1, a.2.2.2))))
  else ((gR a.2.2.2 x0 8 7).bind fun v5 =>
  (fX6_hasHour v5 a.2.1 a.2.2.2).bind fun r6 =>
  if r6.1 = 0 then
  (some (.inr (.inr r6.2)))
  else ((gR r6.2 x0 8 7).bind fun v8 =>
  (gR r6.2 x0 8 7).bind fun v9 =>
  (fX6_windAt v9 a.2.2.1 a.2.1 r6.2).bind fun r10 =>
  (fX6_carried v8 a.1 r10.1 r10.2).bind fun r11 =>
  some (.inl (r11.1, a.2.1 + iI 1, a.2.2.1 + iI (-1), r11.2))))
def fX8_landing (x0 : Nat) (x1 : Nat) (x2 : Int32) (x3 : Int32) (s : Hp) : Option (Int32 × Hp) :=
  (ck s x0 8).bind fun _ =>
  (fX7_columnBehind x1 x2 x3 s).bind fun r1 =>
  lt_ (x3 + (iI 1)) fun z2 =>
  (fX7_factBehind x1 x2 x3 (iI 2) r1.2).bind fun r3 =>
  (iter (fX8_landing_l22 x0) FU (r1.1, z2, r3.1, r3.2)).bind (Sum.elim (fun r12a => some (r12a.1, r12a.2)) (fun r12b => some ((iI (-1)), r12b)))
def fX8_hundredfold (x0 : Int32) (s : Hp) : Option (Int32 × Hp) :=
  (fX8_xOf x0 s).bind fun r1 =>
  (fX8_yOf x0 r1.2).bind fun r2 =>
  some (((iI 100) * r1.1) + r2.1, r2.2)
def fX8_lands (x0 : Nat) (x1 : Int32) (x2 : Int32) (s : Hp) : Option (Int32 × Hp) :=
  (ck s x0 8).bind fun _ =>
  (fX8_hasShopHour x0 x1 x2 s).bind fun r1 =>
  if r1.1 = 0 then
  (some ((iI (-2)), r1.2))
  else ((fX8_flown x0 r1.2).bind fun r3 =>
  (fX8_landing x0 r3.1 x1 x2 r3.2).bind fun r4 =>
  if r4.1 = (iI (-1)) then
  (some ((iI (-1)), r4.2))
  else ((fX8_hundredfold r4.1 r4.2).bind fun r6 =>
  some (r6.1, r6.2)))
def fX8_dropsTo_b26 (s : Hp) : Option (Int32 × Hp) :=
  some ((iI 0), s)
def fX8_dropsTo (x0 : Nat) (x1 : Nat) (x2 : Int32) (x3 : Int32) (x4 : Int32) (s : Hp) : Option (Int32 × Hp) :=
  (ck s x0 8).bind fun _ =>
  (fX7_factBehind x1 x2 x3 (iI 2) s).bind fun r1 =>
  if r1.1 ≤ 0 then
  (fX8_dropsTo_b26 r1.2)
  else ((fX8_landing x0 x1 x2 x3 r1.2).bind fun r3 =>
  if r3.1 = x4 then
  (some ((iI 1), r3.2))
  else (fX8_dropsTo_b26 r3.2))
def fX8_who_b77 (x0 : Nat) (x1 : Int32) (x2 : Int32) (x3 : Nat) (x5 : Int32) (x6 : Int32) (y0 : Int32) (y1 : Int32) (s : Hp) : Option ((Int32 × Int32 × Hp) ⊕ ((Int32 × Hp))) :=
  lt_ (y0 + y1) fun z14 =>
  some (.inl (z14, x6 + iI 1, s))
def fX8_who_l41 (x0 : Nat) (x1 : Int32) (x2 : Int32) (x3 : Nat) (x5 : Int32) : (Int32 × Int32 × Hp) → Option ((Int32 × Int32 × Hp) ⊕ ((Int32 × Hp))) := fun a =>
  (gR a.2.2 x0 8 7).bind fun v8 =>
  (gI a.2.2 v8 6 4).bind fun v9 =>
  if v9 ≤ a.2.1 then
  (some (.inr (a.1, a.2.2)))
  else ((fX8_columnOf x1 x2 a.2.2).bind fun r11 =>
  (fX8_dropsTo x0 x3 x5 a.2.1 r11.1 r11.2).bind fun r12 =>
  if r12.1 = 0 then
  (fX8_who_b77 x0 x1 x2 x3 x5 a.2.1 a.1 (iI 0) r12.2)
  else (fX8_who_b77 x0 x1 x2 x3 x5 a.2.1 a.1 (iI 1) r12.2))
def fX8_who_l26 (x0 : Nat) (x1 : Int32) (x2 : Int32) (x3 : Nat) : (Int32 × Int32 × Hp) → Option ((Int32 × Int32 × Hp) ⊕ ((Int32 × Hp))) := fun a =>
  (gR a.2.2 x0 8 7).bind fun v5 =>
  (gI a.2.2 v5 6 8).bind fun v6 =>
  if v6 ≤ a.2.1 then
  (some (.inr (a.1, a.2.2)))
  else ((iter (fX8_who_l41 x0 x1 x2 x3 a.2.1) FU (a.1, (iI 0), a.2.2)).bind fun r15 =>
  some (.inl (r15.1, a.2.1 + iI 1, r15.2)))
def fX8_who (x0 : Nat) (x1 : Int32) (x2 : Int32) (s : Hp) : Option (Int32 × Hp) :=
  (ck s x0 8).bind fun _ =>
  (gR s x0 8 7).bind fun v1 =>
  (fX6_hasColumn v1 x1 x2 s).bind fun r2 =>
  if r2.1 = 0 then
  (some ((iI (-2)), r2.2))
  else ((fX8_flown x0 r2.2).bind fun r4 =>
  (iter (fX8_who_l26 x0 x1 x2 r4.1) FU ((iI 0), (iI 0), r4.2)).bind fun r16 =>
  some (r16.1, r16.2))
def fX8_first_l38 (x0 : Nat) (x1 : Int32) (x2 : Int32) (x3 : Nat) (x4 : Int32) : (Int32 × Hp) → Option ((Int32 × Hp) ⊕ ((Hp) ⊕ (Int32 × Hp))) := fun a =>
  (gR a.2 x0 8 7).bind fun v8 =>
  (gI a.2 v8 6 4).bind fun v9 =>
  if v9 ≤ a.1 then
  (some (.inr (.inl a.2)))
  else ((fX8_columnOf x1 x2 a.2).bind fun r11 =>
  (fX8_dropsTo x0 x3 x4 a.1 r11.1 r11.2).bind fun r12 =>
  if r12.1 = 0 then
  (some (.inl (a.1 + iI 1, r12.2)))
  else (some (.inr (.inr (a.1, r12.2)))))
def fX8_first_l23 (x0 : Nat) (x1 : Int32) (x2 : Int32) (x3 : Nat) : (Int32 × Hp) → Option ((Int32 × Hp) ⊕ ((Hp) ⊕ (Int32 × Int32 × Hp))) := fun a =>
  (gR a.2 x0 8 7).bind fun v5 =>
  (gI a.2 v5 6 8).bind fun v6 =>
  if v6 ≤ a.1 then
  (some (.inr (.inl a.2)))
  else ((iter (fX8_first_l38 x0 x1 x2 x3 a.1) FU ((iI 0), a.2)).bind (Sum.elim (fun r14a => some (.inl (a.1 + iI 1, r14a))) (fun r14b => some (.inr (.inr (a.1, r14b.1, r14b.2))))))
def fX8_first (x0 : Nat) (x1 : Int32) (x2 : Int32) (s : Hp) : Option (Int32 × Hp) :=
  (ck s x0 8).bind fun _ =>
  (gR s x0 8 7).bind fun v1 =>
  (fX6_hasColumn v1 x1 x2 s).bind fun r2 =>
  if r2.1 = 0 then
  (some ((iI (-2)), r2.2))
  else ((fX8_flown x0 r2.2).bind fun r4 =>
  (iter (fX8_first_l23 x0 x1 x2 r4.1) FU ((iI 0), r4.2)).bind (Sum.elim (fun r15a => some ((iI (-1)), r15a)) (fun r15b => some (((iI 100) * r15b.1) + r15b.2.1, r15b.2.2))))
def fX8_suspects_b79 (x0 : Nat) (x1 : Int32) (x2 : Int32) (x3 : Nat) (x4 : Int32) (x5 : Int32) (x6 : Int32) (s : Hp) : Option ((Int32 × Int32 × Hp) ⊕ ((Int32 × Hp))) :=
  some (.inl (x4, x6 + iI 1, s))
def fX8_suspects_l41 (x0 : Nat) (x1 : Int32) (x2 : Int32) (x3 : Nat) (x5 : Int32) : (Int32 × Int32 × Hp) → Option ((Int32 × Int32 × Hp) ⊕ ((Int32 × Hp))) := fun a =>
  (gR a.2.2 x0 8 7).bind fun v8 =>
  (gI a.2.2 v8 6 4).bind fun v9 =>
  if v9 ≤ a.2.1 then
  (some (.inr (a.1, a.2.2)))
  else ((fX8_columnOf x1 x2 a.2.2).bind fun r11 =>
  (fX8_dropsTo x0 x3 x5 a.2.1 r11.1 r11.2).bind fun r12 =>
  if r12.1 = 0 then
  (fX8_suspects_b79 x0 x1 x2 x3 a.1 x5 a.2.1 r12.2)
  else (lt_ (a.1 ||| (ish (iI 1) x5)) fun z14 =>
  fX8_suspects_b79 x0 x1 x2 x3 z14 x5 a.2.1 r12.2))
def fX8_suspects_l26 (x0 : Nat) (x1 : Int32) (x2 : Int32) (x3 : Nat) : (Int32 × Int32 × Hp) → Option ((Int32 × Int32 × Hp) ⊕ ((Int32 × Hp))) := fun a =>
  (gR a.2.2 x0 8 7).bind fun v5 =>
  (gI a.2.2 v5 6 8).bind fun v6 =>
  if v6 ≤ a.2.1 then
  (some (.inr (a.1, a.2.2)))
  else ((iter (fX8_suspects_l41 x0 x1 x2 x3 a.2.1) FU (a.1, (iI 0), a.2.2)).bind fun r15 =>
  some (.inl (r15.1, a.2.1 + iI 1, r15.2)))
def fX8_suspects (x0 : Nat) (x1 : Int32) (x2 : Int32) (s : Hp) : Option (Int32 × Hp) :=
  (ck s x0 8).bind fun _ =>
  (gR s x0 8 7).bind fun v1 =>
  (fX6_hasColumn v1 x1 x2 s).bind fun r2 =>
  if r2.1 = 0 then
  (some ((iI (-2)), r2.2))
  else ((fX8_flown x0 r2.2).bind fun r4 =>
  (iter (fX8_suspects_l26 x0 x1 x2 r4.1) FU ((iI 0), (iI 0), r4.2)).bind fun r16 =>
  some (r16.1, r16.2))
def fX8_hasDrift_b63 (s : Hp) : Option (Int32 × Hp) :=
  some ((iI 0), s)
def fX8_hasDrift_b29 (x0 : Nat) (x1 : Int32) (x2 : Int32) (x3 : Int32) (y0 : Int32) (s : Hp) : Option (Int32 × Hp) :=
  if y0 = 0 then
  (fX8_hasDrift_b63 s)
  else ((gR s x0 8 7).bind fun v5 =>
  (fX6_hasColumn v5 x1 x2 s).bind fun r6 =>
  if r6.1 = 0 then
  (fX8_hasDrift_b63 r6.2)
  else ((gR r6.2 x0 8 7).bind fun v8 =>
  (fX6_hasLayer v8 x3 r6.2).bind fun r9 =>
  if r9.1 = 0 then
  (fX8_hasDrift_b63 r9.2)
  else (some ((iI 1), r9.2))))
def fX8_hasDrift_b28 (x0 : Nat) (x1 : Int32) (x2 : Int32) (x3 : Int32) (s : Hp) : Option (Int32 × Hp) :=
  fX8_hasDrift_b29 x0 x1 x2 x3 (iI 0) s
def fX8_hasDrift (x0 : Nat) (x1 : Int32) (x2 : Int32) (x3 : Int32) (x4 : Int32) (x5 : Int32) (s : Hp) : Option (Int32 × Hp) :=
  (ck s x0 8).bind fun _ =>
  (gR s x0 8 7).bind fun v1 =>
  (fX6_hasHour v1 x4 s).bind fun r2 =>
  if r2.1 = 0 then
  (fX8_hasDrift_b28 x0 x1 x2 x3 r2.2)
  else (if x5 < 0 then
  (fX8_hasDrift_b28 x0 x1 x2 x3 r2.2)
  else (if (iI 24) < x5 then
  (fX8_hasDrift_b28 x0 x1 x2 x3 r2.2)
  else (fX8_hasDrift_b29 x0 x1 x2 x3 (iI 1) r2.2)))
def fX8_drifted_l6 (x0 : Nat) (x2 : Int32) (x3 : Int32) (x4 : Int32) : (Int32 × Int32 × Hp) → Option ((Int32 × Int32 × Hp) ⊕ ((Int32 × Hp))) := fun a =>
  (gR a.2.2 x0 8 7).bind fun v1 =>
  (gI a.2.2 v1 6 4).bind fun v2 =>
  if v2 ≤ a.2.1 then
  (some (.inr (a.1, a.2.2)))
  else (if (x3 + x4) ≤ a.2.1 then
  (some (.inr (a.1, a.2.2)))
  else ((gR a.2.2 x0 8 7).bind fun v5 =>
  (gR a.2.2 x0 8 7).bind fun v6 =>
  (fX6_windAt v6 x2 a.2.1 a.2.2).bind fun r7 =>
  (fX6_carried v5 a.1 r7.1 r7.2).bind fun r8 =>
  some (.inl (r8.1, a.2.1 + iI 1, r8.2))))
def fX8_drifted_b54 (x5 : Int32) (s : Hp) : Option (Int32 × Hp) :=
  some (x5, s)
def fX8_drifted (x0 : Nat) (x1 : Int32) (x2 : Int32) (x3 : Int32) (x4 : Int32) (s : Hp) : Option (Int32 × Hp) :=
  (ck s x0 8).bind fun _ =>
  (iter (fX8_drifted_l6 x0 x2 x3 x4) FU (x1, x3, s)).bind fun r9 =>
  fX8_drifted_b54 r9.1 r9.2
def fX8_drift (x0 : Nat) (x1 : Int32) (x2 : Int32) (x3 : Int32) (x4 : Int32) (x5 : Int32) (s : Hp) : Option (Int32 × Hp) :=
  (ck s x0 8).bind fun _ =>
  (fX8_hasDrift x0 x1 x2 x3 x4 x5 s).bind fun r1 =>
  if r1.1 = 0 then
  (some ((iI (-2)), r1.2))
  else ((fX8_columnOf x1 x2 r1.2).bind fun r3 =>
  (fX8_drifted x0 r3.1 x3 x4 x5 r3.2).bind fun r4 =>
  (fX8_hundredfold r4.1 r4.2).bind fun r5 =>
  some (r5.1, r5.2))
def fX8_whence_l35 (x0 : Nat) (x1 : Int32) (x2 : Int32) (x3 : Int32) (x4 : Int32) (x5 : Int32) (x6 : Int32) : (Int32 × Hp) → Option ((Int32 × Hp) ⊕ ((Hp) ⊕ (Int32 × Hp))) := fun a =>
  (gR a.2 x0 8 7).bind fun v6 =>
  (gI a.2 v6 6 2).bind fun v7 =>
  if v7 ≤ a.1 then
  (some (.inr (.inl a.2)))
  else ((fX8_columnOf x6 a.1 a.2).bind fun r9 =>
  (fX8_drifted x0 r9.1 x3 x4 x5 r9.2).bind fun r10 =>
  (fX8_columnOf x1 x2 r10.2).bind fun r11 =>
  if r10.1 = r11.1 then
  (some (.inr (.inr (r9.1, r11.2))))
  else (some (.inl (a.1 + iI 1, r11.2))))
def fX8_whence_l20 (x0 : Nat) (x1 : Int32) (x2 : Int32) (x3 : Int32) (x4 : Int32) (x5 : Int32) : (Int32 × Hp) → Option ((Int32 × Hp) ⊕ ((Hp) ⊕ (Int32 × Hp))) := fun a =>
  (gR a.2 x0 8 7).bind fun v3 =>
  (gI a.2 v3 6 1).bind fun v4 =>
  if v4 ≤ a.1 then
  (some (.inr (.inl a.2)))
  else ((iter (fX8_whence_l35 x0 x1 x2 x3 x4 x5 a.1) FU ((iI 0), a.2)).bind (Sum.elim (fun r13a => some (.inl (a.1 + iI 1, r13a))) (fun r13b => some (.inr (.inr (r13b.1, r13b.2))))))
def fX8_whence (x0 : Nat) (x1 : Int32) (x2 : Int32) (x3 : Int32) (x4 : Int32) (x5 : Int32) (s : Hp) : Option (Int32 × Hp) :=
  (ck s x0 8).bind fun _ =>
  (fX8_hasDrift x0 x1 x2 x3 x4 x5 s).bind fun r1 =>
  if r1.1 = 0 then
  (some ((iI (-2)), r1.2))
  else ((iter (fX8_whence_l20 x0 x1 x2 x3 x4 x5) FU ((iI 0), r1.2)).bind (Sum.elim (fun r14a => some ((iI (-1)), r14a)) (fun r14b => (fX8_hundredfold r14b.1 r14b.2).bind fun r15 =>
  some (r15.1, r15.2))))
def fX8_isSlot_b13 (s : Hp) : Option (Int32 × Hp) :=
  some ((iI 0), s)
def fX8_isSlot (x0 : Int32) (s : Hp) : Option (Int32 × Hp) :=
  if x0 < 0 then
  (fX8_isSlot_b13 s)
  else (if (iI 4) ≤ x0 then
  (fX8_isSlot_b13 s)
  else (some ((iI 1), s)))
def fX8_rowRefusal_b17 (s : Hp) : Option (Int32 × Hp) :=
  some ((iI (-2)), s)
def fX8_rowRefusal (x0 : Nat) (x1 : Int32) (x2 : Nat) (s : Hp) : Option (Int32 × Hp) :=
  (ck s x0 8).bind fun _ =>
  (fX8_isSlot x1 s).bind fun r1 =>
  if r1.1 = 0 then
  (fX8_rowRefusal_b17 r1.2)
  else ((gR r1.2 x0 8 7).bind fun v3 =>
  (fX6_stands v3 r1.2).bind fun r4 =>
  if r4.1 = 0 then
  (fX8_rowRefusal_b17 r4.2)
  else ((gR r4.2 x0 8 6).bind fun v6 =>
  (aR r4.2 25 v6 x1).bind fun v7 =>
  (fX5_isThere v7 r4.2).bind fun r8 =>
  if r8.1 = 0 then
  (some ((iI (-6)), r8.2))
  else ((gR r8.2 x0 8 6).bind fun v10 =>
  (aR r8.2 25 v10 x1).bind fun v11 =>
  (fX5_keepsWithin v11 x2 r8.2).bind fun r12 =>
  if r12.1 = 0 then
  (some ((iI (-2)), r12.2))
  else (some ((iI 0), r12.2)))))
def fX8_smoke_b205 (x0 : Nat) (x4 : Nat) (x5 : Int32) (x6 : Int32) (x7 : Int32) (x8 : Int32) (x9 : Int32) (s : Hp) : Option ((Int32 × Int32 × Hp) ⊕ ((Int32 × Hp))) :=
  some (.inl (x5, x9 + iI 1, s))
def fX8_smoke_l152 (x0 : Nat) (x4 : Nat) (x6 : Int32) (x7 : Int32) (x8 : Int32) : (Int32 × Int32 × Hp) → Option ((Int32 × Int32 × Hp) ⊕ ((Int32 × Hp))) := fun a =>
  (gR a.2.2 x0 8 7).bind fun v32 =>
  (gI a.2.2 v32 6 3).bind fun v33 =>
  if v33 ≤ a.2.1 then
  (some (.inr (a.1, a.2.2)))
  else ((gR a.2.2 x0 8 7).bind fun v35 =>
  (gR a.2.2 x0 8 7).bind fun v36 =>
  (fX5_at x4 x6 a.2.2).bind fun r37 =>
  (fX6_windAt v36 a.2.1 r37.1 r37.2).bind fun r38 =>
  (fX6_carried v35 x7 r38.1 r38.2).bind fun r39 =>
  if r39.1 = x8 then
  (fX8_smoke_b205 x0 x4 a.1 x6 x7 x8 a.2.1 r39.2)
  else (lt_ (a.1 &&& ((ish (iI 1) a.2.1) ^^^ (iI (-1)))) fun z41 =>
  fX8_smoke_b205 x0 x4 z41 x6 x7 x8 a.2.1 r39.2))
def fX8_smoke_l91 (x0 : Nat) (x4 : Nat) : (Int32 × Int32 × Hp) → Option ((Int32 × Int32 × Hp) ⊕ ((Int32 × Hp))) := fun a =>
  (gI a.2.2 x4 5 1).bind fun v24 =>
  if v24 < (a.2.1 + (iI 5)) then
  (some (.inr (a.1, a.2.2)))
  else ((fX5_at x4 (a.2.1 + (iI 1)) a.2.2).bind fun r26 =>
  (fX5_at x4 (a.2.1 + (iI 2)) r26.2).bind fun r27 =>
  (fX8_columnOf r26.1 r27.1 r27.2).bind fun r28 =>
  (fX5_at x4 (a.2.1 + (iI 3)) r28.2).bind fun r29 =>
  (fX5_at x4 (a.2.1 + (iI 4)) r29.2).bind fun r30 =>
  (fX8_columnOf r29.1 r30.1 r30.2).bind fun r31 =>
  (iter (fX8_smoke_l152 x0 x4 a.2.1 r28.1 r31.1) FU (a.1, (iI 0), r31.2)).bind fun r42 =>
  some (.inl (r42.1, a.2.1 + iI 5, r42.2)))
def fX8_smoke (x0 : Nat) (x1 : Int32) (s : Hp) : Option (Int32 × Hp) :=
  (ck s x0 8).bind fun _ =>
  (mkA s 20 (iI 5) (.int 0)).bind fun s1 =>
  (gR s1 x0 8 7).bind fun v2 =>
  (gI s1 v2 6 4).bind fun v3 =>
  (sI s1 s.1 (iI 0) v3).bind fun s4 =>
  (gR s4 x0 8 7).bind fun v5 =>
  (gI s4 v5 6 1).bind fun v6 =>
  (sI s4 s.1 (iI 1) v6).bind fun s7 =>
  (gR s7 x0 8 7).bind fun v8 =>
  (gI s7 v8 6 2).bind fun v9 =>
  (sI s7 s.1 (iI 2) v9).bind fun s10 =>
  (gR s10 x0 8 7).bind fun v11 =>
  (gI s10 v11 6 1).bind fun v12 =>
  (sI s10 s.1 (iI 3) v12).bind fun s13 =>
  (gR s13 x0 8 7).bind fun v14 =>
  (gI s13 v14 6 2).bind fun v15 =>
  (sI s13 s.1 (iI 4) v15).bind fun s16 =>
  (fX8_rowRefusal x0 x1 s.1 s16).bind fun r17 =>
  if r17.1 = 0 then
  ((gR r17.2 x0 8 6).bind fun v19 =>
  (aR r17.2 25 v19 x1).bind fun v20 =>
  (gR r17.2 x0 8 7).bind fun v21 =>
  (gI r17.2 v21 6 3).bind fun v22 =>
  lt_ ((ish (iI 1) v22) - (iI 1)) fun z23 =>
  (iter (fX8_smoke_l91 x0 v20) FU (z23, (iI 0), r17.2)).bind fun r43 =>
  some (r43.1, r43.2))
  else (some (r17.1, r17.2))
def fX8_kites_b121 (x0 : Nat) (x4 : Nat) (x5 : Int32) (x6 : Int32) (x7 : Int32) (s : Hp) : Option ((Int32 × Int32 × Hp) ⊕ ((Int32 × Hp))) :=
  some (.inl (x5, x7 + iI 1, s))
def fX8_kites_l70 (x0 : Nat) (x4 : Nat) (x6 : Int32) : (Int32 × Int32 × Hp) → Option ((Int32 × Int32 × Hp) ⊕ ((Int32 × Hp))) := fun a =>
  (gR a.2.2 x0 8 7).bind fun v15 =>
  (gI a.2.2 v15 6 3).bind fun v16 =>
  if v16 ≤ a.2.1 then
  (some (.inr (a.1, a.2.2)))
  else ((gR a.2.2 x0 8 7).bind fun v18 =>
  (fX5_at x4 x6 a.2.2).bind fun r19 =>
  (fX6_windAt v18 a.2.1 r19.1 r19.2).bind fun r20 =>
  (fX5_at x4 (x6 + (iI 1)) r20.2).bind fun r21 =>
  if r20.1 = r21.1 then
  (fX8_kites_b121 x0 x4 a.1 x6 a.2.1 r21.2)
  else (lt_ (a.1 &&& ((ish (iI 1) a.2.1) ^^^ (iI (-1)))) fun z23 =>
  fX8_kites_b121 x0 x4 z23 x6 a.2.1 r21.2))
def fX8_kites_l55 (x0 : Nat) (x4 : Nat) : (Int32 × Int32 × Hp) → Option ((Int32 × Int32 × Hp) ⊕ ((Int32 × Hp))) := fun a =>
  (gI a.2.2 x4 5 1).bind fun v13 =>
  if v13 < (a.2.1 + (iI 2)) then
  (some (.inr (a.1, a.2.2)))
  else ((iter (fX8_kites_l70 x0 x4 a.2.1) FU (a.1, (iI 0), a.2.2)).bind fun r24 =>
  some (.inl (r24.1, a.2.1 + iI 2, r24.2)))
def fX8_kites (x0 : Nat) (x1 : Int32) (s : Hp) : Option (Int32 × Hp) :=
  (ck s x0 8).bind fun _ =>
  (mkA s 20 (iI 2) (.int 0)).bind fun s1 =>
  (gR s1 x0 8 7).bind fun v2 =>
  (gI s1 v2 6 4).bind fun v3 =>
  (sI s1 s.1 (iI 0) v3).bind fun s4 =>
  (sI s4 s.1 (iI 1) (iI 5)).bind fun s5 =>
  (fX8_rowRefusal x0 x1 s.1 s5).bind fun r6 =>
  if r6.1 = 0 then
  ((gR r6.2 x0 8 6).bind fun v8 =>
  (aR r6.2 25 v8 x1).bind fun v9 =>
  (gR r6.2 x0 8 7).bind fun v10 =>
  (gI r6.2 v10 6 3).bind fun v11 =>
  lt_ ((ish (iI 1) v11) - (iI 1)) fun z12 =>
  (iter (fX8_kites_l55 x0 v9) FU (z12, (iI 0), r6.2)).bind fun r25 =>
  some (r25.1, r25.2))
  else (some (r6.1, r6.2))
def fX8_firstUnlike_l2 (x0 : Nat) (x1 : Int32) (x2 : Int32) : (Int32 × Hp) → Option ((Int32 × Hp) ⊕ ((Hp) ⊕ (Int32 × Hp))) := fun a =>
  (gR a.2 x0 8 7).bind fun v1 =>
  (gI a.2 v1 6 4).bind fun v2 =>
  if v2 ≤ a.1 then
  (some (.inr (.inl a.2)))
  else ((gR a.2 x0 8 7).bind fun v4 =>
  (fX6_windAt v4 x1 a.1 a.2).bind fun r5 =>
  (gR r5.2 x0 8 7).bind fun v6 =>
  (fX6_windAt v6 x2 a.1 r5.2).bind fun r7 =>
  if r5.1 = r7.1 then
  (some (.inl (a.1 + iI 1, r7.2)))
  else (some (.inr (.inr (a.1, r7.2)))))
def fX8_firstUnlike (x0 : Nat) (x1 : Int32) (x2 : Int32) (s : Hp) : Option (Int32 × Hp) :=
  (ck s x0 8).bind fun _ =>
  (iter (fX8_firstUnlike_l2 x0 x1 x2) FU ((iI 0), s)).bind (Sum.elim (fun r9a => some ((iI (-1)), r9a)) (fun r9b => some (r9b.1, r9b.2)))
def fX8_known_b59 (x0 : Nat) (x1 : Int32) (x2 : Int32) (x3 : Int32) (s : Hp) : Option ((Int32 × Int32 × Hp) ⊕ ((Int32 × Hp) ⊕ (Hp))) :=
  some (.inl (x2, x3 + iI 1, s))
def fX8_known_l18 (x0 : Nat) (x1 : Int32) : (Int32 × Int32 × Hp) → Option ((Int32 × Int32 × Hp) ⊕ ((Int32 × Hp) ⊕ (Hp))) := fun a =>
  (gR a.2.2 x0 8 7).bind fun v4 =>
  (gI a.2.2 v4 6 3).bind fun v5 =>
  if v5 ≤ a.2.1 then
  (some (.inr (.inl (a.1, a.2.2))))
  else (if a.2.1 = x1 then
  (fX8_known_b59 x0 x1 a.1 a.2.1 a.2.2)
  else ((fX8_firstUnlike x0 x1 a.2.1 a.2.2).bind fun r8 =>
  if r8.1 = (iI (-1)) then
  (some (.inr (.inr r8.2)))
  else (lt_ (imax a.1 (r8.1 + (iI 1))) fun z10 =>
  fX8_known_b59 x0 x1 z10 a.2.1 r8.2)))
def fX8_known (x0 : Nat) (x1 : Int32) (s : Hp) : Option (Int32 × Hp) :=
  (ck s x0 8).bind fun _ =>
  (gR s x0 8 7).bind fun v1 =>
  (fX6_hasLayer v1 x1 s).bind fun r2 =>
  if r2.1 = 0 then
  (some ((iI (-2)), r2.2))
  else ((iter (fX8_known_l18 x0 x1) FU ((iI 0), (iI 0), r2.2)).bind (Sum.elim (fun r11a => some (r11a.1, r11a.2)) (fun r11b => some ((iI (-1)), r11b))))
def fX8_price (x0 : Nat) (x1 : Int32) (s : Hp) : Option (Int32 × Hp) :=
  (ck s x0 8).bind fun _ =>
  (gR s x0 8 7).bind fun v1 =>
  (fX6_hasLayer v1 x1 s).bind fun r2 =>
  if r2.1 = 0 then
  (some ((iI (-2)), r2.2))
  else ((gR r2.2 x0 8 7).bind fun v4 =>
  (gI r2.2 v4 6 6).bind fun v5 =>
  if x1 ≤ v5 then
  ((gR r2.2 x0 8 7).bind fun v7 =>
  (fX6_saleBrings v7 x1 r2.2).bind fun r8 =>
  some (r8.1, r8.2))
  else (some ((iI (-1)), r2.2)))
def fX8_gainBy (x0 : Nat) (x1 : Nat) (x2 : Int32) (x3 : Int32) (x4 : Int32) (s : Hp) : Option (Int32 × Hp) :=
  (ck s x0 8).bind fun _ =>
  (gR s x0 8 8).bind fun v1 =>
  (fX6_setAct v1 x2 x3 x4 s).bind fun s2 =>
  (gR s2 x0 8 3).bind fun v3 =>
  (gR s2 x0 8 8).bind fun v4 =>
  (fX7_beginBehind v3 v4 x1 x3 s2).bind fun s5 =>
  (gR s5 x0 8 3).bind fun v6 =>
  (fX7_flyFrom v6 x3 s5).bind fun s7 =>
  (gR s7 x0 8 8).bind fun v8 =>
  (gR s7 x0 8 7).bind fun v9 =>
  (fX6_actAt v9 x2 x3 s7).bind fun r10 =>
  (fX6_setAct v8 x2 x3 r10.1 r10.2).bind fun s11 =>
  (gR s11 x0 8 3).bind fun v12 =>
  (fX7_moneyOfAll v12 s11).bind fun r13 =>
  (fX7_moneyOfAll x1 r13.2).bind fun r14 =>
  some (r13.1 - r14.1, r14.2)
def fX8_worth_b16 (s : Hp) : Option (Int32 × Hp) :=
  some ((iI (-1000000)), s)
def fX8_worth (x0 : Nat) (x1 : Int32) (x2 : Int32) (x3 : Int32) (s : Hp) : Option (Int32 × Hp) :=
  (ck s x0 8).bind fun _ =>
  (fX8_hasShopHour x0 x1 x2 s).bind fun r1 =>
  if r1.1 = 0 then
  (fX8_worth_b16 r1.2)
  else ((fX8_isAct x3 r1.2).bind fun r3 =>
  if r3.1 = 0 then
  (fX8_worth_b16 r3.2)
  else ((gR r3.2 x0 8 8).bind fun v5 =>
  (gR r3.2 x0 8 7).bind fun v6 =>
  (fX6_copyFrom v5 v6 r3.2).bind fun s7 =>
  (fX8_flown x0 s7).bind fun r8 =>
  (fX8_gainBy x0 r8.1 x1 x2 x3 r8.2).bind fun r9 =>
  some (r9.1, r9.2)))
def fX8_best_b130 (x0 : Nat) (x1 : Nat) (x2 : Int32) (x3 : Int32) (x4 : Int32) (x5 : Int32) (x6 : Int32) (s : Hp) : Option ((Int32 × Int32 × Int32 × Hp) ⊕ ((Int32 × Int32 × Hp))) :=
  some (.inl (x2, x3, x6 + iI 1, s))
def fX8_best_b103 (x0 : Nat) (x1 : Nat) (x2 : Int32) (x3 : Int32) (x4 : Int32) (x5 : Int32) (x6 : Int32) (y0 : Int32) (s : Hp) : Option ((Int32 × Int32 × Int32 × Hp) ⊕ ((Int32 × Int32 × Hp))) :=
  if y0 ≤ x3 then
  (fX8_best_b130 x0 x1 x2 x3 x4 x5 x6 s)
  else (lt_ ((((iI 1000) * x4) + ((iI 10) * x5)) + x6) fun z20 =>
  fX8_best_b130 x0 x1 z20 y0 x4 x5 x6 s)
def fX8_best_l66 (x0 : Nat) (x1 : Nat) (x4 : Int32) (x5 : Int32) : (Int32 × Int32 × Int32 × Hp) → Option ((Int32 × Int32 × Int32 × Hp) ⊕ ((Int32 × Int32 × Hp))) := fun a =>
  if (iI 3) ≤ a.2.2.1 then
  (some (.inr (a.1, a.2.1, a.2.2.2)))
  else ((gR a.2.2.2 x0 8 7).bind fun v15 =>
  (fX6_actAt v15 x4 x5 a.2.2.2).bind fun r16 =>
  if a.2.2.1 = r16.1 then
  (fX8_best_b103 x0 x1 a.1 a.2.1 x4 x5 a.2.2.1 (iI 0) r16.2)
  else ((fX8_gainBy x0 x1 x4 x5 a.2.2.1 r16.2).bind fun r18 =>
  fX8_best_b103 x0 x1 a.1 a.2.1 x4 x5 a.2.2.1 r18.1 r18.2))
def fX8_best_l51 (x0 : Nat) (x1 : Nat) (x4 : Int32) : (Int32 × Int32 × Int32 × Hp) → Option ((Int32 × Int32 × Int32 × Hp) ⊕ ((Int32 × Int32 × Hp))) := fun a =>
  (gR a.2.2.2 x0 8 7).bind fun v11 =>
  (gI a.2.2.2 v11 6 4).bind fun v12 =>
  if v12 ≤ a.2.2.1 then
  (some (.inr (a.1, a.2.1, a.2.2.2)))
  else ((iter (fX8_best_l66 x0 x1 x4 a.2.2.1) FU (a.1, a.2.1, (iI 0), a.2.2.2)).bind fun r21 =>
  some (.inl (r21.1, r21.2.1, a.2.2.1 + iI 1, r21.2.2)))
def fX8_best_l36 (x0 : Nat) (x1 : Nat) : (Int32 × Int32 × Int32 × Hp) → Option ((Int32 × Int32 × Int32 × Hp) ⊕ ((Int32 × Hp))) := fun a =>
  (gR a.2.2.2 x0 8 7).bind fun v8 =>
  (gI a.2.2.2 v8 6 8).bind fun v9 =>
  if v9 ≤ a.2.2.1 then
  (some (.inr (a.1, a.2.2.2)))
  else ((iter (fX8_best_l51 x0 x1 a.2.2.1) FU (a.1, a.2.1, (iI 0), a.2.2.2)).bind fun r22 =>
  some (.inl (r22.1, r22.2.1, a.2.2.1 + iI 1, r22.2.2)))
def fX8_best (x0 : Nat) (s : Hp) : Option (Int32 × Hp) :=
  (ck s x0 8).bind fun _ =>
  (gR s x0 8 7).bind fun v1 =>
  (fX6_stands v1 s).bind fun r2 =>
  if r2.1 = 0 then
  (some ((iI (-2)), r2.2))
  else ((fX8_flown x0 r2.2).bind fun r4 =>
  (gR r4.2 x0 8 8).bind fun v5 =>
  (gR r4.2 x0 8 7).bind fun v6 =>
  (fX6_copyFrom v5 v6 r4.2).bind fun s7 =>
  (iter (fX8_best_l36 x0 r4.1) FU ((iI (-1)), (iI 0), (iI 0), s7)).bind fun r23 =>
  some (r23.1, r23.2))
def fX8_stillAll_l2 (x0 : Nat) : (Int32 × Hp) → Option ((Int32 × Hp) ⊕ ((Hp))) := fun a =>
  (gR a.2 x0 6 14).bind fun v1 =>
  (aN a.2 v1).bind fun v2 =>
  if v2 ≤ a.1 then
  (some (.inr a.2))
  else ((gR a.2 x0 6 14).bind fun v4 =>
  (sI a.2 v4 a.1 (iI 0)).bind fun s5 =>
  some (.inl (a.1 + iI 1, s5)))
def fX8_stillAll (x0 : Nat) (s : Hp) : Option (Hp) :=
  (iter (fX8_stillAll_l2 x0) FU ((iI 0), s)).bind fun r6 =>
  some r6
def fX8_addToAll_l2 (x0 : Nat) (x1 : Int32) : (Int32 × Hp) → Option ((Int32 × Hp) ⊕ ((Hp))) := fun a =>
  (gI a.2 x0 6 8).bind fun v1 =>
  if v1 ≤ a.1 then
  (some (.inr a.2))
  else ((gR a.2 x0 6 15).bind fun v3 =>
  (aI a.2 v3 ((a.1 * (iI 6)) + x1)).bind fun v4 =>
  (sI a.2 v3 ((a.1 * (iI 6)) + x1) (v4 + (iI 1))).bind fun s5 =>
  some (.inl (a.1 + iI 1, s5)))
def fX8_addToAll (x0 : Nat) (x1 : Int32) (s : Hp) : Option (Hp) :=
  (iter (fX8_addToAll_l2 x0 x1) FU ((iI 0), s)).bind fun r6 =>
  some r6
def fX8_other_b19 (s : Hp) : Option (Int32 × Hp) :=
  some ((iI (-1000000)), s)
def fX8_other_b108 (x0 : Nat) (s : Hp) : Option (Int32 × Hp) :=
  (gR s x0 8 3).bind fun v14 =>
  (gR s x0 8 8).bind fun v15 =>
  (fX7_begin v14 v15 (iI 0) (iI 0) s).bind fun s16 =>
  (gR s16 x0 8 3).bind fun v17 =>
  (fX7_flyFrom v17 (iI 0) s16).bind fun s18 =>
  (gR s18 x0 8 3).bind fun v19 =>
  (fX7_moneyOfAll v19 s18).bind fun r20 =>
  (fX8_flown x0 r20.2).bind fun r21 =>
  (fX7_moneyOfAll r21.1 r21.2).bind fun r22 =>
  some (r20.1 - r22.1, r22.2)
def fX8_other (x0 : Nat) (x1 : Int32) (s : Hp) : Option (Int32 × Hp) :=
  (ck s x0 8).bind fun _ =>
  (gR s x0 8 7).bind fun v1 =>
  (fX6_stands v1 s).bind fun r2 =>
  if r2.1 = 0 then
  (fX8_other_b19 r2.2)
  else (if x1 < 0 then
  (fX8_other_b19 r2.2)
  else (if x1 ≤ (iI 4) then
  ((gR r2.2 x0 8 8).bind fun v6 =>
  (gR r2.2 x0 8 7).bind fun v7 =>
  (fX6_copyFrom v6 v7 r2.2).bind fun s8 =>
  if x1 = 0 then
  ((gR s8 x0 8 8).bind fun v31 =>
  (pI s8 v31 6 5 (iI 0)).bind fun s32 =>
  fX8_other_b108 x0 s32)
  else (if x1 = (iI 1) then
  ((gR s8 x0 8 8).bind fun v29 =>
  (fX8_stillAll v29 s8).bind fun s30 =>
  fX8_other_b108 x0 s30)
  else (if x1 = (iI 2) then
  ((gR s8 x0 8 8).bind fun v23 =>
  (gR s8 x0 8 7).bind fun v24 =>
  (gI s8 v24 6 6).bind fun v25 =>
  (gR s8 x0 8 7).bind fun v26 =>
  (gI s8 v26 6 3).bind fun v27 =>
  (pI s8 v23 6 6 (imin (v25 + (iI 1)) (v27 - (iI 1)))).bind fun s28 =>
  fX8_other_b108 x0 s28)
  else ((gR s8 x0 8 8).bind fun v12 =>
  (fX8_addToAll v12 x1 s8).bind fun s13 =>
  fX8_other_b108 x0 s13))))
  else (fX8_other_b19 r2.2)))
def fX8_load_b28 (s : Hp) : Option (Int32 × Hp) :=
  some ((iI (-2)), s)
def fX8_load (x0 : Nat) (x1 : Int32) (x2 : Int32) (x3 : Int32) (s : Hp) : Option (Int32 × Hp) :=
  (ck s x0 8).bind fun _ =>
  (gR s x0 8 7).bind fun v1 =>
  (fX6_hasShop v1 x1 s).bind fun r2 =>
  if r2.1 = 0 then
  (fX8_load_b28 r2.2)
  else (if x2 < (iI 3) then
  (fX8_load_b28 r2.2)
  else (if (iI 5) < x2 then
  (fX8_load_b28 r2.2)
  else ((fX8_isStock x3 r2.2).bind fun r6 =>
  if r6.1 = 0 then
  (fX8_load_b28 r6.2)
  else ((gR r6.2 x0 8 7).bind fun v8 =>
  (fX6_shopFact v8 x1 x2 r6.2).bind fun r9 =>
  (gR r9.2 x0 8 7).bind fun v10 =>
  (gR r9.2 v10 6 15).bind fun v11 =>
  (sI r9.2 v11 ((x1 * (iI 6)) + x2) x3).bind fun s12 =>
  (fX8_forgetAll x0 s12).bind fun s13 =>
  some (r9.1, s13)))))
def fX8_turn_b34 (s : Hp) : Option (Int32 × Hp) :=
  some ((iI (-2)), s)
def fX8_turn (x0 : Nat) (x1 : Int32) (x2 : Int32) (x3 : Int32) (s : Hp) : Option (Int32 × Hp) :=
  (ck s x0 8).bind fun _ =>
  if x1 < (iI 1) then
  (fX8_turn_b34 s)
  else ((gR s x0 8 7).bind fun v2 =>
  (fX6_hasLayer v2 x1 s).bind fun r3 =>
  if r3.1 = 0 then
  (fX8_turn_b34 r3.2)
  else ((gR r3.2 x0 8 7).bind fun v5 =>
  (fX6_hasHour v5 x2 r3.2).bind fun r6 =>
  if r6.1 = 0 then
  (fX8_turn_b34 r6.2)
  else ((fX8_isWind x3 r6.2).bind fun r8 =>
  if r8.1 = 0 then
  (fX8_turn_b34 r8.2)
  else ((gR r8.2 x0 8 7).bind fun v10 =>
  (fX6_windAt v10 x1 x2 r8.2).bind fun r11 =>
  (gR r11.2 x0 8 7).bind fun v12 =>
  (gR r11.2 v12 6 14).bind fun v13 =>
  (sI r11.2 v13 ((x1 * (iI 24)) + x2) x3).bind fun s14 =>
  (fX8_forgetAll x0 s14).bind fun s15 =>
  some (r11.1, s15)))))
def fX8_isDraw_b25 (s : Hp) : Option (Int32 × Hp) :=
  some ((iI 0), s)
def fX8_isDraw (x0 : Int32) (x1 : Int32) (s : Hp) : Option (Int32 × Hp) :=
  if x0 < 0 then
  (fX8_isDraw_b25 s)
  else (if (iI 2000000000) < x0 then
  (fX8_isDraw_b25 s)
  else (if x1 < 0 then
  (fX8_isDraw_b25 s)
  else (if (iI 100) < x1 then
  (fX8_isDraw_b25 s)
  else (some ((iI 1), s)))))
def fX8_gust_b18 (s : Hp) : Option (Int32 × Hp) :=
  some ((iI (-2)), s)
def fX8_gust (x0 : Nat) (x1 : Int32) (x2 : Int32) (x3 : Int32) (x4 : Int32) (s : Hp) : Option (Int32 × Hp) :=
  (ck s x0 8).bind fun _ =>
  (fX8_isDraw x1 x2 s).bind fun r1 =>
  if r1.1 = 0 then
  (fX8_gust_b18 r1.2)
  else ((fX8_hasShopHour x0 x3 x4 r1.2).bind fun r3 =>
  if r3.1 = 0 then
  (fX8_gust_b18 r3.2)
  else ((gR r3.2 x0 8 3).bind fun v5 =>
  (gR r3.2 x0 8 7).bind fun v6 =>
  (fX7_begin v5 v6 x1 x2 r3.2).bind fun s7 =>
  (gR s7 x0 8 3).bind fun v8 =>
  (fX7_flyFrom v8 (iI 0) s7).bind fun s9 =>
  (gR s9 x0 8 3).bind fun v10 =>
  (fX7_factBehind v10 x3 x4 (iI 0) s9).bind fun r11 =>
  (gR r11.2 x0 8 3).bind fun v12 =>
  (fX7_factBehind v12 x3 x4 (iI 1) r11.2).bind fun r13 =>
  (gR r13.2 x0 8 3).bind fun v14 =>
  (fX7_factBehind v14 x3 x4 (iI 2) r13.2).bind fun r15 =>
  some ((((iI 100) * r11.1) + ((iI 10) * r13.1)) + r15.1, r15.2)))
def fX8_chance_b57 (s : Hp) : Option (Int32 × Hp) :=
  some ((iI (-2)), s)
def fX8_chance_b122 (x0 : Nat) (x1 : Int32) (x2 : Int32) (x3 : Int32) (x4 : Int32) (x5 : Int32) (x6 : Int32) (x9 : Int32) (y0 : Int32) (y1 : Int32) (s : Hp) : Option ((Int32 × Int32 × Hp) ⊕ ((Int32 × Hp))) :=
  lt_ (y0 + y1) fun z20 =>
  some (.inl (z20, x9 + iI 1, s))
def fX8_chance_l66 (x0 : Nat) (x1 : Int32) (x2 : Int32) (x3 : Int32) (x4 : Int32) (x5 : Int32) (x6 : Int32) : (Int32 × Int32 × Hp) → Option ((Int32 × Int32 × Hp) ⊕ ((Int32 × Hp))) := fun a =>
  if x2 ≤ a.2.1 then
  (some (.inr (a.1, a.2.2)))
  else ((gR a.2.2 x0 8 3).bind fun v11 =>
  (gR a.2.2 x0 8 7).bind fun v12 =>
  (fX7_begin v11 v12 (x1 + a.2.1) x3 a.2.2).bind fun s13 =>
  (gR s13 x0 8 3).bind fun v14 =>
  (fX7_flyFrom v14 (iI 0) s13).bind fun s15 =>
  (gR s15 x0 8 3).bind fun v16 =>
  (fX7_columnAtEnd v16 x4 s15).bind fun r17 =>
  (fX8_columnOf x5 x6 r17.2).bind fun r18 =>
  if r17.1 = r18.1 then
  (fX8_chance_b122 x0 x1 x2 x3 x4 x5 x6 a.2.1 a.1 (iI 1) r18.2)
  else (fX8_chance_b122 x0 x1 x2 x3 x4 x5 x6 a.2.1 a.1 (iI 0) r18.2))
def fX8_chance_b24 (x0 : Nat) (x1 : Int32) (x2 : Int32) (x3 : Int32) (x4 : Int32) (x5 : Int32) (x6 : Int32) (y0 : Int32) (s : Hp) : Option (Int32 × Hp) :=
  if y0 = 0 then
  (fX8_chance_b57 s)
  else ((gR s x0 8 7).bind fun v4 =>
  (fX6_hasShop v4 x4 s).bind fun r5 =>
  if r5.1 = 0 then
  (fX8_chance_b57 r5.2)
  else ((gR r5.2 x0 8 7).bind fun v7 =>
  (fX6_hasColumn v7 x5 x6 r5.2).bind fun r8 =>
  if r8.1 = 0 then
  (fX8_chance_b57 r8.2)
  else ((iter (fX8_chance_l66 x0 x1 x2 x3 x4 x5 x6) FU ((iI 0), (iI 0), r8.2)).bind fun r21 =>
  some (r21.1, r21.2))))
def fX8_chance_b23 (x0 : Nat) (x1 : Int32) (x2 : Int32) (x3 : Int32) (x4 : Int32) (x5 : Int32) (x6 : Int32) (s : Hp) : Option (Int32 × Hp) :=
  fX8_chance_b24 x0 x1 x2 x3 x4 x5 x6 (iI 0) s
def fX8_chance (x0 : Nat) (x1 : Int32) (x2 : Int32) (x3 : Int32) (x4 : Int32) (x5 : Int32) (x6 : Int32) (s : Hp) : Option (Int32 × Hp) :=
  (ck s x0 8).bind fun _ =>
  (fX8_isDraw x1 x3 s).bind fun r1 =>
  if r1.1 = 0 then
  (fX8_chance_b23 x0 x1 x2 x3 x4 x5 x6 r1.2)
  else (if x2 < (iI 1) then
  (fX8_chance_b23 x0 x1 x2 x3 x4 x5 x6 r1.2)
  else (if (iI 20) < x2 then
  (fX8_chance_b23 x0 x1 x2 x3 x4 x5 x6 r1.2)
  else (fX8_chance_b24 x0 x1 x2 x3 x4 x5 x6 (iI 1) r1.2)))
def fX8_takings_b18 (s : Hp) : Option (Int32 × Hp) :=
  some ((iI (-2)), s)
def fX8_takings (x0 : Nat) (x1 : Int32) (x2 : Int32) (s : Hp) : Option (Int32 × Hp) :=
  (ck s x0 8).bind fun _ =>
  (gR s x0 8 7).bind fun v1 =>
  (fX6_stands v1 s).bind fun r2 =>
  if r2.1 = 0 then
  (fX8_takings_b18 r2.2)
  else ((fX8_isDraw x1 x2 r2.2).bind fun r4 =>
  if r4.1 = 0 then
  (fX8_takings_b18 r4.2)
  else ((gR r4.2 x0 8 3).bind fun v6 =>
  (gR r4.2 x0 8 7).bind fun v7 =>
  (fX7_begin v6 v7 x1 x2 r4.2).bind fun s8 =>
  (gR s8 x0 8 3).bind fun v9 =>
  (fX7_flyFrom v9 (iI 0) s8).bind fun s10 =>
  (gR s10 x0 8 3).bind fun v11 =>
  (fX7_moneyOfAll v11 s10).bind fun r12 =>
  some (r12.1, r12.2)))
def fX8_fullSlots_b27 (x0 : Nat) (x2 : Int32) (y0 : Int32) (y1 : Int32) (s : Hp) : Option ((Int32 × Int32 × Hp) ⊕ ((Int32 × Hp))) :=
  lt_ (y0 + y1) fun z6 =>
  some (.inl (z6, x2 + iI 1, s))
def fX8_fullSlots_l4 (x0 : Nat) : (Int32 × Int32 × Hp) → Option ((Int32 × Int32 × Hp) ⊕ ((Int32 × Hp))) := fun a =>
  if (iI 4) ≤ a.2.1 then
  (some (.inr (a.1, a.2.2)))
  else ((gR a.2.2 x0 8 6).bind fun v2 =>
  (aR a.2.2 25 v2 a.2.1).bind fun v3 =>
  (fX5_isThere v3 a.2.2).bind fun r4 =>
  if r4.1 = 0 then
  (fX8_fullSlots_b27 x0 a.2.1 a.1 (iI 0) r4.2)
  else (fX8_fullSlots_b27 x0 a.2.1 a.1 (iI 1) r4.2))
def fX8_fullSlots (x0 : Nat) (s : Hp) : Option (Int32 × Hp) :=
  (ck s x0 8).bind fun _ =>
  (iter (fX8_fullSlots_l4 x0) FU ((iI 0), (iI 0), s)).bind fun r7 =>
  some (r7.1, r7.2)
def fX8_count (x0 : Nat) (x1 : Int32) (s : Hp) : Option (Int32 × Hp) :=
  (ck s x0 8).bind fun _ =>
  if x1 = (iI 0) then
  ((gR s x0 8 7).bind fun v2 =>
  (gI s v2 6 1).bind fun v3 =>
  some (v3, s))
  else (if x1 = (iI 1) then
  ((gR s x0 8 7).bind fun v5 =>
  (gI s v5 6 2).bind fun v6 =>
  some (v6, s))
  else (if x1 = (iI 2) then
  ((gR s x0 8 7).bind fun v8 =>
  (gI s v8 6 3).bind fun v9 =>
  some (v9, s))
  else (if x1 = (iI 3) then
  ((gR s x0 8 7).bind fun v11 =>
  (gI s v11 6 4).bind fun v12 =>
  some (v12, s))
  else (if x1 = (iI 4) then
  ((gR s x0 8 7).bind fun v14 =>
  (gI s v14 6 5).bind fun v15 =>
  some (v15, s))
  else (if x1 = (iI 5) then
  ((gR s x0 8 7).bind fun v17 =>
  (gI s v17 6 6).bind fun v18 =>
  some (v18, s))
  else (if x1 = (iI 6) then
  ((gR s x0 8 7).bind fun v20 =>
  (gI s v20 6 7).bind fun v21 =>
  some (v21, s))
  else (if x1 = (iI 7) then
  ((gR s x0 8 7).bind fun v23 =>
  (gI s v23 6 8).bind fun v24 =>
  some (v24, s))
  else (if x1 = (iI 8) then
  ((gR s x0 8 7).bind fun v26 =>
  (gI s v26 6 9).bind fun v27 =>
  some (v27, s))
  else (if x1 = (iI 9) then
  ((gR s x0 8 7).bind fun v29 =>
  (gI s v29 6 0).bind fun v30 =>
  some (v30, s))
  else (if x1 = (iI 10) then
  ((gI s x0 8 10).bind fun v32 =>
  some (v32, s))
  else (if x1 = (iI 11) then
  ((gR s x0 8 7).bind fun v34 =>
  (gI s v34 6 13).bind fun v35 =>
  some (v35, s))
  else (if x1 = (iI 12) then
  ((fX8_fullSlots x0 s).bind fun r37 =>
  some (r37.1, r37.2))
  else (some ((iI (-1)), s))))))))))))))
def fX8_keep_b9 (s : Hp) : Option (Int32 × Hp) :=
  some ((iI (-2)), s)
def fX8_keep (x0 : Nat) (x1 : Int32) (s : Hp) : Option (Int32 × Hp) :=
  (ck s x0 8).bind fun _ =>
  if x1 < 0 then
  (fX8_keep_b9 s)
  else (if x1 < (iI 3) then
  ((gR s x0 8 4).bind fun v3 =>
  (aR s 24 v3 x1).bind fun v4 =>
  (gR s x0 8 7).bind fun v5 =>
  (fX6_copyFrom v4 v5 s).bind fun s6 =>
  (gR s6 x0 8 5).bind fun v7 =>
  (sZ s6 v7 x1 (iI 1)).bind fun s8 =>
  some ((iI 0), s8))
  else (fX8_keep_b9 s))
def fX8_back_b9 (s : Hp) : Option (Int32 × Hp) :=
  some ((iI (-2)), s)
def fX8_back (x0 : Nat) (x1 : Int32) (s : Hp) : Option (Int32 × Hp) :=
  (ck s x0 8).bind fun _ =>
  if x1 < 0 then
  (fX8_back_b9 s)
  else (if x1 < (iI 3) then
  ((gR s x0 8 5).bind fun v3 =>
  (aZ s v3 x1).bind fun v4 =>
  if v4 = 0 then
  (some ((iI (-6)), s))
  else ((gR s x0 8 7).bind fun v6 =>
  (gR s x0 8 4).bind fun v7 =>
  (aR s 24 v7 x1).bind fun v8 =>
  (fX6_copyFrom v6 v8 s).bind fun s9 =>
  (fX8_forgetAll x0 s9).bind fun s10 =>
  some ((iI 0), s10)))
  else (fX8_back_b9 s))
def fX8_row_b22 (s : Hp) : Option (Int32 × Hp) :=
  some ((iI (-2)), s)
def fX8_row (x0 : Nat) (x1 : Int32) (x2 : Int32) (x3 : Int32) (s : Hp) : Option (Int32 × Hp) :=
  (ck s x0 8).bind fun _ =>
  (fX8_isSlot x1 s).bind fun r1 =>
  if r1.1 = 0 then
  (fX8_row_b22 r1.2)
  else (if x2 < 0 then
  (fX8_row_b22 r1.2)
  else (if (iI 4) ≤ x2 then
  (fX8_row_b22 r1.2)
  else (if x3 ≤ (iI 60) then
  (if 0 ≤ x3 then
  ((gR r1.2 x0 8 6).bind fun v7 =>
  (aR r1.2 25 v7 x1).bind fun v8 =>
  (fX5_renew v8 x2 x3 r1.2).bind fun s9 =>
  some ((iI 0), s9))
  else (some ((iI (-3)), r1.2)))
  else (fX8_row_b22 r1.2))))
def fX8_write (x0 : Nat) (x1 : Int32) (x2 : Int32) (x3 : Int64) (s : Hp) : Option (Int32 × Hp) :=
  (ck s x0 8).bind fun _ =>
  (fX8_isSlot x1 s).bind fun r1 =>
  if r1.1 = 0 then
  (some ((iI (-2)), r1.2))
  else ((gR r1.2 x0 8 6).bind fun v3 =>
  (aR r1.2 25 v3 x1).bind fun v4 =>
  (fX5_isThere v4 r1.2).bind fun r5 =>
  if r5.1 = 0 then
  (some ((iI (-6)), r5.2))
  else ((gR r5.2 x0 8 6).bind fun v7 =>
  (aR r5.2 25 v7 x1).bind fun v8 =>
  (fX5_holds v8 x2 (iI 1) r5.2).bind fun r9 =>
  if r9.1 = 0 then
  (some ((iI (-7)), r9.2))
  else ((gR r9.2 x0 8 6).bind fun v11 =>
  (aR r9.2 25 v11 x1).bind fun v12 =>
  (fX5_put v12 x2 x3 r9.2).bind fun s13 =>
  some ((iI 0), s13))))
def fX8_paste_b14 (s : Hp) : Option (Int32 × Hp) :=
  some ((iI (-2)), s)
def fX8_paste_b41 (s : Hp) : Option (Int32 × Hp) :=
  some ((iI (-6)), s)
def fX8_paste_b99 (s : Hp) : Option (Int32 × Hp) :=
  some ((iI (-7)), s)
def fX8_paste (x0 : Nat) (x1 : Int32) (x2 : Int32) (x3 : Int32) (x4 : Int32) (x5 : Int32) (s : Hp) : Option (Int32 × Hp) :=
  (ck s x0 8).bind fun _ =>
  (fX8_isSlot x1 s).bind fun r1 =>
  if r1.1 = 0 then
  (fX8_paste_b14 r1.2)
  else ((fX8_isSlot x3 r1.2).bind fun r3 =>
  if r3.1 = 0 then
  (fX8_paste_b14 r3.2)
  else ((gR r3.2 x0 8 6).bind fun v5 =>
  (aR r3.2 25 v5 x1).bind fun v6 =>
  (fX5_isThere v6 r3.2).bind fun r7 =>
  if r7.1 = 0 then
  (fX8_paste_b41 r7.2)
  else ((gR r7.2 x0 8 6).bind fun v9 =>
  (aR r7.2 25 v9 x3).bind fun v10 =>
  (fX5_isThere v10 r7.2).bind fun r11 =>
  if r11.1 = 0 then
  (fX8_paste_b41 r11.2)
  else ((gR r11.2 x0 8 6).bind fun v13 =>
  (aR r11.2 25 v13 x1).bind fun v14 =>
  (gI r11.2 v14 5 2).bind fun v15 =>
  (gR r11.2 x0 8 6).bind fun v16 =>
  (aR r11.2 25 v16 x3).bind fun v17 =>
  (gI r11.2 v17 5 2).bind fun v18 =>
  if v15 = v18 then
  ((gR r11.2 x0 8 6).bind fun v20 =>
  (aR r11.2 25 v20 x1).bind fun v21 =>
  (fX5_holds v21 x2 x5 r11.2).bind fun r22 =>
  if r22.1 = 0 then
  (fX8_paste_b99 r22.2)
  else ((gR r22.2 x0 8 6).bind fun v24 =>
  (aR r22.2 25 v24 x3).bind fun v25 =>
  (fX5_holds v25 x4 x5 r22.2).bind fun r26 =>
  if r26.1 = 0 then
  (fX8_paste_b99 r26.2)
  else ((gR r26.2 x0 8 6).bind fun v28 =>
  (aR r26.2 25 v28 x1).bind fun v29 =>
  (gR r26.2 x0 8 6).bind fun v30 =>
  (aR r26.2 25 v30 x3).bind fun v31 =>
  (fX5_copyTo v29 x2 v31 x4 x5 r26.2).bind fun s32 =>
  some ((iI 0), s32))))
  else (some ((iI (-8)), r11.2))))))
def fX9_init_l217 (x0 : Nat) : (Int32 × Hp) → Option ((Int32 × Hp) ⊕ ((Hp))) := fun a =>
  if (iI 4) ≤ a.1 then
  (some (.inr a.2))
  else ((gR a.2 x0 9 1).bind fun v53 =>
  (sI a.2 v53 a.1 (iI (-1))).bind fun s54 =>
  some (.inl (a.1 + iI 1, s54)))
def fX9_init (x0 : Nat) (s : Hp) : Option (Hp) :=
  (ck s x0 9).bind fun _ =>
  (mkA s 20 (iI 4) (.int 0)).bind fun s1 =>
  (pR s1 x0 9 1 s.1).bind fun s2 =>
  (mkA s2 20 (iI 4) (.int 0)).bind fun s3 =>
  (pR s3 x0 9 2 s2.1).bind fun s4 =>
  (mkA s4 21 (iI 240) (.long 0)).bind fun s5 =>
  (pR s5 x0 9 3 s4.1).bind fun s6 =>
  (mkA s6 21 (iI 60) (.long 0)).bind fun s7 =>
  (pR s7 x0 9 4 s6.1).bind fun s8 =>
  (mkA s8 22 (iI 1600) (.int 0)).bind fun s9 =>
  (pR s9 x0 9 5 s8.1).bind fun s10 =>
  (pI s10 x0 9 15 (iI (-1))).bind fun s11 =>
  (mkA s11 20 (iI 5) (.int 0)).bind fun s12 =>
  (pR s12 x0 9 16 s11.1).bind fun s13 =>
  (mkA s13 20 (iI 75) (.int 0)).bind fun s14 =>
  (pR s14 x0 9 17 s13.1).bind fun s15 =>
  (mkA s15 20 (iI 600) (.int 0)).bind fun s16 =>
  (pR s16 x0 9 18 s15.1).bind fun s17 =>
  (mkA s17 20 (iI 120) (.int 0)).bind fun s18 =>
  (pR s18 x0 9 19 s17.1).bind fun s19 =>
  (mkA s19 20 (iI 120) (.int 0)).bind fun s20 =>
  (pR s20 x0 9 21 s19.1).bind fun s21 =>
  (mkA s21 20 (iI 75) (.int 0)).bind fun s22 =>
  (pR s22 x0 9 22 s21.1).bind fun s23 =>
  (mkA s23 20 (iI 480) (.int 0)).bind fun s24 =>
  (pR s24 x0 9 23 s23.1).bind fun s25 =>
  (mkA s25 20 (iI 1200) (.int 0)).bind fun s26 =>
  (pR s26 x0 9 24 s25.1).bind fun s27 =>
  (mkA s27 23 (iI 3) (.int 0)).bind fun s28 =>
  (pR s28 x0 9 25 s27.1).bind fun s29 =>
  (mkA s29 20 (iI 700) (.int 0)).bind fun s30 =>
  (pR s30 x0 9 28 s29.1).bind fun s31 =>
  (mkA s31 20 (iI 96) (.int 0)).bind fun s32 =>
  (pR s32 x0 9 29 s31.1).bind fun s33 =>
  (mkA s33 23 (iI 96) (.int 0)).bind fun s34 =>
  (pR s34 x0 9 30 s33.1).bind fun s35 =>
  (mkA s35 20 (iI 96) (.int 0)).bind fun s36 =>
  (pR s36 x0 9 31 s35.1).bind fun s37 =>
  (mkA s37 20 (iI 5) (.int 0)).bind fun s38 =>
  (pR s38 x0 9 32 s37.1).bind fun s39 =>
  (mkA s39 23 (iI 120) (.int 0)).bind fun s40 =>
  (pR s40 x0 9 39 s39.1).bind fun s41 =>
  (mkA s41 21 (iI 16000) (.long 0)).bind fun s42 =>
  (pR s42 x0 9 40 s41.1).bind fun s43 =>
  (mkA s43 21 (iI 16000) (.long 0)).bind fun s44 =>
  (pR s44 x0 9 41 s43.1).bind fun s45 =>
  (mkA s45 21 (iI 32000) (.long 0)).bind fun s46 =>
  (pR s46 x0 9 49 s45.1).bind fun s47 =>
  (mkA s47 21 (iI 32000) (.long 0)).bind fun s48 =>
  (pR s48 x0 9 50 s47.1).bind fun s49 =>
  (mkA s49 23 (iI 7680) (.int 0)).bind fun s50 =>
  (pR s50 x0 9 51 s49.1).bind fun s51 =>
  (iter (fX9_init_l217 x0) FU ((iI 0), s51)).bind fun r55 =>
  some r55
def fX9_in_b17 (s : Hp) : Option (Int32 × Hp) :=
  some ((iI 0), s)
def fX9_in (x0 : Int64) (x2 : Int64) (x4 : Int64) (s : Hp) : Option (Int32 × Hp) :=
  if (lg_cmp x0 x2) < 0 then
  (fX9_in_b17 s)
  else (if 0 < (lg_cmp x0 x4) then
  (fX9_in_b17 s)
  else (some ((iI 1), s)))
def fX9_isSlot (x0 : Int32) (s : Hp) : Option (Int32 × Hp) :=
  (fX9_in (Int32.toInt64 x0) 0 3 s).bind fun r1 =>
  (rZ r1.1).bind fun _ => some (r1.1, r1.2)
def fX9_row_b30 (s : Hp) : Option (Int32 × Hp) :=
  some ((iI (-2)), s)
def fX9_row_l57 (x0 : Nat) (x1 : Int32) (x3 : Int32) : (Int32 × Hp) → Option ((Int32 × Hp) ⊕ ((Hp))) := fun a =>
  if x3 ≤ a.1 then
  (some (.inr a.2))
  else ((gR a.2 x0 9 3).bind fun v13 =>
  (sL a.2 v13 (((iI 60) * x1) + a.1) 0).bind fun s14 =>
  some (.inl (a.1 + iI 1, s14)))
def fX9_row (x0 : Nat) (x1 : Int32) (x2 : Int32) (x3 : Int32) (s : Hp) : Option (Int32 × Hp) :=
  (ck s x0 9).bind fun _ =>
  (pI s x0 9 0 (iI 0)).bind fun s1 =>
  (fX9_isSlot x1 s1).bind fun r2 =>
  if r2.1 = 0 then
  (fX9_row_b30 r2.2)
  else ((fX9_in (Int32.toInt64 x2) 0 3 r2.2).bind fun r4 =>
  if r4.1 = 0 then
  (fX9_row_b30 r4.2)
  else (if x3 ≤ (iI 60) then
  (if 0 ≤ x3 then
  ((gR r4.2 x0 9 1).bind fun v8 =>
  (sI r4.2 v8 x1 x2).bind fun s9 =>
  (gR s9 x0 9 2).bind fun v10 =>
  (sI s9 v10 x1 x3).bind fun s11 =>
  (iter (fX9_row_l57 x0 x1 x3) FU ((iI 0), s11)).bind fun r15 =>
  some ((iI 0), r15))
  else (some ((iI (-3)), r4.2)))
  else (fX9_row_b30 r4.2)))
def fX9_cut (x0 : Int64) (x2 : Int32) (s : Hp) : Option (Int64 × Hp) :=
  if x2 = 0 then
  (some (Int32.toInt64 (i2b (Int64.toInt32 x0)), s))
  else (if x2 = (iI 1) then
  (some (Int32.toInt64 (i2s (Int64.toInt32 x0)), s))
  else (if x2 = (iI 2) then
  (some (Int32.toInt64 (Int64.toInt32 x0), s))
  else (some (x0, s))))
def fX9_write (x0 : Nat) (x1 : Int32) (x2 : Int32) (x3 : Int64) (s : Hp) : Option (Int32 × Hp) :=
  (ck s x0 9).bind fun _ =>
  (pI s x0 9 0 (iI 0)).bind fun s1 =>
  (fX9_isSlot x1 s1).bind fun r2 =>
  if r2.1 = 0 then
  (some ((iI (-2)), r2.2))
  else ((gR r2.2 x0 9 1).bind fun v4 =>
  (aI r2.2 v4 x1).bind fun v5 =>
  if v5 = (iI (-1)) then
  (some ((iI (-6)), r2.2))
  else ((gR r2.2 x0 9 2).bind fun v7 =>
  (aI r2.2 v7 x1).bind fun v8 =>
  (fX9_in (Int32.toInt64 x2) 0 (Int32.toInt64 (v8 - (iI 1))) r2.2).bind fun r9 =>
  if r9.1 = 0 then
  (some ((iI (-7)), r9.2))
  else ((gR r9.2 x0 9 3).bind fun v11 =>
  (gR r9.2 x0 9 1).bind fun v12 =>
  (aI r9.2 v12 x1).bind fun v13 =>
  (fX9_cut x3 v13 r9.2).bind fun r14 =>
  (sL r14.2 v11 (((iI 60) * x1) + x2) r14.1).bind fun s15 =>
  some ((iI 0), s15))))
def fX9_paste_b19 (s : Hp) : Option (Int32 × Hp) :=
  some ((iI (-2)), s)
def fX9_paste_b42 (s : Hp) : Option (Int32 × Hp) :=
  some ((iI (-6)), s)
def fX9_paste_b112 (s : Hp) : Option (Int32 × Hp) :=
  some ((iI (-7)), s)
def fX9_paste_l118 (x0 : Nat) (x1 : Int32) (x2 : Int32) (x3 : Int32) (x4 : Int32) (x5 : Int32) : (Int32 × Hp) → Option ((Int32 × Hp) ⊕ ((Hp))) := fun a =>
  if x5 ≤ a.1 then
  (some (.inr a.2))
  else ((gR a.2 x0 9 4).bind fun v27 =>
  (gR a.2 x0 9 3).bind fun v28 =>
  (aL a.2 v28 ((((iI 60) * x1) + x2) + a.1)).bind fun v29 =>
  (sL a.2 v27 a.1 v29).bind fun s30 =>
  some (.inl (a.1 + iI 1, s30)))
def fX9_paste_l155 (x0 : Nat) (x3 : Int32) (x4 : Int32) (x5 : Int32) : (Int32 × Hp) → Option ((Int32 × Hp) ⊕ ((Hp))) := fun a =>
  if x5 ≤ a.1 then
  (some (.inr a.2))
  else ((gR a.2 x0 9 3).bind fun v33 =>
  (gR a.2 x0 9 4).bind fun v34 =>
  (aL a.2 v34 a.1).bind fun v35 =>
  (sL a.2 v33 ((((iI 60) * x3) + x4) + a.1) v35).bind fun s36 =>
  some (.inl (a.1 + iI 1, s36)))
def fX9_paste (x0 : Nat) (x1 : Int32) (x2 : Int32) (x3 : Int32) (x4 : Int32) (x5 : Int32) (s : Hp) : Option (Int32 × Hp) :=
  (ck s x0 9).bind fun _ =>
  (pI s x0 9 0 (iI 0)).bind fun s1 =>
  (fX9_isSlot x1 s1).bind fun r2 =>
  if r2.1 = 0 then
  (fX9_paste_b19 r2.2)
  else ((fX9_isSlot x3 r2.2).bind fun r4 =>
  if r4.1 = 0 then
  (fX9_paste_b19 r4.2)
  else ((gR r4.2 x0 9 1).bind fun v6 =>
  (aI r4.2 v6 x1).bind fun v7 =>
  if v7 = (iI (-1)) then
  (fX9_paste_b42 r4.2)
  else ((gR r4.2 x0 9 1).bind fun v9 =>
  (aI r4.2 v9 x3).bind fun v10 =>
  if v10 = (iI (-1)) then
  (fX9_paste_b42 r4.2)
  else ((gR r4.2 x0 9 1).bind fun v12 =>
  (aI r4.2 v12 x1).bind fun v13 =>
  (gR r4.2 x0 9 1).bind fun v14 =>
  (aI r4.2 v14 x3).bind fun v15 =>
  if v13 = v15 then
  (if x2 < 0 then
  (fX9_paste_b112 r4.2)
  else (if x4 < 0 then
  (fX9_paste_b112 r4.2)
  else (if x5 < 0 then
  (fX9_paste_b112 r4.2)
  else ((gR r4.2 x0 9 2).bind fun v20 =>
  (aI r4.2 v20 x1).bind fun v21 =>
  if 0 < (lg_cmp ((Int32.toInt64 x2) + (Int32.toInt64 x5)) (Int32.toInt64 v21)) then
  (fX9_paste_b112 r4.2)
  else ((gR r4.2 x0 9 2).bind fun v23 =>
  (aI r4.2 v23 x3).bind fun v24 =>
  if (lg_cmp ((Int32.toInt64 x4) + (Int32.toInt64 x5)) (Int32.toInt64 v24)) ≤ 0 then
  ((iter (fX9_paste_l118 x0 x1 x2 x3 x4 x5) FU ((iI 0), r4.2)).bind fun r31 =>
  (iter (fX9_paste_l155 x0 x3 x4 x5) FU ((iI 0), r31)).bind fun r37 =>
  some ((iI 0), r37))
  else (fX9_paste_b112 r4.2))))))
  else (some ((iI (-8)), r4.2))))))
def fX9_four_l3 (x0 : Nat) (x1 : Int32) : (Int32 × Hp) → Option ((Int32 × Hp) ⊕ ((Hp))) := fun a =>
  if a.1 < 0 then
  (some (.inr a.2))
  else ((gR a.2 x0 9 5).bind fun v2 =>
  (gI a.2 x0 9 6).bind fun v3 =>
  (sB a.2 v2 v3 (i2b (isr x1 a.1))).bind fun s4 =>
  (gI s4 x0 9 6).bind fun v5 =>
  (pI s4 x0 9 6 (v5 + (iI 1))).bind fun s6 =>
  some (.inl (a.1 + iI (-8), s6)))
def fX9_four (x0 : Nat) (x1 : Int32) (s : Hp) : Option (Hp) :=
  (ck s x0 9).bind fun _ =>
  (iter (fX9_four_l3 x0 x1) FU ((iI 24), s)).bind fun r7 =>
  some r7
def fX9_feed (x0 : Nat) (x1 : Int32) (x2 : Int32) (x3 : Int32) (x4 : Int32) (x5 : Int32) (s : Hp) : Option (Int32 × Hp) :=
  (ck s x0 9).bind fun _ =>
  (pI s x0 9 0 (iI 0)).bind fun s1 =>
  (gI s1 x0 9 6).bind fun v2 =>
  if (v2 + (iI 20)) ≤ (iI 1600) then
  ((fX9_four x0 x1 s1).bind fun s4 =>
  (fX9_four x0 x2 s4).bind fun s5 =>
  (fX9_four x0 x3 s5).bind fun s6 =>
  (fX9_four x0 x4 s6).bind fun s7 =>
  (fX9_four x0 x5 s7).bind fun s8 =>
  (gI s8 x0 9 6).bind fun v9 =>
  some (v9, s8))
  else (some ((iI (-1)), s1))
def fX9_end (x0 : Nat) (x1 : Int32) (s : Hp) : Option (Int32 × Hp) :=
  (ck s x0 9).bind fun _ =>
  (pI s x0 9 0 (iI 0)).bind fun s1 =>
  (gI s1 x0 9 6).bind fun v2 =>
  (fX9_in (Int32.toInt64 x1) 0 (Int32.toInt64 v2) s1).bind fun r3 =>
  if r3.1 = 0 then
  (some ((iI (-1)), r3.2))
  else ((pI r3.2 x0 9 6 x1).bind fun s5 =>
  some (x1, s5))
def fX9_isByte_b32 (s : Hp) : Option (Int32 × Hp) :=
  some ((iI 0), s)
def fX9_isByte (x0 : Nat) (x1 : Int32) (x2 : Int32) (x3 : Int32) (s : Hp) : Option (Int32 × Hp) :=
  (ck s x0 9).bind fun _ =>
  (gI s x0 9 6).bind fun v1 =>
  if v1 ≤ x1 then
  (fX9_isByte_b32 s)
  else ((gR s x0 9 5).bind fun v3 =>
  (aB s v3 x1).bind fun v4 =>
  if v4 < x2 then
  (fX9_isByte_b32 s)
  else ((gR s x0 9 5).bind fun v6 =>
  (aB s v6 x1).bind fun v7 =>
  if x3 < v7 then
  (fX9_isByte_b32 s)
  else (some ((iI 1), s))))
def fX9_next_b30 (x0 : Nat) (s : Hp) : Option ((Hp) ⊕ ((Hp))) :=
  (gI s x0 9 7).bind fun v4 =>
  (pI s x0 9 7 (v4 + (iI 1))).bind fun s5 =>
  some (.inl s5)
def fX9_next_l0 (x0 : Nat) : Hp → Option ((Hp) ⊕ ((Hp))) := fun a =>
  (gI a x0 9 7).bind fun v1 =>
  (fX9_isByte x0 v1 (iI 32) (iI 32) a).bind fun r2 =>
  if r2.1 = 0 then
  ((gI r2.2 x0 9 7).bind fun v6 =>
  (fX9_isByte x0 v6 (iI 10) (iI 10) r2.2).bind fun r7 =>
  if r7.1 = 0 then
  (some (.inr r7.2))
  else (fX9_next_b30 x0 r7.2))
  else (fX9_next_b30 x0 r2.2)
def fX9_next_b294 (x0 : Nat) (y0 : Nat) (y1 : Int32) (s : Hp) : Option (Hp) :=
  (pI s y0 9 8 y1).bind fun s27 =>
  (gI s27 x0 9 7).bind fun v28 =>
  (pI s27 x0 9 7 (v28 + (iI 1))).bind fun s29 =>
  some s29
def fX9_next_b258 (x0 : Nat) (y0 : Nat) (y1 : Int32) (s : Hp) : Option ((Hp) ⊕ ((Hp))) :=
  (pI s y0 9 10 y1).bind fun s40 =>
  (gI s40 x0 9 7).bind fun v41 =>
  (pI s40 x0 9 7 (v41 + (iI 1))).bind fun s42 =>
  some (.inl s42)
def fX9_next_l208 (x0 : Nat) : Hp → Option ((Hp) ⊕ ((Hp))) := fun a =>
  (gI a x0 9 7).bind fun v31 =>
  (fX9_isByte x0 v31 (iI 48) (iI 57) a).bind fun r32 =>
  if r32.1 = 0 then
  (some (.inr r32.2))
  else ((gI r32.2 x0 9 10).bind fun v34 =>
  if v34 ≤ (iI 100000) then
  ((gI r32.2 x0 9 10).bind fun v36 =>
  (gR r32.2 x0 9 5).bind fun v37 =>
  (gI r32.2 x0 9 7).bind fun v38 =>
  (aB r32.2 v37 v38).bind fun v39 =>
  fX9_next_b258 x0 x0 ((((iI 10) * v36) + v39) - (iI 48)) r32.2)
  else (fX9_next_b258 x0 x0 (iI 1000000) r32.2))
def fX9_next_b169 (x0 : Nat) (x1 : Int32) (s : Hp) : Option ((Int32 × Hp) ⊕ ((Hp))) :=
  (gI s x0 9 7).bind fun v55 =>
  (pI s x0 9 7 (v55 + (iI 1))).bind fun s56 =>
  some (.inl (x1 + iI 1, s56))
def fX9_next_b153 (x0 : Nat) (x1 : Int32) (y0 : Nat) (y1 : Int64) (s : Hp) : Option ((Int32 × Hp) ⊕ ((Hp))) :=
  (pL s y0 9 11 y1).bind fun s53 =>
  if x1 ≤ (iI 11) then
  (fX9_next_b169 x0 x1 s53)
  else ((pL s53 x0 9 11 (-1)).bind fun s57 =>
  fX9_next_b169 x0 x1 s57)
def fX9_next_l102 (x0 : Nat) : (Int32 × Hp) → Option ((Int32 × Hp) ⊕ ((Hp))) := fun a =>
  (gI a.2 x0 9 7).bind fun v45 =>
  (fX9_isByte x0 v45 (iI 97) (iI 122) a.2).bind fun r46 =>
  if r46.1 = 0 then
  (some (.inr r46.2))
  else (if a.1 ≤ (iI 11) then
  ((gL r46.2 x0 9 11).bind fun v49 =>
  (gR r46.2 x0 9 5).bind fun v50 =>
  (gI r46.2 x0 9 7).bind fun v51 =>
  (aB r46.2 v50 v51).bind fun v52 =>
  fX9_next_b153 x0 a.1 x0 (((27 * v49) + (Int32.toInt64 v52)) - 96) r46.2)
  else (fX9_next_b153 x0 a.1 x0 (-1) r46.2))
def fX9_next (x0 : Nat) (s : Hp) : Option (Hp) :=
  (ck s x0 9).bind fun _ =>
  (iter (fX9_next_l0 x0) FU s).bind fun r9 =>
  (gI r9 x0 9 7).bind fun v10 =>
  (pI r9 x0 9 9 v10).bind fun s11 =>
  (pI s11 x0 9 10 (iI 0)).bind fun s12 =>
  (pL s12 x0 9 11 0).bind fun s13 =>
  (gI s13 x0 9 7).bind fun v14 =>
  (gI s13 x0 9 6).bind fun v15 =>
  if v14 = v15 then
  ((pI s13 x0 9 8 (iI 0)).bind fun s59 =>
  some s59)
  else ((gI s13 x0 9 7).bind fun v17 =>
  (fX9_isByte x0 v17 (iI 97) (iI 122) s13).bind fun r18 =>
  if r18.1 = 0 then
  ((gI r18.2 x0 9 7).bind fun v20 =>
  (fX9_isByte x0 v20 (iI 48) (iI 57) r18.2).bind fun r21 =>
  if r21.1 = 0 then
  ((gR r21.2 x0 9 5).bind fun v23 =>
  (gI r21.2 x0 9 7).bind fun v24 =>
  (aB r21.2 v23 v24).bind fun v25 =>
  if v25 = (iI 59) then
  (fX9_next_b294 x0 x0 (iI 3) r21.2)
  else (fX9_next_b294 x0 x0 (iI 4) r21.2))
  else ((pI r21.2 x0 9 8 (iI 2)).bind fun s30 =>
  (iter (fX9_next_l208 x0) FU s30).bind fun r43 =>
  some r43))
  else ((pI r18.2 x0 9 8 (iI 1)).bind fun s44 =>
  (iter (fX9_next_l102 x0) FU ((iI 0), s44)).bind fun r58 =>
  some r58))
def fX9_isGood (x0 : Nat) (s : Hp) : Option (Int32 × Hp) :=
  (ck s x0 9).bind fun _ =>
  (gI s x0 9 12).bind fun v1 =>
  if v1 = 0 then
  (some ((iI 1), s))
  else (some ((iI 0), s))
def fX9_fails (x0 : Nat) (x1 : Int32) (s : Hp) : Option (Hp) :=
  (ck s x0 9).bind fun _ =>
  (gI s x0 9 12).bind fun v1 =>
  if v1 = 0 then
  ((pI s x0 9 12 x1).bind fun s3 =>
  (gI s3 x0 9 9).bind fun v4 =>
  (pI s3 x0 9 13 v4).bind fun s5 =>
  some s5)
  else (some s)
def fX9_is_b28 (s : Hp) : Option (Int32 × Hp) :=
  some ((iI 0), s)
def fX9_is (x0 : Nat) (x1 : Int64) (s : Hp) : Option (Int32 × Hp) :=
  (ck s x0 9).bind fun _ =>
  (gI s x0 9 12).bind fun v1 =>
  if v1 = 0 then
  ((gI s x0 9 8).bind fun v3 =>
  if v3 = (iI 1) then
  ((gL s x0 9 11).bind fun v5 =>
  if (lg_cmp v5 x1) = 0 then
  (some ((iI 1), s))
  else (fX9_is_b28 s))
  else (fX9_is_b28 s))
  else (fX9_is_b28 s)
def fX9_takes (x0 : Nat) (x1 : Int64) (s : Hp) : Option (Int32 × Hp) :=
  (ck s x0 9).bind fun _ =>
  (fX9_is x0 x1 s).bind fun r1 =>
  if r1.1 = 0 then
  (some ((iI 0), r1.2))
  else ((fX9_next x0 r1.2).bind fun s3 =>
  some ((iI 1), s3))
def fX9_asks (x0 : Nat) (x1 : Int64) (s : Hp) : Option (Hp) :=
  (ck s x0 9).bind fun _ =>
  (fX9_takes x0 x1 s).bind fun r1 =>
  if r1.1 = 0 then
  ((fX9_fails x0 (iI 1) r1.2).bind fun s3 =>
  some s3)
  else (some r1.2)
def fX9_number (x0 : Nat) (x1 : Int32) (x2 : Int32) (s : Hp) : Option (Int32 × Hp) :=
  (ck s x0 9).bind fun _ =>
  (gI s x0 9 12).bind fun v1 =>
  if v1 = 0 then
  ((gI s x0 9 8).bind fun v3 =>
  if v3 = (iI 2) then
  ((gI s x0 9 10).bind fun v5 =>
  (fX9_in (Int32.toInt64 v5) (Int32.toInt64 x1) (Int32.toInt64 x2) s).bind fun r6 =>
  if r6.1 = 0 then
  ((fX9_fails x0 (iI 2) r6.2).bind fun s10 =>
  some (x1, s10))
  else ((gI r6.2 x0 9 10).bind fun v8 =>
  (fX9_next x0 r6.2).bind fun s9 =>
  some (v8, s9)))
  else ((fX9_fails x0 (iI 1) s).bind fun s11 =>
  some (x1, s11)))
  else (some (x1, s))
def fX9_number_ (x0 : Nat) (x1 : Int64) (x3 : Int32) (x4 : Int32) (s : Hp) : Option (Int32 × Hp) :=
  (ck s x0 9).bind fun _ =>
  (fX9_asks x0 x1 s).bind fun s1 =>
  (fX9_number x0 x3 x4 s1).bind fun r2 =>
  some (r2.1, r2.2)
def fX9_ends_b13 (x0 : Nat) (s : Hp) : Option (Hp) :=
  (gI s x0 9 12).bind fun v3 =>
  if v3 = 0 then
  ((fX9_next x0 s).bind fun s5 =>
  some s5)
  else (some s)
def fX9_ends (x0 : Nat) (s : Hp) : Option (Hp) :=
  (ck s x0 9).bind fun _ =>
  (gI s x0 9 8).bind fun v1 =>
  if v1 = (iI 3) then
  (fX9_ends_b13 x0 s)
  else ((fX9_fails x0 (iI 1) s).bind fun s6 =>
  fX9_ends_b13 x0 s6)
def fX9_begins (x0 : Nat) (s : Hp) : Option (Hp) :=
  (ck s x0 9).bind fun _ =>
  (pI s x0 9 12 (iI 0)).bind fun s1 =>
  (pI s1 x0 9 13 (iI (-1))).bind fun s2 =>
  (pI s2 x0 9 7 (iI 0)).bind fun s3 =>
  (fX9_next x0 s3).bind fun s4 =>
  some s4
def fX9_isOver_b29 (y0 : Nat) (y1 : Int32) (s : Hp) : Option (Hp) :=
  (pI s y0 9 15 y1).bind fun s7 =>
  some s7
def fX9_isOver (x0 : Nat) (s : Hp) : Option (Hp) :=
  (ck s x0 9).bind fun _ =>
  (pI s x0 9 6 (iI 0)).bind fun s1 =>
  (gI s1 x0 9 12).bind fun v2 =>
  (pI s1 x0 9 14 v2).bind fun s3 =>
  (gI s3 x0 9 12).bind fun v4 =>
  if v4 = 0 then
  (fX9_isOver_b29 x0 (iI (-1)) s3)
  else ((gI s3 x0 9 13).bind fun v6 =>
  fX9_isOver_b29 x0 v6 s3)
def fX9_fault (x0 : Nat) (x1 : Int32) (s : Hp) : Option (Int32 × Hp) :=
  (ck s x0 9).bind fun _ =>
  (pI s x0 9 0 (iI 0)).bind fun s1 =>
  if x1 = 0 then
  ((gI s1 x0 9 14).bind fun v5 =>
  some (v5, s1))
  else (if x1 = (iI 1) then
  ((gI s1 x0 9 15).bind fun v4 =>
  some (v4, s1))
  else (some ((iI (-1)), s1)))
def fX9_hasRead (x0 : Nat) (x1 : Int32) (s : Hp) : Option (Int32 × Hp) :=
  (ck s x0 9).bind fun _ =>
  (gR s x0 9 17).bind fun v1 =>
  (aI s v1 ((iI 60) + x1)).bind fun v2 =>
  some (v2, s)
def fX9_reads (x0 : Nat) (x1 : Int32) (x2 : Int32) (s : Hp) : Option (Hp) :=
  (ck s x0 9).bind fun _ =>
  (gR s x0 9 17).bind fun v1 =>
  (sI s v1 ((iI 60) + x1) x2).bind fun s2 =>
  some s2
def fX9_first (x0 : Nat) (s : Hp) : Option (Hp) :=
  (ck s x0 9).bind fun _ =>
  (fX9_asks x0 316452499 s).bind fun s1 =>
  (fX9_number_ x0 459383 (iI 2) (iI 8) s1).bind fun r2 =>
  (fX9_reads x0 (iI 0) r2.1 r2.2).bind fun s3 =>
  (fX9_number_ x0 82528 (iI 2) (iI 8) s3).bind fun r4 =>
  (fX9_reads x0 (iI 1) r4.1 r4.2).bind fun s5 =>
  (fX9_number_ x0 173214550 (iI 2) (iI 5) s5).bind fun r6 =>
  (fX9_reads x0 (iI 2) r6.1 r6.2).bind fun s7 =>
  (fX9_number_ x0 4562587 (iI 1) (iI 24) s7).bind fun r8 =>
  (fX9_reads x0 (iI 3) r8.1 r8.2).bind fun s9 =>
  (fX9_number_ x0 1900846 (iI 0) (iI 24) s9).bind fun r10 =>
  (fX9_reads x0 (iI 4) r10.1 r10.2).bind fun s11 =>
  (fX9_reads x0 (iI 6) (iI 9) s11).bind fun s12 =>
  some s12
def fX9_xHere (x0 : Nat) (s : Hp) : Option (Int32 × Hp) :=
  (ck s x0 9).bind fun _ =>
  (fX9_hasRead x0 (iI 0) s).bind fun r1 =>
  (fX9_number x0 (iI 0) (r1.1 - (iI 1)) r1.2).bind fun r2 =>
  some (r2.1, r2.2)
def fX9_yHere (x0 : Nat) (s : Hp) : Option (Int32 × Hp) :=
  (ck s x0 9).bind fun _ =>
  (fX9_hasRead x0 (iI 1) s).bind fun r1 =>
  (fX9_number x0 (iI 0) (r1.1 - (iI 1)) r1.2).bind fun r2 =>
  some (r2.1, r2.2)
def fX9_hourHere (x0 : Nat) (s : Hp) : Option (Int32 × Hp) :=
  (ck s x0 9).bind fun _ =>
  (fX9_hasRead x0 (iI 3) s).bind fun r1 =>
  (fX9_number x0 (iI 0) (r1.1 - (iI 1)) r1.2).bind fun r2 =>
  some (r2.1, r2.2)
def fX9_windLine_b182 (x0 : Nat) (x1 : Int32) (x2 : Int32) (x3 : Int32) (x4 : Int32) (s : Hp) : Option ((Int32 × Hp) ⊕ ((Hp))) :=
  some (.inl (x4 + iI 1, s))
def fX9_windLine_l132 (x0 : Nat) (x1 : Int32) (x2 : Int32) (x3 : Int32) : (Int32 × Hp) → Option ((Int32 × Hp) ⊕ ((Hp))) := fun a =>
  if (iI 24) ≤ a.1 then
  (some (.inr a.2))
  else (lt_ (((iI 24) * x1) + a.1) fun z22 =>
  (gR a.2 x0 9 19).bind fun v23 =>
  (aI a.2 v23 z22).bind fun v24 =>
  if v24 ≤ x2 then
  ((gR a.2 x0 9 19).bind fun v26 =>
  (sI a.2 v26 z22 x2).bind fun s27 =>
  (gR s27 x0 9 18).bind fun v28 =>
  (sI s27 v28 ((iI 480) + z22) x3).bind fun s29 =>
  fX9_windLine_b182 x0 x1 x2 x3 a.1 s29)
  else (fX9_windLine_b182 x0 x1 x2 x3 a.1 a.2))
def fX9_windLine_b107 (x0 : Nat) (x1 : Int32) (x2 : Int32) (x3 : Int32) (s : Hp) : Option (Hp) :=
  (gI s x0 9 12).bind fun v16 =>
  if v16 = 0 then
  ((fX9_next x0 s).bind fun s18 =>
  (gI s18 x0 9 20).bind fun v19 =>
  (pI s18 x0 9 20 (v19 + (iI 1))).bind fun s20 =>
  (iter (fX9_windLine_l132 x0 x1 x2 x3) FU (x2, s20)).bind fun r30 =>
  some r30)
  else (some s)
def fX9_windLine_b96 (x0 : Nat) (x1 : Int32) (x2 : Int32) (y0 : Int32) (s : Hp) : Option (Hp) :=
  if y0 = (iI (-1)) then
  ((fX9_fails x0 (iI 1) s).bind fun s31 =>
  fX9_windLine_b107 x0 x1 x2 y0 s31)
  else (fX9_windLine_b107 x0 x1 x2 y0 s)
def fX9_windLine (x0 : Nat) (s : Hp) : Option (Hp) :=
  (ck s x0 9).bind fun _ =>
  (fX9_hasRead x0 (iI 2) s).bind fun r1 =>
  (fX9_number x0 (iI 1) (r1.1 - (iI 1)) r1.2).bind fun r2 =>
  (fX9_asks x0 131638 r2.2).bind fun s3 =>
  (fX9_hourHere x0 s3).bind fun r4 =>
  (fX9_is x0 10497936 r4.2).bind fun r5 =>
  if r5.1 = 0 then
  ((fX9_is x0 7749089 r5.2).bind fun r7 =>
  if r7.1 = 0 then
  ((fX9_is x0 99677 r7.2).bind fun r9 =>
  if r9.1 = 0 then
  ((fX9_is x0 10408481 r9.2).bind fun r11 =>
  if r11.1 = 0 then
  ((fX9_is x0 456887 r11.2).bind fun r13 =>
  if r13.1 = 0 then
  (fX9_windLine_b96 x0 r2.1 r4.1 (iI (-1)) r13.2)
  else (fX9_windLine_b96 x0 r2.1 r4.1 (iI 4) r13.2))
  else (fX9_windLine_b96 x0 r2.1 r4.1 (iI 3) r11.2))
  else (fX9_windLine_b96 x0 r2.1 r4.1 (iI 2) r9.2))
  else (fX9_windLine_b96 x0 r2.1 r4.1 (iI 1) r7.2))
  else (fX9_windLine_b96 x0 r2.1 r4.1 (iI 0) r5.2)
def fX9_shopLine_l118 (x0 : Nat) : (Int32 × Hp) → Option ((Int32 × Hp) ⊕ ((Hp))) := fun a =>
  if (iI 24) ≤ a.1 then
  (some (.inr a.2))
  else ((gR a.2 x0 9 23).bind fun v24 =>
  (fX9_hasRead x0 (iI 7) a.2).bind fun r25 =>
  (sI r25.2 v24 (((iI 24) * ((iI 16) + r25.1)) + a.1) (iI 0)).bind fun s26 =>
  some (.inl (a.1 + iI 1, s26)))
def fX9_shopLine (x0 : Nat) (s : Hp) : Option (Hp) :=
  (ck s x0 9).bind fun _ =>
  (fX9_hasRead x0 (iI 7) s).bind fun r1 =>
  lt_ ((iI 6) * ((iI 16) + r1.1)) fun z2 =>
  (fX9_asks x0 47 r1.2).bind fun s3 =>
  (gR s3 x0 9 21).bind fun v4 =>
  (fX9_xHere x0 s3).bind fun r5 =>
  (sI r5.2 v4 z2 r5.1).bind fun s6 =>
  (gR s6 x0 9 21).bind fun v7 =>
  (fX9_yHere x0 s6).bind fun r8 =>
  (sI r8.2 v7 (z2 + (iI 1)) r8.1).bind fun s9 =>
  (gR s9 x0 9 21).bind fun v10 =>
  (fX9_hasRead x0 (iI 2) s9).bind fun r11 =>
  (fX9_number x0 (iI 0) (r11.1 - (iI 1)) r11.2).bind fun r12 =>
  (sI r12.2 v10 (z2 + (iI 2)) r12.1).bind fun s13 =>
  (gR s13 x0 9 21).bind fun v14 =>
  (fX9_number_ x0 375088 (iI 0) (iI 9) s13).bind fun r15 =>
  (sI r15.2 v14 (z2 + (iI 3)) r15.1).bind fun s16 =>
  (gR s16 x0 9 21).bind fun v17 =>
  (fX9_number_ x0 5149 (iI 0) (iI 9) s16).bind fun r18 =>
  (sI r18.2 v17 (z2 + (iI 4)) r18.1).bind fun s19 =>
  (gR s19 x0 9 21).bind fun v20 =>
  (fX9_number_ x0 4026394 (iI 0) (iI 9) s19).bind fun r21 =>
  (sI r21.2 v20 (z2 + (iI 5)) r21.1).bind fun s22 =>
  (iter (fX9_shopLine_l118 x0) FU ((iI 0), s22)).bind fun r27 =>
  (fX9_hasRead x0 (iI 7) r27).bind fun r28 =>
  (fX9_reads x0 (iI 7) (r28.1 + (iI 1)) r28.2).bind fun s29 =>
  some s29
def fX9_doorLine_b119 (x0 : Nat) (x1 : Int32) (s : Hp) : Option (Hp) :=
  (gR s x0 9 22).bind fun v9 =>
  (fX9_yHere x0 s).bind fun r10 =>
  (sI r10.2 v9 (x1 + (iI 1)) r10.1).bind fun s11 =>
  (gR s11 x0 9 22).bind fun v12 =>
  (fX9_number_ x0 12253591 (iI 0) (iI 9) s11).bind fun r13 =>
  (sI r13.2 v12 (x1 + (iI 2)) r13.1).bind fun s14 =>
  (fX9_hasRead x0 (iI 8) s14).bind fun r15 =>
  (fX9_reads x0 (iI 8) (r15.1 + (iI 1)) r15.2).bind fun s16 =>
  some s16
def fX9_doorLine_b113 (x0 : Nat) (x1 : Int32) (x2 : Int32) (s : Hp) : Option ((Int32 × Hp) ⊕ ((Hp))) :=
  some (.inl (x2 + iI 1, s))
def fX9_doorLine_l58 (x0 : Nat) (x1 : Int32) : (Int32 × Hp) → Option ((Int32 × Hp) ⊕ ((Hp))) := fun a =>
  (fX9_hasRead x0 (iI 8) a.2).bind fun r22 =>
  if r22.1 ≤ a.1 then
  (some (.inr r22.2))
  else ((gR r22.2 x0 9 22).bind fun v24 =>
  (aI r22.2 v24 ((iI 3) * ((iI 20) + a.1))).bind fun v25 =>
  (gR r22.2 x0 9 22).bind fun v26 =>
  (aI r22.2 v26 x1).bind fun v27 =>
  if v25 = v27 then
  ((gR r22.2 x0 9 22).bind fun v29 =>
  (aI r22.2 v29 (((iI 3) * ((iI 20) + a.1)) + (iI 1))).bind fun v30 =>
  (gI r22.2 x0 9 10).bind fun v31 =>
  if v30 = v31 then
  ((fX9_fails x0 (iI 2) r22.2).bind fun s33 =>
  fX9_doorLine_b113 x0 x1 a.1 s33)
  else (fX9_doorLine_b113 x0 x1 a.1 r22.2))
  else (fX9_doorLine_b113 x0 x1 a.1 r22.2))
def fX9_doorLine (x0 : Nat) (s : Hp) : Option (Hp) :=
  (ck s x0 9).bind fun _ =>
  (fX9_hasRead x0 (iI 8) s).bind fun r1 =>
  lt_ ((iI 3) * ((iI 20) + r1.1)) fun z2 =>
  (fX9_asks x0 47 r1.2).bind fun s3 =>
  (gR s3 x0 9 22).bind fun v4 =>
  (fX9_xHere x0 s3).bind fun r5 =>
  (sI r5.2 v4 z2 r5.1).bind fun s6 =>
  (gI s6 x0 9 12).bind fun v7 =>
  if v7 = 0 then
  ((gI s6 x0 9 8).bind fun v17 =>
  if v17 = (iI 2) then
  ((gI s6 x0 9 10).bind fun v19 =>
  (fX9_hasRead x0 (iI 1) s6).bind fun r20 =>
  if r20.1 ≤ v19 then
  (fX9_doorLine_b119 x0 z2 r20.2)
  else ((iter (fX9_doorLine_l58 x0 z2) FU ((iI 0), r20.2)).bind fun r34 =>
  fX9_doorLine_b119 x0 z2 r34))
  else (fX9_doorLine_b119 x0 z2 s6))
  else (fX9_doorLine_b119 x0 z2 s6)
def fX9_fairLine (x0 : Nat) (s : Hp) : Option (Hp) :=
  (ck s x0 9).bind fun _ =>
  (fX9_asks x0 47 s).bind fun s1 =>
  (fX9_xHere x0 s1).bind fun r2 =>
  (fX9_yHere x0 r2.2).bind fun r3 =>
  (fX9_asks x0 131638 r3.2).bind fun s4 =>
  (fX9_hourHere x0 s4).bind fun r5 =>
  (fX9_hasRead x0 (iI 3) r5.2).bind fun r6 =>
  (fX9_number_ x0 555 r5.1 (r6.1 - (iI 1)) r6.2).bind fun r7 =>
  (gI r7.2 x0 9 12).bind fun v8 =>
  if v8 = 0 then
  ((fX9_reads x0 (iI 9) (iI 1) r7.2).bind fun s10 =>
  (fX9_reads x0 (iI 10) r2.1 s10).bind fun s11 =>
  (fX9_reads x0 (iI 11) r3.1 s11).bind fun s12 =>
  (fX9_reads x0 (iI 12) r5.1 s12).bind fun s13 =>
  (fX9_reads x0 (iI 13) r7.1 s13).bind fun s14 =>
  some s14)
  else (some r7.2)
def fX9_planLine_b59 (x0 : Nat) (x1 : Int32) (x2 : Int32) (x3 : Int32) (s : Hp) : Option (Hp) :=
  (gI s x0 9 12).bind fun v9 =>
  if v9 = 0 then
  ((fX9_next x0 s).bind fun s11 =>
  (gR s11 x0 9 23).bind fun v12 =>
  (sI s11 v12 (((iI 24) * ((iI 16) + x1)) + x2) x3).bind fun s13 =>
  some s13)
  else (some s)
def fX9_planLine_b48 (x0 : Nat) (x1 : Int32) (x2 : Int32) (y0 : Int32) (s : Hp) : Option (Hp) :=
  if y0 = (iI (-1)) then
  ((fX9_fails x0 (iI 1) s).bind fun s14 =>
  fX9_planLine_b59 x0 x1 x2 y0 s14)
  else (fX9_planLine_b59 x0 x1 x2 y0 s)
def fX9_planLine (x0 : Nat) (s : Hp) : Option (Hp) :=
  (ck s x0 9).bind fun _ =>
  (fX9_hasRead x0 (iI 7) s).bind fun r1 =>
  (fX9_number x0 (iI 0) (r1.1 - (iI 1)) r1.2).bind fun r2 =>
  (fX9_hourHere x0 r2.2).bind fun r3 =>
  (fX9_is x0 9757090 r3.2).bind fun r4 =>
  if r4.1 = 0 then
  ((fX9_is x0 10285048 r4.2).bind fun r6 =>
  if r6.1 = 0 then
  (fX9_planLine_b48 x0 r2.1 r3.1 (iI (-1)) r6.2)
  else (fX9_planLine_b48 x0 r2.1 r3.1 (iI 2) r6.2))
  else (fX9_planLine_b48 x0 r2.1 r3.1 (iI 1) r4.2)
def fX9_line_b90 (x0 : Nat) (x1 : Int32) (x2 : Int32) (s : Hp) : Option (Hp) :=
  (fX9_next x0 s).bind fun s10 =>
  if x1 = 0 then
  (if x2 = 0 then
  ((fX9_doorLine x0 s10).bind fun s13 =>
  some s13)
  else ((fX9_shopLine x0 s10).bind fun s14 =>
  some s14))
  else ((fX9_windLine x0 s10).bind fun s15 =>
  some s15)
def fX9_line_b70 (x0 : Nat) (x1 : Int32) (x2 : Int32) (x3 : Int32) (s : Hp) : Option (Hp) :=
  (gI s x0 9 12).bind fun v7 =>
  if v7 = 0 then
  (if x1 = 0 then
  (if x2 = 0 then
  (if x3 = 0 then
  ((fX9_takes x0 10204885 s).bind fun r18 =>
  if r18.1 = 0 then
  ((fX9_takes x0 119088 r18.2).bind fun r20 =>
  if r20.1 = 0 then
  ((fX9_asks x0 323717 r20.2).bind fun s22 =>
  (fX9_planLine x0 s22).bind fun s23 =>
  some s23)
  else ((fX9_fairLine x0 r20.2).bind fun s24 =>
  some s24))
  else ((fX9_hasRead x0 (iI 2) r18.2).bind fun r25 =>
  (fX9_number_ x0 335207579 (iI 0) (r25.1 - (iI 1)) r25.2).bind fun r26 =>
  (fX9_number_ x0 8863997 (iI 0) (iI 99) r26.2).bind fun r27 =>
  (fX9_reads x0 (iI 5) r26.1 r27.2).bind fun s28 =>
  (fX9_reads x0 (iI 6) r27.1 s28).bind fun s29 =>
  some s29))
  else (fX9_line_b90 x0 x1 x2 s))
  else (fX9_line_b90 x0 x1 x2 s))
  else (fX9_line_b90 x0 x1 x2 s))
  else (some s)
def fX9_line_b65 (x0 : Nat) (x1 : Int32) (x2 : Int32) (x3 : Int32) (s : Hp) : Option (Hp) :=
  (fX9_fails x0 (iI 3) s).bind fun s32 =>
  fX9_line_b70 x0 x1 x2 x3 s32
def fX9_line_b51 (x0 : Nat) (x1 : Int32) (x2 : Int32) (x3 : Int32) (s : Hp) : Option (Hp) :=
  if x3 = 0 then
  (fX9_line_b70 x0 x1 x2 x3 s)
  else ((fX9_hasRead x0 (iI 8) s).bind fun r30 =>
  if r30.1 = (iI 5) then
  (fX9_line_b65 x0 x1 x2 x3 r30.2)
  else (fX9_line_b70 x0 x1 x2 x3 r30.2))
def fX9_line_b37 (x0 : Nat) (x1 : Int32) (x2 : Int32) (x3 : Int32) (s : Hp) : Option (Hp) :=
  if x2 = 0 then
  (fX9_line_b51 x0 x1 x2 x3 s)
  else ((fX9_hasRead x0 (iI 7) s).bind fun r33 =>
  if r33.1 = (iI 4) then
  (fX9_line_b65 x0 x1 x2 x3 r33.2)
  else (fX9_line_b51 x0 x1 x2 x3 r33.2))
def fX9_line (x0 : Nat) (s : Hp) : Option (Hp) :=
  (ck s x0 9).bind fun _ =>
  (fX9_is x0 459652 s).bind fun r1 =>
  (fX9_is x0 380230 r1.2).bind fun r2 =>
  (fX9_is x0 90090 r2.2).bind fun r3 =>
  if r1.1 = 0 then
  (fX9_line_b37 x0 r1.1 r2.1 r3.1 r3.2)
  else ((gI r3.2 x0 9 20).bind fun v35 =>
  if v35 = (iI 20) then
  (fX9_line_b65 x0 r1.1 r2.1 r3.1 r3.2)
  else (fX9_line_b37 x0 r1.1 r2.1 r3.1 r3.2))
def fX9_clears_l14 (x0 : Nat) : (Int32 × Hp) → Option ((Int32 × Hp) ⊕ ((Hp))) := fun a =>
  if (iI 15) ≤ a.1 then
  (some (.inr a.2))
  else ((fX9_reads x0 a.1 (iI 0) a.2).bind fun s5 =>
  some (.inl (a.1 + iI 1, s5)))
def fX9_clears_l34 (x0 : Nat) : (Int32 × Hp) → Option ((Int32 × Hp) ⊕ ((Hp))) := fun a =>
  if (iI 120) ≤ a.1 then
  (some (.inr a.2))
  else ((gR a.2 x0 9 18).bind fun v8 =>
  (sI a.2 v8 ((iI 480) + a.1) (iI 0)).bind fun s9 =>
  (gR s9 x0 9 19).bind fun v10 =>
  (sI s9 v10 a.1 (iI (-1))).bind fun s11 =>
  some (.inl (a.1 + iI 1, s11)))
def fX9_clears (x0 : Nat) (s : Hp) : Option (Hp) :=
  (ck s x0 9).bind fun _ =>
  (gR s x0 9 16).bind fun v1 =>
  (sI s v1 (iI 4) (iI 0)).bind fun s2 =>
  (pI s2 x0 9 20 (iI 0)).bind fun s3 =>
  (iter (fX9_clears_l14 x0) FU ((iI 0), s3)).bind fun r6 =>
  (iter (fX9_clears_l34 x0) FU ((iI 0), r6)).bind fun r12 =>
  some r12
def fX9_copyRow_l3 (x0 : Nat) (x1 : Int32) (x2 : Int32) (x3 : Int32) : (Int32 × Hp) → Option ((Int32 × Hp) ⊕ ((Hp))) := fun a =>
  if x1 ≤ a.1 then
  (some (.inr a.2))
  else ((aI a.2 x0 ((x1 * x2) + a.1)).bind fun v2 =>
  (sI a.2 x0 ((x1 * x3) + a.1) v2).bind fun s3 =>
  some (.inl (a.1 + iI 1, s3)))
def fX9_copyRow (x0 : Nat) (x1 : Int32) (x2 : Int32) (x3 : Int32) (s : Hp) : Option (Hp) :=
  (iter (fX9_copyRow_l3 x0 x1 x2 x3) FU ((iI 0), s)).bind fun r4 =>
  some r4
def fX9_copyValley (x0 : Nat) (x1 : Int32) (x2 : Int32) (s : Hp) : Option (Hp) :=
  (ck s x0 9).bind fun _ =>
  (gR s x0 9 16).bind fun v1 =>
  (fX9_copyRow v1 (iI 1) x1 x2 s).bind fun s2 =>
  (gR s2 x0 9 17).bind fun v3 =>
  (fX9_copyRow v3 (iI 15) x1 x2 s2).bind fun s4 =>
  (gR s4 x0 9 18).bind fun v5 =>
  (fX9_copyRow v5 (iI 120) x1 x2 s4).bind fun s6 =>
  (gR s6 x0 9 21).bind fun v7 =>
  (fX9_copyRow v7 (iI 24) x1 x2 s6).bind fun s8 =>
  (gR s8 x0 9 22).bind fun v9 =>
  (fX9_copyRow v9 (iI 15) x1 x2 s8).bind fun s10 =>
  (gR s10 x0 9 23).bind fun v11 =>
  (fX9_copyRow v11 (iI 96) x1 x2 s10).bind fun s12 =>
  (gR s12 x0 9 24).bind fun v13 =>
  (fX9_copyRow v13 (iI 240) x1 x2 s12).bind fun s14 =>
  some s14
def fX9_valley_b58 (x0 : Nat) (s : Hp) : Option ((Hp) ⊕ ((Hp))) :=
  (gR s x0 9 16).bind fun v14 =>
  (aI s v14 (iI 4)).bind fun v15 =>
  (sI s v14 (iI 4) (v15 + (iI 1))).bind fun s16 =>
  some (.inl s16)
def fX9_valley_b47 (x0 : Nat) (s : Hp) : Option ((Hp) ⊕ ((Hp))) :=
  (fX9_isGood x0 s).bind fun r12 =>
  if r12.1 = 0 then
  (fX9_valley_b58 x0 r12.2)
  else ((fX9_ends x0 r12.2).bind fun s17 =>
  fX9_valley_b58 x0 s17)
def fX9_valley_l13 (x0 : Nat) : Hp → Option ((Hp) ⊕ ((Hp))) := fun a =>
  (fX9_isGood x0 a).bind fun r4 =>
  if r4.1 = 0 then
  (some (.inr r4.2))
  else ((gI r4.2 x0 9 8).bind fun v6 =>
  if v6 = 0 then
  (some (.inr r4.2))
  else ((gR r4.2 x0 9 16).bind fun v8 =>
  (aI r4.2 v8 (iI 4)).bind fun v9 =>
  if v9 = 0 then
  ((fX9_first x0 r4.2).bind fun s18 =>
  fX9_valley_b47 x0 s18)
  else ((fX9_line x0 r4.2).bind fun s11 =>
  fX9_valley_b47 x0 s11)))
def fX9_valley_b71 (x0 : Nat) (s : Hp) : Option (Int32 × Hp) :=
  (fX9_isOver x0 s).bind fun s20 =>
  (gI s20 x0 9 12).bind fun v21 =>
  if v21 = 0 then
  ((fX9_copyValley x0 (iI 4) (iI 0) s20).bind fun s23 =>
  (gR s23 x0 9 16).bind fun v24 =>
  (aI s23 v24 (iI 0)).bind fun v25 =>
  some (v25, s23))
  else (some ((iI (-4)), s20))
def fX9_valley (x0 : Nat) (s : Hp) : Option (Int32 × Hp) :=
  (ck s x0 9).bind fun _ =>
  (pI s x0 9 0 (iI 0)).bind fun s1 =>
  (fX9_clears x0 s1).bind fun s2 =>
  (fX9_begins x0 s2).bind fun s3 =>
  (iter (fX9_valley_l13 x0) FU s3).bind fun r19 =>
  fX9_valley_b71 x0 r19
def fX9_isValley (x0 : Nat) (s : Hp) : Option (Int32 × Hp) :=
  (ck s x0 9).bind fun _ =>
  (gR s x0 9 16).bind fun v1 =>
  (aI s v1 (iI 0)).bind fun v2 =>
  if v2 ≤ 0 then
  (some ((iI 0), s))
  else (some ((iI 1), s))
def fX9_isColumn_b38 (s : Hp) : Option (Int32 × Hp) :=
  some ((iI 0), s)
def fX9_isColumn (x0 : Nat) (x1 : Int64) (x3 : Int64) (s : Hp) : Option (Int32 × Hp) :=
  (ck s x0 9).bind fun _ =>
  (gR s x0 9 17).bind fun v1 =>
  (aI s v1 (iI 0)).bind fun v2 =>
  (fX9_in x1 0 ((Int32.toInt64 v2) - 1) s).bind fun r3 =>
  if r3.1 = 0 then
  (fX9_isColumn_b38 r3.2)
  else ((gR r3.2 x0 9 17).bind fun v5 =>
  (aI r3.2 v5 (iI 1)).bind fun v6 =>
  (fX9_in x3 0 ((Int32.toInt64 v6) - 1) r3.2).bind fun r7 =>
  if r7.1 = 0 then
  (fX9_isColumn_b38 r7.2)
  else (some ((iI 1), r7.2)))
def fX9_isLayer (x0 : Nat) (x1 : Int32) (s : Hp) : Option (Int32 × Hp) :=
  (ck s x0 9).bind fun _ =>
  (gR s x0 9 17).bind fun v1 =>
  (aI s v1 (iI 2)).bind fun v2 =>
  (fX9_in (Int32.toInt64 x1) 0 (Int32.toInt64 (v2 - (iI 1))) s).bind fun r3 =>
  (rZ r3.1).bind fun _ => some (r3.1, r3.2)
def fX9_isHour (x0 : Nat) (x1 : Int64) (s : Hp) : Option (Int32 × Hp) :=
  (ck s x0 9).bind fun _ =>
  (gR s x0 9 17).bind fun v1 =>
  (aI s v1 (iI 3)).bind fun v2 =>
  (fX9_in x1 0 ((Int32.toInt64 v2) - 1) s).bind fun r3 =>
  (rZ r3.1).bind fun _ => some (r3.1, r3.2)
def fX9_isShop (x0 : Nat) (x1 : Int32) (s : Hp) : Option (Int32 × Hp) :=
  (ck s x0 9).bind fun _ =>
  (gR s x0 9 17).bind fun v1 =>
  (aI s v1 (iI 7)).bind fun v2 =>
  (fX9_in (Int32.toInt64 x1) 0 (Int32.toInt64 (v2 - (iI 1))) s).bind fun r3 =>
  (rZ r3.1).bind fun _ => some (r3.1, r3.2)
def fX9_isDoor (x0 : Nat) (x1 : Int32) (s : Hp) : Option (Int32 × Hp) :=
  (ck s x0 9).bind fun _ =>
  (gR s x0 9 17).bind fun v1 =>
  (aI s v1 (iI 8)).bind fun v2 =>
  (fX9_in (Int32.toInt64 x1) 0 (Int32.toInt64 (v2 - (iI 1))) s).bind fun r3 =>
  (rZ r3.1).bind fun _ => some (r3.1, r3.2)
def fX9_isWind (x0 : Int64) (s : Hp) : Option (Int32 × Hp) :=
  (fX9_in x0 0 4 s).bind fun r1 =>
  (rZ r1.1).bind fun _ => some (r1.1, r1.2)
def fX9_isAct (x0 : Int32) (s : Hp) : Option (Int32 × Hp) :=
  (fX9_in (Int32.toInt64 x0) 0 2 s).bind fun r1 =>
  (rZ r1.1).bind fun _ => some (r1.1, r1.2)
def fX9_isBit (x0 : Int32) (x1 : Int32) (s : Hp) : Option (Int32 × Hp) :=
  if ((isr x0 x1) &&& (iI 1)) = (iI 1) then
  (some ((iI 1), s))
  else (some ((iI 0), s))
def fX9_sizeOf_l4  : (Int32 × Int32 × Hp) → Option ((Int32 × Int32 × Hp) ⊕ ((Int32 × Hp))) := fun a =>
  if a.2.1 = 0 then
  (some (.inr (a.1, a.2.2)))
  else (lt_ (a.2.1 &&& (a.2.1 - (iI 1))) fun z2 =>
  some (.inl (a.1 + iI 1, z2, a.2.2)))
def fX9_sizeOf (x0 : Int32) (s : Hp) : Option (Int32 × Hp) :=
  (iter fX9_sizeOf_l4 FU ((iI 0), x0, s)).bind fun r3 =>
  some (r3.1, r3.2)
def fX9_windOf (x0 : Nat) (x1 : Int32) (x2 : Int32) (s : Hp) : Option (Int32 × Hp) :=
  (ck s x0 9).bind fun _ =>
  (gR s x0 9 18).bind fun v1 =>
  (aI s v1 (((iI 24) * x1) + x2)).bind fun v2 =>
  some (v2, s)
def fX9_wind_b31 (s : Hp) : Option (Int32 × Hp) :=
  some ((iI (-2)), s)
def fX9_wind (x0 : Nat) (x1 : Int32) (x2 : Int32) (s : Hp) : Option (Int32 × Hp) :=
  (ck s x0 9).bind fun _ =>
  (pI s x0 9 0 (iI 0)).bind fun s1 =>
  (fX9_isLayer x0 x1 s1).bind fun r2 =>
  if r2.1 = 0 then
  (fX9_wind_b31 r2.2)
  else ((fX9_isHour x0 (Int32.toInt64 x2) r2.2).bind fun r4 =>
  if r4.1 = 0 then
  (fX9_wind_b31 r4.2)
  else ((fX9_windOf x0 x1 x2 r4.2).bind fun r6 =>
  some (r6.1, r6.2)))
def fX9_often_b21 (s : Hp) : Option (Int32 × Hp) :=
  some ((iI (-2)), s)
def fX9_often_b57 (x0 : Nat) (x1 : Int32) (x2 : Int32) (x4 : Int32) (y0 : Int32) (y1 : Int32) (s : Hp) : Option ((Int32 × Int32 × Hp) ⊕ ((Int32 × Hp))) :=
  lt_ (y0 + y1) fun z11 =>
  some (.inl (z11, x4 + iI 1, s))
def fX9_often_l29 (x0 : Nat) (x1 : Int32) (x2 : Int32) : (Int32 × Int32 × Hp) → Option ((Int32 × Int32 × Hp) ⊕ ((Int32 × Hp))) := fun a =>
  (gR a.2.2 x0 9 17).bind fun v6 =>
  (aI a.2.2 v6 (iI 3)).bind fun v7 =>
  if v7 ≤ a.2.1 then
  (some (.inr (a.1, a.2.2)))
  else ((fX9_windOf x0 x1 a.2.1 a.2.2).bind fun r9 =>
  if r9.1 = x2 then
  (fX9_often_b57 x0 x1 x2 a.2.1 a.1 (iI 1) r9.2)
  else (fX9_often_b57 x0 x1 x2 a.2.1 a.1 (iI 0) r9.2))
def fX9_often (x0 : Nat) (x1 : Int32) (x2 : Int32) (s : Hp) : Option (Int32 × Hp) :=
  (ck s x0 9).bind fun _ =>
  (pI s x0 9 0 (iI 0)).bind fun s1 =>
  (fX9_isLayer x0 x1 s1).bind fun r2 =>
  if r2.1 = 0 then
  (fX9_often_b21 r2.2)
  else ((fX9_isWind (Int32.toInt64 x2) r2.2).bind fun r4 =>
  if r4.1 = 0 then
  (fX9_often_b21 r4.2)
  else ((iter (fX9_often_l29 x0 x1 x2) FU ((iI 0), (iI 0), r4.2)).bind fun r12 =>
  some (r12.1, r12.2)))
def fX9_shop_b39 (s : Hp) : Option (Int32 × Hp) :=
  some ((iI (-2)), s)
def fX9_shop (x0 : Nat) (x1 : Int32) (x2 : Int32) (s : Hp) : Option (Int32 × Hp) :=
  (ck s x0 9).bind fun _ =>
  (pI s x0 9 0 (iI 0)).bind fun s1 =>
  (fX9_isShop x0 x1 s1).bind fun r2 =>
  if r2.1 = 0 then
  (fX9_shop_b39 r2.2)
  else ((fX9_in (Int32.toInt64 x2) 0 5 r2.2).bind fun r4 =>
  if r4.1 = 0 then
  (fX9_shop_b39 r4.2)
  else ((gR r4.2 x0 9 21).bind fun v6 =>
  (aI r4.2 v6 (((iI 6) * x1) + x2)).bind fun v7 =>
  some (v7, r4.2)))
def fX9_act_b36 (s : Hp) : Option (Int32 × Hp) :=
  some ((iI (-2)), s)
def fX9_act (x0 : Nat) (x1 : Int32) (x2 : Int32) (s : Hp) : Option (Int32 × Hp) :=
  (ck s x0 9).bind fun _ =>
  (pI s x0 9 0 (iI 0)).bind fun s1 =>
  (fX9_isShop x0 x1 s1).bind fun r2 =>
  if r2.1 = 0 then
  (fX9_act_b36 r2.2)
  else ((fX9_isHour x0 (Int32.toInt64 x2) r2.2).bind fun r4 =>
  if r4.1 = 0 then
  (fX9_act_b36 r4.2)
  else ((gR r4.2 x0 9 23).bind fun v6 =>
  (aI r4.2 v6 (((iI 24) * x1) + x2)).bind fun v7 =>
  some (v7, r4.2)))
def fX9_plan_b29 (s : Hp) : Option (Int32 × Hp) :=
  some ((iI (-2)), s)
def fX9_plan (x0 : Nat) (x1 : Int32) (x2 : Int32) (x3 : Int32) (s : Hp) : Option (Int32 × Hp) :=
  (ck s x0 9).bind fun _ =>
  (pI s x0 9 0 (iI 0)).bind fun s1 =>
  (fX9_isShop x0 x1 s1).bind fun r2 =>
  if r2.1 = 0 then
  (fX9_plan_b29 r2.2)
  else ((fX9_isHour x0 (Int32.toInt64 x2) r2.2).bind fun r4 =>
  if r4.1 = 0 then
  (fX9_plan_b29 r4.2)
  else ((fX9_isAct x3 r4.2).bind fun r6 =>
  if r6.1 = 0 then
  (fX9_plan_b29 r6.2)
  else ((gR r6.2 x0 9 17).bind fun v8 =>
  (aI r6.2 v8 (iI 14)).bind fun v9 =>
  if v9 = (iI 60) then
  (some ((iI (-5)), r6.2))
  else ((gR r6.2 x0 9 23).bind fun v11 =>
  (aI r6.2 v11 (((iI 24) * x1) + x2)).bind fun v12 =>
  (gR r6.2 x0 9 24).bind fun v13 =>
  (sI r6.2 v13 ((iI 4) * v9) x1).bind fun s14 =>
  (gR s14 x0 9 24).bind fun v15 =>
  (sI s14 v15 (((iI 4) * v9) + (iI 1)) x2).bind fun s16 =>
  (gR s16 x0 9 24).bind fun v17 =>
  (sI s16 v17 (((iI 4) * v9) + (iI 2)) x3).bind fun s18 =>
  (gR s18 x0 9 24).bind fun v19 =>
  (sI s18 v19 (((iI 4) * v9) + (iI 3)) v12).bind fun s20 =>
  (gR s20 x0 9 23).bind fun v21 =>
  (sI s20 v21 (((iI 24) * x1) + x2) x3).bind fun s22 =>
  (gR s22 x0 9 17).bind fun v23 =>
  (aI s22 v23 (iI 14)).bind fun v24 =>
  (sI s22 v23 (iI 14) (v24 + (iI 1))).bind fun s25 =>
  some (v12, s25)))))
def fX9_undo (x0 : Nat) (s : Hp) : Option (Int32 × Hp) :=
  (ck s x0 9).bind fun _ =>
  (pI s x0 9 0 (iI 0)).bind fun s1 =>
  (fX9_isValley x0 s1).bind fun r2 =>
  if r2.1 = 0 then
  (some ((iI (-2)), r2.2))
  else ((gR r2.2 x0 9 17).bind fun v4 =>
  (aI r2.2 v4 (iI 14)).bind fun v5 =>
  if v5 = 0 then
  (some ((iI (-5)), r2.2))
  else ((gR r2.2 x0 9 17).bind fun v7 =>
  (aI r2.2 v7 (iI 14)).bind fun v8 =>
  (sI r2.2 v7 (iI 14) (v8 - (iI 1))).bind fun s9 =>
  (gR s9 x0 9 17).bind fun v10 =>
  (aI s9 v10 (iI 14)).bind fun v11 =>
  lt_ ((iI 4) * v11) fun z12 =>
  (gR s9 x0 9 23).bind fun v13 =>
  (gR s9 x0 9 24).bind fun v14 =>
  (aI s9 v14 z12).bind fun v15 =>
  (gR s9 x0 9 24).bind fun v16 =>
  (aI s9 v16 (z12 + (iI 1))).bind fun v17 =>
  (gR s9 x0 9 24).bind fun v18 =>
  (aI s9 v18 (z12 + (iI 3))).bind fun v19 =>
  (sI s9 v13 (((iI 24) * v15) + v17) v19).bind fun s20 =>
  (gR s20 x0 9 17).bind fun v21 =>
  (aI s20 v21 (iI 14)).bind fun v22 =>
  some (v22, s20)))
def fX9_changed_b24 (s : Hp) : Option (Int32 × Hp) :=
  some ((iI (-2)), s)
def fX9_changed (x0 : Nat) (x1 : Int32) (x2 : Int32) (s : Hp) : Option (Int32 × Hp) :=
  (ck s x0 9).bind fun _ =>
  (pI s x0 9 0 (iI 0)).bind fun s1 =>
  (fX9_isValley x0 s1).bind fun r2 =>
  if r2.1 = 0 then
  (fX9_changed_b24 r2.2)
  else ((fX9_in (Int32.toInt64 x2) 0 3 r2.2).bind fun r4 =>
  if r4.1 = 0 then
  (fX9_changed_b24 r4.2)
  else ((gR r4.2 x0 9 17).bind fun v6 =>
  (aI r4.2 v6 (iI 14)).bind fun v7 =>
  (fX9_in (Int32.toInt64 x1) 0 (Int32.toInt64 (v7 - (iI 1))) r4.2).bind fun r8 =>
  if r8.1 = 0 then
  (some ((iI (-1)), r8.2))
  else ((gR r8.2 x0 9 24).bind fun v10 =>
  (aI r8.2 v10 (((iI 4) * x1) + x2)).bind fun v11 =>
  some (v11, r8.2))))
def fX9_carries_b65 (s : Hp) : Option (Int32 × Hp) :=
  some ((iI 0), s)
def fX9_carries_b48 (x0 : Nat) (x1 : Int32) (x2 : Int32) (y0 : Int32) (y1 : Int32) (s : Hp) : Option (Int32 × Hp) :=
  lt_ (y0 + y1) fun z8 =>
  if x1 = 0 then
  (fX9_carries_b65 s)
  else ((fX9_isColumn x0 (Int32.toInt64 x2) (Int32.toInt64 z8) s).bind fun r10 =>
  if r10.1 = 0 then
  (fX9_carries_b65 r10.2)
  else ((pI r10.2 x0 9 26 x2).bind fun s12 =>
  (pI s12 x0 9 27 z8).bind fun s13 =>
  some ((iI 1), s13)))
def fX9_carries_b23 (x0 : Nat) (x1 : Int32) (y0 : Int32) (y1 : Int32) (s : Hp) : Option (Int32 × Hp) :=
  lt_ (y0 + y1) fun z4 =>
  (gI s x0 9 27).bind fun v5 =>
  if x1 = (iI 3) then
  (fX9_carries_b48 x0 x1 z4 v5 (iI 1) s)
  else (if x1 = (iI 1) then
  (fX9_carries_b48 x0 x1 z4 v5 (iI (-1)) s)
  else (fX9_carries_b48 x0 x1 z4 v5 (iI 0) s))
def fX9_carries (x0 : Nat) (x1 : Int32) (s : Hp) : Option (Int32 × Hp) :=
  (ck s x0 9).bind fun _ =>
  (gI s x0 9 26).bind fun v1 =>
  if x1 = (iI 2) then
  (fX9_carries_b23 x0 x1 v1 (iI 1) s)
  else (if x1 = (iI 4) then
  (fX9_carries_b23 x0 x1 v1 (iI (-1)) s)
  else (fX9_carries_b23 x0 x1 v1 (iI 0) s))
def fX9_plainly (x0 : Nat) (s : Hp) : Option (Hp) :=
  (ck s x0 9).bind fun _ =>
  (pZ s x0 9 33 (iI 0)).bind fun s1 =>
  (pZ s1 x0 9 34 (iI 0)).bind fun s2 =>
  (pZ s2 x0 9 35 (iI 0)).bind fun s3 =>
  (pI s3 x0 9 36 (iI 0)).bind fun s4 =>
  (pI s4 x0 9 37 (iI 0)).bind fun s5 =>
  (pI s5 x0 9 38 (iI 0)).bind fun s6 =>
  some s6
def fX9_reachOf (x0 : Nat) (s : Hp) : Option (Int32 × Hp) :=
  (ck s x0 9).bind fun _ =>
  (gR s x0 9 17).bind fun v1 =>
  (aI s v1 (iI 5)).bind fun v2 =>
  (gI s x0 9 36).bind fun v3 =>
  (gR s x0 9 17).bind fun v4 =>
  (aI s v4 (iI 2)).bind fun v5 =>
  if v5 ≤ (v2 + v3) then
  ((gR s x0 9 17).bind fun v7 =>
  (aI s v7 (iI 2)).bind fun v8 =>
  some (v8 - (iI 1), s))
  else ((gR s x0 9 17).bind fun v9 =>
  (aI s v9 (iI 5)).bind fun v10 =>
  (gI s x0 9 36).bind fun v11 =>
  some (v10 + v11, s))
def fX9_vainOf (x0 : Nat) (x1 : Int32) (x2 : Int32) (x3 : Int32) (x4 : Int32) (s : Hp) : Option (Int32 × Hp) :=
  (ck s x0 9).bind fun _ =>
  if x1 = (iI 1) then
  ((gR s x0 9 17).bind fun v5 =>
  (aI s v5 (iI 2)).bind fun v6 =>
  if x2 = (v6 - (iI 1)) then
  (some ((iI 3), s))
  else (if x3 = 0 then
  (some ((iI 1), s))
  else (some ((iI 0), s))))
  else (if x1 = (iI 2) then
  (if x2 = 0 then
  (some ((iI 4), s))
  else (if x4 = 0 then
  (some ((iI 2), s))
  else (some ((iI 0), s))))
  else (some ((iI 0), s)))
def fX9_isCool_b33 (s : Hp) : Option (Int32 × Hp) :=
  some ((iI 0), s)
def fX9_isCool (x0 : Nat) (x1 : Int32) (s : Hp) : Option (Int32 × Hp) :=
  (ck s x0 9).bind fun _ =>
  (gI s x0 9 33).bind fun v1 =>
  if v1 = 0 then
  ((gR s x0 9 17).bind fun v3 =>
  (aI s v3 (iI 4)).bind fun v4 =>
  if v4 ≤ 0 then
  (fX9_isCool_b33 s)
  else ((gR s x0 9 17).bind fun v6 =>
  (aI s v6 (iI 4)).bind fun v7 =>
  (mI (x1 + (iI 1)) v7).bind fun v8 =>
  if v8 = 0 then
  (some ((iI 1), s))
  else (fX9_isCool_b33 s)))
  else (fX9_isCool_b33 s)
def fX9_doorAt_b41 (x0 : Nat) (x1 : Int32) (x2 : Int32) (x3 : Int32) (s : Hp) : Option ((Int32 × Hp) ⊕ ((Hp) ⊕ (Int32 × Hp))) :=
  some (.inl (x3 + iI 1, s))
def fX9_doorAt_l2 (x0 : Nat) (x1 : Int32) (x2 : Int32) : (Int32 × Hp) → Option ((Int32 × Hp) ⊕ ((Hp) ⊕ (Int32 × Hp))) := fun a =>
  (gR a.2 x0 9 17).bind fun v1 =>
  (aI a.2 v1 (iI 8)).bind fun v2 =>
  if v2 ≤ a.1 then
  (some (.inr (.inl a.2)))
  else ((gR a.2 x0 9 22).bind fun v4 =>
  (aI a.2 v4 ((iI 3) * a.1)).bind fun v5 =>
  if v5 = x1 then
  ((gR a.2 x0 9 22).bind fun v7 =>
  (aI a.2 v7 (((iI 3) * a.1) + (iI 1))).bind fun v8 =>
  if v8 = x2 then
  (some (.inr (.inr (a.1, a.2))))
  else (fX9_doorAt_b41 x0 x1 x2 a.1 a.2))
  else (fX9_doorAt_b41 x0 x1 x2 a.1 a.2))
def fX9_doorAt (x0 : Nat) (x1 : Int32) (x2 : Int32) (s : Hp) : Option (Int32 × Hp) :=
  (ck s x0 9).bind fun _ =>
  (iter (fX9_doorAt_l2 x0 x1 x2) FU ((iI 0), s)).bind (Sum.elim (fun r10a => some ((iI (-1)), r10a)) (fun r10b => some (r10b.1, r10b.2)))
def fX9_earns (x0 : Nat) (x1 : Int32) (s : Hp) : Option (Int32 × Hp) :=
  (ck s x0 9).bind fun _ =>
  (gR s x0 9 17).bind fun v1 =>
  (aI s v1 (iI 6)).bind fun v2 =>
  if v2 ≤ x1 then
  (some ((iI 0), s))
  else ((gR s x0 9 17).bind fun v4 =>
  (aI s v4 (iI 6)).bind fun v5 =>
  some (v5 - x1, s))
def fX9_sells (x0 : Nat) (x1 : Int32) (x2 : Int32) (x3 : Int32) (s : Hp) : Option (Hp) :=
  (ck s x0 9).bind fun _ =>
  (gR s x0 9 31).bind fun v1 =>
  (sI s v1 (((iI 24) * x1) + x2) (iI (-1))).bind fun s2 =>
  (gR s2 x0 9 28).bind fun v3 =>
  (aI s2 v3 x3).bind fun v4 =>
  (gR s2 x0 9 28).bind fun v5 =>
  (aI s2 v5 (x3 + (iI 1))).bind fun v6 =>
  (fX9_doorAt x0 v4 v6 s2).bind fun r7 =>
  if r7.1 = (iI (-1)) then
  (some r7.2)
  else ((gR r7.2 x0 9 32).bind fun v9 =>
  (aI r7.2 v9 r7.1).bind fun v10 =>
  if v10 = 0 then
  (some r7.2)
  else ((gR r7.2 x0 9 28).bind fun v12 =>
  (aI r7.2 v12 (x3 + (iI 5))).bind fun v13 =>
  if v13 = 0 then
  (some r7.2)
  else ((gR r7.2 x0 9 28).bind fun v15 =>
  (aI r7.2 v15 (x3 + (iI 2))).bind fun v16 =>
  (fX9_reachOf x0 r7.2).bind fun r17 =>
  if v16 ≤ r17.1 then
  ((gR r17.2 x0 9 31).bind fun v19 =>
  (sI r17.2 v19 (((iI 24) * x1) + x2) r7.1).bind fun s20 =>
  (gR s20 x0 9 32).bind fun v21 =>
  (aI s20 v21 r7.1).bind fun v22 =>
  (sI s20 v21 r7.1 (v22 - (iI 1))).bind fun s23 =>
  (gR s23 x0 9 28).bind fun v24 =>
  (aI s23 v24 (x3 + (iI 5))).bind fun v25 =>
  (sI s23 v24 (x3 + (iI 5)) (v25 - (iI 1))).bind fun s26 =>
  (gR s26 x0 9 28).bind fun v27 =>
  (aI s26 v27 (x3 + (iI 6))).bind fun v28 =>
  (gR s26 x0 9 28).bind fun v29 =>
  (aI s26 v29 (x3 + (iI 2))).bind fun v30 =>
  (fX9_earns x0 v30 s26).bind fun r31 =>
  (sI r31.2 v27 (x3 + (iI 6)) (v28 + r31.1)).bind fun s32 =>
  (gR s32 x0 9 28).bind fun v33 =>
  (aI s32 v33 (x3 + (iI 2))).bind fun v34 =>
  (gR s32 x0 9 17).bind fun v35 =>
  (aI s32 v35 (iI 2)).bind fun v36 =>
  if (v36 - (iI 1)) ≤ v34 then
  (some s32)
  else ((gR s32 x0 9 28).bind fun v38 =>
  (aI s32 v38 (x3 + (iI 2))).bind fun v39 =>
  (sI s32 v38 (x3 + (iI 2)) (v39 + (iI 1))).bind fun s40 =>
  some s40))
  else (some r17.2))))
def fX9_hourOf_l19 (x0 : Nat) (x1 : Int32) (x2 : Int32) (x3 : Int32) (x4 : Int32) : (Int32 × Hp) → Option ((Int32 × Hp) ⊕ ((Hp))) := fun a =>
  if (iI 7) ≤ a.1 then
  (some (.inr a.2))
  else ((gR a.2 x0 9 28).bind fun v4 =>
  (gR a.2 x0 9 28).bind fun v5 =>
  (aI a.2 v5 (x3 + a.1)).bind fun v6 =>
  (sI a.2 v4 (x4 + a.1) v6).bind fun s7 =>
  some (.inl (a.1 + iI 1, s7)))
def fX9_hourOf_b347 (x0 : Nat) (x1 : Int32) (x2 : Int32) (x4 : Int32) (s : Hp) : Option (Hp) :=
  (fX9_sells x0 x1 x2 x4 s).bind fun s46 =>
  some s46
def fX9_hourOf_b290 (x0 : Nat) (x1 : Int32) (x2 : Int32) (x4 : Int32) (s : Hp) : Option (Hp) :=
  (gR s x0 9 28).bind fun v38 =>
  (gI s x0 9 26).bind fun v39 =>
  (sI s v38 x4 v39).bind fun s40 =>
  (gR s40 x0 9 28).bind fun v41 =>
  (gI s40 x0 9 27).bind fun v42 =>
  (sI s40 v41 (x4 + (iI 1)) v42).bind fun s43 =>
  (fX9_isCool x0 x2 s43).bind fun r44 =>
  if r44.1 = 0 then
  (fX9_hourOf_b347 x0 x1 x2 x4 r44.2)
  else ((gR r44.2 x0 9 28).bind fun v47 =>
  (aI r44.2 v47 (x4 + (iI 2))).bind fun v48 =>
  if v48 ≤ 0 then
  (fX9_hourOf_b347 x0 x1 x2 x4 r44.2)
  else ((gR r44.2 x0 9 28).bind fun v50 =>
  (aI r44.2 v50 (x4 + (iI 2))).bind fun v51 =>
  (sI r44.2 v50 (x4 + (iI 2)) (v51 - (iI 1))).bind fun s52 =>
  fX9_hourOf_b347 x0 x1 x2 x4 s52))
def fX9_hourOf_b218 (x0 : Nat) (x1 : Int32) (x2 : Int32) (x4 : Int32) (x7 : Int32) (y0 : Int32) (s : Hp) : Option (Hp) :=
  (gR s x0 9 28).bind fun v27 =>
  (aI s v27 x4).bind fun v28 =>
  (pI s x0 9 26 v28).bind fun s29 =>
  (gR s29 x0 9 28).bind fun v30 =>
  (aI s29 v30 (x4 + (iI 1))).bind fun v31 =>
  (pI s29 x0 9 27 v31).bind fun s32 =>
  (gR s32 x0 9 30).bind fun v33 =>
  (fX9_carries x0 y0 s32).bind fun r34 =>
  (sZ r34.2 v33 (((iI 24) * x1) + x2) r34.1).bind fun s35 =>
  (gI s35 x0 9 35).bind fun v36 =>
  if v36 = 0 then
  (fX9_hourOf_b290 x0 x1 x2 x4 s35)
  else ((gR s35 x0 9 39).bind fun v53 =>
  (aZ s35 v53 (((iI 24) * x7) + x2)).bind fun v54 =>
  if v54 = 0 then
  (fX9_hourOf_b290 x0 x1 x2 x4 s35)
  else ((fX9_carries x0 y0 s35).bind fun r56 =>
  fX9_hourOf_b290 x0 x1 x2 x4 r56.2))
def fX9_hourOf_b189 (x0 : Nat) (x1 : Int32) (x2 : Int32) (x4 : Int32) (s : Hp) : Option (Hp) :=
  (gR s x0 9 28).bind fun v22 =>
  (aI s v22 (x4 + (iI 2))).bind fun v23 =>
  (gI s x0 9 34).bind fun v24 =>
  if v24 = 0 then
  ((fX9_windOf x0 v23 x2 s).bind fun r26 =>
  fX9_hourOf_b218 x0 x1 x2 x4 v23 r26.1 r26.2)
  else (fX9_hourOf_b218 x0 x1 x2 x4 v23 (iI 0) s)
def fX9_hourOf_b152 (x0 : Nat) (x1 : Int32) (x2 : Int32) (x4 : Int32) (x5 : Int32) (x6 : Int32) (s : Hp) : Option (Hp) :=
  if x5 = (iI 2) then
  (if x6 = 0 then
  ((gR s x0 9 28).bind fun v58 =>
  (aI s v58 (x4 + (iI 2))).bind fun v59 =>
  (sI s v58 (x4 + (iI 2)) (v59 - (iI 1))).bind fun s60 =>
  (gR s60 x0 9 28).bind fun v61 =>
  (aI s60 v61 (x4 + (iI 4))).bind fun v62 =>
  (sI s60 v61 (x4 + (iI 4)) (v62 - (iI 1))).bind fun s63 =>
  fX9_hourOf_b189 x0 x1 x2 x4 s63)
  else (fX9_hourOf_b189 x0 x1 x2 x4 s))
  else (fX9_hourOf_b189 x0 x1 x2 x4 s)
def fX9_hourOf (x0 : Nat) (x1 : Int32) (x2 : Int32) (s : Hp) : Option (Hp) :=
  (ck s x0 9).bind fun _ =>
  lt_ (((iI 28) * x2) + ((iI 7) * x1)) fun z1 =>
  lt_ (z1 + (iI 28)) fun z2 =>
  (iter (fX9_hourOf_l19 x0 x1 x2 z1 z2) FU ((iI 0), s)).bind fun r8 =>
  (gR r8 x0 9 23).bind fun v9 =>
  (aI r8 v9 (((iI 24) * x1) + x2)).bind fun v10 =>
  (gR r8 x0 9 28).bind fun v11 =>
  (aI r8 v11 (z2 + (iI 2))).bind fun v12 =>
  (gR r8 x0 9 28).bind fun v13 =>
  (aI r8 v13 (z2 + (iI 3))).bind fun v14 =>
  (gR r8 x0 9 28).bind fun v15 =>
  (aI r8 v15 (z2 + (iI 4))).bind fun v16 =>
  (fX9_vainOf x0 v10 v12 v14 v16 r8).bind fun r17 =>
  (gR r17.2 x0 9 29).bind fun v18 =>
  (sI r17.2 v18 (((iI 24) * x1) + x2) r17.1).bind fun s19 =>
  if v10 = (iI 1) then
  (if r17.1 = 0 then
  ((gR s19 x0 9 28).bind fun v65 =>
  (aI s19 v65 (z2 + (iI 2))).bind fun v66 =>
  (sI s19 v65 (z2 + (iI 2)) (v66 + (iI 1))).bind fun s67 =>
  (gR s67 x0 9 28).bind fun v68 =>
  (aI s67 v68 (z2 + (iI 3))).bind fun v69 =>
  (sI s67 v68 (z2 + (iI 3)) (v69 - (iI 1))).bind fun s70 =>
  fX9_hourOf_b189 x0 x1 x2 z2 s70)
  else (fX9_hourOf_b152 x0 x1 x2 z2 v10 r17.1 s19))
  else (fX9_hourOf_b152 x0 x1 x2 z2 v10 r17.1 s19)
def fX9_goes_l2 (x0 : Nat) : (Int32 × Hp) → Option ((Int32 × Hp) ⊕ ((Hp))) := fun a =>
  (gR a.2 x0 9 17).bind fun v1 =>
  (aI a.2 v1 (iI 8)).bind fun v2 =>
  if v2 ≤ a.1 then
  (some (.inr a.2))
  else ((gR a.2 x0 9 32).bind fun v4 =>
  (gR a.2 x0 9 22).bind fun v5 =>
  (aI a.2 v5 (((iI 3) * a.1) + (iI 2))).bind fun v6 =>
  (sI a.2 v4 a.1 v6).bind fun s7 =>
  some (.inl (a.1 + iI 1, s7)))
def fX9_goes_b102 (x0 : Nat) (x1 : Int32) (x2 : Int32) (y0 : Nat) (y1 : Int32) (y2 : Int32) (y3 : Int32) (s : Hp) : Option ((Int32 × Hp) ⊕ ((Hp))) :=
  (sI s y0 y1 (y2 + y3)).bind fun s18 =>
  some (.inl (x2 + iI 1, s18))
def fX9_goes_l50 (x0 : Nat) (x1 : Int32) : (Int32 × Hp) → Option ((Int32 × Hp) ⊕ ((Hp))) := fun a =>
  if (iI 6) ≤ a.1 then
  (some (.inr a.2))
  else ((gR a.2 x0 9 28).bind fun v13 =>
  (gR a.2 x0 9 21).bind fun v14 =>
  (aI a.2 v14 (((iI 6) * x1) + a.1)).bind fun v15 =>
  if a.1 = (iI 3) then
  ((gI a.2 x0 9 37).bind fun v20 =>
  fX9_goes_b102 x0 x1 a.1 v13 (((iI 7) * x1) + a.1) v15 v20 a.2)
  else (if a.1 = (iI 4) then
  ((gI a.2 x0 9 38).bind fun v19 =>
  fX9_goes_b102 x0 x1 a.1 v13 (((iI 7) * x1) + a.1) v15 v19 a.2)
  else (fX9_goes_b102 x0 x1 a.1 v13 (((iI 7) * x1) + a.1) v15 (iI 0) a.2)))
def fX9_goes_l37 (x0 : Nat) : (Int32 × Hp) → Option ((Int32 × Hp) ⊕ ((Hp))) := fun a =>
  (gR a.2 x0 9 17).bind fun v9 =>
  (aI a.2 v9 (iI 7)).bind fun v10 =>
  if v10 ≤ a.1 then
  (some (.inr a.2))
  else ((iter (fX9_goes_l50 x0 a.1) FU ((iI 0), a.2)).bind fun r21 =>
  (gR r21 x0 9 28).bind fun v22 =>
  (sI r21 v22 (((iI 7) * a.1) + (iI 6)) (iI 0)).bind fun s23 =>
  some (.inl (a.1 + iI 1, s23)))
def fX9_goes_l143 (x0 : Nat) (x1 : Int32) : (Int32 × Hp) → Option ((Int32 × Hp) ⊕ ((Hp))) := fun a =>
  (gR a.2 x0 9 17).bind fun v28 =>
  (aI a.2 v28 (iI 7)).bind fun v29 =>
  if v29 ≤ a.1 then
  (some (.inr a.2))
  else ((fX9_hourOf x0 a.1 x1 a.2).bind fun s31 =>
  some (.inl (a.1 + iI 1, s31)))
def fX9_goes_l131 (x0 : Nat) : (Int32 × Hp) → Option ((Int32 × Hp) ⊕ ((Hp))) := fun a =>
  (gR a.2 x0 9 17).bind fun v25 =>
  (aI a.2 v25 (iI 3)).bind fun v26 =>
  if v26 ≤ a.1 then
  (some (.inr a.2))
  else ((iter (fX9_goes_l143 x0 a.1) FU ((iI 0), a.2)).bind fun r32 =>
  some (.inl (a.1 + iI 1, r32)))
def fX9_goes (x0 : Nat) (s : Hp) : Option (Hp) :=
  (ck s x0 9).bind fun _ =>
  (iter (fX9_goes_l2 x0) FU ((iI 0), s)).bind fun r8 =>
  (iter (fX9_goes_l37 x0) FU ((iI 0), r8)).bind fun r24 =>
  (iter (fX9_goes_l131 x0) FU ((iI 0), r24)).bind fun r33 =>
  some r33
def fX9_asTold (x0 : Nat) (s : Hp) : Option (Hp) :=
  (ck s x0 9).bind fun _ =>
  (fX9_plainly x0 s).bind fun s1 =>
  (fX9_goes x0 s1).bind fun s2 =>
  some s2
def fX9_spotOf (x0 : Nat) (x1 : Int32) (x2 : Int32) (x3 : Int32) (s : Hp) : Option (Int32 × Hp) :=
  (ck s x0 9).bind fun _ =>
  (gR s x0 9 28).bind fun v1 =>
  (aI s v1 ((((iI 28) * (x2 + (iI 1))) + ((iI 7) * x1)) + x3)).bind fun v2 =>
  some (v2, s)
def fX9_door_b25 (s : Hp) : Option (Int32 × Hp) :=
  some ((iI (-2)), s)
def fX9_door (x0 : Nat) (x1 : Int32) (x2 : Int32) (s : Hp) : Option (Int32 × Hp) :=
  (ck s x0 9).bind fun _ =>
  (pI s x0 9 0 (iI 0)).bind fun s1 =>
  (fX9_isDoor x0 x1 s1).bind fun r2 =>
  if r2.1 = 0 then
  (fX9_door_b25 r2.2)
  else ((fX9_in (Int32.toInt64 x2) 0 3 r2.2).bind fun r4 =>
  if r4.1 = 0 then
  (fX9_door_b25 r4.2)
  else ((fX9_asTold x0 r4.2).bind fun s6 =>
  if (iI 3) ≤ x2 then
  ((gR s6 x0 9 32).bind fun v8 =>
  (aI s6 v8 x1).bind fun v9 =>
  some (v9, s6))
  else ((gR s6 x0 9 22).bind fun v10 =>
  (aI s6 v10 (((iI 3) * x1) + x2)).bind fun v11 =>
  some (v11, s6))))
def fX9_where_b34 (s : Hp) : Option (Int32 × Hp) :=
  some ((iI (-2)), s)
def fX9_where (x0 : Nat) (x1 : Int32) (x2 : Int32) (x3 : Int32) (s : Hp) : Option (Int32 × Hp) :=
  (ck s x0 9).bind fun _ =>
  (pI s x0 9 0 (iI 0)).bind fun s1 =>
  (fX9_isShop x0 x1 s1).bind fun r2 =>
  if r2.1 = 0 then
  (fX9_where_b34 r2.2)
  else ((fX9_isHour x0 (Int32.toInt64 x2) r2.2).bind fun r4 =>
  if r4.1 = 0 then
  (fX9_where_b34 r4.2)
  else ((fX9_in (Int32.toInt64 x3) 0 6 r4.2).bind fun r6 =>
  if r6.1 = 0 then
  (fX9_where_b34 r6.2)
  else ((fX9_asTold x0 r6.2).bind fun s8 =>
  (fX9_spotOf x0 x1 x2 x3 s8).bind fun r9 =>
  some (r9.1, r9.2))))
def fX9_why_b22 (s : Hp) : Option (Int32 × Hp) :=
  some ((iI (-2)), s)
def fX9_why (x0 : Nat) (x1 : Int32) (x2 : Int32) (s : Hp) : Option (Int32 × Hp) :=
  (ck s x0 9).bind fun _ =>
  (pI s x0 9 0 (iI 0)).bind fun s1 =>
  (fX9_isShop x0 x1 s1).bind fun r2 =>
  if r2.1 = 0 then
  (fX9_why_b22 r2.2)
  else ((fX9_isHour x0 (Int32.toInt64 x2) r2.2).bind fun r4 =>
  if r4.1 = 0 then
  (fX9_why_b22 r4.2)
  else ((fX9_asTold x0 r4.2).bind fun s6 =>
  (gR s6 x0 9 29).bind fun v7 =>
  (aI s6 v7 (((iI 24) * x1) + x2)).bind fun v8 =>
  some (v8, s6)))
def fX9_vain_b54 (x0 : Nat) (x1 : Int32) (x3 : Int32) (y0 : Int32) (y1 : Int32) (s : Hp) : Option ((Int32 × Int32 × Hp) ⊕ ((Int32 × Hp))) :=
  lt_ (y0 + y1) fun z11 =>
  some (.inl (z11, x3 + iI 1, s))
def fX9_vain_l24 (x0 : Nat) (x1 : Int32) : (Int32 × Int32 × Hp) → Option ((Int32 × Int32 × Hp) ⊕ ((Int32 × Hp))) := fun a =>
  (gR a.2.2 x0 9 17).bind fun v5 =>
  (aI a.2.2 v5 (iI 3)).bind fun v6 =>
  if v6 ≤ a.2.1 then
  (some (.inr (a.1, a.2.2)))
  else ((gR a.2.2 x0 9 29).bind fun v8 =>
  (aI a.2.2 v8 (((iI 24) * x1) + a.2.1)).bind fun v9 =>
  if v9 = 0 then
  (fX9_vain_b54 x0 x1 a.2.1 a.1 (iI 0) a.2.2)
  else (fX9_vain_b54 x0 x1 a.2.1 a.1 (iI 1) a.2.2))
def fX9_vain (x0 : Nat) (x1 : Int32) (s : Hp) : Option (Int32 × Hp) :=
  (ck s x0 9).bind fun _ =>
  (pI s x0 9 0 (iI 0)).bind fun s1 =>
  (fX9_isShop x0 x1 s1).bind fun r2 =>
  if r2.1 = 0 then
  (some ((iI (-2)), r2.2))
  else ((fX9_asTold x0 r2.2).bind fun s4 =>
  (iter (fX9_vain_l24 x0 x1) FU ((iI 0), (iI 0), s4)).bind fun r12 =>
  some (r12.1, r12.2))
def fX9_blown_b22 (s : Hp) : Option (Int32 × Hp) :=
  some ((iI (-2)), s)
def fX9_blown (x0 : Nat) (x1 : Int32) (x2 : Int32) (s : Hp) : Option (Int32 × Hp) :=
  (ck s x0 9).bind fun _ =>
  (pI s x0 9 0 (iI 0)).bind fun s1 =>
  (fX9_isShop x0 x1 s1).bind fun r2 =>
  if r2.1 = 0 then
  (fX9_blown_b22 r2.2)
  else ((fX9_isHour x0 (Int32.toInt64 x2) r2.2).bind fun r4 =>
  if r4.1 = 0 then
  (fX9_blown_b22 r4.2)
  else ((fX9_asTold x0 r4.2).bind fun s6 =>
  (gR s6 x0 9 30).bind fun v7 =>
  (aZ s6 v7 (((iI 24) * x1) + x2)).bind fun v8 =>
  if v8 = 0 then
  (some ((iI 0), s6))
  else (some ((iI 1), s6))))
def fX9_sales_b26 (s : Hp) : Option (Int32 × Hp) :=
  some ((iI (-2)), s)
def fX9_sales_b92 (x0 : Nat) (x1 : Int32) (x2 : Int32) (x4 : Int32) (y0 : Int32) (y1 : Int32) (s : Hp) : Option ((Int32 × Int32 × Hp) ⊕ ((Int32 × Hp))) :=
  lt_ (y0 + y1) fun z12 =>
  some (.inl (z12, x4 + iI 1, s))
def fX9_sales_b91 (x0 : Nat) (x1 : Int32) (x2 : Int32) (x4 : Int32) (y0 : Int32) (s : Hp) : Option ((Int32 × Int32 × Hp) ⊕ ((Int32 × Hp))) :=
  fX9_sales_b92 x0 x1 x2 x4 y0 (iI 0) s
def fX9_sales_b87 (x0 : Nat) (x1 : Int32) (x2 : Int32) (x4 : Int32) (y0 : Int32) (s : Hp) : Option ((Int32 × Int32 × Hp) ⊕ ((Int32 × Hp))) :=
  fX9_sales_b92 x0 x1 x2 x4 y0 (iI 1) s
def fX9_sales_l38 (x0 : Nat) (x1 : Int32) (x2 : Int32) : (Int32 × Int32 × Hp) → Option ((Int32 × Int32 × Hp) ⊕ ((Int32 × Hp))) := fun a =>
  (gR a.2.2 x0 9 17).bind fun v6 =>
  (aI a.2.2 v6 (iI 3)).bind fun v7 =>
  if v7 ≤ a.2.1 then
  (some (.inr (a.1, a.2.2)))
  else ((gR a.2.2 x0 9 31).bind fun v9 =>
  (aI a.2.2 v9 (((iI 24) * x1) + a.2.1)).bind fun v10 =>
  if v10 = (iI (-1)) then
  (fX9_sales_b91 x0 x1 x2 a.2.1 a.1 a.2.2)
  else (if x2 = (iI (-1)) then
  (fX9_sales_b87 x0 x1 x2 a.2.1 a.1 a.2.2)
  else ((gR a.2.2 x0 9 31).bind fun v14 =>
  (aI a.2.2 v14 (((iI 24) * x1) + a.2.1)).bind fun v15 =>
  if v15 = x2 then
  (fX9_sales_b87 x0 x1 x2 a.2.1 a.1 a.2.2)
  else (fX9_sales_b91 x0 x1 x2 a.2.1 a.1 a.2.2))))
def fX9_sales_b29 (x0 : Nat) (x1 : Int32) (x2 : Int32) (s : Hp) : Option (Int32 × Hp) :=
  (fX9_asTold x0 s).bind fun s5 =>
  (iter (fX9_sales_l38 x0 x1 x2) FU ((iI 0), (iI 0), s5)).bind fun r17 =>
  some (r17.1, r17.2)
def fX9_sales (x0 : Nat) (x1 : Int32) (x2 : Int32) (s : Hp) : Option (Int32 × Hp) :=
  (ck s x0 9).bind fun _ =>
  (pI s x0 9 0 (iI 0)).bind fun s1 =>
  (fX9_isShop x0 x1 s1).bind fun r2 =>
  if r2.1 = 0 then
  (fX9_sales_b26 r2.2)
  else (if x2 = (iI (-1)) then
  (fX9_sales_b29 x0 x1 x2 r2.2)
  else ((fX9_isDoor x0 x2 r2.2).bind fun r18 =>
  if r18.1 = 0 then
  (fX9_sales_b26 r18.2)
  else (fX9_sales_b29 x0 x1 x2 r18.2)))
def fX9_sold_b65 (x0 : Nat) (x1 : Int32) (x3 : Int32) (x4 : Int32) (s : Hp) : Option ((Int32 × Int32 × Hp) ⊕ ((Hp) ⊕ (Int32 × Hp))) :=
  some (.inl (x3, x4 + iI 1, s))
def fX9_sold_l25 (x0 : Nat) (x1 : Int32) : (Int32 × Int32 × Hp) → Option ((Int32 × Int32 × Hp) ⊕ ((Hp) ⊕ (Int32 × Hp))) := fun a =>
  (gR a.2.2 x0 9 17).bind fun v5 =>
  (aI a.2.2 v5 (iI 3)).bind fun v6 =>
  if v6 ≤ a.2.1 then
  (some (.inr (.inl a.2.2)))
  else ((gR a.2.2 x0 9 31).bind fun v8 =>
  (aI a.2.2 v8 (((iI 24) * x1) + a.2.1)).bind fun v9 =>
  if v9 = (iI (-1)) then
  (fX9_sold_b65 x0 x1 a.1 a.2.1 a.2.2)
  else (if a.1 = 0 then
  (some (.inr (.inr (a.2.1, a.2.2))))
  else (fX9_sold_b65 x0 x1 (a.1 + iI (-1)) a.2.1 a.2.2)))
def fX9_sold (x0 : Nat) (x1 : Int32) (x2 : Int32) (s : Hp) : Option (Int32 × Hp) :=
  (ck s x0 9).bind fun _ =>
  (pI s x0 9 0 (iI 0)).bind fun s1 =>
  (fX9_isShop x0 x1 s1).bind fun r2 =>
  if r2.1 = 0 then
  (some ((iI (-2)), r2.2))
  else ((fX9_asTold x0 r2.2).bind fun s4 =>
  (iter (fX9_sold_l25 x0 x1) FU (x2, (iI 0), s4)).bind (Sum.elim (fun r12a => some ((iI (-1)), r12a)) (fun r12b => some (r12b.1, r12b.2))))
def fX9_moneyNow_l4 (x0 : Nat) : (Int32 × Int32 × Hp) → Option ((Int32 × Int32 × Hp) ⊕ ((Int32 × Hp))) := fun a =>
  (gR a.2.2 x0 9 17).bind fun v1 =>
  (aI a.2.2 v1 (iI 7)).bind fun v2 =>
  if v2 ≤ a.2.1 then
  (some (.inr (a.1, a.2.2)))
  else ((gR a.2.2 x0 9 17).bind fun v4 =>
  (aI a.2.2 v4 (iI 3)).bind fun v5 =>
  (fX9_spotOf x0 a.2.1 (v5 - (iI 1)) (iI 6) a.2.2).bind fun r6 =>
  lt_ (a.1 + r6.1) fun z7 =>
  some (.inl (z7, a.2.1 + iI 1, r6.2)))
def fX9_moneyNow (x0 : Nat) (s : Hp) : Option (Int32 × Hp) :=
  (ck s x0 9).bind fun _ =>
  (iter (fX9_moneyNow_l4 x0) FU ((iI 0), (iI 0), s)).bind fun r8 =>
  some (r8.1, r8.2)
def fX9_money (x0 : Nat) (s : Hp) : Option (Int32 × Hp) :=
  (ck s x0 9).bind fun _ =>
  (pI s x0 9 0 (iI 0)).bind fun s1 =>
  (fX9_isValley x0 s1).bind fun r2 =>
  if r2.1 = 0 then
  (some ((iI (-2)), r2.2))
  else ((fX9_asTold x0 r2.2).bind fun s4 =>
  (fX9_moneyNow x0 s4).bind fun r5 =>
  some (r5.1, r5.2))
def fX9_richest_b74 (x0 : Nat) (x1 : Int32) (x2 : Int32) (s : Hp) : Option ((Int32 × Int32 × Hp) ⊕ ((Int32 × Hp))) :=
  some (.inl (x1, x2 + iI 1, s))
def fX9_richest_b72 (x0 : Nat) (x2 : Int32) (s : Hp) : Option ((Int32 × Int32 × Hp) ⊕ ((Int32 × Hp))) :=
  fX9_richest_b74 x0 x2 x2 s
def fX9_richest_l23 (x0 : Nat) : (Int32 × Int32 × Hp) → Option ((Int32 × Int32 × Hp) ⊕ ((Int32 × Hp))) := fun a =>
  (gR a.2.2 x0 9 17).bind fun v5 =>
  (aI a.2.2 v5 (iI 7)).bind fun v6 =>
  if v6 ≤ a.2.1 then
  (some (.inr (a.1, a.2.2)))
  else (if a.1 = (iI (-1)) then
  (fX9_richest_b72 x0 a.2.1 a.2.2)
  else ((gR a.2.2 x0 9 17).bind fun v9 =>
  (aI a.2.2 v9 (iI 3)).bind fun v10 =>
  (fX9_spotOf x0 a.2.1 (v10 - (iI 1)) (iI 6) a.2.2).bind fun r11 =>
  (gR r11.2 x0 9 17).bind fun v12 =>
  (aI r11.2 v12 (iI 3)).bind fun v13 =>
  (fX9_spotOf x0 a.1 (v13 - (iI 1)) (iI 6) r11.2).bind fun r14 =>
  if r11.1 ≤ r14.1 then
  (fX9_richest_b74 x0 a.1 a.2.1 r14.2)
  else (fX9_richest_b72 x0 a.2.1 r14.2)))
def fX9_richest (x0 : Nat) (s : Hp) : Option (Int32 × Hp) :=
  (ck s x0 9).bind fun _ =>
  (pI s x0 9 0 (iI 0)).bind fun s1 =>
  (fX9_isValley x0 s1).bind fun r2 =>
  if r2.1 = 0 then
  (some ((iI (-2)), r2.2))
  else ((fX9_asTold x0 r2.2).bind fun s4 =>
  (iter (fX9_richest_l23 x0) FU ((iI (-1)), (iI 0), s4)).bind fun r16 =>
  some (r16.1, r16.2))
def fX9_areTwo_b25 (s : Hp) : Option (Int32 × Hp) :=
  some ((iI 0), s)
def fX9_areTwo (x0 : Nat) (x1 : Int32) (x2 : Int32) (s : Hp) : Option (Int32 × Hp) :=
  (ck s x0 9).bind fun _ =>
  (fX9_isShop x0 x1 s).bind fun r1 =>
  if r1.1 = 0 then
  (fX9_areTwo_b25 r1.2)
  else ((fX9_isShop x0 x2 r1.2).bind fun r3 =>
  if r3.1 = 0 then
  (fX9_areTwo_b25 r3.2)
  else (if x1 = x2 then
  (fX9_areTwo_b25 r3.2)
  else (some ((iI 1), r3.2))))
def fX9_meets_b80 (x0 : Nat) (x1 : Int32) (x2 : Int32) (x3 : Int32) (x4 : Int32) (x6 : Int32) (y0 : Int32) (s : Hp) : Option ((Int32 × Int32 × Hp) ⊕ ((Int32 × Hp))) :=
  some (.inl (y0, x6 + iI 1, s))
def fX9_meets_l43 (x0 : Nat) (x1 : Int32) (x2 : Int32) (x3 : Int32) (x4 : Int32) : (Int32 × Int32 × Hp) → Option ((Int32 × Int32 × Hp) ⊕ ((Int32 × Hp))) := fun a =>
  if (iI 3) ≤ a.2.1 then
  (some (.inr (a.1, a.2.2)))
  else (if a.1 = 0 then
  (some (.inr (a.1, a.2.2)))
  else ((fX9_spotOf x0 x1 x4 a.2.1 a.2.2).bind fun r10 =>
  (fX9_spotOf x0 x2 x4 a.2.1 r10.2).bind fun r11 =>
  if r10.1 = r11.1 then
  (fX9_meets_b80 x0 x1 x2 x3 x4 a.2.1 (iI 1) r11.2)
  else (fX9_meets_b80 x0 x1 x2 x3 x4 a.2.1 (iI 0) r11.2)))
def fX9_meets_b102 (x0 : Nat) (x1 : Int32) (x2 : Int32) (x4 : Int32) (y0 : Int32) (y1 : Int32) (s : Hp) : Option ((Int32 × Int32 × Hp) ⊕ ((Int32 × Hp))) :=
  lt_ (y0 ||| y1) fun z15 =>
  some (.inl (z15, x4 + iI 1, s))
def fX9_meets_b88 (x0 : Nat) (x1 : Int32) (x2 : Int32) (x3 : Int32) (x4 : Int32) (x5 : Int32) (s : Hp) : Option ((Int32 × Int32 × Hp) ⊕ ((Int32 × Hp))) :=
  if x5 = 0 then
  (fX9_meets_b102 x0 x1 x2 x4 x3 (iI 0) s)
  else (fX9_meets_b102 x0 x1 x2 x4 x3 (ish (iI 1) x4) s)
def fX9_meets_l26 (x0 : Nat) (x1 : Int32) (x2 : Int32) : (Int32 × Int32 × Hp) → Option ((Int32 × Int32 × Hp) ⊕ ((Int32 × Hp))) := fun a =>
  (gR a.2.2 x0 9 17).bind fun v5 =>
  (aI a.2.2 v5 (iI 3)).bind fun v6 =>
  if v6 ≤ a.2.1 then
  (some (.inr (a.1, a.2.2)))
  else ((iter (fX9_meets_l43 x0 x1 x2 a.1 a.2.1) FU ((iI 1), (iI 0), a.2.2)).bind fun r13 =>
  fX9_meets_b88 x0 x1 x2 a.1 a.2.1 r13.1 r13.2)
def fX9_meets (x0 : Nat) (x1 : Int32) (x2 : Int32) (s : Hp) : Option (Int32 × Hp) :=
  (ck s x0 9).bind fun _ =>
  (pI s x0 9 0 (iI 0)).bind fun s1 =>
  (fX9_areTwo x0 x1 x2 s1).bind fun r2 =>
  if r2.1 = 0 then
  (some ((iI (-2)), r2.2))
  else ((fX9_asTold x0 r2.2).bind fun s4 =>
  (iter (fX9_meets_l26 x0 x1 x2) FU ((iI 0), (iI 0), s4)).bind fun r16 =>
  some (r16.1, r16.2))
def fX9_over_b24 (s : Hp) : Option (Int32 × Hp) :=
  some ((iI (-2)), s)
def fX9_over_b82 (x0 : Nat) (x1 : Int32) (x2 : Int32) (x3 : Int32) (x5 : Int32) (y0 : Int32) (y1 : Int32) (s : Hp) : Option ((Int32 × Int32 × Hp) ⊕ ((Int32 × Hp))) :=
  lt_ (y0 ||| y1) fun z12 =>
  some (.inl (z12, x5 + iI 1, s))
def fX9_over_b81 (x0 : Nat) (x1 : Int32) (x2 : Int32) (x3 : Int32) (x5 : Int32) (y0 : Int32) (s : Hp) : Option ((Int32 × Int32 × Hp) ⊕ ((Int32 × Hp))) :=
  fX9_over_b82 x0 x1 x2 x3 x5 y0 (iI 0) s
def fX9_over_l37 (x0 : Nat) (x1 : Int32) (x2 : Int32) (x3 : Int32) : (Int32 × Int32 × Hp) → Option ((Int32 × Int32 × Hp) ⊕ ((Int32 × Hp))) := fun a =>
  (gR a.2.2 x0 9 17).bind fun v7 =>
  (aI a.2.2 v7 (iI 3)).bind fun v8 =>
  if v8 ≤ a.2.1 then
  (some (.inr (a.1, a.2.2)))
  else ((fX9_spotOf x0 x1 a.2.1 (iI 0) a.2.2).bind fun r10 =>
  if r10.1 = x2 then
  ((fX9_spotOf x0 x1 a.2.1 (iI 1) r10.2).bind fun r13 =>
  if r13.1 = x3 then
  (fX9_over_b82 x0 x1 x2 x3 a.2.1 a.1 (ish (iI 1) a.2.1) r13.2)
  else (fX9_over_b81 x0 x1 x2 x3 a.2.1 a.1 r13.2))
  else (fX9_over_b81 x0 x1 x2 x3 a.2.1 a.1 r10.2))
def fX9_over (x0 : Nat) (x1 : Int32) (x2 : Int32) (x3 : Int32) (s : Hp) : Option (Int32 × Hp) :=
  (ck s x0 9).bind fun _ =>
  (pI s x0 9 0 (iI 0)).bind fun s1 =>
  (fX9_isShop x0 x1 s1).bind fun r2 =>
  if r2.1 = 0 then
  (fX9_over_b24 r2.2)
  else ((fX9_isColumn x0 (Int32.toInt64 x2) (Int32.toInt64 x3) r2.2).bind fun r4 =>
  if r4.1 = 0 then
  (fX9_over_b24 r4.2)
  else ((fX9_asTold x0 r4.2).bind fun s6 =>
  (iter (fX9_over_l37 x0 x1 x2 x3) FU ((iI 0), (iI 0), s6)).bind fun r15 =>
  some (r15.1, r15.2)))
def fX9_grounded_b52 (x0 : Nat) (x1 : Int32) (x3 : Int32) (y0 : Int32) (y1 : Int32) (s : Hp) : Option ((Int32 × Int32 × Hp) ⊕ ((Int32 × Hp))) :=
  lt_ (y0 ||| y1) fun z10 =>
  some (.inl (z10, x3 + iI 1, s))
def fX9_grounded_l24 (x0 : Nat) (x1 : Int32) : (Int32 × Int32 × Hp) → Option ((Int32 × Int32 × Hp) ⊕ ((Int32 × Hp))) := fun a =>
  (gR a.2.2 x0 9 17).bind fun v5 =>
  (aI a.2.2 v5 (iI 3)).bind fun v6 =>
  if v6 ≤ a.2.1 then
  (some (.inr (a.1, a.2.2)))
  else ((fX9_spotOf x0 x1 a.2.1 (iI 2) a.2.2).bind fun r8 =>
  if r8.1 = 0 then
  (fX9_grounded_b52 x0 x1 a.2.1 a.1 (ish (iI 1) a.2.1) r8.2)
  else (fX9_grounded_b52 x0 x1 a.2.1 a.1 (iI 0) r8.2))
def fX9_grounded (x0 : Nat) (x1 : Int32) (s : Hp) : Option (Int32 × Hp) :=
  (ck s x0 9).bind fun _ =>
  (pI s x0 9 0 (iI 0)).bind fun s1 =>
  (fX9_isShop x0 x1 s1).bind fun r2 =>
  if r2.1 = 0 then
  (some ((iI (-2)), r2.2))
  else ((fX9_asTold x0 r2.2).bind fun s4 =>
  (iter (fX9_grounded_l24 x0 x1) FU ((iI 0), (iI 0), s4)).bind fun r11 =>
  some (r11.1, r11.2))
def fX9_state (x0 : Nat) (s : Hp) : Option (Int32 × Hp) :=
  (ck s x0 9).bind fun _ =>
  (gI s x0 9 42).bind fun v1 =>
  (gI s x0 9 43).bind fun v2 =>
  (gI s x0 9 44).bind fun v3 =>
  (gI s x0 9 45).bind fun v4 =>
  (gI s x0 9 46).bind fun v5 =>
  some ((((((((v1 * (iI 8)) + v2) * (iI 5)) + v3) * (iI 10)) + v4) * (iI 10)) + v5, s)
def fX9_reads_ (x0 : Nat) (x1 : Int32) (s : Hp) : Option (Hp) :=
  (ck s x0 9).bind fun _ =>
  (mI x1 (iI 32)).bind fun v1 =>
  (pI s x0 9 47 v1).bind fun s2 =>
  (dI x1 (iI 32)).bind fun v3 =>
  (mI v3 (iI 10)).bind fun v4 =>
  (pI s2 x0 9 46 v4).bind fun s5 =>
  (dI v3 (iI 10)).bind fun v6 =>
  (mI v6 (iI 10)).bind fun v7 =>
  (pI s5 x0 9 45 v7).bind fun s8 =>
  (dI v3 (iI 100)).bind fun v9 =>
  (mI v9 (iI 5)).bind fun v10 =>
  (pI s8 x0 9 44 v10).bind fun s11 =>
  (dI v3 (iI 500)).bind fun v12 =>
  (mI v12 (iI 8)).bind fun v13 =>
  (pI s11 x0 9 43 v13).bind fun s14 =>
  (dI v3 (iI 4000)).bind fun v15 =>
  (pI s14 x0 9 42 v15).bind fun s16 =>
  some s16
def fX9_marks (x0 : Nat) (s : Hp) : Option (Hp) :=
  (ck s x0 9).bind fun _ =>
  (gI s x0 9 42).bind fun v1 =>
  (gI s x0 9 43).bind fun v2 =>
  (fX9_doorAt x0 v1 v2 s).bind fun r3 =>
  if r3.1 = (iI (-1)) then
  (some r3.2)
  else ((gI r3.2 x0 9 48).bind fun v5 =>
  (fX9_isBit v5 r3.1 r3.2).bind fun r6 =>
  if r6.1 = 0 then
  (some r6.2)
  else ((gI r6.2 x0 9 44).bind fun v8 =>
  (gR r6.2 x0 9 17).bind fun v9 =>
  (aI r6.2 v9 (iI 5)).bind fun v10 =>
  if v10 < v8 then
  (some r6.2)
  else ((gI r6.2 x0 9 47).bind fun v12 =>
  (pI r6.2 x0 9 47 (v12 ||| (ish (iI 1) r3.1))).bind fun s13 =>
  some s13)))
def fX9_puts (x0 : Nat) (x1 : Nat) (s : Hp) : Option (Hp) :=
  (ck s x0 9).bind fun _ =>
  (fX9_state x0 s).bind fun r1 =>
  (gI r1.2 x0 9 47).bind fun v2 =>
  lt_ (((iI 32) * r1.1) + v2) fun z3 =>
  (dI z3 (iI 64)).bind fun v4 =>
  (aL r1.2 x1 v4).bind fun v5 =>
  (mI z3 (iI 64)).bind fun v6 =>
  (sL r1.2 x1 v4 (v5 ||| (lsh 1 v6))).bind fun s7 =>
  some s7
def fX9_isOn (x0 : Nat) (x1 : Int32) (s : Hp) : Option (Int32 × Hp) :=
  (dI x1 (iI 64)).bind fun v1 =>
  (aL s x0 v1).bind fun v2 =>
  (mI x1 (iI 64)).bind fun v3 =>
  if (lg_cmp ((lsr v2 v3) &&& 1) 1) = 0 then
  (some ((iI 1), s))
  else (some ((iI 0), s))
def fX9_empties_l2 (x0 : Nat) : (Int32 × Hp) → Option ((Int32 × Hp) ⊕ ((Hp))) := fun a =>
  if (iI 16000) ≤ a.1 then
  (some (.inr a.2))
  else ((sL a.2 x0 a.1 0).bind fun s2 =>
  some (.inl (a.1 + iI 1, s2)))
def fX9_empties (x0 : Nat) (s : Hp) : Option (Hp) :=
  (iter (fX9_empties_l2 x0) FU ((iI 0), s)).bind fun r3 =>
  some r3
def fX9_starts_b85 (x0 : Nat) (x1 : Int32) (x3 : Int32) (y0 : Nat) (y1 : Int32) (s : Hp) : Option (Hp) :=
  (pI s y0 9 45 y1).bind fun s16 =>
  (gR s16 x0 9 21).bind fun v17 =>
  (aI s16 v17 (((iI 6) * x1) + (iI 4))).bind fun v18 =>
  (pI s16 x0 9 46 v18).bind fun s19 =>
  (pI s19 x0 9 47 (iI 0)).bind fun s20 =>
  (pI s20 x0 9 48 x3).bind fun s21 =>
  (fX9_marks x0 s21).bind fun s22 =>
  (gR s22 x0 9 40).bind fun v23 =>
  (fX9_puts x0 v23 s22).bind fun s24 =>
  some s24
def fX9_starts (x0 : Nat) (x1 : Int32) (x2 : Int32) (x3 : Int32) (s : Hp) : Option (Hp) :=
  (ck s x0 9).bind fun _ =>
  (fX9_plainly x0 s).bind fun s1 =>
  (gR s1 x0 9 40).bind fun v2 =>
  (fX9_empties v2 s1).bind fun s3 =>
  (gR s3 x0 9 21).bind fun v4 =>
  (aI s3 v4 ((iI 6) * x1)).bind fun v5 =>
  (pI s3 x0 9 42 v5).bind fun s6 =>
  (gR s6 x0 9 21).bind fun v7 =>
  (aI s6 v7 (((iI 6) * x1) + (iI 1))).bind fun v8 =>
  (pI s6 x0 9 43 v8).bind fun s9 =>
  (gR s9 x0 9 21).bind fun v10 =>
  (aI s9 v10 (((iI 6) * x1) + (iI 2))).bind fun v11 =>
  (pI s9 x0 9 44 v11).bind fun s12 =>
  (gR s12 x0 9 21).bind fun v13 =>
  (aI s12 v13 (((iI 6) * x1) + (iI 3))).bind fun v14 =>
  if x2 ≤ v14 then
  (fX9_starts_b85 x0 x1 x3 x0 x2 s12)
  else ((gR s12 x0 9 21).bind fun v25 =>
  (aI s12 v25 (((iI 6) * x1) + (iI 3))).bind fun v26 =>
  fX9_starts_b85 x0 x1 x3 x0 v26 s12)
def fX9_acts_b159 (s : Hp) : Option (Int32 × Hp) :=
  some ((iI 1), s)
def fX9_acts_b84 (x0 : Nat) (x2 : Int32) (y0 : Nat) (y1 : Int32) (y2 : Int32) (s : Hp) : Option (Int32 × Hp) :=
  (pI s y0 9 46 (y1 - y2)).bind fun s15 =>
  (gI s15 x0 9 42).bind fun v16 =>
  (pI s15 x0 9 26 v16).bind fun s17 =>
  (gI s17 x0 9 43).bind fun v18 =>
  (pI s17 x0 9 27 v18).bind fun s19 =>
  (gI s19 x0 9 44).bind fun v20 =>
  (fX9_windOf x0 v20 x2 s19).bind fun r21 =>
  (fX9_carries x0 r21.1 r21.2).bind fun r22 =>
  (gI r22.2 x0 9 26).bind fun v23 =>
  (pI r22.2 x0 9 42 v23).bind fun s24 =>
  (gI s24 x0 9 27).bind fun v25 =>
  (pI s24 x0 9 43 v25).bind fun s26 =>
  (fX9_isCool x0 x2 s26).bind fun r27 =>
  if r27.1 = 0 then
  (fX9_acts_b159 r27.2)
  else ((gI r27.2 x0 9 44).bind fun v29 =>
  if v29 ≤ 0 then
  (fX9_acts_b159 r27.2)
  else ((gI r27.2 x0 9 44).bind fun v31 =>
  (pI r27.2 x0 9 44 (v31 - (iI 1))).bind fun s32 =>
  fX9_acts_b159 s32))
def fX9_acts_b65 (x0 : Nat) (x1 : Int32) (x2 : Int32) (y0 : Nat) (y1 : Int32) (y2 : Int32) (s : Hp) : Option (Int32 × Hp) :=
  (pI s y0 9 45 (y1 - y2)).bind fun s12 =>
  (gI s12 x0 9 46).bind fun v13 =>
  if x1 = (iI 2) then
  (fX9_acts_b84 x0 x2 x0 v13 (iI 1) s12)
  else (fX9_acts_b84 x0 x2 x0 v13 (iI 0) s12)
def fX9_acts_b46 (x0 : Nat) (x1 : Int32) (x2 : Int32) (y0 : Nat) (y1 : Int32) (y2 : Int32) (s : Hp) : Option (Int32 × Hp) :=
  (pI s y0 9 44 (y1 + y2)).bind fun s9 =>
  (gI s9 x0 9 45).bind fun v10 =>
  if x1 = (iI 1) then
  (fX9_acts_b65 x0 x1 x2 x0 v10 (iI 1) s9)
  else (fX9_acts_b65 x0 x1 x2 x0 v10 (iI 0) s9)
def fX9_acts (x0 : Nat) (x1 : Int32) (x2 : Int32) (s : Hp) : Option (Int32 × Hp) :=
  (ck s x0 9).bind fun _ =>
  (gI s x0 9 44).bind fun v1 =>
  (gI s x0 9 45).bind fun v2 =>
  (gI s x0 9 46).bind fun v3 =>
  (fX9_vainOf x0 x1 v1 v2 v3 s).bind fun r4 =>
  if r4.1 = 0 then
  ((gI r4.2 x0 9 44).bind fun v6 =>
  if x1 = (iI 1) then
  (fX9_acts_b46 x0 x1 x2 x0 v6 (iI 1) r4.2)
  else (if x1 = (iI 2) then
  (fX9_acts_b46 x0 x1 x2 x0 v6 (iI (-1)) r4.2)
  else (fX9_acts_b46 x0 x1 x2 x0 v6 (iI 0) r4.2)))
  else (some ((iI 0), r4.2))
def fX9_lowest_b39 (x2 : Int32) (x3 : Int64) (x5 : Int32) (s : Hp) : Option ((Int32 × Int64 × Int32 × Hp) ⊕ ((Int32 × Hp))) :=
  (dI x5 (iI 2)).bind fun v5 =>
  some (.inl (x2, x3, v5, s))
def fX9_lowest_l8  : (Int32 × Int64 × Int32 × Hp) → Option ((Int32 × Int64 × Int32 × Hp) ⊕ ((Int32 × Hp))) := fun a =>
  if a.2.2.1 ≤ 0 then
  (some (.inr (a.1, a.2.2.2)))
  else (if (lg_cmp (a.2.1 &&& ((lsh 1 a.2.2.1) - 1)) 0) = 0 then
  (lt_ (lush a.2.1 a.2.2.1) fun z3 =>
  lt_ (a.1 + a.2.2.1) fun z4 =>
  fX9_lowest_b39 z4 z3 a.2.2.1 a.2.2.2)
  else (fX9_lowest_b39 a.1 a.2.1 a.2.2.1 a.2.2.2))
def fX9_lowest (x0 : Int64) (s : Hp) : Option (Int32 × Hp) :=
  (iter fX9_lowest_l8 FU ((iI 0), x0, (iI 32), s)).bind fun r6 =>
  some (r6.1, r6.2)
def fX9_hourFree_b80 (x0 : Nat) (x1 : Int32) (x2 : Int32) (x3 : Int64) (x5 : Int32) (x6 : Int32) (s : Hp) : Option ((Int32 × Hp) ⊕ ((Hp))) :=
  some (.inl (x6 + iI 1, s))
def fX9_hourFree_l43 (x0 : Nat) (x1 : Int32) (x2 : Int32) (x3 : Int64) (x5 : Int32) : (Int32 × Hp) → Option ((Int32 × Hp) ⊕ ((Hp))) := fun a =>
  if (iI 3) ≤ a.1 then
  (some (.inr a.2))
  else ((fX9_reads_ x0 x5 a.2).bind fun s10 =>
  (fX9_acts x0 a.1 x1 s10).bind fun r11 =>
  if r11.1 = 0 then
  (fX9_hourFree_b80 x0 x1 x2 x3 x5 a.1 r11.2)
  else ((fX9_marks x0 r11.2).bind fun s13 =>
  (gR s13 x0 9 41).bind fun v14 =>
  (fX9_puts x0 v14 s13).bind fun s15 =>
  fX9_hourFree_b80 x0 x1 x2 x3 x5 a.1 s15))
def fX9_hourFree_l23 (x0 : Nat) (x1 : Int32) (x2 : Int32) : (Int64 × Hp) → Option ((Int64 × Hp) ⊕ ((Hp))) := fun a =>
  if (lg_cmp a.1 0) = 0 then
  (some (.inr a.2))
  else ((fX9_lowest a.1 a.2).bind fun r7 =>
  lt_ (((iI 64) * x2) + r7.1) fun z8 =>
  (iter (fX9_hourFree_l43 x0 x1 x2 a.1 z8) FU ((iI 0), r7.2)).bind fun r16 =>
  lt_ (a.1 &&& (a.1 - 1)) fun z17 =>
  some (.inl (z17, r16)))
def fX9_hourFree_l9 (x0 : Nat) (x1 : Int32) : (Int32 × Hp) → Option ((Int32 × Hp) ⊕ ((Hp))) := fun a =>
  if (iI 16000) ≤ a.1 then
  (some (.inr a.2))
  else ((gR a.2 x0 9 40).bind fun v4 =>
  (aL a.2 v4 a.1).bind fun v5 =>
  (iter (fX9_hourFree_l23 x0 x1 a.1) FU (v5, a.2)).bind fun r18 =>
  some (.inl (a.1 + iI 1, r18)))
def fX9_hourFree_l103 (x0 : Nat) : (Int32 × Hp) → Option ((Int32 × Hp) ⊕ ((Hp))) := fun a =>
  if (iI 16000) ≤ a.1 then
  (some (.inr a.2))
  else ((gR a.2 x0 9 40).bind fun v21 =>
  (gR a.2 x0 9 41).bind fun v22 =>
  (aL a.2 v22 a.1).bind fun v23 =>
  (sL a.2 v21 a.1 v23).bind fun s24 =>
  some (.inl (a.1 + iI 1, s24)))
def fX9_hourFree (x0 : Nat) (x1 : Int32) (s : Hp) : Option (Hp) :=
  (ck s x0 9).bind fun _ =>
  (gR s x0 9 41).bind fun v1 =>
  (fX9_empties v1 s).bind fun s2 =>
  (iter (fX9_hourFree_l9 x0 x1) FU ((iI 0), s2)).bind fun r19 =>
  (iter (fX9_hourFree_l103 x0) FU ((iI 0), r19)).bind fun r25 =>
  some r25
def fX9_mostLeft_b71 (x0 : Nat) (x1 : Int32) (x2 : Int32) (x3 : Int32) (x4 : Int32) (x5 : Int32) (x6 : Int32) (s : Hp) : Option ((Int32 × Int32 × Hp) ⊕ ((Int32 × Hp))) :=
  some (.inl (x4, x6 + iI 1, s))
def fX9_mostLeft_l16 (x0 : Nat) (x1 : Int32) (x2 : Int32) (x3 : Int32) (x5 : Int32) : (Int32 × Int32 × Hp) → Option ((Int32 × Int32 × Hp) ⊕ ((Int32 × Hp))) := fun a =>
  if (iI 10) ≤ a.2.1 then
  (some (.inr (a.1, a.2.2)))
  else ((pI a.2.2 x0 9 42 x1).bind fun s3 =>
  (pI s3 x0 9 43 x2).bind fun s4 =>
  (pI s4 x0 9 44 x3).bind fun s5 =>
  (pI s5 x0 9 45 x5).bind fun s6 =>
  (pI s6 x0 9 46 a.2.1).bind fun s7 =>
  (gR s7 x0 9 40).bind fun v8 =>
  (fX9_state x0 s7).bind fun r9 =>
  (fX9_isOn v8 ((iI 32) * r9.1) r9.2).bind fun r10 =>
  if r10.1 = 0 then
  (fX9_mostLeft_b71 x0 x1 x2 x3 a.1 x5 a.2.1 r10.2)
  else (fX9_mostLeft_b71 x0 x1 x2 x3 x5 x5 a.2.1 r10.2))
def fX9_mostLeft_l6 (x0 : Nat) (x1 : Int32) (x2 : Int32) (x3 : Int32) : (Int32 × Int32 × Hp) → Option ((Int32 × Int32 × Hp) ⊕ ((Int32 × Hp))) := fun a =>
  if (iI 10) ≤ a.2.1 then
  (some (.inr (a.1, a.2.2)))
  else ((iter (fX9_mostLeft_l16 x0 x1 x2 x3 a.2.1) FU (a.1, (iI 0), a.2.2)).bind fun r12 =>
  some (.inl (r12.1, a.2.1 + iI 1, r12.2)))
def fX9_mostLeft (x0 : Nat) (x1 : Int32) (x2 : Int32) (x3 : Int32) (s : Hp) : Option (Int32 × Hp) :=
  (ck s x0 9).bind fun _ =>
  (iter (fX9_mostLeft_l6 x0 x1 x2 x3) FU ((iI (-1)), (iI 0), s)).bind fun r13 =>
  some (r13.1, r13.2)
def fX9_isCell_b23 (s : Hp) : Option (Int32 × Hp) :=
  some ((iI 0), s)
def fX9_isCell (x0 : Nat) (x1 : Int32) (x2 : Int32) (x3 : Int32) (s : Hp) : Option (Int32 × Hp) :=
  (ck s x0 9).bind fun _ =>
  (fX9_isColumn x0 (Int32.toInt64 x1) (Int32.toInt64 x2) s).bind fun r1 =>
  if r1.1 = 0 then
  (fX9_isCell_b23 r1.2)
  else ((fX9_isLayer x0 x3 r1.2).bind fun r3 =>
  if r3.1 = 0 then
  (fX9_isCell_b23 r3.2)
  else (some ((iI 1), r3.2)))
def fX9_least_b24 (s : Hp) : Option (Int32 × Hp) :=
  some ((iI (-2)), s)
def fX9_least_b89 (x0 : Nat) (x1 : Int32) (x2 : Int32) (x3 : Int32) (x4 : Int32) (x6 : Int32) (y0 : Int32) (s : Hp) : Option ((Int32 × Int32 × Hp) ⊕ ((Int32 × Hp))) :=
  some (.inl (y0, x6 + iI 1, s))
def fX9_least_l48 (x0 : Nat) (x1 : Int32) (x2 : Int32) (x3 : Int32) (x4 : Int32) : (Int32 × Int32 × Hp) → Option ((Int32 × Int32 × Hp) ⊕ ((Int32 × Hp))) := fun a =>
  (gR a.2.2 x0 9 17).bind fun v8 =>
  (aI a.2.2 v8 (iI 3)).bind fun v9 =>
  if v9 ≤ a.2.1 then
  (some (.inr (a.1, a.2.2)))
  else ((fX9_hourFree x0 a.2.1 a.2.2).bind fun s11 =>
  (fX9_mostLeft x0 x2 x3 x4 s11).bind fun r12 =>
  if r12.1 ≤ a.1 then
  (fX9_least_b89 x0 x1 x2 x3 x4 a.2.1 a.1 r12.2)
  else (fX9_least_b89 x0 x1 x2 x3 x4 a.2.1 r12.1 r12.2))
def fX9_least (x0 : Nat) (x1 : Int32) (x2 : Int32) (x3 : Int32) (x4 : Int32) (s : Hp) : Option (Int32 × Hp) :=
  (ck s x0 9).bind fun _ =>
  (pI s x0 9 0 (iI 0)).bind fun s1 =>
  (fX9_isShop x0 x1 s1).bind fun r2 =>
  if r2.1 = 0 then
  (fX9_least_b24 r2.2)
  else ((fX9_isCell x0 x2 x3 x4 r2.2).bind fun r4 =>
  if r4.1 = 0 then
  (fX9_least_b24 r4.2)
  else ((fX9_starts x0 x1 (iI 9) (iI 0) r4.2).bind fun s6 =>
  (fX9_mostLeft x0 x2 x3 x4 s6).bind fun r7 =>
  (iter (fX9_least_l48 x0 x1 x2 x3 x4) FU (r7.1, (iI 0), r7.2)).bind fun r14 =>
  if r14.1 = (iI (-1)) then
  (some ((iI (-1)), r14.2))
  else ((gR r14.2 x0 9 21).bind fun v16 =>
  (aI r14.2 v16 (((iI 6) * x1) + (iI 3))).bind fun v17 =>
  some (v17 - r14.1, r14.2))))
def fX9_soonestOf_l11 (x0 : Nat) (x2 : Int32) (x3 : Int32) (x4 : Int32) : (Int32 × Hp) → Option ((Int32 × Hp) ⊕ ((Hp) ⊕ (Int32 × Hp))) := fun a =>
  (gR a.2 x0 9 17).bind fun v2 =>
  (aI a.2 v2 (iI 3)).bind fun v3 =>
  if v3 ≤ a.1 then
  (some (.inr (.inl a.2)))
  else ((fX9_hourFree x0 a.1 a.2).bind fun s5 =>
  (fX9_mostLeft x0 x2 x3 x4 s5).bind fun r6 =>
  if r6.1 = (iI (-1)) then
  (some (.inl (a.1 + iI 1, r6.2)))
  else (some (.inr (.inr (a.1, r6.2)))))
def fX9_soonestOf (x0 : Nat) (x1 : Int32) (x2 : Int32) (x3 : Int32) (x4 : Int32) (s : Hp) : Option (Int32 × Hp) :=
  (ck s x0 9).bind fun _ =>
  (fX9_starts x0 x1 (iI 9) (iI 0) s).bind fun s1 =>
  (iter (fX9_soonestOf_l11 x0 x2 x3 x4) FU ((iI 0), s1)).bind (Sum.elim (fun r8a => some ((iI (-1)), r8a)) (fun r8b => some (r8b.1, r8b.2)))
def fX9_soonest_b36 (s : Hp) : Option (Int32 × Hp) :=
  some ((iI (-2)), s)
def fX9_soonest (x0 : Nat) (x1 : Int32) (x2 : Int32) (x3 : Int32) (x4 : Int32) (s : Hp) : Option (Int32 × Hp) :=
  (ck s x0 9).bind fun _ =>
  (pI s x0 9 0 (iI 0)).bind fun s1 =>
  (fX9_isShop x0 x1 s1).bind fun r2 =>
  if r2.1 = 0 then
  (fX9_soonest_b36 r2.2)
  else ((fX9_isCell x0 x2 x3 x4 r2.2).bind fun r4 =>
  if r4.1 = 0 then
  (fX9_soonest_b36 r4.2)
  else ((fX9_soonestOf x0 x1 x2 x3 x4 r4.2).bind fun r6 =>
  some (r6.1, r6.2)))
def fX9_actOf_l52 (x0 : Nat) (x1 : Int32) (x2 : Int32) (x3 : Int32) (x4 : Int32) (x5 : Int32) (x6 : Int32) (x7 : Int32) (x8 : Int32) : (Int32 × Hp) → Option ((Int32 × Hp) ⊕ ((Hp))) := fun a =>
  if x3 < a.1 then
  (some (.inr a.2))
  else ((fX9_hourFree x0 a.1 a.2).bind fun s12 =>
  some (.inl (a.1 + iI 1, s12)))
def fX9_actOf_b88 (x0 : Nat) (x1 : Int32) (x2 : Int32) (x3 : Int32) (x4 : Int32) (x5 : Int32) (x6 : Int32) (x7 : Int32) (x8 : Int32) (s : Hp) : Option ((Int32 × Hp) ⊕ ((Hp) ⊕ (Int32 × Hp))) :=
  some (.inl (x8 + iI 1, s))
def fX9_actOf_l3 (x0 : Nat) (x1 : Int32) (x2 : Int32) (x3 : Int32) (x4 : Int32) (x5 : Int32) (x6 : Int32) (x7 : Int32) : (Int32 × Hp) → Option ((Int32 × Hp) ⊕ ((Hp) ⊕ (Int32 × Hp))) := fun a =>
  if (iI 2) ≤ a.1 then
  (some (.inr (.inl a.2)))
  else ((fX9_reads_ x0 x1 a.2).bind fun s2 =>
  (fX9_acts x0 a.1 x2 s2).bind fun r3 =>
  if r3.1 = 0 then
  (fX9_actOf_b88 x0 x1 x2 x3 x4 x5 x6 x7 a.1 r3.2)
  else ((pI r3.2 x0 9 47 (iI 0)).bind fun s5 =>
  (gR s5 x0 9 40).bind fun v6 =>
  (fX9_empties v6 s5).bind fun s7 =>
  (gR s7 x0 9 40).bind fun v8 =>
  (fX9_puts x0 v8 s7).bind fun s9 =>
  lt_ (x2 + (iI 1)) fun z10 =>
  (iter (fX9_actOf_l52 x0 x1 x2 x3 x4 x5 x6 x7 a.1) FU (z10, s9)).bind fun r13 =>
  (fX9_mostLeft x0 x4 x5 x6 r13).bind fun r14 =>
  if r14.1 < x7 then
  (fX9_actOf_b88 x0 x1 x2 x3 x4 x5 x6 x7 a.1 r14.2)
  else (some (.inr (.inr (a.1, r14.2))))))
def fX9_actOf (x0 : Nat) (x1 : Int32) (x2 : Int32) (x3 : Int32) (x4 : Int32) (x5 : Int32) (x6 : Int32) (x7 : Int32) (s : Hp) : Option (Int32 × Hp) :=
  (ck s x0 9).bind fun _ =>
  (iter (fX9_actOf_l3 x0 x1 x2 x3 x4 x5 x6 x7) FU ((iI 0), s)).bind (Sum.elim (fun r16a => some ((iI 2), r16a)) (fun r16b => some (r16b.1, r16b.2)))
def fX9_way_b34 (s : Hp) : Option (Int32 × Hp) :=
  some ((iI (-2)), s)
def fX9_way_b61 (s : Hp) : Option (Int32 × Hp) :=
  some ((iI (-1)), s)
def fX9_way_l96 (x0 : Nat) (x2 : Int32) (x3 : Int32) (x4 : Int32) (x5 : Int32) (x6 : Int32) (x7 : Int32) : (Int32 × Int32 × Int32 × Hp) → Option ((Int32 × Int32 × Int32 × Hp) ⊕ ((Int32 × Hp))) := fun a =>
  if x5 < a.2.2.1 then
  (some (.inr (a.2.1, a.2.2.2)))
  else ((fX9_actOf x0 a.1 a.2.2.1 x6 x2 x3 x4 x7 a.2.2.2).bind fun r16 =>
  (fX9_reads_ x0 a.1 r16.2).bind fun s17 =>
  (fX9_acts x0 r16.1 a.2.2.1 s17).bind fun r18 =>
  (fX9_state x0 r18.2).bind fun r19 =>
  lt_ ((iI 32) * r19.1) fun z20 =>
  some (.inl (z20, r16.1, a.2.2.1 + iI 1, r19.2)))
def fX9_way (x0 : Nat) (x1 : Int32) (x2 : Int32) (x3 : Int32) (x4 : Int32) (x5 : Int32) (s : Hp) : Option (Int32 × Hp) :=
  (ck s x0 9).bind fun _ =>
  (pI s x0 9 0 (iI 0)).bind fun s1 =>
  (fX9_isShop x0 x1 s1).bind fun r2 =>
  if r2.1 = 0 then
  (fX9_way_b34 r2.2)
  else ((fX9_isCell x0 x2 x3 x4 r2.2).bind fun r4 =>
  if r4.1 = 0 then
  (fX9_way_b34 r4.2)
  else ((fX9_isHour x0 (Int32.toInt64 x5) r4.2).bind fun r6 =>
  if r6.1 = 0 then
  (fX9_way_b34 r6.2)
  else ((fX9_soonestOf x0 x1 x2 x3 x4 r6.2).bind fun r8 =>
  if r8.1 = (iI (-1)) then
  (fX9_way_b61 r8.2)
  else (if x5 ≤ r8.1 then
  ((fX9_mostLeft x0 x2 x3 x4 r8.2).bind fun r11 =>
  (fX9_starts x0 x1 (iI 9) (iI 0) r11.2).bind fun s12 =>
  (fX9_state x0 s12).bind fun r13 =>
  lt_ ((iI 32) * r13.1) fun z14 =>
  (iter (fX9_way_l96 x0 x2 x3 x4 x5 r8.1 r11.1) FU (z14, (iI (-1)), (iI 0), r13.2)).bind fun r21 =>
  some (r21.1, r21.2))
  else (fX9_way_b61 r8.2)))))
def fX9_freely_l10 (x0 : Nat) (x2 : Int32) : (Int32 × Hp) → Option ((Int32 × Hp) ⊕ ((Hp))) := fun a =>
  if x2 < a.1 then
  (some (.inr a.2))
  else ((fX9_hourFree x0 a.1 a.2).bind fun s3 =>
  some (.inl (a.1 + iI 1, s3)))
def fX9_freely (x0 : Nat) (x1 : Int32) (x2 : Int32) (s : Hp) : Option (Hp) :=
  (ck s x0 9).bind fun _ =>
  (fX9_starts x0 x1 (iI 9) (iI 0) s).bind fun s1 =>
  (iter (fX9_freely_l10 x0 x2) FU ((iI 0), s1)).bind fun r4 =>
  some r4
def fX9_spotsNow_b65 (x0 : Nat) (x1 : Int32) (x2 : Int32) (x3 : Int32) (x4 : Int32) (x6 : Int32) (y0 : Int32) (y1 : Int32) (s : Hp) : Option ((Int32 × Int32 × Hp) ⊕ ((Int32 × Hp))) :=
  lt_ (y0 + y1) fun z12 =>
  some (.inl (z12, x6 + iI 1, s))
def fX9_spotsNow_l34 (x0 : Nat) (x1 : Int32) (x2 : Int32) (x3 : Int32) (x4 : Int32) : (Int32 × Int32 × Hp) → Option ((Int32 × Int32 × Hp) ⊕ ((Int32 × Hp))) := fun a =>
  (gR a.2.2 x0 9 17).bind fun v7 =>
  (aI a.2.2 v7 (iI 2)).bind fun v8 =>
  if v8 ≤ a.2.1 then
  (some (.inr (a.1, a.2.2)))
  else ((fX9_mostLeft x0 x3 x4 a.2.1 a.2.2).bind fun r10 =>
  if r10.1 = (iI (-1)) then
  (fX9_spotsNow_b65 x0 x1 x2 x3 x4 a.2.1 a.1 (iI 0) r10.2)
  else (fX9_spotsNow_b65 x0 x1 x2 x3 x4 a.2.1 a.1 (iI 1) r10.2))
def fX9_spotsNow_b90 (x0 : Nat) (x1 : Int32) (x3 : Int32) (x4 : Int32) (y0 : Int32) (y1 : Int32) (s : Hp) : Option ((Int32 × Int32 × Hp) ⊕ ((Int32 × Hp))) :=
  lt_ (y0 + y1) fun z15 =>
  some (.inl (z15, x4 + iI 1, s))
def fX9_spotsNow_b88 (x0 : Nat) (x1 : Int32) (x3 : Int32) (x4 : Int32) (x5 : Int32) (y0 : Int32) (s : Hp) : Option ((Int32 × Int32 × Hp) ⊕ ((Int32 × Hp))) :=
  fX9_spotsNow_b90 x0 x1 x3 x4 y0 x5 s
def fX9_spotsNow_l17 (x0 : Nat) (x1 : Int32) (x3 : Int32) : (Int32 × Int32 × Hp) → Option ((Int32 × Int32 × Hp) ⊕ ((Int32 × Hp))) := fun a =>
  (gR a.2.2 x0 9 17).bind fun v4 =>
  (aI a.2.2 v4 (iI 1)).bind fun v5 =>
  if v5 ≤ a.2.1 then
  (some (.inr (a.1, a.2.2)))
  else ((iter (fX9_spotsNow_l34 x0 x1 a.1 x3 a.2.1) FU ((iI 0), (iI 0), a.2.2)).bind fun r13 =>
  if x1 = 0 then
  (fX9_spotsNow_b88 x0 x1 x3 a.2.1 r13.1 a.1 r13.2)
  else (if r13.1 ≤ 0 then
  (fX9_spotsNow_b88 x0 x1 x3 a.2.1 r13.1 a.1 r13.2)
  else (fX9_spotsNow_b90 x0 x1 x3 a.2.1 a.1 (iI 1) r13.2)))
def fX9_spotsNow_l4 (x0 : Nat) (x1 : Int32) : (Int32 × Int32 × Hp) → Option ((Int32 × Int32 × Hp) ⊕ ((Int32 × Hp))) := fun a =>
  (gR a.2.2 x0 9 17).bind fun v1 =>
  (aI a.2.2 v1 (iI 0)).bind fun v2 =>
  if v2 ≤ a.2.1 then
  (some (.inr (a.1, a.2.2)))
  else ((iter (fX9_spotsNow_l17 x0 x1 a.2.1) FU (a.1, (iI 0), a.2.2)).bind fun r17 =>
  some (.inl (r17.1, a.2.1 + iI 1, r17.2)))
def fX9_spotsNow (x0 : Nat) (x1 : Int32) (s : Hp) : Option (Int32 × Hp) :=
  (ck s x0 9).bind fun _ =>
  (iter (fX9_spotsNow_l4 x0 x1) FU ((iI 0), (iI 0), s)).bind fun r18 =>
  some (r18.1, r18.2)
def fX9_spots_b22 (s : Hp) : Option (Int32 × Hp) :=
  some ((iI (-2)), s)
def fX9_spots (x0 : Nat) (x1 : Int32) (x2 : Int32) (s : Hp) : Option (Int32 × Hp) :=
  (ck s x0 9).bind fun _ =>
  (pI s x0 9 0 (iI 0)).bind fun s1 =>
  (fX9_isShop x0 x1 s1).bind fun r2 =>
  if r2.1 = 0 then
  (fX9_spots_b22 r2.2)
  else ((fX9_isHour x0 (Int32.toInt64 x2) r2.2).bind fun r4 =>
  if r4.1 = 0 then
  (fX9_spots_b22 r4.2)
  else ((fX9_freely x0 x1 x2 r4.2).bind fun s6 =>
  (fX9_spotsNow x0 (iI 0) s6).bind fun r7 =>
  some (r7.1, r7.2)))
def fX9_columns_b22 (s : Hp) : Option (Int32 × Hp) :=
  some ((iI (-2)), s)
def fX9_columns (x0 : Nat) (x1 : Int32) (x2 : Int32) (s : Hp) : Option (Int32 × Hp) :=
  (ck s x0 9).bind fun _ =>
  (pI s x0 9 0 (iI 0)).bind fun s1 =>
  (fX9_isShop x0 x1 s1).bind fun r2 =>
  if r2.1 = 0 then
  (fX9_columns_b22 r2.2)
  else ((fX9_isHour x0 (Int32.toInt64 x2) r2.2).bind fun r4 =>
  if r4.1 = 0 then
  (fX9_columns_b22 r4.2)
  else ((fX9_freely x0 x1 x2 r4.2).bind fun s6 =>
  (fX9_spotsNow x0 (iI 1) s6).bind fun r7 =>
  some (r7.1, r7.2)))
def fX9_startsRows_l11 (x0 : Nat) (x2 : Int64) (x4 : Int64) : (Int32 × Hp) → Option ((Int32 × Hp) ⊕ ((Hp))) := fun a =>
  if (iI 32000) ≤ a.1 then
  (some (.inr a.2))
  else ((gR a.2 x0 9 49).bind fun v3 =>
  (sL a.2 v3 a.1 x4).bind fun s4 =>
  some (.inl (a.1 + iI 1, s4)))
def fX9_startsRows (x0 : Nat) (x1 : Int32) (x2 : Int64) (x4 : Int64) (s : Hp) : Option (Hp) :=
  (ck s x0 9).bind fun _ =>
  (fX9_starts x0 x1 (iI 9) (iI 0) s).bind fun s1 =>
  (iter (fX9_startsRows_l11 x0 x2 x4) FU ((iI 0), s1)).bind fun r5 =>
  (gR r5 x0 9 49).bind fun v6 =>
  (fX9_state x0 r5).bind fun r7 =>
  (sL r7.2 v6 r7.1 x2).bind fun s8 =>
  some s8
def fX9_isGood__b59 (s : Hp) : Option (Int32 × Hp) :=
  some ((iI 0), s)
def fX9_isGood_ (x0 : Nat) (x1 : Int32) (x2 : Int32) (s : Hp) : Option (Int32 × Hp) :=
  (ck s x0 9).bind fun _ =>
  if x1 = (iI 1) then
  ((gI s x0 9 42).bind fun v4 =>
  (gR s x0 9 17).bind fun v5 =>
  (aI s v5 (iI 10)).bind fun v6 =>
  if v4 = v6 then
  ((gI s x0 9 43).bind fun v8 =>
  (gR s x0 9 17).bind fun v9 =>
  (aI s v9 (iI 11)).bind fun v10 =>
  if v8 = v10 then
  ((gR s x0 9 17).bind fun v12 =>
  (aI s v12 (iI 12)).bind fun v13 =>
  if x2 < v13 then
  (fX9_isGood__b59 s)
  else ((gR s x0 9 17).bind fun v15 =>
  (aI s v15 (iI 13)).bind fun v16 =>
  if v16 < x2 then
  (fX9_isGood__b59 s)
  else (some ((iI 1), s))))
  else (fX9_isGood__b59 s))
  else (fX9_isGood__b59 s))
  else ((gI s x0 9 44).bind fun v2 =>
  if v2 ≤ 0 then
  (some ((iI 0), s))
  else (some ((iI 1), s)))
def fX9_hourRows_l15 (x0 : Nat) (x1 : Int32) (x2 : Int32) (x3 : Int64) : (Int32 × Hp) → Option ((Int32 × Hp) ⊕ ((Hp))) := fun a =>
  if (iI 32000) ≤ a.1 then
  (some (.inr a.2))
  else ((gR a.2 x0 9 50).bind fun v3 =>
  (sL a.2 v3 a.1 x3).bind fun s4 =>
  some (.inl (a.1 + iI 1, s4)))
def fX9_hourRows_b178 (x0 : Nat) (x1 : Int32) (x2 : Int32) (x3 : Int64) (x5 : Int32) (x6 : Int32) (s : Hp) : Option ((Int32 × Hp) ⊕ ((Hp))) :=
  some (.inl (x6 + iI 1, s))
def fX9_hourRows_b177 (x0 : Nat) (x1 : Int32) (x2 : Int32) (x3 : Int64) (x5 : Int32) (x6 : Int32) (y0 : Nat) (y1 : Int32) (y2 : Int64) (s : Hp) : Option ((Int32 × Hp) ⊕ ((Hp))) :=
  (sL s y0 y1 y2).bind fun s26 =>
  fX9_hourRows_b178 x0 x1 x2 x3 x5 x6 s26
def fX9_hourRows_b144 (x0 : Nat) (x1 : Int32) (x2 : Int32) (x3 : Int64) (x5 : Int32) (x6 : Int32) (x7 : Int32) (y0 : Int64) (s : Hp) : Option ((Int32 × Hp) ⊕ ((Hp))) :=
  (gR s x0 9 50).bind fun v20 =>
  (gR s x0 9 50).bind fun v21 =>
  (aL s v21 x7).bind fun v22 =>
  if (lg_cmp y0 v22) ≤ 0 then
  ((gR s x0 9 50).bind fun v24 =>
  (aL s v24 x7).bind fun v25 =>
  fX9_hourRows_b177 x0 x1 x2 x3 x5 x6 v20 x7 v25 s)
  else (fX9_hourRows_b177 x0 x1 x2 x3 x5 x6 v20 x7 y0 s)
def fX9_hourRows_b143 (x0 : Nat) (x1 : Int32) (x2 : Int32) (x3 : Int64) (x5 : Int32) (x6 : Int32) (x7 : Int32) (y0 : Int64) (y1 : Int64) (s : Hp) : Option ((Int32 × Hp) ⊕ ((Hp))) :=
  fX9_hourRows_b144 x0 x1 x2 x3 x5 x6 x7 (y0 + y1) s
def fX9_hourRows_l66 (x0 : Nat) (x1 : Int32) (x2 : Int32) (x3 : Int64) (x5 : Int32) : (Int32 × Hp) → Option ((Int32 × Hp) ⊕ ((Hp))) := fun a =>
  if (iI 3) ≤ a.1 then
  (some (.inr a.2))
  else ((fX9_reads_ x0 ((iI 32) * x5) a.2).bind fun s11 =>
  (fX9_acts x0 a.1 x1 s11).bind fun r12 =>
  if r12.1 = 0 then
  (fX9_hourRows_b178 x0 x1 x2 x3 x5 a.1 r12.2)
  else ((fX9_state x0 r12.2).bind fun r14 =>
  if x2 = 0 then
  ((gR r14.2 x0 9 50).bind fun v27 =>
  (aL r14.2 v27 r14.1).bind fun v28 =>
  (gR r14.2 x0 9 49).bind fun v29 =>
  (aL r14.2 v29 x5).bind fun v30 =>
  fX9_hourRows_b144 x0 x1 x2 x3 x5 a.1 r14.1 (v28 + v30) r14.2)
  else ((gR r14.2 x0 9 49).bind fun v16 =>
  (aL r14.2 v16 x5).bind fun v17 =>
  (fX9_isGood_ x0 x2 x1 r14.2).bind fun r18 =>
  if r18.1 = 0 then
  (fX9_hourRows_b143 x0 x1 x2 x3 x5 a.1 r14.1 v17 0 r18.2)
  else (fX9_hourRows_b143 x0 x1 x2 x3 x5 a.1 r14.1 v17 1 r18.2))))
def fX9_hourRows_b184 (x0 : Nat) (x1 : Int32) (x2 : Int32) (x3 : Int64) (x5 : Int32) (s : Hp) : Option ((Int32 × Hp) ⊕ ((Hp))) :=
  some (.inl (x5 + iI 1, s))
def fX9_hourRows_l40 (x0 : Nat) (x1 : Int32) (x2 : Int32) (x3 : Int64) : (Int32 × Hp) → Option ((Int32 × Hp) ⊕ ((Hp))) := fun a =>
  if (iI 32000) ≤ a.1 then
  (some (.inr a.2))
  else ((gR a.2 x0 9 49).bind fun v7 =>
  (aL a.2 v7 a.1).bind fun v8 =>
  if (lg_cmp v8 x3) = 0 then
  (fX9_hourRows_b184 x0 x1 x2 x3 a.1 a.2)
  else ((iter (fX9_hourRows_l66 x0 x1 x2 x3 a.1) FU ((iI 0), a.2)).bind fun r31 =>
  fX9_hourRows_b184 x0 x1 x2 x3 a.1 r31))
def fX9_hourRows_l193 (x0 : Nat) : (Int32 × Hp) → Option ((Int32 × Hp) ⊕ ((Hp))) := fun a =>
  if (iI 32000) ≤ a.1 then
  (some (.inr a.2))
  else ((gR a.2 x0 9 49).bind fun v34 =>
  (gR a.2 x0 9 50).bind fun v35 =>
  (aL a.2 v35 a.1).bind fun v36 =>
  (sL a.2 v34 a.1 v36).bind fun s37 =>
  some (.inl (a.1 + iI 1, s37)))
def fX9_hourRows_b11 (x0 : Nat) (x1 : Int32) (x2 : Int32) (y0 : Int64) (s : Hp) : Option (Hp) :=
  (iter (fX9_hourRows_l15 x0 x1 x2 y0) FU ((iI 0), s)).bind fun r5 =>
  (iter (fX9_hourRows_l40 x0 x1 x2 y0) FU ((iI 0), r5)).bind fun r32 =>
  (iter (fX9_hourRows_l193 x0) FU ((iI 0), r32)).bind fun r38 =>
  some r38
def fX9_hourRows (x0 : Nat) (x1 : Int32) (x2 : Int32) (s : Hp) : Option (Hp) :=
  (ck s x0 9).bind fun _ =>
  if x2 = 0 then
  (fX9_hourRows_b11 x0 x1 x2 0 s)
  else (fX9_hourRows_b11 x0 x1 x2 (-1) s)
def fX9_ways_b22 (s : Hp) : Option (Int64 × Hp) :=
  some ((-2), s)
def fX9_ways_l35 (x0 : Nat) (x2 : Int32) : (Int32 × Hp) → Option ((Int32 × Hp) ⊕ ((Hp))) := fun a =>
  if x2 < a.1 then
  (some (.inr a.2))
  else ((fX9_hourRows x0 a.1 (iI 0) a.2).bind fun s8 =>
  some (.inl (a.1 + iI 1, s8)))
def fX9_ways_l57 (x0 : Nat) : (Int64 × Int32 × Hp) → Option ((Int64 × Int32 × Hp) ⊕ ((Int64 × Hp))) := fun a =>
  if (iI 32000) ≤ a.2.1 then
  (some (.inr (a.1, a.2.2)))
  else ((gR a.2.2 x0 9 49).bind fun v11 =>
  (aL a.2.2 v11 a.2.1).bind fun v12 =>
  lt_ (a.1 + v12) fun z13 =>
  some (.inl (z13, a.2.1 + iI 1, a.2.2)))
def fX9_ways (x0 : Nat) (x1 : Int32) (x2 : Int32) (s : Hp) : Option (Int64 × Hp) :=
  (ck s x0 9).bind fun _ =>
  (pI s x0 9 0 (iI 0)).bind fun s1 =>
  (fX9_isShop x0 x1 s1).bind fun r2 =>
  if r2.1 = 0 then
  (fX9_ways_b22 r2.2)
  else ((fX9_isHour x0 (Int32.toInt64 x2) r2.2).bind fun r4 =>
  if r4.1 = 0 then
  (fX9_ways_b22 r4.2)
  else ((fX9_startsRows x0 x1 1 0 r4.2).bind fun s6 =>
  (iter (fX9_ways_l35 x0 x2) FU ((iI 0), s6)).bind fun r9 =>
  (iter (fX9_ways_l57 x0) FU (0, (iI 0), r9)).bind fun r14 =>
  some (r14.1, r14.2)))
def fX9_mostBy_l11 (x0 : Nat) (x2 : Int32) : (Int32 × Hp) → Option ((Int32 × Hp) ⊕ ((Hp))) := fun a =>
  (gR a.2 x0 9 17).bind fun v2 =>
  (aI a.2 v2 (iI 3)).bind fun v3 =>
  if v3 ≤ a.1 then
  (some (.inr a.2))
  else ((fX9_hourRows x0 a.1 x2 a.2).bind fun s5 =>
  some (.inl (a.1 + iI 1, s5)))
def fX9_mostBy_b69 (x0 : Nat) (x5 : Int32) (y0 : Int64) (s : Hp) : Option ((Int64 × Int32 × Hp) ⊕ ((Int64 × Hp))) :=
  some (.inl (y0, x5 + iI 1, s))
def fX9_mostBy_l38 (x0 : Nat) : (Int64 × Int32 × Hp) → Option ((Int64 × Int32 × Hp) ⊕ ((Int64 × Hp))) := fun a =>
  if (iI 32000) ≤ a.2.1 then
  (some (.inr (a.1, a.2.2)))
  else ((gR a.2.2 x0 9 49).bind fun v8 =>
  (aL a.2.2 v8 a.2.1).bind fun v9 =>
  if (lg_cmp v9 a.1) ≤ 0 then
  (fX9_mostBy_b69 x0 a.2.1 a.1 a.2.2)
  else ((gR a.2.2 x0 9 49).bind fun v11 =>
  (aL a.2.2 v11 a.2.1).bind fun v12 =>
  fX9_mostBy_b69 x0 a.2.1 v12 a.2.2))
def fX9_mostBy (x0 : Nat) (x1 : Int32) (x2 : Int32) (s : Hp) : Option (Int32 × Hp) :=
  (ck s x0 9).bind fun _ =>
  (fX9_startsRows x0 x1 0 (-1) s).bind fun s1 =>
  (iter (fX9_mostBy_l11 x0 x2) FU ((iI 0), s1)).bind fun r6 =>
  (iter (fX9_mostBy_l38 x0) FU (0, (iI 0), r6)).bind fun r13 =>
  some (Int64.toInt32 r13.1, r13.2)
def fX9_fair (x0 : Nat) (x1 : Int32) (s : Hp) : Option (Int32 × Hp) :=
  (ck s x0 9).bind fun _ =>
  (pI s x0 9 0 (iI 0)).bind fun s1 =>
  (fX9_isShop x0 x1 s1).bind fun r2 =>
  if r2.1 = 0 then
  (some ((iI (-2)), r2.2))
  else ((gR r2.2 x0 9 17).bind fun v4 =>
  (aI r2.2 v4 (iI 9)).bind fun v5 =>
  if v5 = 0 then
  (some ((iI (-1)), r2.2))
  else ((fX9_mostBy x0 x1 (iI 1) r2.2).bind fun r7 =>
  some (r7.1, r7.2)))
def fX9_aloft (x0 : Nat) (x1 : Int32) (s : Hp) : Option (Int32 × Hp) :=
  (ck s x0 9).bind fun _ =>
  (pI s x0 9 0 (iI 0)).bind fun s1 =>
  (fX9_isShop x0 x1 s1).bind fun r2 =>
  if r2.1 = 0 then
  (some ((iI (-2)), r2.2))
  else ((fX9_mostBy x0 x1 (iI 2) r2.2).bind fun r4 =>
  some (r4.1, r4.2))
def fX9_lasts_b122 (x0 : Nat) (x2 : Int32) (x3 : Int32) (x5 : Int32) (x6 : Int32) (x7 : Int32) (y0 : Int32) (s : Hp) : Option ((Int32 × Int32 × Hp) ⊕ ((Int32 × Hp))) :=
  some (.inl (y0, x7 + iI 1, s))
def fX9_lasts_l87 (x0 : Nat) (x2 : Int32) (x3 : Int32) (x5 : Int32) (x6 : Int32) : (Int32 × Int32 × Hp) → Option ((Int32 × Int32 × Hp) ⊕ ((Int32 × Hp))) := fun a =>
  (gR a.2.2 x0 9 17).bind fun v17 =>
  (aI a.2.2 v17 (iI 2)).bind fun v18 =>
  if v18 ≤ a.2.1 then
  (some (.inr (a.1, a.2.2)))
  else (if a.1 = 0 then
  ((fX9_mostLeft x0 x5 x6 a.2.1 a.2.2).bind fun r21 =>
  if r21.1 = (iI (-1)) then
  (fX9_lasts_b122 x0 x2 x3 x5 x6 a.2.1 (iI 0) r21.2)
  else (fX9_lasts_b122 x0 x2 x3 x5 x6 a.2.1 (iI 1) r21.2))
  else (some (.inr (a.1, a.2.2))))
def fX9_lasts_b130 (x0 : Nat) (x2 : Int32) (x3 : Int32) (x4 : Int32) (x5 : Int32) (x6 : Int32) (s : Hp) : Option ((Int32 × Int32 × Hp) ⊕ ((Int32 × Hp))) :=
  some (.inl (x4, x6 + iI 1, s))
def fX9_lasts_l68 (x0 : Nat) (x2 : Int32) (x3 : Int32) (x5 : Int32) : (Int32 × Int32 × Hp) → Option ((Int32 × Int32 × Hp) ⊕ ((Int32 × Hp))) := fun a =>
  (gR a.2.2 x0 9 17).bind fun v13 =>
  (aI a.2.2 v13 (iI 1)).bind fun v14 =>
  if v14 ≤ a.2.1 then
  (some (.inr (a.1, a.2.2)))
  else (if a.1 = 0 then
  ((iter (fX9_lasts_l87 x0 x2 x3 x5 a.2.1) FU (a.1, (iI 1), a.2.2)).bind fun r23 =>
  fX9_lasts_b130 x0 x2 x3 r23.1 x5 a.2.1 r23.2)
  else (some (.inr (a.1, a.2.2))))
def fX9_lasts_b136 (x0 : Nat) (x2 : Int32) (x3 : Int32) (x4 : Int32) (x5 : Int32) (s : Hp) : Option ((Int32 × Int32 × Hp) ⊕ ((Int32 × Hp))) :=
  some (.inl (x4, x5 + iI 1, s))
def fX9_lasts_l49 (x0 : Nat) (x2 : Int32) (x3 : Int32) : (Int32 × Int32 × Hp) → Option ((Int32 × Int32 × Hp) ⊕ ((Int32 × Hp))) := fun a =>
  (gR a.2.2 x0 9 17).bind fun v9 =>
  (aI a.2.2 v9 (iI 0)).bind fun v10 =>
  if v10 ≤ a.2.1 then
  (some (.inr (a.1, a.2.2)))
  else (if a.1 = 0 then
  ((iter (fX9_lasts_l68 x0 x2 x3 a.2.1) FU (a.1, (iI 0), a.2.2)).bind fun r24 =>
  fX9_lasts_b136 x0 x2 x3 r24.1 a.2.1 r24.2)
  else (some (.inr (a.1, a.2.2))))
def fX9_lasts_b152 (x0 : Nat) (x3 : Int32) (y0 : Int32) (s : Hp) : Option ((Int32 × Int32 × Hp) ⊕ ((Int32 × Hp))) :=
  some (.inl (y0, x3 + iI 1, s))
def fX9_lasts_b142 (x0 : Nat) (x2 : Int32) (x3 : Int32) (x4 : Int32) (s : Hp) : Option ((Int32 × Int32 × Hp) ⊕ ((Int32 × Hp))) :=
  if x4 = 0 then
  (fX9_lasts_b152 x0 x3 x2 s)
  else (fX9_lasts_b152 x0 x3 x3 s)
def fX9_lasts_l28 (x0 : Nat) : (Int32 × Int32 × Hp) → Option ((Int32 × Int32 × Hp) ⊕ ((Int32 × Hp))) := fun a =>
  (gR a.2.2 x0 9 17).bind fun v5 =>
  (aI a.2.2 v5 (iI 3)).bind fun v6 =>
  if v6 ≤ a.2.1 then
  (some (.inr (a.1, a.2.2)))
  else ((fX9_hourFree x0 a.2.1 a.2.2).bind fun s8 =>
  (iter (fX9_lasts_l49 x0 a.1 a.2.1) FU ((iI 0), (iI 0), s8)).bind fun r25 =>
  fX9_lasts_b142 x0 a.1 a.2.1 r25.1 r25.2)
def fX9_lasts (x0 : Nat) (x1 : Int32) (s : Hp) : Option (Int32 × Hp) :=
  (ck s x0 9).bind fun _ =>
  (pI s x0 9 0 (iI 0)).bind fun s1 =>
  (fX9_isShop x0 x1 s1).bind fun r2 =>
  if r2.1 = 0 then
  (some ((iI (-2)), r2.2))
  else ((fX9_starts x0 x1 (iI 9) (iI 0) r2.2).bind fun s4 =>
  (iter (fX9_lasts_l28 x0) FU ((iI (-1)), (iI 0), s4)).bind fun r27 =>
  some (r27.1, r27.2))
def fX9_tourLeft_b61 (x0 : Nat) (x1 : Int32) (x2 : Int32) (x3 : Int32) (x4 : Int64) (s : Hp) : Option ((Int32 × Int64 × Hp) ⊕ ((Int32 × Hp))) :=
  lt_ (x4 &&& (x4 - 1)) fun z9 =>
  some (.inl (x2, z9, s))
def fX9_tourLeft_l19 (x0 : Nat) (x1 : Int32) (x3 : Int32) : (Int32 × Int64 × Hp) → Option ((Int32 × Int64 × Hp) ⊕ ((Int32 × Hp))) := fun a =>
  if (lg_cmp a.2.1 0) = 0 then
  (some (.inr (a.1, a.2.2)))
  else ((fX9_lowest a.2.1 a.2.2).bind fun r5 =>
  (fX9_reads_ x0 (((iI 64) * x3) + r5.1) r5.2).bind fun s6 =>
  (gI s6 x0 9 47).bind fun v7 =>
  if v7 = x1 then
  ((gI s6 x0 9 45).bind fun v10 =>
  if v10 ≤ a.1 then
  (fX9_tourLeft_b61 x0 x1 a.1 x3 a.2.1 s6)
  else ((gI s6 x0 9 45).bind fun v12 =>
  fX9_tourLeft_b61 x0 x1 v12 x3 a.2.1 s6))
  else (fX9_tourLeft_b61 x0 x1 a.1 x3 a.2.1 s6))
def fX9_tourLeft_l4 (x0 : Nat) (x1 : Int32) : (Int32 × Int32 × Hp) → Option ((Int32 × Int32 × Hp) ⊕ ((Int32 × Hp))) := fun a =>
  if (iI 16000) ≤ a.2.1 then
  (some (.inr (a.1, a.2.2)))
  else ((gR a.2.2 x0 9 40).bind fun v2 =>
  (aL a.2.2 v2 a.2.1).bind fun v3 =>
  (iter (fX9_tourLeft_l19 x0 x1 a.2.1) FU (a.1, v3, a.2.2)).bind fun r13 =>
  some (.inl (r13.1, a.2.1 + iI 1, r13.2)))
def fX9_tourLeft (x0 : Nat) (x1 : Int32) (s : Hp) : Option (Int32 × Hp) :=
  (ck s x0 9).bind fun _ =>
  (iter (fX9_tourLeft_l4 x0 x1) FU ((iI (-1)), (iI 0), s)).bind fun r14 =>
  some (r14.1, r14.2)
def fX9_isDoors (x0 : Nat) (x1 : Int32) (s : Hp) : Option (Int32 × Hp) :=
  (ck s x0 9).bind fun _ =>
  (gR s x0 9 17).bind fun v1 =>
  (aI s v1 (iI 8)).bind fun v2 =>
  (fX9_in (Int32.toInt64 x1) 0 (Int32.toInt64 ((ish (iI 1) v2) - (iI 1))) s).bind fun r3 =>
  (rZ r3.1).bind fun _ => some (r3.1, r3.2)
def fX9_tour_b21 (s : Hp) : Option (Int32 × Hp) :=
  some ((iI (-2)), s)
def fX9_tour_b77 (x0 : Nat) (x1 : Int32) (x2 : Int32) (x4 : Int32) (y0 : Int32) (s : Hp) : Option ((Int32 × Int32 × Hp) ⊕ ((Int32 × Hp))) :=
  some (.inl (y0, x4 + iI 1, s))
def fX9_tour_l41 (x0 : Nat) (x1 : Int32) (x2 : Int32) : (Int32 × Int32 × Hp) → Option ((Int32 × Int32 × Hp) ⊕ ((Int32 × Hp))) := fun a =>
  (gR a.2.2 x0 9 17).bind fun v8 =>
  (aI a.2.2 v8 (iI 3)).bind fun v9 =>
  if v9 ≤ a.2.1 then
  (some (.inr (a.1, a.2.2)))
  else ((fX9_hourFree x0 a.2.1 a.2.2).bind fun s11 =>
  (fX9_tourLeft x0 x2 s11).bind fun r12 =>
  if r12.1 ≤ a.1 then
  (fX9_tour_b77 x0 x1 x2 a.2.1 a.1 r12.2)
  else (fX9_tour_b77 x0 x1 x2 a.2.1 r12.1 r12.2))
def fX9_tour (x0 : Nat) (x1 : Int32) (x2 : Int32) (s : Hp) : Option (Int32 × Hp) :=
  (ck s x0 9).bind fun _ =>
  (pI s x0 9 0 (iI 0)).bind fun s1 =>
  (fX9_isShop x0 x1 s1).bind fun r2 =>
  if r2.1 = 0 then
  (fX9_tour_b21 r2.2)
  else ((fX9_isDoors x0 x2 r2.2).bind fun r4 =>
  if r4.1 = 0 then
  (fX9_tour_b21 r4.2)
  else ((fX9_starts x0 x1 (iI 9) x2 r4.2).bind fun s6 =>
  (fX9_tourLeft x0 x2 s6).bind fun r7 =>
  (iter (fX9_tour_l41 x0 x1 x2) FU (r7.1, (iI 0), r7.2)).bind fun r14 =>
  if r14.1 = (iI (-1)) then
  (some ((iI (-1)), r14.2))
  else ((gR r14.2 x0 9 21).bind fun v16 =>
  (aI r14.2 v16 (((iI 6) * x1) + (iI 3))).bind fun v17 =>
  some (v17 - r14.1, r14.2))))
def fX9_done_b21 (s : Hp) : Option (Int32 × Hp) :=
  some ((iI (-2)), s)
def fX9_done_l45 (x0 : Nat) (x2 : Int32) : (Int32 × Hp) → Option ((Int32 × Hp) ⊕ ((Hp) ⊕ (Int32 × Hp))) := fun a =>
  (gR a.2 x0 9 17).bind fun v9 =>
  (aI a.2 v9 (iI 3)).bind fun v10 =>
  if v10 ≤ a.1 then
  (some (.inr (.inl a.2)))
  else ((fX9_hourFree x0 a.1 a.2).bind fun s12 =>
  (fX9_tourLeft x0 x2 s12).bind fun r13 =>
  if r13.1 = (iI (-1)) then
  (some (.inl (a.1 + iI 1, r13.2)))
  else (some (.inr (.inr (a.1, r13.2)))))
def fX9_done (x0 : Nat) (x1 : Int32) (x2 : Int32) (s : Hp) : Option (Int32 × Hp) :=
  (ck s x0 9).bind fun _ =>
  (pI s x0 9 0 (iI 0)).bind fun s1 =>
  (fX9_isShop x0 x1 s1).bind fun r2 =>
  if r2.1 = 0 then
  (fX9_done_b21 r2.2)
  else ((fX9_isDoors x0 x2 r2.2).bind fun r4 =>
  if r4.1 = 0 then
  (fX9_done_b21 r4.2)
  else ((fX9_starts x0 x1 (iI 9) x2 r4.2).bind fun s6 =>
  (fX9_tourLeft x0 x2 s6).bind fun r7 =>
  if r7.1 = (iI (-1)) then
  ((iter (fX9_done_l45 x0 x2) FU ((iI 0), r7.2)).bind (Sum.elim (fun r15a => some ((iI (-1)), r15a)) (fun r15b => some (r15b.1, r15b.2))))
  else (some ((iI (-1)), r7.2))))
def fX9_doors_b35 (s : Hp) : Option (Int32 × Hp) :=
  some ((iI (-2)), s)
def fX9_doors_l58 (x0 : Nat) (x3 : Int32) : (Int32 × Hp) → Option ((Int32 × Hp) ⊕ ((Hp))) := fun a =>
  (gR a.2 x0 9 17).bind fun v11 =>
  (aI a.2 v11 (iI 3)).bind fun v12 =>
  if v12 ≤ a.1 then
  (some (.inr a.2))
  else ((fX9_hourFree x0 a.1 a.2).bind fun s14 =>
  some (.inl (a.1 + iI 1, s14)))
def fX9_doors_b171 (x0 : Nat) (x3 : Int32) (x4 : Int32) (x5 : Int32) (x6 : Int64) (s : Hp) : Option ((Int32 × Int64 × Hp) ⊕ ((Int32 × Hp))) :=
  lt_ (x6 &&& (x6 - 1)) fun z27 =>
  some (.inl (x4, z27, s))
def fX9_doors_b165 (x0 : Nat) (x3 : Int32) (x5 : Int32) (x6 : Int64) (s : Hp) : Option ((Int32 × Int64 × Hp) ⊕ ((Int32 × Hp))) :=
  (gI s x0 9 47).bind fun v26 =>
  fX9_doors_b171 x0 x3 v26 x5 x6 s
def fX9_doors_l104 (x0 : Nat) (x3 : Int32) (x5 : Int32) : (Int32 × Int64 × Hp) → Option ((Int32 × Int64 × Hp) ⊕ ((Int32 × Hp))) := fun a =>
  if (lg_cmp a.2.1 0) = 0 then
  (some (.inr (a.1, a.2.2)))
  else ((fX9_lowest a.2.1 a.2.2).bind fun r20 =>
  (fX9_reads_ x0 (((iI 64) * x5) + r20.1) r20.2).bind fun s21 =>
  (gI s21 x0 9 47).bind fun v22 =>
  (fX9_sizeOf v22 s21).bind fun r23 =>
  (fX9_sizeOf a.1 r23.2).bind fun r24 =>
  if r24.1 < r23.1 then
  (fX9_doors_b165 x0 x3 x5 a.2.1 r24.2)
  else ((gI r24.2 x0 9 47).bind fun v28 =>
  (fX9_sizeOf v28 r24.2).bind fun r29 =>
  (fX9_sizeOf a.1 r29.2).bind fun r30 =>
  if r29.1 = r30.1 then
  ((gI r30.2 x0 9 47).bind fun v32 =>
  if a.1 ≤ v32 then
  (fX9_doors_b171 x0 x3 a.1 x5 a.2.1 r30.2)
  else (fX9_doors_b165 x0 x3 x5 a.2.1 r30.2))
  else (fX9_doors_b171 x0 x3 a.1 x5 a.2.1 r30.2)))
def fX9_doors_l87 (x0 : Nat) (x3 : Int32) : (Int32 × Int32 × Hp) → Option ((Int32 × Int32 × Hp) ⊕ ((Int32 × Hp))) := fun a =>
  if (iI 16000) ≤ a.2.1 then
  (some (.inr (a.1, a.2.2)))
  else ((gR a.2.2 x0 9 40).bind fun v17 =>
  (aL a.2.2 v17 a.2.1).bind fun v18 =>
  (iter (fX9_doors_l104 x0 x3 a.2.1) FU (a.1, v18, a.2.2)).bind fun r34 =>
  some (.inl (r34.1, a.2.1 + iI 1, r34.2)))
def fX9_doors (x0 : Nat) (x1 : Int32) (x2 : Int32) (x3 : Int32) (s : Hp) : Option (Int32 × Hp) :=
  (ck s x0 9).bind fun _ =>
  (pI s x0 9 0 (iI 0)).bind fun s1 =>
  (fX9_isShop x0 x1 s1).bind fun r2 =>
  if r2.1 = 0 then
  (fX9_doors_b35 r2.2)
  else ((fX9_in (Int32.toInt64 x2) 0 9 r2.2).bind fun r4 =>
  if r4.1 = 0 then
  (fX9_doors_b35 r4.2)
  else ((fX9_in (Int32.toInt64 x3) 0 1 r4.2).bind fun r6 =>
  if r6.1 = 0 then
  (fX9_doors_b35 r6.2)
  else ((gR r6.2 x0 9 17).bind fun v8 =>
  (aI r6.2 v8 (iI 8)).bind fun v9 =>
  (fX9_starts x0 x1 x2 ((ish (iI 1) v9) - (iI 1)) r6.2).bind fun s10 =>
  (iter (fX9_doors_l58 x0 x3) FU ((iI 0), s10)).bind fun r15 =>
  (iter (fX9_doors_l87 x0 x3) FU ((iI 0), (iI 0), r15)).bind fun r35 =>
  if x3 = 0 then
  ((fX9_sizeOf r35.1 r35.2).bind fun r37 =>
  some (r37.1, r37.2))
  else (some (r35.1, r35.2)))))
def fX9_cellOf (x0 : Nat) (x1 : Int32) (x2 : Int32) (x3 : Int32) (s : Hp) : Option (Int32 × Hp) :=
  (ck s x0 9).bind fun _ =>
  some ((((x1 * (iI 8)) + x2) * (iI 5)) + x3, s)
def fX9_laysCanBe_b89 (x0 : Nat) (x2 : Int32) (x3 : Int32) (x4 : Int32) (x5 : Int32) (y0 : Nat) (y1 : Int32) (y2 : Int32) (s : Hp) : Option ((Int32 × Hp) ⊕ ((Hp))) :=
  (sZ s y0 y1 y2).bind fun s13 =>
  some (.inl (x5 + iI 1, s13))
def fX9_laysCanBe_l46 (x0 : Nat) (x2 : Int32) (x3 : Int32) (x4 : Int32) : (Int32 × Hp) → Option ((Int32 × Hp) ⊕ ((Hp))) := fun a =>
  if (iI 5) ≤ a.1 then
  (some (.inr a.2))
  else ((gR a.2 x0 9 51).bind fun v9 =>
  (fX9_cellOf x0 x3 x4 a.1 a.2).bind fun r10 =>
  (fX9_mostLeft x0 x3 x4 a.1 r10.2).bind fun r11 =>
  if r11.1 = (iI (-1)) then
  (fX9_laysCanBe_b89 x0 x2 x3 x4 a.1 v9 (((iI 320) * x2) + r10.1) (iI 0) r11.2)
  else (fX9_laysCanBe_b89 x0 x2 x3 x4 a.1 v9 (((iI 320) * x2) + r10.1) (iI 1) r11.2))
def fX9_laysCanBe_l36 (x0 : Nat) (x2 : Int32) (x3 : Int32) : (Int32 × Hp) → Option ((Int32 × Hp) ⊕ ((Hp))) := fun a =>
  if (iI 8) ≤ a.1 then
  (some (.inr a.2))
  else ((iter (fX9_laysCanBe_l46 x0 x2 x3 a.1) FU ((iI 0), a.2)).bind fun r14 =>
  some (.inl (a.1 + iI 1, r14)))
def fX9_laysCanBe_l27 (x0 : Nat) (x2 : Int32) : (Int32 × Hp) → Option ((Int32 × Hp) ⊕ ((Hp))) := fun a =>
  if (iI 8) ≤ a.1 then
  (some (.inr a.2))
  else ((iter (fX9_laysCanBe_l36 x0 x2 a.1) FU ((iI 0), a.2)).bind fun r15 =>
  some (.inl (a.1 + iI 1, r15)))
def fX9_laysCanBe_l10 (x0 : Nat) : (Int32 × Hp) → Option ((Int32 × Hp) ⊕ ((Hp))) := fun a =>
  (gR a.2 x0 9 17).bind fun v2 =>
  (aI a.2 v2 (iI 3)).bind fun v3 =>
  if v3 ≤ a.1 then
  (some (.inr a.2))
  else ((fX9_hourFree x0 a.1 a.2).bind fun s5 =>
  (iter (fX9_laysCanBe_l27 x0 a.1) FU ((iI 0), s5)).bind fun r16 =>
  some (.inl (a.1 + iI 1, r16)))
def fX9_laysCanBe (x0 : Nat) (x1 : Int32) (s : Hp) : Option (Hp) :=
  (ck s x0 9).bind fun _ =>
  (fX9_starts x0 x1 (iI 9) (iI 0) s).bind fun s1 =>
  (iter (fX9_laysCanBe_l10 x0) FU ((iI 0), s1)).bind fun r17 =>
  some r17
def fX9_isNear_b86 (x0 : Nat) (x1 : Int32) (x2 : Int32) (x3 : Int32) (x4 : Int32) (x5 : Int32) (x6 : Int32) (x7 : Int32) (x8 : Int32) (s : Hp) : Option ((Int32 × Hp) ⊕ ((Hp) ⊕ (Hp))) :=
  some (.inl (x8 + iI 1, s))
def fX9_isNear_l37 (x0 : Nat) (x1 : Int32) (x2 : Int32) (x3 : Int32) (x4 : Int32) (x5 : Int32) (x6 : Int32) (x7 : Int32) : (Int32 × Hp) → Option ((Int32 × Hp) ⊕ ((Hp) ⊕ (Hp))) := fun a =>
  if (x4 + x5) < a.1 then
  (some (.inr (.inl a.2)))
  else ((fX9_isCell x0 x6 x7 a.1 a.2).bind fun r7 =>
  if r7.1 = 0 then
  (fX9_isNear_b86 x0 x1 x2 x3 x4 x5 x6 x7 a.1 r7.2)
  else ((gR r7.2 x0 9 51).bind fun v9 =>
  (fX9_cellOf x0 x6 x7 a.1 r7.2).bind fun r10 =>
  (aZ r10.2 v9 (((iI 320) * x1) + r10.1)).bind fun v11 =>
  if v11 = 0 then
  (fX9_isNear_b86 x0 x1 x2 x3 x4 x5 x6 x7 a.1 r10.2)
  else (some (.inr (.inr r10.2)))))
def fX9_isNear_l21 (x0 : Nat) (x1 : Int32) (x2 : Int32) (x3 : Int32) (x4 : Int32) (x5 : Int32) (x6 : Int32) : (Int32 × Hp) → Option ((Int32 × Hp) ⊕ ((Hp) ⊕ (Hp))) := fun a =>
  if (x3 + x5) < a.1 then
  (some (.inr (.inl a.2)))
  else (lt_ (x4 - x5) fun z5 =>
  (iter (fX9_isNear_l37 x0 x1 x2 x3 x4 x5 x6 a.1) FU (z5, a.2)).bind (Sum.elim (fun r13a => some (.inl (a.1 + iI 1, r13a))) (fun r13b => some (.inr (.inr r13b)))))
def fX9_isNear_l6 (x0 : Nat) (x1 : Int32) (x2 : Int32) (x3 : Int32) (x4 : Int32) (x5 : Int32) : (Int32 × Hp) → Option ((Int32 × Hp) ⊕ ((Hp) ⊕ (Hp))) := fun a =>
  if (x2 + x5) < a.1 then
  (some (.inr (.inl a.2)))
  else (lt_ (x3 - x5) fun z3 =>
  (iter (fX9_isNear_l21 x0 x1 x2 x3 x4 x5 a.1) FU (z3, a.2)).bind (Sum.elim (fun r14a => some (.inl (a.1 + iI 1, r14a))) (fun r14b => some (.inr (.inr r14b)))))
def fX9_isNear (x0 : Nat) (x1 : Int32) (x2 : Int32) (x3 : Int32) (x4 : Int32) (x5 : Int32) (s : Hp) : Option (Int32 × Hp) :=
  (ck s x0 9).bind fun _ =>
  lt_ (x2 - x5) fun z1 =>
  (iter (fX9_isNear_l6 x0 x1 x2 x3 x4 x5) FU (z1, s)).bind (Sum.elim (fun r15a => some ((iI 0), r15a)) (fun r15b => some ((iI 1), r15b)))
def fX9_meetBy_b108 (x0 : Nat) (x3 : Int32) (x4 : Int32) (x5 : Int32) (x6 : Int32) (x7 : Int32) (s : Hp) : Option ((Int32 × Hp) ⊕ ((Hp) ⊕ (Hp))) :=
  some (.inl (x7 + iI 1, s))
def fX9_meetBy_l64 (x0 : Nat) (x3 : Int32) (x4 : Int32) (x5 : Int32) (x6 : Int32) : (Int32 × Hp) → Option ((Int32 × Hp) ⊕ ((Hp) ⊕ (Hp))) := fun a =>
  (gR a.2 x0 9 17).bind fun v13 =>
  (aI a.2 v13 (iI 2)).bind fun v14 =>
  if v14 ≤ a.1 then
  (some (.inr (.inl a.2)))
  else ((fX9_mostLeft x0 x5 x6 a.1 a.2).bind fun r16 =>
  if r16.1 = (iI (-1)) then
  (fX9_meetBy_b108 x0 x3 x4 x5 x6 a.1 r16.2)
  else ((fX9_isNear x0 x4 x5 x6 a.1 x3 r16.2).bind fun r18 =>
  if r18.1 = 0 then
  (fX9_meetBy_b108 x0 x3 x4 x5 x6 a.1 r18.2)
  else (some (.inr (.inr r18.2)))))
def fX9_meetBy_l50 (x0 : Nat) (x3 : Int32) (x4 : Int32) (x5 : Int32) : (Int32 × Hp) → Option ((Int32 × Hp) ⊕ ((Hp) ⊕ (Hp))) := fun a =>
  (gR a.2 x0 9 17).bind fun v10 =>
  (aI a.2 v10 (iI 1)).bind fun v11 =>
  if v11 ≤ a.1 then
  (some (.inr (.inl a.2)))
  else ((iter (fX9_meetBy_l64 x0 x3 x4 x5 a.1) FU ((iI 0), a.2)).bind (Sum.elim (fun r20a => some (.inl (a.1 + iI 1, r20a))) (fun r20b => some (.inr (.inr r20b)))))
def fX9_meetBy_l36 (x0 : Nat) (x3 : Int32) (x4 : Int32) : (Int32 × Hp) → Option ((Int32 × Hp) ⊕ ((Hp) ⊕ (Hp))) := fun a =>
  (gR a.2 x0 9 17).bind fun v7 =>
  (aI a.2 v7 (iI 0)).bind fun v8 =>
  if v8 ≤ a.1 then
  (some (.inr (.inl a.2)))
  else ((iter (fX9_meetBy_l50 x0 x3 x4 a.1) FU ((iI 0), a.2)).bind (Sum.elim (fun r21a => some (.inl (a.1 + iI 1, r21a))) (fun r21b => some (.inr (.inr r21b)))))
def fX9_meetBy_l16 (x0 : Nat) (x3 : Int32) : (Int32 × Hp) → Option ((Int32 × Hp) ⊕ ((Hp) ⊕ (Int32 × Hp))) := fun a =>
  (gR a.2 x0 9 17).bind fun v3 =>
  (aI a.2 v3 (iI 3)).bind fun v4 =>
  if v4 ≤ a.1 then
  (some (.inr (.inl a.2)))
  else ((fX9_hourFree x0 a.1 a.2).bind fun s6 =>
  (iter (fX9_meetBy_l36 x0 x3 a.1) FU ((iI 0), s6)).bind (Sum.elim (fun r22a => some (.inl (a.1 + iI 1, r22a))) (fun r22b => some (.inr (.inr (a.1, r22b))))))
def fX9_meetBy (x0 : Nat) (x1 : Int32) (x2 : Int32) (x3 : Int32) (s : Hp) : Option (Int32 × Hp) :=
  (ck s x0 9).bind fun _ =>
  (fX9_laysCanBe x0 x1 s).bind fun s1 =>
  (fX9_starts x0 x2 (iI 9) (iI 0) s1).bind fun s2 =>
  (iter (fX9_meetBy_l16 x0 x3) FU ((iI 0), s2)).bind (Sum.elim (fun r23a => some ((iI (-1)), r23a)) (fun r23b => some (r23b.1, r23b.2)))
def fX9_meet (x0 : Nat) (x1 : Int32) (x2 : Int32) (s : Hp) : Option (Int32 × Hp) :=
  (ck s x0 9).bind fun _ =>
  (pI s x0 9 0 (iI 0)).bind fun s1 =>
  (fX9_areTwo x0 x1 x2 s1).bind fun r2 =>
  if r2.1 = 0 then
  (some ((iI (-2)), r2.2))
  else ((fX9_meetBy x0 x1 x2 (iI 0) r2.2).bind fun r4 =>
  some (r4.1, r4.2))
def fX9_rope (x0 : Nat) (x1 : Int32) (x2 : Int32) (s : Hp) : Option (Int32 × Hp) :=
  (ck s x0 9).bind fun _ =>
  (pI s x0 9 0 (iI 0)).bind fun s1 =>
  (fX9_areTwo x0 x1 x2 s1).bind fun r2 =>
  if r2.1 = 0 then
  (some ((iI (-2)), r2.2))
  else ((fX9_meetBy x0 x1 x2 (iI 1) r2.2).bind fun r4 =>
  some (r4.1, r4.2))
def fX9_landsOf_l35 (x0 : Nat) : (Int32 × Int32 × Hp) → Option ((Int32 × Int32 × Hp) ⊕ ((Int32 × Hp))) := fun a =>
  if a.1 ≤ 0 then
  (some (.inr (a.1, a.2.2)))
  else ((gR a.2.2 x0 9 17).bind fun v8 =>
  (aI a.2.2 v8 (iI 3)).bind fun v9 =>
  if v9 ≤ a.2.1 then
  (some (.inr (a.1, a.2.2)))
  else ((fX9_windOf x0 a.1 a.2.1 a.2.2).bind fun r11 =>
  (fX9_carries x0 r11.1 r11.2).bind fun r12 =>
  some (.inl (a.1 + iI (-1), a.2.1 + iI 1, r12.2))))
def fX9_landsOf_b71 (x0 : Nat) (x3 : Int32) (s : Hp) : Option (Int32 × Hp) :=
  if x3 ≤ 0 then
  ((gI s x0 9 26).bind fun v15 =>
  (gI s x0 9 27).bind fun v16 =>
  some (((iI 100) * v15) + v16, s))
  else (some ((iI (-1)), s))
def fX9_landsOf (x0 : Nat) (x1 : Int32) (x2 : Int32) (s : Hp) : Option (Int32 × Hp) :=
  (ck s x0 9).bind fun _ =>
  (fX9_spotOf x0 x1 x2 (iI 0) s).bind fun r1 =>
  (pI r1.2 x0 9 26 r1.1).bind fun s2 =>
  (fX9_spotOf x0 x1 x2 (iI 1) s2).bind fun r3 =>
  (pI r3.2 x0 9 27 r3.1).bind fun s4 =>
  (fX9_spotOf x0 x1 x2 (iI 2) s4).bind fun r5 =>
  lt_ (x2 + (iI 1)) fun z6 =>
  (iter (fX9_landsOf_l35 x0) FU (r5.1, z6, r5.2)).bind fun r13 =>
  fX9_landsOf_b71 x0 r13.1 r13.2
def fX9_lands_b22 (s : Hp) : Option (Int32 × Hp) :=
  some ((iI (-2)), s)
def fX9_lands (x0 : Nat) (x1 : Int32) (x2 : Int32) (s : Hp) : Option (Int32 × Hp) :=
  (ck s x0 9).bind fun _ =>
  (pI s x0 9 0 (iI 0)).bind fun s1 =>
  (fX9_isShop x0 x1 s1).bind fun r2 =>
  if r2.1 = 0 then
  (fX9_lands_b22 r2.2)
  else ((fX9_isHour x0 (Int32.toInt64 x2) r2.2).bind fun r4 =>
  if r4.1 = 0 then
  (fX9_lands_b22 r4.2)
  else ((fX9_asTold x0 r4.2).bind fun s6 =>
  (fX9_landsOf x0 x1 x2 s6).bind fun r7 =>
  some (r7.1, r7.2)))
def fX9_isDropped_b24 (s : Hp) : Option (Int32 × Hp) :=
  some ((iI 0), s)
def fX9_isDropped (x0 : Nat) (x1 : Int32) (x2 : Int32) (x3 : Int32) (s : Hp) : Option (Int32 × Hp) :=
  (ck s x0 9).bind fun _ =>
  (fX9_spotOf x0 x1 x2 (iI 2) s).bind fun r1 =>
  if r1.1 ≤ 0 then
  (fX9_isDropped_b24 r1.2)
  else ((fX9_landsOf x0 x1 x2 r1.2).bind fun r3 =>
  if r3.1 = x3 then
  (some ((iI 1), r3.2))
  else (fX9_isDropped_b24 r3.2))
def fX9_who_b77 (x0 : Nat) (x1 : Int32) (x2 : Int32) (x4 : Int32) (x5 : Int32) (y0 : Int32) (y1 : Int32) (s : Hp) : Option ((Int32 × Int32 × Hp) ⊕ ((Int32 × Hp))) :=
  lt_ (y0 + y1) fun z13 =>
  some (.inl (z13, x5 + iI 1, s))
def fX9_who_l43 (x0 : Nat) (x1 : Int32) (x2 : Int32) (x4 : Int32) : (Int32 × Int32 × Hp) → Option ((Int32 × Int32 × Hp) ⊕ ((Int32 × Hp))) := fun a =>
  (gR a.2.2 x0 9 17).bind fun v8 =>
  (aI a.2.2 v8 (iI 3)).bind fun v9 =>
  if v9 ≤ a.2.1 then
  (some (.inr (a.1, a.2.2)))
  else ((fX9_isDropped x0 x4 a.2.1 (((iI 100) * x1) + x2) a.2.2).bind fun r11 =>
  if r11.1 = 0 then
  (fX9_who_b77 x0 x1 x2 x4 a.2.1 a.1 (iI 0) r11.2)
  else (fX9_who_b77 x0 x1 x2 x4 a.2.1 a.1 (iI 1) r11.2))
def fX9_who_l28 (x0 : Nat) (x1 : Int32) (x2 : Int32) : (Int32 × Int32 × Hp) → Option ((Int32 × Int32 × Hp) ⊕ ((Int32 × Hp))) := fun a =>
  (gR a.2.2 x0 9 17).bind fun v5 =>
  (aI a.2.2 v5 (iI 7)).bind fun v6 =>
  if v6 ≤ a.2.1 then
  (some (.inr (a.1, a.2.2)))
  else ((iter (fX9_who_l43 x0 x1 x2 a.2.1) FU (a.1, (iI 0), a.2.2)).bind fun r14 =>
  some (.inl (r14.1, a.2.1 + iI 1, r14.2)))
def fX9_who (x0 : Nat) (x1 : Int32) (x2 : Int32) (s : Hp) : Option (Int32 × Hp) :=
  (ck s x0 9).bind fun _ =>
  (pI s x0 9 0 (iI 0)).bind fun s1 =>
  (fX9_isColumn x0 (Int32.toInt64 x1) (Int32.toInt64 x2) s1).bind fun r2 =>
  if r2.1 = 0 then
  (some ((iI (-2)), r2.2))
  else ((fX9_asTold x0 r2.2).bind fun s4 =>
  (iter (fX9_who_l28 x0 x1 x2) FU ((iI 0), (iI 0), s4)).bind fun r15 =>
  some (r15.1, r15.2))
def fX9_first__l39 (x0 : Nat) (x1 : Int32) (x2 : Int32) (x3 : Int32) : (Int32 × Hp) → Option ((Int32 × Hp) ⊕ ((Hp) ⊕ (Int32 × Hp))) := fun a =>
  (gR a.2 x0 9 17).bind fun v8 =>
  (aI a.2 v8 (iI 3)).bind fun v9 =>
  if v9 ≤ a.1 then
  (some (.inr (.inl a.2)))
  else ((fX9_isDropped x0 x3 a.1 (((iI 100) * x1) + x2) a.2).bind fun r11 =>
  if r11.1 = 0 then
  (some (.inl (a.1 + iI 1, r11.2)))
  else (some (.inr (.inr (a.1, r11.2)))))
def fX9_first__l25 (x0 : Nat) (x1 : Int32) (x2 : Int32) : (Int32 × Hp) → Option ((Int32 × Hp) ⊕ ((Hp) ⊕ (Int32 × Int32 × Hp))) := fun a =>
  (gR a.2 x0 9 17).bind fun v5 =>
  (aI a.2 v5 (iI 7)).bind fun v6 =>
  if v6 ≤ a.1 then
  (some (.inr (.inl a.2)))
  else ((iter (fX9_first__l39 x0 x1 x2 a.1) FU ((iI 0), a.2)).bind (Sum.elim (fun r13a => some (.inl (a.1 + iI 1, r13a))) (fun r13b => some (.inr (.inr (a.1, r13b.1, r13b.2))))))
def fX9_first_ (x0 : Nat) (x1 : Int32) (x2 : Int32) (s : Hp) : Option (Int32 × Hp) :=
  (ck s x0 9).bind fun _ =>
  (pI s x0 9 0 (iI 0)).bind fun s1 =>
  (fX9_isColumn x0 (Int32.toInt64 x1) (Int32.toInt64 x2) s1).bind fun r2 =>
  if r2.1 = 0 then
  (some ((iI (-2)), r2.2))
  else ((fX9_asTold x0 r2.2).bind fun s4 =>
  (iter (fX9_first__l25 x0 x1 x2) FU ((iI 0), s4)).bind (Sum.elim (fun r14a => some ((iI (-1)), r14a)) (fun r14b => some (((iI 100) * r14b.1) + r14b.2.1, r14b.2.2))))
def fX9_suspects_b80 (x0 : Nat) (x1 : Int32) (x2 : Int32) (x4 : Int32) (x5 : Int32) (y0 : Int32) (y1 : Int32) (s : Hp) : Option ((Int32 × Int32 × Hp) ⊕ ((Int32 × Hp))) :=
  lt_ (y0 ||| y1) fun z13 =>
  some (.inl (z13, x5 + iI 1, s))
def fX9_suspects_l43 (x0 : Nat) (x1 : Int32) (x2 : Int32) (x4 : Int32) : (Int32 × Int32 × Hp) → Option ((Int32 × Int32 × Hp) ⊕ ((Int32 × Hp))) := fun a =>
  (gR a.2.2 x0 9 17).bind fun v8 =>
  (aI a.2.2 v8 (iI 3)).bind fun v9 =>
  if v9 ≤ a.2.1 then
  (some (.inr (a.1, a.2.2)))
  else ((fX9_isDropped x0 x4 a.2.1 (((iI 100) * x1) + x2) a.2.2).bind fun r11 =>
  if r11.1 = 0 then
  (fX9_suspects_b80 x0 x1 x2 x4 a.2.1 a.1 (iI 0) r11.2)
  else (fX9_suspects_b80 x0 x1 x2 x4 a.2.1 a.1 (ish (iI 1) x4) r11.2))
def fX9_suspects_l28 (x0 : Nat) (x1 : Int32) (x2 : Int32) : (Int32 × Int32 × Hp) → Option ((Int32 × Int32 × Hp) ⊕ ((Int32 × Hp))) := fun a =>
  (gR a.2.2 x0 9 17).bind fun v5 =>
  (aI a.2.2 v5 (iI 7)).bind fun v6 =>
  if v6 ≤ a.2.1 then
  (some (.inr (a.1, a.2.2)))
  else ((iter (fX9_suspects_l43 x0 x1 x2 a.2.1) FU (a.1, (iI 0), a.2.2)).bind fun r14 =>
  some (.inl (r14.1, a.2.1 + iI 1, r14.2)))
def fX9_suspects (x0 : Nat) (x1 : Int32) (x2 : Int32) (s : Hp) : Option (Int32 × Hp) :=
  (ck s x0 9).bind fun _ =>
  (pI s x0 9 0 (iI 0)).bind fun s1 =>
  (fX9_isColumn x0 (Int32.toInt64 x1) (Int32.toInt64 x2) s1).bind fun r2 =>
  if r2.1 = 0 then
  (some ((iI (-2)), r2.2))
  else ((fX9_asTold x0 r2.2).bind fun s4 =>
  (iter (fX9_suspects_l28 x0 x1 x2) FU ((iI 0), (iI 0), s4)).bind fun r15 =>
  some (r15.1, r15.2))
def fX9_driftOf_l14 (x0 : Nat) (x3 : Int32) (x4 : Int32) (x5 : Int32) : (Int32 × Hp) → Option ((Int32 × Hp) ⊕ ((Hp))) := fun a =>
  if (x4 + x5) ≤ a.1 then
  (some (.inr a.2))
  else ((gR a.2 x0 9 17).bind fun v4 =>
  (aI a.2 v4 (iI 3)).bind fun v5 =>
  if v5 ≤ a.1 then
  (some (.inr a.2))
  else ((fX9_windOf x0 x3 a.1 a.2).bind fun r7 =>
  (fX9_carries x0 r7.1 r7.2).bind fun r8 =>
  some (.inl (a.1 + iI 1, r8.2))))
def fX9_driftOf_b53 (x0 : Nat) (s : Hp) : Option (Int32 × Hp) :=
  (gI s x0 9 26).bind fun v10 =>
  (gI s x0 9 27).bind fun v11 =>
  some (((iI 100) * v10) + v11, s)
def fX9_driftOf (x0 : Nat) (x1 : Int32) (x2 : Int32) (x3 : Int32) (x4 : Int32) (x5 : Int32) (s : Hp) : Option (Int32 × Hp) :=
  (ck s x0 9).bind fun _ =>
  (pI s x0 9 26 x1).bind fun s1 =>
  (pI s1 x0 9 27 x2).bind fun s2 =>
  (iter (fX9_driftOf_l14 x0 x3 x4 x5) FU (x4, s2)).bind fun r9 =>
  fX9_driftOf_b53 x0 r9
def fX9_isDrift_b46 (s : Hp) : Option (Int32 × Hp) :=
  some ((iI 0), s)
def fX9_isDrift (x0 : Nat) (x1 : Int32) (x2 : Int32) (x3 : Int32) (x4 : Int32) (x5 : Int32) (s : Hp) : Option (Int32 × Hp) :=
  (ck s x0 9).bind fun _ =>
  (fX9_isColumn x0 (Int32.toInt64 x1) (Int32.toInt64 x2) s).bind fun r1 =>
  if r1.1 = 0 then
  (fX9_isDrift_b46 r1.2)
  else ((fX9_isLayer x0 x3 r1.2).bind fun r3 =>
  if r3.1 = 0 then
  (fX9_isDrift_b46 r3.2)
  else ((fX9_isHour x0 (Int32.toInt64 x4) r3.2).bind fun r5 =>
  if r5.1 = 0 then
  (fX9_isDrift_b46 r5.2)
  else ((fX9_in (Int32.toInt64 x5) 0 24 r5.2).bind fun r7 =>
  if r7.1 = 0 then
  (fX9_isDrift_b46 r7.2)
  else (some ((iI 1), r7.2)))))
def fX9_drift (x0 : Nat) (x1 : Int32) (x2 : Int32) (x3 : Int32) (x4 : Int32) (x5 : Int32) (s : Hp) : Option (Int32 × Hp) :=
  (ck s x0 9).bind fun _ =>
  (pI s x0 9 0 (iI 0)).bind fun s1 =>
  (fX9_isDrift x0 x1 x2 x3 x4 x5 s1).bind fun r2 =>
  if r2.1 = 0 then
  (some ((iI (-2)), r2.2))
  else ((fX9_driftOf x0 x1 x2 x3 x4 x5 r2.2).bind fun r4 =>
  some (r4.1, r4.2))
def fX9_whence_l39 (x0 : Nat) (x1 : Int32) (x2 : Int32) (x3 : Int32) (x4 : Int32) (x5 : Int32) (x6 : Int32) : (Int32 × Hp) → Option ((Int32 × Hp) ⊕ ((Hp) ⊕ (Int32 × Hp))) := fun a =>
  (gR a.2 x0 9 17).bind fun v7 =>
  (aI a.2 v7 (iI 1)).bind fun v8 =>
  if v8 ≤ a.1 then
  (some (.inr (.inl a.2)))
  else ((fX9_driftOf x0 x6 a.1 x3 x4 x5 a.2).bind fun r10 =>
  if r10.1 = (((iI 100) * x1) + x2) then
  (some (.inr (.inr (a.1, r10.2))))
  else (some (.inl (a.1 + iI 1, r10.2))))
def fX9_whence_l25 (x0 : Nat) (x1 : Int32) (x2 : Int32) (x3 : Int32) (x4 : Int32) (x5 : Int32) : (Int32 × Hp) → Option ((Int32 × Hp) ⊕ ((Hp) ⊕ (Int32 × Int32 × Hp))) := fun a =>
  (gR a.2 x0 9 17).bind fun v4 =>
  (aI a.2 v4 (iI 0)).bind fun v5 =>
  if v5 ≤ a.1 then
  (some (.inr (.inl a.2)))
  else ((iter (fX9_whence_l39 x0 x1 x2 x3 x4 x5 a.1) FU ((iI 0), a.2)).bind (Sum.elim (fun r12a => some (.inl (a.1 + iI 1, r12a))) (fun r12b => some (.inr (.inr (a.1, r12b.1, r12b.2))))))
def fX9_whence (x0 : Nat) (x1 : Int32) (x2 : Int32) (x3 : Int32) (x4 : Int32) (x5 : Int32) (s : Hp) : Option (Int32 × Hp) :=
  (ck s x0 9).bind fun _ =>
  (pI s x0 9 0 (iI 0)).bind fun s1 =>
  (fX9_isDrift x0 x1 x2 x3 x4 x5 s1).bind fun r2 =>
  if r2.1 = 0 then
  (some ((iI (-2)), r2.2))
  else ((iter (fX9_whence_l25 x0 x1 x2 x3 x4 x5) FU ((iI 0), r2.2)).bind (Sum.elim (fun r13a => some ((iI (-1)), r13a)) (fun r13b => some (((iI 100) * r13b.1) + r13b.2.1, r13b.2.2))))
def fX9_whyNotRow_b14 (s : Hp) : Option (Int32 × Hp) :=
  some ((iI (-2)), s)
def fX9_whyNotRow_b157 (x0 : Nat) (x1 : Int32) (x2 : Int32) (x3 : Int32) (s : Hp) : Option ((Int32 × Hp) ⊕ ((Hp) ⊕ (Hp) ⊕ (Hp) ⊕ (Hp))) :=
  lt_ (x3 + x2) fun z33 =>
  some (.inl (z33, s))
def fX9_whyNotRow_l46 (x0 : Nat) (x1 : Int32) (x2 : Int32) : (Int32 × Hp) → Option ((Int32 × Hp) ⊕ ((Hp) ⊕ (Hp) ⊕ (Hp) ⊕ (Hp))) := fun a =>
  (gR a.2 x0 9 2).bind fun v12 =>
  (aI a.2 v12 x1).bind fun v13 =>
  if v13 ≤ a.1 then
  (some (.inr (.inl a.2)))
  else (lt_ (((iI 60) * x1) + a.1) fun z15 =>
  (gR a.2 x0 9 3).bind fun v16 =>
  (aL a.2 v16 z15).bind fun v17 =>
  (fX9_isHour x0 v17 a.2).bind fun r18 =>
  if r18.1 = 0 then
  (some (.inr (.inr (.inl r18.2))))
  else (if x2 = (iI 2) then
  ((gR r18.2 x0 9 3).bind fun v34 =>
  (aL r18.2 v34 (z15 + (iI 1))).bind fun v35 =>
  (fX9_isWind v35 r18.2).bind fun r36 =>
  if r36.1 = 0 then
  (some (.inr (.inr (.inr (.inl r36.2)))))
  else (fX9_whyNotRow_b157 x0 x1 x2 a.1 r36.2))
  else ((gR r18.2 x0 9 3).bind fun v21 =>
  (aL r18.2 v21 (z15 + (iI 1))).bind fun v22 =>
  (gR r18.2 x0 9 3).bind fun v23 =>
  (aL r18.2 v23 (z15 + (iI 2))).bind fun v24 =>
  (fX9_isColumn x0 v22 v24 r18.2).bind fun r25 =>
  if r25.1 = 0 then
  (some (.inr (.inr (.inr (.inr r25.2)))))
  else ((gR r25.2 x0 9 3).bind fun v27 =>
  (aL r25.2 v27 (z15 + (iI 3))).bind fun v28 =>
  (gR r25.2 x0 9 3).bind fun v29 =>
  (aL r25.2 v29 (z15 + (iI 4))).bind fun v30 =>
  (fX9_isColumn x0 v28 v30 r25.2).bind fun r31 =>
  if r31.1 = 0 then
  (some (.inr (.inr (.inr (.inr r31.2)))))
  else (fX9_whyNotRow_b157 x0 x1 x2 a.1 r31.2)))))
def fX9_whyNotRow_b154 (s : Hp) : Option (Int32 × Hp) :=
  some ((iI (-2)), s)
def fX9_whyNotRow (x0 : Nat) (x1 : Int32) (x2 : Int32) (s : Hp) : Option (Int32 × Hp) :=
  (ck s x0 9).bind fun _ =>
  (fX9_isSlot x1 s).bind fun r1 =>
  if r1.1 = 0 then
  (fX9_whyNotRow_b14 r1.2)
  else ((fX9_isValley x0 r1.2).bind fun r3 =>
  if r3.1 = 0 then
  (fX9_whyNotRow_b14 r3.2)
  else ((gR r3.2 x0 9 1).bind fun v5 =>
  (aI r3.2 v5 x1).bind fun v6 =>
  if v6 = (iI (-1)) then
  (some ((iI (-6)), r3.2))
  else ((gR r3.2 x0 9 2).bind fun v8 =>
  (aI r3.2 v8 x1).bind fun v9 =>
  (mI v9 x2).bind fun v10 =>
  if v10 = 0 then
  ((iter (fX9_whyNotRow_l46 x0 x1 x2) FU ((iI 0), r3.2)).bind (Sum.elim (fun r38a => some ((iI 0), r38a)) (Sum.elim (fun r38b => some ((iI (-2)), r38b)) (Sum.elim (fun r38c => fX9_whyNotRow_b154 r38c) (fun r38d => fX9_whyNotRow_b154 r38d)))))
  else (some ((iI (-2)), r3.2)))))
def fX9_isSo (x0 : Nat) (x1 : Int32) (x2 : Int32) (x3 : Int32) (s : Hp) : Option (Int32 × Hp) :=
  (ck s x0 9).bind fun _ =>
  (gR s x0 9 3).bind fun v1 =>
  (aL s v1 x1).bind fun v2 =>
  lt_ (Int64.toInt32 v2) fun z3 =>
  if x2 = (iI 2) then
  ((fX9_windOf x0 x3 z3 s).bind fun r15 =>
  (gR r15.2 x0 9 3).bind fun v16 =>
  (aL r15.2 v16 (x1 + (iI 1))).bind fun v17 =>
  if (lg_cmp (Int32.toInt64 r15.1) v17) = 0 then
  (some ((iI 1), r15.2))
  else (some ((iI 0), r15.2)))
  else ((gR s x0 9 3).bind fun v5 =>
  (aL s v5 (x1 + (iI 1))).bind fun v6 =>
  (gR s x0 9 3).bind fun v7 =>
  (aL s v7 (x1 + (iI 2))).bind fun v8 =>
  (fX9_driftOf x0 (Int64.toInt32 v6) (Int64.toInt32 v8) x3 z3 (iI 1) s).bind fun r9 =>
  (gR r9.2 x0 9 3).bind fun v10 =>
  (aL r9.2 v10 (x1 + (iI 3))).bind fun v11 =>
  (gR r9.2 x0 9 3).bind fun v12 =>
  (aL r9.2 v12 (x1 + (iI 4))).bind fun v13 =>
  if (lg_cmp (Int32.toInt64 r9.1) ((100 * v11) + v13)) = 0 then
  (some ((iI 1), r9.2))
  else (some ((iI 0), r9.2)))
def fX9_layersBy_l36 (x0 : Nat) (x1 : Int32) (x2 : Int32) (x4 : Int32) (x5 : Int32) : (Int32 × Int32 × Hp) → Option ((Int32 × Int32 × Hp) ⊕ ((Int32 × Hp))) := fun a =>
  (gR a.2.2 x0 9 2).bind fun v6 =>
  (aI a.2.2 v6 x1).bind fun v7 =>
  if v7 ≤ a.2.1 then
  (some (.inr (a.1, a.2.2)))
  else (if a.1 = 0 then
  (some (.inr (a.1, a.2.2)))
  else ((fX9_isSo x0 (((iI 60) * x1) + a.2.1) x2 x5 a.2.2).bind fun r10 =>
  lt_ (a.2.1 + x2) fun z11 =>
  some (.inl (r10.1, z11, r10.2))))
def fX9_layersBy_b92 (x0 : Nat) (x1 : Int32) (x2 : Int32) (x5 : Int32) (y0 : Int32) (y1 : Int32) (s : Hp) : Option ((Int32 × Int32 × Hp) ⊕ ((Int32 × Hp))) :=
  lt_ (y0 ||| y1) fun z14 =>
  some (.inl (z14, x5 + iI 1, s))
def fX9_layersBy_b77 (x0 : Nat) (x1 : Int32) (x2 : Int32) (x4 : Int32) (x5 : Int32) (x6 : Int32) (s : Hp) : Option ((Int32 × Int32 × Hp) ⊕ ((Int32 × Hp))) :=
  if x6 = 0 then
  (fX9_layersBy_b92 x0 x1 x2 x5 x4 (iI 0) s)
  else (fX9_layersBy_b92 x0 x1 x2 x5 x4 (ish (iI 1) x5) s)
def fX9_layersBy_l19 (x0 : Nat) (x1 : Int32) (x2 : Int32) : (Int32 × Int32 × Hp) → Option ((Int32 × Int32 × Hp) ⊕ ((Int32 × Hp))) := fun a =>
  (gR a.2.2 x0 9 17).bind fun v3 =>
  (aI a.2.2 v3 (iI 2)).bind fun v4 =>
  if v4 ≤ a.2.1 then
  (some (.inr (a.1, a.2.2)))
  else ((iter (fX9_layersBy_l36 x0 x1 x2 a.1 a.2.1) FU ((iI 1), (iI 0), a.2.2)).bind fun r12 =>
  fX9_layersBy_b77 x0 x1 x2 a.1 a.2.1 r12.1 r12.2)
def fX9_layersBy (x0 : Nat) (x1 : Int32) (x2 : Int32) (s : Hp) : Option (Int32 × Hp) :=
  (ck s x0 9).bind fun _ =>
  (fX9_whyNotRow x0 x1 x2 s).bind fun r1 =>
  if r1.1 = 0 then
  ((iter (fX9_layersBy_l19 x0 x1 x2) FU ((iI 0), (iI 0), r1.2)).bind fun r15 =>
  some (r15.1, r15.2))
  else (some (r1.1, r1.2))
def fX9_smoke (x0 : Nat) (x1 : Int32) (s : Hp) : Option (Int32 × Hp) :=
  (ck s x0 9).bind fun _ =>
  (pI s x0 9 0 (iI 0)).bind fun s1 =>
  (fX9_layersBy x0 x1 (iI 5) s1).bind fun r2 =>
  some (r2.1, r2.2)
def fX9_kites (x0 : Nat) (x1 : Int32) (s : Hp) : Option (Int32 × Hp) :=
  (ck s x0 9).bind fun _ =>
  (pI s x0 9 0 (iI 0)).bind fun s1 =>
  (fX9_layersBy x0 x1 (iI 2) s1).bind fun r2 =>
  some (r2.1, r2.2)
def fX9_known_b84 (x0 : Nat) (x1 : Int32) (x2 : Int32) (x3 : Int32) (x4 : Int32) (x6 : Int32) (y0 : Int32) (s : Hp) : Option ((Int32 × Int32 × Hp) ⊕ ((Int32 × Hp))) :=
  some (.inl (y0, x6 + iI 1, s))
def fX9_known_l50 (x0 : Nat) (x1 : Int32) (x2 : Int32) (x3 : Int32) (x4 : Int32) : (Int32 × Int32 × Hp) → Option ((Int32 × Int32 × Hp) ⊕ ((Int32 × Hp))) := fun a =>
  if x2 ≤ a.2.1 then
  (some (.inr (a.1, a.2.2)))
  else (if a.1 = 0 then
  (some (.inr (a.1, a.2.2)))
  else ((fX9_windOf x0 x4 a.2.1 a.2.2).bind fun r12 =>
  (fX9_windOf x0 x1 a.2.1 r12.2).bind fun r13 =>
  if r12.1 = r13.1 then
  (fX9_known_b84 x0 x1 x2 x3 x4 a.2.1 (iI 1) r13.2)
  else (fX9_known_b84 x0 x1 x2 x3 x4 a.2.1 (iI 0) r13.2)))
def fX9_known_b103 (x0 : Nat) (x1 : Int32) (x2 : Int32) (x4 : Int32) (y0 : Int32) (y1 : Int32) (s : Hp) : Option ((Int32 × Int32 × Hp) ⊕ ((Int32 × Hp))) :=
  lt_ (y0 + y1) fun z17 =>
  some (.inl (z17, x4 + iI 1, s))
def fX9_known_b92 (x0 : Nat) (x1 : Int32) (x2 : Int32) (x3 : Int32) (x4 : Int32) (x5 : Int32) (s : Hp) : Option ((Int32 × Int32 × Hp) ⊕ ((Int32 × Hp))) :=
  if x5 = 0 then
  (fX9_known_b103 x0 x1 x2 x4 x3 (iI 0) s)
  else (fX9_known_b103 x0 x1 x2 x4 x3 (iI 1) s)
def fX9_known_l33 (x0 : Nat) (x1 : Int32) (x2 : Int32) : (Int32 × Int32 × Hp) → Option ((Int32 × Int32 × Hp) ⊕ ((Int32 × Hp))) := fun a =>
  (gR a.2.2 x0 9 17).bind fun v7 =>
  (aI a.2.2 v7 (iI 2)).bind fun v8 =>
  if v8 ≤ a.2.1 then
  (some (.inr (a.1, a.2.2)))
  else ((iter (fX9_known_l50 x0 x1 x2 a.1 a.2.1) FU ((iI 1), (iI 0), a.2.2)).bind fun r15 =>
  fX9_known_b92 x0 x1 x2 a.1 a.2.1 r15.1 r15.2)
def fX9_known_l18 (x0 : Nat) (x1 : Int32) : (Int32 × Hp) → Option ((Int32 × Hp) ⊕ ((Hp) ⊕ (Int32 × Hp))) := fun a =>
  (gR a.2 x0 9 17).bind fun v4 =>
  (aI a.2 v4 (iI 3)).bind fun v5 =>
  if v5 < a.1 then
  (some (.inr (.inl a.2)))
  else ((iter (fX9_known_l33 x0 x1 a.1) FU ((iI 0), (iI 0), a.2)).bind fun r18 =>
  if r18.1 = (iI 1) then
  (some (.inr (.inr (a.1, r18.2))))
  else (some (.inl (a.1 + iI 1, r18.2))))
def fX9_known (x0 : Nat) (x1 : Int32) (s : Hp) : Option (Int32 × Hp) :=
  (ck s x0 9).bind fun _ =>
  (pI s x0 9 0 (iI 0)).bind fun s1 =>
  (fX9_isLayer x0 x1 s1).bind fun r2 =>
  if r2.1 = 0 then
  (some ((iI (-2)), r2.2))
  else ((iter (fX9_known_l18 x0 x1) FU ((iI 0), r2.2)).bind (Sum.elim (fun r20a => some ((iI (-1)), r20a)) (fun r20b => some (r20b.1, r20b.2))))
def fX9_price (x0 : Nat) (x1 : Int32) (s : Hp) : Option (Int32 × Hp) :=
  (ck s x0 9).bind fun _ =>
  (pI s x0 9 0 (iI 0)).bind fun s1 =>
  (fX9_isLayer x0 x1 s1).bind fun r2 =>
  if r2.1 = 0 then
  (some ((iI (-2)), r2.2))
  else ((gR r2.2 x0 9 17).bind fun v4 =>
  (aI r2.2 v4 (iI 5)).bind fun v5 =>
  if x1 ≤ v5 then
  ((fX9_earns x0 x1 r2.2).bind fun r7 =>
  some (r7.1, r7.2))
  else (some ((iI (-1)), r2.2)))
def fX9_moneyBy (x0 : Nat) (x1 : Int32) (x2 : Int32) (x3 : Int32) (s : Hp) : Option (Int32 × Hp) :=
  (ck s x0 9).bind fun _ =>
  (gR s x0 9 23).bind fun v1 =>
  (aI s v1 (((iI 24) * x1) + x2)).bind fun v2 =>
  (gR s x0 9 23).bind fun v3 =>
  (sI s v3 (((iI 24) * x1) + x2) x3).bind fun s4 =>
  (fX9_asTold x0 s4).bind fun s5 =>
  (gR s5 x0 9 23).bind fun v6 =>
  (sI s5 v6 (((iI 24) * x1) + x2) v2).bind fun s7 =>
  (fX9_moneyNow x0 s7).bind fun r8 =>
  some (r8.1, r8.2)
def fX9_moneyPlain (x0 : Nat) (s : Hp) : Option (Int32 × Hp) :=
  (ck s x0 9).bind fun _ =>
  (fX9_asTold x0 s).bind fun s1 =>
  (fX9_moneyNow x0 s1).bind fun r2 =>
  some (r2.1, r2.2)
def fX9_worth_b29 (s : Hp) : Option (Int32 × Hp) :=
  some ((iI (-1000000)), s)
def fX9_worth (x0 : Nat) (x1 : Int32) (x2 : Int32) (x3 : Int32) (s : Hp) : Option (Int32 × Hp) :=
  (ck s x0 9).bind fun _ =>
  (pI s x0 9 0 (iI 0)).bind fun s1 =>
  (fX9_isShop x0 x1 s1).bind fun r2 =>
  if r2.1 = 0 then
  (fX9_worth_b29 r2.2)
  else ((fX9_isHour x0 (Int32.toInt64 x2) r2.2).bind fun r4 =>
  if r4.1 = 0 then
  (fX9_worth_b29 r4.2)
  else ((fX9_isAct x3 r4.2).bind fun r6 =>
  if r6.1 = 0 then
  (fX9_worth_b29 r6.2)
  else ((fX9_moneyBy x0 x1 x2 x3 r6.2).bind fun r8 =>
  (fX9_moneyPlain x0 r8.2).bind fun r9 =>
  some (r8.1 - r9.1, r9.2))))
def fX9_best_b96 (x0 : Nat) (x1 : Int32) (x2 : Int32) (x3 : Int32) (x4 : Int32) (x5 : Int32) (s : Hp) : Option ((Int32 × Int32 × Int32 × Hp) ⊕ ((Int32 × Int32 × Hp))) :=
  some (.inl (x1, x2, x5 + iI 1, s))
def fX9_best_l52 (x0 : Nat) (x3 : Int32) (x4 : Int32) : (Int32 × Int32 × Int32 × Hp) → Option ((Int32 × Int32 × Int32 × Hp) ⊕ ((Int32 × Int32 × Hp))) := fun a =>
  if (iI 3) ≤ a.2.2.1 then
  (some (.inr (a.1, a.2.1, a.2.2.2)))
  else ((fX9_moneyBy x0 x3 x4 a.2.2.1 a.2.2.2).bind fun r12 =>
  if a.2.1 < r12.1 then
  (lt_ ((((iI 1000) * x3) + ((iI 10) * x4)) + a.2.2.1) fun z14 =>
  fX9_best_b96 x0 z14 r12.1 x3 x4 a.2.2.1 r12.2)
  else (fX9_best_b96 x0 a.1 a.2.1 x3 x4 a.2.2.1 r12.2))
def fX9_best_l38 (x0 : Nat) (x3 : Int32) : (Int32 × Int32 × Int32 × Hp) → Option ((Int32 × Int32 × Int32 × Hp) ⊕ ((Int32 × Int32 × Hp))) := fun a =>
  (gR a.2.2.2 x0 9 17).bind fun v8 =>
  (aI a.2.2.2 v8 (iI 3)).bind fun v9 =>
  if v9 ≤ a.2.2.1 then
  (some (.inr (a.1, a.2.1, a.2.2.2)))
  else ((iter (fX9_best_l52 x0 x3 a.2.2.1) FU (a.1, a.2.1, (iI 0), a.2.2.2)).bind fun r15 =>
  some (.inl (r15.1, r15.2.1, a.2.2.1 + iI 1, r15.2.2)))
def fX9_best_l24 (x0 : Nat) : (Int32 × Int32 × Int32 × Hp) → Option ((Int32 × Int32 × Int32 × Hp) ⊕ ((Int32 × Hp))) := fun a =>
  (gR a.2.2.2 x0 9 17).bind fun v5 =>
  (aI a.2.2.2 v5 (iI 7)).bind fun v6 =>
  if v6 ≤ a.2.2.1 then
  (some (.inr (a.1, a.2.2.2)))
  else ((iter (fX9_best_l38 x0 a.2.2.1) FU (a.1, a.2.1, (iI 0), a.2.2.2)).bind fun r16 =>
  some (.inl (r16.1, r16.2.1, a.2.2.1 + iI 1, r16.2.2)))
def fX9_best (x0 : Nat) (s : Hp) : Option (Int32 × Hp) :=
  (ck s x0 9).bind fun _ =>
  (pI s x0 9 0 (iI 0)).bind fun s1 =>
  (fX9_isValley x0 s1).bind fun r2 =>
  if r2.1 = 0 then
  (some ((iI (-2)), r2.2))
  else ((fX9_moneyPlain x0 r2.2).bind fun r4 =>
  (iter (fX9_best_l24 x0) FU ((iI (-1)), r4.1, (iI 0), r4.2)).bind fun r17 =>
  some (r17.1, r17.2))
def fX9_other_b24 (s : Hp) : Option (Int32 × Hp) :=
  some ((iI (-1000000)), s)
def fX9_other_b99 (x0 : Nat) (x2 : Int32) (y0 : Nat) (y1 : Int32) (s : Hp) : Option (Int32 × Hp) :=
  (pI s y0 9 38 y1).bind fun s16 =>
  (fX9_goes x0 s16).bind fun s17 =>
  (fX9_moneyNow x0 s17).bind fun r18 =>
  some (r18.1 - x2, r18.2)
def fX9_other_b85 (x0 : Nat) (x1 : Int32) (x2 : Int32) (y0 : Nat) (y1 : Int32) (s : Hp) : Option (Int32 × Hp) :=
  (pI s y0 9 37 y1).bind fun s14 =>
  if x1 = (iI 4) then
  (fX9_other_b99 x0 x2 x0 (iI 1) s14)
  else (fX9_other_b99 x0 x2 x0 (iI 0) s14)
def fX9_other_b71 (x0 : Nat) (x1 : Int32) (x2 : Int32) (y0 : Nat) (y1 : Int32) (s : Hp) : Option (Int32 × Hp) :=
  (pI s y0 9 36 y1).bind fun s12 =>
  if x1 = (iI 3) then
  (fX9_other_b85 x0 x1 x2 x0 (iI 1) s12)
  else (fX9_other_b85 x0 x1 x2 x0 (iI 0) s12)
def fX9_other_b57 (x0 : Nat) (x1 : Int32) (x2 : Int32) (y0 : Nat) (y1 : Int32) (s : Hp) : Option (Int32 × Hp) :=
  (pZ s y0 9 34 y1).bind fun s10 =>
  if x1 = (iI 2) then
  (fX9_other_b71 x0 x1 x2 x0 (iI 1) s10)
  else (fX9_other_b71 x0 x1 x2 x0 (iI 0) s10)
def fX9_other_b43 (x0 : Nat) (x1 : Int32) (x2 : Int32) (y0 : Nat) (y1 : Int32) (s : Hp) : Option (Int32 × Hp) :=
  (pZ s y0 9 33 y1).bind fun s8 =>
  if x1 = (iI 1) then
  (fX9_other_b57 x0 x1 x2 x0 (iI 1) s8)
  else (fX9_other_b57 x0 x1 x2 x0 (iI 0) s8)
def fX9_other (x0 : Nat) (x1 : Int32) (s : Hp) : Option (Int32 × Hp) :=
  (ck s x0 9).bind fun _ =>
  (pI s x0 9 0 (iI 0)).bind fun s1 =>
  (fX9_isValley x0 s1).bind fun r2 =>
  if r2.1 = 0 then
  (fX9_other_b24 r2.2)
  else ((fX9_in (Int32.toInt64 x1) 0 4 r2.2).bind fun r4 =>
  if r4.1 = 0 then
  (fX9_other_b24 r4.2)
  else ((fX9_moneyPlain x0 r4.2).bind fun r6 =>
  if x1 = 0 then
  (fX9_other_b43 x0 x1 r6.1 x0 (iI 1) r6.2)
  else (fX9_other_b43 x0 x1 r6.1 x0 (iI 0) r6.2)))
def fX9_load_b39 (s : Hp) : Option (Int32 × Hp) :=
  some ((iI (-2)), s)
def fX9_load (x0 : Nat) (x1 : Int32) (x2 : Int32) (x3 : Int32) (s : Hp) : Option (Int32 × Hp) :=
  (ck s x0 9).bind fun _ =>
  (pI s x0 9 0 (iI 0)).bind fun s1 =>
  (fX9_isShop x0 x1 s1).bind fun r2 =>
  if r2.1 = 0 then
  (fX9_load_b39 r2.2)
  else ((fX9_in (Int32.toInt64 x2) 3 5 r2.2).bind fun r4 =>
  if r4.1 = 0 then
  (fX9_load_b39 r4.2)
  else ((fX9_in (Int32.toInt64 x3) 0 9 r4.2).bind fun r6 =>
  if r6.1 = 0 then
  (fX9_load_b39 r6.2)
  else ((gR r6.2 x0 9 21).bind fun v8 =>
  (aI r6.2 v8 (((iI 6) * x1) + x2)).bind fun v9 =>
  (gR r6.2 x0 9 21).bind fun v10 =>
  (sI r6.2 v10 (((iI 6) * x1) + x2) x3).bind fun s11 =>
  some (v9, s11))))
def fX9_turn_b34 (s : Hp) : Option (Int32 × Hp) :=
  some ((iI (-2)), s)
def fX9_turn (x0 : Nat) (x1 : Int32) (x2 : Int32) (x3 : Int32) (s : Hp) : Option (Int32 × Hp) :=
  (ck s x0 9).bind fun _ =>
  (pI s x0 9 0 (iI 0)).bind fun s1 =>
  (fX9_isLayer x0 x1 s1).bind fun r2 =>
  if r2.1 = 0 then
  (fX9_turn_b34 r2.2)
  else (if x1 = 0 then
  (fX9_turn_b34 r2.2)
  else ((fX9_isHour x0 (Int32.toInt64 x2) r2.2).bind fun r5 =>
  if r5.1 = 0 then
  (fX9_turn_b34 r5.2)
  else ((fX9_isWind (Int32.toInt64 x3) r5.2).bind fun r7 =>
  if r7.1 = 0 then
  (fX9_turn_b34 r7.2)
  else ((fX9_windOf x0 x1 x2 r7.2).bind fun r9 =>
  (gR r9.2 x0 9 18).bind fun v10 =>
  (sI r9.2 v10 (((iI 24) * x1) + x2) x3).bind fun s11 =>
  some (r9.1, s11)))))
def fX9_draws_b92 (x0 : Nat) (x3 : Int32) (x4 : Int64) (x6 : Int32) (x7 : Int32) (y0 : Nat) (y1 : Int32) (y2 : Int32) (s : Hp) : Option ((Int64 × Int32 × Hp) ⊕ ((Int64 × Hp))) :=
  (sZ s y0 y1 y2).bind fun s15 =>
  some (.inl (x4, x7 + iI 1, s15))
def fX9_draws_l32 (x0 : Nat) (x3 : Int32) (x6 : Int32) : (Int64 × Int32 × Hp) → Option ((Int64 × Int32 × Hp) ⊕ ((Int64 × Hp))) := fun a =>
  (gR a.2.2 x0 9 17).bind fun v7 =>
  (aI a.2.2 v7 (iI 2)).bind fun v8 =>
  if v8 ≤ a.2.1 then
  (some (.inr (a.1, a.2.2)))
  else ((mL ((1103515245 * a.1) + 12345) 2147483648).bind fun v10 =>
  (gR a.2.2 x0 9 39).bind fun v11 =>
  (dL v10 65536).bind fun v12 =>
  (mL v12 100).bind fun v13 =>
  if 0 ≤ (lg_cmp v13 (Int32.toInt64 x3)) then
  (fX9_draws_b92 x0 x3 v10 x6 a.2.1 v11 (((iI 24) * a.2.1) + x6) (iI 0) a.2.2)
  else (fX9_draws_b92 x0 x3 v10 x6 a.2.1 v11 (((iI 24) * a.2.1) + x6) (iI 1) a.2.2))
def fX9_draws_l10 (x0 : Nat) (x3 : Int32) : (Int64 × Int32 × Hp) → Option ((Int64 × Int32 × Hp) ⊕ ((Hp))) := fun a =>
  (gR a.2.2 x0 9 17).bind fun v2 =>
  (aI a.2.2 v2 (iI 3)).bind fun v3 =>
  if v3 ≤ a.2.1 then
  (some (.inr a.2.2))
  else ((gR a.2.2 x0 9 39).bind fun v5 =>
  (sZ a.2.2 v5 a.2.1 (iI 0)).bind fun s6 =>
  (iter (fX9_draws_l32 x0 x3 a.2.1) FU (a.1, (iI 1), s6)).bind fun r16 =>
  some (.inl (r16.1, a.2.1 + iI 1, r16.2)))
def fX9_draws (x0 : Nat) (x1 : Int64) (x3 : Int32) (s : Hp) : Option (Hp) :=
  (ck s x0 9).bind fun _ =>
  (fX9_plainly x0 s).bind fun s1 =>
  (iter (fX9_draws_l10 x0 x3) FU (x1, (iI 0), s1)).bind fun r17 =>
  (pZ r17 x0 9 35 (iI 1)).bind fun s18 =>
  (fX9_goes x0 s18).bind fun s19 =>
  some s19
def fX9_isDraw_b35 (s : Hp) : Option (Int32 × Hp) :=
  some ((iI 0), s)
def fX9_isDraw (x0 : Nat) (x1 : Int32) (x2 : Int32) (s : Hp) : Option (Int32 × Hp) :=
  (ck s x0 9).bind fun _ =>
  (fX9_isValley x0 s).bind fun r1 =>
  if r1.1 = 0 then
  (fX9_isDraw_b35 r1.2)
  else ((fX9_in (Int32.toInt64 x1) 0 2000000000 r1.2).bind fun r3 =>
  if r3.1 = 0 then
  (fX9_isDraw_b35 r3.2)
  else ((fX9_in (Int32.toInt64 x2) 0 100 r3.2).bind fun r5 =>
  if r5.1 = 0 then
  (fX9_isDraw_b35 r5.2)
  else (some ((iI 1), r5.2))))
def fX9_gust_b32 (s : Hp) : Option (Int32 × Hp) :=
  some ((iI (-2)), s)
def fX9_gust (x0 : Nat) (x1 : Int32) (x2 : Int32) (x3 : Int32) (x4 : Int32) (s : Hp) : Option (Int32 × Hp) :=
  (ck s x0 9).bind fun _ =>
  (pI s x0 9 0 (iI 0)).bind fun s1 =>
  (fX9_isDraw x0 x1 x2 s1).bind fun r2 =>
  if r2.1 = 0 then
  (fX9_gust_b32 r2.2)
  else ((fX9_isShop x0 x3 r2.2).bind fun r4 =>
  if r4.1 = 0 then
  (fX9_gust_b32 r4.2)
  else ((fX9_isHour x0 (Int32.toInt64 x4) r4.2).bind fun r6 =>
  if r6.1 = 0 then
  (fX9_gust_b32 r6.2)
  else ((fX9_draws x0 (Int32.toInt64 x1) x2 r6.2).bind fun s8 =>
  (fX9_spotOf x0 x3 x4 (iI 0) s8).bind fun r9 =>
  (fX9_spotOf x0 x3 x4 (iI 1) r9.2).bind fun r10 =>
  (fX9_spotOf x0 x3 x4 (iI 2) r10.2).bind fun r11 =>
  some ((((iI 100) * r9.1) + ((iI 10) * r10.1)) + r11.1, r11.2))))
def fX9_chance_b48 (s : Hp) : Option (Int32 × Hp) :=
  some ((iI (-2)), s)
def fX9_chance_b121 (x0 : Nat) (x1 : Int32) (x2 : Int32) (x3 : Int32) (x4 : Int32) (x5 : Int32) (x6 : Int32) (x8 : Int32) (y0 : Int32) (y1 : Int32) (s : Hp) : Option ((Int32 × Int32 × Hp) ⊕ ((Int32 × Hp))) :=
  lt_ (y0 + y1) fun z16 =>
  some (.inl (z16, x8 + iI 1, s))
def fX9_chance_b120 (x0 : Nat) (x1 : Int32) (x2 : Int32) (x3 : Int32) (x4 : Int32) (x5 : Int32) (x6 : Int32) (x8 : Int32) (y0 : Int32) (s : Hp) : Option ((Int32 × Int32 × Hp) ⊕ ((Int32 × Hp))) :=
  fX9_chance_b121 x0 x1 x2 x3 x4 x5 x6 x8 y0 (iI 0) s
def fX9_chance_l57 (x0 : Nat) (x1 : Int32) (x2 : Int32) (x3 : Int32) (x4 : Int32) (x5 : Int32) (x6 : Int32) : (Int32 × Int32 × Hp) → Option ((Int32 × Int32 × Hp) ⊕ ((Int32 × Hp))) := fun a =>
  if x2 ≤ a.2.1 then
  (some (.inr (a.1, a.2.2)))
  else ((fX9_draws x0 ((Int32.toInt64 x1) + (Int32.toInt64 a.2.1)) x3 a.2.2).bind fun s11 =>
  (gR s11 x0 9 17).bind fun v12 =>
  (aI s11 v12 (iI 3)).bind fun v13 =>
  (fX9_spotOf x0 x4 (v13 - (iI 1)) (iI 0) s11).bind fun r14 =>
  if r14.1 = x5 then
  ((gR r14.2 x0 9 17).bind fun v17 =>
  (aI r14.2 v17 (iI 3)).bind fun v18 =>
  (fX9_spotOf x0 x4 (v18 - (iI 1)) (iI 1) r14.2).bind fun r19 =>
  if r19.1 = x6 then
  (fX9_chance_b121 x0 x1 x2 x3 x4 x5 x6 a.2.1 a.1 (iI 1) r19.2)
  else (fX9_chance_b120 x0 x1 x2 x3 x4 x5 x6 a.2.1 a.1 r19.2))
  else (fX9_chance_b120 x0 x1 x2 x3 x4 x5 x6 a.2.1 a.1 r14.2))
def fX9_chance (x0 : Nat) (x1 : Int32) (x2 : Int32) (x3 : Int32) (x4 : Int32) (x5 : Int32) (x6 : Int32) (s : Hp) : Option (Int32 × Hp) :=
  (ck s x0 9).bind fun _ =>
  (pI s x0 9 0 (iI 0)).bind fun s1 =>
  (fX9_isDraw x0 x1 x3 s1).bind fun r2 =>
  if r2.1 = 0 then
  (fX9_chance_b48 r2.2)
  else ((fX9_in (Int32.toInt64 x2) 1 20 r2.2).bind fun r4 =>
  if r4.1 = 0 then
  (fX9_chance_b48 r4.2)
  else ((fX9_isShop x0 x4 r4.2).bind fun r6 =>
  if r6.1 = 0 then
  (fX9_chance_b48 r6.2)
  else ((fX9_isColumn x0 (Int32.toInt64 x5) (Int32.toInt64 x6) r6.2).bind fun r8 =>
  if r8.1 = 0 then
  (fX9_chance_b48 r8.2)
  else ((iter (fX9_chance_l57 x0 x1 x2 x3 x4 x5 x6) FU ((iI 0), (iI 0), r8.2)).bind fun r21 =>
  some (r21.1, r21.2)))))
def fX9_takings (x0 : Nat) (x1 : Int32) (x2 : Int32) (s : Hp) : Option (Int32 × Hp) :=
  (ck s x0 9).bind fun _ =>
  (pI s x0 9 0 (iI 0)).bind fun s1 =>
  (fX9_isDraw x0 x1 x2 s1).bind fun r2 =>
  if r2.1 = 0 then
  (some ((iI (-2)), r2.2))
  else ((fX9_draws x0 (Int32.toInt64 x1) x2 r2.2).bind fun s4 =>
  (fX9_moneyNow x0 s4).bind fun r5 =>
  some (r5.1, r5.2))
def fX9_count_b99 (x0 : Nat) (x3 : Int32) (y0 : Int32) (y1 : Int32) (s : Hp) : Option ((Int32 × Int32 × Hp) ⊕ ((Int32 × Hp))) :=
  lt_ (y0 + y1) fun z17 =>
  some (.inl (z17, x3 + iI 1, s))
def fX9_count_l78 (x0 : Nat) : (Int32 × Int32 × Hp) → Option ((Int32 × Int32 × Hp) ⊕ ((Int32 × Hp))) := fun a =>
  if (iI 4) ≤ a.2.1 then
  (some (.inr (a.1, a.2.2)))
  else ((gR a.2.2 x0 9 1).bind fun v14 =>
  (aI a.2.2 v14 a.2.1).bind fun v15 =>
  if v15 = (iI (-1)) then
  (fX9_count_b99 x0 a.2.1 a.1 (iI 0) a.2.2)
  else (fX9_count_b99 x0 a.2.1 a.1 (iI 1) a.2.2))
def fX9_count (x0 : Nat) (x1 : Int32) (s : Hp) : Option (Int32 × Hp) :=
  (ck s x0 9).bind fun _ =>
  (pI s x0 9 0 (iI 0)).bind fun s1 =>
  (fX9_in (Int32.toInt64 x1) 0 8 s1).bind fun r2 =>
  if r2.1 = 0 then
  (if x1 = (iI 9) then
  ((gR r2.2 x0 9 16).bind fun v5 =>
  (aI r2.2 v5 (iI 0)).bind fun v6 =>
  some (v6, r2.2))
  else (if x1 = (iI 10) then
  ((gI r2.2 x0 9 6).bind fun v8 =>
  some (v8, r2.2))
  else (if x1 = (iI 11) then
  ((gR r2.2 x0 9 17).bind fun v10 =>
  (aI r2.2 v10 (iI 14)).bind fun v11 =>
  some (v11, r2.2))
  else (if x1 = (iI 12) then
  ((iter (fX9_count_l78 x0) FU ((iI 0), (iI 0), r2.2)).bind fun r18 =>
  some (r18.1, r18.2))
  else (some ((iI (-1)), r2.2))))))
  else ((gR r2.2 x0 9 17).bind fun v19 =>
  (aI r2.2 v19 x1).bind fun v20 =>
  some (v20, r2.2))
def fX9_keep (x0 : Nat) (x1 : Int32) (s : Hp) : Option (Int32 × Hp) :=
  (ck s x0 9).bind fun _ =>
  (pI s x0 9 0 (iI 0)).bind fun s1 =>
  (fX9_in (Int32.toInt64 x1) 0 2 s1).bind fun r2 =>
  if r2.1 = 0 then
  (some ((iI (-2)), r2.2))
  else ((fX9_copyValley x0 (iI 0) ((iI 1) + x1) r2.2).bind fun s4 =>
  (gR s4 x0 9 25).bind fun v5 =>
  (sZ s4 v5 x1 (iI 1)).bind fun s6 =>
  some ((iI 0), s6))
def fX9_back (x0 : Nat) (x1 : Int32) (s : Hp) : Option (Int32 × Hp) :=
  (ck s x0 9).bind fun _ =>
  (pI s x0 9 0 (iI 0)).bind fun s1 =>
  (fX9_in (Int32.toInt64 x1) 0 2 s1).bind fun r2 =>
  if r2.1 = 0 then
  (some ((iI (-2)), r2.2))
  else ((gR r2.2 x0 9 25).bind fun v4 =>
  (aZ r2.2 v4 x1).bind fun v5 =>
  if v5 = 0 then
  (some ((iI (-6)), r2.2))
  else ((fX9_copyValley x0 ((iI 1) + x1) (iI 0) r2.2).bind fun s7 =>
  some ((iI 0), s7)))
def fL_law_b2428 (n : Nat) (xs : Nat → Int32) (K : Nat → Nat) (x1 : Nat) (x2 : Nat) (x3 : Int32) (s : Hp) : Option ((Int32 × Hp) ⊕ ((Hp) ⊕ (Hp))) :=
  some (.inl (x3 + iI 7, s))
def fL_law_l18 (n : Nat) (xs : Nat → Int32) (K : Nat → Nat) (x1 : Nat) (x2 : Nat) : (Int32 × Hp) → Option ((Int32 × Hp) ⊕ ((Hp) ⊕ (Hp))) := fun a =>
  if ((Int32.ofNat n) - (iI 7)) < a.1 then
  (some (.inr (.inl a.2)))
  else ((xI n xs a.1).bind fun v6 =>
  if (v6 &&& (iI 63)) = (iI 0) then
  ((xI n xs (a.1 + (iI 1))).bind fun v8 =>
  (xI n xs (a.1 + (iI 2))).bind fun v9 =>
  (xI n xs (a.1 + (iI 3))).bind fun v10 =>
  (xI n xs (a.1 + (iI 4))).bind fun v11 =>
  (xI n xs (a.1 + (iI 5))).bind fun v12 =>
  (fX8_feed x1 v8 v9 v10 v11 v12 a.2).bind fun r13 =>
  (xI n xs (a.1 + (iI 1))).bind fun v14 =>
  (xI n xs (a.1 + (iI 2))).bind fun v15 =>
  (xI n xs (a.1 + (iI 3))).bind fun v16 =>
  (xI n xs (a.1 + (iI 4))).bind fun v17 =>
  (xI n xs (a.1 + (iI 5))).bind fun v18 =>
  (fX9_feed x2 v14 v15 v16 v17 v18 r13.2).bind fun r19 =>
  if r13.1 = r19.1 then
  (fL_law_b2428 n xs K x1 x2 a.1 r19.2)
  else (some (.inr (.inr r19.2))))
  else (if (v6 &&& (iI 63)) = (iI 1) then
  ((xI n xs (a.1 + (iI 1))).bind fun v22 =>
  (fX8_end x1 v22 a.2).bind fun r23 =>
  (xI n xs (a.1 + (iI 1))).bind fun v24 =>
  (fX9_end x2 v24 r23.2).bind fun r25 =>
  if r23.1 = r25.1 then
  (fL_law_b2428 n xs K x1 x2 a.1 r25.2)
  else (some (.inr (.inr r25.2))))
  else (if (v6 &&& (iI 63)) = (iI 2) then
  ((fX8_valley K x1 a.2).bind fun r28 =>
  (fX9_valley x2 r28.2).bind fun r29 =>
  if r28.1 = r29.1 then
  (fL_law_b2428 n xs K x1 x2 a.1 r29.2)
  else (some (.inr (.inr r29.2))))
  else (if (v6 &&& (iI 63)) = (iI 3) then
  ((xI n xs (a.1 + (iI 1))).bind fun v32 =>
  (fX8_fault x1 v32 a.2).bind fun r33 =>
  (xI n xs (a.1 + (iI 1))).bind fun v34 =>
  (fX9_fault x2 v34 r33.2).bind fun r35 =>
  if r33.1 = r35.1 then
  (fL_law_b2428 n xs K x1 x2 a.1 r35.2)
  else (some (.inr (.inr r35.2))))
  else (if (v6 &&& (iI 63)) = (iI 4) then
  ((xI n xs (a.1 + (iI 1))).bind fun v38 =>
  (xI n xs (a.1 + (iI 2))).bind fun v39 =>
  (fX8_wind x1 v38 v39 a.2).bind fun r40 =>
  (xI n xs (a.1 + (iI 1))).bind fun v41 =>
  (xI n xs (a.1 + (iI 2))).bind fun v42 =>
  (fX9_wind x2 v41 v42 r40.2).bind fun r43 =>
  if r40.1 = r43.1 then
  (fL_law_b2428 n xs K x1 x2 a.1 r43.2)
  else (some (.inr (.inr r43.2))))
  else (if (v6 &&& (iI 63)) = (iI 5) then
  ((xI n xs (a.1 + (iI 1))).bind fun v46 =>
  (xI n xs (a.1 + (iI 2))).bind fun v47 =>
  (fX8_often x1 v46 v47 a.2).bind fun r48 =>
  (xI n xs (a.1 + (iI 1))).bind fun v49 =>
  (xI n xs (a.1 + (iI 2))).bind fun v50 =>
  (fX9_often x2 v49 v50 r48.2).bind fun r51 =>
  if r48.1 = r51.1 then
  (fL_law_b2428 n xs K x1 x2 a.1 r51.2)
  else (some (.inr (.inr r51.2))))
  else (if (v6 &&& (iI 63)) = (iI 6) then
  ((xI n xs (a.1 + (iI 1))).bind fun v54 =>
  (xI n xs (a.1 + (iI 2))).bind fun v55 =>
  (fX8_shop x1 v54 v55 a.2).bind fun r56 =>
  (xI n xs (a.1 + (iI 1))).bind fun v57 =>
  (xI n xs (a.1 + (iI 2))).bind fun v58 =>
  (fX9_shop x2 v57 v58 r56.2).bind fun r59 =>
  if r56.1 = r59.1 then
  (fL_law_b2428 n xs K x1 x2 a.1 r59.2)
  else (some (.inr (.inr r59.2))))
  else (if (v6 &&& (iI 63)) = (iI 7) then
  ((xI n xs (a.1 + (iI 1))).bind fun v62 =>
  (xI n xs (a.1 + (iI 2))).bind fun v63 =>
  (fX8_door x1 v62 v63 a.2).bind fun r64 =>
  (xI n xs (a.1 + (iI 1))).bind fun v65 =>
  (xI n xs (a.1 + (iI 2))).bind fun v66 =>
  (fX9_door x2 v65 v66 r64.2).bind fun r67 =>
  if r64.1 = r67.1 then
  (fL_law_b2428 n xs K x1 x2 a.1 r67.2)
  else (some (.inr (.inr r67.2))))
  else (if (v6 &&& (iI 63)) = (iI 8) then
  ((xI n xs (a.1 + (iI 1))).bind fun v70 =>
  (xI n xs (a.1 + (iI 2))).bind fun v71 =>
  (fX8_act x1 v70 v71 a.2).bind fun r72 =>
  (xI n xs (a.1 + (iI 1))).bind fun v73 =>
  (xI n xs (a.1 + (iI 2))).bind fun v74 =>
  (fX9_act x2 v73 v74 r72.2).bind fun r75 =>
  if r72.1 = r75.1 then
  (fL_law_b2428 n xs K x1 x2 a.1 r75.2)
  else (some (.inr (.inr r75.2))))
  else (if (v6 &&& (iI 63)) = (iI 9) then
  ((xI n xs (a.1 + (iI 1))).bind fun v78 =>
  (xI n xs (a.1 + (iI 2))).bind fun v79 =>
  (xI n xs (a.1 + (iI 3))).bind fun v80 =>
  (fX8_plan x1 v78 v79 v80 a.2).bind fun r81 =>
  (xI n xs (a.1 + (iI 1))).bind fun v82 =>
  (xI n xs (a.1 + (iI 2))).bind fun v83 =>
  (xI n xs (a.1 + (iI 3))).bind fun v84 =>
  (fX9_plan x2 v82 v83 v84 r81.2).bind fun r85 =>
  if r81.1 = r85.1 then
  (fL_law_b2428 n xs K x1 x2 a.1 r85.2)
  else (some (.inr (.inr r85.2))))
  else (if (v6 &&& (iI 63)) = (iI 10) then
  ((fX8_undo x1 a.2).bind fun r88 =>
  (fX9_undo x2 r88.2).bind fun r89 =>
  if r88.1 = r89.1 then
  (fL_law_b2428 n xs K x1 x2 a.1 r89.2)
  else (some (.inr (.inr r89.2))))
  else (if (v6 &&& (iI 63)) = (iI 11) then
  ((xI n xs (a.1 + (iI 1))).bind fun v92 =>
  (xI n xs (a.1 + (iI 2))).bind fun v93 =>
  (fX8_changed x1 v92 v93 a.2).bind fun r94 =>
  (xI n xs (a.1 + (iI 1))).bind fun v95 =>
  (xI n xs (a.1 + (iI 2))).bind fun v96 =>
  (fX9_changed x2 v95 v96 r94.2).bind fun r97 =>
  if r94.1 = r97.1 then
  (fL_law_b2428 n xs K x1 x2 a.1 r97.2)
  else (some (.inr (.inr r97.2))))
  else (if (v6 &&& (iI 63)) = (iI 12) then
  ((xI n xs (a.1 + (iI 1))).bind fun v100 =>
  (xI n xs (a.1 + (iI 2))).bind fun v101 =>
  (xI n xs (a.1 + (iI 3))).bind fun v102 =>
  (fX8_where x1 v100 v101 v102 a.2).bind fun r103 =>
  (xI n xs (a.1 + (iI 1))).bind fun v104 =>
  (xI n xs (a.1 + (iI 2))).bind fun v105 =>
  (xI n xs (a.1 + (iI 3))).bind fun v106 =>
  (fX9_where x2 v104 v105 v106 r103.2).bind fun r107 =>
  if r103.1 = r107.1 then
  (fL_law_b2428 n xs K x1 x2 a.1 r107.2)
  else (some (.inr (.inr r107.2))))
  else (if (v6 &&& (iI 63)) = (iI 13) then
  ((xI n xs (a.1 + (iI 1))).bind fun v110 =>
  (xI n xs (a.1 + (iI 2))).bind fun v111 =>
  (fX8_why x1 v110 v111 a.2).bind fun r112 =>
  (xI n xs (a.1 + (iI 1))).bind fun v113 =>
  (xI n xs (a.1 + (iI 2))).bind fun v114 =>
  (fX9_why x2 v113 v114 r112.2).bind fun r115 =>
  if r112.1 = r115.1 then
  (fL_law_b2428 n xs K x1 x2 a.1 r115.2)
  else (some (.inr (.inr r115.2))))
  else (if (v6 &&& (iI 63)) = (iI 14) then
  ((xI n xs (a.1 + (iI 1))).bind fun v118 =>
  (fX8_vain x1 v118 a.2).bind fun r119 =>
  (xI n xs (a.1 + (iI 1))).bind fun v120 =>
  (fX9_vain x2 v120 r119.2).bind fun r121 =>
  if r119.1 = r121.1 then
  (fL_law_b2428 n xs K x1 x2 a.1 r121.2)
  else (some (.inr (.inr r121.2))))
  else (if (v6 &&& (iI 63)) = (iI 15) then
  ((xI n xs (a.1 + (iI 1))).bind fun v124 =>
  (xI n xs (a.1 + (iI 2))).bind fun v125 =>
  (fX8_blown x1 v124 v125 a.2).bind fun r126 =>
  (xI n xs (a.1 + (iI 1))).bind fun v127 =>
  (xI n xs (a.1 + (iI 2))).bind fun v128 =>
  (fX9_blown x2 v127 v128 r126.2).bind fun r129 =>
  if r126.1 = r129.1 then
  (fL_law_b2428 n xs K x1 x2 a.1 r129.2)
  else (some (.inr (.inr r129.2))))
  else (if (v6 &&& (iI 63)) = (iI 16) then
  ((xI n xs (a.1 + (iI 1))).bind fun v132 =>
  (xI n xs (a.1 + (iI 2))).bind fun v133 =>
  (fX8_sales x1 v132 v133 a.2).bind fun r134 =>
  (xI n xs (a.1 + (iI 1))).bind fun v135 =>
  (xI n xs (a.1 + (iI 2))).bind fun v136 =>
  (fX9_sales x2 v135 v136 r134.2).bind fun r137 =>
  if r134.1 = r137.1 then
  (fL_law_b2428 n xs K x1 x2 a.1 r137.2)
  else (some (.inr (.inr r137.2))))
  else (if (v6 &&& (iI 63)) = (iI 17) then
  ((xI n xs (a.1 + (iI 1))).bind fun v140 =>
  (xI n xs (a.1 + (iI 2))).bind fun v141 =>
  (fX8_sold x1 v140 v141 a.2).bind fun r142 =>
  (xI n xs (a.1 + (iI 1))).bind fun v143 =>
  (xI n xs (a.1 + (iI 2))).bind fun v144 =>
  (fX9_sold x2 v143 v144 r142.2).bind fun r145 =>
  if r142.1 = r145.1 then
  (fL_law_b2428 n xs K x1 x2 a.1 r145.2)
  else (some (.inr (.inr r145.2))))
  else (if (v6 &&& (iI 63)) = (iI 18) then
  ((fX8_money x1 a.2).bind fun r148 =>
  (fX9_money x2 r148.2).bind fun r149 =>
  if r148.1 = r149.1 then
  (fL_law_b2428 n xs K x1 x2 a.1 r149.2)
  else (some (.inr (.inr r149.2))))
  else (if (v6 &&& (iI 63)) = (iI 19) then
  ((fX8_richest x1 a.2).bind fun r152 =>
  (fX9_richest x2 r152.2).bind fun r153 =>
  if r152.1 = r153.1 then
  (fL_law_b2428 n xs K x1 x2 a.1 r153.2)
  else (some (.inr (.inr r153.2))))
  else (if (v6 &&& (iI 63)) = (iI 20) then
  ((xI n xs (a.1 + (iI 1))).bind fun v156 =>
  (xI n xs (a.1 + (iI 2))).bind fun v157 =>
  (fX8_meets x1 v156 v157 a.2).bind fun r158 =>
  (xI n xs (a.1 + (iI 1))).bind fun v159 =>
  (xI n xs (a.1 + (iI 2))).bind fun v160 =>
  (fX9_meets x2 v159 v160 r158.2).bind fun r161 =>
  if r158.1 = r161.1 then
  (fL_law_b2428 n xs K x1 x2 a.1 r161.2)
  else (some (.inr (.inr r161.2))))
  else (if (v6 &&& (iI 63)) = (iI 21) then
  ((xI n xs (a.1 + (iI 1))).bind fun v164 =>
  (xI n xs (a.1 + (iI 2))).bind fun v165 =>
  (xI n xs (a.1 + (iI 3))).bind fun v166 =>
  (fX8_over x1 v164 v165 v166 a.2).bind fun r167 =>
  (xI n xs (a.1 + (iI 1))).bind fun v168 =>
  (xI n xs (a.1 + (iI 2))).bind fun v169 =>
  (xI n xs (a.1 + (iI 3))).bind fun v170 =>
  (fX9_over x2 v168 v169 v170 r167.2).bind fun r171 =>
  if r167.1 = r171.1 then
  (fL_law_b2428 n xs K x1 x2 a.1 r171.2)
  else (some (.inr (.inr r171.2))))
  else (if (v6 &&& (iI 63)) = (iI 22) then
  ((xI n xs (a.1 + (iI 1))).bind fun v174 =>
  (fX8_grounded x1 v174 a.2).bind fun r175 =>
  (xI n xs (a.1 + (iI 1))).bind fun v176 =>
  (fX9_grounded x2 v176 r175.2).bind fun r177 =>
  if r175.1 = r177.1 then
  (fL_law_b2428 n xs K x1 x2 a.1 r177.2)
  else (some (.inr (.inr r177.2))))
  else (if (v6 &&& (iI 63)) = (iI 23) then
  ((xI n xs (a.1 + (iI 1))).bind fun v180 =>
  (xI n xs (a.1 + (iI 2))).bind fun v181 =>
  (xI n xs (a.1 + (iI 3))).bind fun v182 =>
  (xI n xs (a.1 + (iI 4))).bind fun v183 =>
  (fX8_least x1 v180 v181 v182 v183 a.2).bind fun r184 =>
  (xI n xs (a.1 + (iI 1))).bind fun v185 =>
  (xI n xs (a.1 + (iI 2))).bind fun v186 =>
  (xI n xs (a.1 + (iI 3))).bind fun v187 =>
  (xI n xs (a.1 + (iI 4))).bind fun v188 =>
  (fX9_least x2 v185 v186 v187 v188 r184.2).bind fun r189 =>
  if r184.1 = r189.1 then
  (fL_law_b2428 n xs K x1 x2 a.1 r189.2)
  else (some (.inr (.inr r189.2))))
  else (if (v6 &&& (iI 63)) = (iI 24) then
  ((xI n xs (a.1 + (iI 1))).bind fun v192 =>
  (xI n xs (a.1 + (iI 2))).bind fun v193 =>
  (xI n xs (a.1 + (iI 3))).bind fun v194 =>
  (xI n xs (a.1 + (iI 4))).bind fun v195 =>
  (fX8_soonest x1 v192 v193 v194 v195 a.2).bind fun r196 =>
  (xI n xs (a.1 + (iI 1))).bind fun v197 =>
  (xI n xs (a.1 + (iI 2))).bind fun v198 =>
  (xI n xs (a.1 + (iI 3))).bind fun v199 =>
  (xI n xs (a.1 + (iI 4))).bind fun v200 =>
  (fX9_soonest x2 v197 v198 v199 v200 r196.2).bind fun r201 =>
  if r196.1 = r201.1 then
  (fL_law_b2428 n xs K x1 x2 a.1 r201.2)
  else (some (.inr (.inr r201.2))))
  else (if (v6 &&& (iI 63)) = (iI 25) then
  ((xI n xs (a.1 + (iI 1))).bind fun v204 =>
  (xI n xs (a.1 + (iI 2))).bind fun v205 =>
  (xI n xs (a.1 + (iI 3))).bind fun v206 =>
  (xI n xs (a.1 + (iI 4))).bind fun v207 =>
  (xI n xs (a.1 + (iI 5))).bind fun v208 =>
  (fX8_way x1 v204 v205 v206 v207 v208 a.2).bind fun r209 =>
  (xI n xs (a.1 + (iI 1))).bind fun v210 =>
  (xI n xs (a.1 + (iI 2))).bind fun v211 =>
  (xI n xs (a.1 + (iI 3))).bind fun v212 =>
  (xI n xs (a.1 + (iI 4))).bind fun v213 =>
  (xI n xs (a.1 + (iI 5))).bind fun v214 =>
  (fX9_way x2 v210 v211 v212 v213 v214 r209.2).bind fun r215 =>
  if r209.1 = r215.1 then
  (fL_law_b2428 n xs K x1 x2 a.1 r215.2)
  else (some (.inr (.inr r215.2))))
  else (if (v6 &&& (iI 63)) = (iI 26) then
  ((xI n xs (a.1 + (iI 1))).bind fun v218 =>
  (xI n xs (a.1 + (iI 2))).bind fun v219 =>
  (fX8_spots x1 v218 v219 a.2).bind fun r220 =>
  (xI n xs (a.1 + (iI 1))).bind fun v221 =>
  (xI n xs (a.1 + (iI 2))).bind fun v222 =>
  (fX9_spots x2 v221 v222 r220.2).bind fun r223 =>
  if r220.1 = r223.1 then
  (fL_law_b2428 n xs K x1 x2 a.1 r223.2)
  else (some (.inr (.inr r223.2))))
  else (if (v6 &&& (iI 63)) = (iI 27) then
  ((xI n xs (a.1 + (iI 1))).bind fun v226 =>
  (xI n xs (a.1 + (iI 2))).bind fun v227 =>
  (fX8_columns x1 v226 v227 a.2).bind fun r228 =>
  (xI n xs (a.1 + (iI 1))).bind fun v229 =>
  (xI n xs (a.1 + (iI 2))).bind fun v230 =>
  (fX9_columns x2 v229 v230 r228.2).bind fun r231 =>
  if r228.1 = r231.1 then
  (fL_law_b2428 n xs K x1 x2 a.1 r231.2)
  else (some (.inr (.inr r231.2))))
  else (if (v6 &&& (iI 63)) = (iI 28) then
  ((xI n xs (a.1 + (iI 1))).bind fun v234 =>
  (xI n xs (a.1 + (iI 2))).bind fun v235 =>
  (fX8_ways x1 v234 v235 a.2).bind fun r236 =>
  (xI n xs (a.1 + (iI 1))).bind fun v237 =>
  (xI n xs (a.1 + (iI 2))).bind fun v238 =>
  (fX9_ways x2 v237 v238 r236.2).bind fun r239 =>
  if (lg_cmp r236.1 r239.1) = 0 then
  (fL_law_b2428 n xs K x1 x2 a.1 r239.2)
  else (some (.inr (.inr r239.2))))
  else (if (v6 &&& (iI 63)) = (iI 29) then
  ((xI n xs (a.1 + (iI 1))).bind fun v242 =>
  (xI n xs (a.1 + (iI 2))).bind fun v243 =>
  (fX8_tour x1 v242 v243 a.2).bind fun r244 =>
  (xI n xs (a.1 + (iI 1))).bind fun v245 =>
  (xI n xs (a.1 + (iI 2))).bind fun v246 =>
  (fX9_tour x2 v245 v246 r244.2).bind fun r247 =>
  if r244.1 = r247.1 then
  (fL_law_b2428 n xs K x1 x2 a.1 r247.2)
  else (some (.inr (.inr r247.2))))
  else (if (v6 &&& (iI 63)) = (iI 30) then
  ((xI n xs (a.1 + (iI 1))).bind fun v250 =>
  (xI n xs (a.1 + (iI 2))).bind fun v251 =>
  (fX8_done x1 v250 v251 a.2).bind fun r252 =>
  (xI n xs (a.1 + (iI 1))).bind fun v253 =>
  (xI n xs (a.1 + (iI 2))).bind fun v254 =>
  (fX9_done x2 v253 v254 r252.2).bind fun r255 =>
  if r252.1 = r255.1 then
  (fL_law_b2428 n xs K x1 x2 a.1 r255.2)
  else (some (.inr (.inr r255.2))))
  else (if (v6 &&& (iI 63)) = (iI 31) then
  ((xI n xs (a.1 + (iI 1))).bind fun v258 =>
  (xI n xs (a.1 + (iI 2))).bind fun v259 =>
  (xI n xs (a.1 + (iI 3))).bind fun v260 =>
  (fX8_doors x1 v258 v259 v260 a.2).bind fun r261 =>
  (xI n xs (a.1 + (iI 1))).bind fun v262 =>
  (xI n xs (a.1 + (iI 2))).bind fun v263 =>
  (xI n xs (a.1 + (iI 3))).bind fun v264 =>
  (fX9_doors x2 v262 v263 v264 r261.2).bind fun r265 =>
  if r261.1 = r265.1 then
  (fL_law_b2428 n xs K x1 x2 a.1 r265.2)
  else (some (.inr (.inr r265.2))))
  else (if (v6 &&& (iI 63)) = (iI 32) then
  ((xI n xs (a.1 + (iI 1))).bind fun v268 =>
  (fX8_fair x1 v268 a.2).bind fun r269 =>
  (xI n xs (a.1 + (iI 1))).bind fun v270 =>
  (fX9_fair x2 v270 r269.2).bind fun r271 =>
  if r269.1 = r271.1 then
  (fL_law_b2428 n xs K x1 x2 a.1 r271.2)
  else (some (.inr (.inr r271.2))))
  else (if (v6 &&& (iI 63)) = (iI 33) then
  ((xI n xs (a.1 + (iI 1))).bind fun v274 =>
  (fX8_aloft x1 v274 a.2).bind fun r275 =>
  (xI n xs (a.1 + (iI 1))).bind fun v276 =>
  (fX9_aloft x2 v276 r275.2).bind fun r277 =>
  if r275.1 = r277.1 then
  (fL_law_b2428 n xs K x1 x2 a.1 r277.2)
  else (some (.inr (.inr r277.2))))
  else (if (v6 &&& (iI 63)) = (iI 34) then
  ((xI n xs (a.1 + (iI 1))).bind fun v280 =>
  (fX8_lasts x1 v280 a.2).bind fun r281 =>
  (xI n xs (a.1 + (iI 1))).bind fun v282 =>
  (fX9_lasts x2 v282 r281.2).bind fun r283 =>
  if r281.1 = r283.1 then
  (fL_law_b2428 n xs K x1 x2 a.1 r283.2)
  else (some (.inr (.inr r283.2))))
  else (if (v6 &&& (iI 63)) = (iI 35) then
  ((xI n xs (a.1 + (iI 1))).bind fun v286 =>
  (xI n xs (a.1 + (iI 2))).bind fun v287 =>
  (fX8_meet x1 v286 v287 a.2).bind fun r288 =>
  (xI n xs (a.1 + (iI 1))).bind fun v289 =>
  (xI n xs (a.1 + (iI 2))).bind fun v290 =>
  (fX9_meet x2 v289 v290 r288.2).bind fun r291 =>
  if r288.1 = r291.1 then
  (fL_law_b2428 n xs K x1 x2 a.1 r291.2)
  else (some (.inr (.inr r291.2))))
  else (if (v6 &&& (iI 63)) = (iI 36) then
  ((xI n xs (a.1 + (iI 1))).bind fun v294 =>
  (xI n xs (a.1 + (iI 2))).bind fun v295 =>
  (fX8_rope x1 v294 v295 a.2).bind fun r296 =>
  (xI n xs (a.1 + (iI 1))).bind fun v297 =>
  (xI n xs (a.1 + (iI 2))).bind fun v298 =>
  (fX9_rope x2 v297 v298 r296.2).bind fun r299 =>
  if r296.1 = r299.1 then
  (fL_law_b2428 n xs K x1 x2 a.1 r299.2)
  else (some (.inr (.inr r299.2))))
  else (if (v6 &&& (iI 63)) = (iI 37) then
  ((xI n xs (a.1 + (iI 1))).bind fun v302 =>
  (xI n xs (a.1 + (iI 2))).bind fun v303 =>
  (fX8_lands x1 v302 v303 a.2).bind fun r304 =>
  (xI n xs (a.1 + (iI 1))).bind fun v305 =>
  (xI n xs (a.1 + (iI 2))).bind fun v306 =>
  (fX9_lands x2 v305 v306 r304.2).bind fun r307 =>
  if r304.1 = r307.1 then
  (fL_law_b2428 n xs K x1 x2 a.1 r307.2)
  else (some (.inr (.inr r307.2))))
  else (if (v6 &&& (iI 63)) = (iI 38) then
  ((xI n xs (a.1 + (iI 1))).bind fun v310 =>
  (xI n xs (a.1 + (iI 2))).bind fun v311 =>
  (fX8_who x1 v310 v311 a.2).bind fun r312 =>
  (xI n xs (a.1 + (iI 1))).bind fun v313 =>
  (xI n xs (a.1 + (iI 2))).bind fun v314 =>
  (fX9_who x2 v313 v314 r312.2).bind fun r315 =>
  if r312.1 = r315.1 then
  (fL_law_b2428 n xs K x1 x2 a.1 r315.2)
  else (some (.inr (.inr r315.2))))
  else (if (v6 &&& (iI 63)) = (iI 39) then
  ((xI n xs (a.1 + (iI 1))).bind fun v318 =>
  (xI n xs (a.1 + (iI 2))).bind fun v319 =>
  (fX8_first x1 v318 v319 a.2).bind fun r320 =>
  (xI n xs (a.1 + (iI 1))).bind fun v321 =>
  (xI n xs (a.1 + (iI 2))).bind fun v322 =>
  (fX9_first_ x2 v321 v322 r320.2).bind fun r323 =>
  if r320.1 = r323.1 then
  (fL_law_b2428 n xs K x1 x2 a.1 r323.2)
  else (some (.inr (.inr r323.2))))
  else (if (v6 &&& (iI 63)) = (iI 40) then
  ((xI n xs (a.1 + (iI 1))).bind fun v326 =>
  (xI n xs (a.1 + (iI 2))).bind fun v327 =>
  (fX8_suspects x1 v326 v327 a.2).bind fun r328 =>
  (xI n xs (a.1 + (iI 1))).bind fun v329 =>
  (xI n xs (a.1 + (iI 2))).bind fun v330 =>
  (fX9_suspects x2 v329 v330 r328.2).bind fun r331 =>
  if r328.1 = r331.1 then
  (fL_law_b2428 n xs K x1 x2 a.1 r331.2)
  else (some (.inr (.inr r331.2))))
  else (if (v6 &&& (iI 63)) = (iI 41) then
  ((xI n xs (a.1 + (iI 1))).bind fun v334 =>
  (xI n xs (a.1 + (iI 2))).bind fun v335 =>
  (xI n xs (a.1 + (iI 3))).bind fun v336 =>
  (xI n xs (a.1 + (iI 4))).bind fun v337 =>
  (xI n xs (a.1 + (iI 5))).bind fun v338 =>
  (fX8_drift x1 v334 v335 v336 v337 v338 a.2).bind fun r339 =>
  (xI n xs (a.1 + (iI 1))).bind fun v340 =>
  (xI n xs (a.1 + (iI 2))).bind fun v341 =>
  (xI n xs (a.1 + (iI 3))).bind fun v342 =>
  (xI n xs (a.1 + (iI 4))).bind fun v343 =>
  (xI n xs (a.1 + (iI 5))).bind fun v344 =>
  (fX9_drift x2 v340 v341 v342 v343 v344 r339.2).bind fun r345 =>
  if r339.1 = r345.1 then
  (fL_law_b2428 n xs K x1 x2 a.1 r345.2)
  else (some (.inr (.inr r345.2))))
  else (if (v6 &&& (iI 63)) = (iI 42) then
  ((xI n xs (a.1 + (iI 1))).bind fun v348 =>
  (xI n xs (a.1 + (iI 2))).bind fun v349 =>
  (xI n xs (a.1 + (iI 3))).bind fun v350 =>
  (xI n xs (a.1 + (iI 4))).bind fun v351 =>
  (xI n xs (a.1 + (iI 5))).bind fun v352 =>
  (fX8_whence x1 v348 v349 v350 v351 v352 a.2).bind fun r353 =>
  (xI n xs (a.1 + (iI 1))).bind fun v354 =>
  (xI n xs (a.1 + (iI 2))).bind fun v355 =>
  (xI n xs (a.1 + (iI 3))).bind fun v356 =>
  (xI n xs (a.1 + (iI 4))).bind fun v357 =>
  (xI n xs (a.1 + (iI 5))).bind fun v358 =>
  (fX9_whence x2 v354 v355 v356 v357 v358 r353.2).bind fun r359 =>
  if r353.1 = r359.1 then
  (fL_law_b2428 n xs K x1 x2 a.1 r359.2)
  else (some (.inr (.inr r359.2))))
  else (if (v6 &&& (iI 63)) = (iI 43) then
  ((xI n xs (a.1 + (iI 1))).bind fun v362 =>
  (fX8_smoke x1 v362 a.2).bind fun r363 =>
  (xI n xs (a.1 + (iI 1))).bind fun v364 =>
  (fX9_smoke x2 v364 r363.2).bind fun r365 =>
  if r363.1 = r365.1 then
  (fL_law_b2428 n xs K x1 x2 a.1 r365.2)
  else (some (.inr (.inr r365.2))))
  else (if (v6 &&& (iI 63)) = (iI 44) then
  ((xI n xs (a.1 + (iI 1))).bind fun v368 =>
  (fX8_kites x1 v368 a.2).bind fun r369 =>
  (xI n xs (a.1 + (iI 1))).bind fun v370 =>
  (fX9_kites x2 v370 r369.2).bind fun r371 =>
  if r369.1 = r371.1 then
  (fL_law_b2428 n xs K x1 x2 a.1 r371.2)
  else (some (.inr (.inr r371.2))))
  else (if (v6 &&& (iI 63)) = (iI 45) then
  ((xI n xs (a.1 + (iI 1))).bind fun v374 =>
  (fX8_known x1 v374 a.2).bind fun r375 =>
  (xI n xs (a.1 + (iI 1))).bind fun v376 =>
  (fX9_known x2 v376 r375.2).bind fun r377 =>
  if r375.1 = r377.1 then
  (fL_law_b2428 n xs K x1 x2 a.1 r377.2)
  else (some (.inr (.inr r377.2))))
  else (if (v6 &&& (iI 63)) = (iI 46) then
  ((xI n xs (a.1 + (iI 1))).bind fun v380 =>
  (fX8_price x1 v380 a.2).bind fun r381 =>
  (xI n xs (a.1 + (iI 1))).bind fun v382 =>
  (fX9_price x2 v382 r381.2).bind fun r383 =>
  if r381.1 = r383.1 then
  (fL_law_b2428 n xs K x1 x2 a.1 r383.2)
  else (some (.inr (.inr r383.2))))
  else (if (v6 &&& (iI 63)) = (iI 47) then
  ((xI n xs (a.1 + (iI 1))).bind fun v386 =>
  (xI n xs (a.1 + (iI 2))).bind fun v387 =>
  (xI n xs (a.1 + (iI 3))).bind fun v388 =>
  (fX8_worth x1 v386 v387 v388 a.2).bind fun r389 =>
  (xI n xs (a.1 + (iI 1))).bind fun v390 =>
  (xI n xs (a.1 + (iI 2))).bind fun v391 =>
  (xI n xs (a.1 + (iI 3))).bind fun v392 =>
  (fX9_worth x2 v390 v391 v392 r389.2).bind fun r393 =>
  if r389.1 = r393.1 then
  (fL_law_b2428 n xs K x1 x2 a.1 r393.2)
  else (some (.inr (.inr r393.2))))
  else (if (v6 &&& (iI 63)) = (iI 48) then
  ((fX8_best x1 a.2).bind fun r396 =>
  (fX9_best x2 r396.2).bind fun r397 =>
  if r396.1 = r397.1 then
  (fL_law_b2428 n xs K x1 x2 a.1 r397.2)
  else (some (.inr (.inr r397.2))))
  else (if (v6 &&& (iI 63)) = (iI 49) then
  ((xI n xs (a.1 + (iI 1))).bind fun v400 =>
  (fX8_other x1 v400 a.2).bind fun r401 =>
  (xI n xs (a.1 + (iI 1))).bind fun v402 =>
  (fX9_other x2 v402 r401.2).bind fun r403 =>
  if r401.1 = r403.1 then
  (fL_law_b2428 n xs K x1 x2 a.1 r403.2)
  else (some (.inr (.inr r403.2))))
  else (if (v6 &&& (iI 63)) = (iI 50) then
  ((xI n xs (a.1 + (iI 1))).bind fun v406 =>
  (xI n xs (a.1 + (iI 2))).bind fun v407 =>
  (xI n xs (a.1 + (iI 3))).bind fun v408 =>
  (fX8_load x1 v406 v407 v408 a.2).bind fun r409 =>
  (xI n xs (a.1 + (iI 1))).bind fun v410 =>
  (xI n xs (a.1 + (iI 2))).bind fun v411 =>
  (xI n xs (a.1 + (iI 3))).bind fun v412 =>
  (fX9_load x2 v410 v411 v412 r409.2).bind fun r413 =>
  if r409.1 = r413.1 then
  (fL_law_b2428 n xs K x1 x2 a.1 r413.2)
  else (some (.inr (.inr r413.2))))
  else (if (v6 &&& (iI 63)) = (iI 51) then
  ((xI n xs (a.1 + (iI 1))).bind fun v416 =>
  (xI n xs (a.1 + (iI 2))).bind fun v417 =>
  (xI n xs (a.1 + (iI 3))).bind fun v418 =>
  (fX8_turn x1 v416 v417 v418 a.2).bind fun r419 =>
  (xI n xs (a.1 + (iI 1))).bind fun v420 =>
  (xI n xs (a.1 + (iI 2))).bind fun v421 =>
  (xI n xs (a.1 + (iI 3))).bind fun v422 =>
  (fX9_turn x2 v420 v421 v422 r419.2).bind fun r423 =>
  if r419.1 = r423.1 then
  (fL_law_b2428 n xs K x1 x2 a.1 r423.2)
  else (some (.inr (.inr r423.2))))
  else (if (v6 &&& (iI 63)) = (iI 52) then
  ((xI n xs (a.1 + (iI 1))).bind fun v426 =>
  (xI n xs (a.1 + (iI 2))).bind fun v427 =>
  (xI n xs (a.1 + (iI 3))).bind fun v428 =>
  (xI n xs (a.1 + (iI 4))).bind fun v429 =>
  (fX8_gust x1 v426 v427 v428 v429 a.2).bind fun r430 =>
  (xI n xs (a.1 + (iI 1))).bind fun v431 =>
  (xI n xs (a.1 + (iI 2))).bind fun v432 =>
  (xI n xs (a.1 + (iI 3))).bind fun v433 =>
  (xI n xs (a.1 + (iI 4))).bind fun v434 =>
  (fX9_gust x2 v431 v432 v433 v434 r430.2).bind fun r435 =>
  if r430.1 = r435.1 then
  (fL_law_b2428 n xs K x1 x2 a.1 r435.2)
  else (some (.inr (.inr r435.2))))
  else (if (v6 &&& (iI 63)) = (iI 53) then
  ((xI n xs (a.1 + (iI 1))).bind fun v438 =>
  (xI n xs (a.1 + (iI 2))).bind fun v439 =>
  (xI n xs (a.1 + (iI 3))).bind fun v440 =>
  (xI n xs (a.1 + (iI 4))).bind fun v441 =>
  (xI n xs (a.1 + (iI 5))).bind fun v442 =>
  (xI n xs (a.1 + (iI 6))).bind fun v443 =>
  (fX8_chance x1 v438 v439 v440 v441 v442 v443 a.2).bind fun r444 =>
  (xI n xs (a.1 + (iI 1))).bind fun v445 =>
  (xI n xs (a.1 + (iI 2))).bind fun v446 =>
  (xI n xs (a.1 + (iI 3))).bind fun v447 =>
  (xI n xs (a.1 + (iI 4))).bind fun v448 =>
  (xI n xs (a.1 + (iI 5))).bind fun v449 =>
  (xI n xs (a.1 + (iI 6))).bind fun v450 =>
  (fX9_chance x2 v445 v446 v447 v448 v449 v450 r444.2).bind fun r451 =>
  if r444.1 = r451.1 then
  (fL_law_b2428 n xs K x1 x2 a.1 r451.2)
  else (some (.inr (.inr r451.2))))
  else (if (v6 &&& (iI 63)) = (iI 54) then
  ((xI n xs (a.1 + (iI 1))).bind fun v454 =>
  (xI n xs (a.1 + (iI 2))).bind fun v455 =>
  (fX8_takings x1 v454 v455 a.2).bind fun r456 =>
  (xI n xs (a.1 + (iI 1))).bind fun v457 =>
  (xI n xs (a.1 + (iI 2))).bind fun v458 =>
  (fX9_takings x2 v457 v458 r456.2).bind fun r459 =>
  if r456.1 = r459.1 then
  (fL_law_b2428 n xs K x1 x2 a.1 r459.2)
  else (some (.inr (.inr r459.2))))
  else (if (v6 &&& (iI 63)) = (iI 55) then
  ((xI n xs (a.1 + (iI 1))).bind fun v462 =>
  (fX8_count x1 v462 a.2).bind fun r463 =>
  (xI n xs (a.1 + (iI 1))).bind fun v464 =>
  (fX9_count x2 v464 r463.2).bind fun r465 =>
  if r463.1 = r465.1 then
  (fL_law_b2428 n xs K x1 x2 a.1 r465.2)
  else (some (.inr (.inr r465.2))))
  else (if (v6 &&& (iI 63)) = (iI 56) then
  ((xI n xs (a.1 + (iI 1))).bind fun v468 =>
  (fX8_keep x1 v468 a.2).bind fun r469 =>
  (xI n xs (a.1 + (iI 1))).bind fun v470 =>
  (fX9_keep x2 v470 r469.2).bind fun r471 =>
  if r469.1 = r471.1 then
  (fL_law_b2428 n xs K x1 x2 a.1 r471.2)
  else (some (.inr (.inr r471.2))))
  else (if (v6 &&& (iI 63)) = (iI 57) then
  ((xI n xs (a.1 + (iI 1))).bind fun v474 =>
  (fX8_back x1 v474 a.2).bind fun r475 =>
  (xI n xs (a.1 + (iI 1))).bind fun v476 =>
  (fX9_back x2 v476 r475.2).bind fun r477 =>
  if r475.1 = r477.1 then
  (fL_law_b2428 n xs K x1 x2 a.1 r477.2)
  else (some (.inr (.inr r477.2))))
  else (if (v6 &&& (iI 63)) = (iI 58) then
  ((xI n xs (a.1 + (iI 1))).bind fun v480 =>
  (xI n xs (a.1 + (iI 2))).bind fun v481 =>
  (xI n xs (a.1 + (iI 3))).bind fun v482 =>
  (fX8_row x1 v480 v481 v482 a.2).bind fun r483 =>
  (xI n xs (a.1 + (iI 1))).bind fun v484 =>
  (xI n xs (a.1 + (iI 2))).bind fun v485 =>
  (xI n xs (a.1 + (iI 3))).bind fun v486 =>
  (fX9_row x2 v484 v485 v486 r483.2).bind fun r487 =>
  if r483.1 = r487.1 then
  (fL_law_b2428 n xs K x1 x2 a.1 r487.2)
  else (some (.inr (.inr r487.2))))
  else (if (v6 &&& (iI 63)) = (iI 59) then
  ((xI n xs (a.1 + (iI 1))).bind fun v490 =>
  (xI n xs (a.1 + (iI 2))).bind fun v491 =>
  (xI n xs (a.1 + (iI 3))).bind fun v492 =>
  (xI n xs (a.1 + (iI 4))).bind fun v493 =>
  (fX8_write x1 v490 v491 ((lsh (Int32.toInt64 v492) (iI 32)) ||| ((Int32.toInt64 v493) &&& 4294967295)) a.2).bind fun r494 =>
  (xI n xs (a.1 + (iI 1))).bind fun v495 =>
  (xI n xs (a.1 + (iI 2))).bind fun v496 =>
  (xI n xs (a.1 + (iI 3))).bind fun v497 =>
  (xI n xs (a.1 + (iI 4))).bind fun v498 =>
  (fX9_write x2 v495 v496 ((lsh (Int32.toInt64 v497) (iI 32)) ||| ((Int32.toInt64 v498) &&& 4294967295)) r494.2).bind fun r499 =>
  if r494.1 = r499.1 then
  (fL_law_b2428 n xs K x1 x2 a.1 r499.2)
  else (some (.inr (.inr r499.2))))
  else (if (v6 &&& (iI 63)) = (iI 60) then
  ((xI n xs (a.1 + (iI 1))).bind fun v502 =>
  (xI n xs (a.1 + (iI 2))).bind fun v503 =>
  (xI n xs (a.1 + (iI 3))).bind fun v504 =>
  (xI n xs (a.1 + (iI 4))).bind fun v505 =>
  (xI n xs (a.1 + (iI 5))).bind fun v506 =>
  (fX8_paste x1 v502 v503 v504 v505 v506 a.2).bind fun r507 =>
  (xI n xs (a.1 + (iI 1))).bind fun v508 =>
  (xI n xs (a.1 + (iI 2))).bind fun v509 =>
  (xI n xs (a.1 + (iI 3))).bind fun v510 =>
  (xI n xs (a.1 + (iI 4))).bind fun v511 =>
  (xI n xs (a.1 + (iI 5))).bind fun v512 =>
  (fX9_paste x2 v508 v509 v510 v511 v512 r507.2).bind fun r513 =>
  if r507.1 = r513.1 then
  (fL_law_b2428 n xs K x1 x2 a.1 r513.2)
  else (some (.inr (.inr r513.2))))
  else (fL_law_b2428 n xs K x1 x2 a.1 a.2))))))))))))))))))))))))))))))))))))))))))))))))))))))))))))))
def fL_law (K : Nat → Nat) (n : Nat) (xs : Nat → Int32) (s : Hp) : Option (Int32 × Hp) :=
  lt_ (mk s (8, 13, df8)) fun s1 =>
  (fX8_init s.1 s1).bind fun s2 =>
  lt_ (mk s2 (9, 52, df9)) fun s3 =>
  (fX9_init s2.1 s3).bind fun s4 =>
  (iter (fL_law_l18 n xs K s.1 s2.1) FU ((iI 0), s4)).bind (Sum.elim (fun r515a => some ((iI 1), r515a)) (fun r515b => some ((iI 0), r515b)))
