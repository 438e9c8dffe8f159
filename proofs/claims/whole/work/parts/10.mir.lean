/-! the methods as functions over the memory, printed by a program out of their bytecode -/
def bd_X0_begin_27 (G : Gg) (r0 : Nat) (rec : Int32 → Mm → Option (Mm)) (i3 : Int32) (M : Mm) : Option (Mm) :=
    if (64 : Int32) ≤ i3 then
      some M
    else
      ck (isK G r0 0) <|
      Option.bind (M.2.2 r0 2) fun r5 =>
      ck (isK G r5 10) <|
      ck (inb i3 (G.2.2 r5)) <|
      rec (i3 + 1) (mwI M r5 (Int32.toNatClampNeg i3) (0 : Int32))
def lp_X0_begin_27 (G : Gg) (r0 : Nat) : Nat → Int32 → Mm → Option (Mm)
  | 0, _, _ => none
  | n + 1, i3, M => bd_X0_begin_27 G r0 (lp_X0_begin_27 G r0 n) i3 M
def f_X0_begin (G : Gg) (M : Mm) (r0 : Nat) (i1 : Int32) (i2 : Int32) : Option (Mm) :=
  if i1 < (1 : Int32) then
    ck (isK G r0 0) <|
    Option.bind (lp_X0_begin_27 G r0 FU (0 : Int32) (mwI (mwI M r0 0 (0 : Int32)) r0 1 i2)) fun q9 =>
    some q9
  else
    if (8 : Int32) < i1 then
      ck (isK G r0 0) <|
      Option.bind (lp_X0_begin_27 G r0 FU (0 : Int32) (mwI (mwI M r0 0 (0 : Int32)) r0 1 i2)) fun q12 =>
      some q12
    else
      ck (isK G r0 0) <|
      Option.bind (lp_X0_begin_27 G r0 FU (0 : Int32) (mwI (mwI M r0 0 i1) r0 1 i2)) fun q14 =>
      some q14
def f_X0_isState (G : Gg) (M : Mm) (r0 : Nat) (i1 : Int32) : Option (Int32) :=
  if i1 < 0 then
    some (0 : Int32)
  else
    ck (isK G r0 0) <|
    if (M.1 r0 0) ≤ i1 then
      some (0 : Int32)
    else
      some (1 : Int32)
def f_X0_allStates (G : Gg) (M : Mm) (r0 : Nat) : Option (Int32) :=
  ck (isK G r0 0) <|
  some (((1 : Int32) <<< ((M.1 r0 0) &&& 31)) - (1 : Int32))
def f_X0_isSet (G : Gg) (M : Mm) (r0 : Nat) (i1 : Int32) : Option (Int32) :=
  if i1 < (1 : Int32) then
    some (0 : Int32)
  else
    ck (isK G r0 0) <|
    Option.bind (f_X0_allStates G M r0) fun q2 =>
    if q2 < i1 then
      some (0 : Int32)
    else
      some (1 : Int32)
def f_X0_at (G : Gg) (M : Mm) (r0 : Nat) (i1 : Int32) (i2 : Int32) : Option (Int32) :=
  ck (isK G r0 0) <|
  Option.bind (f_X0_isState G M r0 i1) fun q1 =>
  if q1 = 0 then
    some (0 : Int32)
  else
    Option.bind (f_X0_isState G M r0 i2) fun q5 =>
    if q5 = 0 then
      some (0 : Int32)
    else
      Option.bind (M.2.2 r0 2) fun r8 =>
      ck (isK G r8 10) <|
      ck (inb ((i1 * (8 : Int32)) + i2) (G.2.2 r8)) <|
      some (M.1 r8 (Int32.toNatClampNeg ((i1 * (8 : Int32)) + i2)))
def f_X0_raise (G : Gg) (M : Mm) (r0 : Nat) (i1 : Int32) (i2 : Int32) (i3 : Int32) : Option (Mm) :=
  ck (isK G r0 0) <|
  Option.bind (f_X0_isState G M r0 i1) fun q1 =>
  if q1 = 0 then
    some M
  else
    Option.bind (f_X0_isState G M r0 i2) fun q5 =>
    if q5 = 0 then
      some M
    else
      Option.bind (M.2.2 r0 2) fun r8 =>
      ck (isK G r8 10) <|
      ck (inb ((i1 * (8 : Int32)) + i2) (G.2.2 r8)) <|
      some (mwI M r8 (Int32.toNatClampNeg ((i1 * (8 : Int32)) + i2)) ((M.1 r8 (Int32.toNatClampNeg ((i1 * (8 : Int32)) + i2))) + i3))
def f_X8_has (i0 : Int32) (i1 : Int32) : Option (Int32) :=
  if ((i0 >>> (i1 &&& 31)) &&& (1 : Int32)) = 0 then
    some (0 : Int32)
  else
    some (1 : Int32)
def bd_X0_into_12 (G : Gg) (M : Mm) (r0 : Nat) (i1 : Int32) (i2 : Int32) (i4 : Int32) (rec : Int32 → Int32 → Option (Int32)) (i3 : Int32) (i5 : Int32) : Option (Int32) :=
    ck (isK G r0 0) <|
    if (M.1 r0 0) ≤ i5 then
      some i3
    else
      if i4 = 0 then
        rec i3 (i5 + 1)
      else
        Option.bind (f_X8_has i2 i5) fun q7 =>
        if q7 = 0 then
          rec i3 (i5 + 1)
        else
          Option.bind (M.2.2 r0 2) fun r10 =>
          ck (isK G r10 10) <|
          ck (inb ((i1 * (8 : Int32)) + i5) (G.2.2 r10)) <|
          rec (i3 + (M.1 r10 (Int32.toNatClampNeg ((i1 * (8 : Int32)) + i5)))) (i5 + 1)
def lp_X0_into_12 (G : Gg) (M : Mm) (r0 : Nat) (i1 : Int32) (i2 : Int32) (i4 : Int32) : Nat → Int32 → Int32 → Option (Int32)
  | 0, _, _ => none
  | n + 1, i3, i5 => bd_X0_into_12 G M r0 i1 i2 i4 (lp_X0_into_12 G M r0 i1 i2 i4 n) i3 i5
def f_X0_into (G : Gg) (M : Mm) (r0 : Nat) (i1 : Int32) (i2 : Int32) : Option (Int32) :=
  ck (isK G r0 0) <|
  Option.bind (f_X0_isState G M r0 i1) fun q1 =>
  Option.bind (lp_X0_into_12 G M r0 i1 i2 q1 FU (0 : Int32) (0 : Int32)) fun q14 =>
  some q14
def f_X6_at (G : Gg) (M : Mm) (r0 : Nat) (i1 : Int32) : Option (Int32) :=
  if i1 < 0 then
    some (0 : Int32)
  else
    ck (isK G r0 6) <|
    if (M.1 r0 1) ≤ i1 then
      some (0 : Int32)
    else
      Option.bind (M.2.2 r0 0) fun r4 =>
      ck (isK G r4 10) <|
      ck (inb i1 (G.2.2 r4)) <|
      some (M.1 r4 (Int32.toNatClampNeg i1))
def bd_X0_readTape_52 (G : Gg) (r0 : Nat) (r1 : Nat) (i2 : Int32) (i3 : Int32) (i4 : Int32) (rec : Int32 → Mm → Option (Mm)) (i5 : Int32) (M : Mm) : Option (Mm) :=
    if i2 ≤ i5 then
      some M
    else
      ck (isK G r1 6) <|
      Option.bind (f_X6_at G M r1 ((i4 * i2) + i5)) fun q12 =>
      ck (isK G r0 0) <|
      Option.bind (f_X0_raise G M r0 i4 i5 q12) fun q15 =>
      rec (i5 + 1) q15
def lp_X0_readTape_52 (G : Gg) (r0 : Nat) (r1 : Nat) (i2 : Int32) (i3 : Int32) (i4 : Int32) : Nat → Int32 → Mm → Option (Mm)
  | 0, _, _ => none
  | n + 1, i5, M => bd_X0_readTape_52 G r0 r1 i2 i3 i4 (lp_X0_readTape_52 G r0 r1 i2 i3 i4 n) i5 M
def bd_X0_readTape_43 (G : Gg) (r0 : Nat) (r1 : Nat) (i2 : Int32) (i3 : Int32) (rec : Int32 → Mm → Option ((Int32 × Mm) ⊕ (Mm))) (i4 : Int32) (M : Mm) : Option ((Int32 × Mm) ⊕ (Mm)) :=
    if i2 ≤ i4 then
      some (.inr M)
    else
      Option.bind (lp_X0_readTape_52 G r0 r1 i2 i3 i4 FU (0 : Int32) M) fun q18 =>
      ck (isK G r0 0) <|
      Option.bind (f_X0_allStates G q18 r0) fun q19 =>
      Option.bind (f_X0_into G q18 r0 i4 q19) fun q22 =>
      if q22 = i3 then
        rec (i4 + 1) q18
      else
        some (.inl ((0 : Int32), q18))
def lp_X0_readTape_43 (G : Gg) (r0 : Nat) (r1 : Nat) (i2 : Int32) (i3 : Int32) : Nat → Int32 → Mm → Option ((Int32 × Mm) ⊕ (Mm))
  | 0, _, _ => none
  | n + 1, i4, M => bd_X0_readTape_43 G r0 r1 i2 i3 (lp_X0_readTape_43 G r0 r1 i2 i3 n) i4 M
def f_X0_readTape (G : Gg) (M : Mm) (r0 : Nat) (r1 : Nat) (i2 : Int32) (i3 : Int32) : Option (Int32 × Mm) :=
  if i2 < (1 : Int32) then
    some ((0 : Int32), M)
  else
    if (8 : Int32) < i2 then
      some ((0 : Int32), M)
    else
      if i3 < (1 : Int32) then
        some ((0 : Int32), M)
      else
        if (60 : Int32) < i3 then
          some ((0 : Int32), M)
        else
          ck (isK G r1 6) <|
          if (M.1 r1 1) = (i2 * i2) then
            ck (isK G r0 0) <|
            Option.bind (f_X0_begin G M r0 i2 i3) fun q7 =>
            Option.bind (lp_X0_readTape_43 G r0 r1 i2 i3 FU (0 : Int32) q7) fun q25 =>
            onS q25 (fun x27 => some x27) fun y26 =>
            some ((1 : Int32), y26)
          else
            some ((0 : Int32), M)
def bd_X0_makeLazyOf_26 (G : Gg) (r0 : Nat) (r1 : Nat) (i2 : Int32) (rec : Int32 → Mm → Option (Mm)) (i3 : Int32) (M : Mm) : Option (Mm) :=
    ck (isK G r0 0) <|
    if (M.1 r0 0) ≤ i3 then
      some M
    else
      ck (isK G r1 0) <|
      Option.bind (f_X0_at G M r1 i2 i3) fun q9 =>
      Option.bind (f_X0_raise G M r0 i2 i3 q9) fun q12 =>
      rec (i3 + 1) q12
def lp_X0_makeLazyOf_26 (G : Gg) (r0 : Nat) (r1 : Nat) (i2 : Int32) : Nat → Int32 → Mm → Option (Mm)
  | 0, _, _ => none
  | n + 1, i3, M => bd_X0_makeLazyOf_26 G r0 r1 i2 (lp_X0_makeLazyOf_26 G r0 r1 i2 n) i3 M
def bd_X0_makeLazyOf_16 (G : Gg) (r0 : Nat) (r1 : Nat) (rec : Int32 → Mm → Option (Mm)) (i2 : Int32) (M : Mm) : Option (Mm) :=
    ck (isK G r0 0) <|
    if (M.1 r0 0) ≤ i2 then
      some M
    else
      Option.bind (lp_X0_makeLazyOf_26 G r0 r1 i2 FU (0 : Int32) M) fun q14 =>
      ck (isK G r1 0) <|
      Option.bind (f_X0_raise G q14 r0 i2 i2 (q14.1 r1 1)) fun q16 =>
      rec (i2 + 1) q16
def lp_X0_makeLazyOf_16 (G : Gg) (r0 : Nat) (r1 : Nat) : Nat → Int32 → Mm → Option (Mm)
  | 0, _, _ => none
  | n + 1, i2, M => bd_X0_makeLazyOf_16 G r0 r1 (lp_X0_makeLazyOf_16 G r0 r1 n) i2 M
def f_X0_makeLazyOf (G : Gg) (M : Mm) (r0 : Nat) (r1 : Nat) : Option (Mm) :=
  ck (isK G r1 0) <|
  ck (isK G r0 0) <|
  Option.bind (f_X0_begin G M r0 (M.1 r1 0) ((2 : Int32) * (M.1 r1 1))) fun q2 =>
  Option.bind (lp_X0_makeLazyOf_16 G r0 r1 FU (0 : Int32) q2) fun q18 =>
  some q18
def bd_X8_commonDivisor_9  (rec : Int64 → Int64 → Int32 → Option (Int64)) (l4 : Int64) (l6 : Int64) (i8 : Int32) : Option (Int64) :=
    if (200 : Int32) ≤ i8 then
      some l4
    else
      if (lg_cmp l6 (0 : Int64)) = 0 then
        some l4
      else
        ck (¬ l6 = 0) <|
        rec l6 (l4 - l4 / l6 * l6) (i8 + 1)
def lp_X8_commonDivisor_9  : Nat → Int64 → Int64 → Int32 → Option (Int64)
  | 0, _, _, _ => none
  | n + 1, l4, l6, i8 => bd_X8_commonDivisor_9  (lp_X8_commonDivisor_9  n) l4 l6 i8
def f_X8_commonDivisor (l0 : Int64) (l2 : Int64) : Option (Int64) :=
  Option.bind (lp_X8_commonDivisor_9  FU l0 l2 (0 : Int32)) fun q4 =>
  some q4
def f_X1_put (G : Gg) (M : Mm) (r0 : Nat) (l1 : Int64) (l3 : Int64) : Option (Mm) :=
  Option.bind (f_X8_commonDivisor l1 l3) fun q1 =>
  if (lg_cmp q1 (0 : Int64)) = 0 then
    some M
  else
    ck (¬ q1 = 0) <|
    ck (isK G r0 1) <|
    some (mwJ (mwJ M r0 0 (l1 / q1)) r0 1 (l3 / q1))
def f_X0_putBackChance (G : Gg) (M : Mm) (r0 : Nat) (i1 : Int32) (i2 : Int32) (r3 : Nat) : Option (Mm) :=
  ck (isK G r0 0) <|
  Option.bind (f_X0_isState G M r0 i1) fun q1 =>
  if q1 = 0 then
    some M
  else
    Option.bind (f_X0_isState G M r0 i2) fun q5 =>
    if q5 = 0 then
      some M
    else
      Option.bind (M.2.2 r0 5) fun r8 =>
      ck (isK G r8 11) <|
      ck (inb i2 (G.2.2 r8)) <|
      Option.bind (f_X0_at G M r0 i2 i1) fun q12 =>
      ck (inb i1 (G.2.2 r8)) <|
      ck (isK G r3 1) <|
      Option.bind (f_X1_put G M r3 ((M.2.1 r8 (Int32.toNatClampNeg i2)) * (Int32.toInt64 q12)) ((M.2.1 r8 (Int32.toNatClampNeg i1)) * (Int32.toInt64 (M.1 r0 1)))) fun q15 =>
      some q15
def bd_X0_backQ_17 (G : Gg) (r0 : Nat) (r1 : Nat) (i4 : Int32) (rec : Int64 → Int32 → Mm → Option ((Int32 × Mm) ⊕ (Int64 × Mm))) (l2 : Int64) (i5 : Int32) (M : Mm) : Option ((Int32 × Mm) ⊕ (Int64 × Mm)) :=
    ck (isK G r0 0) <|
    if (M.1 r0 0) ≤ i5 then
      some (.inr (l2, M))
    else
      Option.bind (f_X0_putBackChance G M r0 i4 i5 r1) fun q5 =>
      ck (isK G r1 1) <|
      Option.bind (f_X8_commonDivisor l2 (q5.2.1 r1 1)) fun q8 =>
      if 0 < (lg_cmp (q5.2.1 r1 1) (60 : Int64)) then
        some (.inl ((61 : Int32), q5))
      else
        if (lg_cmp q8 (0 : Int64)) = 0 then
          some (.inl ((61 : Int32), q5))
        else
          ck (¬ q8 = 0) <|
          if (lg_cmp ((l2 / q8) * (q5.2.1 r1 1)) (60 : Int64)) ≤ 0 then
            rec ((l2 / q8) * (q5.2.1 r1 1)) (i5 + 1) q5
          else
            some (.inl ((61 : Int32), q5))
def lp_X0_backQ_17 (G : Gg) (r0 : Nat) (r1 : Nat) (i4 : Int32) : Nat → Int64 → Int32 → Mm → Option ((Int32 × Mm) ⊕ (Int64 × Mm))
  | 0, _, _, _ => none
  | n + 1, l2, i5, M => bd_X0_backQ_17 G r0 r1 i4 (lp_X0_backQ_17 G r0 r1 i4 n) l2 i5 M
def bd_X0_backQ_5 (G : Gg) (r0 : Nat) (r1 : Nat) (rec : Int64 → Int32 → Mm → Option ((Int32 × Mm) ⊕ (Int64 × Mm))) (l2 : Int64) (i4 : Int32) (M : Mm) : Option ((Int32 × Mm) ⊕ (Int64 × Mm)) :=
    ck (isK G r0 0) <|
    if (M.1 r0 0) ≤ i4 then
      some (.inr (l2, M))
    else
      Option.bind (lp_X0_backQ_17 G r0 r1 i4 FU l2 (0 : Int32) M) fun q14 =>
      onS q14 (fun x16 => some (.inl x16)) fun y15 =>
      rec y15.1 (i4 + 1) y15.2
def lp_X0_backQ_5 (G : Gg) (r0 : Nat) (r1 : Nat) : Nat → Int64 → Int32 → Mm → Option ((Int32 × Mm) ⊕ (Int64 × Mm))
  | 0, _, _, _ => none
  | n + 1, l2, i4, M => bd_X0_backQ_5 G r0 r1 (lp_X0_backQ_5 G r0 r1 n) l2 i4 M
def f_X0_backQ (G : Gg) (M : Mm) (r0 : Nat) (r1 : Nat) : Option (Int32 × Mm) :=
  Option.bind (lp_X0_backQ_5 G r0 r1 FU (1 : Int64) (0 : Int32) M) fun q17 =>
  onS q17 (fun x19 => some x19) fun y18 =>
  some ((Int64.toInt32 y18.1), y18.2)
def bd_X0_makeBackOf_38 (G : Gg) (r0 : Nat) (r1 : Nat) (r2 : Nat) (i3 : Int32) (i4 : Int32) (rec : Int32 → Mm → Option (Mm)) (i5 : Int32) (M : Mm) : Option (Mm) :=
    ck (isK G r0 0) <|
    if (M.1 r0 0) ≤ i5 then
      some M
    else
      ck (isK G r1 0) <|
      Option.bind (f_X0_putBackChance G M r1 i4 i5 r2) fun q12 =>
      ck (isK G r2 1) <|
      if (lg_cmp (q12.2.1 r2 1) (0 : Int64)) ≤ 0 then
        rec (i5 + 1) q12
      else
        ck (¬ (q12.2.1 r2 1) = 0) <|
        Option.bind (f_X0_raise G q12 r0 i4 i5 (Int64.toInt32 ((q12.2.1 r2 0) * ((Int32.toInt64 i3) / (q12.2.1 r2 1))))) fun q18 =>
        rec (i5 + 1) q18
def lp_X0_makeBackOf_38 (G : Gg) (r0 : Nat) (r1 : Nat) (r2 : Nat) (i3 : Int32) (i4 : Int32) : Nat → Int32 → Mm → Option (Mm)
  | 0, _, _ => none
  | n + 1, i5, M => bd_X0_makeBackOf_38 G r0 r1 r2 i3 i4 (lp_X0_makeBackOf_38 G r0 r1 r2 i3 i4 n) i5 M
def bd_X0_makeBackOf_26 (G : Gg) (r0 : Nat) (r1 : Nat) (r2 : Nat) (i3 : Int32) (rec : Int32 → Mm → Option (Mm)) (i4 : Int32) (M : Mm) : Option (Mm) :=
    ck (isK G r0 0) <|
    if (M.1 r0 0) ≤ i4 then
      some M
    else
      Option.bind (lp_X0_makeBackOf_38 G r0 r1 r2 i3 i4 FU (0 : Int32) M) fun q20 =>
      rec (i4 + 1) q20
def lp_X0_makeBackOf_26 (G : Gg) (r0 : Nat) (r1 : Nat) (r2 : Nat) (i3 : Int32) : Nat → Int32 → Mm → Option (Mm)
  | 0, _, _ => none
  | n + 1, i4, M => bd_X0_makeBackOf_26 G r0 r1 r2 i3 (lp_X0_makeBackOf_26 G r0 r1 r2 i3 n) i4 M
def f_X0_makeBackOf (G : Gg) (M : Mm) (r0 : Nat) (r1 : Nat) (r2 : Nat) : Option (Int32 × Mm) :=
  ck (isK G r1 0) <|
  Option.bind (f_X0_backQ G M r1 r2) fun q1 =>
  if q1.1 ≤ (60 : Int32) then
    ck (isK G r0 0) <|
    Option.bind (f_X0_begin G q1.2 r0 (q1.2.1 r1 0) q1.1) fun q5 =>
    Option.bind (lp_X0_makeBackOf_26 G r0 r1 r2 q1.1 FU (0 : Int32) q5) fun q21 =>
    some ((1 : Int32), q21)
  else
    some ((0 : Int32), q1.2)
def bd_X5_firstOf_2 (G : Gg) (M : Mm) (r0 : Nat) (i1 : Int32) (rec : Int32 → Option ((Int32) ⊕ (Unit))) (i2 : Int32) : Option ((Int32) ⊕ (Unit)) :=
    ck (isK G r0 5) <|
    if (M.1 r0 2) ≤ i2 then
      some (.inr ())
    else
      Option.bind (M.2.2 r0 0) fun r3 =>
      ck (isK G r3 10) <|
      ck (inb i2 (G.2.2 r3)) <|
      if (M.1 r3 (Int32.toNatClampNeg i2)) = i1 then
        some (.inl i2)
      else
        rec (i2 + 1)
def lp_X5_firstOf_2 (G : Gg) (M : Mm) (r0 : Nat) (i1 : Int32) : Nat → Int32 → Option ((Int32) ⊕ (Unit))
  | 0, _ => none
  | n + 1, i2 => bd_X5_firstOf_2 G M r0 i1 (lp_X5_firstOf_2 G M r0 i1 n) i2
def f_X5_firstOf (G : Gg) (M : Mm) (r0 : Nat) (i1 : Int32) : Option (Int32) :=
  Option.bind (lp_X5_firstOf_2 G M r0 i1 FU (0 : Int32)) fun q8 =>
  onS q8 (fun x10 => some x10) fun y9 =>
  some (-1)
def f_X5_partOf (G : Gg) (M : Mm) (r0 : Nat) (i1 : Int32) : Option (Int32) :=
  if i1 < 0 then
    some (-1)
  else
    ck (isK G r0 5) <|
    if (M.1 r0 2) ≤ i1 then
      some (-1)
    else
      Option.bind (M.2.2 r0 0) fun r4 =>
      ck (isK G r4 10) <|
      ck (inb i1 (G.2.2 r4)) <|
      some (M.1 r4 (Int32.toNatClampNeg i1))
def bd_X0_makeMeltedOf_32 (G : Gg) (r0 : Nat) (r1 : Nat) (r2 : Nat) (i3 : Int32) (i4 : Int32) (rec : Int32 → Mm → Option (Mm)) (i5 : Int32) (M : Mm) : Option (Mm) :=
    ck (isK G r1 0) <|
    if (M.1 r1 0) ≤ i5 then
      some M
    else
      ck (isK G r2 5) <|
      Option.bind (f_X5_partOf G M r2 i5) fun q13 =>
      Option.bind (f_X0_at G M r1 i4 i5) fun q16 =>
      ck (isK G r0 0) <|
      Option.bind (f_X0_raise G M r0 i3 q13 q16) fun q18 =>
      rec (i5 + 1) q18
def lp_X0_makeMeltedOf_32 (G : Gg) (r0 : Nat) (r1 : Nat) (r2 : Nat) (i3 : Int32) (i4 : Int32) : Nat → Int32 → Mm → Option (Mm)
  | 0, _, _ => none
  | n + 1, i5, M => bd_X0_makeMeltedOf_32 G r0 r1 r2 i3 i4 (lp_X0_makeMeltedOf_32 G r0 r1 r2 i3 i4 n) i5 M
def bd_X0_makeMeltedOf_14 (G : Gg) (r0 : Nat) (r1 : Nat) (r2 : Nat) (rec : Int32 → Mm → Option (Mm)) (i3 : Int32) (M : Mm) : Option (Mm) :=
    ck (isK G r0 0) <|
    if (M.1 r0 0) ≤ i3 then
      some M
    else
      ck (isK G r2 5) <|
      Option.bind (f_X5_firstOf G M r2 i3) fun q8 =>
      Option.bind (lp_X0_makeMeltedOf_32 G r0 r1 r2 i3 q8 FU (0 : Int32) M) fun q21 =>
      rec (i3 + 1) q21
def lp_X0_makeMeltedOf_14 (G : Gg) (r0 : Nat) (r1 : Nat) (r2 : Nat) : Nat → Int32 → Mm → Option (Mm)
  | 0, _, _ => none
  | n + 1, i3, M => bd_X0_makeMeltedOf_14 G r0 r1 r2 (lp_X0_makeMeltedOf_14 G r0 r1 r2 n) i3 M
def f_X0_makeMeltedOf (G : Gg) (M : Mm) (r0 : Nat) (r1 : Nat) (r2 : Nat) : Option (Mm) :=
  ck (isK G r2 5) <|
  ck (isK G r1 0) <|
  ck (isK G r0 0) <|
  Option.bind (f_X0_begin G M r0 (M.1 r2 3) (M.1 r1 1)) fun q3 =>
  Option.bind (lp_X0_makeMeltedOf_14 G r0 r1 r2 FU (0 : Int32) q3) fun q22 =>
  some q22
def bd_X0_traceLeads_19 (G : Gg) (r0 : Nat) (i1 : Int32) (rec : Int32 → Mm → Option (Mm)) (i2 : Int32) (M : Mm) : Option (Mm) :=
    ck (isK G r0 0) <|
    if (M.1 r0 0) ≤ i2 then
      some M
    else
      Option.bind (M.2.2 r0 3) fun r9 =>
      ck (isK G r9 10) <|
      ck (inb i1 (G.2.2 r9)) <|
      Option.bind (f_X0_at G M r0 i1 i2) fun q13 =>
      if q13 ≤ 0 then
        rec (i2 + 1) (mwI M r9 (Int32.toNatClampNeg i1) ((M.1 r9 (Int32.toNatClampNeg i1)) ||| (0 : Int32)))
      else
        rec (i2 + 1) (mwI M r9 (Int32.toNatClampNeg i1) ((M.1 r9 (Int32.toNatClampNeg i1)) ||| ((1 : Int32) <<< (i2 &&& 31))))
def lp_X0_traceLeads_19 (G : Gg) (r0 : Nat) (i1 : Int32) : Nat → Int32 → Mm → Option (Mm)
  | 0, _, _ => none
  | n + 1, i2, M => bd_X0_traceLeads_19 G r0 i1 (lp_X0_traceLeads_19 G r0 i1 n) i2 M
def bd_X0_traceLeads_2 (G : Gg) (r0 : Nat) (rec : Int32 → Mm → Option (Mm)) (i1 : Int32) (M : Mm) : Option (Mm) :=
    ck (isK G r0 0) <|
    if (M.1 r0 0) ≤ i1 then
      some M
    else
      Option.bind (M.2.2 r0 3) fun r3 =>
      ck (isK G r3 10) <|
      ck (inb i1 (G.2.2 r3)) <|
      Option.bind (lp_X0_traceLeads_19 G r0 i1 FU (0 : Int32) (mwI M r3 (Int32.toNatClampNeg i1) (0 : Int32))) fun q16 =>
      Option.bind (q16.2.2 r0 4) fun r17 =>
      Option.bind (q16.2.2 r0 3) fun r19 =>
      ck (isK G r19 10) <|
      ck (inb i1 (G.2.2 r19)) <|
      ck (isK G r17 10) <|
      ck (inb i1 (G.2.2 r17)) <|
      rec (i1 + 1) (mwI q16 r17 (Int32.toNatClampNeg i1) ((q16.1 r19 (Int32.toNatClampNeg i1)) ||| ((1 : Int32) <<< (i1 &&& 31))))
def lp_X0_traceLeads_2 (G : Gg) (r0 : Nat) : Nat → Int32 → Mm → Option (Mm)
  | 0, _, _ => none
  | n + 1, i1, M => bd_X0_traceLeads_2 G r0 (lp_X0_traceLeads_2 G r0 n) i1 M
def bd_X0_traceLeads_92 (G : Gg) (r0 : Nat) (i1 : Int32) (rec : Int32 → Mm → Option (Mm)) (i2 : Int32) (M : Mm) : Option (Mm) :=
    ck (isK G r0 0) <|
    if (M.1 r0 0) ≤ i2 then
      some M
    else
      Option.bind (M.2.2 r0 4) fun r30 =>
      ck (isK G r30 10) <|
      ck (inb i2 (G.2.2 r30)) <|
      Option.bind (f_X8_has (M.1 r30 (Int32.toNatClampNeg i2)) i1) fun q34 =>
      if q34 = 0 then
        rec (i2 + 1) (mwI M r30 (Int32.toNatClampNeg i2) ((M.1 r30 (Int32.toNatClampNeg i2)) ||| (0 : Int32)))
      else
        ck (inb i1 (G.2.2 r30)) <|
        rec (i2 + 1) (mwI M r30 (Int32.toNatClampNeg i2) ((M.1 r30 (Int32.toNatClampNeg i2)) ||| (M.1 r30 (Int32.toNatClampNeg i1))))
def lp_X0_traceLeads_92 (G : Gg) (r0 : Nat) (i1 : Int32) : Nat → Int32 → Mm → Option (Mm)
  | 0, _, _ => none
  | n + 1, i2, M => bd_X0_traceLeads_92 G r0 i1 (lp_X0_traceLeads_92 G r0 i1 n) i2 M
def bd_X0_traceLeads_82 (G : Gg) (r0 : Nat) (rec : Int32 → Mm → Option (Mm)) (i1 : Int32) (M : Mm) : Option (Mm) :=
    ck (isK G r0 0) <|
    if (M.1 r0 0) ≤ i1 then
      some M
    else
      Option.bind (lp_X0_traceLeads_92 G r0 i1 FU (0 : Int32) M) fun q38 =>
      rec (i1 + 1) q38
def lp_X0_traceLeads_82 (G : Gg) (r0 : Nat) : Nat → Int32 → Mm → Option (Mm)
  | 0, _, _ => none
  | n + 1, i1, M => bd_X0_traceLeads_82 G r0 (lp_X0_traceLeads_82 G r0 n) i1 M
def f_X0_traceLeads (G : Gg) (M : Mm) (r0 : Nat) : Option (Mm) :=
  Option.bind (lp_X0_traceLeads_2 G r0 FU (0 : Int32) M) fun q25 =>
  Option.bind (lp_X0_traceLeads_82 G r0 FU (0 : Int32) q25) fun q39 =>
  some q39
def bd_X0_settle_7 (G : Gg) (M : Mm) (r0 : Nat) (rec : Int32 → Int32 → Option (Int32)) (i1 : Int32) (i2 : Int32) : Option (Int32) :=
    if (64 : Int32) ≤ i2 then
      some i1
    else
      ck (isK G r0 0) <|
      Option.bind (M.2.2 r0 2) fun r4 =>
      ck (isK G r4 10) <|
      ck (inb i2 (G.2.2 r4)) <|
      Option.bind (f_X8_commonDivisor (Int32.toInt64 i1) (Int32.toInt64 (M.1 r4 (Int32.toNatClampNeg i2)))) fun q8 =>
      rec (Int64.toInt32 q8) (i2 + 1)
def lp_X0_settle_7 (G : Gg) (M : Mm) (r0 : Nat) : Nat → Int32 → Int32 → Option (Int32)
  | 0, _, _ => none
  | n + 1, i1, i2 => bd_X0_settle_7 G M r0 (lp_X0_settle_7 G M r0 n) i1 i2
def bd_X0_settle_62 (G : Gg) (r0 : Nat) (i1 : Int32) (rec : Int32 → Mm → Option (Mm)) (i2 : Int32) (M : Mm) : Option (Mm) :=
    if (64 : Int32) ≤ i2 then
      some M
    else
      ck (isK G r0 0) <|
      Option.bind (M.2.2 r0 2) fun r16 =>
      ck (isK G r16 10) <|
      ck (inb i2 (G.2.2 r16)) <|
      ck (¬ i1 = 0) <|
      rec (i2 + 1) (mwI M r16 (Int32.toNatClampNeg i2) ((M.1 r16 (Int32.toNatClampNeg i2)) / i1))
def lp_X0_settle_62 (G : Gg) (r0 : Nat) (i1 : Int32) : Nat → Int32 → Mm → Option (Mm)
  | 0, _, _ => none
  | n + 1, i2, M => bd_X0_settle_62 G r0 i1 (lp_X0_settle_62 G r0 i1 n) i2 M
def f_X0_settle (G : Gg) (M : Mm) (r0 : Nat) : Option (Int32 × Mm) :=
  ck (isK G r0 0) <|
  Option.bind (lp_X0_settle_7 G M r0 FU (M.1 r0 1) (0 : Int32)) fun q10 =>
  if q10 ≤ 0 then
    some ((0 : Int32), M)
  else
    ck (¬ q10 = 0) <|
    if ((M.1 r0 1) / q10) ≤ (60 : Int32) then
      Option.bind (lp_X0_settle_62 G r0 q10 FU (0 : Int32) (mwI M r0 1 ((M.1 r0 1) / q10))) fun q21 =>
      Option.bind (f_X0_traceLeads G q21 r0) fun q22 =>
      some ((1 : Int32), q22)
    else
      some ((0 : Int32), M)
def bd_X0_nextsOf_4 (G : Gg) (M : Mm) (r0 : Nat) (i1 : Int32) (rec : Int32 → Int32 → Option (Int32)) (i2 : Int32) (i3 : Int32) : Option (Int32) :=
    ck (isK G r0 0) <|
    if (M.1 r0 0) ≤ i3 then
      some i2
    else
      Option.bind (f_X8_has i1 i3) fun q3 =>
      if q3 = 0 then
        rec (i2 ||| (0 : Int32)) (i3 + 1)
      else
        Option.bind (M.2.2 r0 3) fun r6 =>
        ck (isK G r6 10) <|
        ck (inb i3 (G.2.2 r6)) <|
        rec (i2 ||| (M.1 r6 (Int32.toNatClampNeg i3))) (i3 + 1)
def lp_X0_nextsOf_4 (G : Gg) (M : Mm) (r0 : Nat) (i1 : Int32) : Nat → Int32 → Int32 → Option (Int32)
  | 0, _, _ => none
  | n + 1, i2, i3 => bd_X0_nextsOf_4 G M r0 i1 (lp_X0_nextsOf_4 G M r0 i1 n) i2 i3
def f_X0_nextsOf (G : Gg) (M : Mm) (r0 : Nat) (i1 : Int32) : Option (Int32) :=
  Option.bind (lp_X0_nextsOf_4 G M r0 i1 FU (0 : Int32) (0 : Int32)) fun q10 =>
  some q10
def bd_X0_heapOf_4 (G : Gg) (M : Mm) (r0 : Nat) (i1 : Int32) (rec : Int32 → Int32 → Option (Int32)) (i2 : Int32) (i3 : Int32) : Option (Int32) :=
    ck (isK G r0 0) <|
    if (M.1 r0 0) ≤ i3 then
      some i2
    else
      Option.bind (f_X0_isState G M r0 i1) fun q3 =>
      if q3 = 0 then
        rec i2 (i3 + 1)
      else
        Option.bind (M.2.2 r0 4) fun r6 =>
        ck (isK G r6 10) <|
        ck (inb i1 (G.2.2 r6)) <|
        Option.bind (f_X8_has (M.1 r6 (Int32.toNatClampNeg i1)) i3) fun q10 =>
        if q10 = 0 then
          rec i2 (i3 + 1)
        else
          ck (inb i3 (G.2.2 r6)) <|
          Option.bind (f_X8_has (M.1 r6 (Int32.toNatClampNeg i3)) i1) fun q14 =>
          if q14 = 0 then
            rec i2 (i3 + 1)
          else
            rec (i2 ||| ((1 : Int32) <<< (i3 &&& 31))) (i3 + 1)
def lp_X0_heapOf_4 (G : Gg) (M : Mm) (r0 : Nat) (i1 : Int32) : Nat → Int32 → Int32 → Option (Int32)
  | 0, _, _ => none
  | n + 1, i2, i3 => bd_X0_heapOf_4 G M r0 i1 (lp_X0_heapOf_4 G M r0 i1 n) i2 i3
def f_X0_heapOf (G : Gg) (M : Mm) (r0 : Nat) (i1 : Int32) : Option (Int32) :=
  Option.bind (lp_X0_heapOf_4 G M r0 i1 FU (0 : Int32) (0 : Int32)) fun q17 =>
  some q17
def f_X0_isLeastOfHeap (G : Gg) (M : Mm) (r0 : Nat) (i1 : Int32) : Option (Int32) :=
  ck (isK G r0 0) <|
  Option.bind (f_X0_heapOf G M r0 i1) fun q1 =>
  if (q1 &&& (((1 : Int32) <<< (i1 &&& 31)) - (1 : Int32))) = 0 then
    some (1 : Int32)
  else
    some (0 : Int32)
def f_X0_isClosed (G : Gg) (M : Mm) (r0 : Nat) (i1 : Int32) : Option (Int32) :=
  ck (isK G r0 0) <|
  Option.bind (f_X0_isState G M r0 i1) fun q1 =>
  if q1 = 0 then
    some (0 : Int32)
  else
    Option.bind (M.2.2 r0 4) fun r5 =>
    ck (isK G r5 10) <|
    ck (inb i1 (G.2.2 r5)) <|
    Option.bind (f_X0_heapOf G M r0 i1) fun q9 =>
    if (M.1 r5 (Int32.toNatClampNeg i1)) = q9 then
      some (1 : Int32)
    else
      some (0 : Int32)
def bd_X0_heapNumber_11 (G : Gg) (M : Mm) (r0 : Nat) (i2 : Int32) (rec : Int32 → Int32 → Option (Int32)) (i3 : Int32) (i4 : Int32) : Option (Int32) :=
    ck (isK G r0 0) <|
    if (M.1 r0 0) ≤ i4 then
      some i3
    else
      Option.bind (f_X8_has i2 i4) fun q6 =>
      if q6 = 0 then
        Option.bind (f_X0_isLeastOfHeap G M r0 i4) fun q9 =>
        if q9 = 0 then
          rec (i3 + (0 : Int32)) (i4 + 1)
        else
          rec (i3 + (1 : Int32)) (i4 + 1)
      else
        some i3
def lp_X0_heapNumber_11 (G : Gg) (M : Mm) (r0 : Nat) (i2 : Int32) : Nat → Int32 → Int32 → Option (Int32)
  | 0, _, _ => none
  | n + 1, i3, i4 => bd_X0_heapNumber_11 G M r0 i2 (lp_X0_heapNumber_11 G M r0 i2 n) i3 i4
def f_X0_heapNumber (G : Gg) (M : Mm) (r0 : Nat) (i1 : Int32) : Option (Int32) :=
  ck (isK G r0 0) <|
  Option.bind (f_X0_heapOf G M r0 i1) fun q1 =>
  Option.bind (lp_X0_heapNumber_11 G M r0 q1 FU (0 : Int32) (0 : Int32)) fun q12 =>
  some q12
def bd_X0_heaps_4 (G : Gg) (M : Mm) (r0 : Nat) (rec : Int32 → Int32 → Option (Int32)) (i1 : Int32) (i2 : Int32) : Option (Int32) :=
    ck (isK G r0 0) <|
    if (M.1 r0 0) ≤ i2 then
      some i1
    else
      Option.bind (f_X0_isLeastOfHeap G M r0 i2) fun q3 =>
      if q3 = 0 then
        rec (i1 + (0 : Int32)) (i2 + 1)
      else
        rec (i1 + (1 : Int32)) (i2 + 1)
def lp_X0_heaps_4 (G : Gg) (M : Mm) (r0 : Nat) : Nat → Int32 → Int32 → Option (Int32)
  | 0, _, _ => none
  | n + 1, i1, i2 => bd_X0_heaps_4 G M r0 (lp_X0_heaps_4 G M r0 n) i1 i2
def f_X0_heaps (G : Gg) (M : Mm) (r0 : Nat) : Option (Int32) :=
  Option.bind (lp_X0_heaps_4 G M r0 FU (0 : Int32) (0 : Int32)) fun q6 =>
  some q6
def bd_X0_closedHeaps_4 (G : Gg) (M : Mm) (r0 : Nat) (rec : Int32 → Int32 → Option (Int32)) (i1 : Int32) (i2 : Int32) : Option (Int32) :=
    ck (isK G r0 0) <|
    if (M.1 r0 0) ≤ i2 then
      some i1
    else
      Option.bind (f_X0_isLeastOfHeap G M r0 i2) fun q3 =>
      if q3 = 0 then
        rec (i1 + (0 : Int32)) (i2 + 1)
      else
        Option.bind (f_X0_isClosed G M r0 i2) fun q6 =>
        if q6 = 0 then
          rec (i1 + (0 : Int32)) (i2 + 1)
        else
          rec (i1 + (1 : Int32)) (i2 + 1)
def lp_X0_closedHeaps_4 (G : Gg) (M : Mm) (r0 : Nat) : Nat → Int32 → Int32 → Option (Int32)
  | 0, _, _ => none
  | n + 1, i1, i2 => bd_X0_closedHeaps_4 G M r0 (lp_X0_closedHeaps_4 G M r0 n) i1 i2
def f_X0_closedHeaps (G : Gg) (M : Mm) (r0 : Nat) : Option (Int32) :=
  Option.bind (lp_X0_closedHeaps_4 G M r0 FU (0 : Int32) (0 : Int32)) fun q9 =>
  some q9
def bd_X0_closedStates_4 (G : Gg) (M : Mm) (r0 : Nat) (rec : Int32 → Int32 → Option (Int32)) (i1 : Int32) (i2 : Int32) : Option (Int32) :=
    ck (isK G r0 0) <|
    if (M.1 r0 0) ≤ i2 then
      some i1
    else
      Option.bind (f_X0_isClosed G M r0 i2) fun q3 =>
      if q3 = 0 then
        rec (i1 ||| (0 : Int32)) (i2 + 1)
      else
        rec (i1 ||| ((1 : Int32) <<< (i2 &&& 31))) (i2 + 1)
def lp_X0_closedStates_4 (G : Gg) (M : Mm) (r0 : Nat) : Nat → Int32 → Int32 → Option (Int32)
  | 0, _, _ => none
  | n + 1, i1, i2 => bd_X0_closedStates_4 G M r0 (lp_X0_closedStates_4 G M r0 n) i1 i2
def f_X0_closedStates (G : Gg) (M : Mm) (r0 : Nat) : Option (Int32) :=
  Option.bind (lp_X0_closedStates_4 G M r0 FU (0 : Int32) (0 : Int32)) fun q6 =>
  some q6
def bd_X0_beat_9 (G : Gg) (M : Mm) (r0 : Nat) (i1 : Int32) (rec : Int32 → Int64 → Int32 → Option (Int64)) (i2 : Int32) (l3 : Int64) (i5 : Int32) : Option (Int64) :=
    ck (isK G r0 0) <|
    if ((3 : Int32) * (M.1 r0 0)) < i5 then
      some l3
    else
      Option.bind (f_X0_nextsOf G M r0 i2) fun q3 =>
      Option.bind (f_X8_has q3 i1) fun q5 =>
      if q5 = 0 then
        rec q3 l3 (i5 + 1)
      else
        Option.bind (f_X8_commonDivisor l3 (Int32.toInt64 i5)) fun q8 =>
        rec q3 q8 (i5 + 1)
def lp_X0_beat_9 (G : Gg) (M : Mm) (r0 : Nat) (i1 : Int32) : Nat → Int32 → Int64 → Int32 → Option (Int64)
  | 0, _, _, _ => none
  | n + 1, i2, l3, i5 => bd_X0_beat_9 G M r0 i1 (lp_X0_beat_9 G M r0 i1 n) i2 l3 i5
def f_X0_beat (G : Gg) (M : Mm) (r0 : Nat) (i1 : Int32) : Option (Int32) :=
  Option.bind (lp_X0_beat_9 G M r0 i1 FU ((1 : Int32) <<< (i1 &&& 31)) (0 : Int64) (1 : Int32)) fun q10 =>
  some (Int64.toInt32 q10)
def f_X0_isWhole (G : Gg) (M : Mm) (r0 : Nat) : Option (Int32) :=
  ck (isK G r0 0) <|
  Option.bind (f_X0_heaps G M r0) fun q1 =>
  if q1 = (1 : Int32) then
    some (1 : Int32)
  else
    some (0 : Int32)
def f_X0_wholeness (G : Gg) (M : Mm) (r0 : Nat) : Option (Int32) :=
  ck (isK G r0 0) <|
  Option.bind (f_X0_isWhole G M r0) fun q1 =>
  if q1 = 0 then
    some (0 : Int32)
  else
    Option.bind (f_X0_beat G M r0 (0 : Int32)) fun q5 =>
    if q5 = (1 : Int32) then
      some (2 : Int32)
    else
      some (1 : Int32)
def bd_X0_isBothWays_17 (G : Gg) (M : Mm) (r0 : Nat) (i2 : Int32) (rec : Int32 → Int32 → Option (Int32)) (i1 : Int32) (i3 : Int32) : Option (Int32) :=
    if i2 ≤ i3 then
      some i1
    else
      if i1 = 0 then
        rec (0 : Int32) (i3 + 1)
      else
        ck (isK G r0 0) <|
        Option.bind (M.2.2 r0 5) fun r9 =>
        ck (isK G r9 11) <|
        ck (inb i2 (G.2.2 r9)) <|
        Option.bind (f_X0_at G M r0 i2 i3) fun q13 =>
        ck (inb i3 (G.2.2 r9)) <|
        Option.bind (f_X0_at G M r0 i3 i2) fun q16 =>
        if (lg_cmp ((M.2.1 r9 (Int32.toNatClampNeg i2)) * (Int32.toInt64 q13)) ((M.2.1 r9 (Int32.toNatClampNeg i3)) * (Int32.toInt64 q16))) = 0 then
          rec (1 : Int32) (i3 + 1)
        else
          rec (0 : Int32) (i3 + 1)
def lp_X0_isBothWays_17 (G : Gg) (M : Mm) (r0 : Nat) (i2 : Int32) : Nat → Int32 → Int32 → Option (Int32)
  | 0, _, _ => none
  | n + 1, i1, i3 => bd_X0_isBothWays_17 G M r0 i2 (lp_X0_isBothWays_17 G M r0 i2 n) i1 i3
def bd_X0_isBothWays_7 (G : Gg) (M : Mm) (r0 : Nat) (rec : Int32 → Int32 → Option (Int32)) (i1 : Int32) (i2 : Int32) : Option (Int32) :=
    ck (isK G r0 0) <|
    if (M.1 r0 0) ≤ i2 then
      some i1
    else
      Option.bind (lp_X0_isBothWays_17 G M r0 i2 FU i1 (0 : Int32)) fun q19 =>
      rec q19 (i2 + 1)
def lp_X0_isBothWays_7 (G : Gg) (M : Mm) (r0 : Nat) : Nat → Int32 → Int32 → Option (Int32)
  | 0, _, _ => none
  | n + 1, i1, i2 => bd_X0_isBothWays_7 G M r0 (lp_X0_isBothWays_7 G M r0 n) i1 i2
def f_X0_isBothWays (G : Gg) (M : Mm) (r0 : Nat) : Option (Int32) :=
  ck (isK G r0 0) <|
  Option.bind (f_X0_isWhole G M r0) fun q1 =>
  Option.bind (lp_X0_isBothWays_7 G M r0 FU q1 (0 : Int32)) fun q20 =>
  ck (q20 &&& 1 = q20) <|
  some q20
def bd_X0_lastTime_8 (G : Gg) (M : Mm) (r0 : Nat) (rec : Int64 → Int32 → Option (Int32)) (l1 : Int64) (i3 : Int32) : Option (Int32) :=
    if (20 : Int32) ≤ i3 then
      some i3
    else
      if 0 < (lg_cmp l1 (1000000000000000 : Int64)) then
        some i3
      else
        ck (isK G r0 0) <|
        rec (l1 * (Int32.toInt64 (M.1 r0 1))) (i3 + 1)
def lp_X0_lastTime_8 (G : Gg) (M : Mm) (r0 : Nat) : Nat → Int64 → Int32 → Option (Int32)
  | 0, _, _ => none
  | n + 1, l1, i3 => bd_X0_lastTime_8 G M r0 (lp_X0_lastTime_8 G M r0 n) l1 i3
def f_X0_lastTime (G : Gg) (M : Mm) (r0 : Nat) : Option (Int32) :=
  ck (isK G r0 0) <|
  Option.bind (lp_X0_lastTime_8 G M r0 FU (Int32.toInt64 (M.1 r0 1)) (0 : Int32)) fun q5 =>
  some q5
def f_X0_isTime (G : Gg) (M : Mm) (r0 : Nat) (i1 : Int32) : Option (Int32) :=
  if i1 < 0 then
    some (0 : Int32)
  else
    ck (isK G r0 0) <|
    Option.bind (f_X0_lastTime G M r0) fun q2 =>
    if q2 < i1 then
      some (0 : Int32)
    else
      some (1 : Int32)
def bd_X0_shareOf_5 (G : Gg) (M : Mm) (r0 : Nat) (i1 : Int32) (rec : Int64 → Int32 → Option (Int64)) (l2 : Int64) (i4 : Int32) : Option (Int64) :=
    ck (isK G r0 0) <|
    if (M.1 r0 0) ≤ i4 then
      some l2
    else
      Option.bind (f_X8_has i1 i4) fun q3 =>
      if q3 = 0 then
        rec (l2 + (0 : Int64)) (i4 + 1)
      else
        Option.bind (M.2.2 r0 5) fun r6 =>
        ck (isK G r6 11) <|
        ck (inb i4 (G.2.2 r6)) <|
        rec (l2 + (M.2.1 r6 (Int32.toNatClampNeg i4))) (i4 + 1)
def lp_X0_shareOf_5 (G : Gg) (M : Mm) (r0 : Nat) (i1 : Int32) : Nat → Int64 → Int32 → Option (Int64)
  | 0, _, _ => none
  | n + 1, l2, i4 => bd_X0_shareOf_5 G M r0 i1 (lp_X0_shareOf_5 G M r0 i1 n) l2 i4
def f_X0_shareOf (G : Gg) (M : Mm) (r0 : Nat) (i1 : Int32) : Option (Int64) :=
  Option.bind (lp_X0_shareOf_5 G M r0 i1 FU (0 : Int64) (0 : Int32)) fun q10 =>
  some q10
def bd_X0_flowOutOf_5 (G : Gg) (M : Mm) (r0 : Nat) (i1 : Int32) (rec : Int64 → Int32 → Option (Int64)) (l2 : Int64) (i4 : Int32) : Option (Int64) :=
    ck (isK G r0 0) <|
    if (M.1 r0 0) ≤ i4 then
      some l2
    else
      Option.bind (f_X8_has i1 i4) fun q3 =>
      if q3 = 0 then
        rec l2 (i4 + 1)
      else
        Option.bind (M.2.2 r0 5) fun r6 =>
        ck (isK G r6 11) <|
        ck (inb i4 (G.2.2 r6)) <|
        Option.bind (f_X0_allStates G M r0) fun q10 =>
        Option.bind (f_X0_into G M r0 i4 (q10 &&& (i1 ^^^ (-1)))) fun q12 =>
        rec (l2 + ((M.2.1 r6 (Int32.toNatClampNeg i4)) * (Int32.toInt64 q12))) (i4 + 1)
def lp_X0_flowOutOf_5 (G : Gg) (M : Mm) (r0 : Nat) (i1 : Int32) : Nat → Int64 → Int32 → Option (Int64)
  | 0, _, _ => none
  | n + 1, l2, i4 => bd_X0_flowOutOf_5 G M r0 i1 (lp_X0_flowOutOf_5 G M r0 i1 n) l2 i4
def f_X0_flowOutOf (G : Gg) (M : Mm) (r0 : Nat) (i1 : Int32) : Option (Int64) :=
  Option.bind (lp_X0_flowOutOf_5 G M r0 i1 FU (0 : Int64) (0 : Int32)) fun q14 =>
  some q14
def f_X1_told (G : Gg) (M : Mm) (r0 : Nat) (i1 : Int32) : Option (Int64) :=
  if i1 = 0 then
    ck (isK G r0 1) <|
    some (M.2.1 r0 0)
  else
    ck (isK G r0 1) <|
    some (M.2.1 r0 1)
def bd_X2_reachedOutside_7 (G : Gg) (M : Mm) (r0 : Nat) (i2 : Int32) (rec : Int32 → Int32 → Option (Int32)) (i3 : Int32) (i4 : Int32) : Option (Int32) :=
    if (8 : Int32) ≤ i4 then
      some i3
    else
      ck (isK G r0 0) <|
      Option.bind (f_X0_nextsOf G M r0 i3) fun q2 =>
      rec (i3 ||| (q2 &&& (i2 ^^^ (-1)))) (i4 + 1)
def lp_X2_reachedOutside_7 (G : Gg) (M : Mm) (r0 : Nat) (i2 : Int32) : Nat → Int32 → Int32 → Option (Int32)
  | 0, _, _ => none
  | n + 1, i3, i4 => bd_X2_reachedOutside_7 G M r0 i2 (lp_X2_reachedOutside_7 G M r0 i2 n) i3 i4
def f_X2_reachedOutside (G : Gg) (M : Mm) (r0 : Nat) (i1 : Int32) (i2 : Int32) : Option (Int32) :=
  Option.bind (lp_X2_reachedOutside_7 G M r0 i2 FU ((1 : Int32) <<< (i1 &&& 31)) (0 : Int32)) fun q5 =>
  some q5
def bd_X2_allLeadInto_2 (G : Gg) (M : Mm) (r0 : Nat) (i1 : Int32) (i2 : Int32) (rec : Int32 → Option ((Int32) ⊕ (Unit))) (i3 : Int32) : Option ((Int32) ⊕ (Unit)) :=
    ck (isK G r0 0) <|
    if (M.1 r0 0) ≤ i3 then
      some (.inr ())
    else
      Option.bind (f_X8_has i1 i3) fun q3 =>
      if q3 = 0 then
        rec (i3 + 1)
      else
        Option.bind (M.2.2 r0 4) fun r6 =>
        ck (isK G r6 10) <|
        ck (inb i3 (G.2.2 r6)) <|
        if ((M.1 r6 (Int32.toNatClampNeg i3)) &&& i2) = 0 then
          some (.inl (0 : Int32))
        else
          rec (i3 + 1)
def lp_X2_allLeadInto_2 (G : Gg) (M : Mm) (r0 : Nat) (i1 : Int32) (i2 : Int32) : Nat → Int32 → Option ((Int32) ⊕ (Unit))
  | 0, _ => none
  | n + 1, i3 => bd_X2_allLeadInto_2 G M r0 i1 i2 (lp_X2_allLeadInto_2 G M r0 i1 i2 n) i3
def f_X2_allLeadInto (G : Gg) (M : Mm) (r0 : Nat) (i1 : Int32) (i2 : Int32) : Option (Int32) :=
  Option.bind (lp_X2_allLeadInto_2 G M r0 i1 i2 FU (0 : Int32)) fun q11 =>
  onS q11 (fun x13 => some x13) fun y12 =>
  some (1 : Int32)
def bd_X3_loadRow_12 (G : Gg) (r0 : Nat) (r1 : Nat) (i2 : Int32) (i3 : Int32) (rec : Int32 → Int32 → Mm → Option (Mm)) (i4 : Int32) (i5 : Int32) (M : Mm) : Option (Mm) :=
    ck (isK G r1 0) <|
    if (M.1 r1 0) ≤ i5 then
      some M
    else
      Option.bind (f_X8_has i2 i5) fun q4 =>
      if q4 = 0 then
        rec i4 (i5 + 1) M
      else
        ck (isK G r0 3) <|
        Option.bind (M.2.2 r0 0) fun r8 =>
        if i3 = i5 then
          Option.bind (f_X0_at G M r1 i3 i5) fun q15 =>
          ck (isK G r8 11) <|
          ck (inb i4 (G.2.2 r8)) <|
          rec (i4 + 1) (i5 + 1) (mwJ M r8 (Int32.toNatClampNeg i4) (Int32.toInt64 ((M.1 r1 1) - q15)))
        else
          Option.bind (f_X0_at G M r1 i3 i5) fun q11 =>
          ck (isK G r8 11) <|
          ck (inb i4 (G.2.2 r8)) <|
          rec (i4 + 1) (i5 + 1) (mwJ M r8 (Int32.toNatClampNeg i4) (Int32.toInt64 ((0 : Int32) - q11)))
def lp_X3_loadRow_12 (G : Gg) (r0 : Nat) (r1 : Nat) (i2 : Int32) (i3 : Int32) : Nat → Int32 → Int32 → Mm → Option (Mm)
  | 0, _, _, _ => none
  | n + 1, i4, i5, M => bd_X3_loadRow_12 G r0 r1 i2 i3 (lp_X3_loadRow_12 G r0 r1 i2 i3 n) i4 i5 M
def f_X3_loadRow (G : Gg) (M : Mm) (r0 : Nat) (r1 : Nat) (i2 : Int32) (i3 : Int32) : Option (Mm) :=
  ck (isK G r0 3) <|
  Option.bind (lp_X3_loadRow_12 G r0 r1 i2 i3 FU ((M.1 r0 2) * (8 : Int32)) (0 : Int32) M) fun q19 =>
  some q19
def bd_X3_load_7 (G : Gg) (r0 : Nat) (r1 : Nat) (i2 : Int32) (rec : Int32 → Mm → Option (Mm)) (i3 : Int32) (M : Mm) : Option (Mm) :=
    ck (isK G r1 0) <|
    if (M.1 r1 0) ≤ i3 then
      some M
    else
      Option.bind (f_X8_has i2 i3) fun q4 =>
      if q4 = 0 then
        rec (i3 + 1) M
      else
        ck (isK G r0 3) <|
        Option.bind (f_X3_loadRow G M r0 r1 i2 i3) fun q7 =>
        rec (i3 + 1) (mwI q7 r0 2 ((q7.1 r0 2) + (1 : Int32)))
def lp_X3_load_7 (G : Gg) (r0 : Nat) (r1 : Nat) (i2 : Int32) : Nat → Int32 → Mm → Option (Mm)
  | 0, _, _ => none
  | n + 1, i3, M => bd_X3_load_7 G r0 r1 i2 (lp_X3_load_7 G r0 r1 i2 n) i3 M
def f_X3_load (G : Gg) (M : Mm) (r0 : Nat) (r1 : Nat) (i2 : Int32) : Option (Mm) :=
  ck (isK G r0 3) <|
  Option.bind (lp_X3_load_7 G r0 r1 i2 FU (0 : Int32) (mwI M r0 2 (0 : Int32))) fun q10 =>
  some q10
def f_J6_bitCount_0f7a4 (i0 : Int32) : Option (Int32) :=
  some ((((((((i0 - (((Int32.toUInt32 i0 >>> (Int32.toUInt32 (1 : Int32) &&& Int32.toUInt32 31)).toInt32) &&& (1431655765 : Int32))) &&& (858993459 : Int32)) + (((Int32.toUInt32 (i0 - (((Int32.toUInt32 i0 >>> (Int32.toUInt32 (1 : Int32) &&& Int32.toUInt32 31)).toInt32) &&& (1431655765 : Int32))) >>> (Int32.toUInt32 (2 : Int32) &&& Int32.toUInt32 31)).toInt32) &&& (858993459 : Int32))) + ((Int32.toUInt32 (((i0 - (((Int32.toUInt32 i0 >>> (Int32.toUInt32 (1 : Int32) &&& Int32.toUInt32 31)).toInt32) &&& (1431655765 : Int32))) &&& (858993459 : Int32)) + (((Int32.toUInt32 (i0 - (((Int32.toUInt32 i0 >>> (Int32.toUInt32 (1 : Int32) &&& Int32.toUInt32 31)).toInt32) &&& (1431655765 : Int32))) >>> (Int32.toUInt32 (2 : Int32) &&& Int32.toUInt32 31)).toInt32) &&& (858993459 : Int32))) >>> (Int32.toUInt32 (4 : Int32) &&& Int32.toUInt32 31)).toInt32)) &&& (252645135 : Int32)) + ((Int32.toUInt32 (((((i0 - (((Int32.toUInt32 i0 >>> (Int32.toUInt32 (1 : Int32) &&& Int32.toUInt32 31)).toInt32) &&& (1431655765 : Int32))) &&& (858993459 : Int32)) + (((Int32.toUInt32 (i0 - (((Int32.toUInt32 i0 >>> (Int32.toUInt32 (1 : Int32) &&& Int32.toUInt32 31)).toInt32) &&& (1431655765 : Int32))) >>> (Int32.toUInt32 (2 : Int32) &&& Int32.toUInt32 31)).toInt32) &&& (858993459 : Int32))) + ((Int32.toUInt32 (((i0 - (((Int32.toUInt32 i0 >>> (Int32.toUInt32 (1 : Int32) &&& Int32.toUInt32 31)).toInt32) &&& (1431655765 : Int32))) &&& (858993459 : Int32)) + (((Int32.toUInt32 (i0 - (((Int32.toUInt32 i0 >>> (Int32.toUInt32 (1 : Int32) &&& Int32.toUInt32 31)).toInt32) &&& (1431655765 : Int32))) >>> (Int32.toUInt32 (2 : Int32) &&& Int32.toUInt32 31)).toInt32) &&& (858993459 : Int32))) >>> (Int32.toUInt32 (4 : Int32) &&& Int32.toUInt32 31)).toInt32)) &&& (252645135 : Int32)) >>> (Int32.toUInt32 (8 : Int32) &&& Int32.toUInt32 31)).toInt32)) + ((Int32.toUInt32 ((((((i0 - (((Int32.toUInt32 i0 >>> (Int32.toUInt32 (1 : Int32) &&& Int32.toUInt32 31)).toInt32) &&& (1431655765 : Int32))) &&& (858993459 : Int32)) + (((Int32.toUInt32 (i0 - (((Int32.toUInt32 i0 >>> (Int32.toUInt32 (1 : Int32) &&& Int32.toUInt32 31)).toInt32) &&& (1431655765 : Int32))) >>> (Int32.toUInt32 (2 : Int32) &&& Int32.toUInt32 31)).toInt32) &&& (858993459 : Int32))) + ((Int32.toUInt32 (((i0 - (((Int32.toUInt32 i0 >>> (Int32.toUInt32 (1 : Int32) &&& Int32.toUInt32 31)).toInt32) &&& (1431655765 : Int32))) &&& (858993459 : Int32)) + (((Int32.toUInt32 (i0 - (((Int32.toUInt32 i0 >>> (Int32.toUInt32 (1 : Int32) &&& Int32.toUInt32 31)).toInt32) &&& (1431655765 : Int32))) >>> (Int32.toUInt32 (2 : Int32) &&& Int32.toUInt32 31)).toInt32) &&& (858993459 : Int32))) >>> (Int32.toUInt32 (4 : Int32) &&& Int32.toUInt32 31)).toInt32)) &&& (252645135 : Int32)) + ((Int32.toUInt32 (((((i0 - (((Int32.toUInt32 i0 >>> (Int32.toUInt32 (1 : Int32) &&& Int32.toUInt32 31)).toInt32) &&& (1431655765 : Int32))) &&& (858993459 : Int32)) + (((Int32.toUInt32 (i0 - (((Int32.toUInt32 i0 >>> (Int32.toUInt32 (1 : Int32) &&& Int32.toUInt32 31)).toInt32) &&& (1431655765 : Int32))) >>> (Int32.toUInt32 (2 : Int32) &&& Int32.toUInt32 31)).toInt32) &&& (858993459 : Int32))) + ((Int32.toUInt32 (((i0 - (((Int32.toUInt32 i0 >>> (Int32.toUInt32 (1 : Int32) &&& Int32.toUInt32 31)).toInt32) &&& (1431655765 : Int32))) &&& (858993459 : Int32)) + (((Int32.toUInt32 (i0 - (((Int32.toUInt32 i0 >>> (Int32.toUInt32 (1 : Int32) &&& Int32.toUInt32 31)).toInt32) &&& (1431655765 : Int32))) >>> (Int32.toUInt32 (2 : Int32) &&& Int32.toUInt32 31)).toInt32) &&& (858993459 : Int32))) >>> (Int32.toUInt32 (4 : Int32) &&& Int32.toUInt32 31)).toInt32)) &&& (252645135 : Int32)) >>> (Int32.toUInt32 (8 : Int32) &&& Int32.toUInt32 31)).toInt32)) >>> (Int32.toUInt32 (16 : Int32) &&& Int32.toUInt32 31)).toInt32)) &&& (63 : Int32))
def bd_X3_byLastRow_13 (G : Gg) (M : Mm) (r0 : Nat) (i1 : Int32) (i2 : Int32) (rec : Int64 → Int32 → Int32 → Option (Int64)) (l3 : Int64) (i5 : Int32) (i6 : Int32) : Option (Int64) :=
    if i6 < 0 then
      some l3
    else
      Option.bind (f_X8_has i2 i6) fun q3 =>
      if q3 = 0 then
        rec l3 i5 (i6 + (-1))
      else
        ck (isK G r0 3) <|
        Option.bind (M.2.2 r0 0) fun r7 =>
        ck (isK G r7 11) <|
        ck (inb ((i1 * (8 : Int32)) + i6) (G.2.2 r7)) <|
        Option.bind (M.2.2 r0 1) fun r11 =>
        ck (isK G r11 11) <|
        ck (inb (i2 ^^^ ((1 : Int32) <<< (i6 &&& 31))) (G.2.2 r11)) <|
        if i5 = 0 then
          if i5 = 0 then
            rec (l3 + (-((M.2.1 r7 (Int32.toNatClampNeg ((i1 * (8 : Int32)) + i6))) * (M.2.1 r11 (Int32.toNatClampNeg (i2 ^^^ ((1 : Int32) <<< (i6 &&& 31)))))))) (1 : Int32) (i6 + (-1))
          else
            rec (l3 + (-((M.2.1 r7 (Int32.toNatClampNeg ((i1 * (8 : Int32)) + i6))) * (M.2.1 r11 (Int32.toNatClampNeg (i2 ^^^ ((1 : Int32) <<< (i6 &&& 31)))))))) (0 : Int32) (i6 + (-1))
        else
          if i5 = 0 then
            rec (l3 + ((M.2.1 r7 (Int32.toNatClampNeg ((i1 * (8 : Int32)) + i6))) * (M.2.1 r11 (Int32.toNatClampNeg (i2 ^^^ ((1 : Int32) <<< (i6 &&& 31))))))) (1 : Int32) (i6 + (-1))
          else
            rec (l3 + ((M.2.1 r7 (Int32.toNatClampNeg ((i1 * (8 : Int32)) + i6))) * (M.2.1 r11 (Int32.toNatClampNeg (i2 ^^^ ((1 : Int32) <<< (i6 &&& 31))))))) (0 : Int32) (i6 + (-1))
def lp_X3_byLastRow_13 (G : Gg) (M : Mm) (r0 : Nat) (i1 : Int32) (i2 : Int32) : Nat → Int64 → Int32 → Int32 → Option (Int64)
  | 0, _, _, _ => none
  | n + 1, l3, i5, i6 => bd_X3_byLastRow_13 G M r0 i1 i2 (lp_X3_byLastRow_13 G M r0 i1 i2 n) l3 i5 i6
def f_X3_byLastRow (G : Gg) (M : Mm) (r0 : Nat) (i1 : Int32) (i2 : Int32) : Option (Int64) :=
  ck (isK G r0 3) <|
  Option.bind (lp_X3_byLastRow_13 G M r0 i1 i2 FU (0 : Int64) (1 : Int32) ((M.1 r0 2) - (1 : Int32))) fun q18 =>
  some q18
def bd_X3_determinant_18 (G : Gg) (r0 : Nat) (i1 : Int32) (rec : Int32 → Mm → Option (Mm)) (i2 : Int32) (M : Mm) : Option (Mm) :=
    if i1 < i2 then
      some M
    else
      ck (isK G r0 3) <|
      Option.bind (M.2.2 r0 1) fun r8 =>
      Option.bind (f_J6_bitCount_0f7a4 i2) fun q10 =>
      Option.bind (f_X3_byLastRow G M r0 (q10 - (1 : Int32)) i2) fun q12 =>
      ck (isK G r8 11) <|
      ck (inb i2 (G.2.2 r8)) <|
      rec (i2 + 1) (mwJ M r8 (Int32.toNatClampNeg i2) q12)
def lp_X3_determinant_18 (G : Gg) (r0 : Nat) (i1 : Int32) : Nat → Int32 → Mm → Option (Mm)
  | 0, _, _ => none
  | n + 1, i2, M => bd_X3_determinant_18 G r0 i1 (lp_X3_determinant_18 G r0 i1 n) i2 M
def f_X3_determinant (G : Gg) (M : Mm) (r0 : Nat) : Option (Int64 × Mm) :=
  ck (isK G r0 3) <|
  Option.bind (M.2.2 r0 1) fun r2 =>
  ck (isK G r2 11) <|
  ck (inb (0 : Int32) (G.2.2 r2)) <|
  Option.bind (lp_X3_determinant_18 G r0 (((1 : Int32) <<< (((mwJ M r2 (Int32.toNatClampNeg (0 : Int32)) (1 : Int64)).1 r0 2) &&& 31)) - (1 : Int32)) FU (1 : Int32) (mwJ M r2 (Int32.toNatClampNeg (0 : Int32)) (1 : Int64))) fun q16 =>
  Option.bind (q16.2.2 r0 1) fun r17 =>
  ck (isK G r17 11) <|
  ck (inb (((1 : Int32) <<< (((mwJ M r2 (Int32.toNatClampNeg (0 : Int32)) (1 : Int64)).1 r0 2) &&& 31)) - (1 : Int32)) (G.2.2 r17)) <|
  some ((q16.2.1 r17 (Int32.toNatClampNeg (((1 : Int32) <<< (((mwJ M r2 (Int32.toNatClampNeg (0 : Int32)) (1 : Int64)).1 r0 2) &&& 31)) - (1 : Int32)))), q16)
def bd_X3_replaceColumn_2 (G : Gg) (r0 : Nat) (i1 : Int32) (r2 : Nat) (rec : Int32 → Mm → Option (Mm)) (i3 : Int32) (M : Mm) : Option (Mm) :=
    ck (isK G r0 3) <|
    if (M.1 r0 2) ≤ i3 then
      some M
    else
      ck (isK G r2 11) <|
      if (Int32.ofNat (G.2.2 r2)) ≤ i3 then
        some M
      else
        if i1 < 0 then
          rec (i3 + 1) M
        else
          if (M.1 r0 2) ≤ i1 then
            rec (i3 + 1) M
          else
            Option.bind (M.2.2 r0 0) fun r7 =>
            ck (inb i3 (G.2.2 r2)) <|
            ck (isK G r7 11) <|
            ck (inb ((i3 * (8 : Int32)) + i1) (G.2.2 r7)) <|
            rec (i3 + 1) (mwJ M r7 (Int32.toNatClampNeg ((i3 * (8 : Int32)) + i1)) (M.2.1 r2 (Int32.toNatClampNeg i3)))
def lp_X3_replaceColumn_2 (G : Gg) (r0 : Nat) (i1 : Int32) (r2 : Nat) : Nat → Int32 → Mm → Option (Mm)
  | 0, _, _ => none
  | n + 1, i3, M => bd_X3_replaceColumn_2 G r0 i1 r2 (lp_X3_replaceColumn_2 G r0 i1 r2 n) i3 M
def f_X3_replaceColumn (G : Gg) (M : Mm) (r0 : Nat) (i1 : Int32) (r2 : Nat) : Option (Mm) :=
  Option.bind (lp_X3_replaceColumn_2 G r0 i1 r2 FU (0 : Int32) M) fun q12 =>
  some q12
def f_X2_solve (G : Gg) (M : Mm) (r0 : Nat) (r1 : Nat) (i2 : Int32) (i3 : Int32) (r4 : Nat) : Option (Mm) :=
  ck (isK G r0 2) <|
  Option.bind (M.2.2 r0 0) fun r2 =>
  ck (isK G r2 3) <|
  Option.bind (f_X3_load G M r2 r1 i2) fun q4 =>
  Option.bind (q4.2.2 r0 0) fun r7 =>
  ck (isK G r7 3) <|
  Option.bind (f_X3_determinant G q4 r7) fun q9 =>
  Option.bind (q9.2.2.2 r0 0) fun r12 =>
  Option.bind (f_J6_bitCount_0f7a4 (i2 &&& (((1 : Int32) <<< (i3 &&& 31)) - (1 : Int32)))) fun q14 =>
  Option.bind (q9.2.2.2 r0 1) fun r16 =>
  ck (isK G r12 3) <|
  Option.bind (f_X3_replaceColumn G q9.2 r12 q14 r16) fun q18 =>
  Option.bind (q18.2.2 r0 0) fun r21 =>
  ck (isK G r21 3) <|
  Option.bind (f_X3_determinant G q18 r21) fun q23 =>
  ck (isK G r4 1) <|
  Option.bind (f_X1_put G q23.2 r4 q23.1 q9.1) fun q26 =>
  some q26
def bd_X2_findSteps_40 (G : Gg) (r0 : Nat) (r1 : Nat) (i2 : Int32) (r4 : Nat) (i5 : Int32) (rec : Int32 → Mm → Option (Mm)) (i6 : Int32) (M : Mm) : Option (Mm) :=
    if (8 : Int32) ≤ i6 then
      some M
    else
      ck (isK G r0 2) <|
      Option.bind (M.2.2 r0 1) fun r11 =>
      ck (isK G r1 0) <|
      ck (isK G r11 11) <|
      ck (inb i6 (G.2.2 r11)) <|
      rec (i6 + 1) (mwJ M r11 (Int32.toNatClampNeg i6) (Int32.toInt64 (M.1 r1 1)))
def lp_X2_findSteps_40 (G : Gg) (r0 : Nat) (r1 : Nat) (i2 : Int32) (r4 : Nat) (i5 : Int32) : Nat → Int32 → Mm → Option (Mm)
  | 0, _, _ => none
  | n + 1, i6, M => bd_X2_findSteps_40 G r0 r1 i2 r4 i5 (lp_X2_findSteps_40 G r0 r1 i2 r4 i5 n) i6 M
def f_X2_findSteps (G : Gg) (M : Mm) (r0 : Nat) (r1 : Nat) (i2 : Int32) (i3 : Int32) (r4 : Nat) : Option (Int32 × Mm) :=
  Option.bind (f_X8_has i3 i2) fun q1 =>
  if q1 = 0 then
    Option.bind (f_X2_reachedOutside G M r1 i2 i3) fun q4 =>
    Option.bind (f_X2_allLeadInto G M r1 q4 i3) fun q6 =>
    if q6 = 0 then
      some ((0 : Int32), M)
    else
      Option.bind (lp_X2_findSteps_40 G r0 r1 i2 r4 q4 FU (0 : Int32) M) fun q16 =>
      ck (isK G r0 2) <|
      Option.bind (f_X2_solve G q16 r0 r1 q4 i2 r4) fun q17 =>
      some ((1 : Int32), q17)
  else
    ck (isK G r4 1) <|
    Option.bind (f_X1_put G M r4 (0 : Int64) (1 : Int64)) fun q20 =>
    some ((1 : Int32), q20)
def bd_X2_leadingInto_15 (G : Gg) (M : Mm) (r0 : Nat) (i1 : Int32) (i2 : Int32) (i4 : Int32) (rec : Int32 → Int32 → Option (Int32)) (i3 : Int32) (i5 : Int32) : Option (Int32) :=
    ck (isK G r0 0) <|
    if (M.1 r0 0) ≤ i5 then
      some i3
    else
      Option.bind (f_X8_has (i1 ||| i2) i5) fun q4 =>
      if q4 = 0 then
        Option.bind (M.2.2 r0 3) fun r7 =>
        ck (isK G r7 10) <|
        ck (inb i5 (G.2.2 r7)) <|
        if ((M.1 r7 (Int32.toNatClampNeg i5)) &&& (i1 ||| i3)) = 0 then
          rec i3 (i5 + 1)
        else
          rec (i3 ||| ((1 : Int32) <<< (i5 &&& 31))) (i5 + 1)
      else
        rec i3 (i5 + 1)
def lp_X2_leadingInto_15 (G : Gg) (M : Mm) (r0 : Nat) (i1 : Int32) (i2 : Int32) (i4 : Int32) : Nat → Int32 → Int32 → Option (Int32)
  | 0, _, _ => none
  | n + 1, i3, i5 => bd_X2_leadingInto_15 G M r0 i1 i2 i4 (lp_X2_leadingInto_15 G M r0 i1 i2 i4 n) i3 i5
def bd_X2_leadingInto_5 (G : Gg) (M : Mm) (r0 : Nat) (i1 : Int32) (i2 : Int32) (rec : Int32 → Int32 → Option (Int32)) (i3 : Int32) (i4 : Int32) : Option (Int32) :=
    if (8 : Int32) ≤ i4 then
      some i3
    else
      Option.bind (lp_X2_leadingInto_15 G M r0 i1 i2 i4 FU i3 (0 : Int32)) fun q12 =>
      rec q12 (i4 + 1)
def lp_X2_leadingInto_5 (G : Gg) (M : Mm) (r0 : Nat) (i1 : Int32) (i2 : Int32) : Nat → Int32 → Int32 → Option (Int32)
  | 0, _, _ => none
  | n + 1, i3, i4 => bd_X2_leadingInto_5 G M r0 i1 i2 (lp_X2_leadingInto_5 G M r0 i1 i2 n) i3 i4
def f_X2_leadingInto (G : Gg) (M : Mm) (r0 : Nat) (i1 : Int32) (i2 : Int32) : Option (Int32) :=
  Option.bind (lp_X2_leadingInto_5 G M r0 i1 i2 FU (0 : Int32) (0 : Int32)) fun q13 =>
  some q13
def bd_X2_findAhead_44 (G : Gg) (r0 : Nat) (r1 : Nat) (i2 : Int32) (i3 : Int32) (r5 : Nat) (i6 : Int32) (rec : Int32 → Int32 → Mm → Option (Mm)) (i7 : Int32) (i8 : Int32) (M : Mm) : Option (Mm) :=
    ck (isK G r1 0) <|
    if (M.1 r1 0) ≤ i8 then
      some M
    else
      Option.bind (f_X8_has i6 i8) fun q8 =>
      if q8 = 0 then
        rec i7 (i8 + 1) M
      else
        ck (isK G r0 2) <|
        Option.bind (M.2.2 r0 1) fun r12 =>
        Option.bind (f_X0_into G M r1 i8 i3) fun q14 =>
        ck (isK G r12 11) <|
        ck (inb i7 (G.2.2 r12)) <|
        rec (i7 + 1) (i8 + 1) (mwJ M r12 (Int32.toNatClampNeg i7) (Int32.toInt64 q14))
def lp_X2_findAhead_44 (G : Gg) (r0 : Nat) (r1 : Nat) (i2 : Int32) (i3 : Int32) (r5 : Nat) (i6 : Int32) : Nat → Int32 → Int32 → Mm → Option (Mm)
  | 0, _, _, _ => none
  | n + 1, i7, i8, M => bd_X2_findAhead_44 G r0 r1 i2 i3 r5 i6 (lp_X2_findAhead_44 G r0 r1 i2 i3 r5 i6 n) i7 i8 M
def f_X2_findAhead (G : Gg) (M : Mm) (r0 : Nat) (r1 : Nat) (i2 : Int32) (i3 : Int32) (i4 : Int32) (r5 : Nat) : Option (Mm) :=
  Option.bind (f_X2_leadingInto G M r1 i3 i4) fun q1 =>
  Option.bind (f_X8_has q1 i2) fun q3 =>
  if q3 = 0 then
    Option.bind (f_X8_has i3 i2) fun q22 =>
    if q22 = 0 then
      ck (isK G r5 1) <|
      Option.bind (f_X1_put G M r5 (0 : Int64) (1 : Int64)) fun q25 =>
      some q25
    else
      ck (isK G r5 1) <|
      Option.bind (f_X1_put G M r5 (1 : Int64) (1 : Int64)) fun q28 =>
      some q28
  else
    Option.bind (lp_X2_findAhead_44 G r0 r1 i2 i3 r5 q1 FU (0 : Int32) (0 : Int32) M) fun q18 =>
    ck (isK G r0 2) <|
    Option.bind (f_X2_solve G q18 r0 r1 q1 i2 r5) fun q19 =>
    some q19
def jn_X3_fillShares_81 (G : Gg) (M : Mm) (rec : Int32 → Mm → Option (Mm)) (r0 : Nat) (r1 : Nat) (i2 : Int32) (i3 : Int32) (i4 : Int32)  : Option (Mm) :=
    ck (isK G r1 0) <|
    Option.bind (M.2.2 r1 5) fun r15 =>
    ck (isK G r15 11) <|
    ck (inb i4 (G.2.2 r15)) <|
    rec (i4 + 1) (mwJ M r1 6 ((M.2.1 r1 6) + (M.2.1 r15 (Int32.toNatClampNeg i4))))
def bd_X3_fillShares_27 (G : Gg) (r0 : Nat) (r1 : Nat) (i2 : Int32) (i3 : Int32) (rec : Int32 → Mm → Option (Mm)) (i4 : Int32) (M : Mm) : Option (Mm) :=
    ck (isK G r1 0) <|
    if (M.1 r1 0) ≤ i4 then
      some M
    else
      Option.bind (M.2.2 r1 5) fun r9 =>
      ck (isK G r9 11) <|
      ck (inb i4 (G.2.2 r9)) <|
      if i2 = 0 then
        jn_X3_fillShares_81 G (mwJ M r9 (Int32.toNatClampNeg i4) (0 : Int64)) rec r0 r1 i2 i3 i4
      else
        Option.bind (f_X8_has i3 i4) fun q19 =>
        if q19 = 0 then
          jn_X3_fillShares_81 G (mwJ M r9 (Int32.toNatClampNeg i4) (0 : Int64)) rec r0 r1 i2 i3 i4
        else
          ck (isK G r0 3) <|
          Option.bind (f_X3_load G (mwJ M r9 (Int32.toNatClampNeg i4) (0 : Int64)) r0 r1 (i3 &&& (((1 : Int32) <<< (i4 &&& 31)) ^^^ (-1)))) fun q22 =>
          Option.bind (q22.2.2 r1 5) fun r25 =>
          Option.bind (f_X3_determinant G q22 r0) fun q27 =>
          ck (isK G r25 11) <|
          ck (inb i4 (G.2.2 r25)) <|
          jn_X3_fillShares_81 G (mwJ q27.2 r25 (Int32.toNatClampNeg i4) q27.1) rec r0 r1 i2 i3 i4
def lp_X3_fillShares_27 (G : Gg) (r0 : Nat) (r1 : Nat) (i2 : Int32) (i3 : Int32) : Nat → Int32 → Mm → Option (Mm)
  | 0, _, _ => none
  | n + 1, i4, M => bd_X3_fillShares_27 G r0 r1 i2 i3 (lp_X3_fillShares_27 G r0 r1 i2 i3 n) i4 M
def f_X3_fillShares (G : Gg) (M : Mm) (r0 : Nat) (r1 : Nat) : Option (Mm) :=
  ck (isK G r1 0) <|
  Option.bind (f_X0_closedHeaps G M r1) fun q1 =>
  if q1 = (1 : Int32) then
    Option.bind (f_X0_closedStates G M r1) fun q32 =>
    Option.bind (lp_X3_fillShares_27 G r0 r1 (1 : Int32) q32 FU (0 : Int32) (mwJ M r1 6 (0 : Int64))) fun q34 =>
    some q34
  else
    Option.bind (f_X0_closedStates G M r1) fun q5 =>
    Option.bind (lp_X3_fillShares_27 G r0 r1 (0 : Int32) q5 FU (0 : Int32) (mwJ M r1 6 (0 : Int64))) fun q31 =>
    some q31
def bd_X8_isBelow_17  (rec : Int64 → Int64 → Int64 → Int64 → Int32 → Option ((Int32) ⊕ (Int64 × Int64))) (l8 : Int64) (l10 : Int64) (l12 : Int64) (l14 : Int64) (i16 : Int32) : Option ((Int32) ⊕ (Int64 × Int64)) :=
    if (200 : Int32) ≤ i16 then
      some (.inr (l10, l14))
    else
      if (lg_cmp l10 (0 : Int64)) = 0 then
        some (.inr (l10, l14))
      else
        if (lg_cmp l14 (0 : Int64)) = 0 then
          some (.inr (l10, l14))
        else
          ck (¬ l10 = 0) <|
          ck (¬ l14 = 0) <|
          if (lg_cmp (l8 / l10) (l12 / l14)) = 0 then
            rec l14 (l12 - l12 / l14 * l14) l10 (l8 - l8 / l10 * l10) (i16 + 1)
          else
            if 0 ≤ (lg_cmp (l8 / l10) (l12 / l14)) then
              some (.inl (0 : Int32))
            else
              some (.inl (1 : Int32))
def lp_X8_isBelow_17  : Nat → Int64 → Int64 → Int64 → Int64 → Int32 → Option ((Int32) ⊕ (Int64 × Int64))
  | 0, _, _, _, _, _ => none
  | n + 1, l8, l10, l12, l14, i16 => bd_X8_isBelow_17  (lp_X8_isBelow_17  n) l8 l10 l12 l14 i16
def jn_X8_isBelow_111 (l10 : Int64) (l14 : Int64)  : Option (Int32) :=
    if (lg_cmp l14 (0 : Int64)) = 0 then
      if (lg_cmp l10 (0 : Int64)) = 0 then
        some (0 : Int32)
      else
        some (1 : Int32)
    else
      some (0 : Int32)
def f_X8_isBelow (l0 : Int64) (l2 : Int64) (l4 : Int64) (l6 : Int64) : Option (Int32) :=
  Option.bind (lp_X8_isBelow_17  FU l0 l2 l4 l6 (0 : Int32)) fun q8 =>
  onS q8 (fun x10 => some x10) fun y9 =>
  jn_X8_isBelow_111  y9.1 y9.2
def f_X4_weigh (G : Gg) (M : Mm) (r0 : Nat) (r1 : Nat) (i2 : Int32) : Option (Mm) :=
  ck (isK G r1 0) <|
  Option.bind (f_X0_shareOf G M r1 i2) fun q1 =>
  if (lg_cmp q1 (0 : Int64)) ≤ 0 then
    some M
  else
    if (lg_cmp q1 ((M.2.1 r1 6) - q1)) ≤ 0 then
      Option.bind (f_X0_flowOutOf G M r1 i2) fun q6 =>
      ck (isK G r0 4) <|
      if (M.1 r0 0) = 0 then
        some (mwJ (mwJ (mwI M r0 0 i2) r0 1 q6) r0 2 q1)
      else
        Option.bind (f_X8_isBelow q6 q1 (M.2.1 r0 1) (M.2.1 r0 2)) fun q10 =>
        if q10 = 0 then
          some M
        else
          some (mwJ (mwJ (mwI M r0 0 i2) r0 1 q6) r0 2 q1)
    else
      some M
def bd_X4_find_24 (G : Gg) (r0 : Nat) (r1 : Nat) (rec : Int32 → Mm → Option (Mm)) (i2 : Int32) (M : Mm) : Option (Mm) :=
    ck (isK G r1 0) <|
    Option.bind (f_X0_allStates G M r1) fun q7 =>
    if q7 ≤ i2 then
      some M
    else
      ck (isK G r0 4) <|
      Option.bind (f_X4_weigh G M r0 r1 i2) fun q11 =>
      rec (i2 + 1) q11
def lp_X4_find_24 (G : Gg) (r0 : Nat) (r1 : Nat) : Nat → Int32 → Mm → Option (Mm)
  | 0, _, _ => none
  | n + 1, i2, M => bd_X4_find_24 G r0 r1 (lp_X4_find_24 G r0 r1 n) i2 M
def f_X4_find (G : Gg) (M : Mm) (r0 : Nat) (r1 : Nat) : Option (Int32 × Mm) :=
  ck (isK G r0 4) <|
  ck (isK G r1 0) <|
  if ((mwI M r0 0 (0 : Int32)).1 r1 0) < (2 : Int32) then
    some ((0 : Int32), (mwI M r0 0 (0 : Int32)))
  else
    Option.bind (f_X0_isWhole G (mwI M r0 0 (0 : Int32)) r1) fun q4 =>
    if q4 = 0 then
      some ((0 : Int32), (mwI M r0 0 (0 : Int32)))
    else
      Option.bind (lp_X4_find_24 G r0 r1 FU (1 : Int32) (mwI M r0 0 (0 : Int32))) fun q14 =>
      if (q14.1 r0 0) = 0 then
        some ((0 : Int32), q14)
      else
        some ((1 : Int32), q14)
def bd_X5_membersWith_4 (G : Gg) (M : Mm) (r0 : Nat) (i1 : Int32) (rec : Int32 → Int32 → Option (Int32)) (i2 : Int32) (i3 : Int32) : Option (Int32) :=
    ck (isK G r0 5) <|
    if (M.1 r0 2) ≤ i3 then
      some i2
    else
      Option.bind (M.2.2 r0 0) fun r3 =>
      ck (isK G r3 10) <|
      ck (inb i3 (G.2.2 r3)) <|
      ck (inb i1 (G.2.2 r3)) <|
      if (M.1 r3 (Int32.toNatClampNeg i3)) = (M.1 r3 (Int32.toNatClampNeg i1)) then
        rec (i2 ||| ((1 : Int32) <<< (i3 &&& 31))) (i3 + 1)
      else
        rec (i2 ||| (0 : Int32)) (i3 + 1)
def lp_X5_membersWith_4 (G : Gg) (M : Mm) (r0 : Nat) (i1 : Int32) : Nat → Int32 → Int32 → Option (Int32)
  | 0, _, _ => none
  | n + 1, i2, i3 => bd_X5_membersWith_4 G M r0 i1 (lp_X5_membersWith_4 G M r0 i1 n) i2 i3
def f_X5_membersWith (G : Gg) (M : Mm) (r0 : Nat) (i1 : Int32) : Option (Int32) :=
  Option.bind (lp_X5_membersWith_4 G M r0 i1 FU (0 : Int32) (0 : Int32)) fun q9 =>
  some q9
def bd_X5_areLike_25 (G : Gg) (M : Mm) (r0 : Nat) (r1 : Nat) (i2 : Int32) (i3 : Int32) (rec : Int32 → Int32 → Option (Int32)) (i4 : Int32) (i5 : Int32) : Option (Int32) :=
    ck (isK G r0 5) <|
    if (M.1 r0 2) ≤ i5 then
      some i4
    else
      if i4 = 0 then
        some i4
      else
        Option.bind (f_X5_membersWith G M r0 i5) fun q11 =>
        ck (isK G r1 0) <|
        Option.bind (f_X0_into G M r1 i2 q11) fun q13 =>
        Option.bind (f_X0_into G M r1 i3 q11) fun q16 =>
        if q13 = q16 then
          rec (1 : Int32) (i5 + 1)
        else
          rec (0 : Int32) (i5 + 1)
def lp_X5_areLike_25 (G : Gg) (M : Mm) (r0 : Nat) (r1 : Nat) (i2 : Int32) (i3 : Int32) : Nat → Int32 → Int32 → Option (Int32)
  | 0, _, _ => none
  | n + 1, i4, i5 => bd_X5_areLike_25 G M r0 r1 i2 i3 (lp_X5_areLike_25 G M r0 r1 i2 i3 n) i4 i5
def f_X5_areLike (G : Gg) (M : Mm) (r0 : Nat) (r1 : Nat) (i2 : Int32) (i3 : Int32) : Option (Int32) :=
  ck (isK G r0 5) <|
  Option.bind (M.2.2 r0 0) fun r2 =>
  ck (isK G r2 10) <|
  ck (inb i2 (G.2.2 r2)) <|
  ck (inb i3 (G.2.2 r2)) <|
  if (M.1 r2 (Int32.toNatClampNeg i2)) = (M.1 r2 (Int32.toNatClampNeg i3)) then
    Option.bind (lp_X5_areLike_25 G M r0 r1 i2 i3 FU (1 : Int32) (0 : Int32)) fun q21 =>
    ck (q21 &&& 1 = q21) <|
    some q21
  else
    Option.bind (lp_X5_areLike_25 G M r0 r1 i2 i3 FU (0 : Int32) (0 : Int32)) fun q19 =>
    ck (q19 &&& 1 = q19) <|
    some q19
def bd_X5_firstLike_2 (G : Gg) (M : Mm) (r0 : Nat) (r1 : Nat) (i2 : Int32) (rec : Int32 → Option ((Int32) ⊕ (Unit))) (i3 : Int32) : Option ((Int32) ⊕ (Unit)) :=
    if i2 ≤ i3 then
      some (.inr ())
    else
      ck (isK G r0 5) <|
      Option.bind (f_X5_areLike G M r0 r1 i2 i3) fun q2 =>
      if q2 = 0 then
        rec (i3 + 1)
      else
        some (.inl i3)
def lp_X5_firstLike_2 (G : Gg) (M : Mm) (r0 : Nat) (r1 : Nat) (i2 : Int32) : Nat → Int32 → Option ((Int32) ⊕ (Unit))
  | 0, _ => none
  | n + 1, i3 => bd_X5_firstLike_2 G M r0 r1 i2 (lp_X5_firstLike_2 G M r0 r1 i2 n) i3
def f_X5_firstLike (G : Gg) (M : Mm) (r0 : Nat) (r1 : Nat) (i2 : Int32) : Option (Int32) :=
  Option.bind (lp_X5_firstLike_2 G M r0 r1 i2 FU (0 : Int32)) fun q6 =>
  onS q6 (fun x8 => some x8) fun y7 =>
  some i2
def bd_X5_splitOnce_7 (G : Gg) (r0 : Nat) (r1 : Nat) (rec : Int32 → Mm → Option (Mm)) (i2 : Int32) (M : Mm) : Option (Mm) :=
    ck (isK G r0 5) <|
    if (M.1 r0 2) ≤ i2 then
      some M
    else
      Option.bind (f_X5_firstLike G M r0 r1 i2) fun q4 =>
      if i2 ≤ q4 then
        Option.bind (M.2.2 r0 1) fun r7 =>
        ck (isK G r7 10) <|
        ck (inb i2 (G.2.2 r7)) <|
        rec (i2 + 1) (mwI (mwI M r7 (Int32.toNatClampNeg i2) (M.1 r0 3)) r0 3 (((mwI M r7 (Int32.toNatClampNeg i2) (M.1 r0 3)).1 r0 3) + (1 : Int32)))
      else
        Option.bind (M.2.2 r0 1) fun r11 =>
        ck (isK G r11 10) <|
        ck (inb q4 (G.2.2 r11)) <|
        ck (inb i2 (G.2.2 r11)) <|
        rec (i2 + 1) (mwI M r11 (Int32.toNatClampNeg i2) (M.1 r11 (Int32.toNatClampNeg q4)))
def lp_X5_splitOnce_7 (G : Gg) (r0 : Nat) (r1 : Nat) : Nat → Int32 → Mm → Option (Mm)
  | 0, _, _ => none
  | n + 1, i2, M => bd_X5_splitOnce_7 G r0 r1 (lp_X5_splitOnce_7 G r0 r1 n) i2 M
def f_X5_splitOnce (G : Gg) (M : Mm) (r0 : Nat) (r1 : Nat) : Option (Mm) :=
  ck (isK G r0 5) <|
  Option.bind (lp_X5_splitOnce_7 G r0 r1 FU (0 : Int32) (mwI M r0 3 (0 : Int32))) fun q16 =>
  Option.bind (q16.2.2 r0 1) fun r17 =>
  Option.bind (q16.2.2 r0 0) fun r19 =>
  ck (isK G r17 10) <|
  ck (isK G r19 10) <|
  ck (¬ (0 : Int32) < 0) <|
  ck (¬ (q16.1 r0 2) < 0) <|
  ck ((Int32.toNatClampNeg (0 : Int32)) + (Int32.toNatClampNeg (q16.1 r0 2)) ≤ G.2.2 r17) <|
  ck ((Int32.toNatClampNeg (0 : Int32)) + (Int32.toNatClampNeg (q16.1 r0 2)) ≤ G.2.2 r19) <|
  some (mwC q16 r19 (va_cpy (q16.1 r17) (q16.1 r19) (Int32.toNatClampNeg (0 : Int32)) (Int32.toNatClampNeg (0 : Int32)) (Int32.toNatClampNeg (q16.1 r0 2))))
def bd_X5_split_10 (G : Gg) (r0 : Nat) (r1 : Nat) (r2 : Nat) (rec : Int32 → Mm → Option (Mm)) (i3 : Int32) (M : Mm) : Option (Mm) :=
    ck (isK G r0 5) <|
    if (M.1 r0 2) ≤ i3 then
      some M
    else
      Option.bind (M.2.2 r0 0) fun r5 =>
      ck (isK G r2 6) <|
      Option.bind (f_X6_at G M r2 i3) fun q7 =>
      ck (isK G r5 10) <|
      ck (inb i3 (G.2.2 r5)) <|
      rec (i3 + 1) (mwI M r5 (Int32.toNatClampNeg i3) q7)
def lp_X5_split_10 (G : Gg) (r0 : Nat) (r1 : Nat) (r2 : Nat) : Nat → Int32 → Mm → Option (Mm)
  | 0, _, _ => none
  | n + 1, i3, M => bd_X5_split_10 G r0 r1 r2 (lp_X5_split_10 G r0 r1 r2 n) i3 M
def bd_X5_split_45 (G : Gg) (r0 : Nat) (r1 : Nat) (rec : Int32 → Int32 → Mm → Option (Mm)) (i3 : Int32) (i4 : Int32) (M : Mm) : Option (Mm) :=
    if (8 : Int32) < i4 then
      some M
    else
      ck (isK G r0 5) <|
      if (M.1 r0 3) = i3 then
        some M
      else
        Option.bind (f_X5_splitOnce G M r0 r1) fun q16 =>
        rec (M.1 r0 3) (i4 + 1) q16
def lp_X5_split_45 (G : Gg) (r0 : Nat) (r1 : Nat) : Nat → Int32 → Int32 → Mm → Option (Mm)
  | 0, _, _, _ => none
  | n + 1, i3, i4, M => bd_X5_split_45 G r0 r1 (lp_X5_split_45 G r0 r1 n) i3 i4 M
def f_X5_split (G : Gg) (M : Mm) (r0 : Nat) (r1 : Nat) (r2 : Nat) : Option (Mm) :=
  ck (isK G r1 0) <|
  ck (isK G r0 5) <|
  Option.bind (lp_X5_split_10 G r0 r1 r2 FU (0 : Int32) (mwI M r0 2 (M.1 r1 0))) fun q12 =>
  Option.bind (lp_X5_split_45 G r0 r1 FU (-1) (0 : Int32) (mwI q12 r0 3 (0 : Int32))) fun q18 =>
  some q18
def bd_X5_tellTo_2 (G : Gg) (r0 : Nat) (r1 : Nat) (rec : Int32 → Mm → Option (Mm)) (i2 : Int32) (M : Mm) : Option (Mm) :=
    ck (isK G r0 5) <|
    if (M.1 r0 2) ≤ i2 then
      some M
    else
      ck (isK G r1 10) <|
      if (Int32.ofNat (G.2.2 r1)) ≤ i2 then
        some M
      else
        Option.bind (M.2.2 r0 0) fun r5 =>
        ck (isK G r5 10) <|
        ck (inb i2 (G.2.2 r5)) <|
        ck (inb i2 (G.2.2 r1)) <|
        rec (i2 + 1) (mwI M r1 (Int32.toNatClampNeg i2) (M.1 r5 (Int32.toNatClampNeg i2)))
def lp_X5_tellTo_2 (G : Gg) (r0 : Nat) (r1 : Nat) : Nat → Int32 → Mm → Option (Mm)
  | 0, _, _ => none
  | n + 1, i2, M => bd_X5_tellTo_2 G r0 r1 (lp_X5_tellTo_2 G r0 r1 n) i2 M
def f_X5_tellTo (G : Gg) (M : Mm) (r0 : Nat) (r1 : Nat) : Option (Int32 × Mm) :=
  Option.bind (lp_X5_tellTo_2 G r0 r1 FU (0 : Int32) M) fun q10 =>
  ck (isK G r0 5) <|
  some ((q10.1 r0 2), q10)
def f_X6_hasRoomFor (G : Gg) (M : Mm) (r0 : Nat) (i1 : Int32) : Option (Int32) :=
  ck (isK G r0 6) <|
  if (80 : Int32) < ((M.1 r0 1) + (i1 * (4 : Int32))) then
    some (0 : Int32)
  else
    some (1 : Int32)
def bd_X6_append_3 (G : Gg) (r0 : Nat) (i1 : Int32) (rec : Int32 → Mm → Option (Mm)) (i2 : Int32) (M : Mm) : Option (Mm) :=
    if i2 < 0 then
      some M
    else
      ck (isK G r0 6) <|
      if (80 : Int32) ≤ (M.1 r0 1) then
        some M
      else
        Option.bind (M.2.2 r0 0) fun r4 =>
        ck (isK G r4 10) <|
        ck (inb (M.1 r0 1) (G.2.2 r4)) <|
        rec (i2 + (-8)) (mwI (mwI M r4 (Int32.toNatClampNeg (M.1 r0 1)) (((Int32.toUInt32 i1 >>> (Int32.toUInt32 i2 &&& Int32.toUInt32 31)).toInt32) &&& (255 : Int32))) r0 1 (((mwI M r4 (Int32.toNatClampNeg (M.1 r0 1)) (((Int32.toUInt32 i1 >>> (Int32.toUInt32 i2 &&& Int32.toUInt32 31)).toInt32) &&& (255 : Int32))).1 r0 1) + (1 : Int32)))
def lp_X6_append_3 (G : Gg) (r0 : Nat) (i1 : Int32) : Nat → Int32 → Mm → Option (Mm)
  | 0, _, _ => none
  | n + 1, i2, M => bd_X6_append_3 G r0 i1 (lp_X6_append_3 G r0 i1 n) i2 M
def f_X6_append (G : Gg) (M : Mm) (r0 : Nat) (i1 : Int32) : Option (Mm) :=
  Option.bind (lp_X6_append_3 G r0 i1 FU (24 : Int32) M) fun q8 =>
  some q8
def f_X6_shorten (G : Gg) (M : Mm) (r0 : Nat) (i1 : Int32) : Option (Int32 × Mm) :=
  if i1 < 0 then
    some ((0 : Int32), M)
  else
    ck (isK G r0 6) <|
    if i1 ≤ (M.1 r0 1) then
      some ((1 : Int32), (mwI M r0 1 i1))
    else
      some ((0 : Int32), M)
def bd_X7_begin_2 (G : Gg) (r0 : Nat) (rec : Int32 → Mm → Option (Mm)) (i1 : Int32) (M : Mm) : Option (Mm) :=
    if (64 : Int32) ≤ i1 then
      some M
    else
      ck (isK G r0 7) <|
      Option.bind (M.2.2 r0 0) fun r3 =>
      ck (¬ (9 : Int32) = 0) <|
      if (i1 - i1 / (9 : Int32) * (9 : Int32)) = 0 then
        ck (isK G r3 11) <|
        ck (inb i1 (G.2.2 r3)) <|
        rec (i1 + 1) (mwJ M r3 (Int32.toNatClampNeg i1) (1 : Int64))
      else
        ck (isK G r3 11) <|
        ck (inb i1 (G.2.2 r3)) <|
        rec (i1 + 1) (mwJ M r3 (Int32.toNatClampNeg i1) (0 : Int64))
def lp_X7_begin_2 (G : Gg) (r0 : Nat) : Nat → Int32 → Mm → Option (Mm)
  | 0, _, _ => none
  | n + 1, i1, M => bd_X7_begin_2 G r0 (lp_X7_begin_2 G r0 n) i1 M
def f_X7_begin (G : Gg) (M : Mm) (r0 : Nat) : Option (Mm) :=
  Option.bind (lp_X7_begin_2 G r0 FU (0 : Int32) M) fun q11 =>
  ck (isK G r0 7) <|
  some (mwJ q11 r0 2 (1 : Int64))
def bd_X7_moveRow_8 (G : Gg) (r0 : Nat) (r1 : Nat) (i3 : Int32) (rec : Int32 → Mm → Option (Mm)) (i4 : Int32) (M : Mm) : Option (Mm) :=
    ck (isK G r1 0) <|
    if (M.1 r1 0) ≤ i4 then
      some M
    else
      ck (isK G r0 7) <|
      Option.bind (M.2.2 r0 1) fun r4 =>
      Option.bind (M.2.2 r0 0) fun r6 =>
      ck (isK G r6 11) <|
      ck (inb (i3 + i4) (G.2.2 r6)) <|
      ck (isK G r4 11) <|
      ck (inb i4 (G.2.2 r4)) <|
      rec (i4 + 1) (mwJ (mwJ M r4 (Int32.toNatClampNeg i4) (M.2.1 r6 (Int32.toNatClampNeg (i3 + i4)))) r6 (Int32.toNatClampNeg (i3 + i4)) (0 : Int64))
def lp_X7_moveRow_8 (G : Gg) (r0 : Nat) (r1 : Nat) (i3 : Int32) : Nat → Int32 → Mm → Option (Mm)
  | 0, _, _ => none
  | n + 1, i4, M => bd_X7_moveRow_8 G r0 r1 i3 (lp_X7_moveRow_8 G r0 r1 i3 n) i4 M
def bd_X7_moveRow_64 (G : Gg) (r0 : Nat) (r1 : Nat) (i3 : Int32) (i4 : Int32) (rec : Int32 → Mm → Option (Mm)) (i5 : Int32) (M : Mm) : Option (Mm) :=
    ck (isK G r1 0) <|
    if (M.1 r1 0) ≤ i5 then
      some M
    else
      ck (isK G r0 7) <|
      Option.bind (M.2.2 r0 1) fun r18 =>
      ck (isK G r18 11) <|
      ck (inb i4 (G.2.2 r18)) <|
      if (lg_cmp (M.2.1 r18 (Int32.toNatClampNeg i4)) (0 : Int64)) = 0 then
        some M
      else
        Option.bind (M.2.2 r0 0) fun r23 =>
        ck (isK G r23 11) <|
        ck (inb (i3 + i5) (G.2.2 r23)) <|
        Option.bind (M.2.2 r1 2) fun r27 =>
        ck (isK G r27 10) <|
        ck (inb ((i4 * (8 : Int32)) + i5) (G.2.2 r27)) <|
        rec (i5 + 1) (mwJ M r23 (Int32.toNatClampNeg (i3 + i5)) ((M.2.1 r23 (Int32.toNatClampNeg (i3 + i5))) + ((M.2.1 r18 (Int32.toNatClampNeg i4)) * (Int32.toInt64 (M.1 r27 (Int32.toNatClampNeg ((i4 * (8 : Int32)) + i5)))))))
def lp_X7_moveRow_64 (G : Gg) (r0 : Nat) (r1 : Nat) (i3 : Int32) (i4 : Int32) : Nat → Int32 → Mm → Option (Mm)
  | 0, _, _ => none
  | n + 1, i5, M => bd_X7_moveRow_64 G r0 r1 i3 i4 (lp_X7_moveRow_64 G r0 r1 i3 i4 n) i5 M
def bd_X7_moveRow_52 (G : Gg) (r0 : Nat) (r1 : Nat) (i3 : Int32) (rec : Int32 → Mm → Option (Mm)) (i4 : Int32) (M : Mm) : Option (Mm) :=
    ck (isK G r1 0) <|
    if (M.1 r1 0) ≤ i4 then
      some M
    else
      Option.bind (lp_X7_moveRow_64 G r0 r1 i3 i4 FU (0 : Int32) M) fun q31 =>
      rec (i4 + 1) q31
def lp_X7_moveRow_52 (G : Gg) (r0 : Nat) (r1 : Nat) (i3 : Int32) : Nat → Int32 → Mm → Option (Mm)
  | 0, _, _ => none
  | n + 1, i4, M => bd_X7_moveRow_52 G r0 r1 i3 (lp_X7_moveRow_52 G r0 r1 i3 n) i4 M
def f_X7_moveRow (G : Gg) (M : Mm) (r0 : Nat) (r1 : Nat) (i2 : Int32) : Option (Mm) :=
  Option.bind (lp_X7_moveRow_8 G r0 r1 (i2 * (8 : Int32)) FU (0 : Int32) M) fun q12 =>
  Option.bind (lp_X7_moveRow_52 G r0 r1 (i2 * (8 : Int32)) FU (0 : Int32) q12) fun q32 =>
  some q32
def bd_X7_goOnce_2 (G : Gg) (r0 : Nat) (r1 : Nat) (i2 : Int32) (rec : Int32 → Mm → Option (Mm)) (i3 : Int32) (M : Mm) : Option (Mm) :=
    ck (isK G r1 0) <|
    if (M.1 r1 0) ≤ i3 then
      some M
    else
      Option.bind (f_X8_has i2 i3) fun q3 =>
      if q3 = 0 then
        rec (i3 + 1) M
      else
        ck (isK G r0 7) <|
        Option.bind (f_X7_moveRow G M r0 r1 i3) fun q6 =>
        rec (i3 + 1) q6
def lp_X7_goOnce_2 (G : Gg) (r0 : Nat) (r1 : Nat) (i2 : Int32) : Nat → Int32 → Mm → Option (Mm)
  | 0, _, _ => none
  | n + 1, i3, M => bd_X7_goOnce_2 G r0 r1 i2 (lp_X7_goOnce_2 G r0 r1 i2 n) i3 M
def f_X7_goOnce (G : Gg) (M : Mm) (r0 : Nat) (r1 : Nat) (i2 : Int32) : Option (Mm) :=
  Option.bind (lp_X7_goOnce_2 G r0 r1 i2 FU (0 : Int32) M) fun q9 =>
  ck (isK G r0 7) <|
  ck (isK G r1 0) <|
  some (mwJ q9 r0 2 ((q9.2.1 r0 2) * (Int32.toInt64 (q9.1 r1 1))))
def bd_X7_go_7 (G : Gg) (r0 : Nat) (r1 : Nat) (i2 : Int32) (i3 : Int32) (rec : Int32 → Mm → Option (Mm)) (i4 : Int32) (M : Mm) : Option (Mm) :=
    if i3 ≤ i4 then
      some M
    else
      if (20 : Int32) ≤ i4 then
        some M
      else
        ck (isK G r0 7) <|
        Option.bind (f_X7_goOnce G M r0 r1 i2) fun q6 =>
        rec (i4 + 1) q6
def lp_X7_go_7 (G : Gg) (r0 : Nat) (r1 : Nat) (i2 : Int32) (i3 : Int32) : Nat → Int32 → Mm → Option (Mm)
  | 0, _, _ => none
  | n + 1, i4, M => bd_X7_go_7 G r0 r1 i2 i3 (lp_X7_go_7 G r0 r1 i2 i3 n) i4 M
def f_X7_go (G : Gg) (M : Mm) (r0 : Nat) (r1 : Nat) (i2 : Int32) (i3 : Int32) : Option (Mm) :=
  ck (isK G r0 7) <|
  Option.bind (f_X7_begin G M r0) fun q1 =>
  Option.bind (lp_X7_go_7 G r0 r1 i2 i3 FU (0 : Int32) q1) fun q9 =>
  some q9
def f_X7_at (G : Gg) (M : Mm) (r0 : Nat) (i1 : Int32) (i2 : Int32) : Option (Int64) :=
  if i1 < 0 then
    some (0 : Int64)
  else
    if (8 : Int32) ≤ i1 then
      some (0 : Int64)
    else
      if i2 < 0 then
        some (0 : Int64)
      else
        if (8 : Int32) ≤ i2 then
          some (0 : Int64)
        else
          ck (isK G r0 7) <|
          Option.bind (M.2.2 r0 0) fun r6 =>
          ck (isK G r6 11) <|
          ck (inb ((i1 * (8 : Int32)) + i2) (G.2.2 r6)) <|
          some (M.2.1 r6 (Int32.toNatClampNeg ((i1 * (8 : Int32)) + i2)))
def bd_X7_gap_25 (G : Gg) (M : Mm) (r0 : Nat) (r1 : Nat) (i2 : Int32) (i3 : Int32) (rec : Int64 → Int32 → Option (Int64)) (l4 : Int64) (i6 : Int32) : Option (Int64) :=
    ck (isK G r1 0) <|
    if (M.1 r1 0) ≤ i6 then
      some l4
    else
      ck (isK G r0 7) <|
      Option.bind (M.2.2 r0 0) fun r11 =>
      ck (isK G r11 11) <|
      ck (inb ((i2 * (8 : Int32)) + i6) (G.2.2 r11)) <|
      ck (inb ((i3 * (8 : Int32)) + i6) (G.2.2 r11)) <|
      rec (l4 + (if 0 < ((M.2.1 r11 (Int32.toNatClampNeg ((i2 * (8 : Int32)) + i6))) - (M.2.1 r11 (Int32.toNatClampNeg ((i3 * (8 : Int32)) + i6)))) then ((M.2.1 r11 (Int32.toNatClampNeg ((i2 * (8 : Int32)) + i6))) - (M.2.1 r11 (Int32.toNatClampNeg ((i3 * (8 : Int32)) + i6)))) else -((M.2.1 r11 (Int32.toNatClampNeg ((i2 * (8 : Int32)) + i6))) - (M.2.1 r11 (Int32.toNatClampNeg ((i3 * (8 : Int32)) + i6)))))) (i6 + 1)
def lp_X7_gap_25 (G : Gg) (M : Mm) (r0 : Nat) (r1 : Nat) (i2 : Int32) (i3 : Int32) : Nat → Int64 → Int32 → Option (Int64)
  | 0, _, _ => none
  | n + 1, l4, i6 => bd_X7_gap_25 G M r0 r1 i2 i3 (lp_X7_gap_25 G M r0 r1 i2 i3 n) l4 i6
def f_X7_gap (G : Gg) (M : Mm) (r0 : Nat) (r1 : Nat) (i2 : Int32) (i3 : Int32) : Option (Int64) :=
  ck (isK G r1 0) <|
  Option.bind (f_X0_isState G M r1 i2) fun q1 =>
  if q1 = 0 then
    some (0 : Int64)
  else
    Option.bind (f_X0_isState G M r1 i3) fun q5 =>
    if q5 = 0 then
      some (0 : Int64)
    else
      Option.bind (lp_X7_gap_25 G M r0 r1 i2 i3 FU (0 : Int64) (0 : Int32)) fun q16 =>
      some q16
def bd_X7_widestGap_17 (G : Gg) (M : Mm) (r0 : Nat) (r1 : Nat) (i4 : Int32) (rec : Int64 → Int32 → Option (Int64)) (l2 : Int64) (i5 : Int32) : Option (Int64) :=
    if i4 ≤ i5 then
      some l2
    else
      ck (isK G r0 7) <|
      Option.bind (f_X7_gap G M r0 r1 i4 i5) fun q4 =>
      rec (if q4 < l2 then l2 else q4) (i5 + 1)
def lp_X7_widestGap_17 (G : Gg) (M : Mm) (r0 : Nat) (r1 : Nat) (i4 : Int32) : Nat → Int64 → Int32 → Option (Int64)
  | 0, _, _ => none
  | n + 1, l2, i5 => bd_X7_widestGap_17 G M r0 r1 i4 (lp_X7_widestGap_17 G M r0 r1 i4 n) l2 i5
def bd_X7_widestGap_5 (G : Gg) (M : Mm) (r0 : Nat) (r1 : Nat) (rec : Int64 → Int32 → Option (Int64)) (l2 : Int64) (i4 : Int32) : Option (Int64) :=
    ck (isK G r1 0) <|
    if (M.1 r1 0) ≤ i4 then
      some l2
    else
      Option.bind (lp_X7_widestGap_17 G M r0 r1 i4 FU l2 (0 : Int32)) fun q7 =>
      rec q7 (i4 + 1)
def lp_X7_widestGap_5 (G : Gg) (M : Mm) (r0 : Nat) (r1 : Nat) : Nat → Int64 → Int32 → Option (Int64)
  | 0, _, _ => none
  | n + 1, l2, i4 => bd_X7_widestGap_5 G M r0 r1 (lp_X7_widestGap_5 G M r0 r1 n) l2 i4
def f_X7_widestGap (G : Gg) (M : Mm) (r0 : Nat) (r1 : Nat) : Option (Int64) :=
  Option.bind (lp_X7_widestGap_5 G M r0 r1 FU (0 : Int64) (0 : Int32)) fun q8 =>
  some q8
def bd_X7_firstNear_13 (G : Gg) (r0 : Nat) (r1 : Nat) (i2 : Int32) (i3 : Int32) (i4 : Int32) (rec : Int32 → Mm → Option ((Int32 × Mm) ⊕ (Mm))) (i5 : Int32) (M : Mm) : Option ((Int32 × Mm) ⊕ (Mm)) :=
    if i4 < i5 then
      some (.inr M)
    else
      ck (isK G r0 7) <|
      Option.bind (f_X7_widestGap G M r0 r1) fun q8 =>
      if 0 < (lg_cmp (q8 * (Int32.toInt64 i3)) (((2 : Int64) * (M.2.1 r0 2)) * (Int32.toInt64 i2))) then
        ck (isK G r1 0) <|
        Option.bind (f_X0_allStates G M r1) fun q12 =>
        Option.bind (f_X7_goOnce G M r0 r1 q12) fun q15 =>
        rec (i5 + 1) q15
      else
        some (.inl (i5, M))
def lp_X7_firstNear_13 (G : Gg) (r0 : Nat) (r1 : Nat) (i2 : Int32) (i3 : Int32) (i4 : Int32) : Nat → Int32 → Mm → Option ((Int32 × Mm) ⊕ (Mm))
  | 0, _, _ => none
  | n + 1, i5, M => bd_X7_firstNear_13 G r0 r1 i2 i3 i4 (lp_X7_firstNear_13 G r0 r1 i2 i3 i4 n) i5 M
def f_X7_firstNear (G : Gg) (M : Mm) (r0 : Nat) (r1 : Nat) (i2 : Int32) (i3 : Int32) : Option (Int32 × Mm) :=
  ck (isK G r1 0) <|
  Option.bind (f_X0_lastTime G M r1) fun q1 =>
  ck (isK G r0 7) <|
  Option.bind (f_X7_begin G M r0) fun q4 =>
  Option.bind (lp_X7_firstNear_13 G r0 r1 i2 i3 q1 FU (0 : Int32) q4) fun q17 =>
  onS q17 (fun x19 => some x19) fun y18 =>
  some ((-1), y18)
def f_X8_feed (G : Gg) (M : Mm) (r0 : Nat) (i1 : Int32) (i2 : Int32) (i3 : Int32) (i4 : Int32) (i5 : Int32) : Option (Int32 × Mm) :=
  ck (isK G r0 8) <|
  Option.bind (M.2.2 r0 0) fun r2 =>
  ck (isK G r2 6) <|
  Option.bind (f_X6_hasRoomFor G M r2 (5 : Int32)) fun q4 =>
  if q4 = 0 then
    some ((-1), M)
  else
    Option.bind (f_X6_append G M r2 i1) fun q8 =>
    Option.bind (q8.2.2 r0 0) fun r10 =>
    ck (isK G r10 6) <|
    Option.bind (f_X6_append G q8 r10 i2) fun q12 =>
    Option.bind (q12.2.2 r0 0) fun r15 =>
    ck (isK G r15 6) <|
    Option.bind (f_X6_append G q12 r15 i3) fun q17 =>
    Option.bind (q17.2.2 r0 0) fun r20 =>
    ck (isK G r20 6) <|
    Option.bind (f_X6_append G q17 r20 i4) fun q22 =>
    Option.bind (q22.2.2 r0 0) fun r25 =>
    ck (isK G r25 6) <|
    Option.bind (f_X6_append G q22 r25 i5) fun q27 =>
    Option.bind (q27.2.2 r0 0) fun r30 =>
    ck (isK G r30 6) <|
    some ((q27.1 r30 1), q27)
def f_X8_end (G : Gg) (M : Mm) (r0 : Nat) (i1 : Int32) : Option (Int32 × Mm) :=
  ck (isK G r0 8) <|
  Option.bind (M.2.2 r0 0) fun r2 =>
  ck (isK G r2 6) <|
  Option.bind (f_X6_shorten G M r2 i1) fun q4 =>
  ck (q4.1 &&& 1 = q4.1) <|
  some (q4.1, q4.2)
def f_X8_isSlot (i0 : Int32) : Option (Int32) :=
  if i0 < 0 then
    some (0 : Int32)
  else
    if (6 : Int32) ≤ i0 then
      some (0 : Int32)
    else
      some (1 : Int32)
def f_X8_place (G : Gg) (M : Mm) (r0 : Nat) (i1 : Int32) : Option (Int32 × Mm) :=
  Option.bind (f_X8_isSlot i1) fun q1 =>
  if q1 = 0 then
    some ((-1), M)
  else
    ck (isK G r0 8) <|
    Option.bind (M.2.2 r0 4) fun r5 =>
    ck (isK G r5 0) <|
    Option.bind (f_X0_settle G M r5) fun q7 =>
    if q7.1 = 0 then
      some ((-1), q7.2)
    else
      Option.bind (q7.2.2.2 r0 7) fun r11 =>
      ck (isK G r11 2) <|
      Option.bind (q7.2.2.2 r11 0) fun r14 =>
      Option.bind (q7.2.2.2 r0 4) fun r16 =>
      ck (isK G r14 3) <|
      Option.bind (f_X3_fillShares G q7.2 r14 r16) fun q18 =>
      Option.bind (q18.2.2 r0 3) fun r21 =>
      ck (isK G r21 12) <|
      ck (inb i1 (G.2.2 r21)) <|
      Option.bind (q18.2.2 r21 (Int32.toNatClampNeg i1)) fun r25 =>
      Option.bind (q18.2.2 r0 4) fun r27 =>
      ck (isK G r27 0) <|
      Option.bind ((mwP (mwP q18 r21 (Int32.toNatClampNeg i1) (some r27)) r0 4 (some r25)).2.2 r0 3) fun r30 =>
      ck (isK G r30 12) <|
      ck (inb i1 (G.2.2 r30)) <|
      Option.bind ((mwP (mwP q18 r21 (Int32.toNatClampNeg i1) (some r27)) r0 4 (some r25)).2.2 r30 (Int32.toNatClampNeg i1)) fun r34 =>
      ck (isK G r34 0) <|
      some (((mwP (mwP q18 r21 (Int32.toNatClampNeg i1) (some r27)) r0 4 (some r25)).1 r34 1), (mwP (mwP q18 r21 (Int32.toNatClampNeg i1) (some r27)) r0 4 (some r25)))
def jn_X8_sheet_28 (G : Gg) (M : Mm) (r0 : Nat) (i1 : Int32) (k0 : Int32) : Option (Int32 × Mm) :=
    ck (isK G r0 8) <|
    Option.bind (M.2.2 r0 0) fun r5 =>
    ck (isK G r5 6) <|
    Option.bind (f_X6_shorten G M r5 (0 : Int32)) fun q7 =>
    if k0 = 0 then
      some ((-1), q7.2)
    else
      Option.bind (f_X8_place G q7.2 r0 i1) fun q11 =>
      some (q11.1, q11.2)
def jn_X8_sheet_27 (G : Gg) (M : Mm) (r0 : Nat) (i1 : Int32)  : Option (Int32 × Mm) :=
    jn_X8_sheet_28 G M  r0 i1 (0 : Int32)
def f_X8_sheet (G : Gg) (M : Mm) (r0 : Nat) (i1 : Int32) (i2 : Int32) (i3 : Int32) : Option (Int32 × Mm) :=
  Option.bind (f_X8_isSlot i1) fun q1 =>
  if q1 = 0 then
    jn_X8_sheet_27 G M  r0 i1
  else
    ck (isK G r0 8) <|
    Option.bind (M.2.2 r0 4) fun r14 =>
    Option.bind (M.2.2 r0 0) fun r16 =>
    ck (isK G r14 0) <|
    Option.bind (f_X0_readTape G M r14 r16 i2 i3) fun q18 =>
    if q18.1 = 0 then
      jn_X8_sheet_27 G q18.2  r0 i1
    else
      jn_X8_sheet_28 G q18.2  r0 i1 (1 : Int32)
def f_X8_chainIn (G : Gg) (M : Mm) (r0 : Nat) (i1 : Int32) : Option (Option Nat) :=
  Option.bind (f_X8_isSlot i1) fun q1 =>
  if q1 = 0 then
    some none
  else
    ck (isK G r0 8) <|
    Option.bind (M.2.2 r0 3) fun r5 =>
    ck (isK G r5 12) <|
    ck (inb i1 (G.2.2 r5)) <|
    Option.bind (M.2.2 r5 (Int32.toNatClampNeg i1)) fun r9 =>
    ck (isK G r9 0) <|
    if (M.1 r9 0) ≤ 0 then
      some none
    else
      Option.bind (M.2.2 r5 (Int32.toNatClampNeg i1)) fun r13 =>
      some (some r13)
def f_X8_lazy (G : Gg) (M : Mm) (r0 : Nat) (i1 : Int32) (i2 : Int32) : Option (Int32 × Mm) :=
  ck (isK G r0 8) <|
  Option.bind (f_X8_chainIn G M r0 i1) fun q1 =>
  onE q1
    (some ((-1), M))
    fun r4 =>
    Option.bind (f_X8_isSlot i2) fun q5 =>
    if q5 = 0 then
      some ((-1), M)
    else
      Option.bind (M.2.2 r0 4) fun r8 =>
      ck (isK G r8 0) <|
      Option.bind (f_X0_makeLazyOf G M r8 r4) fun q10 =>
      Option.bind (f_X8_place G q10 r0 i2) fun q13 =>
      some (q13.1, q13.2)
def f_X8_back (G : Gg) (M : Mm) (r0 : Nat) (i1 : Int32) (i2 : Int32) : Option (Int32 × Mm) :=
  ck (isK G r0 8) <|
  Option.bind (f_X8_chainIn G M r0 i1) fun q1 =>
  onE q1
    (some ((-1), M))
    fun r4 =>
    Option.bind (f_X8_isSlot i2) fun q5 =>
    if q5 = 0 then
      some ((-1), M)
    else
      ck (isK G r4 0) <|
      Option.bind (f_X0_isWhole G M r4) fun q8 =>
      if q8 = 0 then
        some ((-1), M)
      else
        Option.bind (M.2.2 r0 4) fun r12 =>
        Option.bind (M.2.2 r0 9) fun r14 =>
        ck (isK G r12 0) <|
        Option.bind (f_X0_makeBackOf G M r12 r4 r14) fun q16 =>
        if q16.1 = 0 then
          some ((-1), q16.2)
        else
          Option.bind (f_X8_place G q16.2 r0 i2) fun q20 =>
          some (q20.1, q20.2)
def jn_X8_melt_55 (G : Gg) (M : Mm) (r0 : Nat) (i2 : Int32) (i4 : Int32)  : Option (Int32 × Mm) :=
    ck (isK G r0 8) <|
    Option.bind (M.2.2 r0 0) fun r7 =>
    ck (isK G r7 6) <|
    Option.bind (f_X6_shorten G M r7 (0 : Int32)) fun q9 =>
    if i4 = 0 then
      some ((-1), q9.2)
    else
      Option.bind (q9.2.2.2 r0 4) fun r13 =>
      Option.bind (q9.2.2.2 r0 5) fun r15 =>
      none
def jn_X8_melt_36 (G : Gg) (M : Mm) (r0 : Nat) (i2 : Int32) (k0 : Int32) : Option (Int32 × Mm) :=
    if k0 = 0 then
      jn_X8_melt_55 G M  r0 i2 k0
    else
      ck (isK G r0 8) <|
      Option.bind (M.2.2 r0 5) fun r18 =>
      Option.bind (M.2.2 r0 0) fun r20 =>
      none
def jn_X8_melt_35 (G : Gg) (M : Mm) (r0 : Nat) (i2 : Int32)  : Option (Int32 × Mm) :=
    jn_X8_melt_36 G M  r0 i2 (0 : Int32)
def jn_X8_melt_55v28 (G : Gg) (M : Mm) (r0 : Nat) (i2 : Int32) (r3 : Nat) (i4 : Int32)  : Option (Int32 × Mm) :=
    ck (isK G r0 8) <|
    Option.bind (M.2.2 r0 0) fun r30 =>
    ck (isK G r30 6) <|
    Option.bind (f_X6_shorten G M r30 (0 : Int32)) fun q32 =>
    if i4 = 0 then
      some ((-1), q32.2)
    else
      Option.bind (q32.2.2.2 r0 4) fun r36 =>
      Option.bind (q32.2.2.2 r0 5) fun r38 =>
      ck (isK G r36 0) <|
      Option.bind (f_X0_makeMeltedOf G q32.2 r36 r3 r38) fun q40 =>
      Option.bind (f_X8_place G q40 r0 i2) fun q43 =>
      if q43.1 = (-1) then
        some ((-1), q43.2)
      else
        Option.bind (q43.2.2.2 r0 5) fun r46 =>
        Option.bind (q43.2.2.2 r0 1) fun r48 =>
        ck (isK G r46 5) <|
        Option.bind (f_X5_tellTo G q43.2 r46 r48) fun q50 =>
        Option.bind ((mwI q50.2 r0 2 q50.1).2.2 r0 5) fun r53 =>
        ck (isK G r53 5) <|
        some (((mwI q50.2 r0 2 q50.1).1 r53 3), (mwI q50.2 r0 2 q50.1))
def jn_X8_melt_36v26 (G : Gg) (M : Mm) (r0 : Nat) (i2 : Int32) (r3 : Nat) (k0 : Int32) : Option (Int32 × Mm) :=
    if k0 = 0 then
      jn_X8_melt_55v28 G M  r0 i2 r3 k0
    else
      ck (isK G r0 8) <|
      Option.bind (M.2.2 r0 5) fun r57 =>
      Option.bind (M.2.2 r0 0) fun r59 =>
      ck (isK G r57 5) <|
      Option.bind (f_X5_split G M r57 r3 r59) fun q61 =>
      jn_X8_melt_55v28 G q61  r0 i2 r3 k0
def jn_X8_melt_35v25 (G : Gg) (M : Mm) (r0 : Nat) (i2 : Int32) (r3 : Nat)  : Option (Int32 × Mm) :=
    jn_X8_melt_36v26 G M  r0 i2 r3 (0 : Int32)
def f_X8_melt (G : Gg) (M : Mm) (r0 : Nat) (i1 : Int32) (i2 : Int32) : Option (Int32 × Mm) :=
  ck (isK G r0 8) <|
  Option.bind (f_X8_chainIn G M r0 i1) fun q1 =>
  onE q1
    (jn_X8_melt_35 G M  r0 i2)
    fun r4 =>
    Option.bind (f_X8_isSlot i2) fun q22 =>
    if q22 = 0 then
      jn_X8_melt_35v25 G M  r0 i2 r4
    else
      Option.bind (M.2.2 r0 0) fun r64 =>
      ck (isK G r64 6) <|
      ck (isK G r4 0) <|
      if (M.1 r64 1) = (M.1 r4 0) then
        jn_X8_melt_36v26 G M  r0 i2 r4 (1 : Int32)
      else
        jn_X8_melt_35v25 G M  r0 i2 r4
def f_X8_octet (G : Gg) (M : Mm) (r0 : Nat) (i1 : Int32) : Option (Option Int32) :=
  if i1 < 0 then
    some none
  else
    ck (isK G r0 8) <|
    if (M.1 r0 2) ≤ i1 then
      some none
    else
      if i1 < (8 : Int32) then
        Option.bind (M.2.2 r0 1) fun r5 =>
        ck (isK G r5 10) <|
        ck (inb i1 (G.2.2 r5)) <|
        some (some (M.1 r5 (Int32.toNatClampNeg i1)))
      else
        some none
def f_X8_about (G : Gg) (M : Mm) (r0 : Nat) (i1 : Int32) (i2 : Int32) : Option (Int32) :=
  ck (isK G r0 8) <|
  Option.bind (f_X8_chainIn G M r0 i1) fun q1 =>
  onE q1
    (some (-1))
    fun r4 =>
    if i2 = 0 then
      ck (isK G r4 0) <|
      some (M.1 r4 0)
    else
      if i2 = 1 then
        ck (isK G r4 0) <|
        some (M.1 r4 1)
      else
        if i2 = 2 then
          ck (isK G r4 0) <|
          Option.bind (f_X0_heaps G M r4) fun q10 =>
          some q10
        else
          if i2 = 3 then
            ck (isK G r4 0) <|
            Option.bind (f_X0_closedHeaps G M r4) fun q14 =>
            some q14
          else
            if i2 = 4 then
              ck (isK G r4 0) <|
              Option.bind (f_X0_lastTime G M r4) fun q18 =>
              some q18
            else
              if i2 = 5 then
                ck (isK G r4 0) <|
                Option.bind (f_X0_wholeness G M r4) fun q22 =>
                some q22
              else
                if i2 = 6 then
                  ck (isK G r4 0) <|
                  Option.bind (f_X0_isBothWays G M r4) fun q26 =>
                  if q26 = 0 then
                    some (0 : Int32)
                  else
                    some (1 : Int32)
                else
                  some (-1)
def f_X8_state (G : Gg) (M : Mm) (r0 : Nat) (i1 : Int32) (i2 : Int32) (i3 : Int32) : Option (Int32) :=
  ck (isK G r0 8) <|
  Option.bind (f_X8_chainIn G M r0 i1) fun q1 =>
  onE q1
    (some (-1))
    fun r4 =>
    ck (isK G r4 0) <|
    Option.bind (f_X0_isState G M r4 i2) fun q5 =>
    if q5 = 0 then
      some (-1)
    else
      if i3 = 0 then
        Option.bind (f_X0_heapNumber G M r4 i2) fun q10 =>
        some q10
      else
        if i3 = 1 then
          Option.bind (f_X0_isClosed G M r4 i2) fun q13 =>
          if q13 = 0 then
            some (0 : Int32)
          else
            some (1 : Int32)
        else
          if i3 = 2 then
            Option.bind (f_X0_beat G M r4 i2) fun q17 =>
            some q17
          else
            some (-1)
def f_X8_neededChain (G : Gg) (M : Mm) (r0 : Nat) (i1 : Int32) (i2 : Int32) : Option (Option Nat) :=
  ck (isK G r0 8) <|
  Option.bind (f_X8_chainIn G M r0 i1) fun q1 =>
  onE q1
    (some none)
    fun r4 =>
    if i2 < 0 then
      some none
    else
      if i2 ≤ (1 : Int32) then
        some (some r4)
      else
        some none
def f_X8_chance (G : Gg) (M : Mm) (r0 : Nat) (i1 : Int32) (i2 : Int32) (i3 : Int32) (i4 : Int32) (i5 : Int32) : Option ((Option Int64) × Mm) :=
  ck (isK G r0 8) <|
  Option.bind (f_X8_neededChain G M r0 i1 i5) fun q1 =>
  onE q1
    (some (none, M))
    fun r4 =>
    ck (isK G r4 0) <|
    Option.bind (f_X0_isState G M r4 i2) fun q5 =>
    if q5 = 0 then
      some (none, M)
    else
      Option.bind (f_X0_isState G M r4 i3) fun q9 =>
      if q9 = 0 then
        some (none, M)
      else
        Option.bind (f_X0_isTime G M r4 i4) fun q12 =>
        if q12 = 0 then
          some (none, M)
        else
          Option.bind (M.2.2 r0 6) fun r15 =>
          ck (isK G r15 7) <|
          Option.bind (f_X7_go G M r15 r4 ((1 : Int32) <<< (i2 &&& 31)) i4) fun q17 =>
          Option.bind (q17.2.2 r0 9) fun r20 =>
          Option.bind (q17.2.2 r0 6) fun r22 =>
          ck (isK G r22 7) <|
          Option.bind (f_X7_at G q17 r22 i2 i3) fun q24 =>
          ck (isK G r20 1) <|
          Option.bind (f_X1_put G q17 r20 q24 (q17.2.1 r22 2)) fun q27 =>
          Option.bind (q27.2.2 r0 9) fun r30 =>
          ck (isK G r30 1) <|
          Option.bind (f_X1_told G q27 r30 i5) fun q32 =>
          some (some q32, q27)
def jn_X8_apart_142 (G : Gg) (M : Mm) (r0 : Nat) (i5 : Int32) (k0 : Int64) (k1 : Nat) : Option ((Option Int64) × Mm) :=
    ck (isK G r0 8) <|
    Option.bind (M.2.2 r0 6) fun r32 =>
    ck (isK G r32 7) <|
    ck (isK G k1 1) <|
    Option.bind (f_X1_put G M k1 k0 ((2 : Int64) * (M.2.1 r32 2))) fun q35 =>
    Option.bind (q35.2.2 r0 9) fun r38 =>
    ck (isK G r38 1) <|
    Option.bind (f_X1_told G q35 r38 i5) fun q40 =>
    some (some q40, q35)
def jn_X8_apart_105 (G : Gg) (M : Mm) (r0 : Nat) (i2 : Int32) (i3 : Int32) (i4 : Int32) (i5 : Int32) (r6 : Nat) (i7 : Int32) (k0 : Int32) (k1 : Nat) (k2 : Nat) : Option ((Option Int64) × Mm) :=
    ck (isK G k2 7) <|
    Option.bind (f_X7_go G M k2 k1 k0 i4) fun q19 =>
    ck (isK G r0 8) <|
    Option.bind (q19.2.2 r0 9) fun r23 =>
    if i7 = 0 then
      Option.bind (q19.2.2 r0 6) fun r26 =>
      ck (isK G r26 7) <|
      Option.bind (f_X7_gap G q19 r26 r6 i2 i3) fun q28 =>
      jn_X8_apart_142 G q19  r0 i5 q28 r23
    else
      Option.bind (q19.2.2 r0 6) fun r43 =>
      ck (isK G r43 7) <|
      Option.bind (f_X7_widestGap G q19 r43 r6) fun q45 =>
      jn_X8_apart_142 G q19  r0 i5 q45 r23
def jn_X8_apart_79 (G : Gg) (M : Mm) (r0 : Nat) (i2 : Int32) (i3 : Int32) (i4 : Int32) (i5 : Int32) (r6 : Nat) (i7 : Int32)  : Option ((Option Int64) × Mm) :=
    ck (isK G r0 8) <|
    Option.bind (M.2.2 r0 6) fun r16 =>
    if i7 = 0 then
      jn_X8_apart_105 G M  r0 i2 i3 i4 i5 r6 i7 (((1 : Int32) <<< (i2 &&& 31)) ||| ((1 : Int32) <<< (i3 &&& 31))) r6 r16
    else
      ck (isK G r6 0) <|
      Option.bind (f_X0_allStates G M r6) fun q48 =>
      jn_X8_apart_105 G M  r0 i2 i3 i4 i5 r6 i7 q48 r6 r16
def jn_X8_apart_49 (G : Gg) (M : Mm) (r0 : Nat) (i2 : Int32) (i3 : Int32) (i4 : Int32) (i5 : Int32) (r6 : Nat) (i7 : Int32) (k0 : Int32) : Option ((Option Int64) × Mm) :=
    ck (isK G r6 0) <|
    Option.bind (f_X0_isTime G M r6 i4) fun q10 =>
    if q10 = 0 then
      some (none, M)
    else
      if i7 = 0 then
        if k0 = 0 then
          some (none, M)
        else
          jn_X8_apart_79 G M  r0 i2 i3 i4 i5 r6 i7
      else
        jn_X8_apart_79 G M  r0 i2 i3 i4 i5 r6 i7
def jn_X8_apart_48 (G : Gg) (M : Mm) (r0 : Nat) (i2 : Int32) (i3 : Int32) (i4 : Int32) (i5 : Int32) (r6 : Nat) (i7 : Int32)  : Option ((Option Int64) × Mm) :=
    jn_X8_apart_49 G M  r0 i2 i3 i4 i5 r6 i7 (0 : Int32)
def jn_X8_apart_24 (G : Gg) (M : Mm) (r0 : Nat) (i2 : Int32) (i3 : Int32) (i4 : Int32) (i5 : Int32) (r6 : Nat) (k0 : Int32) : Option ((Option Int64) × Mm) :=
    ck (isK G r6 0) <|
    Option.bind (f_X0_isState G M r6 i2) fun q6 =>
    if q6 = 0 then
      jn_X8_apart_48 G M  r0 i2 i3 i4 i5 r6 k0
    else
      Option.bind (f_X0_isState G M r6 i3) fun q52 =>
      if q52 = 0 then
        jn_X8_apart_48 G M  r0 i2 i3 i4 i5 r6 k0
      else
        jn_X8_apart_49 G M  r0 i2 i3 i4 i5 r6 k0 (1 : Int32)
def jn_X8_apart_23 (G : Gg) (M : Mm) (r0 : Nat) (i2 : Int32) (i3 : Int32) (i4 : Int32) (i5 : Int32) (r6 : Nat)  : Option ((Option Int64) × Mm) :=
    jn_X8_apart_24 G M  r0 i2 i3 i4 i5 r6 (0 : Int32)
def f_X8_apart (G : Gg) (M : Mm) (r0 : Nat) (i1 : Int32) (i2 : Int32) (i3 : Int32) (i4 : Int32) (i5 : Int32) : Option ((Option Int64) × Mm) :=
  ck (isK G r0 8) <|
  Option.bind (f_X8_neededChain G M r0 i1 i5) fun q1 =>
  onE q1
    (some (none, M))
    fun r4 =>
    if i2 = (-1) then
      if i3 = (-1) then
        jn_X8_apart_24 G M  r0 i2 i3 i4 i5 r4 (1 : Int32)
      else
        jn_X8_apart_23 G M  r0 i2 i3 i4 i5 r4
    else
      jn_X8_apart_23 G M  r0 i2 i3 i4 i5 r4
def f_X8_when (G : Gg) (M : Mm) (r0 : Nat) (i1 : Int32) (i2 : Int32) (i3 : Int32) : Option (Int32 × Mm) :=
  ck (isK G r0 8) <|
  Option.bind (f_X8_chainIn G M r0 i1) fun q1 =>
  onE q1
    (some ((-1), M))
    fun r4 =>
    if i2 < 0 then
      some ((-1), M)
    else
      if i3 < i2 then
        some ((-1), M)
      else
        if i3 < (1 : Int32) then
          some ((-1), M)
        else
          if i3 ≤ (1000 : Int32) then
            Option.bind (M.2.2 r0 6) fun r9 =>
            ck (isK G r9 7) <|
            Option.bind (f_X7_firstNear G M r9 r4 i2 i3) fun q11 =>
            some (q11.1, q11.2)
          else
            some ((-1), M)
def f_X8_stay (G : Gg) (M : Mm) (r0 : Nat) (i1 : Int32) (i2 : Int32) (i3 : Int32) : Option ((Option Int64) × Mm) :=
  ck (isK G r0 8) <|
  Option.bind (f_X8_neededChain G M r0 i1 i3) fun q1 =>
  onE q1
    (some (none, M))
    fun r4 =>
    ck (isK G r4 0) <|
    Option.bind (f_X0_isState G M r4 i2) fun q5 =>
    if q5 = 0 then
      some (none, M)
    else
      if (lg_cmp (M.2.1 r4 6) (0 : Int64)) = 0 then
        some (none, M)
      else
        Option.bind (M.2.2 r0 9) fun r10 =>
        Option.bind (M.2.2 r4 5) fun r12 =>
        ck (isK G r12 11) <|
        ck (inb i2 (G.2.2 r12)) <|
        ck (isK G r10 1) <|
        Option.bind (f_X1_put G M r10 (M.2.1 r12 (Int32.toNatClampNeg i2)) (M.2.1 r4 6)) fun q16 =>
        Option.bind (q16.2.2 r0 9) fun r19 =>
        ck (isK G r19 1) <|
        Option.bind (f_X1_told G q16 r19 i3) fun q21 =>
        some (some q21, q16)
def f_X8_steps (G : Gg) (M : Mm) (r0 : Nat) (i1 : Int32) (i2 : Int32) (i3 : Int32) (i4 : Int32) : Option ((Option Int64) × Mm) :=
  ck (isK G r0 8) <|
  Option.bind (f_X8_neededChain G M r0 i1 i4) fun q1 =>
  onE q1
    (some (none, M))
    fun r4 =>
    ck (isK G r4 0) <|
    Option.bind (f_X0_isState G M r4 i2) fun q5 =>
    if q5 = 0 then
      some (none, M)
    else
      Option.bind (f_X0_isSet G M r4 i3) fun q9 =>
      if q9 = 0 then
        some (none, M)
      else
        Option.bind (M.2.2 r0 7) fun r12 =>
        Option.bind (M.2.2 r0 9) fun r14 =>
        ck (isK G r12 2) <|
        Option.bind (f_X2_findSteps G M r12 r4 i2 i3 r14) fun q16 =>
        if q16.1 = 0 then
          some (none, q16.2)
        else
          Option.bind (q16.2.2.2 r0 9) fun r20 =>
          ck (isK G r20 1) <|
          Option.bind (f_X1_told G q16.2 r20 i4) fun q22 =>
          some (some q22, q16.2)
def f_X8_ahead (G : Gg) (M : Mm) (r0 : Nat) (i1 : Int32) (i2 : Int32) (i3 : Int32) (i4 : Int32) (i5 : Int32) : Option ((Option Int64) × Mm) :=
  ck (isK G r0 8) <|
  Option.bind (f_X8_neededChain G M r0 i1 i5) fun q1 =>
  onE q1
    (some (none, M))
    fun r4 =>
    ck (isK G r4 0) <|
    Option.bind (f_X0_isState G M r4 i2) fun q5 =>
    if q5 = 0 then
      some (none, M)
    else
      Option.bind (f_X0_isSet G M r4 i3) fun q9 =>
      if q9 = 0 then
        some (none, M)
      else
        Option.bind (f_X0_isSet G M r4 i4) fun q12 =>
        if q12 = 0 then
          some (none, M)
        else
          if (i3 &&& i4) = 0 then
            Option.bind (M.2.2 r0 7) fun r16 =>
            Option.bind (M.2.2 r0 9) fun r18 =>
            ck (isK G r16 2) <|
            Option.bind (f_X2_findAhead G M r16 r4 i2 i3 i4 r18) fun q20 =>
            Option.bind (q20.2.2 r0 9) fun r23 =>
            ck (isK G r23 1) <|
            Option.bind (f_X1_told G q20 r23 i5) fun q25 =>
            some (some q25, q20)
          else
            some (none, M)
def f_X8_narrow (G : Gg) (M : Mm) (r0 : Nat) (i1 : Int32) (i2 : Int32) : Option ((Option Int64) × Mm) :=
  ck (isK G r0 8) <|
  Option.bind (f_X8_neededChain G M r0 i1 i2) fun q1 =>
  onE q1
    (some (none, M))
    fun r4 =>
    Option.bind (M.2.2 r0 8) fun r5 =>
    ck (isK G r5 4) <|
    Option.bind (f_X4_find G M r5 r4) fun q7 =>
    if q7.1 = 0 then
      some (none, q7.2)
    else
      Option.bind (q7.2.2.2 r0 9) fun r11 =>
      Option.bind (q7.2.2.2 r0 8) fun r13 =>
      ck (isK G r13 4) <|
      ck (isK G r4 0) <|
      ck (isK G r11 1) <|
      Option.bind (f_X1_put G q7.2 r11 (q7.2.2.1 r13 1) ((Int32.toInt64 (q7.2.1 r4 1)) * (q7.2.2.1 r13 2))) fun q17 =>
      Option.bind (q17.2.2 r0 9) fun r20 =>
      ck (isK G r20 1) <|
      Option.bind (f_X1_told G q17 r20 i2) fun q22 =>
      some (some q22, q17)
def f_X8_cut (G : Gg) (M : Mm) (r0 : Nat) (i1 : Int32) : Option (Int32 × Mm) :=
  ck (isK G r0 8) <|
  Option.bind (f_X8_chainIn G M r0 i1) fun q1 =>
  onE q1
    (some ((-1), M))
    fun r4 =>
    Option.bind (M.2.2 r0 8) fun r5 =>
    ck (isK G r5 4) <|
    Option.bind (f_X4_find G M r5 r4) fun q7 =>
    if q7.1 = 0 then
      some ((-1), q7.2)
    else
      Option.bind (q7.2.2.2 r0 8) fun r11 =>
      ck (isK G r11 4) <|
      some ((q7.2.1 r11 0), q7.2)
def bd_X8_filledSlots_4 (G : Gg) (M : Mm) (r0 : Nat) (rec : Int32 → Int32 → Option (Int32)) (i1 : Int32) (i2 : Int32) : Option (Int32) :=
    if (6 : Int32) ≤ i2 then
      some i1
    else
      ck (isK G r0 8) <|
      Option.bind (M.2.2 r0 3) fun r3 =>
      ck (isK G r3 12) <|
      ck (inb i2 (G.2.2 r3)) <|
      Option.bind (M.2.2 r3 (Int32.toNatClampNeg i2)) fun r7 =>
      ck (isK G r7 0) <|
      if (M.1 r7 0) ≤ 0 then
        rec i1 (i2 + 1)
      else
        rec (i1 + 1) (i2 + 1)
def lp_X8_filledSlots_4 (G : Gg) (M : Mm) (r0 : Nat) : Nat → Int32 → Int32 → Option (Int32)
  | 0, _, _ => none
  | n + 1, i1, i2 => bd_X8_filledSlots_4 G M r0 (lp_X8_filledSlots_4 G M r0 n) i1 i2
def f_X8_filledSlots (G : Gg) (M : Mm) (r0 : Nat) : Option (Int32) :=
  Option.bind (lp_X8_filledSlots_4 G M r0 FU (0 : Int32) (0 : Int32)) fun q11 =>
  some q11
def f_X8_count (G : Gg) (M : Mm) (r0 : Nat) (i1 : Int32) : Option (Int32) :=
  if i1 = 0 then
    ck (isK G r0 8) <|
    Option.bind (f_X8_filledSlots G M r0) fun q2 =>
    some q2
  else
    if i1 = 1 then
      ck (isK G r0 8) <|
      Option.bind (M.2.2 r0 0) fun r7 =>
      ck (isK G r7 6) <|
      some (M.1 r7 1)
    else
      if i1 = 2 then
        ck (isK G r0 8) <|
        some (M.1 r0 2)
      else
        some (-1)
def f_X9_thrown (G : Gg) (M : Mm) (r0 : Nat) : Option (Int32) :=
  ck (isK G r0 9) <|
  some (M.1 r0 0)
def f_X9_refuse (G : Gg) (M : Mm) (r0 : Nat) : Option (Int32 × Mm) :=
  ck (isK G r0 9) <|
  some ((0 : Int32), (mwI M r0 0 (1 : Int32)))
def bd_X9_come_3 (G : Gg) (r0 : Nat) (i1 : Int32) (rec : Int32 → Mm → Option (Mm)) (i2 : Int32) (M : Mm) : Option (Mm) :=
    if i2 < 0 then
      some M
    else
      ck (isK G r0 9) <|
      Option.bind (M.2.2 r0 1) fun r3 =>
      ck (isK G r3 10) <|
      ck (inb (M.1 r0 2) (G.2.2 r3)) <|
      rec (i2 + (-8)) (mwI (mwI M r3 (Int32.toNatClampNeg (M.1 r0 2)) (((Int32.toUInt32 i1 >>> (Int32.toUInt32 i2 &&& Int32.toUInt32 31)).toInt32) &&& (255 : Int32))) r0 2 (((mwI M r3 (Int32.toNatClampNeg (M.1 r0 2)) (((Int32.toUInt32 i1 >>> (Int32.toUInt32 i2 &&& Int32.toUInt32 31)).toInt32) &&& (255 : Int32))).1 r0 2) + (1 : Int32)))
def lp_X9_come_3 (G : Gg) (r0 : Nat) (i1 : Int32) : Nat → Int32 → Mm → Option (Mm)
  | 0, _, _ => none
  | n + 1, i2, M => bd_X9_come_3 G r0 i1 (lp_X9_come_3 G r0 i1 n) i2 M
def f_X9_come (G : Gg) (M : Mm) (r0 : Nat) (i1 : Int32) : Option (Mm) :=
  Option.bind (lp_X9_come_3 G r0 i1 FU (24 : Int32) M) fun q7 =>
  some q7
def f_X9_feed (G : Gg) (M : Mm) (r0 : Nat) (i1 : Int32) (i2 : Int32) (i3 : Int32) (i4 : Int32) (i5 : Int32) : Option (Int32 × Mm) :=
  ck (isK G r0 9) <|
  if (((mwI M r0 0 (0 : Int32)).1 r0 2) + (20 : Int32)) ≤ (80 : Int32) then
    Option.bind (f_X9_come G (mwI M r0 0 (0 : Int32)) r0 i1) fun q3 =>
    Option.bind (f_X9_come G q3 r0 i2) fun q5 =>
    Option.bind (f_X9_come G q5 r0 i3) fun q7 =>
    Option.bind (f_X9_come G q7 r0 i4) fun q9 =>
    Option.bind (f_X9_come G q9 r0 i5) fun q11 =>
    some ((q11.1 r0 2), q11)
  else
    some ((-1), (mwI M r0 0 (0 : Int32)))
def f_X9_end (G : Gg) (M : Mm) (r0 : Nat) (i1 : Int32) : Option (Int32 × Mm) :=
  ck (isK G r0 9) <|
  if i1 < 0 then
    some ((0 : Int32), (mwI M r0 0 (0 : Int32)))
  else
    if i1 ≤ ((mwI M r0 0 (0 : Int32)).1 r0 2) then
      some ((1 : Int32), (mwI (mwI M r0 0 (0 : Int32)) r0 2 i1))
    else
      some ((0 : Int32), (mwI M r0 0 (0 : Int32)))
def bd_X9_common_28  (rec : Int64 → Int64 → Option (Int64)) (l4 : Int64) (l6 : Int64) : Option (Int64) :=
    if (lg_cmp l6 (0 : Int64)) = 0 then
      some l4
    else
      ck (¬ l6 = 0) <|
      rec l6 (l4 - l4 / l6 * l6)
def lp_X9_common_28  : Nat → Int64 → Int64 → Option (Int64)
  | 0, _, _ => none
  | n + 1, l4, l6 => bd_X9_common_28  (lp_X9_common_28  n) l4 l6
def f_X9_common (l0 : Int64) (l2 : Int64) : Option (Int64) :=
  if 0 ≤ (lg_cmp l0 (0 : Int64)) then
    if 0 ≤ (lg_cmp l2 (0 : Int64)) then
      Option.bind (lp_X9_common_28  FU l0 l2) fun q5 =>
      some q5
    else
      Option.bind (lp_X9_common_28  FU l0 (-l2)) fun q6 =>
      some q6
  else
    if 0 ≤ (lg_cmp l2 (0 : Int64)) then
      Option.bind (lp_X9_common_28  FU (-l0) l2) fun q8 =>
      some q8
    else
      Option.bind (lp_X9_common_28  FU (-l0) (-l2)) fun q9 =>
      some q9
def f_X9_has (G : Gg) (M : Mm) (r0 : Nat) (i1 : Int32) : Option (Int32) :=
  if i1 < 0 then
    some (0 : Int32)
  else
    if (6 : Int32) ≤ i1 then
      some (0 : Int32)
    else
      ck (isK G r0 9) <|
      Option.bind (M.2.2 r0 3) fun r4 =>
      ck (isK G r4 10) <|
      ck (inb i1 (G.2.2 r4)) <|
      if (M.1 r4 (Int32.toNatClampNeg i1)) ≤ 0 then
        some (0 : Int32)
      else
        some (1 : Int32)
def f_X9_isSlot (i0 : Int32) : Option (Int32) :=
  if i0 < 0 then
    some (0 : Int32)
  else
    if (6 : Int32) ≤ i0 then
      some (0 : Int32)
    else
      some (1 : Int32)
def f_X9_at (G : Gg) (M : Mm) (r0 : Nat) (i1 : Int32) (i2 : Int32) (i3 : Int32) : Option (Int32) :=
  ck (isK G r0 9) <|
  Option.bind (M.2.2 r0 5) fun r2 =>
  ck (isK G r2 10) <|
  ck (inb ((((64 : Int32) * i1) + ((8 : Int32) * i2)) + i3) (G.2.2 r2)) <|
  some (M.1 r2 (Int32.toNatClampNeg ((((64 : Int32) * i1) + ((8 : Int32) * i2)) + i3)))
def bd_X9_puts_16 (G : Gg) (M : Mm) (r0 : Nat) (i1 : Int32) (i2 : Int32) (i3 : Int32) (i6 : Int32) (rec : Int64 → Int32 → Option (Int64)) (l4 : Int64) (i7 : Int32) : Option (Int64) :=
    if i2 ≤ i7 then
      some l4
    else
      ck (isK G r0 9) <|
      Option.bind (f_X9_at G M r0 (6 : Int32) i6 i7) fun q3 =>
      Option.bind (f_X9_common l4 (Int32.toInt64 q3)) fun q6 =>
      rec q6 (i7 + 1)
def lp_X9_puts_16 (G : Gg) (M : Mm) (r0 : Nat) (i1 : Int32) (i2 : Int32) (i3 : Int32) (i6 : Int32) : Nat → Int64 → Int32 → Option (Int64)
  | 0, _, _ => none
  | n + 1, l4, i7 => bd_X9_puts_16 G M r0 i1 i2 i3 i6 (lp_X9_puts_16 G M r0 i1 i2 i3 i6 n) l4 i7
def bd_X9_puts_7 (G : Gg) (M : Mm) (r0 : Nat) (i1 : Int32) (i2 : Int32) (i3 : Int32) (rec : Int64 → Int32 → Option (Int64)) (l4 : Int64) (i6 : Int32) : Option (Int64) :=
    if i2 ≤ i6 then
      some l4
    else
      Option.bind (lp_X9_puts_16 G M r0 i1 i2 i3 i6 FU l4 (0 : Int32)) fun q8 =>
      rec q8 (i6 + 1)
def lp_X9_puts_7 (G : Gg) (M : Mm) (r0 : Nat) (i1 : Int32) (i2 : Int32) (i3 : Int32) : Nat → Int64 → Int32 → Option (Int64)
  | 0, _, _ => none
  | n + 1, l4, i6 => bd_X9_puts_7 G M r0 i1 i2 i3 (lp_X9_puts_7 G M r0 i1 i2 i3 n) l4 i6
def bd_X9_puts_80 (G : Gg) (r0 : Nat) (i1 : Int32) (i2 : Int32) (l4 : Int64) (i6 : Int32) (i7 : Int32) (rec : Int32 → Mm → Option (Mm)) (i8 : Int32) (M : Mm) : Option (Mm) :=
    if i2 ≤ i8 then
      some M
    else
      ck (isK G r0 9) <|
      Option.bind (M.2.2 r0 5) fun r15 =>
      Option.bind (f_X9_at G M r0 (6 : Int32) i7 i8) fun q17 =>
      ck (¬ (Int64.toInt32 l4) = 0) <|
      ck (isK G r15 10) <|
      ck (inb ((((64 : Int32) * i1) + ((8 : Int32) * i7)) + i8) (G.2.2 r15)) <|
      rec (i8 + 1) (mwI M r15 (Int32.toNatClampNeg ((((64 : Int32) * i1) + ((8 : Int32) * i7)) + i8)) (q17 / (Int64.toInt32 l4)))
def lp_X9_puts_80 (G : Gg) (r0 : Nat) (i1 : Int32) (i2 : Int32) (l4 : Int64) (i6 : Int32) (i7 : Int32) : Nat → Int32 → Mm → Option (Mm)
  | 0, _, _ => none
  | n + 1, i8, M => bd_X9_puts_80 G r0 i1 i2 l4 i6 i7 (lp_X9_puts_80 G r0 i1 i2 l4 i6 i7 n) i8 M
def bd_X9_puts_71 (G : Gg) (r0 : Nat) (i1 : Int32) (i2 : Int32) (l4 : Int64) (i6 : Int32) (rec : Int32 → Mm → Option (Mm)) (i7 : Int32) (M : Mm) : Option (Mm) :=
    if i2 ≤ i7 then
      some M
    else
      Option.bind (lp_X9_puts_80 G r0 i1 i2 l4 i6 i7 FU (0 : Int32) M) fun q22 =>
      rec (i7 + 1) q22
def lp_X9_puts_71 (G : Gg) (r0 : Nat) (i1 : Int32) (i2 : Int32) (l4 : Int64) (i6 : Int32) : Nat → Int32 → Mm → Option (Mm)
  | 0, _, _ => none
  | n + 1, i7, M => bd_X9_puts_71 G r0 i1 i2 l4 i6 (lp_X9_puts_71 G r0 i1 i2 l4 i6 n) i7 M
def f_X9_puts (G : Gg) (M : Mm) (r0 : Nat) (i1 : Int32) (i2 : Int32) (i3 : Int32) : Option (Int32 × Mm) :=
  Option.bind (lp_X9_puts_7 G M r0 i1 i2 i3 FU (Int32.toInt64 i3) (0 : Int32)) fun q9 =>
  ck (¬ (Int64.toInt32 q9) = 0) <|
  if (i3 / (Int64.toInt32 q9)) ≤ (60 : Int32) then
    Option.bind (lp_X9_puts_71 G r0 i1 i2 q9 (i3 / (Int64.toInt32 q9)) FU (0 : Int32) M) fun q23 =>
    ck (isK G r0 9) <|
    Option.bind (q23.2.2 r0 3) fun r25 =>
    ck (isK G r25 10) <|
    ck (inb i1 (G.2.2 r25)) <|
    Option.bind ((mwI q23 r25 (Int32.toNatClampNeg i1) i2).2.2 r0 4) fun r29 =>
    ck (isK G r29 10) <|
    ck (inb i1 (G.2.2 r29)) <|
    some ((i3 / (Int64.toInt32 q9)), (mwI (mwI q23 r25 (Int32.toNatClampNeg i1) i2) r29 (Int32.toNatClampNeg i1) (i3 / (Int64.toInt32 q9))))
  else
    some ((-1), M)
def f_X9_make (G : Gg) (M : Mm) (r0 : Nat) (i1 : Int32) (i2 : Int32) (i3 : Int32) : Option (Mm) :=
  ck (isK G r0 9) <|
  Option.bind (M.2.2 r0 5) fun r2 =>
  ck (isK G r2 10) <|
  ck (inb (((384 : Int32) + ((8 : Int32) * i1)) + i2) (G.2.2 r2)) <|
  some (mwI M r2 (Int32.toNatClampNeg (((384 : Int32) + ((8 : Int32) * i1)) + i2)) i3)
def bd_X9_sheet_70 (G : Gg) (r0 : Nat) (i1 : Int32) (i2 : Int32) (i3 : Int32) (i5 : Int32) (rec : Int32 → Int32 → Mm → Option (Int32 × Mm)) (i6 : Int32) (i7 : Int32) (M : Mm) : Option (Int32 × Mm) :=
    if i2 ≤ i7 then
      some (i6, M)
    else
      ck (isK G r0 9) <|
      Option.bind (M.2.2 r0 1) fun r13 =>
      ck (isK G r13 10) <|
      ck (inb ((i2 * i5) + i7) (G.2.2 r13)) <|
      Option.bind (f_X9_make G M r0 i5 i7 (M.1 r13 (Int32.toNatClampNeg ((i2 * i5) + i7)))) fun q17 =>
      Option.bind (q17.2.2 r0 1) fun r19 =>
      ck (isK G r19 10) <|
      ck (inb ((i2 * i5) + i7) (G.2.2 r19)) <|
      rec (i6 + (q17.1 r19 (Int32.toNatClampNeg ((i2 * i5) + i7)))) (i7 + 1) q17
def lp_X9_sheet_70 (G : Gg) (r0 : Nat) (i1 : Int32) (i2 : Int32) (i3 : Int32) (i5 : Int32) : Nat → Int32 → Int32 → Mm → Option (Int32 × Mm)
  | 0, _, _, _ => none
  | n + 1, i6, i7, M => bd_X9_sheet_70 G r0 i1 i2 i3 i5 (lp_X9_sheet_70 G r0 i1 i2 i3 i5 n) i6 i7 M
def bd_X9_sheet_58 (G : Gg) (r0 : Nat) (i1 : Int32) (i2 : Int32) (i3 : Int32) (rec : Int32 → Mm → Option ((Int32 × Mm) ⊕ (Mm))) (i5 : Int32) (M : Mm) : Option ((Int32 × Mm) ⊕ (Mm)) :=
    if i2 ≤ i5 then
      some (.inr M)
    else
      Option.bind (lp_X9_sheet_70 G r0 i1 i2 i3 i5 FU (0 : Int32) (0 : Int32) M) fun q23 =>
      if q23.1 = i3 then
        rec (i5 + 1) q23.2
      else
        some (.inl ((-1), q23.2))
def lp_X9_sheet_58 (G : Gg) (r0 : Nat) (i1 : Int32) (i2 : Int32) (i3 : Int32) : Nat → Int32 → Mm → Option ((Int32 × Mm) ⊕ (Mm))
  | 0, _, _ => none
  | n + 1, i5, M => bd_X9_sheet_58 G r0 i1 i2 i3 (lp_X9_sheet_58 G r0 i1 i2 i3 n) i5 M
def f_X9_sheet (G : Gg) (M : Mm) (r0 : Nat) (i1 : Int32) (i2 : Int32) (i3 : Int32) : Option (Int32 × Mm) :=
  ck (isK G r0 9) <|
  Option.bind (f_X9_isSlot i1) fun q2 =>
  if q2 = 0 then
    some ((-1), (mwI (mwI M r0 0 (0 : Int32)) r0 2 (0 : Int32)))
  else
    if i2 < (1 : Int32) then
      some ((-1), (mwI (mwI M r0 0 (0 : Int32)) r0 2 (0 : Int32)))
    else
      if (8 : Int32) < i2 then
        some ((-1), (mwI (mwI M r0 0 (0 : Int32)) r0 2 (0 : Int32)))
      else
        if i3 < (1 : Int32) then
          some ((-1), (mwI (mwI M r0 0 (0 : Int32)) r0 2 (0 : Int32)))
        else
          if (60 : Int32) < i3 then
            some ((-1), (mwI (mwI M r0 0 (0 : Int32)) r0 2 (0 : Int32)))
          else
            if ((mwI M r0 0 (0 : Int32)).1 r0 2) = (i2 * i2) then
              Option.bind (lp_X9_sheet_58 G r0 i1 i2 i3 FU (0 : Int32) (mwI (mwI M r0 0 (0 : Int32)) r0 2 (0 : Int32))) fun q25 =>
              onS q25 (fun x27 => some x27) fun y26 =>
              Option.bind (f_X9_puts G y26 r0 i1 i2 i3) fun q28 =>
              some (q28.1, q28.2)
            else
              some ((-1), (mwI (mwI M r0 0 (0 : Int32)) r0 2 (0 : Int32)))
def bd_X9_lazy_49 (G : Gg) (r0 : Nat) (i1 : Int32) (i2 : Int32) (i3 : Int32) (i4 : Int32) (i5 : Int32) (rec : Int32 → Mm → Option (Mm)) (i6 : Int32) (M : Mm) : Option (Mm) :=
    if i3 ≤ i6 then
      some M
    else
      ck (isK G r0 9) <|
      Option.bind (f_X9_at G M r0 i1 i5 i6) fun q18 =>
      if i5 = i6 then
        Option.bind (f_X9_make G M r0 i5 i6 (q18 + i4)) fun q24 =>
        rec (i6 + 1) q24
      else
        Option.bind (f_X9_make G M r0 i5 i6 (q18 + (0 : Int32))) fun q22 =>
        rec (i6 + 1) q22
def lp_X9_lazy_49 (G : Gg) (r0 : Nat) (i1 : Int32) (i2 : Int32) (i3 : Int32) (i4 : Int32) (i5 : Int32) : Nat → Int32 → Mm → Option (Mm)
  | 0, _, _ => none
  | n + 1, i6, M => bd_X9_lazy_49 G r0 i1 i2 i3 i4 i5 (lp_X9_lazy_49 G r0 i1 i2 i3 i4 i5 n) i6 M
def bd_X9_lazy_40 (G : Gg) (r0 : Nat) (i1 : Int32) (i2 : Int32) (i3 : Int32) (i4 : Int32) (rec : Int32 → Mm → Option (Mm)) (i5 : Int32) (M : Mm) : Option (Mm) :=
    if i3 ≤ i5 then
      some M
    else
      Option.bind (lp_X9_lazy_49 G r0 i1 i2 i3 i4 i5 FU (0 : Int32) M) fun q26 =>
      rec (i5 + 1) q26
def lp_X9_lazy_40 (G : Gg) (r0 : Nat) (i1 : Int32) (i2 : Int32) (i3 : Int32) (i4 : Int32) : Nat → Int32 → Mm → Option (Mm)
  | 0, _, _ => none
  | n + 1, i5, M => bd_X9_lazy_40 G r0 i1 i2 i3 i4 (lp_X9_lazy_40 G r0 i1 i2 i3 i4 n) i5 M
def f_X9_lazy (G : Gg) (M : Mm) (r0 : Nat) (i1 : Int32) (i2 : Int32) : Option (Int32 × Mm) :=
  ck (isK G r0 9) <|
  Option.bind (f_X9_has G (mwI M r0 0 (0 : Int32)) r0 i1) fun q2 =>
  if q2 = 0 then
    some ((-1), (mwI M r0 0 (0 : Int32)))
  else
    Option.bind (f_X9_isSlot i2) fun q5 =>
    if q5 = 0 then
      some ((-1), (mwI M r0 0 (0 : Int32)))
    else
      Option.bind ((mwI M r0 0 (0 : Int32)).2.2 r0 3) fun r8 =>
      ck (isK G r8 10) <|
      ck (inb i1 (G.2.2 r8)) <|
      Option.bind ((mwI M r0 0 (0 : Int32)).2.2 r0 4) fun r12 =>
      ck (isK G r12 10) <|
      ck (inb i1 (G.2.2 r12)) <|
      Option.bind (lp_X9_lazy_40 G r0 i1 i2 ((mwI M r0 0 (0 : Int32)).1 r8 (Int32.toNatClampNeg i1)) ((mwI M r0 0 (0 : Int32)).1 r12 (Int32.toNatClampNeg i1)) FU (0 : Int32) (mwI M r0 0 (0 : Int32))) fun q27 =>
      Option.bind (f_X9_puts G q27 r0 i2 ((mwI M r0 0 (0 : Int32)).1 r8 (Int32.toNatClampNeg i1)) ((2 : Int32) * ((mwI M r0 0 (0 : Int32)).1 r12 (Int32.toNatClampNeg i1)))) fun q28 =>
      some (q28.1, q28.2)
def f_X9_isTo (G : Gg) (M : Mm) (r0 : Nat) (i1 : Int32) (i2 : Int32) : Option (Int32) :=
  ck (isK G r0 9) <|
  Option.bind (M.2.2 r0 6) fun r2 =>
  ck (isK G r2 10) <|
  ck (inb i1 (G.2.2 r2)) <|
  if (((M.1 r2 (Int32.toNatClampNeg i1)) >>> (i2 &&& 31)) &&& (1 : Int32)) = (1 : Int32) then
    some (1 : Int32)
  else
    some (0 : Int32)
def bd_X9_reach_24 (G : Gg) (r0 : Nat) (i1 : Int32) (i2 : Int32) (i3 : Int32) (rec : Int32 → Mm → Option (Mm)) (i4 : Int32) (M : Mm) : Option (Mm) :=
    if i2 ≤ i4 then
      some M
    else
      ck (isK G r0 9) <|
      Option.bind (f_X9_at G M r0 i1 i3 i4) fun q13 =>
      if q13 ≤ 0 then
        rec (i4 + 1) M
      else
        Option.bind (M.2.2 r0 6) fun r17 =>
        ck (isK G r17 10) <|
        ck (inb i3 (G.2.2 r17)) <|
        rec (i4 + 1) (mwI M r17 (Int32.toNatClampNeg i3) ((M.1 r17 (Int32.toNatClampNeg i3)) ||| ((1 : Int32) <<< (i4 &&& 31))))
def lp_X9_reach_24 (G : Gg) (r0 : Nat) (i1 : Int32) (i2 : Int32) (i3 : Int32) : Nat → Int32 → Mm → Option (Mm)
  | 0, _, _ => none
  | n + 1, i4, M => bd_X9_reach_24 G r0 i1 i2 i3 (lp_X9_reach_24 G r0 i1 i2 i3 n) i4 M
def bd_X9_reach_9 (G : Gg) (r0 : Nat) (i1 : Int32) (i2 : Int32) (rec : Int32 → Mm → Option (Mm)) (i3 : Int32) (M : Mm) : Option (Mm) :=
    if i2 ≤ i3 then
      some M
    else
      ck (isK G r0 9) <|
      Option.bind (M.2.2 r0 6) fun r8 =>
      ck (isK G r8 10) <|
      ck (inb i3 (G.2.2 r8)) <|
      Option.bind (lp_X9_reach_24 G r0 i1 i2 i3 FU (0 : Int32) (mwI M r8 (Int32.toNatClampNeg i3) (0 : Int32))) fun q21 =>
      rec (i3 + 1) q21
def lp_X9_reach_9 (G : Gg) (r0 : Nat) (i1 : Int32) (i2 : Int32) : Nat → Int32 → Mm → Option (Mm)
  | 0, _, _ => none
  | n + 1, i3, M => bd_X9_reach_9 G r0 i1 i2 (lp_X9_reach_9 G r0 i1 i2 n) i3 M
def bd_X9_reach_76 (G : Gg) (r0 : Nat) (i2 : Int32) (i3 : Int32) (rec : Int32 → Mm → Option (Mm)) (i4 : Int32) (M : Mm) : Option (Mm) :=
    if i2 ≤ i4 then
      some M
    else
      ck (isK G r0 9) <|
      Option.bind (M.2.2 r0 6) fun r26 =>
      ck (isK G r26 10) <|
      ck (inb i4 (G.2.2 r26)) <|
      if (((M.1 r26 (Int32.toNatClampNeg i4)) >>> (i3 &&& 31)) &&& (1 : Int32)) = (1 : Int32) then
        ck (inb i3 (G.2.2 r26)) <|
        rec (i4 + 1) (mwI M r26 (Int32.toNatClampNeg i4) ((M.1 r26 (Int32.toNatClampNeg i4)) ||| (M.1 r26 (Int32.toNatClampNeg i3))))
      else
        rec (i4 + 1) M
def lp_X9_reach_76 (G : Gg) (r0 : Nat) (i2 : Int32) (i3 : Int32) : Nat → Int32 → Mm → Option (Mm)
  | 0, _, _ => none
  | n + 1, i4, M => bd_X9_reach_76 G r0 i2 i3 (lp_X9_reach_76 G r0 i2 i3 n) i4 M
def bd_X9_reach_68 (G : Gg) (r0 : Nat) (i2 : Int32) (rec : Int32 → Mm → Option (Mm)) (i3 : Int32) (M : Mm) : Option (Mm) :=
    if i2 ≤ i3 then
      some M
    else
      Option.bind (lp_X9_reach_76 G r0 i2 i3 FU (0 : Int32) M) fun q32 =>
      rec (i3 + 1) q32
def lp_X9_reach_68 (G : Gg) (r0 : Nat) (i2 : Int32) : Nat → Int32 → Mm → Option (Mm)
  | 0, _, _ => none
  | n + 1, i3, M => bd_X9_reach_68 G r0 i2 (lp_X9_reach_68 G r0 i2 n) i3 M
def bd_X9_reach_147 (G : Gg) (r0 : Nat) (i2 : Int32) (i3 : Int32) (rec : Int32 → Mm → Option (Mm)) (i4 : Int32) (M : Mm) : Option (Mm) :=
    if i3 ≤ i4 then
      some M
    else
      ck (isK G r0 9) <|
      Option.bind (M.2.2 r0 7) fun r42 =>
      ck (isK G r42 10) <|
      ck (inb i3 (G.2.2 r42)) <|
      if (M.1 r42 (Int32.toNatClampNeg i3)) = (-1) then
        Option.bind (f_X9_isTo G M r0 i3 i4) fun q47 =>
        if q47 = 0 then
          rec (i4 + 1) M
        else
          Option.bind (f_X9_isTo G M r0 i4 i3) fun q50 =>
          if q50 = 0 then
            rec (i4 + 1) M
          else
            ck (inb i4 (G.2.2 r42)) <|
            rec (i4 + 1) (mwI M r42 (Int32.toNatClampNeg i3) (M.1 r42 (Int32.toNatClampNeg i4)))
      else
        some M
def lp_X9_reach_147 (G : Gg) (r0 : Nat) (i2 : Int32) (i3 : Int32) : Nat → Int32 → Mm → Option (Mm)
  | 0, _, _ => none
  | n + 1, i4, M => bd_X9_reach_147 G r0 i2 i3 (lp_X9_reach_147 G r0 i2 i3 n) i4 M
def jn_X9_reach_202 (G : Gg) (M : Mm) (rec : Int32 → Mm → Option (Mm)) (r0 : Nat) (i2 : Int32) (i3 : Int32)  : Option (Mm) :=
    ck (isK G r0 9) <|
    Option.bind (M.2.2 r0 7) fun r56 =>
    ck (isK G r56 10) <|
    ck (inb i3 (G.2.2 r56)) <|
    if (M.1 r56 (Int32.toNatClampNeg i3)) = (-1) then
      rec (i3 + 1) (mwI (mwI M r56 (Int32.toNatClampNeg i3) (M.1 r0 8)) r0 8 (((mwI M r56 (Int32.toNatClampNeg i3) (M.1 r0 8)).1 r0 8) + (1 : Int32)))
    else
      rec (i3 + 1) M
def bd_X9_reach_132 (G : Gg) (r0 : Nat) (i2 : Int32) (rec : Int32 → Mm → Option (Mm)) (i3 : Int32) (M : Mm) : Option (Mm) :=
    if i2 ≤ i3 then
      some M
    else
      ck (isK G r0 9) <|
      Option.bind (M.2.2 r0 7) fun r36 =>
      ck (isK G r36 10) <|
      ck (inb i3 (G.2.2 r36)) <|
      Option.bind (lp_X9_reach_147 G r0 i2 i3 FU (0 : Int32) (mwI M r36 (Int32.toNatClampNeg i3) (-1))) fun q54 =>
      jn_X9_reach_202 G q54 rec r0 i2 i3
def lp_X9_reach_132 (G : Gg) (r0 : Nat) (i2 : Int32) : Nat → Int32 → Mm → Option (Mm)
  | 0, _, _ => none
  | n + 1, i3, M => bd_X9_reach_132 G r0 i2 (lp_X9_reach_132 G r0 i2 n) i3 M
def f_X9_reach (G : Gg) (M : Mm) (r0 : Nat) (i1 : Int32) : Option (Mm) :=
  ck (isK G r0 9) <|
  Option.bind (M.2.2 r0 3) fun r2 =>
  ck (isK G r2 10) <|
  ck (inb i1 (G.2.2 r2)) <|
  Option.bind (lp_X9_reach_9 G r0 i1 (M.1 r2 (Int32.toNatClampNeg i1)) FU (0 : Int32) M) fun q22 =>
  Option.bind (lp_X9_reach_68 G r0 (M.1 r2 (Int32.toNatClampNeg i1)) FU (0 : Int32) q22) fun q33 =>
  Option.bind (lp_X9_reach_132 G r0 (M.1 r2 (Int32.toNatClampNeg i1)) FU (0 : Int32) (mwI q33 r0 8 (0 : Int32))) fun q61 =>
  some q61
def bd_X9_bitsOf_5 (G : Gg) (M : Mm) (r0 : Nat) (i1 : Int32) (i2 : Int32) (rec : Int32 → Int32 → Option (Int32)) (i3 : Int32) (i4 : Int32) : Option (Int32) :=
    if i1 ≤ i4 then
      some i3
    else
      ck (isK G r0 9) <|
      Option.bind (M.2.2 r0 7) fun r3 =>
      ck (isK G r3 10) <|
      ck (inb i4 (G.2.2 r3)) <|
      if (M.1 r3 (Int32.toNatClampNeg i4)) = i2 then
        rec (i3 ||| ((1 : Int32) <<< (i4 &&& 31))) (i4 + 1)
      else
        rec i3 (i4 + 1)
def lp_X9_bitsOf_5 (G : Gg) (M : Mm) (r0 : Nat) (i1 : Int32) (i2 : Int32) : Nat → Int32 → Int32 → Option (Int32)
  | 0, _, _ => none
  | n + 1, i3, i4 => bd_X9_bitsOf_5 G M r0 i1 i2 (lp_X9_bitsOf_5 G M r0 i1 i2 n) i3 i4
def f_X9_bitsOf (G : Gg) (M : Mm) (r0 : Nat) (i1 : Int32) (i2 : Int32) : Option (Int32) :=
  Option.bind (lp_X9_bitsOf_5 G M r0 i1 i2 FU (0 : Int32) (0 : Int32)) fun q8 =>
  some q8
def bd_X9_isClosed_10 (G : Gg) (M : Mm) (r0 : Nat) (i1 : Int32) (i2 : Int32) (i3 : Int32) (rec : Int32 → Option ((Int32) ⊕ (Unit))) (i4 : Int32) : Option ((Int32) ⊕ (Unit)) :=
    if i1 ≤ i4 then
      some (.inr ())
    else
      ck (isK G r0 9) <|
      Option.bind (M.2.2 r0 7) fun r6 =>
      ck (isK G r6 10) <|
      ck (inb i4 (G.2.2 r6)) <|
      if (M.1 r6 (Int32.toNatClampNeg i4)) = i2 then
        Option.bind (M.2.2 r0 6) fun r11 =>
        ck (isK G r11 10) <|
        ck (inb i4 (G.2.2 r11)) <|
        if ((M.1 r11 (Int32.toNatClampNeg i4)) &&& (i3 ^^^ (-1))) = 0 then
          rec (i4 + 1)
        else
          some (.inl (0 : Int32))
      else
        rec (i4 + 1)
def lp_X9_isClosed_10 (G : Gg) (M : Mm) (r0 : Nat) (i1 : Int32) (i2 : Int32) (i3 : Int32) : Nat → Int32 → Option ((Int32) ⊕ (Unit))
  | 0, _ => none
  | n + 1, i4 => bd_X9_isClosed_10 G M r0 i1 i2 i3 (lp_X9_isClosed_10 G M r0 i1 i2 i3 n) i4
def f_X9_isClosed (G : Gg) (M : Mm) (r0 : Nat) (i1 : Int32) (i2 : Int32) : Option (Int32) :=
  ck (isK G r0 9) <|
  Option.bind (f_X9_bitsOf G M r0 i1 i2) fun q1 =>
  Option.bind (lp_X9_isClosed_10 G M r0 i1 i2 q1 FU (0 : Int32)) fun q16 =>
  onS q16 (fun x18 => some x18) fun y17 =>
  some (1 : Int32)
def bd_X9_closedOne_4 (G : Gg) (M : Mm) (r0 : Nat) (i1 : Int32) (rec : Int32 → Int32 → Option ((Int32) ⊕ (Int32))) (i2 : Int32) (i3 : Int32) : Option ((Int32) ⊕ (Int32)) :=
    ck (isK G r0 9) <|
    if (M.1 r0 8) ≤ i3 then
      some (.inr i2)
    else
      Option.bind (f_X9_isClosed G M r0 i1 i3) fun q3 =>
      if q3 = 0 then
        rec i2 (i3 + 1)
      else
        if i2 = (-1) then
          rec i3 (i3 + 1)
        else
          some (.inl (-1))
def lp_X9_closedOne_4 (G : Gg) (M : Mm) (r0 : Nat) (i1 : Int32) : Nat → Int32 → Int32 → Option ((Int32) ⊕ (Int32))
  | 0, _, _ => none
  | n + 1, i2, i3 => bd_X9_closedOne_4 G M r0 i1 (lp_X9_closedOne_4 G M r0 i1 n) i2 i3
def f_X9_closedOne (G : Gg) (M : Mm) (r0 : Nat) (i1 : Int32) : Option (Int32) :=
  Option.bind (lp_X9_closedOne_4 G M r0 i1 FU (-1) (0 : Int32)) fun q7 =>
  onS q7 (fun x9 => some x9) fun y8 =>
  some y8
def bd_X9_beat_54 (G : Gg) (M : Mm) (r0 : Nat) (i1 : Int32) (i2 : Int32) (i3 : Int32) (i4 : Int32) (l5 : Int64) (i7 : Int32) (i9 : Int32) (rec : Int32 → Int32 → Option (Int32)) (i8 : Int32) (i10 : Int32) : Option (Int32) :=
    if i3 ≤ i10 then
      some i8
    else
      ck (isK G r0 9) <|
      Option.bind (f_X9_at G M r0 i1 i9 i10) fun q10 =>
      if q10 ≤ 0 then
        rec i8 (i10 + 1)
      else
        rec (i8 ||| ((1 : Int32) <<< (i10 &&& 31))) (i10 + 1)
def lp_X9_beat_54 (G : Gg) (M : Mm) (r0 : Nat) (i1 : Int32) (i2 : Int32) (i3 : Int32) (i4 : Int32) (l5 : Int64) (i7 : Int32) (i9 : Int32) : Nat → Int32 → Int32 → Option (Int32)
  | 0, _, _ => none
  | n + 1, i8, i10 => bd_X9_beat_54 G M r0 i1 i2 i3 i4 l5 i7 i9 (lp_X9_beat_54 G M r0 i1 i2 i3 i4 l5 i7 i9 n) i8 i10
def bd_X9_beat_32 (G : Gg) (M : Mm) (r0 : Nat) (i1 : Int32) (i2 : Int32) (i3 : Int32) (i4 : Int32) (l5 : Int64) (i7 : Int32) (rec : Int32 → Int32 → Option (Int32)) (i8 : Int32) (i9 : Int32) : Option (Int32) :=
    if i3 ≤ i9 then
      some i8
    else
      if ((i4 >>> (i9 &&& 31)) &&& (1 : Int32)) = 0 then
        rec i8 (i9 + 1)
      else
        Option.bind (lp_X9_beat_54 G M r0 i1 i2 i3 i4 l5 i7 i9 FU i8 (0 : Int32)) fun q14 =>
        rec q14 (i9 + 1)
def lp_X9_beat_32 (G : Gg) (M : Mm) (r0 : Nat) (i1 : Int32) (i2 : Int32) (i3 : Int32) (i4 : Int32) (l5 : Int64) (i7 : Int32) : Nat → Int32 → Int32 → Option (Int32)
  | 0, _, _ => none
  | n + 1, i8, i9 => bd_X9_beat_32 G M r0 i1 i2 i3 i4 l5 i7 (lp_X9_beat_32 G M r0 i1 i2 i3 i4 l5 i7 n) i8 i9
def bd_X9_beat_18 (G : Gg) (M : Mm) (r0 : Nat) (i1 : Int32) (i2 : Int32) (i3 : Int32) (rec : Int32 → Int64 → Int32 → Option (Int64)) (i4 : Int32) (l5 : Int64) (i7 : Int32) : Option (Int64) :=
    if ((3 : Int32) * i3) < i7 then
      some l5
    else
      Option.bind (lp_X9_beat_32 G M r0 i1 i2 i3 i4 l5 i7 FU (0 : Int32) (0 : Int32)) fun q15 =>
      if ((q15 >>> (i2 &&& 31)) &&& (1 : Int32)) = (1 : Int32) then
        Option.bind (f_X9_common l5 (Int32.toInt64 i7)) fun q17 =>
        rec q15 q17 (i7 + 1)
      else
        rec q15 l5 (i7 + 1)
def lp_X9_beat_18 (G : Gg) (M : Mm) (r0 : Nat) (i1 : Int32) (i2 : Int32) (i3 : Int32) : Nat → Int32 → Int64 → Int32 → Option (Int64)
  | 0, _, _, _ => none
  | n + 1, i4, l5, i7 => bd_X9_beat_18 G M r0 i1 i2 i3 (lp_X9_beat_18 G M r0 i1 i2 i3 n) i4 l5 i7
def f_X9_beat (G : Gg) (M : Mm) (r0 : Nat) (i1 : Int32) (i2 : Int32) : Option (Int32) :=
  ck (isK G r0 9) <|
  Option.bind (M.2.2 r0 3) fun r2 =>
  ck (isK G r2 10) <|
  ck (inb i1 (G.2.2 r2)) <|
  Option.bind (lp_X9_beat_18 G M r0 i1 i2 (M.1 r2 (Int32.toNatClampNeg i1)) FU ((1 : Int32) <<< (i2 &&& 31)) (0 : Int64) (1 : Int32)) fun q19 =>
  some (Int64.toInt32 q19)
def jn_X9_power_37 (rec : Int64 → Int64 → Int64 → Option (Int64)) (l4 : Int64) (l6 : Int64) (l8 : Int64) (l10 : Int64)  : Option (Int64) :=
    ck (¬ l4 = 0) <|
    ck (¬ (2 : Int64) = 0) <|
    rec l6 ((l8 * l8) - (l8 * l8) / l4 * l4) (l10 / (2 : Int64))
def bd_X9_power_9 (l4 : Int64) (rec : Int64 → Int64 → Int64 → Option (Int64)) (l6 : Int64) (l8 : Int64) (l10 : Int64) : Option (Int64) :=
    if (lg_cmp l10 (0 : Int64)) ≤ 0 then
      some l6
    else
      ck (¬ (2 : Int64) = 0) <|
      if (lg_cmp (l10 - l10 / (2 : Int64) * (2 : Int64)) (1 : Int64)) = 0 then
        ck (¬ l4 = 0) <|
        jn_X9_power_37 rec l4 ((l6 * l8) - (l6 * l8) / l4 * l4) l8 l10
      else
        jn_X9_power_37 rec l4 l6 l8 l10
def lp_X9_power_9 (l4 : Int64) : Nat → Int64 → Int64 → Int64 → Option (Int64)
  | 0, _, _, _ => none
  | n + 1, l6, l8, l10 => bd_X9_power_9 l4 (lp_X9_power_9 l4 n) l6 l8 l10
def f_X9_power (l0 : Int64) (l2 : Int64) (l4 : Int64) : Option (Int64) :=
  Option.bind (lp_X9_power_9 l4 FU (1 : Int64) l0 l2) fun q7 =>
  some q7
def jn_X9_rest_47 (G : Gg) (M : Mm) (rec : Int32 → Mm → Option (Mm)) (r0 : Nat) (i1 : Int32) (i2 : Int32) (l3 : Int64) (i5 : Int32) (i6 : Int32) (k0 : Int64) : Option (Mm) :=
    ck (¬ l3 = 0) <|
    ck (isK G r0 9) <|
    Option.bind (M.2.2 r0 11) fun r11 =>
    if 0 ≤ (lg_cmp (k0 - k0 / l3 * l3) (0 : Int64)) then
      ck (isK G r11 11) <|
      ck (inb (((8 : Int32) * i5) + i6) (G.2.2 r11)) <|
      rec (i6 + 1) (mwJ M r11 (Int32.toNatClampNeg (((8 : Int32) * i5) + i6)) (k0 - k0 / l3 * l3))
    else
      ck (isK G r11 11) <|
      ck (inb (((8 : Int32) * i5) + i6) (G.2.2 r11)) <|
      rec (i6 + 1) (mwJ M r11 (Int32.toNatClampNeg (((8 : Int32) * i5) + i6)) ((k0 - k0 / l3 * l3) + l3))
def bd_X9_rest_12 (G : Gg) (r0 : Nat) (i1 : Int32) (i2 : Int32) (l3 : Int64) (i5 : Int32) (rec : Int32 → Mm → Option (Mm)) (i6 : Int32) (M : Mm) : Option (Mm) :=
    if i1 ≤ i6 then
      some M
    else
      if i6 = i2 then
        ck (isK G r0 9) <|
        Option.bind (M.2.2 r0 10) fun r19 =>
        ck (isK G r19 11) <|
        ck (inb i5 (G.2.2 r19)) <|
        jn_X9_rest_47 G M rec r0 i1 i2 l3 i5 i6 (M.2.1 r19 (Int32.toNatClampNeg i5))
      else
        ck (isK G r0 9) <|
        Option.bind (M.2.2 r0 9) fun r5 =>
        ck (isK G r5 11) <|
        ck (inb (((8 : Int32) * i5) + i6) (G.2.2 r5)) <|
        jn_X9_rest_47 G M rec r0 i1 i2 l3 i5 i6 (M.2.1 r5 (Int32.toNatClampNeg (((8 : Int32) * i5) + i6)))
def lp_X9_rest_12 (G : Gg) (r0 : Nat) (i1 : Int32) (i2 : Int32) (l3 : Int64) (i5 : Int32) : Nat → Int32 → Mm → Option (Mm)
  | 0, _, _ => none
  | n + 1, i6, M => bd_X9_rest_12 G r0 i1 i2 l3 i5 (lp_X9_rest_12 G r0 i1 i2 l3 i5 n) i6 M
def bd_X9_rest_3 (G : Gg) (r0 : Nat) (i1 : Int32) (i2 : Int32) (l3 : Int64) (rec : Int32 → Mm → Option (Mm)) (i5 : Int32) (M : Mm) : Option (Mm) :=
    if i1 ≤ i5 then
      some M
    else
      Option.bind (lp_X9_rest_12 G r0 i1 i2 l3 i5 FU (0 : Int32) M) fun q23 =>
      rec (i5 + 1) q23
def lp_X9_rest_3 (G : Gg) (r0 : Nat) (i1 : Int32) (i2 : Int32) (l3 : Int64) : Nat → Int32 → Mm → Option (Mm)
  | 0, _, _ => none
  | n + 1, i5, M => bd_X9_rest_3 G r0 i1 i2 l3 (lp_X9_rest_3 G r0 i1 i2 l3 n) i5 M
def bd_X9_rest_108 (G : Gg) (M : Mm) (r0 : Nat) (i1 : Int32) (l3 : Int64) (l5 : Int64) (i7 : Int32) (rec : Int32 → Option (Int32)) (i8 : Int32) : Option (Int32) :=
    if i1 ≤ i8 then
      some i8
    else
      ck (isK G r0 9) <|
      Option.bind (M.2.2 r0 11) fun r28 =>
      ck (isK G r28 11) <|
      ck (inb (((8 : Int32) * i8) + i7) (G.2.2 r28)) <|
      if (lg_cmp (M.2.1 r28 (Int32.toNatClampNeg (((8 : Int32) * i8) + i7))) (0 : Int64)) = 0 then
        rec (i8 + 1)
      else
        some i8
def lp_X9_rest_108 (G : Gg) (M : Mm) (r0 : Nat) (i1 : Int32) (l3 : Int64) (l5 : Int64) (i7 : Int32) : Nat → Int32 → Option (Int32)
  | 0, _ => none
  | n + 1, i8 => bd_X9_rest_108 G M r0 i1 l3 l5 i7 (lp_X9_rest_108 G M r0 i1 l3 l5 i7 n) i8
def bd_X9_rest_310 (G : Gg) (r0 : Nat) (i1 : Int32) (l3 : Int64) (l5 : Int64) (i7 : Int32) (l9 : Int64) (i11 : Int32) (l12 : Int64) (rec : Int32 → Mm → Option (Mm)) (i14 : Int32) (M : Mm) : Option (Mm) :=
    if i1 ≤ i14 then
      some M
    else
      if (lg_cmp l12 (0 : Int64)) = 0 then
        some M
      else
        ck (isK G r0 9) <|
        Option.bind (M.2.2 r0 11) fun r54 =>
        ck (isK G r54 11) <|
        ck (inb (((8 : Int32) * i11) + i14) (G.2.2 r54)) <|
        ck (inb (((8 : Int32) * i7) + i14) (G.2.2 r54)) <|
        ck (¬ l3 = 0) <|
        rec (i14 + 1) (mwJ M r54 (Int32.toNatClampNeg (((8 : Int32) * i11) + i14)) (((M.2.1 r54 (Int32.toNatClampNeg (((8 : Int32) * i11) + i14))) + ((l3 - l12) * (M.2.1 r54 (Int32.toNatClampNeg (((8 : Int32) * i7) + i14))))) - ((M.2.1 r54 (Int32.toNatClampNeg (((8 : Int32) * i11) + i14))) + ((l3 - l12) * (M.2.1 r54 (Int32.toNatClampNeg (((8 : Int32) * i7) + i14))))) / l3 * l3))
def lp_X9_rest_310 (G : Gg) (r0 : Nat) (i1 : Int32) (l3 : Int64) (l5 : Int64) (i7 : Int32) (l9 : Int64) (i11 : Int32) (l12 : Int64) : Nat → Int32 → Mm → Option (Mm)
  | 0, _, _ => none
  | n + 1, i14, M => bd_X9_rest_310 G r0 i1 l3 l5 i7 l9 i11 l12 (lp_X9_rest_310 G r0 i1 l3 l5 i7 l9 i11 l12 n) i14 M
def bd_X9_rest_280 (G : Gg) (r0 : Nat) (i1 : Int32) (l3 : Int64) (l5 : Int64) (i7 : Int32) (l9 : Int64) (rec : Int32 → Mm → Option (Mm)) (i11 : Int32) (M : Mm) : Option (Mm) :=
    if i1 ≤ i11 then
      some M
    else
      ck (isK G r0 9) <|
      Option.bind (M.2.2 r0 11) fun r46 =>
      ck (isK G r46 11) <|
      ck (inb (((8 : Int32) * i11) + i7) (G.2.2 r46)) <|
      ck (¬ l3 = 0) <|
      Option.bind (lp_X9_rest_310 G r0 i1 l3 l5 i7 l9 i11 (((M.2.1 r46 (Int32.toNatClampNeg (((8 : Int32) * i11) + i7))) * l9) - ((M.2.1 r46 (Int32.toNatClampNeg (((8 : Int32) * i11) + i7))) * l9) / l3 * l3) FU i7 M) fun q60 =>
      rec (i11 + 1) q60
def lp_X9_rest_280 (G : Gg) (r0 : Nat) (i1 : Int32) (l3 : Int64) (l5 : Int64) (i7 : Int32) (l9 : Int64) : Nat → Int32 → Mm → Option (Mm)
  | 0, _, _ => none
  | n + 1, i11, M => bd_X9_rest_280 G r0 i1 l3 l5 i7 l9 (lp_X9_rest_280 G r0 i1 l3 l5 i7 l9 n) i11 M
def jn_X9_rest_230 (G : Gg) (M : Mm) (rec : Int64 → Int32 → Mm → Option ((Int64 × Mm) ⊕ (Int64 × Mm))) (r0 : Nat) (i1 : Int32) (l3 : Int64) (l5 : Int64) (i7 : Int32)  : Option ((Int64 × Mm) ⊕ (Int64 × Mm)) :=
    ck (isK G r0 9) <|
    Option.bind (M.2.2 r0 11) fun r37 =>
    ck (isK G r37 11) <|
    ck (inb (((8 : Int32) * i7) + i7) (G.2.2 r37)) <|
    ck (¬ l3 = 0) <|
    Option.bind (f_X9_power (M.2.1 r37 (Int32.toNatClampNeg (((8 : Int32) * i7) + i7))) (l3 - (2 : Int64)) l3) fun q42 =>
    Option.bind (lp_X9_rest_280 G r0 i1 l3 ((l5 * (M.2.1 r37 (Int32.toNatClampNeg (((8 : Int32) * i7) + i7)))) - (l5 * (M.2.1 r37 (Int32.toNatClampNeg (((8 : Int32) * i7) + i7)))) / l3 * l3) i7 q42 FU (i7 + (1 : Int32)) M) fun q61 =>
    rec ((l5 * (M.2.1 r37 (Int32.toNatClampNeg (((8 : Int32) * i7) + i7)))) - (l5 * (M.2.1 r37 (Int32.toNatClampNeg (((8 : Int32) * i7) + i7)))) / l3 * l3) (i7 + 1) q61
def bd_X9_rest_156 (G : Gg) (r0 : Nat) (i1 : Int32) (l3 : Int64) (l5 : Int64) (i7 : Int32) (i8 : Int32) (rec : Int32 → Mm → Option (Mm)) (i9 : Int32) (M : Mm) : Option (Mm) :=
    if i1 ≤ i9 then
      some M
    else
      ck (isK G r0 9) <|
      Option.bind (M.2.2 r0 11) fun r64 =>
      ck (isK G r64 11) <|
      ck (inb (((8 : Int32) * i8) + i9) (G.2.2 r64)) <|
      ck (inb (((8 : Int32) * i7) + i9) (G.2.2 r64)) <|
      rec (i9 + 1) (mwJ (mwJ M r64 (Int32.toNatClampNeg (((8 : Int32) * i8) + i9)) (M.2.1 r64 (Int32.toNatClampNeg (((8 : Int32) * i7) + i9)))) r64 (Int32.toNatClampNeg (((8 : Int32) * i7) + i9)) (M.2.1 r64 (Int32.toNatClampNeg (((8 : Int32) * i8) + i9))))
def lp_X9_rest_156 (G : Gg) (r0 : Nat) (i1 : Int32) (l3 : Int64) (l5 : Int64) (i7 : Int32) (i8 : Int32) : Nat → Int32 → Mm → Option (Mm)
  | 0, _, _ => none
  | n + 1, i9, M => bd_X9_rest_156 G r0 i1 l3 l5 i7 i8 (lp_X9_rest_156 G r0 i1 l3 l5 i7 i8 n) i9 M
def jn_X9_rest_138 (G : Gg) (M : Mm) (rec : Int64 → Int32 → Mm → Option ((Int64 × Mm) ⊕ (Int64 × Mm))) (r0 : Nat) (i1 : Int32) (l3 : Int64) (l5 : Int64) (i7 : Int32) (i8 : Int32)  : Option ((Int64 × Mm) ⊕ (Int64 × Mm)) :=
    if i8 = i1 then
      some (.inl ((0 : Int64), M))
    else
      if i8 ≤ i7 then
        jn_X9_rest_230 G M rec r0 i1 l3 l5 i7
      else
        Option.bind (lp_X9_rest_156 G r0 i1 l3 l5 i7 i8 FU (0 : Int32) M) fun q69 =>
        jn_X9_rest_230 G q69 rec r0 i1 l3 (l3 - l5) i7
def bd_X9_rest_98 (G : Gg) (r0 : Nat) (i1 : Int32) (l3 : Int64) (rec : Int64 → Int32 → Mm → Option ((Int64 × Mm) ⊕ (Int64 × Mm))) (l5 : Int64) (i7 : Int32) (M : Mm) : Option ((Int64 × Mm) ⊕ (Int64 × Mm)) :=
    if i1 ≤ i7 then
      some (.inr (l5, M))
    else
      Option.bind (lp_X9_rest_108 G M r0 i1 l3 l5 i7 FU i7) fun q33 =>
      jn_X9_rest_138 G M rec r0 i1 l3 l5 i7 q33
def lp_X9_rest_98 (G : Gg) (r0 : Nat) (i1 : Int32) (l3 : Int64) : Nat → Int64 → Int32 → Mm → Option ((Int64 × Mm) ⊕ (Int64 × Mm))
  | 0, _, _, _ => none
  | n + 1, l5, i7, M => bd_X9_rest_98 G r0 i1 l3 (lp_X9_rest_98 G r0 i1 l3 n) l5 i7 M
def f_X9_rest (G : Gg) (M : Mm) (r0 : Nat) (i1 : Int32) (i2 : Int32) (l3 : Int64) : Option (Int64 × Mm) :=
  Option.bind (lp_X9_rest_3 G r0 i1 i2 l3 FU (0 : Int32) M) fun q24 =>
  Option.bind (lp_X9_rest_98 G r0 i1 l3 FU (1 : Int64) (0 : Int32) q24) fun q70 =>
  onS q70 (fun x72 => some x72) fun y71 =>
  ck (¬ l3 = 0) <|
  some ((y71.1 - y71.1 / l3 * l3), y71.2)
def f_X9_determinant (G : Gg) (M : Mm) (r0 : Nat) (i1 : Int32) (i2 : Int32) : Option (Int64 × Mm) :=
  ck (isK G r0 9) <|
  Option.bind (f_X9_rest G M r0 i1 i2 (998244353 : Int64)) fun q1 =>
  Option.bind (f_X9_rest G q1.2 r0 i1 i2 (1000000007 : Int64)) fun q4 =>
  ck (¬ (1000000007 : Int64) = 0) <|
  Option.bind (f_X9_power (998244353 : Int64) (1000000005 : Int64) (1000000007 : Int64)) fun q7 =>
  if (lg_cmp (q1.1 + ((998244353 : Int64) * (((((q4.1 - (q1.1 - q1.1 / (1000000007 : Int64) * (1000000007 : Int64))) + (1000000007 : Int64)) - ((q4.1 - (q1.1 - q1.1 / (1000000007 : Int64) * (1000000007 : Int64))) + (1000000007 : Int64)) / (1000000007 : Int64) * (1000000007 : Int64)) * q7) - ((((q4.1 - (q1.1 - q1.1 / (1000000007 : Int64) * (1000000007 : Int64))) + (1000000007 : Int64)) - ((q4.1 - (q1.1 - q1.1 / (1000000007 : Int64) * (1000000007 : Int64))) + (1000000007 : Int64)) / (1000000007 : Int64) * (1000000007 : Int64)) * q7) / (1000000007 : Int64) * (1000000007 : Int64)))) (499122179993855235 : Int64)) ≤ 0 then
    some ((q1.1 + ((998244353 : Int64) * (((((q4.1 - (q1.1 - q1.1 / (1000000007 : Int64) * (1000000007 : Int64))) + (1000000007 : Int64)) - ((q4.1 - (q1.1 - q1.1 / (1000000007 : Int64) * (1000000007 : Int64))) + (1000000007 : Int64)) / (1000000007 : Int64) * (1000000007 : Int64)) * q7) - ((((q4.1 - (q1.1 - q1.1 / (1000000007 : Int64) * (1000000007 : Int64))) + (1000000007 : Int64)) - ((q4.1 - (q1.1 - q1.1 / (1000000007 : Int64) * (1000000007 : Int64))) + (1000000007 : Int64)) / (1000000007 : Int64) * (1000000007 : Int64)) * q7) / (1000000007 : Int64) * (1000000007 : Int64)))), q4.2)
  else
    some (((q1.1 + ((998244353 : Int64) * (((((q4.1 - (q1.1 - q1.1 / (1000000007 : Int64) * (1000000007 : Int64))) + (1000000007 : Int64)) - ((q4.1 - (q1.1 - q1.1 / (1000000007 : Int64) * (1000000007 : Int64))) + (1000000007 : Int64)) / (1000000007 : Int64) * (1000000007 : Int64)) * q7) - ((((q4.1 - (q1.1 - q1.1 / (1000000007 : Int64) * (1000000007 : Int64))) + (1000000007 : Int64)) - ((q4.1 - (q1.1 - q1.1 / (1000000007 : Int64) * (1000000007 : Int64))) + (1000000007 : Int64)) / (1000000007 : Int64) * (1000000007 : Int64)) * q7) / (1000000007 : Int64) * (1000000007 : Int64)))) - (998244359987710471 : Int64)), q4.2)
def bd_X9_list_4 (G : Gg) (r0 : Nat) (i1 : Int32) (rec : Int32 → Int32 → Mm → Option (Int32 × Mm)) (i2 : Int32) (i3 : Int32) (M : Mm) : Option (Int32 × Mm) :=
    if (8 : Int32) ≤ i3 then
      some (i2, M)
    else
      if ((i1 >>> (i3 &&& 31)) &&& (1 : Int32)) = 0 then
        rec i2 (i3 + 1) M
      else
        ck (isK G r0 9) <|
        Option.bind (M.2.2 r0 13) fun r4 =>
        ck (isK G r4 10) <|
        ck (inb i2 (G.2.2 r4)) <|
        rec (i2 + 1) (i3 + 1) (mwI M r4 (Int32.toNatClampNeg i2) i3)
def lp_X9_list_4 (G : Gg) (r0 : Nat) (i1 : Int32) : Nat → Int32 → Int32 → Mm → Option (Int32 × Mm)
  | 0, _, _, _ => none
  | n + 1, i2, i3, M => bd_X9_list_4 G r0 i1 (lp_X9_list_4 G r0 i1 n) i2 i3 M
def f_X9_list (G : Gg) (M : Mm) (r0 : Nat) (i1 : Int32) : Option (Int32 × Mm) :=
  Option.bind (lp_X9_list_4 G r0 i1 FU (0 : Int32) (0 : Int32) M) fun q8 =>
  some (q8.1, q8.2)
def jn_X9_lay_71 (G : Gg) (M : Mm) (rec : Int32 → Int32 → Mm → Option (Mm)) (r0 : Nat) (i1 : Int32) (i2 : Int32) (i3 : Int32) (i4 : Int32) (i5 : Int32) (i6 : Int32) (i7 : Int32) (k0 : Int32) (k1 : Int32) (k2 : Nat) : Option (Mm) :=
    ck (isK G r0 9) <|
    Option.bind (M.2.2 r0 13) fun r10 =>
    ck (isK G r10 10) <|
    ck (inb i5 (G.2.2 r10)) <|
    ck (inb i7 (G.2.2 r10)) <|
    Option.bind (f_X9_at G M r0 i1 (M.1 r10 (Int32.toNatClampNeg i5)) (M.1 r10 (Int32.toNatClampNeg i7))) fun q15 =>
    ck (isK G k2 11) <|
    ck (inb k1 (G.2.2 k2)) <|
    rec (i6 + 1) (i7 + 1) (mwJ M k2 (Int32.toNatClampNeg k1) (Int32.toInt64 (k0 - q15)))
def bd_X9_lay_27 (G : Gg) (r0 : Nat) (i1 : Int32) (i2 : Int32) (i3 : Int32) (i4 : Int32) (i5 : Int32) (rec : Int32 → Int32 → Mm → Option (Mm)) (i6 : Int32) (i7 : Int32) (M : Mm) : Option (Mm) :=
    if i2 ≤ i7 then
      some M
    else
      if i7 = i3 then
        rec i6 (i7 + 1) M
      else
        ck (isK G r0 9) <|
        Option.bind (M.2.2 r0 9) fun r6 =>
        if i5 = i7 then
          Option.bind (M.2.2 r0 4) fun r19 =>
          ck (isK G r19 10) <|
          ck (inb i1 (G.2.2 r19)) <|
          jn_X9_lay_71 G M rec r0 i1 i2 i3 i4 i5 i6 i7 (M.1 r19 (Int32.toNatClampNeg i1)) (((8 : Int32) * i4) + i6) r6
        else
          jn_X9_lay_71 G M rec r0 i1 i2 i3 i4 i5 i6 i7 (0 : Int32) (((8 : Int32) * i4) + i6) r6
def lp_X9_lay_27 (G : Gg) (r0 : Nat) (i1 : Int32) (i2 : Int32) (i3 : Int32) (i4 : Int32) (i5 : Int32) : Nat → Int32 → Int32 → Mm → Option (Mm)
  | 0, _, _, _ => none
  | n + 1, i6, i7, M => bd_X9_lay_27 G r0 i1 i2 i3 i4 i5 (lp_X9_lay_27 G r0 i1 i2 i3 i4 i5 n) i6 i7 M
def bd_X9_lay_6 (G : Gg) (r0 : Nat) (i1 : Int32) (i2 : Int32) (i3 : Int32) (rec : Int32 → Int32 → Mm → Option (Int32 × Mm)) (i4 : Int32) (i5 : Int32) (M : Mm) : Option (Int32 × Mm) :=
    if i2 ≤ i5 then
      some (i4, M)
    else
      if i5 = i3 then
        rec i4 (i5 + 1) M
      else
        Option.bind (lp_X9_lay_27 G r0 i1 i2 i3 i4 i5 FU (0 : Int32) (0 : Int32) M) fun q23 =>
        rec (i4 + 1) (i5 + 1) q23
def lp_X9_lay_6 (G : Gg) (r0 : Nat) (i1 : Int32) (i2 : Int32) (i3 : Int32) : Nat → Int32 → Int32 → Mm → Option (Int32 × Mm)
  | 0, _, _, _ => none
  | n + 1, i4, i5, M => bd_X9_lay_6 G r0 i1 i2 i3 (lp_X9_lay_6 G r0 i1 i2 i3 n) i4 i5 M
def f_X9_lay (G : Gg) (M : Mm) (r0 : Nat) (i1 : Int32) (i2 : Int32) (i3 : Int32) : Option (Int32 × Mm) :=
  Option.bind (lp_X9_lay_6 G r0 i1 i2 i3 FU (0 : Int32) (0 : Int32) M) fun q24 =>
  some (q24.1, q24.2)
def bd_X9_weigh_22 (G : Gg) (r0 : Nat) (i1 : Int32) (i3 : Int32) (l4 : Int64) (rec : Int32 → Mm → Option (Mm)) (i6 : Int32) (M : Mm) : Option (Mm) :=
    if (8 : Int32) ≤ i6 then
      some M
    else
      ck (isK G r0 9) <|
      Option.bind (M.2.2 r0 12) fun r12 =>
      ck (isK G r12 11) <|
      ck (inb i6 (G.2.2 r12)) <|
      rec (i6 + 1) (mwJ M r12 (Int32.toNatClampNeg i6) (0 : Int64))
def lp_X9_weigh_22 (G : Gg) (r0 : Nat) (i1 : Int32) (i3 : Int32) (l4 : Int64) : Nat → Int32 → Mm → Option (Mm)
  | 0, _, _ => none
  | n + 1, i6, M => bd_X9_weigh_22 G r0 i1 i3 l4 (lp_X9_weigh_22 G r0 i1 i3 l4 n) i6 M
def bd_X9_weigh_46 (G : Gg) (r0 : Nat) (i1 : Int32) (i3 : Int32) (rec : Int64 → Int32 → Mm → Option (Int64 × Mm)) (l4 : Int64) (i6 : Int32) (M : Mm) : Option (Int64 × Mm) :=
    if i3 ≤ i6 then
      some (l4, M)
    else
      ck (isK G r0 9) <|
      Option.bind (M.2.2 r0 12) fun r19 =>
      Option.bind (M.2.2 r0 13) fun r21 =>
      ck (isK G r21 10) <|
      ck (inb i6 (G.2.2 r21)) <|
      Option.bind (f_X9_lay G M r0 i1 i3 i6) fun q25 =>
      Option.bind (f_X9_determinant G q25.2 r0 q25.1 (-1)) fun q27 =>
      ck (isK G r19 11) <|
      ck (inb (M.1 r21 (Int32.toNatClampNeg i6)) (G.2.2 r19)) <|
      Option.bind ((mwJ q27.2 r19 (Int32.toNatClampNeg (M.1 r21 (Int32.toNatClampNeg i6))) q27.1).2.2 r0 12) fun r31 =>
      Option.bind ((mwJ q27.2 r19 (Int32.toNatClampNeg (M.1 r21 (Int32.toNatClampNeg i6))) q27.1).2.2 r0 13) fun r33 =>
      ck (isK G r33 10) <|
      ck (inb i6 (G.2.2 r33)) <|
      ck (isK G r31 11) <|
      ck (inb ((mwJ q27.2 r19 (Int32.toNatClampNeg (M.1 r21 (Int32.toNatClampNeg i6))) q27.1).1 r33 (Int32.toNatClampNeg i6)) (G.2.2 r31)) <|
      Option.bind (f_X9_common l4 ((mwJ q27.2 r19 (Int32.toNatClampNeg (M.1 r21 (Int32.toNatClampNeg i6))) q27.1).2.1 r31 (Int32.toNatClampNeg ((mwJ q27.2 r19 (Int32.toNatClampNeg (M.1 r21 (Int32.toNatClampNeg i6))) q27.1).1 r33 (Int32.toNatClampNeg i6))))) fun q39 =>
      rec q39 (i6 + 1) (mwJ q27.2 r19 (Int32.toNatClampNeg (M.1 r21 (Int32.toNatClampNeg i6))) q27.1)
def lp_X9_weigh_46 (G : Gg) (r0 : Nat) (i1 : Int32) (i3 : Int32) : Nat → Int64 → Int32 → Mm → Option (Int64 × Mm)
  | 0, _, _, _ => none
  | n + 1, l4, i6, M => bd_X9_weigh_46 G r0 i1 i3 (lp_X9_weigh_46 G r0 i1 i3 n) l4 i6 M
def bd_X9_weigh_105 (G : Gg) (r0 : Nat) (i3 : Int32) (l4 : Int64) (rec : Int32 → Mm → Option (Mm)) (i6 : Int32) (M : Mm) : Option (Mm) :=
    if i3 ≤ i6 then
      some M
    else
      ck (isK G r0 9) <|
      Option.bind (M.2.2 r0 12) fun r44 =>
      Option.bind (M.2.2 r0 13) fun r46 =>
      ck (isK G r46 10) <|
      ck (inb i6 (G.2.2 r46)) <|
      ck (isK G r44 11) <|
      ck (inb (M.1 r46 (Int32.toNatClampNeg i6)) (G.2.2 r44)) <|
      ck (¬ l4 = 0) <|
      rec (i6 + 1) (mwJ M r44 (Int32.toNatClampNeg (M.1 r46 (Int32.toNatClampNeg i6))) ((M.2.1 r44 (Int32.toNatClampNeg (M.1 r46 (Int32.toNatClampNeg i6)))) / l4))
def lp_X9_weigh_105 (G : Gg) (r0 : Nat) (i3 : Int32) (l4 : Int64) : Nat → Int32 → Mm → Option (Mm)
  | 0, _, _ => none
  | n + 1, i6, M => bd_X9_weigh_105 G r0 i3 l4 (lp_X9_weigh_105 G r0 i3 l4 n) i6 M
def f_X9_weigh (G : Gg) (M : Mm) (r0 : Nat) (i1 : Int32) (i2 : Int32) : Option (Mm) :=
  ck (isK G r0 9) <|
  Option.bind (M.2.2 r0 3) fun r2 =>
  ck (isK G r2 10) <|
  ck (inb i1 (G.2.2 r2)) <|
  Option.bind (f_X9_bitsOf G M r0 (M.1 r2 (Int32.toNatClampNeg i1)) i2) fun q6 =>
  Option.bind (f_X9_list G M r0 q6) fun q8 =>
  Option.bind (lp_X9_weigh_22 G r0 i1 q8.1 (0 : Int64) FU (0 : Int32) q8.2) fun q16 =>
  Option.bind (lp_X9_weigh_46 G r0 i1 q8.1 FU (0 : Int64) (0 : Int32) q16) fun q41 =>
  Option.bind (lp_X9_weigh_105 G r0 q8.1 q41.1 FU (0 : Int32) q41.2) fun q53 =>
  some q53
def bd_X9_allWeights_4 (G : Gg) (M : Mm) (r0 : Nat) (rec : Int64 → Int32 → Option (Int64)) (l1 : Int64) (i3 : Int32) : Option (Int64) :=
    if (8 : Int32) ≤ i3 then
      some l1
    else
      ck (isK G r0 9) <|
      Option.bind (M.2.2 r0 12) fun r3 =>
      ck (isK G r3 11) <|
      ck (inb i3 (G.2.2 r3)) <|
      rec (l1 + (M.2.1 r3 (Int32.toNatClampNeg i3))) (i3 + 1)
def lp_X9_allWeights_4 (G : Gg) (M : Mm) (r0 : Nat) : Nat → Int64 → Int32 → Option (Int64)
  | 0, _, _ => none
  | n + 1, l1, i3 => bd_X9_allWeights_4 G M r0 (lp_X9_allWeights_4 G M r0 n) l1 i3
def f_X9_allWeights (G : Gg) (M : Mm) (r0 : Nat) : Option (Int64) :=
  Option.bind (lp_X9_allWeights_4 G M r0 FU (0 : Int64) (0 : Int32)) fun q7 =>
  some q7
def bd_X9_isBothWays_17 (G : Gg) (M : Mm) (r0 : Nat) (i1 : Int32) (i2 : Int32) (i3 : Int32) (rec : Int32 → Option ((Int32) ⊕ (Unit))) (i4 : Int32) : Option ((Int32) ⊕ (Unit)) :=
    if i3 ≤ i4 then
      some (.inr ())
    else
      ck (isK G r0 9) <|
      Option.bind (M.2.2 r0 12) fun r9 =>
      ck (isK G r9 11) <|
      ck (inb i3 (G.2.2 r9)) <|
      Option.bind (f_X9_at G M r0 i1 i3 i4) fun q13 =>
      ck (inb i4 (G.2.2 r9)) <|
      Option.bind (f_X9_at G M r0 i1 i4 i3) fun q16 =>
      if (lg_cmp ((M.2.1 r9 (Int32.toNatClampNeg i3)) * (Int32.toInt64 q13)) ((M.2.1 r9 (Int32.toNatClampNeg i4)) * (Int32.toInt64 q16))) = 0 then
        rec (i4 + 1)
      else
        some (.inl (0 : Int32))
def lp_X9_isBothWays_17 (G : Gg) (M : Mm) (r0 : Nat) (i1 : Int32) (i2 : Int32) (i3 : Int32) : Nat → Int32 → Option ((Int32) ⊕ (Unit))
  | 0, _ => none
  | n + 1, i4 => bd_X9_isBothWays_17 G M r0 i1 i2 i3 (lp_X9_isBothWays_17 G M r0 i1 i2 i3 n) i4
def bd_X9_isBothWays_9 (G : Gg) (M : Mm) (r0 : Nat) (i1 : Int32) (i2 : Int32) (rec : Int32 → Option ((Int32) ⊕ (Unit))) (i3 : Int32) : Option ((Int32) ⊕ (Unit)) :=
    if i2 ≤ i3 then
      some (.inr ())
    else
      Option.bind (lp_X9_isBothWays_17 G M r0 i1 i2 i3 FU (0 : Int32)) fun q19 =>
      onS q19 (fun x21 => some (.inl x21)) fun y20 =>
      rec (i3 + 1)
def lp_X9_isBothWays_9 (G : Gg) (M : Mm) (r0 : Nat) (i1 : Int32) (i2 : Int32) : Nat → Int32 → Option ((Int32) ⊕ (Unit))
  | 0, _ => none
  | n + 1, i3 => bd_X9_isBothWays_9 G M r0 i1 i2 (lp_X9_isBothWays_9 G M r0 i1 i2 n) i3
def f_X9_isBothWays (G : Gg) (M : Mm) (r0 : Nat) (i1 : Int32) : Option (Int32) :=
  ck (isK G r0 9) <|
  Option.bind (M.2.2 r0 3) fun r2 =>
  ck (isK G r2 10) <|
  ck (inb i1 (G.2.2 r2)) <|
  Option.bind (lp_X9_isBothWays_9 G M r0 i1 (M.1 r2 (Int32.toNatClampNeg i1)) FU (0 : Int32)) fun q22 =>
  onS q22 (fun x24 => some x24) fun y23 =>
  some (1 : Int32)
def bd_X9_back_65 (G : Gg) (M : Mm) (r0 : Nat) (i1 : Int32) (i2 : Int32) (i3 : Int32) (i6 : Int32) (rec : Int64 → Int32 → Option ((Int32 × Mm) ⊕ (Int64))) (l4 : Int64) (i7 : Int32) : Option ((Int32 × Mm) ⊕ (Int64)) :=
    if i3 ≤ i7 then
      some (.inr l4)
    else
      ck (isK G r0 9) <|
      Option.bind (M.2.2 r0 12) fun r20 =>
      ck (isK G r20 11) <|
      ck (inb i6 (G.2.2 r20)) <|
      Option.bind (M.2.2 r0 4) fun r24 =>
      ck (isK G r24 10) <|
      ck (inb i1 (G.2.2 r24)) <|
      ck (inb i7 (G.2.2 r20)) <|
      Option.bind (f_X9_at G M r0 i1 i7 i6) fun q29 =>
      Option.bind (f_X9_common ((M.2.1 r20 (Int32.toNatClampNeg i7)) * (Int32.toInt64 q29)) ((M.2.1 r20 (Int32.toNatClampNeg i6)) * (Int32.toInt64 (M.1 r24 (Int32.toNatClampNeg i1))))) fun q31 =>
      ck (¬ q31 = 0) <|
      Option.bind (f_X9_common l4 (((M.2.1 r20 (Int32.toNatClampNeg i6)) * (Int32.toInt64 (M.1 r24 (Int32.toNatClampNeg i1)))) / q31)) fun q34 =>
      ck (¬ q34 = 0) <|
      if (lg_cmp ((l4 / q34) * (((M.2.1 r20 (Int32.toNatClampNeg i6)) * (Int32.toInt64 (M.1 r24 (Int32.toNatClampNeg i1)))) / q31)) (60 : Int64)) ≤ 0 then
        rec ((l4 / q34) * (((M.2.1 r20 (Int32.toNatClampNeg i6)) * (Int32.toInt64 (M.1 r24 (Int32.toNatClampNeg i1)))) / q31)) (i7 + 1)
      else
        some (.inl ((-1), M))
def lp_X9_back_65 (G : Gg) (M : Mm) (r0 : Nat) (i1 : Int32) (i2 : Int32) (i3 : Int32) (i6 : Int32) : Nat → Int64 → Int32 → Option ((Int32 × Mm) ⊕ (Int64))
  | 0, _, _ => none
  | n + 1, l4, i7 => bd_X9_back_65 G M r0 i1 i2 i3 i6 (lp_X9_back_65 G M r0 i1 i2 i3 i6 n) l4 i7
def bd_X9_back_56 (G : Gg) (M : Mm) (r0 : Nat) (i1 : Int32) (i2 : Int32) (i3 : Int32) (rec : Int64 → Int32 → Option ((Int32 × Mm) ⊕ (Int64))) (l4 : Int64) (i6 : Int32) : Option ((Int32 × Mm) ⊕ (Int64)) :=
    if i3 ≤ i6 then
      some (.inr l4)
    else
      Option.bind (lp_X9_back_65 G M r0 i1 i2 i3 i6 FU l4 (0 : Int32)) fun q38 =>
      onS q38 (fun x40 => some (.inl x40)) fun y39 =>
      rec y39 (i6 + 1)
def lp_X9_back_56 (G : Gg) (M : Mm) (r0 : Nat) (i1 : Int32) (i2 : Int32) (i3 : Int32) : Nat → Int64 → Int32 → Option ((Int32 × Mm) ⊕ (Int64))
  | 0, _, _ => none
  | n + 1, l4, i6 => bd_X9_back_56 G M r0 i1 i2 i3 (lp_X9_back_56 G M r0 i1 i2 i3 n) l4 i6
def bd_X9_back_166 (G : Gg) (r0 : Nat) (i1 : Int32) (i2 : Int32) (i3 : Int32) (l4 : Int64) (i6 : Int32) (rec : Int32 → Mm → Option (Mm)) (i7 : Int32) (M : Mm) : Option (Mm) :=
    if i3 ≤ i7 then
      some M
    else
      ck (isK G r0 9) <|
      Option.bind (M.2.2 r0 12) fun r47 =>
      ck (isK G r47 11) <|
      ck (inb i6 (G.2.2 r47)) <|
      Option.bind (M.2.2 r0 4) fun r51 =>
      ck (isK G r51 10) <|
      ck (inb i1 (G.2.2 r51)) <|
      ck (inb i7 (G.2.2 r47)) <|
      Option.bind (f_X9_at G M r0 i1 i7 i6) fun q56 =>
      Option.bind (f_X9_common ((M.2.1 r47 (Int32.toNatClampNeg i7)) * (Int32.toInt64 q56)) ((M.2.1 r47 (Int32.toNatClampNeg i6)) * (Int32.toInt64 (M.1 r51 (Int32.toNatClampNeg i1))))) fun q58 =>
      Option.bind (f_X9_at G M r0 i1 i7 i6) fun q60 =>
      ck (¬ q58 = 0) <|
      ck (¬ (((M.2.1 r47 (Int32.toNatClampNeg i6)) * (Int32.toInt64 (M.1 r51 (Int32.toNatClampNeg i1)))) / q58) = 0) <|
      Option.bind (f_X9_make G M r0 i6 i7 (Int64.toInt32 ((((M.2.1 r47 (Int32.toNatClampNeg i7)) * (Int32.toInt64 q60)) / q58) * (l4 / (((M.2.1 r47 (Int32.toNatClampNeg i6)) * (Int32.toInt64 (M.1 r51 (Int32.toNatClampNeg i1)))) / q58))))) fun q64 =>
      rec (i7 + 1) q64
def lp_X9_back_166 (G : Gg) (r0 : Nat) (i1 : Int32) (i2 : Int32) (i3 : Int32) (l4 : Int64) (i6 : Int32) : Nat → Int32 → Mm → Option (Mm)
  | 0, _, _ => none
  | n + 1, i7, M => bd_X9_back_166 G r0 i1 i2 i3 l4 i6 (lp_X9_back_166 G r0 i1 i2 i3 l4 i6 n) i7 M
def bd_X9_back_157 (G : Gg) (r0 : Nat) (i1 : Int32) (i2 : Int32) (i3 : Int32) (l4 : Int64) (rec : Int32 → Mm → Option (Mm)) (i6 : Int32) (M : Mm) : Option (Mm) :=
    if i3 ≤ i6 then
      some M
    else
      Option.bind (lp_X9_back_166 G r0 i1 i2 i3 l4 i6 FU (0 : Int32) M) fun q66 =>
      rec (i6 + 1) q66
def lp_X9_back_157 (G : Gg) (r0 : Nat) (i1 : Int32) (i2 : Int32) (i3 : Int32) (l4 : Int64) : Nat → Int32 → Mm → Option (Mm)
  | 0, _, _ => none
  | n + 1, i6, M => bd_X9_back_157 G r0 i1 i2 i3 l4 (lp_X9_back_157 G r0 i1 i2 i3 l4 n) i6 M
def f_X9_back (G : Gg) (M : Mm) (r0 : Nat) (i1 : Int32) (i2 : Int32) : Option (Int32 × Mm) :=
  ck (isK G r0 9) <|
  Option.bind (f_X9_has G (mwI M r0 0 (0 : Int32)) r0 i1) fun q2 =>
  if q2 = 0 then
    some ((-1), (mwI M r0 0 (0 : Int32)))
  else
    Option.bind (f_X9_isSlot i2) fun q5 =>
    if q5 = 0 then
      some ((-1), (mwI M r0 0 (0 : Int32)))
    else
      Option.bind (f_X9_reach G (mwI M r0 0 (0 : Int32)) r0 i1) fun q8 =>
      if (q8.1 r0 8) ≤ (1 : Int32) then
        Option.bind (f_X9_weigh G q8 r0 i1 (0 : Int32)) fun q11 =>
        Option.bind (q11.2.2 r0 3) fun r13 =>
        ck (isK G r13 10) <|
        ck (inb i1 (G.2.2 r13)) <|
        Option.bind (lp_X9_back_56 G q11 r0 i1 i2 (q11.1 r13 (Int32.toNatClampNeg i1)) FU (1 : Int64) (0 : Int32)) fun q41 =>
        onS q41 (fun x43 => some x43) fun y42 =>
        Option.bind (lp_X9_back_157 G r0 i1 i2 (q11.1 r13 (Int32.toNatClampNeg i1)) y42 FU (0 : Int32) q11) fun q67 =>
        Option.bind (f_X9_puts G q67 r0 i2 (q11.1 r13 (Int32.toNatClampNeg i1)) (Int64.toInt32 y42)) fun q68 =>
        some (q68.1, q68.2)
      else
        some ((-1), q8)
def bd_X9_goesTo_6 (G : Gg) (M : Mm) (r0 : Nat) (i1 : Int32) (i2 : Int32) (i3 : Int32) (rec : Int32 → Int32 → Option (Int32)) (i4 : Int32) (i5 : Int32) : Option (Int32) :=
    ck (isK G r0 9) <|
    Option.bind (M.2.2 r0 3) fun r2 =>
    ck (isK G r2 10) <|
    ck (inb i1 (G.2.2 r2)) <|
    if (M.1 r2 (Int32.toNatClampNeg i1)) ≤ i5 then
      some i4
    else
      Option.bind (M.2.2 r0 14) fun r7 =>
      ck (isK G r7 10) <|
      ck (inb i5 (G.2.2 r7)) <|
      if (M.1 r7 (Int32.toNatClampNeg i5)) = i3 then
        Option.bind (f_X9_at G M r0 i1 i2 i5) fun q12 =>
        rec (i4 + q12) (i5 + 1)
      else
        rec i4 (i5 + 1)
def lp_X9_goesTo_6 (G : Gg) (M : Mm) (r0 : Nat) (i1 : Int32) (i2 : Int32) (i3 : Int32) : Nat → Int32 → Int32 → Option (Int32)
  | 0, _, _ => none
  | n + 1, i4, i5 => bd_X9_goesTo_6 G M r0 i1 i2 i3 (lp_X9_goesTo_6 G M r0 i1 i2 i3 n) i4 i5
def f_X9_goesTo (G : Gg) (M : Mm) (r0 : Nat) (i1 : Int32) (i2 : Int32) (i3 : Int32) : Option (Int32) :=
  Option.bind (lp_X9_goesTo_6 G M r0 i1 i2 i3 FU (0 : Int32) (0 : Int32)) fun q14 =>
  some q14
def bd_X9_areAlike_20 (G : Gg) (M : Mm) (r0 : Nat) (i1 : Int32) (i2 : Int32) (i3 : Int32) (rec : Int32 → Option ((Int32) ⊕ (Unit))) (i4 : Int32) : Option ((Int32) ⊕ (Unit)) :=
    if (8 : Int32) ≤ i4 then
      some (.inr ())
    else
      ck (isK G r0 9) <|
      Option.bind (f_X9_goesTo G M r0 i1 i2 i4) fun q9 =>
      Option.bind (f_X9_goesTo G M r0 i1 i3 i4) fun q12 =>
      if q9 = q12 then
        rec (i4 + 1)
      else
        some (.inl (0 : Int32))
def lp_X9_areAlike_20 (G : Gg) (M : Mm) (r0 : Nat) (i1 : Int32) (i2 : Int32) (i3 : Int32) : Nat → Int32 → Option ((Int32) ⊕ (Unit))
  | 0, _ => none
  | n + 1, i4 => bd_X9_areAlike_20 G M r0 i1 i2 i3 (lp_X9_areAlike_20 G M r0 i1 i2 i3 n) i4
def f_X9_areAlike (G : Gg) (M : Mm) (r0 : Nat) (i1 : Int32) (i2 : Int32) (i3 : Int32) : Option (Int32) :=
  ck (isK G r0 9) <|
  Option.bind (M.2.2 r0 14) fun r2 =>
  ck (isK G r2 10) <|
  ck (inb i2 (G.2.2 r2)) <|
  ck (inb i3 (G.2.2 r2)) <|
  if (M.1 r2 (Int32.toNatClampNeg i2)) = (M.1 r2 (Int32.toNatClampNeg i3)) then
    Option.bind (lp_X9_areAlike_20 G M r0 i1 i2 i3 FU (0 : Int32)) fun q15 =>
    onS q15 (fun x17 => some x17) fun y16 =>
    some (1 : Int32)
  else
    some (0 : Int32)
def bd_X9_melt_66 (G : Gg) (M : Mm) (r0 : Nat) (i1 : Int32) (i2 : Int32) (i4 : Int32) (i5 : Int32) (i6 : Int32) (rec : Int32 → Option (Int32)) (i7 : Int32) : Option (Int32) :=
    ck (isK G r0 9) <|
    Option.bind (M.2.2 r0 1) fun r15 =>
    ck (isK G r15 10) <|
    ck (inb i7 (G.2.2 r15)) <|
    ck (inb i6 (G.2.2 r15)) <|
    if (M.1 r15 (Int32.toNatClampNeg i7)) = (M.1 r15 (Int32.toNatClampNeg i6)) then
      some i7
    else
      rec (i7 + 1)
def lp_X9_melt_66 (G : Gg) (M : Mm) (r0 : Nat) (i1 : Int32) (i2 : Int32) (i4 : Int32) (i5 : Int32) (i6 : Int32) : Nat → Int32 → Option (Int32)
  | 0, _ => none
  | n + 1, i7 => bd_X9_melt_66 G M r0 i1 i2 i4 i5 i6 (lp_X9_melt_66 G M r0 i1 i2 i4 i5 i6 n) i7
def jn_X9_melt_99 (G : Gg) (M : Mm) (rec : Int32 → Int32 → Mm → Option (Int32 × Mm)) (r0 : Nat) (i1 : Int32) (i2 : Int32) (i4 : Int32) (i5 : Int32) (i6 : Int32) (i7 : Int32)  : Option (Int32 × Mm) :=
    ck (isK G r0 9) <|
    Option.bind (M.2.2 r0 14) fun r24 =>
    if i7 = i6 then
      ck (isK G r24 10) <|
      ck (inb i6 (G.2.2 r24)) <|
      rec i5 (i6 + 1) (mwI M r24 (Int32.toNatClampNeg i6) (i5 - (1 : Int32)))
    else
      ck (isK G r24 10) <|
      ck (inb i7 (G.2.2 r24)) <|
      ck (inb i6 (G.2.2 r24)) <|
      rec i5 (i6 + 1) (mwI M r24 (Int32.toNatClampNeg i6) (M.1 r24 (Int32.toNatClampNeg i7)))
def bd_X9_melt_56 (G : Gg) (r0 : Nat) (i1 : Int32) (i2 : Int32) (i4 : Int32) (rec : Int32 → Int32 → Mm → Option (Int32 × Mm)) (i5 : Int32) (i6 : Int32) (M : Mm) : Option (Int32 × Mm) :=
    if i4 ≤ i6 then
      some (i5, M)
    else
      Option.bind (lp_X9_melt_66 G M r0 i1 i2 i4 i5 i6 FU (0 : Int32)) fun q21 =>
      if q21 = i6 then
        jn_X9_melt_99 G M rec r0 i1 i2 i4 (i5 + 1) i6 q21
      else
        jn_X9_melt_99 G M rec r0 i1 i2 i4 i5 i6 q21
def lp_X9_melt_56 (G : Gg) (r0 : Nat) (i1 : Int32) (i2 : Int32) (i4 : Int32) : Nat → Int32 → Int32 → Mm → Option (Int32 × Mm)
  | 0, _, _, _ => none
  | n + 1, i5, i6, M => bd_X9_melt_56 G r0 i1 i2 i4 (lp_X9_melt_56 G r0 i1 i2 i4 n) i5 i6 M
def bd_X9_melt_157 (G : Gg) (M : Mm) (r0 : Nat) (i1 : Int32) (i2 : Int32) (i4 : Int32) (i5 : Int32) (i7 : Int32) (i8 : Int32) (rec : Int32 → Option (Int32)) (i9 : Int32) : Option (Int32) :=
    if i8 ≤ i9 then
      some i9
    else
      ck (isK G r0 9) <|
      Option.bind (f_X9_areAlike G M r0 i1 i8 i9) fun q36 =>
      if q36 = 0 then
        rec (i9 + 1)
      else
        some i9
def lp_X9_melt_157 (G : Gg) (M : Mm) (r0 : Nat) (i1 : Int32) (i2 : Int32) (i4 : Int32) (i5 : Int32) (i7 : Int32) (i8 : Int32) : Nat → Int32 → Option (Int32)
  | 0, _ => none
  | n + 1, i9 => bd_X9_melt_157 G M r0 i1 i2 i4 i5 i7 i8 (lp_X9_melt_157 G M r0 i1 i2 i4 i5 i7 i8 n) i9
def jn_X9_melt_192 (G : Gg) (M : Mm) (rec : Int32 → Int32 → Mm → Option (Int32 × Mm)) (r0 : Nat) (i1 : Int32) (i2 : Int32) (i4 : Int32) (i5 : Int32) (i7 : Int32) (i8 : Int32) (i9 : Int32)  : Option (Int32 × Mm) :=
    ck (isK G r0 9) <|
    Option.bind (M.2.2 r0 15) fun r43 =>
    if i9 = i8 then
      ck (isK G r43 10) <|
      ck (inb i8 (G.2.2 r43)) <|
      rec i7 (i8 + 1) (mwI M r43 (Int32.toNatClampNeg i8) (i7 - (1 : Int32)))
    else
      ck (isK G r43 10) <|
      ck (inb i9 (G.2.2 r43)) <|
      ck (inb i8 (G.2.2 r43)) <|
      rec i7 (i8 + 1) (mwI M r43 (Int32.toNatClampNeg i8) (M.1 r43 (Int32.toNatClampNeg i9)))
def jn_X9_melt_182 (G : Gg) (M : Mm) (rec : Int32 → Int32 → Mm → Option (Int32 × Mm)) (r0 : Nat) (i1 : Int32) (i2 : Int32) (i4 : Int32) (i5 : Int32) (i7 : Int32) (i8 : Int32) (i9 : Int32)  : Option (Int32 × Mm) :=
    if i9 = i8 then
      jn_X9_melt_192 G M rec r0 i1 i2 i4 i5 (i7 + 1) i8 i9
    else
      jn_X9_melt_192 G M rec r0 i1 i2 i4 i5 i7 i8 i9
def bd_X9_melt_147 (G : Gg) (r0 : Nat) (i1 : Int32) (i2 : Int32) (i4 : Int32) (i5 : Int32) (rec : Int32 → Int32 → Mm → Option (Int32 × Mm)) (i7 : Int32) (i8 : Int32) (M : Mm) : Option (Int32 × Mm) :=
    if i4 ≤ i8 then
      some (i7, M)
    else
      Option.bind (lp_X9_melt_157 G M r0 i1 i2 i4 i5 i7 i8 FU (0 : Int32)) fun q40 =>
      jn_X9_melt_182 G M rec r0 i1 i2 i4 i5 i7 i8 q40
def lp_X9_melt_147 (G : Gg) (r0 : Nat) (i1 : Int32) (i2 : Int32) (i4 : Int32) (i5 : Int32) : Nat → Int32 → Int32 → Mm → Option (Int32 × Mm)
  | 0, _, _, _ => none
  | n + 1, i7, i8, M => bd_X9_melt_147 G r0 i1 i2 i4 i5 (lp_X9_melt_147 G r0 i1 i2 i4 i5 n) i7 i8 M
def bd_X9_melt_247 (G : Gg) (r0 : Nat) (i1 : Int32) (i2 : Int32) (i4 : Int32) (i5 : Int32) (i6 : Int32) (rec : Int32 → Mm → Option (Mm)) (i8 : Int32) (M : Mm) : Option (Mm) :=
    if i4 ≤ i8 then
      some M
    else
      ck (isK G r0 9) <|
      Option.bind (M.2.2 r0 14) fun r55 =>
      Option.bind (M.2.2 r0 15) fun r57 =>
      ck (isK G r57 10) <|
      ck (inb i8 (G.2.2 r57)) <|
      ck (isK G r55 10) <|
      ck (inb i8 (G.2.2 r55)) <|
      rec (i8 + 1) (mwI M r55 (Int32.toNatClampNeg i8) (M.1 r57 (Int32.toNatClampNeg i8)))
def lp_X9_melt_247 (G : Gg) (r0 : Nat) (i1 : Int32) (i2 : Int32) (i4 : Int32) (i5 : Int32) (i6 : Int32) : Nat → Int32 → Mm → Option (Mm)
  | 0, _, _ => none
  | n + 1, i8, M => bd_X9_melt_247 G r0 i1 i2 i4 i5 i6 (lp_X9_melt_247 G r0 i1 i2 i4 i5 i6 n) i8 M
def bd_X9_melt_136 (G : Gg) (r0 : Nat) (i1 : Int32) (i2 : Int32) (i4 : Int32) (rec : Int32 → Int32 → Mm → Option (Int32 × Mm)) (i5 : Int32) (i6 : Int32) (M : Mm) : Option (Int32 × Mm) :=
    if i6 = 0 then
      some (i5, M)
    else
      Option.bind (lp_X9_melt_147 G r0 i1 i2 i4 i5 FU (0 : Int32) (0 : Int32) M) fun q51 =>
      if q51.1 ≤ i5 then
        Option.bind (lp_X9_melt_247 G r0 i1 i2 i4 q51.1 (0 : Int32) FU (0 : Int32) q51.2) fun q63 =>
        rec q51.1 (0 : Int32) q63
      else
        Option.bind (lp_X9_melt_247 G r0 i1 i2 i4 q51.1 (1 : Int32) FU (0 : Int32) q51.2) fun q64 =>
        rec q51.1 (1 : Int32) q64
def lp_X9_melt_136 (G : Gg) (r0 : Nat) (i1 : Int32) (i2 : Int32) (i4 : Int32) : Nat → Int32 → Int32 → Mm → Option (Int32 × Mm)
  | 0, _, _, _ => none
  | n + 1, i5, i6, M => bd_X9_melt_136 G r0 i1 i2 i4 (lp_X9_melt_136 G r0 i1 i2 i4 n) i5 i6 M
def bd_X9_melt_291 (G : Gg) (r0 : Nat) (i1 : Int32) (i2 : Int32) (i4 : Int32) (i5 : Int32) (i7 : Int32) (rec : Int32 → Mm → Option (Mm)) (i8 : Int32) (M : Mm) : Option (Mm) :=
    if i5 ≤ i8 then
      some M
    else
      ck (isK G r0 9) <|
      Option.bind (M.2.2 r0 14) fun r69 =>
      ck (isK G r69 10) <|
      ck (inb i7 (G.2.2 r69)) <|
      Option.bind (f_X9_goesTo G M r0 i1 i7 i8) fun q73 =>
      Option.bind (f_X9_make G M r0 (M.1 r69 (Int32.toNatClampNeg i7)) i8 q73) fun q75 =>
      rec (i8 + 1) q75
def lp_X9_melt_291 (G : Gg) (r0 : Nat) (i1 : Int32) (i2 : Int32) (i4 : Int32) (i5 : Int32) (i7 : Int32) : Nat → Int32 → Mm → Option (Mm)
  | 0, _, _ => none
  | n + 1, i8, M => bd_X9_melt_291 G r0 i1 i2 i4 i5 i7 (lp_X9_melt_291 G r0 i1 i2 i4 i5 i7 n) i8 M
def bd_X9_melt_283 (G : Gg) (r0 : Nat) (i1 : Int32) (i2 : Int32) (i4 : Int32) (i5 : Int32) (rec : Int32 → Mm → Option (Mm)) (i7 : Int32) (M : Mm) : Option (Mm) :=
    if i7 < 0 then
      some M
    else
      Option.bind (lp_X9_melt_291 G r0 i1 i2 i4 i5 i7 FU (0 : Int32) M) fun q77 =>
      rec (i7 + (-1)) q77
def lp_X9_melt_283 (G : Gg) (r0 : Nat) (i1 : Int32) (i2 : Int32) (i4 : Int32) (i5 : Int32) : Nat → Int32 → Mm → Option (Mm)
  | 0, _, _ => none
  | n + 1, i7, M => bd_X9_melt_283 G r0 i1 i2 i4 i5 (lp_X9_melt_283 G r0 i1 i2 i4 i5 n) i7 M
def bd_X9_melt_335 (G : Gg) (r0 : Nat) (i1 : Int32) (i2 : Int32) (i4 : Int32) (i5 : Int32) (rec : Int32 → Mm → Option (Mm)) (i7 : Int32) (M : Mm) : Option (Mm) :=
    if i4 ≤ i7 then
      some M
    else
      ck (isK G r0 9) <|
      Option.bind (M.2.2 r0 16) fun r81 =>
      Option.bind (M.2.2 r0 14) fun r83 =>
      ck (isK G r83 10) <|
      ck (inb i7 (G.2.2 r83)) <|
      ck (isK G r81 10) <|
      ck (inb i7 (G.2.2 r81)) <|
      rec (i7 + 1) (mwI M r81 (Int32.toNatClampNeg i7) (M.1 r83 (Int32.toNatClampNeg i7)))
def lp_X9_melt_335 (G : Gg) (r0 : Nat) (i1 : Int32) (i2 : Int32) (i4 : Int32) (i5 : Int32) : Nat → Int32 → Mm → Option (Mm)
  | 0, _, _ => none
  | n + 1, i7, M => bd_X9_melt_335 G r0 i1 i2 i4 i5 (lp_X9_melt_335 G r0 i1 i2 i4 i5 n) i7 M
def f_X9_melt (G : Gg) (M : Mm) (r0 : Nat) (i1 : Int32) (i2 : Int32) : Option (Int32 × Mm) :=
  ck (isK G r0 9) <|
  Option.bind (f_X9_has G (mwI (mwI M r0 0 (0 : Int32)) r0 2 (0 : Int32)) r0 i1) fun q2 =>
  if q2 = 0 then
    some ((-1), (mwI (mwI M r0 0 (0 : Int32)) r0 2 (0 : Int32)))
  else
    Option.bind (f_X9_isSlot i2) fun q5 =>
    if q5 = 0 then
      some ((-1), (mwI (mwI M r0 0 (0 : Int32)) r0 2 (0 : Int32)))
    else
      Option.bind ((mwI (mwI M r0 0 (0 : Int32)) r0 2 (0 : Int32)).2.2 r0 3) fun r8 =>
      ck (isK G r8 10) <|
      ck (inb i1 (G.2.2 r8)) <|
      if ((mwI M r0 0 (0 : Int32)).1 r0 2) = ((mwI (mwI M r0 0 (0 : Int32)) r0 2 (0 : Int32)).1 r8 (Int32.toNatClampNeg i1)) then
        Option.bind (lp_X9_melt_56 G r0 i1 i2 ((mwI (mwI M r0 0 (0 : Int32)) r0 2 (0 : Int32)).1 r8 (Int32.toNatClampNeg i1)) FU (0 : Int32) (0 : Int32) (mwI (mwI M r0 0 (0 : Int32)) r0 2 (0 : Int32))) fun q32 =>
        Option.bind (lp_X9_melt_136 G r0 i1 i2 ((mwI (mwI M r0 0 (0 : Int32)) r0 2 (0 : Int32)).1 r8 (Int32.toNatClampNeg i1)) FU q32.1 (1 : Int32) q32.2) fun q65 =>
        Option.bind (lp_X9_melt_283 G r0 i1 i2 ((mwI (mwI M r0 0 (0 : Int32)) r0 2 (0 : Int32)).1 r8 (Int32.toNatClampNeg i1)) q65.1 FU (((mwI (mwI M r0 0 (0 : Int32)) r0 2 (0 : Int32)).1 r8 (Int32.toNatClampNeg i1)) - (1 : Int32)) q65.2) fun q78 =>
        Option.bind (lp_X9_melt_335 G r0 i1 i2 ((mwI (mwI M r0 0 (0 : Int32)) r0 2 (0 : Int32)).1 r8 (Int32.toNatClampNeg i1)) q65.1 FU (0 : Int32) q78) fun q89 =>
        Option.bind ((mwI q89 r0 17 ((mwI (mwI M r0 0 (0 : Int32)) r0 2 (0 : Int32)).1 r8 (Int32.toNatClampNeg i1))).2.2 r0 4) fun r90 =>
        ck (isK G r90 10) <|
        ck (inb i1 (G.2.2 r90)) <|
        Option.bind (f_X9_puts G (mwI q89 r0 17 ((mwI (mwI M r0 0 (0 : Int32)) r0 2 (0 : Int32)).1 r8 (Int32.toNatClampNeg i1))) r0 i2 q65.1 ((mwI q89 r0 17 ((mwI (mwI M r0 0 (0 : Int32)) r0 2 (0 : Int32)).1 r8 (Int32.toNatClampNeg i1))).1 r90 (Int32.toNatClampNeg i1))) fun q94 =>
        some (q65.1, q94.2)
      else
        some ((-1), (mwI (mwI M r0 0 (0 : Int32)) r0 2 (0 : Int32)))
def f_X9_octet (G : Gg) (M : Mm) (r0 : Nat) (i1 : Int32) : Option (Int32 × Mm) :=
  if i1 < 0 then
    ck (isK G r0 9) <|
    Option.bind (f_X9_refuse G M r0) fun q2 =>
    some (q2.1, q2.2)
  else
    ck (isK G r0 9) <|
    if i1 < (M.1 r0 17) then
      Option.bind ((mwI M r0 0 (0 : Int32)).2.2 r0 16) fun r7 =>
      ck (isK G r7 10) <|
      ck (inb i1 (G.2.2 r7)) <|
      some (((mwI M r0 0 (0 : Int32)).1 r7 (Int32.toNatClampNeg i1)), (mwI M r0 0 (0 : Int32)))
    else
      Option.bind (f_X9_refuse G M r0) fun q11 =>
      some (q11.1, q11.2)
def bd_X9_times_5 (G : Gg) (M : Mm) (r0 : Nat) (i1 : Int32) (rec : Int64 → Int32 → Option (Int32)) (l2 : Int64) (i4 : Int32) : Option (Int32) :=
    if (20 : Int32) ≤ i4 then
      some i4
    else
      ck (isK G r0 9) <|
      Option.bind (M.2.2 r0 4) fun r3 =>
      ck (isK G r3 10) <|
      ck (inb i1 (G.2.2 r3)) <|
      ck (¬ (Int32.toInt64 (M.1 r3 (Int32.toNatClampNeg i1))) = 0) <|
      if 0 < (lg_cmp l2 ((1000000000000000 : Int64) / (Int32.toInt64 (M.1 r3 (Int32.toNatClampNeg i1))))) then
        some i4
      else
        rec (l2 * (Int32.toInt64 (M.1 r3 (Int32.toNatClampNeg i1)))) (i4 + 1)
def lp_X9_times_5 (G : Gg) (M : Mm) (r0 : Nat) (i1 : Int32) : Nat → Int64 → Int32 → Option (Int32)
  | 0, _, _ => none
  | n + 1, l2, i4 => bd_X9_times_5 G M r0 i1 (lp_X9_times_5 G M r0 i1 n) l2 i4
def f_X9_times (G : Gg) (M : Mm) (r0 : Nat) (i1 : Int32) : Option (Int32) :=
  Option.bind (lp_X9_times_5 G M r0 i1 FU (1 : Int64) (0 : Int32)) fun q9 =>
  some q9
def bd_X9_about_120 (G : Gg) (M : Mm) (r0 : Nat) (i3 : Int32) (rec : Int32 → Int32 → Option (Int32)) (i4 : Int32) (i5 : Int32) : Option (Int32) :=
    ck (isK G r0 9) <|
    if (M.1 r0 8) ≤ i5 then
      some i4
    else
      Option.bind (f_X9_isClosed G M r0 i3 i5) fun q27 =>
      if q27 = 0 then
        rec i4 (i5 + 1)
      else
        rec (i4 + 1) (i5 + 1)
def lp_X9_about_120 (G : Gg) (M : Mm) (r0 : Nat) (i3 : Int32) : Nat → Int32 → Int32 → Option (Int32)
  | 0, _, _ => none
  | n + 1, i4, i5 => bd_X9_about_120 G M r0 i3 (lp_X9_about_120 G M r0 i3 n) i4 i5
def f_X9_about (G : Gg) (M : Mm) (r0 : Nat) (i1 : Int32) (i2 : Int32) : Option (Int32 × Mm) :=
  ck (isK G r0 9) <|
  Option.bind (f_X9_has G (mwI M r0 0 (0 : Int32)) r0 i1) fun q2 =>
  if q2 = 0 then
    some ((-1), (mwI M r0 0 (0 : Int32)))
  else
    if i2 < 0 then
      some ((-1), (mwI M r0 0 (0 : Int32)))
    else
      if i2 ≤ (6 : Int32) then
        Option.bind ((mwI M r0 0 (0 : Int32)).2.2 r0 3) fun r7 =>
        ck (isK G r7 10) <|
        ck (inb i1 (G.2.2 r7)) <|
        if i2 = 0 then
          some (((mwI M r0 0 (0 : Int32)).1 r7 (Int32.toNatClampNeg i1)), (mwI M r0 0 (0 : Int32)))
        else
          if i2 = (1 : Int32) then
            Option.bind ((mwI M r0 0 (0 : Int32)).2.2 r0 4) fun r37 =>
            ck (isK G r37 10) <|
            ck (inb i1 (G.2.2 r37)) <|
            some (((mwI M r0 0 (0 : Int32)).1 r37 (Int32.toNatClampNeg i1)), (mwI M r0 0 (0 : Int32)))
          else
            if i2 = (4 : Int32) then
              Option.bind (f_X9_times G (mwI M r0 0 (0 : Int32)) r0 i1) fun q35 =>
              some (q35, (mwI M r0 0 (0 : Int32)))
            else
              Option.bind (f_X9_reach G (mwI M r0 0 (0 : Int32)) r0 i1) fun q14 =>
              if i2 = (2 : Int32) then
                some ((q14.1 r0 8), q14)
              else
                if i2 = (5 : Int32) then
                  if (q14.1 r0 8) ≤ (1 : Int32) then
                    Option.bind (f_X9_beat G q14 r0 i1 (0 : Int32)) fun q32 =>
                    if q32 = (1 : Int32) then
                      some ((2 : Int32), q14)
                    else
                      some ((1 : Int32), q14)
                  else
                    some ((0 : Int32), q14)
                else
                  if i2 = (3 : Int32) then
                    Option.bind (lp_X9_about_120 G q14 r0 ((mwI M r0 0 (0 : Int32)).1 r7 (Int32.toNatClampNeg i1)) FU (0 : Int32) (0 : Int32)) fun q30 =>
                    some (q30, q14)
                  else
                    if (q14.1 r0 8) ≤ (1 : Int32) then
                      Option.bind (f_X9_weigh G q14 r0 i1 (0 : Int32)) fun q20 =>
                      Option.bind (f_X9_isBothWays G q20 r0 i1) fun q22 =>
                      if q22 = 0 then
                        some ((0 : Int32), q20)
                      else
                        some ((1 : Int32), q20)
                    else
                      some ((0 : Int32), q14)
      else
        some ((-1), (mwI M r0 0 (0 : Int32)))
def f_X9_isState (G : Gg) (M : Mm) (r0 : Nat) (i1 : Int32) (i2 : Int32) : Option (Int32) :=
  ck (isK G r0 9) <|
  Option.bind (f_X9_has G M r0 i1) fun q1 =>
  if q1 = 0 then
    some (0 : Int32)
  else
    if i2 < 0 then
      some (0 : Int32)
    else
      Option.bind (M.2.2 r0 3) fun r6 =>
      ck (isK G r6 10) <|
      ck (inb i1 (G.2.2 r6)) <|
      if (M.1 r6 (Int32.toNatClampNeg i1)) ≤ i2 then
        some (0 : Int32)
      else
        some (1 : Int32)
def f_X9_state (G : Gg) (M : Mm) (r0 : Nat) (i1 : Int32) (i2 : Int32) (i3 : Int32) : Option (Int32 × Mm) :=
  ck (isK G r0 9) <|
  Option.bind (f_X9_isState G (mwI M r0 0 (0 : Int32)) r0 i1 i2) fun q2 =>
  if q2 = 0 then
    some ((-1), (mwI M r0 0 (0 : Int32)))
  else
    if i3 < 0 then
      some ((-1), (mwI M r0 0 (0 : Int32)))
    else
      if i3 ≤ (2 : Int32) then
        if i3 = (2 : Int32) then
          Option.bind (f_X9_beat G (mwI M r0 0 (0 : Int32)) r0 i1 i2) fun q26 =>
          some (q26, (mwI M r0 0 (0 : Int32)))
        else
          Option.bind (f_X9_reach G (mwI M r0 0 (0 : Int32)) r0 i1) fun q8 =>
          if i3 = 0 then
            Option.bind (q8.2.2 r0 7) fun r22 =>
            ck (isK G r22 10) <|
            ck (inb i2 (G.2.2 r22)) <|
            some ((q8.1 r22 (Int32.toNatClampNeg i2)), q8)
          else
            Option.bind (q8.2.2 r0 3) fun r11 =>
            ck (isK G r11 10) <|
            ck (inb i1 (G.2.2 r11)) <|
            Option.bind (q8.2.2 r0 7) fun r15 =>
            ck (isK G r15 10) <|
            ck (inb i2 (G.2.2 r15)) <|
            Option.bind (f_X9_isClosed G q8 r0 (q8.1 r11 (Int32.toNatClampNeg i1)) (q8.1 r15 (Int32.toNatClampNeg i2))) fun q19 =>
            if q19 = 0 then
              some ((0 : Int32), q8)
            else
              some ((1 : Int32), q8)
      else
        some ((-1), (mwI M r0 0 (0 : Int32)))
def bd_X9_step_29 (G : Gg) (M : Mm) (r0 : Nat) (i1 : Int32) (i2 : Int32) (i3 : Int32) (i4 : Int32) (rec : Int64 → Int32 → Option (Int64)) (l5 : Int64) (i7 : Int32) : Option (Int64) :=
    if i2 ≤ i7 then
      some l5
    else
      ck (isK G r0 9) <|
      Option.bind (M.2.2 r0 18) fun r10 =>
      ck (isK G r10 11) <|
      ck (inb (((8 : Int32) * i3) + i7) (G.2.2 r10)) <|
      Option.bind (f_X9_at G M r0 i1 i7 i4) fun q14 =>
      rec (l5 + ((M.2.1 r10 (Int32.toNatClampNeg (((8 : Int32) * i3) + i7))) * (Int32.toInt64 q14))) (i7 + 1)
def lp_X9_step_29 (G : Gg) (M : Mm) (r0 : Nat) (i1 : Int32) (i2 : Int32) (i3 : Int32) (i4 : Int32) : Nat → Int64 → Int32 → Option (Int64)
  | 0, _, _ => none
  | n + 1, l5, i7 => bd_X9_step_29 G M r0 i1 i2 i3 i4 (lp_X9_step_29 G M r0 i1 i2 i3 i4 n) l5 i7
def bd_X9_step_17 (G : Gg) (r0 : Nat) (i1 : Int32) (i2 : Int32) (i3 : Int32) (rec : Int32 → Mm → Option (Mm)) (i4 : Int32) (M : Mm) : Option (Mm) :=
    if i2 ≤ i4 then
      some M
    else
      Option.bind (lp_X9_step_29 G M r0 i1 i2 i3 i4 FU (0 : Int64) (0 : Int32)) fun q16 =>
      ck (isK G r0 9) <|
      Option.bind (M.2.2 r0 19) fun r18 =>
      ck (isK G r18 11) <|
      ck (inb (((8 : Int32) * i3) + i4) (G.2.2 r18)) <|
      rec (i4 + 1) (mwJ M r18 (Int32.toNatClampNeg (((8 : Int32) * i3) + i4)) q16)
def lp_X9_step_17 (G : Gg) (r0 : Nat) (i1 : Int32) (i2 : Int32) (i3 : Int32) : Nat → Int32 → Mm → Option (Mm)
  | 0, _, _ => none
  | n + 1, i4, M => bd_X9_step_17 G r0 i1 i2 i3 (lp_X9_step_17 G r0 i1 i2 i3 n) i4 M
def bd_X9_step_9 (G : Gg) (r0 : Nat) (i1 : Int32) (i2 : Int32) (rec : Int32 → Mm → Option (Mm)) (i3 : Int32) (M : Mm) : Option (Mm) :=
    if i2 ≤ i3 then
      some M
    else
      Option.bind (lp_X9_step_17 G r0 i1 i2 i3 FU (0 : Int32) M) fun q22 =>
      rec (i3 + 1) q22
def lp_X9_step_9 (G : Gg) (r0 : Nat) (i1 : Int32) (i2 : Int32) : Nat → Int32 → Mm → Option (Mm)
  | 0, _, _ => none
  | n + 1, i3, M => bd_X9_step_9 G r0 i1 i2 (lp_X9_step_9 G r0 i1 i2 n) i3 M
def bd_X9_step_97 (G : Gg) (r0 : Nat) (i1 : Int32) (rec : Int32 → Mm → Option (Mm)) (i3 : Int32) (M : Mm) : Option (Mm) :=
    if (64 : Int32) ≤ i3 then
      some M
    else
      ck (isK G r0 9) <|
      Option.bind (M.2.2 r0 18) fun r26 =>
      Option.bind (M.2.2 r0 19) fun r28 =>
      ck (isK G r28 11) <|
      ck (inb i3 (G.2.2 r28)) <|
      ck (isK G r26 11) <|
      ck (inb i3 (G.2.2 r26)) <|
      rec (i3 + 1) (mwJ M r26 (Int32.toNatClampNeg i3) (M.2.1 r28 (Int32.toNatClampNeg i3)))
def lp_X9_step_97 (G : Gg) (r0 : Nat) (i1 : Int32) : Nat → Int32 → Mm → Option (Mm)
  | 0, _, _ => none
  | n + 1, i3, M => bd_X9_step_97 G r0 i1 (lp_X9_step_97 G r0 i1 n) i3 M
def f_X9_step (G : Gg) (M : Mm) (r0 : Nat) (i1 : Int32) : Option (Mm) :=
  ck (isK G r0 9) <|
  Option.bind (M.2.2 r0 3) fun r2 =>
  ck (isK G r2 10) <|
  ck (inb i1 (G.2.2 r2)) <|
  Option.bind (lp_X9_step_9 G r0 i1 (M.1 r2 (Int32.toNatClampNeg i1)) FU (0 : Int32) M) fun q23 =>
  Option.bind (lp_X9_step_97 G r0 i1 FU (0 : Int32) q23) fun q34 =>
  Option.bind (q34.2.2 r0 4) fun r35 =>
  ck (isK G r35 10) <|
  ck (inb i1 (G.2.2 r35)) <|
  some (mwJ q34 r0 20 ((q34.2.1 r0 20) * (Int32.toInt64 (q34.1 r35 (Int32.toNatClampNeg i1)))))
def bd_X9_begin_10 (G : Gg) (r0 : Nat) (i1 : Int32) (rec : Int32 → Mm → Option (Mm)) (i2 : Int32) (M : Mm) : Option (Mm) :=
    if (8 : Int32) ≤ i2 then
      some M
    else
      ck (isK G r0 9) <|
      Option.bind (M.2.2 r0 18) fun r4 =>
      if i1 = i2 then
        ck (isK G r4 11) <|
        ck (inb (((8 : Int32) * i1) + i2) (G.2.2 r4)) <|
        rec (i2 + 1) (mwJ M r4 (Int32.toNatClampNeg (((8 : Int32) * i1) + i2)) (1 : Int64))
      else
        ck (isK G r4 11) <|
        ck (inb (((8 : Int32) * i1) + i2) (G.2.2 r4)) <|
        rec (i2 + 1) (mwJ M r4 (Int32.toNatClampNeg (((8 : Int32) * i1) + i2)) (0 : Int64))
def lp_X9_begin_10 (G : Gg) (r0 : Nat) (i1 : Int32) : Nat → Int32 → Mm → Option (Mm)
  | 0, _, _ => none
  | n + 1, i2, M => bd_X9_begin_10 G r0 i1 (lp_X9_begin_10 G r0 i1 n) i2 M
def bd_X9_begin_2 (G : Gg) (r0 : Nat) (rec : Int32 → Mm → Option (Mm)) (i1 : Int32) (M : Mm) : Option (Mm) :=
    if (8 : Int32) ≤ i1 then
      some M
    else
      Option.bind (lp_X9_begin_10 G r0 i1 FU (0 : Int32) M) fun q11 =>
      rec (i1 + 1) q11
def lp_X9_begin_2 (G : Gg) (r0 : Nat) : Nat → Int32 → Mm → Option (Mm)
  | 0, _, _ => none
  | n + 1, i1, M => bd_X9_begin_2 G r0 (lp_X9_begin_2 G r0 n) i1 M
def f_X9_begin (G : Gg) (M : Mm) (r0 : Nat) : Option (Mm) :=
  Option.bind (lp_X9_begin_2 G r0 FU (0 : Int32) M) fun q12 =>
  ck (isK G r0 9) <|
  some (mwJ q12 r0 20 (1 : Int64))
def bd_X9_go_6 (G : Gg) (r0 : Nat) (i1 : Int32) (i2 : Int32) (rec : Int32 → Mm → Option (Mm)) (i3 : Int32) (M : Mm) : Option (Mm) :=
    if i2 ≤ i3 then
      some M
    else
      ck (isK G r0 9) <|
      Option.bind (f_X9_step G M r0 i1) fun q5 =>
      rec (i3 + 1) q5
def lp_X9_go_6 (G : Gg) (r0 : Nat) (i1 : Int32) (i2 : Int32) : Nat → Int32 → Mm → Option (Mm)
  | 0, _, _ => none
  | n + 1, i3, M => bd_X9_go_6 G r0 i1 i2 (lp_X9_go_6 G r0 i1 i2 n) i3 M
def f_X9_go (G : Gg) (M : Mm) (r0 : Nat) (i1 : Int32) (i2 : Int32) : Option (Mm) :=
  ck (isK G r0 9) <|
  Option.bind (f_X9_begin G M r0) fun q1 =>
  Option.bind (lp_X9_go_6 G r0 i1 i2 FU (0 : Int32) q1) fun q8 =>
  some q8
def f_X9_told (G : Gg) (M : Mm) (r0 : Nat) (l1 : Int64) (l3 : Int64) (i5 : Int32) : Option (Int64 × Mm) :=
  ck (isK G r0 9) <|
  if i5 = 0 then
    Option.bind (f_X9_common l1 l3) fun q6 =>
    ck (¬ q6 = 0) <|
    some ((l1 / q6), (mwI M r0 0 (0 : Int32)))
  else
    Option.bind (f_X9_common l1 l3) fun q3 =>
    ck (¬ q3 = 0) <|
    some ((l3 / q3), (mwI M r0 0 (0 : Int32)))
def f_X9_isWhat (i0 : Int32) : Option (Int32) :=
  if i0 = 0 then
    some (1 : Int32)
  else
    if i0 = (1 : Int32) then
      some (1 : Int32)
    else
      some (0 : Int32)
def f_X9_chance (G : Gg) (M : Mm) (r0 : Nat) (i1 : Int32) (i2 : Int32) (i3 : Int32) (i4 : Int32) (i5 : Int32) : Option (Int64 × Mm) :=
  ck (isK G r0 9) <|
  Option.bind (f_X9_isState G M r0 i1 i2) fun q1 =>
  if q1 = 0 then
    Option.bind (f_X9_refuse G M r0) fun q5 =>
    some ((Int32.toInt64 q5.1), q5.2)
  else
    Option.bind (f_X9_isState G M r0 i1 i3) fun q7 =>
    if q7 = 0 then
      Option.bind (f_X9_refuse G M r0) fun q10 =>
      some ((Int32.toInt64 q10.1), q10.2)
    else
      if i4 < 0 then
        Option.bind (f_X9_refuse G M r0) fun q13 =>
        some ((Int32.toInt64 q13.1), q13.2)
      else
        Option.bind (f_X9_times G M r0 i1) fun q15 =>
        if q15 < i4 then
          Option.bind (f_X9_refuse G M r0) fun q18 =>
          some ((Int32.toInt64 q18.1), q18.2)
        else
          Option.bind (f_X9_isWhat i5) fun q20 =>
          if q20 = 0 then
            Option.bind (f_X9_refuse G M r0) fun q31 =>
            some ((Int32.toInt64 q31.1), q31.2)
          else
            Option.bind (f_X9_go G M r0 i1 i4) fun q23 =>
            Option.bind (q23.2.2 r0 18) fun r25 =>
            ck (isK G r25 11) <|
            ck (inb (((8 : Int32) * i2) + i3) (G.2.2 r25)) <|
            Option.bind (f_X9_told G q23 r0 (q23.2.1 r25 (Int32.toNatClampNeg (((8 : Int32) * i2) + i3))) (q23.2.1 r0 20) i5) fun q29 =>
            some (q29.1, q29.2)
def bd_X9_between_6 (G : Gg) (M : Mm) (r0 : Nat) (i1 : Int32) (i2 : Int32) (i3 : Int32) (rec : Int64 → Int32 → Option (Int64)) (l4 : Int64) (i6 : Int32) : Option (Int64) :=
    ck (isK G r0 9) <|
    Option.bind (M.2.2 r0 3) fun r2 =>
    ck (isK G r2 10) <|
    ck (inb i1 (G.2.2 r2)) <|
    if (M.1 r2 (Int32.toNatClampNeg i1)) ≤ i6 then
      some l4
    else
      Option.bind (M.2.2 r0 18) fun r7 =>
      ck (isK G r7 11) <|
      ck (inb (((8 : Int32) * i2) + i6) (G.2.2 r7)) <|
      ck (inb (((8 : Int32) * i3) + i6) (G.2.2 r7)) <|
      if 0 ≤ (lg_cmp ((M.2.1 r7 (Int32.toNatClampNeg (((8 : Int32) * i2) + i6))) - (M.2.1 r7 (Int32.toNatClampNeg (((8 : Int32) * i3) + i6)))) (0 : Int64)) then
        rec (l4 + ((M.2.1 r7 (Int32.toNatClampNeg (((8 : Int32) * i2) + i6))) - (M.2.1 r7 (Int32.toNatClampNeg (((8 : Int32) * i3) + i6))))) (i6 + 1)
      else
        rec (l4 + (-((M.2.1 r7 (Int32.toNatClampNeg (((8 : Int32) * i2) + i6))) - (M.2.1 r7 (Int32.toNatClampNeg (((8 : Int32) * i3) + i6)))))) (i6 + 1)
def lp_X9_between_6 (G : Gg) (M : Mm) (r0 : Nat) (i1 : Int32) (i2 : Int32) (i3 : Int32) : Nat → Int64 → Int32 → Option (Int64)
  | 0, _, _ => none
  | n + 1, l4, i6 => bd_X9_between_6 G M r0 i1 i2 i3 (lp_X9_between_6 G M r0 i1 i2 i3 n) l4 i6
def f_X9_between (G : Gg) (M : Mm) (r0 : Nat) (i1 : Int32) (i2 : Int32) (i3 : Int32) : Option (Int64) :=
  Option.bind (lp_X9_between_6 G M r0 i1 i2 i3 FU (0 : Int64) (0 : Int32)) fun q13 =>
  some q13
def bd_X9_widest_19 (G : Gg) (M : Mm) (r0 : Nat) (i1 : Int32) (i4 : Int32) (rec : Int64 → Int32 → Option (Int64)) (l2 : Int64) (i5 : Int32) : Option (Int64) :=
    if i4 ≤ i5 then
      some l2
    else
      ck (isK G r0 9) <|
      Option.bind (f_X9_between G M r0 i1 i4 i5) fun q8 =>
      if (lg_cmp q8 l2) ≤ 0 then
        rec l2 (i5 + 1)
      else
        rec q8 (i5 + 1)
def lp_X9_widest_19 (G : Gg) (M : Mm) (r0 : Nat) (i1 : Int32) (i4 : Int32) : Nat → Int64 → Int32 → Option (Int64)
  | 0, _, _ => none
  | n + 1, l2, i5 => bd_X9_widest_19 G M r0 i1 i4 (lp_X9_widest_19 G M r0 i1 i4 n) l2 i5
def bd_X9_widest_5 (G : Gg) (M : Mm) (r0 : Nat) (i1 : Int32) (rec : Int64 → Int32 → Option (Int64)) (l2 : Int64) (i4 : Int32) : Option (Int64) :=
    ck (isK G r0 9) <|
    Option.bind (M.2.2 r0 3) fun r2 =>
    ck (isK G r2 10) <|
    ck (inb i1 (G.2.2 r2)) <|
    if (M.1 r2 (Int32.toNatClampNeg i1)) ≤ i4 then
      some l2
    else
      Option.bind (lp_X9_widest_19 G M r0 i1 i4 FU l2 (0 : Int32)) fun q12 =>
      rec q12 (i4 + 1)
def lp_X9_widest_5 (G : Gg) (M : Mm) (r0 : Nat) (i1 : Int32) : Nat → Int64 → Int32 → Option (Int64)
  | 0, _, _ => none
  | n + 1, l2, i4 => bd_X9_widest_5 G M r0 i1 (lp_X9_widest_5 G M r0 i1 n) l2 i4
def f_X9_widest (G : Gg) (M : Mm) (r0 : Nat) (i1 : Int32) : Option (Int64) :=
  Option.bind (lp_X9_widest_5 G M r0 i1 FU (0 : Int64) (0 : Int32)) fun q13 =>
  some q13
def jn_X9_apart_48 (G : Gg) (M : Mm) (r0 : Nat) (i1 : Int32) (i2 : Int32) (i3 : Int32) (i4 : Int32) (i5 : Int32) (i6 : Int32)  : Option (Int64 × Mm) :=
    if i4 < 0 then
      ck (isK G r0 9) <|
      Option.bind (f_X9_refuse G M r0) fun q10 =>
      some ((Int32.toInt64 q10.1), q10.2)
    else
      ck (isK G r0 9) <|
      Option.bind (f_X9_times G M r0 i1) fun q13 =>
      if q13 < i4 then
        Option.bind (f_X9_refuse G M r0) fun q17 =>
        some ((Int32.toInt64 q17.1), q17.2)
      else
        Option.bind (f_X9_isWhat i5) fun q19 =>
        if q19 = 0 then
          Option.bind (f_X9_refuse G M r0) fun q33 =>
          some ((Int32.toInt64 q33.1), q33.2)
        else
          Option.bind (f_X9_go G M r0 i1 i4) fun q22 =>
          if i6 = 0 then
            Option.bind (f_X9_between G q22 r0 i1 i2 i3) fun q25 =>
            Option.bind (f_X9_told G q22 r0 q25 ((2 : Int64) * (q22.2.1 r0 20)) i5) fun q27 =>
            some (q27.1, q27.2)
          else
            Option.bind (f_X9_widest G q22 r0 i1) fun q29 =>
            Option.bind (f_X9_told G q22 r0 q29 ((2 : Int64) * (q22.2.1 r0 20)) i5) fun q31 =>
            some (q31.1, q31.2)
def jn_X9_apart_15 (G : Gg) (M : Mm) (r0 : Nat) (i1 : Int32) (i2 : Int32) (i3 : Int32) (i4 : Int32) (i5 : Int32) (k0 : Int32) : Option (Int64 × Mm) :=
    ck (isK G r0 9) <|
    Option.bind (f_X9_has G M r0 i1) fun q2 =>
    if q2 = 0 then
      Option.bind (f_X9_refuse G M r0) fun q6 =>
      some ((Int32.toInt64 q6.1), q6.2)
    else
      if k0 = 0 then
        Option.bind (f_X9_isState G M r0 i1 i2) fun q35 =>
        if q35 = 0 then
          Option.bind (f_X9_refuse G M r0) fun q38 =>
          some ((Int32.toInt64 q38.1), q38.2)
        else
          Option.bind (f_X9_isState G M r0 i1 i3) fun q40 =>
          if q40 = 0 then
            Option.bind (f_X9_refuse G M r0) fun q43 =>
            some ((Int32.toInt64 q43.1), q43.2)
          else
            jn_X9_apart_48 G M  r0 i1 i2 i3 i4 i5 k0
      else
        jn_X9_apart_48 G M  r0 i1 i2 i3 i4 i5 k0
def jn_X9_apart_14 (G : Gg) (M : Mm) (r0 : Nat) (i1 : Int32) (i2 : Int32) (i3 : Int32) (i4 : Int32) (i5 : Int32)  : Option (Int64 × Mm) :=
    jn_X9_apart_15 G M  r0 i1 i2 i3 i4 i5 (0 : Int32)
def f_X9_apart (G : Gg) (M : Mm) (r0 : Nat) (i1 : Int32) (i2 : Int32) (i3 : Int32) (i4 : Int32) (i5 : Int32) : Option (Int64 × Mm) :=
  if i2 = (-1) then
    if i3 = (-1) then
      jn_X9_apart_15 G M  r0 i1 i2 i3 i4 i5 (1 : Int32)
    else
      jn_X9_apart_14 G M  r0 i1 i2 i3 i4 i5
  else
    jn_X9_apart_14 G M  r0 i1 i2 i3 i4 i5
def bd_X9_when_50 (G : Gg) (r0 : Nat) (i1 : Int32) (i2 : Int32) (i3 : Int32) (i4 : Int32) (rec : Int32 → Mm → Option ((Int32 × Mm) ⊕ (Mm))) (i5 : Int32) (M : Mm) : Option ((Int32 × Mm) ⊕ (Mm)) :=
    if i4 < i5 then
      some (.inr M)
    else
      ck (isK G r0 9) <|
      Option.bind (f_X9_widest G M r0 i1) fun q14 =>
      if 0 < (lg_cmp (q14 * (Int32.toInt64 i3)) (((2 : Int64) * (Int32.toInt64 i2)) * (M.2.1 r0 20))) then
        if i4 ≤ i5 then
          rec (i5 + 1) M
        else
          Option.bind (f_X9_step G M r0 i1) fun q19 =>
          rec (i5 + 1) q19
      else
        some (.inl (i5, M))
def lp_X9_when_50 (G : Gg) (r0 : Nat) (i1 : Int32) (i2 : Int32) (i3 : Int32) (i4 : Int32) : Nat → Int32 → Mm → Option ((Int32 × Mm) ⊕ (Mm))
  | 0, _, _ => none
  | n + 1, i5, M => bd_X9_when_50 G r0 i1 i2 i3 i4 (lp_X9_when_50 G r0 i1 i2 i3 i4 n) i5 M
def f_X9_when (G : Gg) (M : Mm) (r0 : Nat) (i1 : Int32) (i2 : Int32) (i3 : Int32) : Option (Int32 × Mm) :=
  ck (isK G r0 9) <|
  Option.bind (f_X9_has G (mwI M r0 0 (0 : Int32)) r0 i1) fun q2 =>
  if q2 = 0 then
    some ((-1), (mwI M r0 0 (0 : Int32)))
  else
    if i2 < 0 then
      some ((-1), (mwI M r0 0 (0 : Int32)))
    else
      if i3 < i2 then
        some ((-1), (mwI M r0 0 (0 : Int32)))
      else
        if i3 < (1 : Int32) then
          some ((-1), (mwI M r0 0 (0 : Int32)))
        else
          if i3 ≤ (1000 : Int32) then
            Option.bind (f_X9_begin G (mwI M r0 0 (0 : Int32)) r0) fun q9 =>
            Option.bind (f_X9_times G q9 r0 i1) fun q11 =>
            Option.bind (lp_X9_when_50 G r0 i1 i2 i3 q11 FU (0 : Int32) q9) fun q21 =>
            onS q21 (fun x23 => some x23) fun y22 =>
            some ((-1), y22)
          else
            some ((-1), (mwI M r0 0 (0 : Int32)))
def f_X9_stay (G : Gg) (M : Mm) (r0 : Nat) (i1 : Int32) (i2 : Int32) (i3 : Int32) : Option (Int64 × Mm) :=
  ck (isK G r0 9) <|
  Option.bind (f_X9_isState G M r0 i1 i2) fun q1 =>
  if q1 = 0 then
    Option.bind (f_X9_refuse G M r0) fun q5 =>
    some ((Int32.toInt64 q5.1), q5.2)
  else
    Option.bind (f_X9_isWhat i3) fun q7 =>
    if q7 = 0 then
      Option.bind (f_X9_refuse G M r0) fun q31 =>
      some ((Int32.toInt64 q31.1), q31.2)
    else
      Option.bind (f_X9_reach G M r0 i1) fun q10 =>
      Option.bind (q10.2.2 r0 3) fun r12 =>
      ck (isK G r12 10) <|
      ck (inb i1 (G.2.2 r12)) <|
      Option.bind (f_X9_closedOne G q10 r0 (q10.1 r12 (Int32.toNatClampNeg i1))) fun q16 =>
      if q16 = (-1) then
        Option.bind (f_X9_refuse G q10 r0) fun q29 =>
        some ((Int32.toInt64 q29.1), q29.2)
      else
        Option.bind (f_X9_weigh G q10 r0 i1 q16) fun q19 =>
        Option.bind (q19.2.2 r0 12) fun r21 =>
        ck (isK G r21 11) <|
        ck (inb i2 (G.2.2 r21)) <|
        Option.bind (f_X9_allWeights G q19 r0) fun q25 =>
        Option.bind (f_X9_told G q19 r0 (q19.2.1 r21 (Int32.toNatClampNeg i2)) q25 i3) fun q27 =>
        some (q27.1, q27.2)
def bd_X9_roams_47 (G : Gg) (M : Mm) (r0 : Nat) (i1 : Int32) (i3 : Int32) (i6 : Int32) (i7 : Int32) (rec : Int32 → Int32 → Option (Int32)) (i4 : Int32) (i8 : Int32) : Option (Int32) :=
    ck (isK G r0 9) <|
    Option.bind (M.2.2 r0 3) fun r10 =>
    ck (isK G r10 10) <|
    ck (inb i1 (G.2.2 r10)) <|
    if (M.1 r10 (Int32.toNatClampNeg i1)) ≤ i8 then
      some i4
    else
      Option.bind (f_X9_at G M r0 i1 i7 i8) fun q15 =>
      if q15 ≤ 0 then
        rec i4 (i8 + 1)
      else
        if ((i3 >>> (i8 &&& 31)) &&& (1 : Int32)) = 0 then
          rec (i4 ||| ((1 : Int32) <<< (i8 &&& 31))) (i8 + 1)
        else
          rec i4 (i8 + 1)
def lp_X9_roams_47 (G : Gg) (M : Mm) (r0 : Nat) (i1 : Int32) (i3 : Int32) (i6 : Int32) (i7 : Int32) : Nat → Int32 → Int32 → Option (Int32)
  | 0, _, _ => none
  | n + 1, i4, i8 => bd_X9_roams_47 G M r0 i1 i3 i6 i7 (lp_X9_roams_47 G M r0 i1 i3 i6 i7 n) i4 i8
def bd_X9_roams_20 (G : Gg) (M : Mm) (r0 : Nat) (i1 : Int32) (i3 : Int32) (i6 : Int32) (rec : Int32 → Int32 → Option (Int32)) (i4 : Int32) (i7 : Int32) : Option (Int32) :=
    ck (isK G r0 9) <|
    Option.bind (M.2.2 r0 3) fun r3 =>
    ck (isK G r3 10) <|
    ck (inb i1 (G.2.2 r3)) <|
    if (M.1 r3 (Int32.toNatClampNeg i1)) ≤ i7 then
      some i4
    else
      if ((i4 >>> (i7 &&& 31)) &&& (1 : Int32)) = 0 then
        rec i4 (i7 + 1)
      else
        Option.bind (lp_X9_roams_47 G M r0 i1 i3 i6 i7 FU i4 (0 : Int32)) fun q19 =>
        rec q19 (i7 + 1)
def lp_X9_roams_20 (G : Gg) (M : Mm) (r0 : Nat) (i1 : Int32) (i3 : Int32) (i6 : Int32) : Nat → Int32 → Int32 → Option (Int32)
  | 0, _, _ => none
  | n + 1, i4, i7 => bd_X9_roams_20 G M r0 i1 i3 i6 (lp_X9_roams_20 G M r0 i1 i3 i6 n) i4 i7
def bd_X9_roams_8 (G : Gg) (M : Mm) (r0 : Nat) (i1 : Int32) (i3 : Int32) (rec : Int32 → Int32 → Option (Int32)) (i4 : Int32) (i5 : Int32) : Option (Int32) :=
    if i5 = 0 then
      some i4
    else
      Option.bind (lp_X9_roams_20 G M r0 i1 i3 i4 FU i4 (0 : Int32)) fun q20 =>
      if q20 = i4 then
        rec q20 (0 : Int32)
      else
        rec q20 (1 : Int32)
def lp_X9_roams_8 (G : Gg) (M : Mm) (r0 : Nat) (i1 : Int32) (i3 : Int32) : Nat → Int32 → Int32 → Option (Int32)
  | 0, _, _ => none
  | n + 1, i4, i5 => bd_X9_roams_8 G M r0 i1 i3 (lp_X9_roams_8 G M r0 i1 i3 n) i4 i5
def f_X9_roams (G : Gg) (M : Mm) (r0 : Nat) (i1 : Int32) (i2 : Int32) (i3 : Int32) : Option (Int32) :=
  Option.bind (lp_X9_roams_8 G M r0 i1 i3 FU ((1 : Int32) <<< (i2 &&& 31)) (1 : Int32)) fun q22 =>
  some q22
def f_X9_isSet (G : Gg) (M : Mm) (r0 : Nat) (i1 : Int32) (i2 : Int32) : Option (Int32) :=
  if i2 ≤ 0 then
    some (0 : Int32)
  else
    ck (isK G r0 9) <|
    Option.bind (M.2.2 r0 3) fun r3 =>
    ck (isK G r3 10) <|
    ck (inb i1 (G.2.2 r3)) <|
    if ((1 : Int32) <<< ((M.1 r3 (Int32.toNatClampNeg i1)) &&& 31)) ≤ i2 then
      some (0 : Int32)
    else
      some (1 : Int32)
def bd_X9_steps_67 (G : Gg) (M : Mm) (r0 : Nat) (i1 : Int32) (i2 : Int32) (i3 : Int32) (i4 : Int32) (i5 : Int32) (rec : Int32 → Option ((Int64 × Mm) ⊕ (Unit))) (i6 : Int32) : Option ((Int64 × Mm) ⊕ (Unit)) :=
    ck (isK G r0 9) <|
    Option.bind (M.2.2 r0 3) fun r21 =>
    ck (isK G r21 10) <|
    ck (inb i1 (G.2.2 r21)) <|
    if (M.1 r21 (Int32.toNatClampNeg i1)) ≤ i6 then
      some (.inr ())
    else
      if ((i5 >>> (i6 &&& 31)) &&& (1 : Int32)) = (1 : Int32) then
        Option.bind (M.2.2 r0 6) fun r27 =>
        ck (isK G r27 10) <|
        ck (inb i6 (G.2.2 r27)) <|
        if ((M.1 r27 (Int32.toNatClampNeg i6)) &&& i3) = 0 then
          Option.bind (f_X9_refuse G M r0) fun q32 =>
          some (.inl ((Int32.toInt64 q32.1), q32.2))
        else
          rec (i6 + 1)
      else
        rec (i6 + 1)
def lp_X9_steps_67 (G : Gg) (M : Mm) (r0 : Nat) (i1 : Int32) (i2 : Int32) (i3 : Int32) (i4 : Int32) (i5 : Int32) : Nat → Int32 → Option ((Int64 × Mm) ⊕ (Unit))
  | 0, _ => none
  | n + 1, i6 => bd_X9_steps_67 G M r0 i1 i2 i3 i4 i5 (lp_X9_steps_67 G M r0 i1 i2 i3 i4 i5 n) i6
def bd_X9_steps_137 (G : Gg) (r0 : Nat) (i1 : Int32) (i2 : Int32) (i4 : Int32) (i6 : Int32) (i7 : Int32) (rec : Int32 → Int32 → Mm → Option (Int32 × Mm)) (i8 : Int32) (i9 : Int32) (M : Mm) : Option (Int32 × Mm) :=
    if i6 ≤ i9 then
      some (i8, M)
    else
      ck (isK G r0 9) <|
      Option.bind (M.2.2 r0 10) fun r43 =>
      Option.bind (M.2.2 r0 4) fun r45 =>
      ck (isK G r45 10) <|
      ck (inb i1 (G.2.2 r45)) <|
      ck (isK G r43 11) <|
      ck (inb i9 (G.2.2 r43)) <|
      Option.bind ((mwJ M r43 (Int32.toNatClampNeg i9) (Int32.toInt64 (M.1 r45 (Int32.toNatClampNeg i1)))).2.2 r0 13) fun r51 =>
      ck (isK G r51 10) <|
      ck (inb i9 (G.2.2 r51)) <|
      if ((mwJ M r43 (Int32.toNatClampNeg i9) (Int32.toInt64 (M.1 r45 (Int32.toNatClampNeg i1)))).1 r51 (Int32.toNatClampNeg i9)) = i2 then
        rec i9 (i9 + 1) (mwJ M r43 (Int32.toNatClampNeg i9) (Int32.toInt64 (M.1 r45 (Int32.toNatClampNeg i1))))
      else
        rec i8 (i9 + 1) (mwJ M r43 (Int32.toNatClampNeg i9) (Int32.toInt64 (M.1 r45 (Int32.toNatClampNeg i1))))
def lp_X9_steps_137 (G : Gg) (r0 : Nat) (i1 : Int32) (i2 : Int32) (i4 : Int32) (i6 : Int32) (i7 : Int32) : Nat → Int32 → Int32 → Mm → Option (Int32 × Mm)
  | 0, _, _, _ => none
  | n + 1, i8, i9, M => bd_X9_steps_137 G r0 i1 i2 i4 i6 i7 (lp_X9_steps_137 G r0 i1 i2 i4 i6 i7 n) i8 i9 M
def f_X9_steps (G : Gg) (M : Mm) (r0 : Nat) (i1 : Int32) (i2 : Int32) (i3 : Int32) (i4 : Int32) : Option (Int64 × Mm) :=
  ck (isK G r0 9) <|
  Option.bind (f_X9_isState G M r0 i1 i2) fun q1 =>
  if q1 = 0 then
    Option.bind (f_X9_refuse G M r0) fun q5 =>
    some ((Int32.toInt64 q5.1), q5.2)
  else
    Option.bind (f_X9_isSet G M r0 i1 i3) fun q7 =>
    if q7 = 0 then
      Option.bind (f_X9_refuse G M r0) fun q10 =>
      some ((Int32.toInt64 q10.1), q10.2)
    else
      Option.bind (f_X9_isWhat i4) fun q12 =>
      if q12 = 0 then
        Option.bind (f_X9_refuse G M r0) fun q65 =>
        some ((Int32.toInt64 q65.1), q65.2)
      else
        if ((i3 >>> (i2 &&& 31)) &&& (1 : Int32)) = (1 : Int32) then
          Option.bind (f_X9_told G M r0 (0 : Int64) (1 : Int64) i4) fun q63 =>
          some (q63.1, q63.2)
        else
          Option.bind (f_X9_reach G M r0 i1) fun q16 =>
          Option.bind (f_X9_roams G q16 r0 i1 i2 i3) fun q18 =>
          Option.bind (lp_X9_steps_67 G q16 r0 i1 i2 i3 i4 q18 FU (0 : Int32)) fun q34 =>
          onS q34 (fun x36 => some x36) fun y35 =>
          Option.bind (f_X9_list G q16 r0 q18) fun q37 =>
          Option.bind (f_X9_lay G q37.2 r0 i1 q37.1 (-1)) fun q39 =>
          Option.bind (lp_X9_steps_137 G r0 i1 i2 i4 q37.1 q39.1 FU (0 : Int32) (0 : Int32) q39.2) fun q56 =>
          Option.bind (f_X9_determinant G q56.2 r0 q39.1 (-1)) fun q57 =>
          Option.bind (f_X9_determinant G q57.2 r0 q39.1 q56.1) fun q59 =>
          Option.bind (f_X9_told G q59.2 r0 q59.1 q57.1 i4) fun q61 =>
          some (q61.1, q61.2)
def bd_X9_comes_17 (G : Gg) (M : Mm) (r0 : Nat) (i1 : Int32) (i2 : Int32) (i3 : Int32) (i4 : Int32) (rec : Int32 → Option ((Int32) ⊕ (Unit))) (i5 : Int32) : Option ((Int32) ⊕ (Unit)) :=
    ck (isK G r0 9) <|
    Option.bind (M.2.2 r0 3) fun r8 =>
    ck (isK G r8 10) <|
    ck (inb i1 (G.2.2 r8)) <|
    if (M.1 r8 (Int32.toNatClampNeg i1)) ≤ i5 then
      some (.inr ())
    else
      if ((i2 >>> (i4 &&& 31)) &&& (1 : Int32)) = (1 : Int32) then
        if ((i3 >>> (i5 &&& 31)) &&& (1 : Int32)) = (1 : Int32) then
          Option.bind (f_X9_at G M r0 i1 i4 i5) fun q15 =>
          if q15 ≤ 0 then
            rec (i5 + 1)
          else
            some (.inl (1 : Int32))
        else
          rec (i5 + 1)
      else
        rec (i5 + 1)
def lp_X9_comes_17 (G : Gg) (M : Mm) (r0 : Nat) (i1 : Int32) (i2 : Int32) (i3 : Int32) (i4 : Int32) : Nat → Int32 → Option ((Int32) ⊕ (Unit))
  | 0, _ => none
  | n + 1, i5 => bd_X9_comes_17 G M r0 i1 i2 i3 i4 (lp_X9_comes_17 G M r0 i1 i2 i3 i4 n) i5
def bd_X9_comes_3 (G : Gg) (M : Mm) (r0 : Nat) (i1 : Int32) (i2 : Int32) (i3 : Int32) (rec : Int32 → Option ((Int32) ⊕ (Unit))) (i4 : Int32) : Option ((Int32) ⊕ (Unit)) :=
    ck (isK G r0 9) <|
    Option.bind (M.2.2 r0 3) fun r2 =>
    ck (isK G r2 10) <|
    ck (inb i1 (G.2.2 r2)) <|
    if (M.1 r2 (Int32.toNatClampNeg i1)) ≤ i4 then
      some (.inr ())
    else
      Option.bind (lp_X9_comes_17 G M r0 i1 i2 i3 i4 FU (0 : Int32)) fun q18 =>
      onS q18 (fun x20 => some (.inl x20)) fun y19 =>
      rec (i4 + 1)
def lp_X9_comes_3 (G : Gg) (M : Mm) (r0 : Nat) (i1 : Int32) (i2 : Int32) (i3 : Int32) : Nat → Int32 → Option ((Int32) ⊕ (Unit))
  | 0, _ => none
  | n + 1, i4 => bd_X9_comes_3 G M r0 i1 i2 i3 (lp_X9_comes_3 G M r0 i1 i2 i3 n) i4
def f_X9_comes (G : Gg) (M : Mm) (r0 : Nat) (i1 : Int32) (i2 : Int32) (i3 : Int32) : Option (Int32) :=
  Option.bind (lp_X9_comes_3 G M r0 i1 i2 i3 FU (0 : Int32)) fun q21 =>
  onS q21 (fun x23 => some x23) fun y22 =>
  some (0 : Int32)
def bd_X9_ahead_101 (G : Gg) (M : Mm) (r0 : Nat) (i1 : Int32) (i2 : Int32) (i3 : Int32) (i4 : Int32) (i5 : Int32) (i6 : Int32) (rec : Int32 → Int32 → Option (Int32)) (i7 : Int32) (i8 : Int32) : Option (Int32) :=
    ck (isK G r0 9) <|
    Option.bind (M.2.2 r0 3) fun r27 =>
    ck (isK G r27 10) <|
    ck (inb i1 (G.2.2 r27)) <|
    if (M.1 r27 (Int32.toNatClampNeg i1)) ≤ i8 then
      some i7
    else
      if ((i6 >>> (i8 &&& 31)) &&& (1 : Int32)) = (1 : Int32) then
        Option.bind (f_X9_roams G M r0 i1 i8 (i3 ||| i4)) fun q33 =>
        Option.bind (f_X9_comes G M r0 i1 q33 i3) fun q35 =>
        if q35 = 0 then
          rec i7 (i8 + 1)
        else
          rec (i7 ||| ((1 : Int32) <<< (i8 &&& 31))) (i8 + 1)
      else
        rec i7 (i8 + 1)
def lp_X9_ahead_101 (G : Gg) (M : Mm) (r0 : Nat) (i1 : Int32) (i2 : Int32) (i3 : Int32) (i4 : Int32) (i5 : Int32) (i6 : Int32) : Nat → Int32 → Int32 → Option (Int32)
  | 0, _, _ => none
  | n + 1, i7, i8 => bd_X9_ahead_101 G M r0 i1 i2 i3 i4 i5 i6 (lp_X9_ahead_101 G M r0 i1 i2 i3 i4 i5 i6 n) i7 i8
def bd_X9_ahead_218 (G : Gg) (r0 : Nat) (i1 : Int32) (i2 : Int32) (i3 : Int32) (i5 : Int32) (i8 : Int32) (i9 : Int32) (i10 : Int32) (i11 : Int32) (rec : Int32 → Mm → Option (Mm)) (i12 : Int32) (M : Mm) : Option (Mm) :=
    ck (isK G r0 9) <|
    Option.bind (M.2.2 r0 3) fun r51 =>
    ck (isK G r51 10) <|
    ck (inb i1 (G.2.2 r51)) <|
    if (M.1 r51 (Int32.toNatClampNeg i1)) ≤ i12 then
      some M
    else
      if ((i3 >>> (i12 &&& 31)) &&& (1 : Int32)) = (1 : Int32) then
        Option.bind (M.2.2 r0 10) fun r57 =>
        ck (isK G r57 11) <|
        ck (inb i11 (G.2.2 r57)) <|
        Option.bind (M.2.2 r0 13) fun r61 =>
        ck (isK G r61 10) <|
        ck (inb i11 (G.2.2 r61)) <|
        Option.bind (f_X9_at G M r0 i1 (M.1 r61 (Int32.toNatClampNeg i11)) i12) fun q65 =>
        rec (i12 + 1) (mwJ M r57 (Int32.toNatClampNeg i11) ((M.2.1 r57 (Int32.toNatClampNeg i11)) + (Int32.toInt64 q65)))
      else
        rec (i12 + 1) M
def lp_X9_ahead_218 (G : Gg) (r0 : Nat) (i1 : Int32) (i2 : Int32) (i3 : Int32) (i5 : Int32) (i8 : Int32) (i9 : Int32) (i10 : Int32) (i11 : Int32) : Nat → Int32 → Mm → Option (Mm)
  | 0, _, _ => none
  | n + 1, i12, M => bd_X9_ahead_218 G r0 i1 i2 i3 i5 i8 i9 i10 i11 (lp_X9_ahead_218 G r0 i1 i2 i3 i5 i8 i9 i10 i11 n) i12 M
def bd_X9_ahead_200 (G : Gg) (r0 : Nat) (i1 : Int32) (i2 : Int32) (i3 : Int32) (i5 : Int32) (i8 : Int32) (i9 : Int32) (rec : Int32 → Int32 → Mm → Option (Int32 × Mm)) (i10 : Int32) (i11 : Int32) (M : Mm) : Option (Int32 × Mm) :=
    if i8 ≤ i11 then
      some (i10, M)
    else
      ck (isK G r0 9) <|
      Option.bind (M.2.2 r0 10) fun r46 =>
      ck (isK G r46 11) <|
      ck (inb i11 (G.2.2 r46)) <|
      Option.bind (lp_X9_ahead_218 G r0 i1 i2 i3 i5 i8 i9 i10 i11 FU (0 : Int32) (mwJ M r46 (Int32.toNatClampNeg i11) (0 : Int64))) fun q67 =>
      Option.bind (q67.2.2 r0 13) fun r68 =>
      ck (isK G r68 10) <|
      ck (inb i11 (G.2.2 r68)) <|
      if (q67.1 r68 (Int32.toNatClampNeg i11)) = i2 then
        rec i11 (i11 + 1) q67
      else
        rec i10 (i11 + 1) q67
def lp_X9_ahead_200 (G : Gg) (r0 : Nat) (i1 : Int32) (i2 : Int32) (i3 : Int32) (i5 : Int32) (i8 : Int32) (i9 : Int32) : Nat → Int32 → Int32 → Mm → Option (Int32 × Mm)
  | 0, _, _, _ => none
  | n + 1, i10, i11, M => bd_X9_ahead_200 G r0 i1 i2 i3 i5 i8 i9 (lp_X9_ahead_200 G r0 i1 i2 i3 i5 i8 i9 n) i10 i11 M
def f_X9_ahead (G : Gg) (M : Mm) (r0 : Nat) (i1 : Int32) (i2 : Int32) (i3 : Int32) (i4 : Int32) (i5 : Int32) : Option (Int64 × Mm) :=
  ck (isK G r0 9) <|
  Option.bind (f_X9_isState G M r0 i1 i2) fun q1 =>
  if q1 = 0 then
    Option.bind (f_X9_refuse G M r0) fun q5 =>
    some ((Int32.toInt64 q5.1), q5.2)
  else
    Option.bind (f_X9_isSet G M r0 i1 i3) fun q7 =>
    if q7 = 0 then
      Option.bind (f_X9_refuse G M r0) fun q10 =>
      some ((Int32.toInt64 q10.1), q10.2)
    else
      Option.bind (f_X9_isSet G M r0 i1 i4) fun q12 =>
      if q12 = 0 then
        Option.bind (f_X9_refuse G M r0) fun q15 =>
        some ((Int32.toInt64 q15.1), q15.2)
      else
        if (i3 &&& i4) = 0 then
          Option.bind (f_X9_isWhat i5) fun q20 =>
          if q20 = 0 then
            Option.bind (f_X9_refuse G M r0) fun q87 =>
            some ((Int32.toInt64 q87.1), q87.2)
          else
            if (((i3 ||| i4) >>> (i2 &&& 31)) &&& (1 : Int32)) = (1 : Int32) then
              if ((i3 >>> (i2 &&& 31)) &&& (1 : Int32)) = (1 : Int32) then
                Option.bind (f_X9_told G M r0 (1 : Int64) (1 : Int64) i5) fun q85 =>
                some (q85.1, q85.2)
              else
                Option.bind (f_X9_told G M r0 (0 : Int64) (1 : Int64) i5) fun q83 =>
                some (q83.1, q83.2)
            else
              Option.bind (f_X9_roams G M r0 i1 i2 (i3 ||| i4)) fun q24 =>
              Option.bind (lp_X9_ahead_101 G M r0 i1 i2 i3 i4 i5 q24 FU (0 : Int32) (0 : Int32)) fun q38 =>
              if ((q38 >>> (i2 &&& 31)) &&& (1 : Int32)) = 0 then
                Option.bind (f_X9_told G M r0 (0 : Int64) (1 : Int64) i5) fun q80 =>
                some (q80.1, q80.2)
              else
                Option.bind (f_X9_list G M r0 q38) fun q40 =>
                Option.bind (f_X9_lay G q40.2 r0 i1 q40.1 (-1)) fun q42 =>
                Option.bind (lp_X9_ahead_200 G r0 i1 i2 i3 i5 q40.1 q42.1 FU (0 : Int32) (0 : Int32) q42.2) fun q73 =>
                Option.bind (f_X9_determinant G q73.2 r0 q42.1 (-1)) fun q74 =>
                Option.bind (f_X9_determinant G q74.2 r0 q42.1 q73.1) fun q76 =>
                Option.bind (f_X9_told G q76.2 r0 q76.1 q74.1 i5) fun q78 =>
                some (q78.1, q78.2)
        else
          Option.bind (f_X9_refuse G M r0) fun q18 =>
          some ((Int32.toInt64 q18.1), q18.2)
def bd_X9_isLess_17  (rec : Int64 → Int64 → Int64 → Int64 → Int32 → Option (Int64 × Int64 × Int64 × Int64 × Int32)) (l8 : Int64) (l10 : Int64) (l12 : Int64) (l14 : Int64) (i16 : Int32) : Option (Int64 × Int64 × Int64 × Int64 × Int32) :=
    if (lg_cmp l10 (0 : Int64)) = 0 then
      some (l8, l10, l12, l14, i16)
    else
      if (lg_cmp l14 (0 : Int64)) = 0 then
        some (l8, l10, l12, l14, i16)
      else
        ck (¬ l10 = 0) <|
        ck (¬ l14 = 0) <|
        if (lg_cmp (l8 / l10) (l12 / l14)) = 0 then
          if i16 = 0 then
            rec l10 (l8 - l8 / l10 * l10) l14 (l12 - l12 / l14 * l14) (1 : Int32)
          else
            rec l10 (l8 - l8 / l10 * l10) l14 (l12 - l12 / l14 * l14) (0 : Int32)
        else
          some (l8, l10, l12, l14, i16)
def lp_X9_isLess_17  : Nat → Int64 → Int64 → Int64 → Int64 → Int32 → Option (Int64 × Int64 × Int64 × Int64 × Int32)
  | 0, _, _, _, _, _ => none
  | n + 1, l8, l10, l12, l14, i16 => bd_X9_isLess_17  (lp_X9_isLess_17  n) l8 l10 l12 l14 i16
def jn_X9_isLess_104 (l10 : Int64) (l14 : Int64) (i16 : Int32)  : Option (Int32) :=
    if (lg_cmp l10 (0 : Int64)) = 0 then
      if (lg_cmp l14 (0 : Int64)) = 0 then
        some (0 : Int32)
      else
        if i16 = 0 then
          some (0 : Int32)
        else
          if (lg_cmp l10 l14) = 0 then
            some (0 : Int32)
          else
            some (1 : Int32)
    else
      if i16 = 0 then
        if (lg_cmp l10 l14) = 0 then
          some (0 : Int32)
        else
          some (1 : Int32)
      else
        some (0 : Int32)
def jn_X9_isLess_90 (l8 : Int64) (l10 : Int64) (l12 : Int64) (l14 : Int64) (i16 : Int32)  : Option (Int32) :=
    if (lg_cmp l10 (0 : Int64)) = 0 then
      jn_X9_isLess_104  l10 l14 i16
    else
      if (lg_cmp l14 (0 : Int64)) = 0 then
        jn_X9_isLess_104  l10 l14 i16
      else
        ck (¬ l10 = 0) <|
        ck (¬ l14 = 0) <|
        if 0 ≤ (lg_cmp (l8 / l10) (l12 / l14)) then
          if (0 : Int32) = i16 then
            some (0 : Int32)
          else
            some (1 : Int32)
        else
          if (1 : Int32) = i16 then
            some (0 : Int32)
          else
            some (1 : Int32)
def f_X9_isLess (l0 : Int64) (l2 : Int64) (l4 : Int64) (l6 : Int64) : Option (Int32) :=
  Option.bind (lp_X9_isLess_17  FU l0 l2 l4 l6 (0 : Int32)) fun q7 =>
  jn_X9_isLess_90  q7.1 q7.2.1 q7.2.2.1 q7.2.2.2.1 q7.2.2.2.2
def bd_X9_narrowest_104 (G : Gg) (M : Mm) (r0 : Nat) (i1 : Int32) (i2 : Int32) (i3 : Int32) (i4 : Int32) (l5 : Int64) (i9 : Int32) (rec : Int64 → Int32 → Option (Int64)) (l7 : Int64) (i10 : Int32) : Option (Int64) :=
    if i2 ≤ i10 then
      some l7
    else
      if ((i4 >>> (i10 &&& 31)) &&& (1 : Int32)) = 0 then
        ck (isK G r0 9) <|
        Option.bind (M.2.2 r0 12) fun r30 =>
        ck (isK G r30 11) <|
        ck (inb i9 (G.2.2 r30)) <|
        Option.bind (f_X9_at G M r0 i1 i9 i10) fun q34 =>
        rec (l7 + ((M.2.1 r30 (Int32.toNatClampNeg i9)) * (Int32.toInt64 q34))) (i10 + 1)
      else
        rec l7 (i10 + 1)
def lp_X9_narrowest_104 (G : Gg) (M : Mm) (r0 : Nat) (i1 : Int32) (i2 : Int32) (i3 : Int32) (i4 : Int32) (l5 : Int64) (i9 : Int32) : Nat → Int64 → Int32 → Option (Int64)
  | 0, _, _ => none
  | n + 1, l7, i10 => bd_X9_narrowest_104 G M r0 i1 i2 i3 i4 l5 i9 (lp_X9_narrowest_104 G M r0 i1 i2 i3 i4 l5 i9 n) l7 i10
def bd_X9_narrowest_70 (G : Gg) (M : Mm) (r0 : Nat) (i1 : Int32) (i2 : Int32) (i3 : Int32) (i4 : Int32) (rec : Int64 → Int64 → Int32 → Option (Int64 × Int64)) (l5 : Int64) (l7 : Int64) (i9 : Int32) : Option (Int64 × Int64) :=
    if i2 ≤ i9 then
      some (l5, l7)
    else
      if ((i4 >>> (i9 &&& 31)) &&& (1 : Int32)) = 0 then
        rec l5 l7 (i9 + 1)
      else
        ck (isK G r0 9) <|
        Option.bind (M.2.2 r0 12) fun r23 =>
        ck (isK G r23 11) <|
        ck (inb i9 (G.2.2 r23)) <|
        Option.bind (lp_X9_narrowest_104 G M r0 i1 i2 i3 i4 (l5 + (M.2.1 r23 (Int32.toNatClampNeg i9))) i9 FU l7 (0 : Int32)) fun q36 =>
        rec (l5 + (M.2.1 r23 (Int32.toNatClampNeg i9))) q36 (i9 + 1)
def lp_X9_narrowest_70 (G : Gg) (M : Mm) (r0 : Nat) (i1 : Int32) (i2 : Int32) (i3 : Int32) (i4 : Int32) : Nat → Int64 → Int64 → Int32 → Option (Int64 × Int64)
  | 0, _, _, _ => none
  | n + 1, l5, l7, i9 => bd_X9_narrowest_70 G M r0 i1 i2 i3 i4 (lp_X9_narrowest_70 G M r0 i1 i2 i3 i4 n) l5 l7 i9
def jn_X9_narrowest_206 (G : Gg) (M : Mm) (rec : Int32 → Int32 → Mm → Option (Int32 × Mm)) (r0 : Nat) (i1 : Int32) (i2 : Int32) (i4 : Int32) (l5 : Int64) (l7 : Int64)  : Option (Int32 × Mm) :=
    ck (isK G r0 9) <|
    Option.bind ((mwJ M r0 21 l7).2.2 r0 4) fun r44 =>
    ck (isK G r44 10) <|
    ck (inb i1 (G.2.2 r44)) <|
    rec i4 (i4 + 1) (mwJ (mwJ M r0 21 l7) r0 22 (l5 * (Int32.toInt64 ((mwJ M r0 21 l7).1 r44 (Int32.toNatClampNeg i1)))))
def bd_X9_narrowest_53 (G : Gg) (r0 : Nat) (i1 : Int32) (i2 : Int32) (rec : Int32 → Int32 → Mm → Option (Int32 × Mm)) (i3 : Int32) (i4 : Int32) (M : Mm) : Option (Int32 × Mm) :=
    if ((1 : Int32) <<< (i2 &&& 31)) ≤ i4 then
      some (i3, M)
    else
      Option.bind (lp_X9_narrowest_70 G M r0 i1 i2 i3 i4 FU (0 : Int64) (0 : Int64) (0 : Int32)) fun q37 =>
      ck (isK G r0 9) <|
      Option.bind (f_X9_allWeights G M r0) fun q38 =>
      if (lg_cmp ((2 : Int64) * q37.1) q38) ≤ 0 then
        if i3 = (-1) then
          jn_X9_narrowest_206 G M rec r0 i1 i2 i4 q37.1 q37.2
        else
          Option.bind (M.2.2 r0 4) fun r48 =>
          ck (isK G r48 10) <|
          ck (inb i1 (G.2.2 r48)) <|
          Option.bind (f_X9_isLess q37.2 (q37.1 * (Int32.toInt64 (M.1 r48 (Int32.toNatClampNeg i1)))) (M.2.1 r0 21) (M.2.1 r0 22)) fun q52 =>
          if q52 = 0 then
            rec i3 (i4 + 1) M
          else
            jn_X9_narrowest_206 G M rec r0 i1 i2 i4 q37.1 q37.2
      else
        rec i3 (i4 + 1) M
def lp_X9_narrowest_53 (G : Gg) (r0 : Nat) (i1 : Int32) (i2 : Int32) : Nat → Int32 → Int32 → Mm → Option (Int32 × Mm)
  | 0, _, _, _ => none
  | n + 1, i3, i4, M => bd_X9_narrowest_53 G r0 i1 i2 (lp_X9_narrowest_53 G r0 i1 i2 n) i3 i4 M
def f_X9_narrowest (G : Gg) (M : Mm) (r0 : Nat) (i1 : Int32) : Option (Int32 × Mm) :=
  ck (isK G r0 9) <|
  Option.bind (f_X9_has G M r0 i1) fun q1 =>
  if q1 = 0 then
    some ((-1), M)
  else
    Option.bind (M.2.2 r0 3) fun r5 =>
    ck (isK G r5 10) <|
    ck (inb i1 (G.2.2 r5)) <|
    if (2 : Int32) ≤ (M.1 r5 (Int32.toNatClampNeg i1)) then
      Option.bind (f_X9_reach G M r0 i1) fun q10 =>
      if (q10.1 r0 8) ≤ (1 : Int32) then
        Option.bind (f_X9_weigh G q10 r0 i1 (0 : Int32)) fun q13 =>
        Option.bind (q13.2.2 r0 3) fun r15 =>
        ck (isK G r15 10) <|
        ck (inb i1 (G.2.2 r15)) <|
        Option.bind (lp_X9_narrowest_53 G r0 i1 (q13.1 r15 (Int32.toNatClampNeg i1)) FU (-1) (1 : Int32) q13) fun q55 =>
        some (q55.1, q55.2)
      else
        some ((-1), q10)
    else
      some ((-1), M)
def f_X9_narrow (G : Gg) (M : Mm) (r0 : Nat) (i1 : Int32) (i2 : Int32) : Option (Int64 × Mm) :=
  Option.bind (f_X9_isWhat i2) fun q1 =>
  if q1 = 0 then
    ck (isK G r0 9) <|
    Option.bind (f_X9_refuse G M r0) fun q4 =>
    some ((Int32.toInt64 q4.1), q4.2)
  else
    ck (isK G r0 9) <|
    Option.bind (f_X9_narrowest G M r0 i1) fun q7 =>
    if q7.1 = (-1) then
      Option.bind (f_X9_refuse G q7.2 r0) fun q13 =>
      some ((Int32.toInt64 q13.1), q13.2)
    else
      Option.bind (f_X9_told G q7.2 r0 (q7.2.2.1 r0 21) (q7.2.2.1 r0 22) i2) fun q11 =>
      some (q11.1, q11.2)
def f_X9_cut (G : Gg) (M : Mm) (r0 : Nat) (i1 : Int32) : Option (Int32 × Mm) :=
  ck (isK G r0 9) <|
  Option.bind (f_X9_narrowest G (mwI M r0 0 (0 : Int32)) r0 i1) fun q2 =>
  some (q2.1, q2.2)
def bd_X9_count_9 (G : Gg) (M : Mm) (r0 : Nat) (i1 : Int32) (rec : Int32 → Int32 → Option (Int32)) (i2 : Int32) (i3 : Int32) : Option (Int32) :=
    if (6 : Int32) ≤ i3 then
      some i2
    else
      ck (isK G r0 9) <|
      Option.bind (M.2.2 r0 3) fun r4 =>
      ck (isK G r4 10) <|
      ck (inb i3 (G.2.2 r4)) <|
      if (M.1 r4 (Int32.toNatClampNeg i3)) ≤ 0 then
        rec i2 (i3 + 1)
      else
        rec (i2 + 1) (i3 + 1)
def lp_X9_count_9 (G : Gg) (M : Mm) (r0 : Nat) (i1 : Int32) : Nat → Int32 → Int32 → Option (Int32)
  | 0, _, _ => none
  | n + 1, i2, i3 => bd_X9_count_9 G M r0 i1 (lp_X9_count_9 G M r0 i1 n) i2 i3
def f_X9_count (G : Gg) (M : Mm) (r0 : Nat) (i1 : Int32) : Option (Int32 × Mm) :=
  ck (isK G r0 9) <|
  Option.bind (lp_X9_count_9 G (mwI M r0 0 (0 : Int32)) r0 i1 FU (0 : Int32) (0 : Int32)) fun q9 =>
  if i1 = 0 then
    some (q9, (mwI M r0 0 (0 : Int32)))
  else
    if i1 = (1 : Int32) then
      some (((mwI M r0 0 (0 : Int32)).1 r0 2), (mwI M r0 0 (0 : Int32)))
    else
      if i1 = (2 : Int32) then
        some (((mwI M r0 0 (0 : Int32)).1 r0 17), (mwI M r0 0 (0 : Int32)))
      else
        some ((-1), (mwI M r0 0 (0 : Int32)))
