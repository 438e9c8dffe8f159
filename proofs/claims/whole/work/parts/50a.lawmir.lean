def onO {α γ : Type} (q : Option α) (a : Option γ) (b : α → Option γ) : Option γ := match q with
  | none => a
  | some r => b r
def f_L_octet (G : Gg) (M : Mm) (r0 : Nat) (i1 : Int32) (r2 : Nat) : Option (Int32 × Mm) :=
  ck (isK G r2 11) <|
  ck (isK G r0 8) <|
  Option.bind (f_X8_octet G M r0 i1) fun q =>
  onO q (some (1, M)) fun r =>
  ck (inb (0 : Int32) (G.2.2 r2)) <|
  some (0, mwJ M r2 (Int32.toNatClampNeg (0 : Int32)) (Int32.toInt64 r))
def f_L_chance (G : Gg) (M : Mm) (r0 : Nat) (i1 : Int32) (i2 : Int32) (i3 : Int32) (i4 : Int32) (i5 : Int32) (r6 : Nat) : Option (Int32 × Mm) :=
  ck (isK G r6 11) <|
  ck (isK G r0 8) <|
  Option.bind (f_X8_chance G M r0 i1 i2 i3 i4 i5) fun q =>
  onO q.1 (some (1, q.2)) fun r =>
  ck (inb (0 : Int32) (G.2.2 r6)) <|
  some (0, mwJ q.2 r6 (Int32.toNatClampNeg (0 : Int32)) r)
def f_L_apart (G : Gg) (M : Mm) (r0 : Nat) (i1 : Int32) (i2 : Int32) (i3 : Int32) (i4 : Int32) (i5 : Int32) (r6 : Nat) : Option (Int32 × Mm) :=
  ck (isK G r6 11) <|
  ck (isK G r0 8) <|
  Option.bind (f_X8_apart G M r0 i1 i2 i3 i4 i5) fun q =>
  onO q.1 (some (1, q.2)) fun r =>
  ck (inb (0 : Int32) (G.2.2 r6)) <|
  some (0, mwJ q.2 r6 (Int32.toNatClampNeg (0 : Int32)) r)
def f_L_stay (G : Gg) (M : Mm) (r0 : Nat) (i1 : Int32) (i2 : Int32) (i3 : Int32) (r4 : Nat) : Option (Int32 × Mm) :=
  ck (isK G r4 11) <|
  ck (isK G r0 8) <|
  Option.bind (f_X8_stay G M r0 i1 i2 i3) fun q =>
  onO q.1 (some (1, q.2)) fun r =>
  ck (inb (0 : Int32) (G.2.2 r4)) <|
  some (0, mwJ q.2 r4 (Int32.toNatClampNeg (0 : Int32)) r)
def f_L_steps (G : Gg) (M : Mm) (r0 : Nat) (i1 : Int32) (i2 : Int32) (i3 : Int32) (i4 : Int32) (r5 : Nat) : Option (Int32 × Mm) :=
  ck (isK G r5 11) <|
  ck (isK G r0 8) <|
  Option.bind (f_X8_steps G M r0 i1 i2 i3 i4) fun q =>
  onO q.1 (some (1, q.2)) fun r =>
  ck (inb (0 : Int32) (G.2.2 r5)) <|
  some (0, mwJ q.2 r5 (Int32.toNatClampNeg (0 : Int32)) r)
def f_L_ahead (G : Gg) (M : Mm) (r0 : Nat) (i1 : Int32) (i2 : Int32) (i3 : Int32) (i4 : Int32) (i5 : Int32) (r6 : Nat) : Option (Int32 × Mm) :=
  ck (isK G r6 11) <|
  ck (isK G r0 8) <|
  Option.bind (f_X8_ahead G M r0 i1 i2 i3 i4 i5) fun q =>
  onO q.1 (some (1, q.2)) fun r =>
  ck (inb (0 : Int32) (G.2.2 r6)) <|
  some (0, mwJ q.2 r6 (Int32.toNatClampNeg (0 : Int32)) r)
def f_L_narrow (G : Gg) (M : Mm) (r0 : Nat) (i1 : Int32) (i2 : Int32) (r3 : Nat) : Option (Int32 × Mm) :=
  ck (isK G r3 11) <|
  ck (isK G r0 8) <|
  Option.bind (f_X8_narrow G M r0 i1 i2) fun q =>
  onO q.1 (some (1, q.2)) fun r =>
  ck (inb (0 : Int32) (G.2.2 r3)) <|
  some (0, mwJ q.2 r3 (Int32.toNatClampNeg (0 : Int32)) r)
def bd_law (G : Gg) (L : Nat) (xs : Nat → Int32) (r1 r2 r3 : Nat) (rec : Int32 → Mm → Option (Int32 ⊕ Mm)) (i4 : Int32) (M : Mm) : Option (Int32 ⊕ Mm) :=
    if ((Int32.ofNat L) - (6 : Int32)) < i4 then
      some (.inr M)
    else
      ck (inb i4 L) <|
      if ((xs (Int32.toNatClampNeg i4)) &&& (31 : Int32)) = 0 then
        ck (inb (i4 + (1 : Int32)) L) <|
        ck (inb (i4 + (2 : Int32)) L) <|
        ck (inb (i4 + (3 : Int32)) L) <|
        ck (inb (i4 + (4 : Int32)) L) <|
        ck (inb (i4 + (5 : Int32)) L) <|
        ck (isK G r1 8) <|
        Option.bind (f_X8_feed G M r1 (xs (Int32.toNatClampNeg (i4 + (1 : Int32)))) (xs (Int32.toNatClampNeg (i4 + (2 : Int32)))) (xs (Int32.toNatClampNeg (i4 + (3 : Int32)))) (xs (Int32.toNatClampNeg (i4 + (4 : Int32)))) (xs (Int32.toNatClampNeg (i4 + (5 : Int32))))) fun q9 =>
        ck (isK G r2 9) <|
        Option.bind (f_X9_feed G q9.2 r2 (xs (Int32.toNatClampNeg (i4 + (1 : Int32)))) (xs (Int32.toNatClampNeg (i4 + (2 : Int32)))) (xs (Int32.toNatClampNeg (i4 + (3 : Int32)))) (xs (Int32.toNatClampNeg (i4 + (4 : Int32)))) (xs (Int32.toNatClampNeg (i4 + (5 : Int32))))) fun q12 =>
        if q9.1 = q12.1 then
          rec (i4 + 6) q12.2
        else
          some (.inl (0 : Int32))
      else
        if ((xs (Int32.toNatClampNeg i4)) &&& (31 : Int32)) = 1 then
          ck (inb (i4 + (1 : Int32)) L) <|
          ck (isK G r1 8) <|
          Option.bind (f_X8_end G M r1 (xs (Int32.toNatClampNeg (i4 + (1 : Int32))))) fun q18 =>
          ck (isK G r2 9) <|
          Option.bind (f_X9_end G q18.2 r2 (xs (Int32.toNatClampNeg (i4 + (1 : Int32))))) fun q21 =>
          if q18.1 = q21.1 then
            rec (i4 + 6) q21.2
          else
            some (.inl (0 : Int32))
        else
          if ((xs (Int32.toNatClampNeg i4)) &&& (31 : Int32)) = 2 then
            ck (inb (i4 + (1 : Int32)) L) <|
            ck (inb (i4 + (2 : Int32)) L) <|
            ck (inb (i4 + (3 : Int32)) L) <|
            ck (isK G r1 8) <|
            Option.bind (f_X8_sheet G M r1 (xs (Int32.toNatClampNeg (i4 + (1 : Int32)))) (xs (Int32.toNatClampNeg (i4 + (2 : Int32)))) (xs (Int32.toNatClampNeg (i4 + (3 : Int32))))) fun q29 =>
            ck (isK G r2 9) <|
            Option.bind (f_X9_sheet G q29.2 r2 (xs (Int32.toNatClampNeg (i4 + (1 : Int32)))) (xs (Int32.toNatClampNeg (i4 + (2 : Int32)))) (xs (Int32.toNatClampNeg (i4 + (3 : Int32))))) fun q32 =>
            if q29.1 = q32.1 then
              rec (i4 + 6) q32.2
            else
              some (.inl (0 : Int32))
          else
            if ((xs (Int32.toNatClampNeg i4)) &&& (31 : Int32)) = 3 then
              ck (inb (i4 + (1 : Int32)) L) <|
              ck (inb (i4 + (2 : Int32)) L) <|
              ck (isK G r1 8) <|
              Option.bind (f_X8_lazy G M r1 (xs (Int32.toNatClampNeg (i4 + (1 : Int32)))) (xs (Int32.toNatClampNeg (i4 + (2 : Int32))))) fun q39 =>
              ck (isK G r2 9) <|
              Option.bind (f_X9_lazy G q39.2 r2 (xs (Int32.toNatClampNeg (i4 + (1 : Int32)))) (xs (Int32.toNatClampNeg (i4 + (2 : Int32))))) fun q42 =>
              if q39.1 = q42.1 then
                rec (i4 + 6) q42.2
              else
                some (.inl (0 : Int32))
            else
              if ((xs (Int32.toNatClampNeg i4)) &&& (31 : Int32)) = 4 then
                ck (inb (i4 + (1 : Int32)) L) <|
                ck (inb (i4 + (2 : Int32)) L) <|
                ck (isK G r1 8) <|
                Option.bind (f_X8_back G M r1 (xs (Int32.toNatClampNeg (i4 + (1 : Int32)))) (xs (Int32.toNatClampNeg (i4 + (2 : Int32))))) fun q49 =>
                ck (isK G r2 9) <|
                Option.bind (f_X9_back G q49.2 r2 (xs (Int32.toNatClampNeg (i4 + (1 : Int32)))) (xs (Int32.toNatClampNeg (i4 + (2 : Int32))))) fun q52 =>
                if q49.1 = q52.1 then
                  rec (i4 + 6) q52.2
                else
                  some (.inl (0 : Int32))
              else
                if ((xs (Int32.toNatClampNeg i4)) &&& (31 : Int32)) = 5 then
                  ck (inb (i4 + (1 : Int32)) L) <|
                  ck (inb (i4 + (2 : Int32)) L) <|
                  ck (isK G r1 8) <|
                  Option.bind (f_X8_melt G M r1 (xs (Int32.toNatClampNeg (i4 + (1 : Int32)))) (xs (Int32.toNatClampNeg (i4 + (2 : Int32))))) fun q59 =>
                  ck (isK G r2 9) <|
                  Option.bind (f_X9_melt G q59.2 r2 (xs (Int32.toNatClampNeg (i4 + (1 : Int32)))) (xs (Int32.toNatClampNeg (i4 + (2 : Int32))))) fun q62 =>
                  if q59.1 = q62.1 then
                    rec (i4 + 6) q62.2
                  else
                    some (.inl (0 : Int32))
                else
                  if ((xs (Int32.toNatClampNeg i4)) &&& (31 : Int32)) = 6 then
                    ck (inb (i4 + (1 : Int32)) L) <|
                    Option.bind (f_L_octet G M r1 (xs (Int32.toNatClampNeg (i4 + (1 : Int32)))) r3) fun q68 =>
                    ck (isK G r2 9) <|
                    Option.bind (f_X9_octet G q68.2 r2 (xs (Int32.toNatClampNeg (i4 + (1 : Int32))))) fun q70 =>
                    Option.bind (f_X9_thrown G q70.2 r2) fun q73 =>
                    if q73 = q68.1 then
                      if q68.1 = 0 then
                        ck (isK G r3 11) <|
                        ck (inb (0 : Int32) (G.2.2 r3)) <|
                        if (lg_cmp (q70.2.2.1 r3 (Int32.toNatClampNeg (0 : Int32))) (Int32.toInt64 q70.1)) = 0 then
                          rec (i4 + 6) q70.2
                        else
                          some (.inl (0 : Int32))
                      else
                        rec (i4 + 6) q70.2
                    else
                      some (.inl (0 : Int32))
                  else
                    if ((xs (Int32.toNatClampNeg i4)) &&& (31 : Int32)) = 7 then
                      ck (inb (i4 + (1 : Int32)) L) <|
                      ck (inb (i4 + (2 : Int32)) L) <|
                      ck (isK G r1 8) <|
                      Option.bind (f_X8_about G M r1 (xs (Int32.toNatClampNeg (i4 + (1 : Int32)))) (xs (Int32.toNatClampNeg (i4 + (2 : Int32))))) fun q83 =>
                      ck (isK G r2 9) <|
                      Option.bind (f_X9_about G M r2 (xs (Int32.toNatClampNeg (i4 + (1 : Int32)))) (xs (Int32.toNatClampNeg (i4 + (2 : Int32))))) fun q86 =>
                      if q83 = q86.1 then
                        rec (i4 + 6) q86.2
                      else
                        some (.inl (0 : Int32))
                    else
                      if ((xs (Int32.toNatClampNeg i4)) &&& (31 : Int32)) = 8 then
                        ck (inb (i4 + (1 : Int32)) L) <|
                        ck (inb (i4 + (2 : Int32)) L) <|
                        ck (inb (i4 + (3 : Int32)) L) <|
                        ck (isK G r1 8) <|
                        Option.bind (f_X8_state G M r1 (xs (Int32.toNatClampNeg (i4 + (1 : Int32)))) (xs (Int32.toNatClampNeg (i4 + (2 : Int32)))) (xs (Int32.toNatClampNeg (i4 + (3 : Int32))))) fun q94 =>
                        ck (isK G r2 9) <|
                        Option.bind (f_X9_state G M r2 (xs (Int32.toNatClampNeg (i4 + (1 : Int32)))) (xs (Int32.toNatClampNeg (i4 + (2 : Int32)))) (xs (Int32.toNatClampNeg (i4 + (3 : Int32))))) fun q97 =>
                        if q94 = q97.1 then
                          rec (i4 + 6) q97.2
                        else
                          some (.inl (0 : Int32))
                      else
                        if ((xs (Int32.toNatClampNeg i4)) &&& (31 : Int32)) = 9 then
                          ck (inb (i4 + (1 : Int32)) L) <|
                          ck (inb (i4 + (2 : Int32)) L) <|
                          ck (inb (i4 + (3 : Int32)) L) <|
                          ck (inb (i4 + (4 : Int32)) L) <|
                          ck (inb (i4 + (5 : Int32)) L) <|
                          Option.bind (f_L_chance G M r1 (xs (Int32.toNatClampNeg (i4 + (1 : Int32)))) (xs (Int32.toNatClampNeg (i4 + (2 : Int32)))) (xs (Int32.toNatClampNeg (i4 + (3 : Int32)))) (xs (Int32.toNatClampNeg (i4 + (4 : Int32)))) (xs (Int32.toNatClampNeg (i4 + (5 : Int32)))) r3) fun q107 =>
                          ck (isK G r2 9) <|
                          Option.bind (f_X9_chance G q107.2 r2 (xs (Int32.toNatClampNeg (i4 + (1 : Int32)))) (xs (Int32.toNatClampNeg (i4 + (2 : Int32)))) (xs (Int32.toNatClampNeg (i4 + (3 : Int32)))) (xs (Int32.toNatClampNeg (i4 + (4 : Int32)))) (xs (Int32.toNatClampNeg (i4 + (5 : Int32))))) fun q109 =>
                          Option.bind (f_X9_thrown G q109.2 r2) fun q112 =>
                          if q112 = q107.1 then
                            if q107.1 = 0 then
                              ck (isK G r3 11) <|
                              ck (inb (0 : Int32) (G.2.2 r3)) <|
                              if (lg_cmp (q109.2.2.1 r3 (Int32.toNatClampNeg (0 : Int32))) q109.1) = 0 then
                                rec (i4 + 6) q109.2
                              else
                                some (.inl (0 : Int32))
                            else
                              rec (i4 + 6) q109.2
                          else
                            some (.inl (0 : Int32))
                        else
                          if ((xs (Int32.toNatClampNeg i4)) &&& (31 : Int32)) = 10 then
                            ck (inb (i4 + (1 : Int32)) L) <|
                            ck (inb (i4 + (2 : Int32)) L) <|
                            ck (inb (i4 + (3 : Int32)) L) <|
                            ck (inb (i4 + (4 : Int32)) L) <|
                            ck (inb (i4 + (5 : Int32)) L) <|
                            Option.bind (f_L_apart G M r1 (xs (Int32.toNatClampNeg (i4 + (1 : Int32)))) (xs (Int32.toNatClampNeg (i4 + (2 : Int32)))) (xs (Int32.toNatClampNeg (i4 + (3 : Int32)))) (xs (Int32.toNatClampNeg (i4 + (4 : Int32)))) (xs (Int32.toNatClampNeg (i4 + (5 : Int32)))) r3) fun q125 =>
                            ck (isK G r2 9) <|
                            Option.bind (f_X9_apart G q125.2 r2 (xs (Int32.toNatClampNeg (i4 + (1 : Int32)))) (xs (Int32.toNatClampNeg (i4 + (2 : Int32)))) (xs (Int32.toNatClampNeg (i4 + (3 : Int32)))) (xs (Int32.toNatClampNeg (i4 + (4 : Int32)))) (xs (Int32.toNatClampNeg (i4 + (5 : Int32))))) fun q127 =>
                            Option.bind (f_X9_thrown G q127.2 r2) fun q130 =>
                            if q130 = q125.1 then
                              if q125.1 = 0 then
                                ck (isK G r3 11) <|
                                ck (inb (0 : Int32) (G.2.2 r3)) <|
                                if (lg_cmp (q127.2.2.1 r3 (Int32.toNatClampNeg (0 : Int32))) q127.1) = 0 then
                                  rec (i4 + 6) q127.2
                                else
                                  some (.inl (0 : Int32))
                              else
                                rec (i4 + 6) q127.2
                            else
                              some (.inl (0 : Int32))
                          else
                            if ((xs (Int32.toNatClampNeg i4)) &&& (31 : Int32)) = 11 then
                              ck (inb (i4 + (1 : Int32)) L) <|
                              ck (inb (i4 + (2 : Int32)) L) <|
                              ck (inb (i4 + (3 : Int32)) L) <|
                              ck (isK G r1 8) <|
                              Option.bind (f_X8_when G M r1 (xs (Int32.toNatClampNeg (i4 + (1 : Int32)))) (xs (Int32.toNatClampNeg (i4 + (2 : Int32)))) (xs (Int32.toNatClampNeg (i4 + (3 : Int32))))) fun q141 =>
                              ck (isK G r2 9) <|
                              Option.bind (f_X9_when G q141.2 r2 (xs (Int32.toNatClampNeg (i4 + (1 : Int32)))) (xs (Int32.toNatClampNeg (i4 + (2 : Int32)))) (xs (Int32.toNatClampNeg (i4 + (3 : Int32))))) fun q144 =>
                              if q141.1 = q144.1 then
                                rec (i4 + 6) q144.2
                              else
                                some (.inl (0 : Int32))
                            else
                              if ((xs (Int32.toNatClampNeg i4)) &&& (31 : Int32)) = 12 then
                                ck (inb (i4 + (1 : Int32)) L) <|
                                ck (inb (i4 + (2 : Int32)) L) <|
                                ck (inb (i4 + (3 : Int32)) L) <|
                                Option.bind (f_L_stay G M r1 (xs (Int32.toNatClampNeg (i4 + (1 : Int32)))) (xs (Int32.toNatClampNeg (i4 + (2 : Int32)))) (xs (Int32.toNatClampNeg (i4 + (3 : Int32)))) r3) fun q152 =>
                                ck (isK G r2 9) <|
                                Option.bind (f_X9_stay G q152.2 r2 (xs (Int32.toNatClampNeg (i4 + (1 : Int32)))) (xs (Int32.toNatClampNeg (i4 + (2 : Int32)))) (xs (Int32.toNatClampNeg (i4 + (3 : Int32))))) fun q154 =>
                                Option.bind (f_X9_thrown G q154.2 r2) fun q157 =>
                                if q157 = q152.1 then
                                  if q152.1 = 0 then
                                    ck (isK G r3 11) <|
                                    ck (inb (0 : Int32) (G.2.2 r3)) <|
                                    if (lg_cmp (q154.2.2.1 r3 (Int32.toNatClampNeg (0 : Int32))) q154.1) = 0 then
                                      rec (i4 + 6) q154.2
                                    else
                                      some (.inl (0 : Int32))
                                  else
                                    rec (i4 + 6) q154.2
                                else
                                  some (.inl (0 : Int32))
                              else
                                if ((xs (Int32.toNatClampNeg i4)) &&& (31 : Int32)) = 13 then
                                  ck (inb (i4 + (1 : Int32)) L) <|
                                  ck (inb (i4 + (2 : Int32)) L) <|
                                  ck (inb (i4 + (3 : Int32)) L) <|
                                  ck (inb (i4 + (4 : Int32)) L) <|
                                  Option.bind (f_L_steps G M r1 (xs (Int32.toNatClampNeg (i4 + (1 : Int32)))) (xs (Int32.toNatClampNeg (i4 + (2 : Int32)))) (xs (Int32.toNatClampNeg (i4 + (3 : Int32)))) (xs (Int32.toNatClampNeg (i4 + (4 : Int32)))) r3) fun q169 =>
                                  ck (isK G r2 9) <|
                                  Option.bind (f_X9_steps G q169.2 r2 (xs (Int32.toNatClampNeg (i4 + (1 : Int32)))) (xs (Int32.toNatClampNeg (i4 + (2 : Int32)))) (xs (Int32.toNatClampNeg (i4 + (3 : Int32)))) (xs (Int32.toNatClampNeg (i4 + (4 : Int32))))) fun q171 =>
                                  Option.bind (f_X9_thrown G q171.2 r2) fun q174 =>
                                  if q174 = q169.1 then
                                    if q169.1 = 0 then
                                      ck (isK G r3 11) <|
                                      ck (inb (0 : Int32) (G.2.2 r3)) <|
                                      if (lg_cmp (q171.2.2.1 r3 (Int32.toNatClampNeg (0 : Int32))) q171.1) = 0 then
                                        rec (i4 + 6) q171.2
                                      else
                                        some (.inl (0 : Int32))
                                    else
                                      rec (i4 + 6) q171.2
                                  else
                                    some (.inl (0 : Int32))
                                else
                                  if ((xs (Int32.toNatClampNeg i4)) &&& (31 : Int32)) = 14 then
                                    ck (inb (i4 + (1 : Int32)) L) <|
                                    ck (inb (i4 + (2 : Int32)) L) <|
                                    ck (inb (i4 + (3 : Int32)) L) <|
                                    ck (inb (i4 + (4 : Int32)) L) <|
                                    ck (inb (i4 + (5 : Int32)) L) <|
                                    Option.bind (f_L_ahead G M r1 (xs (Int32.toNatClampNeg (i4 + (1 : Int32)))) (xs (Int32.toNatClampNeg (i4 + (2 : Int32)))) (xs (Int32.toNatClampNeg (i4 + (3 : Int32)))) (xs (Int32.toNatClampNeg (i4 + (4 : Int32)))) (xs (Int32.toNatClampNeg (i4 + (5 : Int32)))) r3) fun q187 =>
                                    ck (isK G r2 9) <|
                                    Option.bind (f_X9_ahead G q187.2 r2 (xs (Int32.toNatClampNeg (i4 + (1 : Int32)))) (xs (Int32.toNatClampNeg (i4 + (2 : Int32)))) (xs (Int32.toNatClampNeg (i4 + (3 : Int32)))) (xs (Int32.toNatClampNeg (i4 + (4 : Int32)))) (xs (Int32.toNatClampNeg (i4 + (5 : Int32))))) fun q189 =>
                                    Option.bind (f_X9_thrown G q189.2 r2) fun q192 =>
                                    if q192 = q187.1 then
                                      if q187.1 = 0 then
                                        ck (isK G r3 11) <|
                                        ck (inb (0 : Int32) (G.2.2 r3)) <|
                                        if (lg_cmp (q189.2.2.1 r3 (Int32.toNatClampNeg (0 : Int32))) q189.1) = 0 then
                                          rec (i4 + 6) q189.2
                                        else
                                          some (.inl (0 : Int32))
                                      else
                                        rec (i4 + 6) q189.2
                                    else
                                      some (.inl (0 : Int32))
                                  else
                                    if ((xs (Int32.toNatClampNeg i4)) &&& (31 : Int32)) = 15 then
                                      ck (inb (i4 + (1 : Int32)) L) <|
                                      ck (inb (i4 + (2 : Int32)) L) <|
                                      Option.bind (f_L_narrow G M r1 (xs (Int32.toNatClampNeg (i4 + (1 : Int32)))) (xs (Int32.toNatClampNeg (i4 + (2 : Int32)))) r3) fun q202 =>
                                      ck (isK G r2 9) <|
                                      Option.bind (f_X9_narrow G q202.2 r2 (xs (Int32.toNatClampNeg (i4 + (1 : Int32)))) (xs (Int32.toNatClampNeg (i4 + (2 : Int32))))) fun q204 =>
                                      Option.bind (f_X9_thrown G q204.2 r2) fun q207 =>
                                      if q207 = q202.1 then
                                        if q202.1 = 0 then
                                          ck (isK G r3 11) <|
                                          ck (inb (0 : Int32) (G.2.2 r3)) <|
                                          if (lg_cmp (q204.2.2.1 r3 (Int32.toNatClampNeg (0 : Int32))) q204.1) = 0 then
                                            rec (i4 + 6) q204.2
                                          else
                                            some (.inl (0 : Int32))
                                        else
                                          rec (i4 + 6) q204.2
                                      else
                                        some (.inl (0 : Int32))
                                    else
                                      if ((xs (Int32.toNatClampNeg i4)) &&& (31 : Int32)) = 16 then
                                        ck (inb (i4 + (1 : Int32)) L) <|
                                        ck (isK G r1 8) <|
                                        Option.bind (f_X8_cut G M r1 (xs (Int32.toNatClampNeg (i4 + (1 : Int32))))) fun q216 =>
                                        ck (isK G r2 9) <|
                                        Option.bind (f_X9_cut G q216.2 r2 (xs (Int32.toNatClampNeg (i4 + (1 : Int32))))) fun q219 =>
                                        if q216.1 = q219.1 then
                                          rec (i4 + 6) q219.2
                                        else
                                          some (.inl (0 : Int32))
                                      else
                                        if ((xs (Int32.toNatClampNeg i4)) &&& (31 : Int32)) = 17 then
                                          ck (inb (i4 + (1 : Int32)) L) <|
                                          ck (isK G r1 8) <|
                                          Option.bind (f_X8_count G M r1 (xs (Int32.toNatClampNeg (i4 + (1 : Int32))))) fun q225 =>
                                          ck (isK G r2 9) <|
                                          Option.bind (f_X9_count G M r2 (xs (Int32.toNatClampNeg (i4 + (1 : Int32))))) fun q228 =>
                                          if q225 = q228.1 then
                                            rec (i4 + 6) q228.2
                                          else
                                            some (.inl (0 : Int32))
                                        else
                                          rec (i4 + 6) M
def lp_law (G : Gg) (L : Nat) (xs : Nat → Int32) (r1 r2 r3 : Nat) : Nat → Int32 → Mm → Option (Int32 ⊕ Mm)
  | 0, _, _ => none
  | n + 1, i4, M => bd_law G L xs r1 r2 r3 (lp_law G L xs r1 r2 r3 n) i4 M
