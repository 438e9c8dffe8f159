/-! back of both -/
def bU (n q : Nat) (c : Nat → Nat → Nat) (i j : Nat) : Nat := cW n q c j * c j i
def bL (n q : Nat) (c : Nat → Nat → Nat) (i : Nat) : Nat := cW n q c i * q
def blw (n q : Nat) (c : Nat → Nat → Nat) (i j : Nat) : Nat := bL n q c i / Nat.gcd (bU n q c i j) (bL n q c i)
def bup (n q : Nat) (c : Nat → Nat → Nat) (i j : Nat) : Nat := bU n q c i j / Nat.gcd (bU n q c i j) (bL n q c i)
def blc (x d : Nat) : Nat := x / Nat.gcd x d * d
theorem blc_d {x d : Nat} : d ∣ blc x d := Nat.dvd_mul_left _ _
theorem blc_x {x d : Nat} : x ∣ blc x d := by
  unfold blc
  have h := Nat.gcd_dvd_right x d
  obtain ⟨k, hk⟩ := h
  refine ⟨k, ?_⟩
  have h1 : x / Nat.gcd x d * d = x / Nat.gcd x d * (Nat.gcd x d * k) := by rw [← hk]
  rw [h1, ← Nat.mul_assoc, Nat.div_mul_cancel (Nat.gcd_dvd_left x d)]
theorem blc_p {x d : Nat} (hx : 0 < x) (hd : 0 < d) : 0 < blc x d := by
  unfold blc
  exact Nat.mul_pos (Nat.div_pos (Nat.gcd_le_left d hx) (Nat.gcd_pos_of_pos_left d hx)) hd
/-- the least Q, row by row; none above 60 -/
def bR (low : Nat → Nat) (x : Nat) : Nat → Option Nat
  | 0 => some x
  | j + 1 => (bR low x j).bind (fun y => if blc y (low j) ≤ 60 then some (blc y (low j)) else none)
def bQ (low : Nat → Nat → Nat) (n : Nat) : Nat → Option Nat
  | 0 => some 1
  | i + 1 => (bQ low n i).bind (fun x => bR (low i) x n)
theorem bR_s (low : Nat → Nat) (x j : Nat) : bR low x (j + 1) = (bR low x j).bind (fun y => if blc y (low j) ≤ 60 then some (blc y (low j)) else none) := rfl
theorem bQ_s (low : Nat → Nat → Nat) (n i : Nat) : bQ low n (i + 1) = (bQ low n i).bind (fun x => bR (low i) x n) := rfl
theorem bR_none {low : Nat → Nat} {x j : Nat} (h : bR low x j = none) : ∀ m, j ≤ m → bR low x m = none
  | 0, hm => by
    have : j = 0 := by omega
    subst this; exact h
  | m + 1, hm => by
    by_cases e : j = m + 1
    · subst e; exact h
    · rw [bR_s, bR_none h m (by omega)]
      rfl
theorem bQ_none {low : Nat → Nat → Nat} {n i : Nat} (h : bQ low n i = none) : ∀ m, i ≤ m → bQ low n m = none
  | 0, hm => by
    have : i = 0 := by omega
    subst this; exact h
  | m + 1, hm => by
    by_cases e : i = m + 1
    · subst e; exact h
    · rw [bQ_s, bQ_none h m (by omega)]
      rfl
theorem bR_ok {low : Nat → Nat} {x : Nat} (hx : 0 < x) (hx60 : x ≤ 60) (hl : ∀ j, 0 < low j) : ∀ {j y : Nat}, bR low x j = some y → 0 < y ∧ y ≤ 60 ∧ x ∣ y ∧ ∀ k, k < j → low k ∣ y
  | 0, y, h => by
    have : x = y := Option.some.inj h
    subst this
    exact ⟨hx, hx60, Nat.dvd_refl x, fun k hk => absurd hk (by omega)⟩
  | j + 1, y, h => by
    rw [bR_s] at h
    cases hz : bR low x j with
    | none => rw [hz] at h; cases h
    | some z =>
      rw [hz, Option.bind_some] at h
      obtain ⟨z1, z2, z3, z4⟩ := bR_ok hx hx60 hl hz
      by_cases hc : blc z (low j) ≤ 60
      · rw [if_pos hc] at h
        have : blc z (low j) = y := Option.some.inj h
        subst this
        refine ⟨blc_p z1 (hl j), hc, Nat.dvd_trans z3 blc_x, fun k hk => ?_⟩
        by_cases e : k = j
        · subst e; exact blc_d
        · exact Nat.dvd_trans (z4 k (by omega)) blc_x
      · rw [if_neg hc] at h
        cases h
theorem bQ_ok {low : Nat → Nat → Nat} {n : Nat} (hl : ∀ i j, 0 < low i j) : ∀ {i y : Nat}, bQ low n i = some y → 0 < y ∧ y ≤ 60 ∧ ∀ k j, k < i → j < n → low k j ∣ y
  | 0, y, h => by
    have : 1 = y := Option.some.inj h
    subst this
    exact ⟨by decide, by decide, fun k j hk => absurd hk (by omega)⟩
  | i + 1, y, h => by
    rw [bQ_s] at h
    cases hz : bQ low n i with
    | none => rw [hz] at h; cases h
    | some z =>
      rw [hz, Option.bind_some] at h
      obtain ⟨z1, z2, z3⟩ := bQ_ok hl hz
      obtain ⟨y1, y2, y3, y4⟩ := bR_ok z1 z2 (hl i) h
      refine ⟨y1, y2, fun k j hk hj => ?_⟩
      by_cases e : k = i
      · subst e; exact y4 j hj
      · exact Nat.dvd_trans (z3 k j (by omega) hj) y3
/-- the cells of the chain seen backward, over Q -/
def bkf (n q : Nat) (c : Nat → Nat → Nat) (Q : Nat) : Nat → Nat → Nat := fun i j => if i < n ∧ j < n then bup n q c i j * (Q / blw n q c i j) else 0
section
variable {n q : Nat} {c : Nat → Nat → Nat}
theorem bL_pos (hg : gch n q c) (h1 : ct (lsB (cL c n) n) n = 1) {i : Nat} (hi : i < n) : 0 < bL n q c i := Nat.mul_pos (cW_wp hg h1 hi) hg.2.2.1
theorem blw_pos (hg : gch n q c) (h1 : ct (lsB (cL c n) n) n = 1) {i : Nat} (hi : i < n) (j : Nat) : 0 < blw n q c i j := by
  have hp := bL_pos hg h1 hi
  exact Nat.div_pos (Nat.gcd_le_right _ hp) (Nat.gcd_pos_of_pos_right _ hp)
theorem bU_bd (hg : gch n q c) (i j : Nat) : bU n q c i j ≤ 2 ^ 49 * 60 ∧ bL n q c i ≤ 2 ^ 49 * 60 := by
  have h1 := cW_lt hg i
  have h2 := cW_lt hg j
  have h3 := gch_le hg j i
  have h4 := hg.2.2.2.1
  exact ⟨Nat.mul_le_mul (by omega) (by omega), Nat.mul_le_mul (by omega) h4⟩
theorem bkf_mul (hg : gch n q c) (h1 : ct (lsB (cL c n) n) n = 1) {Q i j : Nat} (hi : i < n) (hj : j < n) (hd : blw n q c i j ∣ Q) : bkf n q c Q i j * bL n q c i = Q * bU n q c i j := by
  have e : bkf n q c Q i j = bup n q c i j * (Q / blw n q c i j) := if_pos ⟨hi, hj⟩
  have hp := bL_pos hg h1 hi
  have hgd : 0 < Nat.gcd (bU n q c i j) (bL n q c i) := Nat.gcd_pos_of_pos_right _ hp
  obtain ⟨x, hx⟩ := Nat.gcd_dvd_left (bU n q c i j) (bL n q c i)
  obtain ⟨y, hy⟩ := Nat.gcd_dvd_right (bU n q c i j) (bL n q c i)
  have e1 : bup n q c i j = x := by
    unfold bup
    generalize Nat.gcd (bU n q c i j) (bL n q c i) = g at *
    rw [hx, Nat.mul_div_cancel_left _ hgd]
  have e2 : blw n q c i j = y := by
    unfold blw
    generalize Nat.gcd (bU n q c i j) (bL n q c i) = g at *
    rw [hy, Nat.mul_div_cancel_left _ hgd]
  rw [e, e1]
  rw [e2] at hd ⊢
  obtain ⟨z, rfl⟩ := hd
  have hy0 : 0 < y := by
    rcases Nat.eq_zero_or_pos y with h | h
    · rw [h, Nat.mul_zero] at hy; omega
    · exact h
  rw [Nat.mul_div_cancel_left _ hy0]
  generalize Nat.gcd (bU n q c i j) (bL n q c i) = g at *
  rw [hx, hy]
  grind
theorem bkf_row (hg : gch n q c) (h1 : ct (lsB (cL c n) n) n = 1) {Q : Nat} (hd : ∀ i j, i < n → j < n → blw n q c i j ∣ Q) : rowQ n Q (bkf n q c Q) := fun i hi => by
  have hp := bL_pos hg h1 hi
  have hst := cW_st hg h1 hi
  have e : bL n q c i * sN (bkf n q c Q i) n = Q * bL n q c i := by
    rw [← sN_mul]
    have e1 : sN (fun k => bL n q c i * bkf n q c Q i k) n = sN (fun k => Q * bU n q c i k) n := sN_congr (fun k hk => by
      rw [Nat.mul_comm]
      exact bkf_mul hg h1 hi hk (hd i k hi hk))
    rw [e1, sN_mul]
    unfold bL bU
    rw [hst]
  rw [Nat.mul_comm Q] at e
  exact Nat.eq_of_mul_eq_mul_left hp e
theorem bkf_z {Q i j : Nat} (h : n ≤ i ∨ n ≤ j) : bkf n q c Q i j = 0 := if_neg (by omega)
theorem bkf_le (hg : gch n q c) (h1 : ct (lsB (cL c n) n) n = 1) {Q : Nat} (hd : ∀ i j, i < n → j < n → blw n q c i j ∣ Q) (i j : Nat) : bkf n q c Q i j ≤ Q := by
  by_cases hi : i < n
  · by_cases hj : j < n
    · have := sN_ge (f := bkf n q c Q i) hj
      rw [bkf_row hg h1 hd i hi] at this
      exact this
    · rw [bkf_z (Or.inr (by omega))]; omega
  · rw [bkf_z (Or.inl (by omega))]; omega
/-- the lows, 1 beyond the states -/
def blo (n q : Nat) (c : Nat → Nat → Nat) : Nat → Nat → Nat := fun i j => if i < n then blw n q c i j else 1
theorem blo_pos (hg : gch n q c) (h1 : ct (lsB (cL c n) n) n = 1) (i j : Nat) : 0 < blo n q c i j := by
  unfold blo
  split
  · rename_i hi; exact blw_pos hg h1 hi j
  · decide
theorem blo_in {i j : Nat} (hi : i < n) : blo n q c i j = blw n q c i j := if_pos hi
end
/-- the least Q of the chain seen backward -/
def bkQ (n q : Nat) (c : Nat → Nat → Nat) : Option Nat := bQ (blo n q c) n n
section
variable {G : Gg} {M : Mm} {A p : Nat → Nat} {tl : Nat} {tv : Nat → Nat} {ol : Nat} {ov ns qs : Nat → Nat} {cs : Nat → Nat → Nat → Nat}
theorem f17_fr {M' : Mm} (h : kCI G M A p tl tv ol ov ns qs cs) (hf : fr M M' [] [A 17]) : kCI G M' A p tl tv ol ov ns qs cs ∧ unt M M' A 53 := ⟨kCI_fr h hf (fun x hx => by simp at hx) (fun x hx => ⟨17, by simp, by simpa using hx⟩), unt_fr hf (fun x hx => by simp at hx) (fun x hx => ⟨17, by decide, by simpa using hx⟩)⟩
theorem pbc_ok (h : kCI G M A p tl tv ol ov ns qs cs) {s i j : Nat} (hs : s < 6) (hn : 0 < ns s) (hwh : ct (lsB (cL (cs s) (ns s)) (ns s)) (ns s) = 1) (hi : i < ns s) (hj : j < ns s) : OK (f_X0_putBackChance G M (A (18 + 5 * p s)) (nI i) (nI j) (A 17)) (fun M' => fr M M' [] [A 17] ∧ M'.2.1 (A 17) 0 = lN (bup (ns s) (qs s) (cs s) i j) ∧ M'.2.1 (A 17) 1 = lN (blw (ns s) (qs s) (cs s) i j)) := by
  obtain ⟨hg, hz, _⟩ := kCI_z h hs hn
  have hn8 := hg.2.1
  have kc := hz.1.1
  have k17 : isK G (A 17) 1 := h.1.2.1 17 (by decide)
  have e1 := isState_p kc hz.1.2.2.2.2.1 hn8 hi
  have e2 := isState_p kc hz.1.2.2.2.2.1 hn8 hj
  have ea := at_eq hz.1 hj hi
  have hq := hz.2.1
  obtain ⟨r5, k5, l5⟩ := hz.2.2.2.2.2.2.1
  have w1 := hz.2.2.2.2.2.2.2.2.2.1 i hi
  have w2 := hz.2.2.2.2.2.2.2.2.2.1 j hj
  have hb := bU_bd hg i j
  have hp := bL_pos hg hwh hi
  have ep := put_eq (M := M) k17 (show bU (ns s) (qs s) (cs s) i j < 2 ^ 63 by omega) (show bL (ns s) (qs s) (cs s) i < 2 ^ 63 by omega) hp
  have hle := gch_le hg j i
  have q60 := hg.2.2.2.1
  refine ⟨mwJ (mwJ M (A 17) 0 (lN (bup (ns s) (qs s) (cs s) i j))) (A 17) 1 (lN (blw (ns s) (qs s) (cs s) i j)), ?_, fr_tr (fr_J in_1) (fr_J in_1), (by rw [mwJ_n (by omega), mwJ_s]), (by rw [mwJ_s])⟩
  have ep' : f_X1_put G M (A 17) (lN (cW (ns s) (qs s) (cs s) j * cs s j i)) (lN (cW (ns s) (qs s) (cs s) i * qs s)) = some (mwJ (mwJ M (A 17) 0 (lN (bU (ns s) (qs s) (cs s) i j / Nat.gcd (bU (ns s) (qs s) (cs s) i j) (bL (ns s) (qs s) (cs s) i)))) (A 17) 1 (lN (bL (ns s) (qs s) (cs s) i / Nat.gcd (bU (ns s) (qs s) (cs s) i j) (bL (ns s) (qs s) (cs s) i)))) := ep
  unfold f_X0_putBackChance
  simp (disch := first | assumption | omega | (refine inb_n ?_ ?_ <;> omega) | fail) only [ck_t, Option.bind_some, iLeP, iLeN, iLtP, iLtN, iEqP, iEqN, nI_1, pk_mul, nI_add, cl_n, zI0, zI1, zI8, bI_z, if_true_eq, if_false_eq, if_true, if_false, lEqP, lEqN, lGtP, lGtN, lLeP, lLeN, lGeP, lGeN, lLtP, lLtN, lN_mul, lN_add, nI_l, pk_lDiv, pk_lRem, ckl, zL0, zL1, e1, e2, r5, l5, ea, w1, w2, hq, ep']
  rfl
theorem backQ_ok (h : kCI G M A p tl tv ol ov ns qs cs) {s : Nat} (hs : s < 6) (hn : 0 < ns s) (hwh : ct (lsB (cL (cs s) (ns s)) (ns s)) (ns s) = 1) : OK (f_X0_backQ G M (A (18 + 5 * p s)) (A 17)) (fun r => fr M r.2 [] [A 17] ∧ ((∃ Q, bkQ (ns s) (qs s) (cs s) = some Q ∧ r.1 = nI Q) ∨ (bkQ (ns s) (qs s) (cs s) = none ∧ r.1 = nI 61))) := by
  obtain ⟨hg, hz, _⟩ := kCI_z h hs hn
  have hn8 := hg.2.1
  have kc := hz.1.1
  have k17 : isK G (A 17) 1 := h.1.2.1 17 (by decide)
  have z60 : (60 : Int64) = lN 60 := rfl
  have z61 : (61 : Int32) = nI 61 := rfl
  have hlo := blo_pos hg hwh
  have row : ∀ i, i < ns s → ∀ (x0 : Nat) (M0 : Mm), 0 < x0 → x0 ≤ 60 → fr M M0 [] [A 17] → OK (lp_X0_backQ_17 G (A (18 + 5 * p s)) (A 17) (nI i) FU (lN x0) (nI 0) M0) (fun r => (∃ y z, r = .inr (lN y, z) ∧ bR (blo (ns s) (qs s) (cs s) i) x0 (ns s) = some y ∧ fr M z [] [A 17]) ∨ (∃ z, r = .inl (nI 61, z) ∧ bR (blo (ns s) (qs s) (cs s) i) x0 (ns s) = none ∧ fr M z [] [A 17])) := fun i hi x0 M0 hx0 hx60 hf0 => by
    refine lpI (fun f i5 (x : Int64 × Mm) => lp_X0_backQ_17 G (A (18 + 5 * p s)) (A 17) (nI i) f x.1 i5 x.2) (fun j x => ∃ y, x.1 = lN y ∧ bR (blo (ns s) (qs s) (cs s) i) x0 j = some y ∧ fr M x.2 [] [A 17]) (ns s) _ (by omega) (fun f j x hj hx => ?_) (fun f x hx => ?_) (j0 := 0) (x := (lN x0, M0)) (by omega) ⟨x0, rfl, rfl, hf0⟩
    · obtain ⟨x1, x2⟩ := x
      obtain ⟨y, e1, e2, e3⟩ := hx
      dsimp only at e1 e3
      subst e1
      obtain ⟨hIx, _⟩ := f17_fr h e3
      obtain ⟨v, a1, a2, a3, a4⟩ := pbc_ok hIx hs hn hwh hi hj
      obtain ⟨y1, y2, y3, y4⟩ := bR_ok hx0 hx60 (hlo i) e2
      have hz0 : x2.1 (A (18 + 5 * p s)) 0 = nI (ns s) := by rw [e3.1 _ (by simp)]; exact hz.1.2.2.2.2.1
      have hbp := blw_pos hg hwh hi j
      have hbl : blw (ns s) (qs s) (cs s) i j ≤ 2 ^ 49 * 60 := Nat.le_trans (Nat.div_le_self _ _) (bU_bd hg i j).2
      have hbs : bR (blo (ns s) (qs s) (cs s) i) x0 (j + 1) = if blc y (blw (ns s) (qs s) (cs s) i j) ≤ 60 then some (blc y (blw (ns s) (qs s) (cs s) i j)) else none := by
        rw [bR_s, e2, Option.bind_some, blo_in hi]
      generalize blw (ns s) (qs s) (cs s) i j = d at *
      have ec := cd_eq (show y < 2 ^ 63 by omega) (show d < 2 ^ 63 by omega)
      have hgp : 0 < Nat.gcd y d := Nat.gcd_pos_of_pos_left _ y1
      have hgl : Nat.gcd y d ≤ y := Nat.gcd_le_left _ y1
      have hdl : y / Nat.gcd y d ≤ y := Nat.div_le_self _ _
      have w : fr M v [] [A 17] := fr_tr e3 a2
      by_cases hd60 : d ≤ 60
      · have hbb : y / Nat.gcd y d * d ≤ 60 * 60 := Nat.mul_le_mul (by omega) hd60
        by_cases hc : blc y d ≤ 60
        · left
          rw [if_pos hc] at hbs
          refine ⟨(lN (blc y d), v), ⟨blc y d, rfl, hbs, w⟩, ?_⟩
          have hc' : y / Nat.gcd y d * d ≤ 60 := hc
          dsimp only
          unfold blc
          rw [lp_X0_backQ_17, bd_X0_backQ_17]
          simp (disch := first | assumption | omega | (refine inb_n ?_ ?_ <;> omega) | fail) only [ck_t, Option.bind_some, iLeP, iLeN, iLtP, iLtN, iEqP, iEqN, nI_1, pk_mul, nI_add, cl_n, zI0, zI1, zI8, bI_z, if_true_eq, if_false_eq, if_true, if_false, lEqP, lEqN, lGtP, lGtN, lLeP, lLeN, lGeP, lGeN, lLtP, lLtN, lN_mul, lN_add, nI_l, pk_lDiv, pk_lRem, ckl, zL0, zL1, hz0, a1, a4, ec, z60]
        · right
          rw [if_neg hc] at hbs
          have hc' : 60 < y / Nat.gcd y d * d := by unfold blc at hc; omega
          refine ⟨.inl (nI 61, v), ?_, Or.inr ⟨v, rfl, bR_none hbs _ (by omega), w⟩⟩
          dsimp only
          rw [lp_X0_backQ_17, bd_X0_backQ_17]
          simp (disch := first | assumption | omega | (refine inb_n ?_ ?_ <;> omega) | fail) only [ck_t, Option.bind_some, iLeP, iLeN, iLtP, iLtN, iEqP, iEqN, nI_1, pk_mul, nI_add, cl_n, zI0, zI1, zI8, bI_z, if_true_eq, if_false_eq, if_true, if_false, lEqP, lEqN, lGtP, lGtN, lLeP, lLeN, lGeP, lGeN, lLtP, lLtN, lN_mul, lN_add, nI_l, pk_lDiv, pk_lRem, ckl, zL0, zL1, hz0, a1, a4, ec, z60, z61]
      · right
        have hc : ¬ blc y d ≤ 60 := fun z => hd60 (Nat.le_trans (Nat.le_of_dvd (blc_p y1 hbp) blc_d) z)
        rw [if_neg hc] at hbs
        refine ⟨.inl (nI 61, v), ?_, Or.inr ⟨v, rfl, bR_none hbs _ (by omega), w⟩⟩
        dsimp only
        rw [lp_X0_backQ_17, bd_X0_backQ_17]
        simp (disch := first | assumption | omega | (refine inb_n ?_ ?_ <;> omega) | fail) only [ck_t, Option.bind_some, iLeP, iLeN, iLtP, iLtN, iEqP, iEqN, nI_1, pk_mul, nI_add, cl_n, zI0, zI1, zI8, bI_z, if_true_eq, if_false_eq, if_true, if_false, lEqP, lEqN, lGtP, lGtN, lLeP, lLeN, lGeP, lGeN, lLtP, lLtN, lN_mul, lN_add, nI_l, pk_lDiv, pk_lRem, ckl, zL0, zL1, hz0, a1, a4, ec, z60, z61]
    · obtain ⟨x1, x2⟩ := x
      obtain ⟨y, e1, e2, e3⟩ := hx
      dsimp only at e1 e3
      subst e1
      have hz0 : x2.1 (A (18 + 5 * p s)) 0 = nI (ns s) := by rw [e3.1 _ (by simp)]; exact hz.1.2.2.2.2.1
      refine ⟨.inr (lN y, x2), ?_, Or.inl ⟨y, x2, rfl, e2, e3⟩⟩
      dsimp only
      rw [lp_X0_backQ_17, bd_X0_backQ_17]
      simp (disch := first | assumption | omega | (refine inb_n ?_ ?_ <;> omega) | fail) only [ck_t, Option.bind_some, iLeP, iLeN, iLtP, iLtN, iEqP, iEqN, nI_1, pk_mul, nI_add, cl_n, zI0, zI1, zI8, bI_z, if_true_eq, if_false_eq, if_true, if_false, hz0]
  have e := lpI (fun f i4 (x : Int64 × Mm) => lp_X0_backQ_5 G (A (18 + 5 * p s)) (A 17) f x.1 i4 x.2) (fun i x => ∃ y, x.1 = lN y ∧ bQ (blo (ns s) (qs s) (cs s)) (ns s) i = some y ∧ fr M x.2 [] [A 17]) (ns s) (fun r => (∃ y z, r = .inr (lN y, z) ∧ bkQ (ns s) (qs s) (cs s) = some y ∧ fr M z [] [A 17]) ∨ (∃ z, r = .inl (nI 61, z) ∧ bkQ (ns s) (qs s) (cs s) = none ∧ fr M z [] [A 17])) (by omega) (fun f i x hi hx => by
    obtain ⟨x1, x2⟩ := x
    obtain ⟨y, e1, e2, e3⟩ := hx
    dsimp only at e1 e3
    subst e1
    obtain ⟨y1, y2, y3⟩ := bQ_ok hlo e2
    obtain ⟨r, a1, a2⟩ := row i hi y x2 y1 y2 e3
    have hz0 : x2.1 (A (18 + 5 * p s)) 0 = nI (ns s) := by rw [e3.1 _ (by simp)]; exact hz.1.2.2.2.2.1
    have hbs : bQ (blo (ns s) (qs s) (cs s)) (ns s) (i + 1) = bR (blo (ns s) (qs s) (cs s) i) y (ns s) := by rw [bQ_s, e2, Option.bind_some]
    rcases a2 with ⟨z, v, rfl, a2, a3⟩ | ⟨v, rfl, a2, a3⟩
    · left
      refine ⟨(lN z, v), ⟨z, rfl, by rw [hbs]; exact a2, a3⟩, ?_⟩
      dsimp only
      rw [lp_X0_backQ_5, bd_X0_backQ_5]
      simp (disch := first | assumption | omega | (refine inb_n ?_ ?_ <;> omega) | fail) only [ck_t, Option.bind_some, iLeP, iLeN, iLtP, iLtN, iEqP, iEqN, nI_1, pk_mul, nI_add, cl_n, zI0, zI1, zI8, bI_z, if_true_eq, if_false_eq, if_true, if_false, hz0, a1, onS]
    · right
      refine ⟨.inl (nI 61, v), ?_, Or.inr ⟨v, rfl, bQ_none (by rw [hbs]; exact a2) _ (by omega), a3⟩⟩
      dsimp only
      rw [lp_X0_backQ_5, bd_X0_backQ_5]
      simp (disch := first | assumption | omega | (refine inb_n ?_ ?_ <;> omega) | fail) only [ck_t, Option.bind_some, iLeP, iLeN, iLtP, iLtN, iEqP, iEqN, nI_1, pk_mul, nI_add, cl_n, zI0, zI1, zI8, bI_z, if_true_eq, if_false_eq, if_true, if_false, hz0, a1, onS]) (fun f x hx => by
    obtain ⟨x1, x2⟩ := x
    obtain ⟨y, e1, e2, e3⟩ := hx
    dsimp only at e1 e3
    subst e1
    have hz0 : x2.1 (A (18 + 5 * p s)) 0 = nI (ns s) := by rw [e3.1 _ (by simp)]; exact hz.1.2.2.2.2.1
    refine ⟨.inr (lN y, x2), ?_, Or.inl ⟨y, x2, rfl, e2, e3⟩⟩
    dsimp only
    rw [lp_X0_backQ_5, bd_X0_backQ_5]
    simp (disch := first | assumption | omega | (refine inb_n ?_ ?_ <;> omega) | fail) only [ck_t, Option.bind_some, iLeP, iLeN, iLtP, iLtN, iEqP, iEqN, nI_1, pk_mul, nI_add, cl_n, zI0, zI1, zI8, bI_z, if_true_eq, if_false_eq, if_true, if_false, hz0]) (j0 := 0) (x := (lN 1, M)) (by omega) ⟨1, rfl, rfl, fr_rf⟩
  obtain ⟨r, e1, e2⟩ := e
  unfold f_X0_backQ
  rw [zI0, zL1, e1, Option.bind_some]
  rcases e2 with ⟨y, z, rfl, e2, e3⟩ | ⟨z, rfl, e2, e3⟩
  · refine ⟨(nI y, z), ?_, e3, Or.inl ⟨y, e2, rfl⟩⟩
    show some (Int64.toInt32 (lN y), z) = _
    rw [lN_i]
  · exact ⟨(nI 61, z), rfl, e3, Or.inr ⟨e2, rfl⟩⟩
theorem mkback_ok (h : kCI G M A p tl tv ol ov ns qs cs) {s Q : Nat} (hs : s < 6) (hn : 0 < ns s) (hwh : ct (lsB (cL (cs s) (ns s)) (ns s)) (ns s) = 1) (hQ : bkQ (ns s) (qs s) (cs s) = some Q) : OK (f_X0_makeBackOf G M (A (18 + 5 * p 6)) (A (18 + 5 * p s)) (A 17)) (fun r => r.1 = nI 1 ∧ dfC G r.2 (A (18 + 5 * p 6)) (A (19 + 5 * p 6)) (ns s) Q (bkf (ns s) (qs s) (cs s) Q) ∧ fr M r.2 [A (18 + 5 * p 6), A (19 + 5 * p 6)] [A 17]) := by
  obtain ⟨hg, hz, _⟩ := kCI_z h hs hn
  obtain ⟨n1, n2, n3⟩ := p_ne h hs
  have hn8 := hg.2.1
  have kc := hz.1.1
  have k17 : isK G (A 17) 1 := h.1.2.1 17 (by decide)
  obtain ⟨c1, ⟨c2, c3, c4⟩, c5⟩ := kCI_ch h n2
  obtain ⟨⟨v, M1⟩, a1, a2, a3⟩ := backQ_ok h hs hn hwh
  dsimp only at a2 a3
  rcases a3 with ⟨Q', a3, rfl⟩ | ⟨a3, _⟩
  · rw [hQ] at a3
    have : Q = Q' := Option.some.inj a3
    subst this
    obtain ⟨q1, q2, q3⟩ := bQ_ok (blo_pos hg hwh) hQ
    have hd : ∀ i j, i < ns s → j < ns s → blw (ns s) (qs s) (cs s) i j ∣ Q := fun i j hi hj => by
      have := q3 i j hi hj
      rw [blo_in hi] at this
      exact this
    obtain ⟨hI1, _⟩ := f17_fr h a2
    obtain ⟨M2, b1, b2, b3⟩ := begin_ok (M := M1) (n := ns s) (q := Q) c1 (by rw [a2.2.2]; exact c2) c3 c4 hg.1 hn8
    have hfl : ∀ x, fr M x [A (18 + 5 * p 6), A (19 + 5 * p 6)] [A 17] → kCI G x A p tl tv ol ov ns qs cs := fun x hx => kCI_fr h hx (fun y hy => by
      simp at hy
      rcases hy with rfl | rfl
      · exact ⟨_, by simp, rfl⟩
      · exact ⟨_, by simp, rfl⟩) (fun y hy => ⟨17, by simp, by simpa using hy⟩)
    have w2 : fr M M2 [A (18 + 5 * p 6), A (19 + 5 * p 6)] [A 17] := fr_tr (fr_sub a2 (fun x hx => by simp at hx) (fun x hx => hx)) (fr_sub b3 (fun x hx => hx) (fun x hx => by simp at hx))
    have na : A (18 + 5 * p 6) ∉ ([] : List Nat) := by simp
    have z0 : (0 : Int64) = lN 0 := rfl
    have row : ∀ i, i < ns s → ∀ M0, fr M M0 [A (18 + 5 * p 6), A (19 + 5 * p 6)] [A 17] → dfC G M0 (A (18 + 5 * p 6)) (A (19 + 5 * p 6)) (ns s) Q (fl2 (bkf (ns s) (qs s) (cs s) Q) i 0) → OK (lp_X0_makeBackOf_38 G (A (18 + 5 * p 6)) (A (18 + 5 * p s)) (A 17) (nI Q) (nI i) FU (nI 0) M0) (fun M' => fr M M' [A (18 + 5 * p 6), A (19 + 5 * p 6)] [A 17] ∧ dfC G M' (A (18 + 5 * p 6)) (A (19 + 5 * p 6)) (ns s) Q (fl2 (bkf (ns s) (qs s) (cs s) Q) (i + 1) 0)) := fun i hi M0 hf0 hd0 => by
      have hzr := fl2_r (t := bkf (ns s) (qs s) (cs s) Q) (n := ns s) (fun x y hy => bkf_z (Or.inr hy)) i
      refine lpI (fun f i5 (x : Mm) => lp_X0_makeBackOf_38 G (A (18 + 5 * p 6)) (A (18 + 5 * p s)) (A 17) (nI Q) (nI i) f i5 x) (fun j x => fr M x [A (18 + 5 * p 6), A (19 + 5 * p 6)] [A 17] ∧ dfC G x (A (18 + 5 * p 6)) (A (19 + 5 * p 6)) (ns s) Q (fl2 (bkf (ns s) (qs s) (cs s) Q) i j)) (ns s) _ (by omega) (fun f j x hj hx => ?_) (fun f x hx => ?_) (by omega) ⟨hf0, hd0⟩
      · obtain ⟨e1, e2⟩ := hx
        left
        obtain ⟨v, g1, g2, g3, g4⟩ := pbc_ok (hfl x e1) hs hn hwh hi hj
        have e2v := dfC_fr e2 g2 (by simp) (by simp)
        have hbp := blw_pos hg hwh hi j
        have hdv := hd i j hi hj
        have hbl : blw (ns s) (qs s) (cs s) i j ≤ Q := Nat.le_of_dvd q1 hdv
        have hle := bkf_le hg hwh hd i j
        have hin : bkf (ns s) (qs s) (cs s) Q i j = bup (ns s) (qs s) (cs s) i j * (Q / blw (ns s) (qs s) (cs s) i j) := if_pos ⟨hi, hj⟩
        obtain ⟨u, d1, d2, d3⟩ := raise_ok (v := bkf (ns s) (qs s) (cs s) Q i j) e2v hi hj (by rw [fl2_at]; omega)
        rw [fl2_at, Nat.zero_add, fl2_s] at d2
        have hz5 := e2.2.2.2.2.1
        have k60 := e2.1
        refine ⟨u, ⟨fr_tr e1 (fr_tr (fr_sub g2 (fun x hx => by simp at hx) (fun x hx => hx)) (fr_sub d3 (fun x hx => by simp at hx; simp [hx]) (fun x hx => by simp at hx))), d2⟩, ?_⟩
        rw [hin] at d1
        rw [lp_X0_makeBackOf_38, bd_X0_makeBackOf_38]
        simp (disch := first | assumption | omega | (refine inb_n ?_ ?_ <;> omega) | fail) only [ck_t, Option.bind_some, iLeP, iLeN, iLtP, iLtN, iEqP, iEqN, nI_1, pk_mul, nI_add, cl_n, zI0, zI1, zI8, bI_z, if_true_eq, if_false_eq, if_true, if_false, lEqP, lEqN, lGtP, lGtN, lLeP, lLeN, lGeP, lGeN, lLtP, lLtN, lN_mul, lN_add, nI_l, pk_lDiv, pk_lRem, ckl, zL0, zL1, hz5, g1, g3, g4, lN_i, d1]
      · obtain ⟨e1, e2⟩ := hx
        have hz5 := e2.2.2.2.2.1
        have k60 := e2.1
        rw [hzr] at e2
        refine ⟨x, ?_, e1, e2⟩
        rw [lp_X0_makeBackOf_38, bd_X0_makeBackOf_38]
        simp (disch := first | assumption | omega | (refine inb_n ?_ ?_ <;> omega) | fail) only [ck_t, Option.bind_some, iLeP, iLeN, iLtP, iLtN, iEqP, iEqN, nI_1, pk_mul, nI_add, cl_n, zI0, zI1, zI8, bI_z, if_true_eq, if_false_eq, if_true, if_false, hz5]
    have e := lpI (fun f i4 (x : Mm) => lp_X0_makeBackOf_26 G (A (18 + 5 * p 6)) (A (18 + 5 * p s)) (A 17) (nI Q) f i4 x) (fun i x => fr M x [A (18 + 5 * p 6), A (19 + 5 * p 6)] [A 17] ∧ dfC G x (A (18 + 5 * p 6)) (A (19 + 5 * p 6)) (ns s) Q (fl2 (bkf (ns s) (qs s) (cs s) Q) i 0)) (ns s) (fun x => fr M x [A (18 + 5 * p 6), A (19 + 5 * p 6)] [A 17] ∧ dfC G x (A (18 + 5 * p 6)) (A (19 + 5 * p 6)) (ns s) Q (bkf (ns s) (qs s) (cs s) Q)) (by omega) (fun f i x hi hx => by
      obtain ⟨e1, e2⟩ := hx
      left
      have hz5 := e2.2.2.2.2.1
      obtain ⟨y, g1, g2, g3⟩ := row i hi x e1 e2
      refine ⟨y, ⟨g2, g3⟩, ?_⟩
      rw [lp_X0_makeBackOf_26, bd_X0_makeBackOf_26]
      simp (disch := first | assumption | omega | (refine inb_n ?_ ?_ <;> omega) | fail) only [ck_t, Option.bind_some, iLeP, iLeN, iLtP, iLtN, iEqP, iEqN, nI_1, pk_mul, nI_add, cl_n, zI0, zI1, zI8, bI_z, if_true_eq, if_false_eq, if_true, if_false, hz5, g1]) (fun f x hx => by
      obtain ⟨e1, e2⟩ := hx
      have hz5 := e2.2.2.2.2.1
      rw [fl2_n (fun x y hx => bkf_z (Or.inl hx))] at e2
      refine ⟨x, ?_, e1, e2⟩
      rw [lp_X0_makeBackOf_26, bd_X0_makeBackOf_26]
      simp (disch := first | assumption | omega | (refine inb_n ?_ ?_ <;> omega) | fail) only [ck_t, Option.bind_some, iLeP, iLeN, iLtP, iLtN, iEqP, iEqN, nI_1, pk_mul, nI_add, cl_n, zI0, zI1, zI8, bI_z, if_true_eq, if_false_eq, if_true, if_false, hz5]) (j0 := 0) (x := M2) (by omega) ⟨w2, by rw [fl2_0]; exact b2⟩
    obtain ⟨x, e1, e2, e3⟩ := e
    have hsz : M1.1 (A (18 + 5 * p s)) 0 = nI (ns s) := by rw [a2.1 _ (by simp)]; exact hz.1.2.2.2.2.1
    refine ⟨(nI 1, x), ?_, rfl, e3, e2⟩
    unfold f_X0_makeBackOf
    simp (disch := first | assumption | omega | (refine inb_n ?_ ?_ <;> omega) | fail) only [ck_t, Option.bind_some, iLeP, iLeN, iLtP, iLtN, iEqP, iEqN, nI_1, pk_mul, nI_add, cl_n, zI0, zI1, zI8, bI_z, if_true_eq, if_false_eq, if_true, if_false, a1, nz60, hsz, b1, e1]
  · rw [hQ] at a3; cases a3
theorem mkback_n (h : kCI G M A p tl tv ol ov ns qs cs) {s : Nat} (hs : s < 6) (hn : 0 < ns s) (hwh : ct (lsB (cL (cs s) (ns s)) (ns s)) (ns s) = 1) (hQ : bkQ (ns s) (qs s) (cs s) = none) : OK (f_X0_makeBackOf G M (A (18 + 5 * p 6)) (A (18 + 5 * p s)) (A 17)) (fun r => r.1 = nI 0 ∧ fr M r.2 [] [A 17]) := by
  obtain ⟨hg, hz, _⟩ := kCI_z h hs hn
  have kc := hz.1.1
  obtain ⟨⟨v, M1⟩, a1, a2, a3⟩ := backQ_ok h hs hn hwh
  dsimp only at a2 a3
  rcases a3 with ⟨Q', a3, _⟩ | ⟨_, rfl⟩
  · rw [hQ] at a3; cases a3
  · refine ⟨(nI 0, M1), ?_, rfl, a2⟩
    unfold f_X0_makeBackOf
    simp (disch := first | assumption | omega | (refine inb_n ?_ ?_ <;> omega) | fail) only [ck_t, Option.bind_some, iLeP, iLeN, iLtP, iLtN, iEqP, iEqN, nI_1, pk_mul, nI_add, cl_n, zI0, zI1, zI8, bI_z, if_true_eq, if_false_eq, if_true, if_false, a1, nz60]
    exact if_neg (by decide)
def bkOK (ns qs : Nat → Nat) (cs : Nat → Nat → Nat → Nat) (i1 i2 : Int32) (s t Q : Nat) : Prop := s < 6 ∧ i1 = nI s ∧ 0 < ns s ∧ t < 6 ∧ i2 = nI t ∧ ct (lsB (cL (cs s) (ns s)) (ns s)) (ns s) = 1 ∧ bkQ (ns s) (qs s) (cs s) = some Q
theorem kback_p (h : kCI G M A p tl tv ol ov ns qs cs) {i1 i2 : Int32} {s t Q : Nat} (ho : bkOK ns qs cs i1 i2 s t Q) : OK (f_X8_back G M (A 0) i1 i2) (fun r => r.1 = nI (Q / gD Q (bkf (ns s) (qs s) (cs s) Q)) ∧ kCI G r.2 A (swp p t) tl tv ol ov (ud ns t (ns s)) (ud qs t (Q / gD Q (bkf (ns s) (qs s) (cs s) Q))) (ud3 cs t (fun i j => bkf (ns s) (qs s) (cs s) Q i j / gD Q (bkf (ns s) (qs s) (cs s) Q))) ∧ unt M r.2 A 53) := by
  obtain ⟨hs, rfl, hn, ht, rfl, hwh, hQ⟩ := ho
  obtain ⟨hg, hz, _⟩ := kCI_z h hs hn
  have hp6 : p 6 < 7 := h.2.2.1.1 6 (by decide)
  obtain ⟨⟨v, M1⟩, a1, a2, a3, a4⟩ := mkback_ok h hs hn hwh hQ
  dsimp only at a2 a3 a4
  subst a2
  obtain ⟨q1, q2, q3⟩ := bQ_ok (blo_pos hg hwh) hQ
  have hd : ∀ i j, i < ns s → j < ns s → blw (ns s) (qs s) (cs s) i j ∣ Q := fun i j hi hj => by
    have := q3 i j hi hj
    rw [blo_in hi] at this
    exact this
  have hI1 : kCI G M1 A p tl tv ol ov ns qs cs := kCI_fr h a4 (fun y hy => by
    simp at hy
    rcases hy with rfl | rfl
    · exact ⟨_, by simp, rfl⟩
    · exact ⟨_, by simp, rfl⟩) (fun y hy => ⟨17, by simp, by simpa using hy⟩)
  have u1 : unt M M1 A 53 := unt_fr a4 (fun y hy => by
    simp at hy
    rcases hy with rfl | rfl
    · exact ⟨_, by omega, rfl⟩
    · exact ⟨_, by omega, rfl⟩) (fun y hy => ⟨17, by decide, by simpa using hy⟩)
  have hle : Q / gD Q (bkf (ns s) (qs s) (cs s) Q) ≤ 60 := Nat.le_trans (Nat.div_le_self _ _) q2
  obtain ⟨⟨v2, M2⟩, b1, b2, b3, b4⟩ := place_ok hI1 ht a3 hg.1 q1 (by omega) (bkf_row hg hwh hd) (fun i j hij => bkf_z hij) hle
  dsimp only at b2 b3 b4
  subst b2
  refine ⟨(nI (Q / gD Q (bkf (ns s) (qs s) (cs s) Q)), M2), ?_, rfl, b3, unt_tr u1 b4⟩
  have k0 : isK G (A 0) 8 := h.1.2.1 0 (by decide)
  have kc := hz.1.1
  have kd6 := a3.1
  have e1 := chainIn_p h hs hn
  have e2 := isSlot_p ht
  have e3 := isWhole_eq hz
  rw [decide_eq_true hwh] at e3
  have r4 := h.2.1.1.2.2.2.1
  have r9 := h.2.1.1.2.2.2.2.2.2.2.2
  unfold f_X8_back
  simp (disch := first | assumption | omega | (refine inb_n ?_ ?_ <;> omega) | fail) only [ck_t, Option.bind_some, iLeP, iLeN, iLtP, iLtN, iEqP, iEqN, nI_1, pk_mul, nI_add, cl_n, zI0, zI1, zI8, bI_z, if_true_eq, if_false_eq, if_true, if_false, e1, onE, e2, e3, r4, r9, a1, b1]
theorem kback_n (h : kCI G M A p tl tv ol ov ns qs cs) {i1 i2 : Int32} (ho : ¬ ∃ s t Q, bkOK ns qs cs i1 i2 s t Q) : OK (f_X8_back G M (A 0) i1 i2) (fun r => r.1 = -1 ∧ kCI G r.2 A p tl tv ol ov ns qs cs ∧ unt M r.2 A 53) := by
  have k0 : isK G (A 0) 8 := h.1.2.1 0 (by decide)
  unfold f_X8_back
  by_cases h1 : slo ns i1
  · obtain ⟨s, hs, rfl, hn⟩ := h1
    obtain ⟨hg, hz, _⟩ := kCI_z h hs hn
    have hp6 : p 6 < 7 := h.2.2.1.1 6 (by decide)
    have kc := hz.1.1
    have e1 := chainIn_p h hs hn
    by_cases h2 : isl i2
    · obtain ⟨t, ht, rfl⟩ := h2
      have e2 := isSlot_p ht
      have e3 := isWhole_eq hz
      by_cases hwh : ct (lsB (cL (cs s) (ns s)) (ns s)) (ns s) = 1
      · rw [decide_eq_true hwh] at e3
        have hQ : bkQ (ns s) (qs s) (cs s) = none := by
          cases hq : bkQ (ns s) (qs s) (cs s) with
          | none => rfl
          | some Q => exact absurd ⟨s, t, Q, hs, rfl, hn, ht, rfl, hwh, hq⟩ ho
        obtain ⟨⟨v, M1⟩, a1, a2, a3⟩ := mkback_n h hs hn hwh hQ
        dsimp only at a2 a3
        subst a2
        obtain ⟨hI1, u1⟩ := f17_fr h a3
        have kd6 := (kCI_ch h hp6).1
        have r4 := h.2.1.1.2.2.2.1
        have r9 := h.2.1.1.2.2.2.2.2.2.2.2
        refine ⟨(-1, M1), ?_, rfl, hI1, u1⟩
        simp (disch := first | assumption | omega | (refine inb_n ?_ ?_ <;> omega) | fail) only [ck_t, Option.bind_some, iLeP, iLeN, iLtP, iLtN, iEqP, iEqN, nI_1, pk_mul, nI_add, cl_n, zI0, zI1, zI8, bI_z, if_true_eq, if_false_eq, if_true, if_false, e1, onE, e2, e3, r4, r9, a1]
      · rw [decide_eq_false hwh] at e3
        refine ⟨(-1, M), ?_, rfl, h, unt_rf _ _ _⟩
        simp (disch := first | assumption | omega | (refine inb_n ?_ ?_ <;> omega) | fail) only [ck_t, Option.bind_some, iLeP, iLeN, iLtP, iLtN, iEqP, iEqN, nI_1, pk_mul, nI_add, cl_n, zI0, zI1, zI8, bI_z, if_true_eq, if_false_eq, if_true, if_false, e1, onE, e2, e3]
    · have e2 := isSlot_n h2
      refine ⟨(-1, M), ?_, rfl, h, unt_rf _ _ _⟩
      simp (disch := first | assumption | omega | (refine inb_n ?_ ?_ <;> omega) | fail) only [ck_t, Option.bind_some, iLeP, iLeN, iLtP, iLtN, iEqP, iEqN, nI_1, pk_mul, nI_add, cl_n, zI0, zI1, zI8, bI_z, if_true_eq, if_false_eq, if_true, if_false, e1, onE, e2]
  · have e1 := chainIn_n h h1
    refine ⟨(-1, M), ?_, rfl, h, unt_rf _ _ _⟩
    simp (disch := first | assumption | omega | (refine inb_n ?_ ?_ <;> omega) | fail) only [ck_t, Option.bind_some, iLeP, iLeN, iLtP, iLtN, iEqP, iEqN, nI_1, pk_mul, nI_add, cl_n, zI0, zI1, zI8, bI_z, if_true_eq, if_false_eq, if_true, if_false, e1, onE]
end
