/-! the reference: who leads where, heaps, closed heaps, beats -/
theorem bT1P {α : Type} {S i : Nat} {x y : α} (h : S.testBit i = true) (hS : S < 2 ^ 31) (hi : i < 32) : (if (nI S >>> (nI i &&& 31)) &&& nI 1 = nI 1 then x else y) = x := if_pos ((bit_1 hS hi).mpr h)
theorem bT1N {α : Type} {S i : Nat} {x y : α} (h : S.testBit i = false) (hS : S < 2 ^ 31) (hi : i < 32) : (if (nI S >>> (nI i &&& 31)) &&& nI 1 = nI 1 then x else y) = y := if_neg (fun e => by rw [(bit_1 hS hi).mp e] at h; cases h)
theorem bT0P {α : Type} {S i : Nat} {x y : α} (h : S.testBit i = false) (hS : S < 2 ^ 31) (hi : i < 32) : (if (nI S >>> (nI i &&& 31)) &&& nI 1 = nI 0 then x else y) = x := if_pos ((bit_0 hS hi).mpr h)
theorem bT0N {α : Type} {S i : Nat} {x y : α} (h : S.testBit i = true) (hS : S < 2 ^ 31) (hi : i < 32) : (if (nI S >>> (nI i &&& 31)) &&& nI 1 = nI 0 then x else y) = y := if_neg (fun e => by rw [(bit_0 hS hi).mp e] at h; cases h)
theorem m1_ne {k : Nat} (h : k < 2 ^ 31) : nI k ≠ -nI 1 := fun e => by
  have h1 : ¬ nI k < nI 0 := nI_pos h
  rw [e] at h1
  exact h1 (by decide)
theorem m1N {α : Type} {k : Nat} {x y : α} (h : k < 2 ^ 31) : (if nI k = -nI 1 then x else y) = y := if_neg (m1_ne h)
/-- what reach leaves behind -/
def reS (M : Mm) (R : Nat → Nat) (n : Nat) (c : Nat → Nat → Nat) : Prop := (∀ i, i < n → M.1 (R 5) i = nI (rL c n i)) ∧ (∀ i, i < n → M.1 (R 6) i = nI (hnm c n i)) ∧ M.1 (R 0) 8 = nI (ct (lsB (cL c n) n) n)
theorem fw_row0 {b : Nat → Nat → Bool} {n k i : Nat} (h : fw b k i k = false) : mkS (fw b (k + 1) i) n = mkS (fw b k i) n := by
  have := fw_row b n k i
  rw [h] at this
  rw [← this]
  exact Nat.or_zero _
theorem fw_row1 {b : Nat → Nat → Bool} {n k i : Nat} (h : fw b k i k = true) : mkS (fw b k i) n ||| mkS (fw b k k) n = mkS (fw b (k + 1) i) n := by
  have := fw_row b n k i
  rw [h] at this
  exact this
section
variable {G : Gg} {M : Mm} {R : Nat → Nat} {tl : Nat} {tv : Nat → Nat} {ol : Nat} {ov ns qs : Nat → Nat} {cs : Nat → Nat → Nat → Nat}
theorem rat_c (h : rRI G M R tl tv ol ov ns qs cs) {s i j : Nat} (hs : s < 6) (hn : 0 < ns s) (hi : i < ns s) (hj : j < ns s) : f_X9_at G M (R 0) (nI s) (nI i) (nI j) = some (nI (cs s i j)) := by
  obtain ⟨hg, c1, c2, c3⟩ := slo_c h hs hn
  have := hg.2.1
  rw [rat_eq h.1 h.2.1 (show s < 7 by omega) (show i < 8 by omega) (show j < 8 by omega), c3 i j hi hj]
theorem fr_5 {M M' : Mm} (hs : shR G R) {k : Nat} (hk : k = 5 ∨ k = 6) (hf : fr M M' [R k] []) : rfr M M' R := rfr_fr hs hf (fun x hx => ⟨k, by omega, by simpa using hx⟩) (fun x hx => by simp at hx)
theorem reach_1 (h : rRI G M R tl tv ol ov ns qs cs) {s : Nat} (hs : s < 6) (hn : 0 < ns s) : OK (lp_X9_reach_9 G (R 0) (nI s) (nI (ns s)) FU (nI 0) M) (fun M' => fr M M' [R 5] [] ∧ ∀ i, i < ns s → M'.1 (R 5) i = nI (mkS (fw (cB (cs s)) 0 i) (ns s))) := by
  obtain ⟨hg, c1, c2, c3⟩ := slo_c h hs hn
  have hn8 := hg.2.1
  have k0 : isK G (R 0) 9 := h.1.2.1 0 (by decide)
  have k5 : isK G (R 5) 10 := h.1.2.1 5 (by decide)
  have l5 : G.2.2 (R 5) = 8 := h.1.2.2 5 (by decide) (by decide)
  refine lpI (fun f1 i3 (x : Mm) => lp_X9_reach_9 G (R 0) (nI s) (nI (ns s)) f1 i3 x) (fun i x => fr M x [R 5] [] ∧ ∀ a, a < i → x.1 (R 5) a = nI (mkS (fw (cB (cs s)) 0 a) (ns s))) (ns s) _ (by omega) (fun f1 i x hi hx => ?_) (fun f1 x hx => ?_) (by omega) ⟨fr_rf, fun a ha => absurd ha (by omega)⟩
  · obtain ⟨e1, e2⟩ := hx
    left
    have e := lpI (fun f1 i4 (y : Mm) => lp_X9_reach_24 G (R 0) (nI s) (nI (ns s)) (nI i) f1 i4 y) (fun j y => fr M y [R 5] [] ∧ (∀ a, a < i → y.1 (R 5) a = nI (mkS (fw (cB (cs s)) 0 a) (ns s))) ∧ y.1 (R 5) i = nI (mkS (fw (cB (cs s)) 0 i) j)) (ns s) (fun y => fr M y [R 5] [] ∧ (∀ a, a < i → y.1 (R 5) a = nI (mkS (fw (cB (cs s)) 0 a) (ns s))) ∧ y.1 (R 5) i = nI (mkS (fw (cB (cs s)) 0 i) (ns s))) (by omega) (fun f2 j y hj hy => by
      obtain ⟨g1, g2, g3⟩ := hy
      left
      have hy' := rRI_r h (fr_5 h.1 (Or.inl rfl) g1)
      have ea := rat_c hy' hs hn hi hj
      have hle := gch_le hg i j
      have hq6 := hg.2.2.2.1
      have r6 := hy'.2.1.2.2.2.2.1
      have es := sh_1 (show j < 31 by omega)
      rw [zI1] at es
      by_cases hc : 0 < cs s i j
      · have hb : fw (cB (cs s)) 0 i j = true := decide_eq_true hc
        refine ⟨mwI y (R 5) i (nI (mkS (fw (cB (cs s)) 0 i) (j + 1))), ⟨fr_tr g1 (fr_I in_1), fun a ha => by rw [mwI_n (by omega)]; exact g2 a ha, mwI_s⟩, ?_⟩
        rw [lp_X9_reach_24, bd_X9_reach_24]
        rw [mkS_s, hb]
        simp (disch := first | assumption | omega | (refine inb_n ?_ ?_ <;> omega) | fail) only [ck_t, Option.bind_some, iLeP, iLeN, iLtP, iLtN, iEqP, iEqN, nI_1, pk_mul, nI_add, cl_n, zI0, zI1, zI8, bI_z, if_true_eq, if_false_eq, if_true, if_false, ea, r6, l5, g3, es, nI_or]
      · have hb : fw (cB (cs s)) 0 i j = false := decide_eq_false hc
        refine ⟨y, ⟨g1, g2, ?_⟩, ?_⟩
        · rw [mkS_s, hb, g3]
          rw [if_neg (by decide), or_0]
        · rw [lp_X9_reach_24, bd_X9_reach_24]
          simp (disch := first | assumption | omega | (refine inb_n ?_ ?_ <;> omega) | fail) only [ck_t, Option.bind_some, iLeP, iLeN, iLtP, iLtN, iEqP, iEqN, nI_1, pk_mul, nI_add, cl_n, zI0, zI1, zI8, bI_z, if_true_eq, if_false_eq, if_true, if_false, ea]) (fun f2 y hy => by
      refine ⟨y, ?_, hy⟩
      rw [lp_X9_reach_24, bd_X9_reach_24]
      simp (disch := first | assumption | omega | (refine inb_n ?_ ?_ <;> omega) | fail) only [ck_t, Option.bind_some, iLeP, iLeN, iLtP, iLtN, iEqP, iEqN, nI_1, pk_mul, nI_add, cl_n, zI0, zI1, zI8, bI_z, if_true_eq, if_false_eq, if_true, if_false]) (j0 := 0) (x := mwI x (R 5) i (nI 0)) (by omega) ⟨fr_tr e1 (fr_I in_1), fun a ha => by rw [mwI_n (by omega)]; exact e2 a ha, mwI_s⟩
    obtain ⟨y, a1, a2, a3, a4⟩ := e
    have r6 : x.2.2 (R 0) 6 = some (R 5) := by rw [e1.2.2]; exact h.2.1.2.2.2.2.1
    refine ⟨y, ⟨a2, fun a ha => ?_⟩, ?_⟩
    · by_cases hai : a = i
      · subst hai; exact a4
      · exact a3 a (by omega)
    · rw [lp_X9_reach_9, bd_X9_reach_9]
      simp (disch := first | assumption | omega | (refine inb_n ?_ ?_ <;> omega) | fail) only [ck_t, Option.bind_some, iLeP, iLeN, iLtP, iLtN, iEqP, iEqN, nI_1, pk_mul, nI_add, cl_n, zI0, zI1, zI8, bI_z, if_true_eq, if_false_eq, if_true, if_false, r6, l5, a1]
  · refine ⟨x, ?_, hx⟩
    rw [lp_X9_reach_9, bd_X9_reach_9]
    simp (disch := first | assumption | omega | (refine inb_n ?_ ?_ <;> omega) | fail) only [ck_t, Option.bind_some, iLeP, iLeN, iLtP, iLtN, iEqP, iEqN, nI_1, pk_mul, nI_add, cl_n, zI0, zI1, zI8, bI_z, if_true_eq, if_false_eq, if_true, if_false]
theorem reach_2 (hs : shR G R) (hr : rfR M R) {n : Nat} {b : Nat → Nat → Bool} (hn : n ≤ 8) (h0 : ∀ i, i < n → M.1 (R 5) i = nI (mkS (fw b 0 i) n)) : OK (lp_X9_reach_68 G (R 0) (nI n) FU (nI 0) M) (fun M' => fr M M' [R 5] [] ∧ ∀ i, i < n → M'.1 (R 5) i = nI (mkS (fw b n i) n)) := by
  have k0 : isK G (R 0) 9 := hs.2.1 0 (by decide)
  have k5 : isK G (R 5) 10 := hs.2.1 5 (by decide)
  have l5 : G.2.2 (R 5) = 8 := hs.2.2 5 (by decide) (by decide)
  refine lpI (fun f1 i3 (x : Mm) => lp_X9_reach_68 G (R 0) (nI n) f1 i3 x) (fun k x => fr M x [R 5] [] ∧ ∀ a, a < n → x.1 (R 5) a = nI (mkS (fw b k a) n)) n _ (by omega) (fun f1 k x hk hx => ?_) (fun f1 x hx => ?_) (by omega) ⟨fr_rf, h0⟩
  · obtain ⟨e1, e2⟩ := hx
    left
    have e := lpI (fun f1 i4 (y : Mm) => lp_X9_reach_76 G (R 0) (nI n) (nI k) f1 i4 y) (fun j y => fr M y [R 5] [] ∧ ∀ a, a < n → y.1 (R 5) a = nI (mkS (fw b (if a < j then k + 1 else k) a) n)) n (fun y => fr M y [R 5] [] ∧ ∀ a, a < n → y.1 (R 5) a = nI (mkS (fw b (k + 1) a) n)) (by omega) (fun f2 j y hj hy => by
      obtain ⟨g1, g2⟩ := hy
      left
      have r6 : y.2.2 (R 0) 6 = some (R 5) := by rw [g1.2.2]; exact hr.2.2.2.2.1
      have ej := g2 j hj
      rw [if_neg (by omega)] at ej
      have ek : y.1 (R 5) k = nI (mkS (fw b k k) n) := by
        rw [g2 k hk]
        congr 1
        by_cases hkj : k < j
        · rw [if_pos hkj]
          exact mkS_congr (fun i _ => fw_kk _ _ _)
        · rw [if_neg hkj]
      have k1 := mkS_8 (fw b k j) hn
      have hb : (mkS (fw b k j) n).testBit k = fw b k j k := by rw [mkS_t, decide_eq_true hk, Bool.true_and]
      by_cases hc : fw b k j k = true
      · rw [hc] at hb
        refine ⟨mwI y (R 5) j (nI (mkS (fw b (k + 1) j) n)), ⟨fr_tr g1 (fr_I in_1), fun i hi => ?_⟩, ?_⟩
        · by_cases hij : i = j
          · subst hij; rw [mwI_s, if_pos (by omega)]
          · rw [mwI_n (Or.inr hij), g2 i hi]
            by_cases hlt : i < j
            · rw [if_pos hlt, if_pos (by omega)]
            · rw [if_neg hlt, if_neg (by omega)]
        · rw [lp_X9_reach_76, bd_X9_reach_76]
          rw [← fw_row1 hc]
          simp (disch := first | assumption | omega | (refine inb_n ?_ ?_ <;> omega) | fail) only [ck_t, Option.bind_some, iLeP, iLeN, iLtP, iLtN, iEqP, iEqN, nI_1, pk_mul, nI_add, cl_n, zI0, zI1, zI8, bI_z, if_true_eq, if_false_eq, if_true, if_false, r6, l5, ej, ek, bT1P, nI_or]
      · rw [Bool.not_eq_true] at hc
        rw [hc] at hb
        refine ⟨y, ⟨g1, fun i hi => ?_⟩, ?_⟩
        · rw [g2 i hi]
          by_cases hij : i = j
          · subst hij
            rw [if_neg (by omega), if_pos (by omega), fw_row0 hc]
          · by_cases hlt : i < j
            · rw [if_pos hlt, if_pos (by omega)]
            · rw [if_neg hlt, if_neg (by omega)]
        · rw [lp_X9_reach_76, bd_X9_reach_76]
          simp (disch := first | assumption | omega | (refine inb_n ?_ ?_ <;> omega) | fail) only [ck_t, Option.bind_some, iLeP, iLeN, iLtP, iLtN, iEqP, iEqN, nI_1, pk_mul, nI_add, cl_n, zI0, zI1, zI8, bI_z, if_true_eq, if_false_eq, if_true, if_false, r6, l5, ej, bT1N]) (fun f2 y hy => by
      refine ⟨y, ?_, hy.1, fun a ha => by have := hy.2 a ha; rw [if_pos ha] at this; exact this⟩
      rw [lp_X9_reach_76, bd_X9_reach_76]
      simp (disch := first | assumption | omega | (refine inb_n ?_ ?_ <;> omega) | fail) only [ck_t, Option.bind_some, iLeP, iLeN, iLtP, iLtN, iEqP, iEqN, nI_1, pk_mul, nI_add, cl_n, zI0, zI1, zI8, bI_z, if_true_eq, if_false_eq, if_true, if_false]) (j0 := 0) (x := x) (by omega) ⟨e1, fun a ha => by rw [if_neg (by omega)]; exact e2 a ha⟩
    obtain ⟨y, a1, a2, a3⟩ := e
    refine ⟨y, ⟨a2, a3⟩, ?_⟩
    rw [lp_X9_reach_68, bd_X9_reach_68]
    simp (disch := first | assumption | omega | (refine inb_n ?_ ?_ <;> omega) | fail) only [ck_t, Option.bind_some, iLeP, iLeN, iLtP, iLtN, iEqP, iEqN, nI_1, pk_mul, nI_add, cl_n, zI0, zI1, zI8, bI_z, if_true_eq, if_false_eq, if_true, if_false, a1]
  · refine ⟨x, ?_, hx⟩
    rw [lp_X9_reach_68, bd_X9_reach_68]
    simp (disch := first | assumption | omega | (refine inb_n ?_ ?_ <;> omega) | fail) only [ck_t, Option.bind_some, iLeP, iLeN, iLtP, iLtN, iEqP, iEqN, nI_1, pk_mul, nI_add, cl_n, zI0, zI1, zI8, bI_z, if_true_eq, if_false_eq, if_true, if_false]
theorem isTo_eq (hs : shR G R) (hr : rfR M R) {n i j : Nat} {c : Nat → Nat → Nat} (hn : n ≤ 8) (hi : i < n) (hj : j < n) (h5 : M.1 (R 5) i = nI (rL c n i)) : f_X9_isTo G M (R 0) (nI i) (nI j) = some (bI (fw (cB c) n i j)) := by
  have k0 : isK G (R 0) 9 := hs.2.1 0 (by decide)
  have k5 : isK G (R 5) 10 := hs.2.1 5 (by decide)
  have l5 : G.2.2 (R 5) = 8 := hs.2.2 5 (by decide) (by decide)
  have r6 := hr.2.2.2.2.1
  have hb := rL_t (c := c) (n := n) (i := i) hj
  have b8 := p2_31 hn
  have k1 := rL_lt c n i
  unfold f_X9_isTo
  by_cases hc : fw (cB c) n i j = true
  · rw [hc] at hb
    simp (disch := first | assumption | omega | (refine inb_n ?_ ?_ <;> omega) | fail) only [ck_t, Option.bind_some, iLeP, iLeN, iLtP, iLtN, iEqP, iEqN, nI_1, pk_mul, nI_add, cl_n, zI0, zI1, zI8, bI_z, if_true_eq, if_false_eq, if_true, if_false, r6, l5, h5, bT1P, hc]
    rfl
  · rw [Bool.not_eq_true] at hc
    rw [hc] at hb
    simp (disch := first | assumption | omega | (refine inb_n ?_ ?_ <;> omega) | fail) only [ck_t, Option.bind_some, iLeP, iLeN, iLtP, iLtN, iEqP, iEqN, nI_1, pk_mul, nI_add, cl_n, zI0, zI1, zI8, bI_z, if_true_eq, if_false_eq, if_true, if_false, r6, l5, h5, bT1N, hc]
    rfl
theorem mB_ne {c : Nat → Nat → Nat} {n i j : Nat} (h : i ≠ j) : mB c n i j = (fw (cB c) n i j && fw (cB c) n j i) := by
  unfold mB
  rw [lB_rl, lB_rl, decide_eq_false h, decide_eq_false (fun z => h z.symm), Bool.or_false, Bool.or_false]
theorem hnm_8 {c : Nat → Nat → Nat} {n : Nat} (i : Nat) : hnm c n i ≤ n := by
  have h1 := ct_le (lsB (cL c n) n) (lst c n i)
  have h2 := fst1_le (mB c n i) n
  unfold hnm lst at *
  omega
/-- a state's heap: that of an earlier one, or none yet -/
theorem reach_3 (hs : shR G R) (hr : rfR M R) {n i : Nat} {c : Nat → Nat → Nat} (hn : n ≤ 8) (hi : i < n) (h5 : ∀ a, a < n → M.1 (R 5) a = nI (rL c n a)) (h6 : ∀ a, a < i → M.1 (R 6) a = nI (hnm c n a)) (h7 : M.1 (R 6) i = -nI 1) : OK (lp_X9_reach_147 G (R 0) (nI n) (nI i) FU (nI 0) M) (fun M' => fr M M' [R 6] [] ∧ (∀ a, a < i → M'.1 (R 6) a = nI (hnm c n a)) ∧ ((M'.1 (R 6) i = -nI 1 ∧ ∀ j, j < i → mB c n i j = false) ∨ (M'.1 (R 6) i = nI (hnm c n i) ∧ ∃ j, j < i ∧ mB c n i j = true))) := by
  have k0 : isK G (R 0) 9 := hs.2.1 0 (by decide)
  have k6 : isK G (R 6) 10 := hs.2.1 6 (by decide)
  have l6 : G.2.2 (R 6) = 8 := hs.2.2 6 (by decide) (by decide)
  have n56 : R 5 ∉ [R 6] := ne_in (sR_ne hs (by decide) (by decide) (by decide))
  refine lpI (fun f1 i4 (x : Mm) => lp_X9_reach_147 G (R 0) (nI n) (nI i) f1 i4 x) (fun j x => fr M x [R 6] [] ∧ (∀ a, a < i → x.1 (R 6) a = nI (hnm c n a)) ∧ ((x.1 (R 6) i = -nI 1 ∧ ∀ k, k < j → mB c n i k = false) ∨ (x.1 (R 6) i = nI (hnm c n i) ∧ ∃ k, k < i ∧ mB c n i k = true))) i _ (by omega) (fun f1 j x hj hx => ?_) (fun f1 x hx => ?_) (by omega) ⟨fr_rf, h6, Or.inl ⟨h7, fun k hk => absurd hk (by omega)⟩⟩
  · obtain ⟨e1, e2, e3⟩ := hx
    have hr' : rfR x R := by unfold rfR; rw [e1.2.2]; exact hr
    have r7 := hr'.2.2.2.2.2.1
    rcases e3 with ⟨e3, e4⟩ | ⟨e3, e4⟩
    · left
      have t1 := isTo_eq (j := j) hs hr' hn hi (show j < n by omega) (by rw [e1.1 _ n56]; exact h5 i hi)
      have t2 := isTo_eq (j := i) hs hr' hn (show j < n by omega) hi (by rw [e1.1 _ n56]; exact h5 j (by omega))
      have hm := mB_ne (c := c) (n := n) (show i ≠ j by omega)
      by_cases hb : fw (cB c) n i j = true
      · by_cases hb2 : fw (cB c) n j i = true
        · rw [hb, hb2] at hm
          rw [hb] at t1
          rw [hb2] at t2
          have e5 := e2 j hj
          have hh : hnm c n j = hnm c n i := ((hnm_eq hi (by omega)).mpr hm).symm
          refine ⟨mwI x (R 6) i (nI (hnm c n i)), ⟨fr_tr e1 (fr_I in_1), fun a ha => by rw [mwI_n (by omega)]; exact e2 a ha, Or.inr ⟨mwI_s, j, hj, hm⟩⟩, ?_⟩
          rw [← hh]
          rw [lp_X9_reach_147, bd_X9_reach_147]
          simp (disch := first | assumption | omega | (refine inb_n ?_ ?_ <;> omega) | fail) only [ck_t, Option.bind_some, iLeP, iLeN, iLtP, iLtN, iEqP, iEqN, nI_1, pk_mul, nI_add, cl_n, zI0, zI1, zI8, bI_z, if_true_eq, if_false_eq, if_true, if_false, r7, l6, e3, t1, t2, e5]
        · rw [Bool.not_eq_true] at hb2
          rw [hb, hb2] at hm
          rw [hb] at t1
          rw [hb2] at t2
          refine ⟨x, ⟨e1, e2, Or.inl ⟨e3, fun k hk => ?_⟩⟩, ?_⟩
          · by_cases hkj : k = j
            · subst hkj; exact hm
            · exact e4 k (by omega)
          · rw [lp_X9_reach_147, bd_X9_reach_147]
            simp (disch := first | assumption | omega | (refine inb_n ?_ ?_ <;> omega) | fail) only [ck_t, Option.bind_some, iLeP, iLeN, iLtP, iLtN, iEqP, iEqN, nI_1, pk_mul, nI_add, cl_n, zI0, zI1, zI8, bI_z, if_true_eq, if_false_eq, if_true, if_false, r7, l6, e3, t1, t2]
      · rw [Bool.not_eq_true] at hb
        rw [hb] at hm t1
        refine ⟨x, ⟨e1, e2, Or.inl ⟨e3, fun k hk => ?_⟩⟩, ?_⟩
        · by_cases hkj : k = j
          · subst hkj; exact hm
          · exact e4 k (by omega)
        · rw [lp_X9_reach_147, bd_X9_reach_147]
          simp (disch := first | assumption | omega | (refine inb_n ?_ ?_ <;> omega) | fail) only [ck_t, Option.bind_some, iLeP, iLeN, iLtP, iLtN, iEqP, iEqN, nI_1, pk_mul, nI_add, cl_n, zI0, zI1, zI8, bI_z, if_true_eq, if_false_eq, if_true, if_false, r7, l6, e3, t1]
    · right
      have hl := hnm_8 (c := c) (n := n) i
      refine ⟨x, ?_, e1, e2, Or.inr ⟨e3, e4⟩⟩
      rw [lp_X9_reach_147, bd_X9_reach_147]
      simp (disch := first | assumption | omega | (refine inb_n ?_ ?_ <;> omega) | fail) only [ck_t, Option.bind_some, iLeP, iLeN, iLtP, iLtN, iEqP, iEqN, nI_1, pk_mul, nI_add, cl_n, zI0, zI1, zI8, bI_z, if_true_eq, if_false_eq, if_true, if_false, r7, l6, e3, m1N]
  · refine ⟨x, ?_, hx⟩
    rw [lp_X9_reach_147, bd_X9_reach_147]
    simp (disch := first | assumption | omega | (refine inb_n ?_ ?_ <;> omega) | fail) only [ck_t, Option.bind_some, iLeP, iLeN, iLtP, iLtN, iEqP, iEqN, nI_1, pk_mul, nI_add, cl_n, zI0, zI1, zI8, bI_z, if_true_eq, if_false_eq, if_true, if_false]
theorem reach_4 (hs : shR G R) (hr : rfR M R) {n : Nat} {c : Nat → Nat → Nat} (hn : n ≤ 8) (h5 : ∀ a, a < n → M.1 (R 5) a = nI (rL c n a)) : OK (lp_X9_reach_132 G (R 0) (nI n) FU (nI 0) (mwI M (R 0) 8 (nI 0))) (fun M' => rfr M M' R ∧ reS M' R n c) := by
  have k0 : isK G (R 0) 9 := hs.2.1 0 (by decide)
  have k6 : isK G (R 6) 10 := hs.2.1 6 (by decide)
  have l6 : G.2.2 (R 6) = 8 := hs.2.2 6 (by decide) (by decide)
  have n60 : R 6 ≠ R 0 := sR_ne hs (by decide) (by decide) (by decide)
  have n06 : R 0 ≠ R 6 := sR_ne hs (by decide) (by decide) (by decide)
  have n50 : R 5 ≠ R 0 := sR_ne hs (by decide) (by decide) (by decide)
  have n56 : R 5 ≠ R 6 := sR_ne hs (by decide) (by decide) (by decide)
  refine lpI (fun f1 i3 (x : Mm) => lp_X9_reach_132 G (R 0) (nI n) f1 i3 x) (fun i x => rfr M x R ∧ (∀ a, a < n → x.1 (R 5) a = nI (rL c n a)) ∧ (∀ a, a < i → x.1 (R 6) a = nI (hnm c n a)) ∧ x.1 (R 0) 8 = nI (ct (lsB (cL c n) n) i)) n _ (by omega) (fun f1 i x hi hx => ?_) (fun f1 x hx => ?_) (by omega) ⟨rfr_0 hs (by decide) (by decide), fun a ha => by rw [mwI_n (Or.inl n50)]; exact h5 a ha, fun a ha => absurd ha (by omega), mwI_s⟩
  · obtain ⟨e1, e2, e3, e4⟩ := hx
    left
    have hr' : rfR x R := by unfold rfR; rw [e1.2.2.2.2]; exact hr
    have r7 := hr'.2.2.2.2.2.1
    obtain ⟨y, a1, a2, a3, a4⟩ := reach_3 (M := mwI x (R 6) i (-nI 1)) hs hr' hn hi (fun a ha => by rw [mwI_n (Or.inl n56)]; exact e2 a ha) (fun a ha => by rw [mwI_n (by omega)]; exact e3 a ha) mwI_s
    have r7' : y.2.2 (R 0) 7 = some (R 6) := by rw [a2.2.2]; exact r7
    have y5 : ∀ a, a < n → y.1 (R 5) a = nI (rL c n a) := fun a ha => by rw [a2.1 _ (ne_in n56), mwI_n (Or.inl n56)]; exact e2 a ha
    have y8 : y.1 (R 0) 8 = nI (ct (lsB (cL c n) n) i) := by rw [a2.1 _ (ne_in n06), mwI_n (Or.inl n06)]; exact e4
    have wy : rfr M y R := rfr_tr e1 (rfr_tr (rfr_I hs (Or.inr (Or.inl rfl))) (fr_5 hs (Or.inr rfl) a2))
    obtain ⟨o1, o2, o3, o4⟩ := lst_ok (c := c) hi
    rcases a4 with ⟨a4, a5⟩ | ⟨a4, j, a5, a6⟩
    · have hl : lsB (cL c n) n i = true := by
        rw [ls_i hi]
        rcases Nat.lt_or_ge (lst c n i) i with h1 | h1
        · rw [a5 _ h1] at o3; cases o3
        · omega
      have hnm1 := hnm_ls hi hl
      have g8 : (mwI y (R 6) i (nI (ct (lsB (cL c n) n) i))).1 (R 0) 8 = nI (ct (lsB (cL c n) n) i) := by rw [mwI_n (Or.inl n06)]; exact y8
      refine ⟨mwI (mwI y (R 6) i (nI (ct (lsB (cL c n) n) i))) (R 0) 8 (nI (ct (lsB (cL c n) n) (i + 1))), ⟨rfr_tr wy (rfr_tr (rfr_I hs (Or.inr (Or.inl rfl))) (rfr_0 hs (by decide) (by decide))), fun a ha => ?_, fun a ha => ?_, mwI_s⟩, ?_⟩
      · rw [mwI_n (Or.inl n50), mwI_n (Or.inl n56)]; exact y5 a ha
      · rw [mwI_n (Or.inl n60)]
        by_cases hai : a = i
        · subst hai; rw [mwI_s, hnm1]
        · rw [mwI_n (Or.inr hai)]; exact a3 a (by omega)
      · rw [lp_X9_reach_132, bd_X9_reach_132]
        rw [ct_s, hl]
        simp (disch := first | assumption | omega | (refine inb_n ?_ ?_ <;> omega) | fail) only [ck_t, Option.bind_some, iLeP, iLeN, iLtP, iLtN, iEqP, iEqN, nI_1, pk_mul, nI_add, cl_n, zI0, zI1, zI8, bI_z, if_true_eq, if_false_eq, if_true, if_false, r7, l6, a1, jn_X9_reach_202, r7', a4, y8, g8]
    · have hl : lsB (cL c n) n i = false := by
        rw [← Bool.not_eq_true, ls_i hi]
        intro e
        have := fst1_ex (p := mB c n i) (show j < n by omega) a6
        unfold lst at e
        omega
      have hl8 := hnm_8 (c := c) (n := n) i
      refine ⟨y, ⟨wy, y5, fun a ha => ?_, ?_⟩, ?_⟩
      · by_cases hai : a = i
        · subst hai; exact a4
        · exact a3 a (by omega)
      · rw [ct_s, hl, y8, if_neg (by decide)]
        rfl
      · rw [lp_X9_reach_132, bd_X9_reach_132]
        simp (disch := first | assumption | omega | (refine inb_n ?_ ?_ <;> omega) | fail) only [ck_t, Option.bind_some, iLeP, iLeN, iLtP, iLtN, iEqP, iEqN, nI_1, pk_mul, nI_add, cl_n, zI0, zI1, zI8, bI_z, if_true_eq, if_false_eq, if_true, if_false, r7, l6, a1, jn_X9_reach_202, r7', a4, m1N]
  · obtain ⟨e1, e2, e3, e4⟩ := hx
    refine ⟨x, ?_, e1, e2, e3, e4⟩
    rw [lp_X9_reach_132, bd_X9_reach_132]
    simp (disch := first | assumption | omega | (refine inb_n ?_ ?_ <;> omega) | fail) only [ck_t, Option.bind_some, iLeP, iLeN, iLtP, iLtN, iEqP, iEqN, nI_1, pk_mul, nI_add, cl_n, zI0, zI1, zI8, bI_z, if_true_eq, if_false_eq, if_true, if_false]
theorem reach_ok (h : rRI G M R tl tv ol ov ns qs cs) {s : Nat} (hs : s < 6) (hn : 0 < ns s) : OK (f_X9_reach G M (R 0) (nI s)) (fun M' => rfr M M' R ∧ reS M' R (ns s) (cs s)) := by
  obtain ⟨hg, c1, c2, c3⟩ := slo_c h hs hn
  have hn8 := hg.2.1
  have k0 : isK G (R 0) 9 := h.1.2.1 0 (by decide)
  have k2 : isK G (R 2) 10 := h.1.2.1 2 (by decide)
  have l2 : G.2.2 (R 2) = 7 := h.1.2.2 2 (by decide) (by decide)
  have r3 := h.2.1.2.1
  obtain ⟨M1, a1, a2, a3⟩ := reach_1 h hs hn
  have hr1 : rfR M1 R := by unfold rfR; rw [a2.2.2]; exact h.2.1
  obtain ⟨M2, b1, b2, b3⟩ := reach_2 h.1 hr1 hn8 a3
  have hr2 : rfR M2 R := by unfold rfR; rw [b2.2.2]; exact hr1
  obtain ⟨M3, d1, d2, d3⟩ := reach_4 (c := cs s) h.1 hr2 hn8 b3
  refine ⟨M3, ?_, rfr_tr (fr_5 h.1 (Or.inl rfl) a2) (rfr_tr (fr_5 h.1 (Or.inl rfl) b2) d2), d3⟩
  unfold f_X9_reach
  simp (disch := first | assumption | omega | (refine inb_n ?_ ?_ <;> omega) | fail) only [ck_t, Option.bind_some, iLeP, iLeN, iLtP, iLtN, iEqP, iEqN, nI_1, pk_mul, nI_add, cl_n, zI0, zI1, zI8, bI_z, if_true_eq, if_false_eq, if_true, if_false, r3, l2, c1, a1, b1, d1]
end
