/-! the reference's walk -/
def rwS (M : Mm) (R : Nat → Nat) (n q : Nat) (c : Nat → Nat → Nat) (t : Nat) : Prop := (∀ i j, i < n → j < n → M.2.1 (R 15) (8 * i + j) = lN (pw_ c n t i j)) ∧ M.2.1 (R 0) 20 = lN (q ^ t)
section
variable {G : Gg} {M : Mm} {R : Nat → Nat} {tl : Nat} {tv : Nat → Nat} {ol : Nat} {ov ns qs : Nat → Nat} {cs : Nat → Nat → Nat → Nat}
theorem in_s {x : Nat} (h : x ∈ [R 0, R 15, R 16]) : ∃ i, i < 17 ∧ x = R i := by
  simp at h
  rcases h with rfl | rfl | rfl
  · exact ⟨0, by decide, rfl⟩
  · exact ⟨15, by decide, rfl⟩
  · exact ⟨16, by decide, rfl⟩
theorem rbegin_ok (h : rRI G M R tl tv ol ov ns qs cs) {n q : Nat} {c : Nat → Nat → Nat} (hn : n ≤ 8) : OK (f_X9_begin G M (R 0)) (fun M' => fr M M' [] [R 0, R 15, R 16] ∧ rwS M' R n q c 0) := by
  have k0 : isK G (R 0) 9 := h.1.2.1 0 (by decide)
  have k15 : isK G (R 15) 11 := h.1.2.1 15 (by decide)
  have l15 : G.2.2 (R 15) = 64 := h.1.2.2 15 (by decide) (by decide)
  have n150 : R 15 ≠ R 0 := sR_ne h.1 (by decide) (by decide) (by decide)
  have e := lpI (fun f i1 (x : Mm) => lp_X9_begin_2 G (R 0) f i1 x) (fun i x => fr M x [] [R 0, R 15, R 16] ∧ ∀ a b, a < i → b < 8 → x.2.1 (R 15) (8 * a + b) = lN (if a = b then 1 else 0)) 8 (fun x => fr M x [] [R 0, R 15, R 16] ∧ ∀ a b, a < 8 → b < 8 → x.2.1 (R 15) (8 * a + b) = lN (if a = b then 1 else 0)) (by omega) (fun f i x hi hx => by
    obtain ⟨e1, e2⟩ := hx
    left
    have e := lpI (fun f i2 (y : Mm) => lp_X9_begin_10 G (R 0) (nI i) f i2 y) (fun j y => fr M y [] [R 0, R 15, R 16] ∧ (∀ a b, a < i → b < 8 → y.2.1 (R 15) (8 * a + b) = lN (if a = b then 1 else 0)) ∧ ∀ b, b < j → y.2.1 (R 15) (8 * i + b) = lN (if i = b then 1 else 0)) 8 (fun y => fr M y [] [R 0, R 15, R 16] ∧ (∀ a b, a < i → b < 8 → y.2.1 (R 15) (8 * a + b) = lN (if a = b then 1 else 0)) ∧ ∀ b, b < 8 → y.2.1 (R 15) (8 * i + b) = lN (if i = b then 1 else 0)) (by omega) (fun f2 j y hj hy => by
      obtain ⟨g1, g2, g3⟩ := hy
      left
      have r18 : y.2.2 (R 0) 18 = some (R 15) := by rw [g1.2.2]; exact h.2.1.2.2.2.2.2.2.2.2.2.2.2.2.2.2.1
      refine ⟨mwJ y (R 15) (8 * i + j) (lN (if i = j then 1 else 0)), ⟨fr_tr g1 (fr_J (by simp)), fun a b ha hb => by rw [mwJ_n (by omega)]; exact g2 a b ha hb, fun b hb => ?_⟩, ?_⟩
      · by_cases hbj : b = j
        · subst hbj; rw [mwJ_s]
        · rw [mwJ_n (by omega)]; exact g3 b (by omega)
      · rw [lp_X9_begin_10, bd_X9_begin_10]
        by_cases hij : i = j
        · rw [if_pos hij]
          simp (disch := first | assumption | omega | (refine inb_n ?_ ?_ <;> omega) | fail) only [ck_t, Option.bind_some, iLeP, iLeN, iLtP, iLtN, iEqP, iEqN, nI_1, pk_mul, nI_add, cl_n, zI0, zI1, zI8, bI_z, if_true_eq, if_false_eq, if_true, if_false, lEqP, lEqN, lGtP, lGtN, lLeP, lLeN, lGeP, lGeN, lLtP, lLtN, lN_mul, lN_add, nI_l, pk_lDiv, pk_lRem, ckl, zL0, zL1, r18, l15]
        · rw [if_neg hij]
          simp (disch := first | assumption | omega | (refine inb_n ?_ ?_ <;> omega) | fail) only [ck_t, Option.bind_some, iLeP, iLeN, iLtP, iLtN, iEqP, iEqN, nI_1, pk_mul, nI_add, cl_n, zI0, zI1, zI8, bI_z, if_true_eq, if_false_eq, if_true, if_false, lEqP, lEqN, lGtP, lGtN, lLeP, lLeN, lGeP, lGeN, lLtP, lLtN, lN_mul, lN_add, nI_l, pk_lDiv, pk_lRem, ckl, zL0, zL1, r18, l15]) (fun f2 y hy => by
      refine ⟨y, ?_, hy⟩
      rw [lp_X9_begin_10, bd_X9_begin_10]
      simp (disch := first | assumption | omega | (refine inb_n ?_ ?_ <;> omega) | fail) only [ck_t, Option.bind_some, iLeP, iLeN, iLtP, iLtN, iEqP, iEqN, nI_1, pk_mul, nI_add, cl_n, zI0, zI1, zI8, bI_z, if_true_eq, if_false_eq, if_true, if_false]) (j0 := 0) (x := x) (by omega) ⟨e1, e2, fun b hb => absurd hb (by omega)⟩
    obtain ⟨y, a1, a2, a3, a4⟩ := e
    refine ⟨y, ⟨a2, fun a b ha hb => ?_⟩, ?_⟩
    · by_cases hai : a = i
      · subst hai; exact a4 b hb
      · exact a3 a b (by omega) hb
    · rw [lp_X9_begin_2, bd_X9_begin_2]
      simp (disch := first | assumption | omega | (refine inb_n ?_ ?_ <;> omega) | fail) only [ck_t, Option.bind_some, iLeP, iLeN, iLtP, iLtN, iEqP, iEqN, nI_1, pk_mul, nI_add, cl_n, zI0, zI1, zI8, bI_z, if_true_eq, if_false_eq, if_true, if_false, a1]) (fun f x hx => by
    refine ⟨x, ?_, hx⟩
    rw [lp_X9_begin_2, bd_X9_begin_2]
    simp (disch := first | assumption | omega | (refine inb_n ?_ ?_ <;> omega) | fail) only [ck_t, Option.bind_some, iLeP, iLeN, iLtP, iLtN, iEqP, iEqN, nI_1, pk_mul, nI_add, cl_n, zI0, zI1, zI8, bI_z, if_true_eq, if_false_eq, if_true, if_false]) (j0 := 0) (x := M) (by omega) ⟨fr_rf, fun a b ha => absurd ha (by omega)⟩
  obtain ⟨x, e1, e2, e3⟩ := e
  refine ⟨mwJ x (R 0) 20 (lN 1), ?_, fr_tr e2 (fr_J (by simp)), fun i j hi hj => ?_, by rw [mwJ_s, Nat.pow_zero]⟩
  · unfold f_X9_begin
    simp (disch := first | assumption | omega | (refine inb_n ?_ ?_ <;> omega) | fail) only [ck_t, Option.bind_some, iLeP, iLeN, iLtP, iLtN, iEqP, iEqN, nI_1, pk_mul, nI_add, cl_n, zI0, zI1, zI8, bI_z, if_true_eq, if_false_eq, if_true, if_false, lEqP, lEqN, lGtP, lGtN, lLeP, lLeN, lGeP, lGeN, lLtP, lLtN, lN_mul, lN_add, nI_l, pk_lDiv, pk_lRem, ckl, zL0, zL1, e1]
  · rw [mwJ_n (Or.inl n150)]
    exact e3 i j (by omega) (by omega)
theorem rstep_1 (h : rRI G M R tl tv ol ov ns qs cs) {s t i j : Nat} (hs : s < 6) (hn : 0 < ns s) (hi : i < ns s) (hj : j < ns s) (hw : ∀ k, k < ns s → M.2.1 (R 15) (8 * i + k) = lN (pw_ (cs s) (ns s) t i k)) : lp_X9_step_29 G M (R 0) (nI s) (nI (ns s)) (nI i) (nI j) FU (lN 0) (nI 0) = some (lN (pw_ (cs s) (ns s) (t + 1) i j)) := by
  obtain ⟨hg, c1, c2, c3⟩ := slo_c h hs hn
  have hn8 := hg.2.1
  have hq6 := hg.2.2.2.1
  have k0 : isK G (R 0) 9 := h.1.2.1 0 (by decide)
  have k15 : isK G (R 15) 11 := h.1.2.1 15 (by decide)
  have l15 : G.2.2 (R 15) = 64 := h.1.2.2 15 (by decide) (by decide)
  have r18 := h.2.1.2.2.2.2.2.2.2.2.2.2.2.2.2.2.1
  refine lpF (fun f (x : Int64) i7 => lp_X9_step_29 G M (R 0) (nI s) (nI (ns s)) (nI i) (nI j) f x i7) (fun k => lN (sN (fun k => pw_ (cs s) (ns s) t i k * cs s k j) k)) (ns s) _ (by omega) (fun f k hk => ?_) (fun f => ?_)
  · have ea := rat_c h hs hn hk hj
    have hle := gch_le hg k j
    have e1 := hw k hk
    rw [lp_X9_step_29, bd_X9_step_29]
    simp (disch := first | assumption | omega | (refine inb_n ?_ ?_ <;> omega) | fail) only [ck_t, Option.bind_some, iLeP, iLeN, iLtP, iLtN, iEqP, iEqN, nI_1, pk_mul, nI_add, cl_n, zI0, zI1, zI8, bI_z, if_true_eq, if_false_eq, if_true, if_false, lEqP, lEqN, lGtP, lGtN, lLeP, lLeN, lGeP, lGeN, lLtP, lLtN, lN_mul, lN_add, nI_l, pk_lDiv, pk_lRem, ckl, zL0, zL1, r18, l15, ea, e1]
    rfl
  · rw [lp_X9_step_29, bd_X9_step_29]
    simp (disch := first | assumption | omega | (refine inb_n ?_ ?_ <;> omega) | fail) only [ck_t, Option.bind_some, iLeP, iLeN, iLtP, iLtN, iEqP, iEqN, nI_1, pk_mul, nI_add, cl_n, zI0, zI1, zI8, bI_z, if_true_eq, if_false_eq, if_true, if_false]
    rfl
theorem rstep_ok (h : rRI G M R tl tv ol ov ns qs cs) {s t : Nat} (hs : s < 6) (hn : 0 < ns s) (hw : rwS M R (ns s) (qs s) (cs s) t) : OK (f_X9_step G M (R 0) (nI s)) (fun M' => fr M M' [] [R 0, R 15, R 16] ∧ rwS M' R (ns s) (qs s) (cs s) (t + 1)) := by
  obtain ⟨hg, c1, c2, c3⟩ := slo_c h hs hn
  have hn8 := hg.2.1
  have hq6 := hg.2.2.2.1
  have k0 : isK G (R 0) 9 := h.1.2.1 0 (by decide)
  have k2 : isK G (R 2) 10 := h.1.2.1 2 (by decide)
  have l2 : G.2.2 (R 2) = 7 := h.1.2.2 2 (by decide) (by decide)
  have k3 : isK G (R 3) 10 := h.1.2.1 3 (by decide)
  have l3 : G.2.2 (R 3) = 7 := h.1.2.2 3 (by decide) (by decide)
  have k15 : isK G (R 15) 11 := h.1.2.1 15 (by decide)
  have l15 : G.2.2 (R 15) = 64 := h.1.2.2 15 (by decide) (by decide)
  have k16 : isK G (R 16) 11 := h.1.2.1 16 (by decide)
  have l16 : G.2.2 (R 16) = 64 := h.1.2.2 16 (by decide) (by decide)
  have r3 := h.2.1.2.1
  have n1516 : R 15 ≠ R 16 := sR_ne h.1 (by decide) (by decide) (by decide)
  have n016 : R 0 ≠ R 16 := sR_ne h.1 (by decide) (by decide) (by decide)
  have n015 : R 0 ≠ R 15 := sR_ne h.1 (by decide) (by decide) (by decide)
  have rx : ∀ x : Mm, fr M x [] [R 16] → rRI G x R tl tv ol ov ns qs cs := fun x hx => rRI_r h (fr_w h.1 hx (fun y hy => ⟨16, by decide, by simpa using hy⟩))
  have e := lpI (fun f i3 (x : Mm) => lp_X9_step_9 G (R 0) (nI s) (nI (ns s)) f i3 x) (fun i x => fr M x [] [R 16] ∧ ∀ a b, a < i → b < ns s → x.2.1 (R 16) (8 * a + b) = lN (pw_ (cs s) (ns s) (t + 1) a b)) (ns s) (fun x => fr M x [] [R 16] ∧ ∀ a b, a < ns s → b < ns s → x.2.1 (R 16) (8 * a + b) = lN (pw_ (cs s) (ns s) (t + 1) a b)) (by omega) (fun f i x hi hx => by
    obtain ⟨e1, e2⟩ := hx
    left
    have e := lpI (fun f i4 (y : Mm) => lp_X9_step_17 G (R 0) (nI s) (nI (ns s)) (nI i) f i4 y) (fun j y => fr M y [] [R 16] ∧ (∀ a b, a < i → b < ns s → y.2.1 (R 16) (8 * a + b) = lN (pw_ (cs s) (ns s) (t + 1) a b)) ∧ ∀ b, b < j → y.2.1 (R 16) (8 * i + b) = lN (pw_ (cs s) (ns s) (t + 1) i b)) (ns s) (fun y => fr M y [] [R 16] ∧ (∀ a b, a < i → b < ns s → y.2.1 (R 16) (8 * a + b) = lN (pw_ (cs s) (ns s) (t + 1) a b)) ∧ ∀ b, b < ns s → y.2.1 (R 16) (8 * i + b) = lN (pw_ (cs s) (ns s) (t + 1) i b)) (by omega) (fun f2 j y hj hy => by
      obtain ⟨g1, g2, g3⟩ := hy
      left
      have r19 : y.2.2 (R 0) 19 = some (R 16) := by rw [g1.2.2]; exact h.2.1.2.2.2.2.2.2.2.2.2.2.2.2.2.2.2
      have es := rstep_1 (t := t) (rx y g1) hs hn hi hj (fun k hk => by rw [g1.2.1 _ (ne_in n1516)]; exact hw.1 i k hi hk)
      refine ⟨mwJ y (R 16) (8 * i + j) (lN (pw_ (cs s) (ns s) (t + 1) i j)), ⟨fr_tr g1 (fr_J in_1), fun a b ha hb => by rw [mwJ_n (by omega)]; exact g2 a b ha hb, fun b hb => ?_⟩, ?_⟩
      · by_cases hbj : b = j
        · subst hbj; rw [mwJ_s]
        · rw [mwJ_n (by omega)]; exact g3 b (by omega)
      · rw [lp_X9_step_17, bd_X9_step_17]
        simp (disch := first | assumption | omega | (refine inb_n ?_ ?_ <;> omega) | fail) only [ck_t, Option.bind_some, iLeP, iLeN, iLtP, iLtN, iEqP, iEqN, nI_1, pk_mul, nI_add, cl_n, zI0, zI1, zI8, bI_z, if_true_eq, if_false_eq, if_true, if_false, lEqP, lEqN, lGtP, lGtN, lLeP, lLeN, lGeP, lGeN, lLtP, lLtN, lN_mul, lN_add, nI_l, pk_lDiv, pk_lRem, ckl, zL0, zL1, es, r19, l16]) (fun f2 y hy => by
      refine ⟨y, ?_, hy⟩
      rw [lp_X9_step_17, bd_X9_step_17]
      simp (disch := first | assumption | omega | (refine inb_n ?_ ?_ <;> omega) | fail) only [ck_t, Option.bind_some, iLeP, iLeN, iLtP, iLtN, iEqP, iEqN, nI_1, pk_mul, nI_add, cl_n, zI0, zI1, zI8, bI_z, if_true_eq, if_false_eq, if_true, if_false]) (j0 := 0) (x := x) (by omega) ⟨e1, e2, fun b hb => absurd hb (by omega)⟩
    obtain ⟨y, a1, a2, a3, a4⟩ := e
    refine ⟨y, ⟨a2, fun a b ha hb => ?_⟩, ?_⟩
    · by_cases hai : a = i
      · subst hai; exact a4 b hb
      · exact a3 a b (by omega) hb
    · rw [lp_X9_step_9, bd_X9_step_9]
      simp (disch := first | assumption | omega | (refine inb_n ?_ ?_ <;> omega) | fail) only [ck_t, Option.bind_some, iLeP, iLeN, iLtP, iLtN, iEqP, iEqN, nI_1, pk_mul, nI_add, cl_n, zI0, zI1, zI8, bI_z, if_true_eq, if_false_eq, if_true, if_false, a1]) (fun f x hx => by
    refine ⟨x, ?_, hx⟩
    rw [lp_X9_step_9, bd_X9_step_9]
    simp (disch := first | assumption | omega | (refine inb_n ?_ ?_ <;> omega) | fail) only [ck_t, Option.bind_some, iLeP, iLeN, iLtP, iLtN, iEqP, iEqN, nI_1, pk_mul, nI_add, cl_n, zI0, zI1, zI8, bI_z, if_true_eq, if_false_eq, if_true, if_false]) (j0 := 0) (x := M) (by omega) ⟨fr_rf, fun a b ha => absurd ha (by omega)⟩
  obtain ⟨x, e1, e2, e3⟩ := e
  have e' := lpI (fun f i3 (y : Mm) => lp_X9_step_97 G (R 0) (nI s) f i3 y) (fun j y => fr x y [] [R 15] ∧ ∀ k, k < j → y.2.1 (R 15) k = x.2.1 (R 16) k) 64 (fun y => fr x y [] [R 15] ∧ ∀ k, k < 64 → y.2.1 (R 15) k = x.2.1 (R 16) k) (by omega) (fun f j y hj hy => by
    obtain ⟨g1, g2⟩ := hy
    left
    have r18 : y.2.2 (R 0) 18 = some (R 15) := by rw [g1.2.2, e2.2.2]; exact h.2.1.2.2.2.2.2.2.2.2.2.2.2.2.2.2.1
    have r19 : y.2.2 (R 0) 19 = some (R 16) := by rw [g1.2.2, e2.2.2]; exact h.2.1.2.2.2.2.2.2.2.2.2.2.2.2.2.2.2
    refine ⟨mwJ y (R 15) j (y.2.1 (R 16) j), ⟨fr_tr g1 (fr_J in_1), fun k hk => ?_⟩, ?_⟩
    · by_cases hkj : k = j
      · subst hkj
        rw [mwJ_s, g1.2.1 _ (ne_in (fun z => n1516 z.symm))]
      · rw [mwJ_n (Or.inr hkj)]; exact g2 k (by omega)
    · rw [lp_X9_step_97, bd_X9_step_97]
      simp (disch := first | assumption | omega | (refine inb_n ?_ ?_ <;> omega) | fail) only [ck_t, Option.bind_some, iLeP, iLeN, iLtP, iLtN, iEqP, iEqN, nI_1, pk_mul, nI_add, cl_n, zI0, zI1, zI8, bI_z, if_true_eq, if_false_eq, if_true, if_false, lEqP, lEqN, lGtP, lGtN, lLeP, lLeN, lGeP, lGeN, lLtP, lLtN, lN_mul, lN_add, nI_l, pk_lDiv, pk_lRem, ckl, zL0, zL1, nz64, r18, r19, l15, l16]) (fun f y hy => by
    refine ⟨y, ?_, hy⟩
    rw [lp_X9_step_97, bd_X9_step_97]
    simp (disch := first | assumption | omega | (refine inb_n ?_ ?_ <;> omega) | fail) only [ck_t, Option.bind_some, iLeP, iLeN, iLtP, iLtN, iEqP, iEqN, nI_1, pk_mul, nI_add, cl_n, zI0, zI1, zI8, bI_z, if_true_eq, if_false_eq, if_true, if_false, nz64]) (j0 := 0) (x := x) (by omega) ⟨fr_rf, fun k hk => absurd hk (by omega)⟩
  obtain ⟨y, a1, a2, a3⟩ := e'
  have r4 : y.2.2 (R 0) 4 = some (R 3) := by rw [a2.2.2, e2.2.2]; exact h.2.1.2.2.1
  have o1 : y.1 (R 3) s = nI (qs s) := by rw [a2.1 _ (by simp), e2.1 _ (by simp)]; exact c2
  have o2 : y.2.1 (R 0) 20 = lN (qs s ^ t) := by rw [a2.2.1 _ (ne_in n015), e2.2.1 _ (ne_in n016)]; exact hw.2
  have hpw : qs s ^ t * qs s = qs s ^ (t + 1) := rfl
  refine ⟨mwJ y (R 0) 20 (lN (qs s ^ (t + 1))), ?_, fr_tr (fr_tr (fr_sub e2 (fun z hz => hz) (fun z hz => by simp at hz; simp [hz])) (fr_sub a2 (fun z hz => hz) (fun z hz => by simp at hz; simp [hz]))) (fr_J (by simp)), fun i j hi hj => ?_, mwJ_s⟩
  · unfold f_X9_step
    simp (disch := first | assumption | omega | (refine inb_n ?_ ?_ <;> omega) | fail) only [ck_t, Option.bind_some, iLeP, iLeN, iLtP, iLtN, iEqP, iEqN, nI_1, pk_mul, nI_add, cl_n, zI0, zI1, zI8, bI_z, if_true_eq, if_false_eq, if_true, if_false, lEqP, lEqN, lGtP, lGtN, lLeP, lLeN, lGeP, lGeN, lLtP, lLtN, lN_mul, lN_add, nI_l, pk_lDiv, pk_lRem, ckl, zL0, zL1, r3, l2, c1, e1, a1, r4, l3, o1, o2, hpw]
  · rw [mwJ_n (Or.inl (fun z => n015 z.symm)), a3 _ (by omega)]
    exact e3 i j hi hj
theorem rgo_ok (h : rRI G M R tl tv ol ov ns qs cs) {s t : Nat} (hs : s < 6) (hn : 0 < ns s) (ht : t < 1000) : OK (f_X9_go G M (R 0) (nI s) (nI t)) (fun M' => rfr M M' R ∧ rwS M' R (ns s) (qs s) (cs s) t) := by
  obtain ⟨hg, c1, c2, c3⟩ := slo_c h hs hn
  have k0 : isK G (R 0) 9 := h.1.2.1 0 (by decide)
  obtain ⟨M1, a1, a2, a3⟩ := rbegin_ok (q := qs s) (c := cs s) h hg.2.1
  have e := lpI (fun f i3 (x : Mm) => lp_X9_go_6 G (R 0) (nI s) (nI t) f i3 x) (fun k x => rfr M x R ∧ rwS x R (ns s) (qs s) (cs s) k) t (fun x => rfr M x R ∧ rwS x R (ns s) (qs s) (cs s) t) (by omega) (fun f k x hk hx => by
    obtain ⟨e1, e2⟩ := hx
    left
    obtain ⟨y, b1, b2, b3⟩ := rstep_ok (rRI_r h e1) hs hn e2
    refine ⟨y, ⟨rfr_tr e1 (fr_w h.1 b2 (fun z hz => in_s hz)), b3⟩, ?_⟩
    rw [lp_X9_go_6, bd_X9_go_6]
    simp (disch := first | assumption | omega | (refine inb_n ?_ ?_ <;> omega) | fail) only [ck_t, Option.bind_some, iLeP, iLeN, iLtP, iLtN, iEqP, iEqN, nI_1, pk_mul, nI_add, cl_n, zI0, zI1, zI8, bI_z, if_true_eq, if_false_eq, if_true, if_false, b1]) (fun f x hx => by
    refine ⟨x, ?_, hx⟩
    rw [lp_X9_go_6, bd_X9_go_6]
    simp (disch := first | assumption | omega | (refine inb_n ?_ ?_ <;> omega) | fail) only [ck_t, Option.bind_some, iLeP, iLeN, iLtP, iLtN, iEqP, iEqN, nI_1, pk_mul, nI_add, cl_n, zI0, zI1, zI8, bI_z, if_true_eq, if_false_eq, if_true, if_false]) (j0 := 0) (x := M1) (by omega) ⟨fr_w h.1 a2 (fun z hz => in_s hz), a3⟩
  obtain ⟨x, e1, e2⟩ := e
  refine ⟨x, ?_, e2⟩
  unfold f_X9_go
  simp (disch := first | assumption | omega | (refine inb_n ?_ ?_ <;> omega) | fail) only [ck_t, Option.bind_some, iLeP, iLeN, iLtP, iLtN, iEqP, iEqN, nI_1, pk_mul, nI_add, cl_n, zI0, zI1, zI8, bI_z, if_true_eq, if_false_eq, if_true, if_false, a1, e1]
theorem between_eq (h : rRI G M R tl tv ol ov ns qs cs) {s t i j : Nat} (hs : s < 6) (hn : 0 < ns s) (ht : qs s ^ t < 2 ^ 62) (hw : rwS M R (ns s) (qs s) (cs s) t) (hi : i < ns s) (hj : j < ns s) : f_X9_between G M (R 0) (nI s) (nI i) (nI j) = some (lN (gp (cs s) (ns s) t i j)) := by
  obtain ⟨hg, c1, c2, c3⟩ := slo_c h hs hn
  have hn8 := hg.2.1
  have k0 : isK G (R 0) 9 := h.1.2.1 0 (by decide)
  have k2 : isK G (R 2) 10 := h.1.2.1 2 (by decide)
  have l2 : G.2.2 (R 2) = 7 := h.1.2.2 2 (by decide) (by decide)
  have r3 := h.2.1.2.1
  have k15 : isK G (R 15) 11 := h.1.2.1 15 (by decide)
  have l15 : G.2.2 (R 15) = 64 := h.1.2.2 15 (by decide) (by decide)
  have r18 := h.2.1.2.2.2.2.2.2.2.2.2.2.2.2.2.2.1
  have e := lpF (fun f (x : Int64) i6 => lp_X9_between_6 G M (R 0) (nI s) (nI i) (nI j) f x i6) (fun k => lN (sN (fun k => ab_ (pw_ (cs s) (ns s) t i k) (pw_ (cs s) (ns s) t j k)) k)) (ns s) (lN (gp (cs s) (ns s) t i j)) (by omega) (fun f k hk => by
    have e1 := hw.1 i k hi hk
    have e2 := hw.1 j k hj hk
    have p1 := pw_le hg hi hk t
    have p2 := pw_le hg hj hk t
    have ea := abs_r (α := Option Int64) (a := pw_ (cs s) (ns s) t i k) (b := pw_ (cs s) (ns s) t j k) (k := fun z => lp_X9_between_6 G M (R 0) (nI s) (nI i) (nI j) f (lN (sN (fun k => ab_ (pw_ (cs s) (ns s) t i k) (pw_ (cs s) (ns s) t j k)) k) + z) (nI (k + 1))) (by omega) (by omega)
    rw [lp_X9_between_6, bd_X9_between_6]
    simp (disch := first | assumption | omega | (refine inb_n ?_ ?_ <;> omega) | fail) only [ck_t, Option.bind_some, iLeP, iLeN, iLtP, iLtN, iEqP, iEqN, nI_1, pk_mul, nI_add, cl_n, zI0, zI1, zI8, bI_z, if_true_eq, if_false_eq, if_true, if_false, r3, l2, c1, r18, l15, e1, e2, zL0]
    refine ea.trans ?_
    rw [lN_add]
    rfl) (fun f => by
    rw [lp_X9_between_6, bd_X9_between_6]
    simp (disch := first | assumption | omega | (refine inb_n ?_ ?_ <;> omega) | fail) only [ck_t, Option.bind_some, iLeP, iLeN, iLtP, iLtN, iEqP, iEqN, nI_1, pk_mul, nI_add, cl_n, zI0, zI1, zI8, bI_z, if_true_eq, if_false_eq, if_true, if_false, r3, l2, c1]
    rfl)
  unfold f_X9_between
  rw [zI0, zL0]
  exact (congrArg (Option.bind · _) e)
theorem rwidest_eq (h : rRI G M R tl tv ol ov ns qs cs) {s t : Nat} (hs : s < 6) (hn : 0 < ns s) (ht : qs s ^ t < 2 ^ 61) (hw : rwS M R (ns s) (qs s) (cs s) t) : f_X9_widest G M (R 0) (nI s) = some (lN (wo_ (gp (cs s) (ns s) t) (ns s))) := by
  obtain ⟨hg, c1, c2, c3⟩ := slo_c h hs hn
  have hn8 := hg.2.1
  have k0 : isK G (R 0) 9 := h.1.2.1 0 (by decide)
  have k2 : isK G (R 2) 10 := h.1.2.1 2 (by decide)
  have l2 : G.2.2 (R 2) = 7 := h.1.2.2 2 (by decide) (by decide)
  have r3 := h.2.1.2.1
  have row : ∀ i l, i < ns s → l ≤ 2 * qs s ^ t → lp_X9_widest_19 G M (R 0) (nI s) (nI i) FU (lN l) (nI 0) = some (lN (wr_ (gp (cs s) (ns s) t i) l i)) := fun i l hi hl => by
    refine lpF (fun f (x : Int64) i5 => lp_X9_widest_19 G M (R 0) (nI s) (nI i) f x i5) (fun k => lN (wr_ (gp (cs s) (ns s) t i) l k)) i _ (by omega) (fun f k hk => ?_) (fun f => ?_)
    · have e1 := between_eq h hs hn (by omega) hw hi (show k < ns s by omega)
      have b1 := gp_le hg hi (show k < ns s by omega) t
      have b2 := wr_le (g := gp (cs s) (ns s) t i) hl k (fun x hx => gp_le hg hi (by omega) t)
      rw [lp_X9_widest_19, bd_X9_widest_19]
      by_cases hc : wr_ (gp (cs s) (ns s) t i) l k < gp (cs s) (ns s) t i k
      · have ew : wr_ (gp (cs s) (ns s) t i) l (k + 1) = gp (cs s) (ns s) t i k := if_pos hc
        rw [ew]
        simp (disch := first | assumption | omega | (refine inb_n ?_ ?_ <;> omega) | fail) only [ck_t, Option.bind_some, iLeP, iLeN, iLtP, iLtN, iEqP, iEqN, nI_1, pk_mul, nI_add, cl_n, zI0, zI1, zI8, bI_z, if_true_eq, if_false_eq, if_true, if_false, lEqP, lEqN, lGtP, lGtN, lLeP, lLeN, lGeP, lGeN, lLtP, lLtN, lN_mul, lN_add, nI_l, pk_lDiv, pk_lRem, ckl, zL0, zL1, e1]
      · have ew : wr_ (gp (cs s) (ns s) t i) l (k + 1) = wr_ (gp (cs s) (ns s) t i) l k := if_neg hc
        rw [ew]
        simp (disch := first | assumption | omega | (refine inb_n ?_ ?_ <;> omega) | fail) only [ck_t, Option.bind_some, iLeP, iLeN, iLtP, iLtN, iEqP, iEqN, nI_1, pk_mul, nI_add, cl_n, zI0, zI1, zI8, bI_z, if_true_eq, if_false_eq, if_true, if_false, lEqP, lEqN, lGtP, lGtN, lLeP, lLeN, lGeP, lGeN, lLtP, lLtN, lN_mul, lN_add, nI_l, pk_lDiv, pk_lRem, ckl, zL0, zL1, e1]
    · rw [lp_X9_widest_19, bd_X9_widest_19]
      simp (disch := first | assumption | omega | (refine inb_n ?_ ?_ <;> omega) | fail) only [ck_t, Option.bind_some, iLeP, iLeN, iLtP, iLtN, iEqP, iEqN, nI_1, pk_mul, nI_add, cl_n, zI0, zI1, zI8, bI_z, if_true_eq, if_false_eq, if_true, if_false]
  have e := lpF (fun f (x : Int64) i4 => lp_X9_widest_5 G M (R 0) (nI s) f x i4) (fun k => lN (wo_ (gp (cs s) (ns s) t) k)) (ns s) (lN (wo_ (gp (cs s) (ns s) t) (ns s))) (by omega) (fun f k hk => by
    have l1 : wo_ (gp (cs s) (ns s) t) k ≤ 2 * qs s ^ t := wo_le k (fun x y hx hy => gp_le hg (by omega) (by omega) t)
    have er := row k (wo_ (gp (cs s) (ns s) t) k) hk l1
    rw [lp_X9_widest_5, bd_X9_widest_5]
    simp (disch := first | assumption | omega | (refine inb_n ?_ ?_ <;> omega) | fail) only [ck_t, Option.bind_some, iLeP, iLeN, iLtP, iLtN, iEqP, iEqN, nI_1, pk_mul, nI_add, cl_n, zI0, zI1, zI8, bI_z, if_true_eq, if_false_eq, if_true, if_false, r3, l2, c1, er]
    rfl) (fun f => by
    rw [lp_X9_widest_5, bd_X9_widest_5]
    simp (disch := first | assumption | omega | (refine inb_n ?_ ?_ <;> omega) | fail) only [ck_t, Option.bind_some, iLeP, iLeN, iLtP, iLtN, iEqP, iEqN, nI_1, pk_mul, nI_add, cl_n, zI0, zI1, zI8, bI_z, if_true_eq, if_false_eq, if_true, if_false, r3, l2, c1])
  unfold f_X9_widest
  rw [zI0, zL0]
  exact (congrArg (Option.bind · _) e)
/-- what is told of a fraction -/
def tld (u l : Nat) (i : Int32) : Int64 := if i = nI 0 then lN (u / Nat.gcd u l) else lN (l / Nat.gcd u l)
theorem told_eq (h : rRI G M R tl tv ol ov ns qs cs) {u l : Nat} {i : Int32} (hu : u < 2 ^ 63) (hl : l < 2 ^ 63) (h0 : 0 < l) : f_X9_told G M (R 0) (lN u) (lN l) i = some (tld u l i, mwI M (R 0) 0 (nI 0)) := by
  have k0 : isK G (R 0) 9 := h.1.2.1 0 (by decide)
  have hg : 0 < Nat.gcd u l := Nat.gcd_pos_of_pos_right _ h0
  have hg2 : Nat.gcd u l ≤ l := Nat.gcd_le_right _ h0
  have ec := cmn_eq hu hl
  unfold f_X9_told tld
  by_cases hi : i = nI 0
  · rw [if_pos hi]
    rw [ck_t k0, if_pos (show i = 0 from hi), ec, Option.bind_some, ck_nz (by omega) hg, pk_lDiv hu hg (by omega)]
    rfl
  · rw [if_neg hi]
    rw [ck_t k0, if_neg (show ¬ i = 0 from hi), ec, Option.bind_some, ck_nz (by omega) hg, pk_lDiv hl hg (by omega)]
    rfl
def wht (i : Int32) : Prop := i = nI 0 ∨ i = nI 1
theorem isWhat_p {i : Int32} (h : wht i) : f_X9_isWhat i = some (nI 1) := by
  rcases h with rfl | rfl <;> rfl
theorem isWhat_n {i : Int32} (h : ¬ wht i) : f_X9_isWhat i = some (nI 0) := by
  unfold f_X9_isWhat
  rw [if_neg (show ¬ i = 0 from fun z => h (Or.inl z)), if_neg (show ¬ i = 1 from fun z => h (Or.inr z))]
  rfl
end
