/-! feed, end, octet, count of both -/
theorem nz2 : (2 : Int32) = nI 2 := rfl
theorem nz3 : (3 : Int32) = nI 3 := rfl
theorem nz4 : (4 : Int32) = nI 4 := rfl
theorem nz5 : (5 : Int32) = nI 5 := rfl
theorem nz6 : (6 : Int32) = nI 6 := rfl
theorem nz20 : (20 : Int32) = nI 20 := rfl
theorem nz60 : (60 : Int32) = nI 60 := rfl
theorem nz64 : (64 : Int32) = nI 64 := rfl
theorem nz80 : (80 : Int32) = nI 80 := rfl
theorem ckT {α : Type} {k : Option α} : ck True k = k := if_pos trivial
theorem iNeg0 {α : Type} {i : Int32} {x y : α} (h : i < nI 0) : (if i < nI 0 then x else y) = x := if_pos h
section
variable {G : Gg} {M M' : Mm} {A p : Nat → Nat} {tl : Nat} {tv : Nat → Nat} {ol : Nat} {ov ns qs : Nat → Nat} {cs : Nat → Nat → Nat → Nat}
theorem kCI_t {tl' : Nat} {tv' : Nat → Nat} (h : kCI G M A p tl tv ol ov ns qs cs) (hf : fr M M' [A 1, A 2] []) (t1 : M'.1 (A 1) 1 = nI tl') (t2 : tl' ≤ 80) (t3 : ∀ k, k < tl' → M'.1 (A 2) k = nI (tv' k)) (t4 : ∀ k, tv' k < 256) : kCI G M' A p tl' tv' ol ov ns qs cs := by
  obtain ⟨hs, hr, hp, ht, ho, hw, hc⟩ := h
  have k : ∀ i, i < 53 → i ≠ 1 → i ≠ 2 → M'.1 (A i) = M.1 (A i) := fun i hi n1 n2 => hf.1 _ (ne_in2 (sA_ne hs hi (by decide) n1) (sA_ne hs hi (by decide) n2))
  have l : M'.2.1 = M.2.1 := funext fun b => hf.2.1 b (by simp)
  refine ⟨hs, ?_, hp, ⟨t1, t2, t3, t4⟩, by rw [k 0 (by decide) (by decide) (by decide), k 3 (by decide) (by decide) (by decide)]; exact ho, fun x hx => ?_, fun s hs6 => ?_⟩
  · unfold rfC; rw [hf.2.2]; exact hr
  · unfold shW; rw [l]; exact hw x hx
  · have hk := hp.1 s (by omega)
    rw [k (18 + 5 * p s) (by omega) (by omega) (by omega)]
    rcases hc s hs6 with z | ⟨z1, z2, z3⟩
    · exact Or.inl z
    · exact Or.inr ⟨z1, chS_fr z2 (k _ (by omega) (by omega) (by omega)) (k _ (by omega) (by omega) (by omega)) (k _ (by omega) (by omega) (by omega)) (k _ (by omega) (by omega) (by omega)) (by rw [l]) (by rw [hf.2.2]), by rw [l]; exact z3⟩
theorem app_k (h : kCI G M A p tl tv ol ov ns qs cs) (h4 : tl + 4 ≤ 80) (x : Int32) : OK (f_X6_append G M (A 1) x) (fun M' => kCI G M' A p (tl + 4) (ap4 tv tl x) ol ov ns qs cs ∧ unt M M' A 53) := by
  obtain ⟨t1, t2, t3, t4, t5, t6, t7, t8⟩ := kCI_tp h
  obtain ⟨w1, w2, w3, w5⟩ := w4_ok (M := M) (l := 1) (x := x) (kne t1 t3 (by decide)) t7
  exact ⟨_, append_eq t1 t2 t3 t4 t5 h4, kCI_t h w3 w1 h4 w2 (ap4_lt t8), unt_fr w3 (fun y hy => by
    simp at hy
    rcases hy with rfl | rfl
    · exact ⟨1, by decide, rfl⟩
    · exact ⟨2, by decide, rfl⟩) (fun y hy => by simp at hy)⟩
/-- the tape after feed -/
def ap20 (tv : Nat → Nat) (tl : Nat) (a b c d e : Int32) : Nat → Nat := ap4 (ap4 (ap4 (ap4 (ap4 tv tl a) (tl + 4) b) (tl + 4 + 4) c) (tl + 4 + 4 + 4) d) (tl + 4 + 4 + 4 + 4) e
theorem kfeed_p (h : kCI G M A p tl tv ol ov ns qs cs) (h4 : tl + 20 ≤ 80) (a b c d e : Int32) : OK (f_X8_feed G M (A 0) a b c d e) (fun r => r.1 = nI (tl + 20) ∧ kCI G r.2 A p (tl + 20) (ap20 tv tl a b c d e) ol ov ns qs cs ∧ unt M r.2 A 53) := by
  obtain ⟨M1, a1, a2, a3⟩ := app_k h (by omega) a
  obtain ⟨M2, b1, b2, b3⟩ := app_k a2 (by omega) b
  obtain ⟨M3, c1, c2, c3⟩ := app_k b2 (by omega) c
  obtain ⟨M4, d1, d2, d3⟩ := app_k c2 (by omega) d
  obtain ⟨M5, e1, e2, e3⟩ := app_k d2 (by omega) e
  have k0 : isK G (A 0) 8 := h.1.2.1 0 (by decide)
  have k1 : isK G (A 1) 6 := h.1.2.1 1 (by decide)
  have r0 := h.2.1.1.1
  have r1 := a2.2.1.1.1
  have r2 := b2.2.1.1.1
  have r3 := c2.2.1.1.1
  have r4 := d2.2.1.1.1
  have r5 := e2.2.1.1.1
  have t0 := h.2.2.2.1.1
  have t5 := e2.2.2.2.1.1
  refine ⟨(nI (tl + 20), M5), ?_, rfl, e2, unt_tr a3 (unt_tr b3 (unt_tr c3 (unt_tr d3 e3)))⟩
  unfold f_X8_feed f_X6_hasRoomFor
  simp (disch := first | assumption | omega | (refine inb_n ?_ ?_ <;> omega) | fail) only [ck_t, Option.bind_some, iLeP, iLeN, iLtP, iLtN, iEqP, iEqN, nI_1, pk_mul, nI_add, cl_n, zI0, zI1, zI8, bI_z, if_true_eq, if_false_eq, if_true, if_false, r0, t0, nz4, nz5, nz80, a1, r1, b1, r2, c1, r3, d1, r4, e1, r5, t5]
theorem kfeed_n (h : kCI G M A p tl tv ol ov ns qs cs) (h4 : 80 < tl + 20) (a b c d e : Int32) : f_X8_feed G M (A 0) a b c d e = some ((-1), M) := by
  have k0 : isK G (A 0) 8 := h.1.2.1 0 (by decide)
  have k1 : isK G (A 1) 6 := h.1.2.1 1 (by decide)
  have r0 := h.2.1.1.1
  have t0 := h.2.2.2.1.1
  have tb := h.2.2.2.1.2.1
  unfold f_X8_feed f_X6_hasRoomFor
  simp (disch := first | assumption | omega | (refine inb_n ?_ ?_ <;> omega) | fail) only [ck_t, Option.bind_some, iLeP, iLeN, iLtP, iLtN, iEqP, iEqN, nI_1, pk_mul, nI_add, cl_n, zI0, zI1, zI8, bI_z, if_true_eq, if_false_eq, if_true, if_false, r0, t0, nz4, nz5, nz80]
theorem shorten_p (h : kCI G M A p tl tv ol ov ns qs cs) {n : Nat} (hn : n ≤ tl) : f_X6_shorten G M (A 1) (nI n) = some (nI 1, mwI M (A 1) 1 (nI n)) ∧ kCI G (mwI M (A 1) 1 (nI n)) A p n tv ol ov ns qs cs ∧ unt M (mwI M (A 1) 1 (nI n)) A 53 := by
  have k1 : isK G (A 1) 6 := h.1.2.1 1 (by decide)
  obtain ⟨t0, tb, t3, t4⟩ := h.2.2.2.1
  refine ⟨?_, kCI_t h (fr_I (by simp)) mwI_s (by omega) (fun k hk => ?_) t4, unt_I (by decide)⟩
  · unfold f_X6_shorten
    simp (disch := first | assumption | omega | (refine inb_n ?_ ?_ <;> omega) | fail) only [ck_t, Option.bind_some, iLeP, iLeN, iLtP, iLtN, iEqP, iEqN, nI_1, pk_mul, nI_add, cl_n, zI0, zI1, zI8, bI_z, if_true_eq, if_false_eq, if_true, if_false, t0]
  · rw [mwI_n (Or.inl (sA_ne h.1 (by decide) (by decide) (by decide)))]
    exact t3 k (by omega)
theorem shorten_n (h : kCI G M A p tl tv ol ov ns qs cs) {i : Int32} (hi : ∀ n, n ≤ tl → i ≠ nI n) : f_X6_shorten G M (A 1) i = some (nI 0, M) := by
  have k1 : isK G (A 1) 6 := h.1.2.1 1 (by decide)
  obtain ⟨t0, tb, t3, t4⟩ := h.2.2.2.1
  unfold f_X6_shorten
  rcases int_c i with hn | ⟨j, hj, rfl⟩
  · simp (disch := first | assumption | omega | (refine inb_n ?_ ?_ <;> omega) | fail) only [ck_t, Option.bind_some, iLeP, iLeN, iLtP, iLtN, iEqP, iEqN, nI_1, pk_mul, nI_add, cl_n, zI0, zI1, zI8, bI_z, if_true_eq, if_false_eq, if_true, if_false, iNeg0]
  · have : tl < j := by
      rcases Nat.lt_or_ge tl j with h1 | h1
      · exact h1
      · exact absurd rfl (hi j h1)
    simp (disch := first | assumption | omega | (refine inb_n ?_ ?_ <;> omega) | fail) only [ck_t, Option.bind_some, iLeP, iLeN, iLtP, iLtN, iEqP, iEqN, nI_1, pk_mul, nI_add, cl_n, zI0, zI1, zI8, bI_z, if_true_eq, if_false_eq, if_true, if_false, t0]
theorem kend_p (h : kCI G M A p tl tv ol ov ns qs cs) {n : Nat} (hn : n ≤ tl) : OK (f_X8_end G M (A 0) (nI n)) (fun r => r.1 = nI 1 ∧ kCI G r.2 A p n tv ol ov ns qs cs ∧ unt M r.2 A 53) := by
  obtain ⟨e1, e2, e3⟩ := shorten_p h hn
  have k0 : isK G (A 0) 8 := h.1.2.1 0 (by decide)
  have k1 : isK G (A 1) 6 := h.1.2.1 1 (by decide)
  have r0 := h.2.1.1.1
  refine ⟨(nI 1, mwI M (A 1) 1 (nI n)), ?_, rfl, e2, e3⟩
  unfold f_X8_end
  have hb : nI 1 &&& nI 1 = nI 1 := rfl
  simp (disch := first | assumption | omega | (refine inb_n ?_ ?_ <;> omega) | fail) only [ck_t, Option.bind_some, iLeP, iLeN, iLtP, iLtN, iEqP, iEqN, nI_1, pk_mul, nI_add, cl_n, zI0, zI1, zI8, bI_z, if_true_eq, if_false_eq, if_true, if_false, r0, e1, hb, ckT]
theorem kend_n (h : kCI G M A p tl tv ol ov ns qs cs) {i : Int32} (hi : ∀ n, n ≤ tl → i ≠ nI n) : f_X8_end G M (A 0) i = some (nI 0, M) := by
  have e1 := shorten_n h hi
  have k0 : isK G (A 0) 8 := h.1.2.1 0 (by decide)
  have k1 : isK G (A 1) 6 := h.1.2.1 1 (by decide)
  have r0 := h.2.1.1.1
  have hb : nI 0 &&& nI 1 = nI 0 := rfl
  unfold f_X8_end
  simp (disch := first | assumption | omega | (refine inb_n ?_ ?_ <;> omega) | fail) only [ck_t, Option.bind_some, iLeP, iLeN, iLtP, iLtN, iEqP, iEqN, nI_1, pk_mul, nI_add, cl_n, zI0, zI1, zI8, bI_z, if_true_eq, if_false_eq, if_true, if_false, r0, e1, hb, ckT]
theorem koct_p (h : kCI G M A p tl tv ol ov ns qs cs) {n : Nat} (hn : n < ol) : f_X8_octet G M (A 0) (nI n) = some (some (nI (ov n))) := by
  have k0 : isK G (A 0) 8 := h.1.2.1 0 (by decide)
  have k3 : isK G (A 3) 10 := h.1.2.1 3 (by decide)
  have l3 : G.2.2 (A 3) = 8 := h.1.2.2 3 (by decide) (by decide)
  have r1 := h.2.1.1.2.1
  obtain ⟨o1, o2, o3⟩ := h.2.2.2.2.1
  have o4 := o3 n hn
  unfold f_X8_octet
  simp (disch := first | assumption | omega | (refine inb_n ?_ ?_ <;> omega) | fail) only [ck_t, Option.bind_some, iLeP, iLeN, iLtP, iLtN, iEqP, iEqN, nI_1, pk_mul, nI_add, cl_n, zI0, zI1, zI8, bI_z, if_true_eq, if_false_eq, if_true, if_false, o1, r1, l3, o4]
theorem koct_n (h : kCI G M A p tl tv ol ov ns qs cs) {i : Int32} (hi : ∀ n, n < ol → i ≠ nI n) : f_X8_octet G M (A 0) i = some none := by
  have k0 : isK G (A 0) 8 := h.1.2.1 0 (by decide)
  obtain ⟨o1, o2, o3⟩ := h.2.2.2.2.1
  unfold f_X8_octet
  rcases int_c i with hn | ⟨j, hj, rfl⟩
  · simp (disch := first | assumption | omega | (refine inb_n ?_ ?_ <;> omega) | fail) only [ck_t, Option.bind_some, iLeP, iLeN, iLtP, iLtN, iEqP, iEqN, nI_1, pk_mul, nI_add, cl_n, zI0, zI1, zI8, bI_z, if_true_eq, if_false_eq, if_true, if_false, iNeg0]
  · have : ol ≤ j := by
      rcases Nat.lt_or_ge j ol with h1 | h1
      · exact absurd rfl (hi j h1)
      · exact h1
    simp (disch := first | assumption | omega | (refine inb_n ?_ ?_ <;> omega) | fail) only [ck_t, Option.bind_some, iLeP, iLeN, iLtP, iLtN, iEqP, iEqN, nI_1, pk_mul, nI_add, cl_n, zI0, zI1, zI8, bI_z, if_true_eq, if_false_eq, if_true, if_false, o1]
theorem filled_eq (h : kCI G M A p tl tv ol ov ns qs cs) : f_X8_filledSlots G M (A 0) = some (nI (ct (fun s => decide (0 < ns s)) 6)) := by
  obtain ⟨hS, hr, hp, ht, ho, hw, hc⟩ := h
  have k0 : isK G (A 0) 8 := hS.2.1 0 (by decide)
  have k4 : isK G (A 4) 12 := hS.2.1 4 (by decide)
  have l4 : G.2.2 (A 4) = 6 := hS.2.2 4 (by decide) (by decide)
  have r3 := hr.1.2.2.1
  have e := lpF (fun f (x : Int32) i3 => lp_X8_filledSlots_4 G M (A 0) f x i3) (fun j => nI (ct (fun s => decide (0 < ns s)) j)) 6 (nI (ct (fun s => decide (0 < ns s)) 6)) (by omega) (fun f j hj => by
    have r4 := hr.2.2.2.2.2.2.2 j hj
    have kc := (sh_ch hS (hp.1 j (by omega))).1
    rw [lp_X8_filledSlots_4, bd_X8_filledSlots_4]
    rw [ct_s]
    rcases hc j hj with ⟨z1, z2⟩ | ⟨z1, z2, z3⟩
    · rw [decide_eq_false (by omega)]
      simp (disch := first | assumption | omega | (refine inb_n ?_ ?_ <;> omega) | fail) only [ck_t, Option.bind_some, iLeP, iLeN, iLtP, iLtN, iEqP, iEqN, nI_1, pk_mul, nI_add, cl_n, zI0, zI1, zI8, bI_z, if_true_eq, if_false_eq, if_true, if_false, nz6, r3, l4, r4, z2]
      rfl
    · have h5 := z2.1.2.2.2.2.1
      have h6 := z2.1.2.2.2.2.2.1
      have h7 := z1.1
      rw [decide_eq_true (by omega)]
      simp (disch := first | assumption | omega | (refine inb_n ?_ ?_ <;> omega) | fail) only [ck_t, Option.bind_some, iLeP, iLeN, iLtP, iLtN, iEqP, iEqN, nI_1, pk_mul, nI_add, cl_n, zI0, zI1, zI8, bI_z, if_true_eq, if_false_eq, if_true, if_false, nz6, r3, l4, r4, h5]) (fun f => by
    rw [lp_X8_filledSlots_4, bd_X8_filledSlots_4]
    simp (disch := first | assumption | omega | (refine inb_n ?_ ?_ <;> omega) | fail) only [ck_t, Option.bind_some, iLeP, iLeN, iLtP, iLtN, iEqP, iEqN, nI_1, pk_mul, nI_add, cl_n, zI0, zI1, zI8, bI_z, if_true_eq, if_false_eq, if_true, if_false, nz6])
  unfold f_X8_filledSlots
  rw [zI0]
  exact (congrArg (Option.bind · _) e)
/-- what count answers -/
def cou (tl ol : Nat) (ns : Nat → Nat) (i : Int32) : Int32 := if i = nI 0 then nI (ct (fun s => decide (0 < ns s)) 6) else if i = nI 1 then nI tl else if i = nI 2 then nI ol else -1
theorem kcount_eq (h : kCI G M A p tl tv ol ov ns qs cs) (i : Int32) : f_X8_count G M (A 0) i = some (cou tl ol ns i) := by
  have e1 := filled_eq h
  have k0 : isK G (A 0) 8 := h.1.2.1 0 (by decide)
  have k1 : isK G (A 1) 6 := h.1.2.1 1 (by decide)
  have r0 := h.2.1.1.1
  have t0 := h.2.2.2.1.1
  have o1 := h.2.2.2.2.1.1
  unfold f_X8_count cou
  rw [zI0, show (1 : Int32) = nI 1 from rfl, nz2]
  by_cases h0 : i = nI 0
  · rw [if_pos h0, if_pos h0, ck_t k0, e1, Option.bind_some]
  · rw [if_neg h0, if_neg h0]
    by_cases h1 : i = nI 1
    · rw [if_pos h1, if_pos h1, ck_t k0, r0, Option.bind_some, ck_t k1, t0]
    · rw [if_neg h1, if_neg h1]
      by_cases h2 : i = nI 2
      · rw [if_pos h2, if_pos h2, ck_t k0, o1]
      · rw [if_neg h2, if_neg h2]
end
section
variable {G : Gg} {M M' : Mm} {R : Nat → Nat} {tl : Nat} {tv : Nat → Nat} {ol : Nat} {ov ns qs : Nat → Nat} {cs : Nat → Nat → Nat → Nat}
theorem rRI_t {tl' : Nat} {tv' : Nat → Nat} (h : rRI G M R tl tv ol ov ns qs cs) (hf : fr M M' [R 0, R 1] []) (t0 : M'.1 (R 0) 17 = M.1 (R 0) 17) (t1 : M'.1 (R 0) 2 = nI tl') (t2 : tl' ≤ 80) (t3 : ∀ k, k < tl' → M'.1 (R 1) k = nI (tv' k)) (t4 : ∀ k, tv' k < 256) : rRI G M' R tl' tv' ol ov ns qs cs := by
  obtain ⟨hs, hr, ht, ho, hc⟩ := h
  have k : ∀ i, i < 17 → i ≠ 0 → i ≠ 1 → M'.1 (R i) = M.1 (R i) := fun i hi n1 n2 => hf.1 _ (ne_in2 (sR_ne hs hi (by decide) n1) (sR_ne hs hi (by decide) n2))
  refine ⟨hs, ?_, ⟨t1, t2, t3, t4⟩, by rw [t0, k 14 (by decide) (by decide) (by decide)]; exact ho, fun s hs6 => ?_⟩
  · unfold rfR; rw [hf.2.2]; exact hr
  · rw [k 2 (by decide) (by decide) (by decide), k 3 (by decide) (by decide) (by decide), k 4 (by decide) (by decide) (by decide)]
    exact hc s hs6
theorem unt_01 (hf : fr M M' [R 0, R 1] []) : unt M M' R 17 := unt_fr hf (fun y hy => by
    simp at hy
    rcases hy with rfl | rfl
    · exact ⟨0, by decide, rfl⟩
    · exact ⟨1, by decide, rfl⟩) (fun y hy => by simp at hy)
theorem come_k (h : rRI G M R tl tv ol ov ns qs cs) (h4 : tl + 4 ≤ 80) (x : Int32) : OK (f_X9_come G M (R 0) x) (fun M' => rRI G M' R (tl + 4) (ap4 tv tl x) ol ov ns qs cs ∧ unt M M' R 17) := by
  obtain ⟨hs, hr, ⟨t1, t2, t3, t4⟩, ho, hc⟩ := id h
  obtain ⟨w1, w2, w3, w5⟩ := w4_ok (M := M) (l := 2) (x := x) (sR_ne hs (by decide) (by decide) (show 0 ≠ 1 by decide)) t3
  exact ⟨_, come_eq hs hr.1 t1 h4, rRI_t h w3 (w5 17 (by decide)) w1 h4 w2 (ap4_lt t4), unt_01 w3⟩
theorem thr_0 (h : rRI G M R tl tv ol ov ns qs cs) (x : Int32) : rRI G (mwI M (R 0) 0 x) R tl tv ol ov ns qs cs ∧ unt M (mwI M (R 0) 0 x) R 17 := ⟨rRI_r h (rfr_0 h.1 (by decide) (by decide)), unt_I (by decide)⟩
theorem rfeed_p (h : rRI G M R tl tv ol ov ns qs cs) (h4 : tl + 20 ≤ 80) (a b c d e : Int32) : OK (f_X9_feed G M (R 0) a b c d e) (fun r => r.1 = nI (tl + 20) ∧ rRI G r.2 R (tl + 20) (ap20 tv tl a b c d e) ol ov ns qs cs ∧ unt M r.2 R 17) := by
  obtain ⟨z1, z2⟩ := thr_0 h (nI 0)
  obtain ⟨M1, a1, a2, a3⟩ := come_k z1 (by omega) a
  obtain ⟨M2, b1, b2, b3⟩ := come_k a2 (by omega) b
  obtain ⟨M3, c1, c2, c3⟩ := come_k b2 (by omega) c
  obtain ⟨M4, d1, d2, d3⟩ := come_k c2 (by omega) d
  obtain ⟨M5, e1, e2, e3⟩ := come_k d2 (by omega) e
  have k0 : isK G (R 0) 9 := h.1.2.1 0 (by decide)
  have t0 := z1.2.2.1.1
  have t5 := e2.2.2.1.1
  refine ⟨(nI (tl + 20), M5), ?_, rfl, e2, unt_tr z2 (unt_tr a3 (unt_tr b3 (unt_tr c3 (unt_tr d3 e3))))⟩
  unfold f_X9_feed
  simp (disch := first | assumption | omega | (refine inb_n ?_ ?_ <;> omega) | fail) only [ck_t, Option.bind_some, iLeP, iLeN, iLtP, iLtN, iEqP, iEqN, nI_1, pk_mul, nI_add, cl_n, zI0, zI1, zI8, bI_z, if_true_eq, if_false_eq, if_true, if_false, t0, nz20, nz80, a1, b1, c1, d1, e1, t5]
theorem rfeed_n (h : rRI G M R tl tv ol ov ns qs cs) (h4 : 80 < tl + 20) (a b c d e : Int32) : f_X9_feed G M (R 0) a b c d e = some ((-1), mwI M (R 0) 0 (nI 0)) := by
  obtain ⟨z1, z2⟩ := thr_0 h (nI 0)
  have k0 : isK G (R 0) 9 := h.1.2.1 0 (by decide)
  have t0 := z1.2.2.1.1
  have tb := h.2.2.1.2.1
  unfold f_X9_feed
  simp (disch := first | assumption | omega | (refine inb_n ?_ ?_ <;> omega) | fail) only [ck_t, Option.bind_some, iLeP, iLeN, iLtP, iLtN, iEqP, iEqN, nI_1, pk_mul, nI_add, cl_n, zI0, zI1, zI8, bI_z, if_true_eq, if_false_eq, if_true, if_false, t0, nz20, nz80]
theorem rend_p (h : rRI G M R tl tv ol ov ns qs cs) {n : Nat} (hn : n ≤ tl) : OK (f_X9_end G M (R 0) (nI n)) (fun r => r.1 = nI 1 ∧ rRI G r.2 R n tv ol ov ns qs cs ∧ unt M r.2 R 17) := by
  obtain ⟨z1, z2⟩ := thr_0 h (nI 0)
  have k0 : isK G (R 0) 9 := h.1.2.1 0 (by decide)
  obtain ⟨t0, tb, t3, t4⟩ := z1.2.2.1
  refine ⟨(nI 1, mwI (mwI M (R 0) 0 (nI 0)) (R 0) 2 (nI n)), ?_, rfl, rRI_t z1 (fr_I (by simp)) (by rw [mwI_n (by omega)]) mwI_s (by omega) (fun k hk => ?_) t4, unt_tr z2 (unt_I (by decide))⟩
  · unfold f_X9_end
    simp (disch := first | assumption | omega | (refine inb_n ?_ ?_ <;> omega) | fail) only [ck_t, Option.bind_some, iLeP, iLeN, iLtP, iLtN, iEqP, iEqN, nI_1, pk_mul, nI_add, cl_n, zI0, zI1, zI8, bI_z, if_true_eq, if_false_eq, if_true, if_false, t0]
  · rw [mwI_n (Or.inl (sR_ne h.1 (by decide) (by decide) (by decide)))]
    exact t3 k (by omega)
theorem rend_n (h : rRI G M R tl tv ol ov ns qs cs) {i : Int32} (hi : ∀ n, n ≤ tl → i ≠ nI n) : f_X9_end G M (R 0) i = some (nI 0, mwI M (R 0) 0 (nI 0)) := by
  obtain ⟨z1, z2⟩ := thr_0 h (nI 0)
  have k0 : isK G (R 0) 9 := h.1.2.1 0 (by decide)
  obtain ⟨t0, tb, t3, t4⟩ := z1.2.2.1
  unfold f_X9_end
  rcases int_c i with hn | ⟨j, hj, rfl⟩
  · rw [ck_t k0, zI0]
    exact if_pos hn
  · have : tl < j := by
      rcases Nat.lt_or_ge tl j with h1 | h1
      · exact h1
      · exact absurd rfl (hi j h1)
    simp (disch := first | assumption | omega | (refine inb_n ?_ ?_ <;> omega) | fail) only [ck_t, Option.bind_some, iLeP, iLeN, iLtP, iLtN, iEqP, iEqN, nI_1, pk_mul, nI_add, cl_n, zI0, zI1, zI8, bI_z, if_true_eq, if_false_eq, if_true, if_false, t0]
theorem roct_p (h : rRI G M R tl tv ol ov ns qs cs) {n : Nat} (hn : n < ol) : f_X9_octet G M (R 0) (nI n) = some (nI (ov n), mwI M (R 0) 0 (nI 0)) := by
  obtain ⟨z1, z2⟩ := thr_0 h (nI 0)
  have k0 : isK G (R 0) 9 := h.1.2.1 0 (by decide)
  have k3 : isK G (R 14) 10 := h.1.2.1 14 (by decide)
  have l3 : G.2.2 (R 14) = 8 := h.1.2.2 14 (by decide) (by decide)
  have r1 := z1.2.1.2.2.2.2.2.2.2.2.2.2.2.2.2.1
  have o1 := h.2.2.2.1.1
  obtain ⟨o1', o2, o3⟩ := z1.2.2.2.1
  have o4 := o3 n hn
  unfold f_X9_octet
  simp (disch := first | assumption | omega | (refine inb_n ?_ ?_ <;> omega) | fail) only [ck_t, Option.bind_some, iLeP, iLeN, iLtP, iLtN, iEqP, iEqN, nI_1, pk_mul, nI_add, cl_n, zI0, zI1, zI8, bI_z, if_true_eq, if_false_eq, if_true, if_false, o1, r1, l3, o4]
theorem refuse_eq (h : rRI G M R tl tv ol ov ns qs cs) : f_X9_refuse G M (R 0) = some (nI 0, mwI M (R 0) 0 (nI 1)) := by
  have k0 : isK G (R 0) 9 := h.1.2.1 0 (by decide)
  unfold f_X9_refuse
  rw [ck_t k0]
  rfl
theorem roct_n (h : rRI G M R tl tv ol ov ns qs cs) {i : Int32} (hi : ∀ n, n < ol → i ≠ nI n) : f_X9_octet G M (R 0) i = some (nI 0, mwI M (R 0) 0 (nI 1)) := by
  have k0 : isK G (R 0) 9 := h.1.2.1 0 (by decide)
  have e1 := refuse_eq h
  obtain ⟨o1, o2, o3⟩ := h.2.2.2.1
  unfold f_X9_octet
  rcases int_c i with hn | ⟨j, hj, rfl⟩
  · simp (disch := first | assumption | omega | (refine inb_n ?_ ?_ <;> omega) | fail) only [ck_t, Option.bind_some, iLeP, iLeN, iLtP, iLtN, iEqP, iEqN, nI_1, pk_mul, nI_add, cl_n, zI0, zI1, zI8, bI_z, if_true_eq, if_false_eq, if_true, if_false, iNeg0, e1]
  · have : ol ≤ j := by
      rcases Nat.lt_or_ge j ol with h1 | h1
      · exact absurd rfl (hi j h1)
      · exact h1
    simp (disch := first | assumption | omega | (refine inb_n ?_ ?_ <;> omega) | fail) only [ck_t, Option.bind_some, iLeP, iLeN, iLtP, iLtN, iEqP, iEqN, nI_1, pk_mul, nI_add, cl_n, zI0, zI1, zI8, bI_z, if_true_eq, if_false_eq, if_true, if_false, o1, e1]
theorem rcount_eq (h : rRI G M R tl tv ol ov ns qs cs) (i : Int32) : f_X9_count G M (R 0) i = some (cou tl ol ns i, mwI M (R 0) 0 (nI 0)) := by
  obtain ⟨z1, z2⟩ := thr_0 h (nI 0)
  have k0 : isK G (R 0) 9 := h.1.2.1 0 (by decide)
  have k2 : isK G (R 2) 10 := h.1.2.1 2 (by decide)
  have l2 : G.2.2 (R 2) = 7 := h.1.2.2 2 (by decide) (by decide)
  have r3 := z1.2.1.2.1
  have e := lpF (fun f (x : Int32) i3 => lp_X9_count_9 G (mwI M (R 0) 0 (nI 0)) (R 0) i f x i3) (fun j => nI (ct (fun s => decide (0 < ns s)) j)) 6 (nI (ct (fun s => decide (0 < ns s)) 6)) (by omega) (fun f j hj => by
    obtain ⟨c1, c2⟩ := z1.2.2.2.2 j hj
    rw [lp_X9_count_9, bd_X9_count_9]
    rw [ct_s]
    by_cases hz : ns j = 0
    · rw [decide_eq_false (by omega)]
      simp (disch := first | assumption | omega | (refine inb_n ?_ ?_ <;> omega) | fail) only [ck_t, Option.bind_some, iLeP, iLeN, iLtP, iLtN, iEqP, iEqN, nI_1, pk_mul, nI_add, cl_n, zI0, zI1, zI8, bI_z, if_true_eq, if_false_eq, if_true, if_false, nz6, r3, l2, c1]
      rfl
    · have : ns j ≤ 8 := by
        rcases c2 with c2 | c2
        · omega
        · exact c2.1.2.1
      rw [decide_eq_true (by omega)]
      simp (disch := first | assumption | omega | (refine inb_n ?_ ?_ <;> omega) | fail) only [ck_t, Option.bind_some, iLeP, iLeN, iLtP, iLtN, iEqP, iEqN, nI_1, pk_mul, nI_add, cl_n, zI0, zI1, zI8, bI_z, if_true_eq, if_false_eq, if_true, if_false, nz6, r3, l2, c1]) (fun f => by
    rw [lp_X9_count_9, bd_X9_count_9]
    simp (disch := first | assumption | omega | (refine inb_n ?_ ?_ <;> omega) | fail) only [ck_t, Option.bind_some, iLeP, iLeN, iLtP, iLtN, iEqP, iEqN, nI_1, pk_mul, nI_add, cl_n, zI0, zI1, zI8, bI_z, if_true_eq, if_false_eq, if_true, if_false, nz6])
  have t0 := z1.2.2.1.1
  have o1 := z1.2.2.2.1.1
  unfold f_X9_count cou
  rw [ck_t k0, zI0]
  refine (congrArg (Option.bind · _) e).trans ?_
  rw [Option.bind_some, show (1 : Int32) = nI 1 from rfl, nz2, t0, o1]
  by_cases h0 : i = nI 0
  · rw [if_pos h0, if_pos h0]
  · rw [if_neg h0, if_neg h0]
    by_cases h1 : i = nI 1
    · rw [if_pos h1, if_pos h1]
    · rw [if_neg h1, if_neg h1]
      by_cases h2 : i = nI 2
      · rw [if_pos h2, if_pos h2]
      · rw [if_neg h2, if_neg h2]
end
