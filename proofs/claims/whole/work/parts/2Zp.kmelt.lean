/-! melt of the class -/
section
variable {G : Gg} {M : Mm} {o b t n q a cl : Nat} {P : Nat → Nat} {c : Nat → Nat → Nat}
theorem partOf_eq (hp : pC G M o b t n P) {j : Nat} (hj : j < n) : f_X5_partOf G M o (nI j) = some (nI (P j)) := by
  obtain ⟨h1, h2, h3, ⟨h4, h5⟩, ⟨h6, h7⟩, h8, h9, h10, h11, h12⟩ := hp
  have pj := h11 j hj
  unfold f_X5_partOf
  simp (disch := first | assumption | omega | (refine inb_n ?_ ?_ <;> omega) | fail) only [ck_t, Option.bind_some, iLeP, iLeN, iLtP, iLtN, iEqP, iEqN, nI_1, pk_mul, nI_add, cl_n, zI0, zI1, zI8, bI_z, if_true_eq, if_false_eq, if_true, if_false, h10, h2, h5, pj]
theorem firstOf_eq (hp : pC G M o b t n P) {x : Nat} (hx : x < 2 ^ 31) (he : ∃ k, k < n ∧ P k = x) : f_X5_firstOf G M o (nI x) = some (nI (foP P n x)) := by
  obtain ⟨h1, h2, h3, ⟨h4, h5⟩, ⟨h6, h7⟩, h8, h9, h10, h11, h12⟩ := hp
  obtain ⟨f1, f2, f3⟩ := fo_lt he
  have e := lpI (fun f i2 (y : Unit) => lp_X5_firstOf_2 G M o (nI x) f i2) (fun j _ => j ≤ foP P n x) (foP P n x) (fun r => r = .inl (nI (foP P n x))) (by omega) (fun f j y hj hy => by
    left
    refine ⟨(), by omega, ?_⟩
    have hne := f3 j hj
    have pj := h11 j (by omega)
    have bj := h12 j (by omega)
    rw [lp_X5_firstOf_2, bd_X5_firstOf_2]
    simp (disch := first | assumption | omega | (refine inb_n ?_ ?_ <;> omega) | fail) only [ck_t, Option.bind_some, iLeP, iLeN, iLtP, iLtN, iEqP, iEqN, nI_1, pk_mul, nI_add, cl_n, zI0, zI1, zI8, bI_z, if_true_eq, if_false_eq, if_true, if_false, h10, h2, h5, pj]) (fun f y hy => by
    refine ⟨.inl (nI (foP P n x)), ?_, rfl⟩
    have pj := h11 _ f1
    rw [lp_X5_firstOf_2, bd_X5_firstOf_2]
    simp (disch := first | assumption | omega | (refine inb_n ?_ ?_ <;> omega) | fail) only [ck_t, Option.bind_some, iLeP, iLeN, iLtP, iLtN, iEqP, iEqN, nI_1, pk_mul, nI_add, cl_n, zI0, zI1, zI8, bI_z, if_true_eq, if_false_eq, if_true, if_false, h10, h2, h5, pj]) (j0 := 0) (x := ()) (by omega) (Nat.zero_le _)
  obtain ⟨r, e1, rfl⟩ := e
  have e1' : lp_X5_firstOf_2 G M o (nI x) FU (nI 0) = some (.inl (nI (foP P n x))) := e1
  unfold f_X5_firstOf
  simp (disch := first | assumption | omega | (refine inb_n ?_ ?_ <;> omega) | fail) only [ck_t, Option.bind_some, iLeP, iLeN, iLtP, iLtN, iEqP, iEqN, nI_1, pk_mul, nI_add, cl_n, zI0, zI1, zI8, bI_z, if_true_eq, if_false_eq, if_true, if_false, e1', onS]
/-- rows before a made, m states of row a told -/
def mrw (c : Nat → Nat → Nat) (n : Nat) (P : Nat → Nat) (N a m : Nat) : Nat → Nat → Nat := fun x y => if x < a then mfc c n P N x y else if x = a ∧ y < N then gS c m P (foP P n a) y else 0
theorem mrw_0 (N : Nat) : mrw c n P N 0 0 = fun _ _ => 0 := by
  funext x y
  unfold mrw
  rw [if_neg (by omega)]
  split <;> rfl
theorem mrw_s {N a m : Nat} (h : P m < N) : up2 (mrw c n P N a m) a (P m) (mrw c n P N a m a (P m) + c (foP P n a) m) = mrw c n P N a (m + 1) := by
  funext x y
  have gs : ∀ y, gS c (m + 1) P (foP P n a) y = gS c m P (foP P n a) y + (if P m = y then c (foP P n a) m else 0) := fun y => sN_succ _ _
  unfold up2 mrw
  by_cases h1 : x = a ∧ y = P m
  · obtain ⟨rfl, rfl⟩ := h1
    rw [if_pos ⟨rfl, rfl⟩, if_neg (by omega), if_pos ⟨rfl, h⟩, if_neg (by omega), if_pos ⟨rfl, h⟩, gs, if_pos rfl]
  · rw [if_neg h1]
    by_cases h2 : x < a
    · rw [if_pos h2, if_pos h2]
    · rw [if_neg h2, if_neg h2]
      by_cases h3 : x = a ∧ y < N
      · rw [if_pos h3, if_pos h3, gs, if_neg (fun e => h1 ⟨h3.1, e.symm⟩), Nat.add_zero]
      · rw [if_neg h3, if_neg h3]
theorem mrw_r {N a : Nat} (ha : a < N) : mrw c n P N a n = mrw c n P N (a + 1) 0 := by
  funext x y
  unfold mrw
  by_cases h1 : x < a
  · rw [if_pos h1, if_pos (by omega)]
  · rw [if_neg h1]
    by_cases h2 : x = a
    · subst h2
      rw [if_pos (show x < x + 1 by omega)]
      unfold mfc
      by_cases h3 : y < N
      · rw [if_pos ⟨rfl, h3⟩, if_pos ⟨ha, h3⟩]
      · rw [if_neg (fun z => h3 z.2), if_neg (fun z => h3 z.2)]
    · rw [if_neg (fun z => h2 z.1), if_neg (show ¬ x < a + 1 by omega)]
      split <;> rfl
theorem mrw_n (N : Nat) : mrw c n P N N 0 = mfc c n P N := by
  funext x y
  unfold mrw
  by_cases h1 : x < N
  · rw [if_pos h1]
  · rw [if_neg h1, mfc_z (Or.inl (by omega))]
    split <;> rfl
theorem mrw_le (hg : gch n q c) {N a m : Nat} (hm : m ≤ n) (y : Nat) : mrw c n P N a m a y ≤ 60 := by
  unfold mrw
  rw [if_neg (by omega)]
  split
  · exact gS_le hg _ m hm y
  · omega
end
section
variable {G : Gg} {M : Mm} {A p : Nat → Nat} {tl : Nat} {tv : Nat → Nat} {ol : Nat} {ov ns qs : Nat → Nat} {cs : Nat → Nat → Nat → Nat}
theorem pC_o {M' : Mm} {o b t n : Nat} {P : Nat → Nat} (h : pC G M o b t n P) (e1 : M'.1 o = M.1 o) (e2 : M'.1 b = M.1 b) (e3 : M'.2.2 o = M.2.2 o) : pC G M' o b t n P := by
  obtain ⟨h1, h2, h3, h4, h6, h8, h9, h10, h11, h12⟩ := h
  exact ⟨h1, by rw [e3]; exact h2, by rw [e3]; exact h3, h4, h6, h8, h9, by rw [e1]; exact h10, by rw [e2]; exact h11, h12⟩
theorem mkmelt (h : kCI G M A p tl tv ol ov ns qs cs) {s N : Nat} {P : Nat → Nat} (hs : s < 6) (hn : 0 < ns s) (hp : pC G M (A 5) (A 6) (A 7) (ns s) P) (hN : M.1 (A 5) 3 = nI N) (hN1 : 1 ≤ N) (hN8 : N ≤ 8) (hl : ∀ l, l < ns s → P l < N) (hj : ∀ a, a < N → ∃ k, k < ns s ∧ P k = a) : OK (f_X0_makeMeltedOf G M (A (18 + 5 * p 6)) (A (18 + 5 * p s)) (A 5)) (fun x => dfC G x (A (18 + 5 * p 6)) (A (19 + 5 * p 6)) N (qs s) (mfc (cs s) (ns s) P N) ∧ fr M x [A (18 + 5 * p 6), A (19 + 5 * p 6)] []) := by
  obtain ⟨hg, hz, _⟩ := kCI_z h hs hn
  have hn8 := hg.2.1
  have hps : p s < 7 := h.2.2.1.1 s (by omega)
  have hp6 : p 6 < 7 := h.2.2.1.1 6 (by decide)
  have hne : p s ≠ p 6 := fun e => by have := h.2.2.1.2 s 6 (by omega) (by decide) e; omega
  have kc := hz.1.1
  have k5 := hp.1
  obtain ⟨t1, ⟨t2, t3, t4⟩, _⟩ := kCI_ch h hp6
  obtain ⟨M1, b1, b2, b3⟩ := begin_ok (M := M) (q := qs s) t1 t2 t3 t4 hN1 hN8
  have nin : ∀ i, i < 53 → i ≠ 18 + 5 * p 6 → i ≠ 19 + 5 * p 6 → A i ∉ [A (18 + 5 * p 6), A (19 + 5 * p 6)] := fun i hi h1 h2 => ne_in2 (sA_ne h.1 hi (by omega) h1) (sA_ne h.1 hi (by omega) h2)
  have hpx : ∀ x, fr M x [A (18 + 5 * p 6), A (19 + 5 * p 6)] [] → pC G x (A 5) (A 6) (A 7) (ns s) P := fun x hx => pC_o hp (hx.1 _ (nin 5 (by omega) (by omega) (by omega))) (hx.1 _ (nin 6 (by omega) (by omega) (by omega))) (by rw [hx.2.2])
  have hcx : ∀ x, fr M x [A (18 + 5 * p 6), A (19 + 5 * p 6)] [] → chC G x (A (18 + 5 * p s)) (A (19 + 5 * p s)) (ns s) (cs s) := fun x hx => chC_fr hz.1 hx (nin _ (by omega) (by omega) (by omega)) (nin _ (by omega) (by omega) (by omega))
  have row : ∀ a, a < N → ∀ x, fr M x [A (18 + 5 * p 6), A (19 + 5 * p 6)] [] → dfC G x (A (18 + 5 * p 6)) (A (19 + 5 * p 6)) N (qs s) (mrw (cs s) (ns s) P N a 0) → OK (lp_X0_makeMeltedOf_32 G (A (18 + 5 * p 6)) (A (18 + 5 * p s)) (A 5) (nI a) (nI (foP P (ns s) a)) FU (nI 0) x) (fun y => fr M y [A (18 + 5 * p 6), A (19 + 5 * p 6)] [] ∧ dfC G y (A (18 + 5 * p 6)) (A (19 + 5 * p 6)) N (qs s) (mrw (cs s) (ns s) P N a (ns s))) := fun a ha x hx hd => by
    have hfo := (fo_lt (hj a ha)).1
    refine lpI (fun f i5 (y : Mm) => lp_X0_makeMeltedOf_32 G (A (18 + 5 * p 6)) (A (18 + 5 * p s)) (A 5) (nI a) (nI (foP P (ns s) a)) f i5 y) (fun m y => fr M y [A (18 + 5 * p 6), A (19 + 5 * p 6)] [] ∧ dfC G y (A (18 + 5 * p 6)) (A (19 + 5 * p 6)) N (qs s) (mrw (cs s) (ns s) P N a m)) (ns s) _ (by omega) (fun f m y hm hy => ?_) (fun f y hy => ?_) (j0 := 0) (x := x) (by omega) ⟨hx, hd⟩
    · obtain ⟨e1, e2⟩ := hy
      left
      have ep := partOf_eq (hpx y e1) hm
      have hc := hcx y e1
      have ea := at_eq hc hfo hm
      have h0 := hc.2.2.2.2.1
      have hle := mrw_le (N := N) (a := a) (P := P) hg (show m ≤ ns s by omega) (P m)
      have hcl := gch_le hg (foP P (ns s) a) m
      have hq := hg.2.2.2.1
      obtain ⟨u, d1, d2, d3⟩ := raise_ok (v := cs s (foP P (ns s) a) m) e2 ha (hl m hm) (by omega)
      rw [mrw_s (hl m hm)] at d2
      refine ⟨u, ⟨fr_tr e1 (fr_2 d3), d2⟩, ?_⟩
      rw [lp_X0_makeMeltedOf_32, bd_X0_makeMeltedOf_32]
      simp (disch := first | assumption | omega | (refine inb_n ?_ ?_ <;> omega) | fail) only [ck_t, Option.bind_some, iLeP, iLeN, iLtP, iLtN, iEqP, iEqN, nI_1, pk_mul, nI_add, cl_n, zI0, zI1, zI8, bI_z, if_true_eq, if_false_eq, if_true, if_false, h0, ep, ea, d1]
    · obtain ⟨e1, e2⟩ := hy
      have h0 := (hcx y e1).2.2.2.2.1
      refine ⟨y, ?_, e1, e2⟩
      rw [lp_X0_makeMeltedOf_32, bd_X0_makeMeltedOf_32]
      simp (disch := first | assumption | omega | (refine inb_n ?_ ?_ <;> omega) | fail) only [ck_t, Option.bind_some, iLeP, iLeN, iLtP, iLtN, iEqP, iEqN, nI_1, pk_mul, nI_add, cl_n, zI0, zI1, zI8, bI_z, if_true_eq, if_false_eq, if_true, if_false, h0]
  have e := lpI (fun f i3 (x : Mm) => lp_X0_makeMeltedOf_14 G (A (18 + 5 * p 6)) (A (18 + 5 * p s)) (A 5) f i3 x) (fun a x => fr M x [A (18 + 5 * p 6), A (19 + 5 * p 6)] [] ∧ dfC G x (A (18 + 5 * p 6)) (A (19 + 5 * p 6)) N (qs s) (mrw (cs s) (ns s) P N a 0)) N (fun x => dfC G x (A (18 + 5 * p 6)) (A (19 + 5 * p 6)) N (qs s) (mfc (cs s) (ns s) P N) ∧ fr M x [A (18 + 5 * p 6), A (19 + 5 * p 6)] []) (by omega) (fun f a x ha hx => by
    obtain ⟨e1, e2⟩ := hx
    left
    have h0 := e2.2.2.2.2.1
    have ef := firstOf_eq (hpx x e1) (show a < 2 ^ 31 by omega) (hj a ha)
    obtain ⟨y, g1, g2, g3⟩ := row a ha x e1 e2
    rw [mrw_r ha] at g3
    refine ⟨y, ⟨g2, g3⟩, ?_⟩
    rw [lp_X0_makeMeltedOf_14, bd_X0_makeMeltedOf_14]
    simp (disch := first | assumption | omega | (refine inb_n ?_ ?_ <;> omega) | fail) only [ck_t, Option.bind_some, iLeP, iLeN, iLtP, iLtN, iEqP, iEqN, nI_1, pk_mul, nI_add, cl_n, zI0, zI1, zI8, bI_z, if_true_eq, if_false_eq, if_true, if_false, h0, ef, g1]) (fun f x hx => by
    obtain ⟨e1, e2⟩ := hx
    have h0 := e2.2.2.2.2.1
    rw [mrw_n] at e2
    refine ⟨x, ?_, e2, e1⟩
    rw [lp_X0_makeMeltedOf_14, bd_X0_makeMeltedOf_14]
    simp (disch := first | assumption | omega | (refine inb_n ?_ ?_ <;> omega) | fail) only [ck_t, Option.bind_some, iLeP, iLeN, iLtP, iLtN, iEqP, iEqN, nI_1, pk_mul, nI_add, cl_n, zI0, zI1, zI8, bI_z, if_true_eq, if_false_eq, if_true, if_false, h0]) (j0 := 0) (x := M1) (by omega) ⟨b3, by rw [mrw_0]; exact b2⟩
  obtain ⟨x, e1, e2, e3⟩ := e
  have hq := hz.2.1
  refine ⟨x, ?_, e2, e3⟩
  unfold f_X0_makeMeltedOf
  simp (disch := first | assumption | omega | (refine inb_n ?_ ?_ <;> omega) | fail) only [ck_t, Option.bind_some, iLeP, iLeN, iLtP, iLtN, iEqP, iEqN, nI_1, pk_mul, nI_add, cl_n, zI0, zI1, zI8, bI_z, if_true_eq, if_false_eq, if_true, if_false, hN, hq, b1, e1]
theorem place_k (h : kCI G M A p tl tv ol ov ns qs cs) {t n q : Nat} {f : Nat → Nat → Nat} (ht : t < 6) (hd : dfC G M (A (18 + 5 * p 6)) (A (19 + 5 * p 6)) n q f) (hn : 1 ≤ n) (hq : 0 < q) (hq2 : q < 2 ^ 20) (hrow : ∀ i, i < n → sN (f i) n = q) (hz : ∀ i j, n ≤ i ∨ n ≤ j → f i j = 0) (hs : q / gcS q (fun k => f (k / 8) (k % 8)) 64 ≤ 60) : OK (f_X8_place G M (A 0) (nI t)) (fun r => r.2.1 (A 5) = M.1 (A 5) ∧ r.2.1 (A 6) = M.1 (A 6)) := by
  have hp6 : p 6 < 7 := h.2.2.1.1 6 (by decide)
  have hisG := isG_64 (q := q) hd.2.2.2.2.2.1 hz
  have hD := Nat.pos_of_dvd_of_pos (gcS_d q (fun k => f (k / 8) (k % 8)) 64) hq
  have hD2 := gcS_le (g := fun k => f (k / 8) (k % 8)) hq 64
  obtain ⟨⟨v1, M1⟩, a1, a2, a3, a4, a5, a6⟩ := settle_ok (kCI_ch h hp6) hd hq hq2 hs
  generalize gcS q (fun k => f (k / 8) (k % 8)) 64 = D at *
  dsimp only at a2 a3 a4 a5 a6
  subst a2
  have hq1 : 1 ≤ q / D := Nat.div_pos hD2 hD
  have hg : gch n (q / D) (fun i j => f i j / D) := ⟨hn, hd.2.2.2.2.2.1, hq1, hs, fun i hi => by
    rw [sN_div hD (fun j hj => hisG.2.1 i j hi hj), hrow i hi], fun i j hij => by show f i j / D = 0; rw [hz i j hij]; exact Nat.zero_div D⟩
  have hI1 : kCI G M1 A p tl tv ol ov ns qs cs := kCI_fr h a6 (fun x hx => by
    simp at hx
    rcases hx with rfl | rfl | rfl | rfl
    · exact ⟨_, by simp, rfl⟩
    · exact ⟨_, by simp, rfl⟩
    · exact ⟨_, by simp, rfl⟩
    · exact ⟨_, by simp, rfl⟩) (fun x hx => by simp at hx)
  obtain ⟨hS, hr, hp, htp, ho, hw, hc⟩ := id hI1
  obtain ⟨d1, d2, d3, d4, d5, d6, d7, d8, d9⟩ := a3
  obtain ⟨b0, ⟨b1, b1l⟩, ⟨b2, b2l⟩, ⟨b3, b3l⟩, ⟨b4, b4l⟩⟩ := sh_ch hS hp6
  obtain ⟨r2, r3, r4, r5⟩ := hr.2.2.2.2.2.2.1 (p 6) hp6
  obtain ⟨w, w1, w2⟩ := hw (p 6) hp6
  have hCS : chS G M1 (A (18 + 5 * p 6)) (A (19 + 5 * p 6)) (A (20 + 5 * p 6)) (A (21 + 5 * p 6)) (A (22 + 5 * p 6)) n (q / D) (fun i j => f i j / D) (cN (fun i j => f i j / D) n) (cL (fun i j => f i j / D) n) w := ⟨⟨d1, d2, d3, d4, d5, d6, fun i j hi hj => d8 i j (by omega) (by omega), d9⟩, d7, hq1, hs, ⟨r3, b2, b2l⟩, ⟨r4, b3, b3l⟩, ⟨r5, b4, b4l⟩, a4, a5, fun i hi => w1 i (by omega), fun i => mkS_lt _ _, fun i => mkS_lt _ _, w2⟩
  obtain ⟨M2, f1, f2, f3, f4, f5⟩ := fill_ok (kCI_min hI1) hCS hg (sA_ne hS (by omega) (by omega) (by omega)) (sA_ne hS (by omega) (by omega) (by omega))
  have k0 : isK G (A 0) 8 := hS.2.1 0 (by decide)
  have k4 : isK G (A 4) 12 := hS.2.1 4 (by decide)
  have l4 : G.2.2 (A 4) = 6 := hS.2.2 4 (by decide) (by decide)
  have k11 : isK G (A 11) 2 := hS.2.1 11 (by decide)
  have k12 : isK G (A 12) 3 := hS.2.1 12 (by decide)
  have q4 := h.2.1.1.2.2.2.1
  have q4' := hr.1.2.2.2.1
  have q7 := hr.1.2.2.2.2.2.2.1
  have q11 := hr.2.2.2.2.1.1
  have p2 : M2.2.2 = M1.2.2 := f2.2.2
  have t3 : M2.2.2 (A 0) 3 = some (A 4) := by rw [p2]; exact hr.1.2.2.1
  have t4 : M2.2.2 (A 0) 4 = some (A (18 + 5 * p 6)) := by rw [p2]; exact q4'
  have ts : M2.2.2 (A 4) t = some (A (18 + 5 * p t)) := by rw [p2]; exact hr.2.2.2.2.2.2.2 t ht
  have n04 : A 0 ≠ A 4 := sA_ne hS (by omega) (by omega) (by omega)
  have e2 := isSlot_p ht
  have g1 : (mwP (mwP M2 (A 4) t (some (A (18 + 5 * p 6)))) (A 0) 4 (some (A (18 + 5 * p t)))).2.2 (A 0) 3 = some (A 4) := by
    rw [mwP_g, if_neg (by omega), mwP_g, if_neg (fun z => n04 z.1)]; exact t3
  have g2 : (mwP (mwP M2 (A 4) t (some (A (18 + 5 * p 6)))) (A 0) 4 (some (A (18 + 5 * p t)))).2.2 (A 4) t = some (A (18 + 5 * p 6)) := by
    rw [mwP_g, if_neg (fun z => n04 z.1.symm), mwP_g, if_pos ⟨rfl, rfl⟩]
  have i2 : ∀ i, i < 53 → i ≠ 12 → M2.1 (A i) = M1.1 (A i) := fun i hi hne => f2.1 _ (ne_in (sA_ne hS hi (by omega) hne))
  have g3 : M2.1 (A (18 + 5 * p 6)) 1 = nI (q / D) := by rw [i2 _ (by omega) (by omega)]; exact d7
  have nin : ∀ i, i < 18 → A i ∉ [A (18 + 5 * p 6), A (19 + 5 * p 6), A (20 + 5 * p 6), A (21 + 5 * p 6)] := fun i hi z => by
    simp at z
    rcases z with z | z | z | z
    · have := hS.1 _ _ (by omega) (by omega) z; omega
    · have := hS.1 _ _ (by omega) (by omega) z; omega
    · have := hS.1 _ _ (by omega) (by omega) z; omega
    · have := hS.1 _ _ (by omega) (by omega) z; omega
  refine ⟨(nI (q / D), mwP (mwP M2 (A 4) t (some (A (18 + 5 * p 6)))) (A 0) 4 (some (A (18 + 5 * p t)))), ?_, ?_, ?_⟩
  · unfold f_X8_place
    have g3' : (mwP (mwP M2 (A 4) t (some (A (18 + 5 * p 6)))) (A 0) 4 (some (A (18 + 5 * p t)))).1 (A (18 + 5 * p 6)) 1 = nI (q / D) := g3
    have h10 : (1 : Int32) = nI 0 ↔ False := by decide
    simp only [zI1] at a1
    simp (disch := first | assumption | omega | (refine inb_n ?_ ?_ <;> omega) | fail) only [ck_t, Option.bind_some, iLeP, iLeN, iLtP, iLtN, iEqP, iEqN, nI_1, pk_mul, nI_add, cl_n, zI0, zI1, zI8, bI_z, if_true_eq, if_false_eq, if_true, if_false, e2, q4, a1, q7, q11, q4', f1, t3, l4, ts, t4, g1, g2, g3']
  · exact (i2 5 (by omega) (by omega)).trans (a6.1 _ (nin 5 (by omega)))
  · exact (i2 6 (by omega) (by omega)).trans (a6.1 _ (nin 6 (by omega)))
theorem tell_ok {o b t n : Nat} {P : Nat → Nat} (hp : pC G M o b t n P) {d : Nat} (kd : isK G d 10) (ld : G.2.2 d = 8) (hdb : d ≠ b) : OK (f_X5_tellTo G M o d) (fun r => r.1 = nI n ∧ fr M r.2 [d] [] ∧ ∀ k, k < n → r.2.1 d k = nI (P k)) := by
  obtain ⟨h1, h2, h3, ⟨h4, h5⟩, ⟨h6, h7⟩, h8, h9, h10, h11, h12⟩ := id hp
  have ndo : o ≠ d := kne h1 kd (by decide)
  have z8 : Int32.ofNat 8 = nI 8 := rfl
  have e := lpI (fun f i2 (x : Mm) => lp_X5_tellTo_2 G o d f i2 x) (fun j x => fr M x [d] [] ∧ ∀ k, k < j → x.1 d k = nI (P k)) n (fun x => fr M x [d] [] ∧ ∀ k, k < n → x.1 d k = nI (P k)) (by omega) (fun f j x hj hx => by
    obtain ⟨e1, e2⟩ := hx
    left
    have x2 : x.1 o 2 = nI n := by rw [e1.1 o (ne_in ndo)]; exact h10
    have xb : x.1 b j = nI (P j) := by rw [e1.1 b (ne_in (Ne.symm hdb))]; exact h11 j hj
    have x0 : x.2.2 o 0 = some b := by rw [e1.2.2]; exact h2
    refine ⟨mwI x d j (nI (P j)), ⟨fr_tr e1 (fr_I in_1), fun k hk => ?_⟩, ?_⟩
    · by_cases e : k = j
      · subst e; rw [mwI_s]
      · rw [mwI_n (by omega)]; exact e2 k (by omega)
    · rw [lp_X5_tellTo_2, bd_X5_tellTo_2]
      simp (disch := first | assumption | omega | (refine inb_n ?_ ?_ <;> omega) | fail) only [ck_t, Option.bind_some, iLeP, iLeN, iLtP, iLtN, iEqP, iEqN, nI_1, pk_mul, nI_add, cl_n, zI0, zI1, zI8, bI_z, if_true_eq, if_false_eq, if_true, if_false, x2, ld, z8, x0, h5, xb]) (fun f x hx => by
    obtain ⟨e1, e2⟩ := hx
    have x2 : x.1 o 2 = nI n := by rw [e1.1 o (ne_in ndo)]; exact h10
    refine ⟨x, ?_, e1, e2⟩
    rw [lp_X5_tellTo_2, bd_X5_tellTo_2]
    simp (disch := first | assumption | omega | (refine inb_n ?_ ?_ <;> omega) | fail) only [ck_t, Option.bind_some, iLeP, iLeN, iLtP, iLtN, iEqP, iEqN, nI_1, pk_mul, nI_add, cl_n, zI0, zI1, zI8, bI_z, if_true_eq, if_false_eq, if_true, if_false, x2]) (j0 := 0) (x := M) (by omega) ⟨fr_rf, fun k hk => absurd hk (Nat.not_lt_zero k)⟩
  obtain ⟨x, e1, e2, e3⟩ := e
  have x2 : x.1 o 2 = nI n := by rw [e2.1 o (ne_in ndo)]; exact h10
  refine ⟨(nI n, x), ?_, rfl, e2, e3⟩
  unfold f_X5_tellTo
  simp (disch := first | assumption | omega | (refine inb_n ?_ ?_ <;> omega) | fail) only [ck_t, Option.bind_some, iLeP, iLeN, iLtP, iLtN, iEqP, iEqN, nI_1, pk_mul, nI_add, cl_n, zI0, zI1, zI8, bI_z, if_true_eq, if_false_eq, if_true, if_false, e1, x2]
theorem kCI_o {M' : Mm} {ol' : Nat} {ov' : Nat → Nat} (h : kCI G M A p tl tv ol ov ns qs cs) (hf : fr M M' [A 0, A 3] []) (o1 : M'.1 (A 0) 2 = nI ol') (o2 : ol' ≤ 8) (o3 : ∀ k, k < ol' → M'.1 (A 3) k = nI (ov' k)) : kCI G M' A p tl tv ol' ov' ns qs cs := by
  obtain ⟨hs, hr, hp, ht, ho, hw, hc⟩ := h
  have k : ∀ i, i < 53 → i ≠ 0 → i ≠ 3 → M'.1 (A i) = M.1 (A i) := fun i hi n1 n2 => hf.1 _ (ne_in2 (sA_ne hs hi (by decide) n1) (sA_ne hs hi (by decide) n2))
  have l : M'.2.1 = M.2.1 := funext fun b => hf.2.1 b (by simp)
  refine ⟨hs, ?_, hp, by rw [k 1 (by decide) (by decide) (by decide), k 2 (by decide) (by decide) (by decide)]; exact ht, ⟨o1, o2, o3⟩, fun x hx => ?_, fun s hs6 => ?_⟩
  · unfold rfC; rw [hf.2.2]; exact hr
  · unfold shW; rw [l]; exact hw x hx
  · have hk := hp.1 s (by omega)
    rw [k (18 + 5 * p s) (by omega) (by omega) (by omega)]
    rcases hc s hs6 with z | ⟨z1, z2, z3⟩
    · exact Or.inl z
    · exact Or.inr ⟨z1, chS_fr z2 (k _ (by omega) (by omega) (by omega)) (k _ (by omega) (by omega) (by omega)) (k _ (by omega) (by omega) (by omega)) (k _ (by omega) (by omega) (by omega)) (by rw [l]) (by rw [hf.2.2]), by rw [l]; exact z3⟩
def mtOK (ns : Nat → Nat) (tl : Nat) (i1 i2 : Int32) (s t : Nat) : Prop := s < 6 ∧ i1 = nI s ∧ 0 < ns s ∧ t < 6 ∧ i2 = nI t ∧ tl = ns s
/-- the parts' number, the parts, the cells -/
def mtN (c : Nat → Nat → Nat) (n : Nat) (tv : Nat → Nat) : Nat := nmN c n tv 9
def mtP (c : Nat → Nat → Nat) (n : Nat) (tv : Nat → Nat) : Nat → Nat := ptN c n tv 9
def mtF (c : Nat → Nat → Nat) (n : Nat) (tv : Nat → Nat) : Nat → Nat → Nat := mfc c n (mtP c n tv) (mtN c n tv)
theorem mt_ok {c : Nat → Nat → Nat} {n q : Nat} (tv : Nat → Nat) (hg : gch n q c) : 1 ≤ mtN c n tv ∧ mtN c n tv ≤ 8 ∧ (∀ l, l < n → mtP c n tv l < mtN c n tv) ∧ (∀ a, a < mtN c n tv → ∃ k, k < n ∧ mtP c n tv k = a) ∧ rowQ (mtN c n tv) q (mtF c n tv) ∧ (∀ i j, mtN c n tv ≤ i ∨ mtN c n tv ≤ j → mtF c n tv i j = 0) ∧ q / gD q (mtF c n tv) ≤ 60 := by
  have h1 : ∀ l, l < n → mtP c n tv l < mtN c n tv := fun l hl => pt_lt hl
  have h2 : ∀ a, a < mtN c n tv → ∃ k, k < n ∧ mtP c n tv k = a := fun a ha => pt_sj ha
  exact ⟨nm_pos tv 9 hg.1, Nat.le_trans (nm_n tv 9) hg.2.1, h1, h2, mfc_row hg h1 h2, fun i j hij => mfc_z hij, Nat.le_trans (Nat.div_le_self _ _) hg.2.2.2.1⟩
theorem kmelt_p (h : kCI G M A p tl tv ol ov ns qs cs) {i1 i2 : Int32} {s t : Nat} (ho : mtOK ns tl i1 i2 s t) : OK (f_X8_melt G M (A 0) i1 i2) (fun r => r.1 = nI (mtN (cs s) (ns s) tv) ∧ kCI G r.2 A (swp p t) 0 tv (ns s) (mtP (cs s) (ns s) tv) (ud ns t (mtN (cs s) (ns s) tv)) (ud qs t (qs s / gD (qs s) (mtF (cs s) (ns s) tv))) (ud3 cs t (fun i j => mtF (cs s) (ns s) tv i j / gD (qs s) (mtF (cs s) (ns s) tv))) ∧ unt M r.2 A 53) := by
  obtain ⟨hs, rfl, hn, ht, rfl, htl⟩ := ho
  obtain ⟨hg, hz, _⟩ := kCI_z h hs hn
  have hn8 := hg.2.1
  have hp6 : p 6 < 7 := h.2.2.1.1 6 (by decide)
  obtain ⟨m1, m2, m3, m4, m5, m6, m7⟩ := mt_ok tv hg
  obtain ⟨M1, a1, a2, a3, a4⟩ := ksplit h hs hn htl
  obtain ⟨hI1, u1⟩ := fr_p h a2
  obtain ⟨s1, s2, s3⟩ := shorten_p hI1 (Nat.zero_le tl)
  have n51 : A 5 ≠ A 1 := sA_ne h.1 (by decide) (by decide) (by decide)
  have n61 : A 6 ≠ A 1 := sA_ne h.1 (by decide) (by decide) (by decide)
  have hp2 : pC G (mwI M1 (A 1) 1 (nI 0)) (A 5) (A 6) (A 7) (ns s) (mtP (cs s) (ns s) tv) := pC_o a3 (va_up_ne _ _ n51) (va_up_ne _ _ n61) rfl
  have hN2 : (mwI M1 (A 1) 1 (nI 0)).1 (A 5) 3 = nI (mtN (cs s) (ns s) tv) := by rw [mwI_n (Or.inl n51)]; exact a4
  obtain ⟨M3, c1, c2, c3⟩ := mkmelt s2 hs hn hp2 hN2 m1 m2 m3 m4
  have hI3 : kCI G M3 A p 0 tv ol ov ns qs cs := kCI_fr s2 c3 (fun y hy => by
    simp at hy
    rcases hy with rfl | rfl
    · exact ⟨_, by simp, rfl⟩
    · exact ⟨_, by simp, rfl⟩) (fun y hy => by simp at hy)
  have u3 : unt (mwI M1 (A 1) 1 (nI 0)) M3 A 53 := unt_fr c3 (fun y hy => by
    simp at hy
    rcases hy with rfl | rfl
    · exact ⟨_, by omega, rfl⟩
    · exact ⟨_, by omega, rfl⟩) (fun y hy => by simp at hy)
  have q6 := hg.2.2.2.1
  obtain ⟨⟨v, M4⟩, b1, b2, b3, b4⟩ := place_ok hI3 ht c2 m1 hg.2.2.1 (by omega) m5 m6 m7
  obtain ⟨⟨v', M4'⟩, g1, g2, g3⟩ := place_k hI3 ht c2 m1 hg.2.2.1 (by omega) m5 m6 m7
  dsimp only at b2 b3 b4 g2 g3
  have eq : (v', M4') = (v, M4) := Option.some.inj (g1.symm.trans b1)
  obtain ⟨rfl, rfl⟩ := Prod.mk.inj eq
  subst b2
  have nin : ∀ i, i < 18 → A i ∉ [A (18 + 5 * p 6), A (19 + 5 * p 6)] := fun i hi => ne_in2 (sA_ne h.1 (by omega) (by omega) (by omega)) (sA_ne h.1 (by omega) (by omega) (by omega))
  have hp4 : pC G M4' (A 5) (A 6) (A 7) (ns s) (mtP (cs s) (ns s) tv) := by
    obtain ⟨h1, h2, h3, h4, h6, h8, h9, h10, h11, h12⟩ := hp2
    have e5 : M4'.1 (A 5) = (mwI M1 (A 1) 1 (nI 0)).1 (A 5) := g2.trans (c3.1 _ (nin 5 (by omega)))
    have e6 : M4'.1 (A 6) = (mwI M1 (A 1) 1 (nI 0)).1 (A 6) := g3.trans (c3.1 _ (nin 6 (by omega)))
    exact ⟨h1, b3.2.1.2.2.1.1, b3.2.1.2.2.1.2, h4, h6, h8, h9, by rw [e5]; exact h10, by rw [e6]; exact h11, h12⟩
  have k3 : isK G (A 3) 10 := h.1.2.1 3 (by decide)
  have l3 : G.2.2 (A 3) = 8 := h.1.2.2 3 (by decide) (by decide)
  obtain ⟨⟨w, M5⟩, d1, d2, d3, d4⟩ := tell_ok hp4 k3 l3 (sA_ne h.1 (by decide) (by decide) (by decide))
  dsimp only at d2 d3 d4
  subst d2
  have n30 : A 3 ≠ A 0 := sA_ne h.1 (by decide) (by decide) (by decide)
  have w5 : fr M4' (mwI M5 (A 0) 2 (nI (ns s))) [A 0, A 3] [] := fr_tr (fr_sub d3 (fun y hy => by simp at hy; simp [hy]) (fun y hy => hy)) (fr_I (by simp))
  have hI5 := kCI_o (ov' := mtP (cs s) (ns s) tv) b3 w5 mwI_s hn8 (fun k hk => by rw [mwI_n (Or.inl n30)]; exact d4 k hk)
  have u5 : unt M4' (mwI M5 (A 0) 2 (nI (ns s))) A 53 := unt_fr w5 (fun y hy => by
    simp at hy
    rcases hy with rfl | rfl
    · exact ⟨0, by decide, rfl⟩
    · exact ⟨3, by decide, rfl⟩) (fun y hy => by simp at hy)
  have hN5 : (mwI M5 (A 0) 2 (nI (ns s))).1 (A 5) 3 = nI (mtN (cs s) (ns s) tv) := by
    rw [mwI_n (Or.inl (sA_ne h.1 (by decide) (by decide) (by decide))), d3.1 _ (ne_in (sA_ne h.1 (by decide) (by decide) (by decide))), g2, c3.1 _ (nin 5 (by omega))]
    exact hN2
  refine ⟨(nI (mtN (cs s) (ns s) tv), mwI M5 (A 0) 2 (nI (ns s))), ?_, rfl, hI5, unt_tr u1 (unt_tr s3 (unt_tr u3 (unt_tr b4 u5)))⟩
  have k0 : isK G (A 0) 8 := h.1.2.1 0 (by decide)
  have k1 : isK G (A 1) 6 := h.1.2.1 1 (by decide)
  have k5 : isK G (A 5) 5 := h.1.2.1 5 (by decide)
  have kc := hz.1.1
  have kd6 := c2.1
  have e1 := chainIn_p h hs hn
  have e2 := isSlot_p ht
  have r0 := h.2.1.1.1
  have t1 := h.2.2.2.1.1
  rw [htl] at t1
  have h0 := hz.1.2.2.2.2.1
  have r5 := h.2.1.1.2.2.2.2.1
  have q0 := hI1.2.1.1.1
  have q4 := s2.2.1.1.2.2.2.1
  have q5 := s2.2.1.1.2.2.2.2.1
  have y5 := b3.2.1.1.2.2.2.2.1
  have y1 := b3.2.1.1.2.1
  have z5 := hI5.2.1.1.2.2.2.2.1
  have hm1 : (nI (qs s / gcS (qs s) (fun k => mfc (cs s) (ns s) (mtP (cs s) (ns s) tv) (mtN (cs s) (ns s) tv) (k / 8) (k % 8)) 64)) ≠ -nI 1 := m1_ne (by have : qs s / gcS (qs s) (fun k => mfc (cs s) (ns s) (mtP (cs s) (ns s) tv) (mtN (cs s) (ns s) tv) (k / 8) (k % 8)) 64 ≤ qs s := Nat.div_le_self _ _; omega)
  unfold f_X8_melt
  simp (disch := first | assumption | omega | (refine inb_n ?_ ?_ <;> omega) | fail) only [ck_t, Option.bind_some, iLeP, iLeN, iLtP, iLtN, iEqP, iEqN, nI_1, pk_mul, nI_add, cl_n, zI0, zI1, zI8, bI_z, if_true_eq, if_false_eq, if_true, if_false, e1, onE, e2, r0, t1, h0, jn_X8_melt_36v26, r5, a1, jn_X8_melt_55v28, q0, s1, q4, q5, c1, b1, if_neg hm1, y5, y1, d1, z5, hN5]
theorem kmelt_n (h : kCI G M A p tl tv ol ov ns qs cs) {i1 i2 : Int32} (ho : ¬ ∃ s t, mtOK ns tl i1 i2 s t) : OK (f_X8_melt G M (A 0) i1 i2) (fun r => r.1 = -1 ∧ kCI G r.2 A p 0 tv ol ov ns qs cs ∧ unt M r.2 A 53) := by
  have k0 : isK G (A 0) 8 := h.1.2.1 0 (by decide)
  have k1 : isK G (A 1) 6 := h.1.2.1 1 (by decide)
  obtain ⟨s1, s2, s3⟩ := shorten_p h (Nat.zero_le tl)
  have r0 := h.2.1.1.1
  refine ⟨(-1, mwI M (A 1) 1 (nI 0)), ?_, rfl, s2, s3⟩
  unfold f_X8_melt
  by_cases h1 : slo ns i1
  · obtain ⟨s, hs, rfl, hn⟩ := h1
    obtain ⟨hg, hz, _⟩ := kCI_z h hs hn
    have hn8 := hg.2.1
    have kc := hz.1.1
    have e1 := chainIn_p h hs hn
    by_cases h2 : isl i2
    · obtain ⟨t, ht, rfl⟩ := h2
      have e2 := isSlot_p ht
      have hne : tl ≠ ns s := fun e => ho ⟨s, t, hs, rfl, hn, ht, rfl, e⟩
      have t1 := h.2.2.2.1.1
      have tb := h.2.2.2.1.2.1
      have h0 := hz.1.2.2.2.2.1
      simp (disch := first | assumption | omega | (refine inb_n ?_ ?_ <;> omega) | fail) only [ck_t, Option.bind_some, iLeP, iLeN, iLtP, iLtN, iEqP, iEqN, nI_1, pk_mul, nI_add, cl_n, zI0, zI1, zI8, bI_z, if_true_eq, if_false_eq, if_true, if_false, e1, onE, e2, r0, t1, h0, jn_X8_melt_35v25, jn_X8_melt_36v26, jn_X8_melt_55v28, s1]
    · have e2 := isSlot_n h2
      simp (disch := first | assumption | omega | (refine inb_n ?_ ?_ <;> omega) | fail) only [ck_t, Option.bind_some, iLeP, iLeN, iLtP, iLtN, iEqP, iEqN, nI_1, pk_mul, nI_add, cl_n, zI0, zI1, zI8, bI_z, if_true_eq, if_false_eq, if_true, if_false, e1, onE, e2, r0, jn_X8_melt_35v25, jn_X8_melt_36v26, jn_X8_melt_55v28, s1]
  · have e1 := chainIn_n h h1
    simp (disch := first | assumption | omega | (refine inb_n ?_ ?_ <;> omega) | fail) only [ck_t, Option.bind_some, iLeP, iLeN, iLtP, iLtN, iEqP, iEqN, nI_1, pk_mul, nI_add, cl_n, zI0, zI1, zI8, bI_z, if_true_eq, if_false_eq, if_true, if_false, e1, onE, r0, jn_X8_melt_35, jn_X8_melt_36, jn_X8_melt_55, s1]
end
