/-! melt of the reference, to the end -/
/-- the parts as the reference counts them: first the colours by their first states -/
def ptR (c : Nat → Nat → Nat) (n : Nat) (tv : Nat → Nat) (r : Nat) : Nat → Nat := if r = 0 then lbE (relP tv) else ptN c n tv r
theorem ptR_sam (c : Nat → Nat → Nat) (n : Nat) (tv : Nat → Nat) (r : Nat) : samP n (ptR c n tv r) (ptN c n tv r) := by
  unfold ptR
  split
  · rename_i h
    subst h
    intro i j hi hj
    rw [lb_iff (rel_eqv tv), rel_i]
    rfl
  · exact sam_of (fun _ _ => rfl)
theorem ptR_lt {c : Nat → Nat → Nat} {n : Nat} {tv : Nat → Nat} {r i : Nat} (hi : i < n) : ptR c n tv r i < nmN c n tv r := by
  unfold ptR
  split
  · rename_i h
    subst h
    exact lb_lt (rel_eqv tv) hi
  · rename_i h
    obtain ⟨k, rfl⟩ : ∃ k, r = k + 1 := ⟨r - 1, by omega⟩
    exact pt_lt hi
section
variable {G : Gg} {M : Mm} {R : Nat → Nat} {tl : Nat} {tv : Nat → Nat} {ol : Nat} {ov ns qs : Nat → Nat} {cs : Nat → Nat → Nat → Nat}
theorem rml_136 (h : rRI G M R tl tv ol ov ns qs cs) {s : Nat} {cv : Nat → Nat} {i2 : Int32} (hs : s < 6) (hn : 0 < ns s) (hP : ∀ k, k < ns s → M.1 (R 12) k = nI (lbE (relP cv) k)) : OK (lp_X9_melt_136 G (R 0) (nI s) i2 (nI (ns s)) FU (nI (nmN (cs s) (ns s) cv 0)) (nI 1) M) (fun r => r.1 = nI (mtN (cs s) (ns s) cv) ∧ rfr M r.2 R ∧ rP r.2 R (ns s) (mtP (cs s) (ns s) cv)) := by
  obtain ⟨hg, c1, c2, c3⟩ := slo_c h hs hn
  have hn8 := hg.2.1
  have m8 : ∀ k, k < ns s → mtP (cs s) (ns s) cv k < 8 := fun k hk => by
    have h1 : mtP (cs s) (ns s) cv k < mtN (cs s) (ns s) cv := pt_lt hk
    have h2 : mtN (cs s) (ns s) cv ≤ ns s := nm_n cv 9
    omega
  have e := lpI (fun f (_ : Int32) (x : Int32 × Int32 × Mm) => lp_X9_melt_136 G (R 0) (nI s) i2 (nI (ns s)) f x.1 x.2.1 x.2.2) (fun r x => rfr M x.2.2 R ∧ ((x.1 = nI (nmN (cs s) (ns s) cv r) ∧ x.2.1 = nI 1 ∧ r + 1 ≤ nmN (cs s) (ns s) cv r ∧ ∀ k, k < ns s → x.2.2.1 (R 12) k = nI (ptR (cs s) (ns s) cv r k)) ∨ (x.1 = nI (mtN (cs s) (ns s) cv) ∧ x.2.1 = nI 0 ∧ rP x.2.2 R (ns s) (mtP (cs s) (ns s) cv)))) 10 (fun r => r.1 = nI (mtN (cs s) (ns s) cv) ∧ rfr M r.2 R ∧ rP r.2 R (ns s) (mtP (cs s) (ns s) cv)) (by omega) (fun f r x hr hx => by
    obtain ⟨x1, x2, x3⟩ := x
    obtain ⟨e1, e2⟩ := hx
    dsimp only at e1 e2 ⊢
    rcases e2 with ⟨rfl, rfl, e3, e4⟩ | ⟨rfl, rfl, e3⟩
    · left
      have hnm := nm_n (c := cs s) (n := ns s) cv r
      have hnm2 := nm_n (c := cs s) (n := ns s) cv (r + 1)
      have hIx := rRI_r h e1
      have hPx : rP x3 R (ns s) (ptR (cs s) (ns s) cv r) := ⟨e4, fun k hk => by have := ptR_lt (c := cs s) (tv := cv) (r := r) hk; omega⟩
      obtain ⟨⟨v, M1⟩, a1, a2, a3, a4⟩ := rml_147 (i2 := i2) (i5 := nI (nmN (cs s) (ns s) cv r)) hIx hs hn hPx
      dsimp only at a2 a3 a4
      have hsam := ptR_sam (cs s) (ns s) cv r
      rw [nc_lk hsam, ← nm_s] at a2
      subst a2
      have a5 : ∀ k, k < ns s → M1.1 (R 13) k = nI (ptN (cs s) (ns s) cv (r + 1) k) := fun k hk => by
        rw [a4 k hk]
        have : lbE (lkB (cs s) (ns s) (ptR (cs s) (ns s) cv r)) k = ptN (cs s) (ns s) cv (r + 1) k := nx_cg hsam hk
        rw [this]
      have hI1 := rRI_r hIx a3
      by_cases hc : nmN (cs s) (ns s) cv (r + 1) ≤ nmN (cs s) (ns s) cv r
      · obtain ⟨M2, b1, b2, b3⟩ := rml_247 (i1 := nI s) (i2 := i2) (i5 := nI (nmN (cs s) (ns s) cv (r + 1))) (i6 := nI 0) hI1 hn8 a5
        have hp9 := pt_all hc (9 - (r + 1))
        have hn9 := nm_all hc (9 - (r + 1))
        rw [show r + 1 + (9 - (r + 1)) = 9 by omega] at hp9 hn9
        refine ⟨(nI (nmN (cs s) (ns s) cv (r + 1)), nI 0, M2), ⟨rfr_tr e1 (rfr_tr a3 b2), Or.inr ⟨?_, rfl, fun k hk => ?_, m8⟩⟩, ?_⟩
        · show _ = nI (nmN (cs s) (ns s) cv 9)
          rw [hn9]
        · show _ = nI (ptN (cs s) (ns s) cv 9 k)
          rw [hp9 k hk]
          exact b3 k hk
        · rw [lp_X9_melt_136, bd_X9_melt_136]
          simp (disch := first | assumption | omega | (refine inb_n ?_ ?_ <;> omega) | fail) only [ck_t, Option.bind_some, iLeP, iLeN, iLtP, iLtN, iEqP, iEqN, nI_1, pk_mul, nI_add, cl_n, zI0, zI1, zI8, bI_z, if_true_eq, if_false_eq, if_true, if_false, a1, b1]
      · obtain ⟨M2, b1, b2, b3⟩ := rml_247 (i1 := nI s) (i2 := i2) (i5 := nI (nmN (cs s) (ns s) cv (r + 1))) (i6 := nI 1) hI1 hn8 a5
        refine ⟨(nI (nmN (cs s) (ns s) cv (r + 1)), nI 1, M2), ⟨rfr_tr e1 (rfr_tr a3 b2), Or.inl ⟨rfl, rfl, by omega, fun k hk => ?_⟩⟩, ?_⟩
        · show _ = nI ((if r + 1 = 0 then lbE (relP cv) else ptN (cs s) (ns s) cv (r + 1)) k)
          rw [if_neg (by omega)]
          exact b3 k hk
        · rw [lp_X9_melt_136, bd_X9_melt_136]
          simp (disch := first | assumption | omega | (refine inb_n ?_ ?_ <;> omega) | fail) only [ck_t, Option.bind_some, iLeP, iLeN, iLtP, iLtN, iEqP, iEqN, nI_1, pk_mul, nI_add, cl_n, zI0, zI1, zI8, bI_z, if_true_eq, if_false_eq, if_true, if_false, a1, b1]
    · right
      refine ⟨(nI (mtN (cs s) (ns s) cv), x3), ?_, rfl, e1, e3⟩
      rw [lp_X9_melt_136, bd_X9_melt_136]
      simp (disch := first | assumption | omega | (refine inb_n ?_ ?_ <;> omega) | fail) only [ck_t, Option.bind_some, iLeP, iLeN, iLtP, iLtN, iEqP, iEqN, nI_1, pk_mul, nI_add, cl_n, zI0, zI1, zI8, bI_z, if_true_eq, if_false_eq, if_true, if_false]) (fun f x hx => by
    obtain ⟨x1, x2, x3⟩ := x
    obtain ⟨e1, e2⟩ := hx
    dsimp only at e1 e2 ⊢
    rcases e2 with ⟨rfl, rfl, e3, e4⟩ | ⟨rfl, rfl, e3⟩
    · have hnm := nm_n (c := cs s) (n := ns s) cv 10
      omega
    · refine ⟨(nI (mtN (cs s) (ns s) cv), x3), ?_, rfl, e1, e3⟩
      rw [lp_X9_melt_136, bd_X9_melt_136]
      simp (disch := first | assumption | omega | (refine inb_n ?_ ?_ <;> omega) | fail) only [ck_t, Option.bind_some, iLeP, iLeN, iLtP, iLtN, iEqP, iEqN, nI_1, pk_mul, nI_add, cl_n, zI0, zI1, zI8, bI_z, if_true_eq, if_false_eq, if_true, if_false]) (j0 := 0) (x := (nI (nmN (cs s) (ns s) cv 0), nI 1, M)) (by omega) ⟨rfr_rf M R, Or.inl ⟨rfl, rfl, nm_pos cv 0 hn, hP⟩⟩
  exact e
/-- the rows made from the last state down to k -/
def mdD (M : Mm) (R : Nat → Nat) (c : Nat → Nat → Nat) (n : Nat) (P : Nat → Nat) (N k0 : Nat) : Prop := ∀ a b k, a < N → b < N → k0 ≤ k → k < n → P k = a → (∀ l, k0 ≤ l → l < k → P l ≠ a) → M.1 (R 4) (384 + 8 * a + b) = nI (gS c n P k b)
theorem rml_291 (h : rRI G M R tl tv ol ov ns qs cs) {s N k0 : Nat} {P : Nat → Nat} {i2 i4 : Int32} (hs : s < 6) (hn : 0 < ns s) (hN8 : N ≤ 8) (hP : rP M R (ns s) P) (hl : ∀ l, l < ns s → P l < N) (hk0 : k0 < ns s) : OK (lp_X9_melt_291 G (R 0) (nI s) i2 i4 (nI N) (nI k0) FU (nI 0) M) (fun x => (rfr M x R ∧ x.1 (R 12) = M.1 (R 12)) ∧ (∀ b, b < N → x.1 (R 4) (384 + 8 * P k0 + b) = nI (gS (cs s) (ns s) P k0 b)) ∧ ∀ a b, a ≠ P k0 → b < 8 → x.1 (R 4) (384 + 8 * a + b) = M.1 (R 4) (384 + 8 * a + b)) := by
  obtain ⟨hg, c1, c2, c3⟩ := slo_c h hs hn
  have hn8 := hg.2.1
  have k0' : isK G (R 0) 9 := h.1.2.1 0 (by decide)
  have k12 : isK G (R 12) 10 := h.1.2.1 12 (by decide)
  have l12 : G.2.2 (R 12) = 8 := h.1.2.2 12 (by decide) (by decide)
  have n124 : R 12 ≠ R 4 := sR_ne h.1 (by decide) (by decide) (by decide)
  have hpk := hl k0 hk0
  refine lpI (fun f i8 (x : Mm) => lp_X9_melt_291 G (R 0) (nI s) i2 i4 (nI N) (nI k0) f i8 x) (fun j x => (rfr M x R ∧ x.1 (R 12) = M.1 (R 12)) ∧ (∀ b, b < j → x.1 (R 4) (384 + 8 * P k0 + b) = nI (gS (cs s) (ns s) P k0 b)) ∧ ∀ a b, a ≠ P k0 → b < 8 → x.1 (R 4) (384 + 8 * a + b) = M.1 (R 4) (384 + 8 * a + b)) N _ (by omega) (fun f j x hj hx => ?_) (fun f x hx => ?_) (j0 := 0) (x := M) (by omega) ⟨⟨rfr_rf M R, rfl⟩, fun b hb => absurd hb (Nat.not_lt_zero b), fun _ _ _ _ => rfl⟩
  · obtain ⟨⟨e1, e2⟩, e3, e4⟩ := hx
    left
    have hIx := rRI_r h e1
    have hPx : rP x R (ns s) P := ⟨by rw [e2]; exact hP.1, hP.2⟩
    have r14 := hIx.2.1.2.2.2.2.2.2.2.2.2.2.2.1
    have pk := hPx.1 k0 hk0
    have eg := goes_eq hIx hs hn hPx hk0 (show j < 8 by omega)
    have em := make_eq (x := nI (gS (cs s) (ns s) P k0 j)) hIx.1 hIx.2.1 (show P k0 < 8 by omega) (show j < 8 by omega)
    refine ⟨mwI x (R 4) (384 + 8 * P k0 + j) (nI (gS (cs s) (ns s) P k0 j)), ⟨⟨rfr_tr e1 (rfr_4 h.1 (by omega)), (va_up_ne _ _ n124).trans e2⟩, fun b hb => ?_, fun a b ha hb => ?_⟩, ?_⟩
    · by_cases e : b = j
      · subst e; rw [mwI_s]
      · rw [mwI_n (by omega)]; exact e3 b (by omega)
    · rw [mwI_n (by omega)]; exact e4 a b ha hb
    · rw [lp_X9_melt_291, bd_X9_melt_291]
      simp (disch := first | assumption | omega | (refine inb_n ?_ ?_ <;> omega) | fail) only [ck_t, Option.bind_some, iLeP, iLeN, iLtP, iLtN, iEqP, iEqN, nI_1, pk_mul, nI_add, cl_n, zI0, zI1, zI8, bI_z, if_true_eq, if_false_eq, if_true, if_false, r14, l12, pk, eg, em]
  · refine ⟨x, ?_, hx⟩
    rw [lp_X9_melt_291, bd_X9_melt_291]
    simp (disch := first | assumption | omega | (refine inb_n ?_ ?_ <;> omega) | fail) only [ck_t, Option.bind_some, iLeP, iLeN, iLtP, iLtN, iEqP, iEqN, nI_1, pk_mul, nI_add, cl_n, zI0, zI1, zI8, bI_z, if_true_eq, if_false_eq, if_true, if_false]
theorem rml_283 (h : rRI G M R tl tv ol ov ns qs cs) {s N : Nat} {P : Nat → Nat} {i2 : Int32} (hs : s < 6) (hn : 0 < ns s) (hN8 : N ≤ 8) (hP : rP M R (ns s) P) (hl : ∀ l, l < ns s → P l < N) : OK (lp_X9_melt_283 G (R 0) (nI s) i2 (nI (ns s)) (nI N) FU (nI (ns s - 1)) M) (fun x => (rfr M x R ∧ x.1 (R 12) = M.1 (R 12)) ∧ mdD x R (cs s) (ns s) P N 0) := by
  obtain ⟨hg, c1, c2, c3⟩ := slo_c h hs hn
  have hn8 := hg.2.1
  have e := lpI (fun f (_ : Int32) (x : Int32 × Mm) => lp_X9_melt_283 G (R 0) (nI s) i2 (nI (ns s)) (nI N) f x.1 x.2) (fun j x => x.1 = (if j < ns s then nI (ns s - 1 - j) else -nI 1) ∧ (rfr M x.2 R ∧ x.2.1 (R 12) = M.1 (R 12)) ∧ mdD x.2 R (cs s) (ns s) P N (ns s - j)) (ns s) (fun x => (rfr M x R ∧ x.1 (R 12) = M.1 (R 12)) ∧ mdD x R (cs s) (ns s) P N 0) (by omega) (fun f j x hj hx => by
    obtain ⟨x1, x2⟩ := x
    obtain ⟨e1, ⟨e2, e2'⟩, e3⟩ := hx
    dsimp only at e1 e2 e2' e3 ⊢
    rw [if_pos hj] at e1
    subst e1
    left
    have hPx : rP x2 R (ns s) P := ⟨by rw [e2']; exact hP.1, hP.2⟩
    obtain ⟨y, a1, ⟨a2, a2'⟩, a3, a4⟩ := rml_291 (i2 := i2) (i4 := nI (ns s)) (k0 := ns s - 1 - j) (rRI_r h e2) hs hn hN8 hPx hl (by omega)
    refine ⟨(if j + 1 < ns s then nI (ns s - 1 - (j + 1)) else -nI 1, y), ⟨rfl, ⟨rfr_tr e2 a2, a2'.trans e2'⟩, fun a b k ha hb hk1 hk2 hk3 hk4 => ?_⟩, ?_⟩
    · by_cases e : k = ns s - 1 - j
      · subst e
        subst hk3
        exact a3 b hb
      · have hne : P (ns s - 1 - j) ≠ a := hk4 _ (by omega) (by omega)
        rw [a4 a b (Ne.symm hne) (by omega)]
        exact e3 a b k ha hb (by omega) hk2 hk3 (fun l hl1 hl2 => hk4 l (by omega) hl2)
    · have hnx : nI (ns s - 1 - j) + -nI 1 = if j + 1 < ns s then nI (ns s - 1 - (j + 1)) else -nI 1 := by
        by_cases hc : j + 1 < ns s
        · rw [if_pos hc, show ns s - 1 - j = ns s - 1 - (j + 1) + 1 by omega, nI_d1]
        · rw [if_neg hc, show ns s - 1 - j = 0 by omega]
          decide
      rw [lp_X9_melt_283, bd_X9_melt_283]
      simp (disch := first | assumption | omega | (refine inb_n ?_ ?_ <;> omega) | fail) only [ck_t, Option.bind_some, iLeP, iLeN, iLtP, iLtN, iEqP, iEqN, nI_1, pk_mul, nI_add, cl_n, zI0, zI1, zI8, bI_z, if_true_eq, if_false_eq, if_true, if_false, a1, hnx]) (fun f x hx => by
    obtain ⟨x1, x2⟩ := x
    obtain ⟨e1, e2, e3⟩ := hx
    dsimp only at e1 e2 e3 ⊢
    rw [if_neg (by omega)] at e1
    rw [Nat.sub_self] at e3
    subst e1
    refine ⟨x2, ?_, e2, e3⟩
    rw [lp_X9_melt_283, bd_X9_melt_283]
    simp (disch := first | assumption | omega | (refine inb_n ?_ ?_ <;> omega) | fail) only [ck_t, Option.bind_some, iLeP, iLeN, iLtP, iLtN, iEqP, iEqN, nI_1, pk_mul, nI_add, cl_n, zI0, zI1, zI8, bI_z, if_true_eq, if_false_eq, if_true, if_false]
    exact if_pos (by decide)) (j0 := 0) (x := (nI (ns s - 1), M)) (by omega) ⟨by rw [if_pos hn]; rfl, ⟨rfr_rf M R, rfl⟩, fun a b k ha hb hk1 hk2 => absurd hk2 (by omega)⟩
  exact e
theorem mdD_0 {x : Mm} {c : Nat → Nat → Nat} {n N : Nat} {P : Nat → Nat} (hj : ∀ a, a < N → ∃ k, k < n ∧ P k = a) (h : mdD x R c n P N 0) : mdR x R N (mfc c n P N) := fun a b ha hb => by
  obtain ⟨f1, f2, f3⟩ := fo_lt (hj a ha)
  rw [h a b (foP P n a) ha hb (Nat.zero_le _) f1 f2 (fun l _ hl => f3 l hl)]
  unfold mfc
  rw [if_pos ⟨ha, hb⟩]
theorem rml_335 (h : rRI G M R tl tv ol ov ns qs cs) {n : Nat} {P : Nat → Nat} {i1 i2 i5 : Int32} (hn8 : n ≤ 8) (hP : ∀ k, k < n → M.1 (R 12) k = nI (P k)) : OK (lp_X9_melt_335 G (R 0) i1 i2 (nI n) i5 FU (nI 0) M) (fun x => fr M x [R 14] [] ∧ ∀ k, k < n → x.1 (R 14) k = nI (P k)) := by
  have k0 : isK G (R 0) 9 := h.1.2.1 0 (by decide)
  have k12 : isK G (R 12) 10 := h.1.2.1 12 (by decide)
  have l12 : G.2.2 (R 12) = 8 := h.1.2.2 12 (by decide) (by decide)
  have k14 : isK G (R 14) 10 := h.1.2.1 14 (by decide)
  have l14 : G.2.2 (R 14) = 8 := h.1.2.2 14 (by decide) (by decide)
  have n1214 : R 12 ≠ R 14 := sR_ne h.1 (by decide) (by decide) (by decide)
  refine lpI (fun f i7 (x : Mm) => lp_X9_melt_335 G (R 0) i1 i2 (nI n) i5 f i7 x) (fun j x => fr M x [R 14] [] ∧ ∀ k, k < j → x.1 (R 14) k = nI (P k)) n _ (by omega) (fun f i x hi hx => ?_) (fun f x hx => ?_) (j0 := 0) (x := M) (by omega) ⟨fr_rf, fun k hk => absurd hk (Nat.not_lt_zero k)⟩
  · obtain ⟨e1, e2⟩ := hx
    left
    have r14 : x.2.2 (R 0) 14 = some (R 12) := by rw [e1.2.2]; exact h.2.1.2.2.2.2.2.2.2.2.2.2.2.1
    have r16 : x.2.2 (R 0) 16 = some (R 14) := by rw [e1.2.2]; exact h.2.1.2.2.2.2.2.2.2.2.2.2.2.2.2.1
    have e4 : x.1 (R 12) i = nI (P i) := by rw [e1.1 _ (ne_in n1214)]; exact hP i hi
    refine ⟨mwI x (R 14) i (nI (P i)), ⟨fr_tr e1 (fr_I in_1), fun k hk => ?_⟩, ?_⟩
    · by_cases e : k = i
      · subst e; rw [mwI_s]
      · rw [mwI_n (by omega)]; exact e2 k (by omega)
    · rw [lp_X9_melt_335, bd_X9_melt_335]
      simp (disch := first | assumption | omega | (refine inb_n ?_ ?_ <;> omega) | fail) only [ck_t, Option.bind_some, iLeP, iLeN, iLtP, iLtN, iEqP, iEqN, nI_1, pk_mul, nI_add, cl_n, zI0, zI1, zI8, bI_z, if_true_eq, if_false_eq, if_true, if_false, r14, r16, l12, l14, e4]
  · obtain ⟨e1, e2⟩ := hx
    refine ⟨x, ?_, e1, e2⟩
    rw [lp_X9_melt_335, bd_X9_melt_335]
    simp (disch := first | assumption | omega | (refine inb_n ?_ ?_ <;> omega) | fail) only [ck_t, Option.bind_some, iLeP, iLeN, iLtP, iLtN, iEqP, iEqN, nI_1, pk_mul, nI_add, cl_n, zI0, zI1, zI8, bI_z, if_true_eq, if_false_eq, if_true, if_false]
theorem rRI_o {M' : Mm} {ol' : Nat} {ov' : Nat → Nat} (h : rRI G M R tl tv ol ov ns qs cs) (hf : fr M M' [R 0, R 14] []) (t0 : M'.1 (R 0) 2 = M.1 (R 0) 2) (o1 : M'.1 (R 0) 17 = nI ol') (o2 : ol' ≤ 8) (o3 : ∀ k, k < ol' → M'.1 (R 14) k = nI (ov' k)) : rRI G M' R tl tv ol' ov' ns qs cs := by
  obtain ⟨hs, hr, ht, ho, hc⟩ := h
  have k : ∀ i, i < 17 → i ≠ 0 → i ≠ 14 → M'.1 (R i) = M.1 (R i) := fun i hi n1 n2 => hf.1 _ (ne_in2 (sR_ne hs hi (by decide) n1) (sR_ne hs hi (by decide) n2))
  refine ⟨hs, ?_, by rw [t0, k 1 (by decide) (by decide) (by decide)]; exact ht, ⟨o1, o2, o3⟩, fun s hs6 => ?_⟩
  · unfold rfR; rw [hf.2.2]; exact hr
  · rw [k 2 (by decide) (by decide) (by decide), k 3 (by decide) (by decide) (by decide), k 4 (by decide) (by decide) (by decide)]
    exact hc s hs6
theorem rml_0 (h : rRI G M R tl tv ol ov ns qs cs) : rRI G (mwI (mwI M (R 0) 0 (nI 0)) (R 0) 2 (nI 0)) R 0 tv ol ov ns qs cs ∧ unt M (mwI (mwI M (R 0) 0 (nI 0)) (R 0) 2 (nI 0)) R 17 := by
  obtain ⟨z1, z2⟩ := thr_0 h (nI 0)
  exact ⟨rRI_t z1 (fr_I (by simp)) (by rw [mwI_n (by omega)]) mwI_s (by omega) (fun k hk => absurd hk (Nat.not_lt_zero k)) h.2.2.1.2.2.2, unt_tr z2 (unt_I (by decide))⟩
theorem rmelt_p (h : rRI G M R tl tv ol ov ns qs cs) {i1 i2 : Int32} {s t : Nat} (ho : mtOK ns tl i1 i2 s t) : OK (f_X9_melt G M (R 0) i1 i2) (fun r => r.1 = nI (mtN (cs s) (ns s) tv) ∧ rRI G r.2 R 0 tv (ns s) (mtP (cs s) (ns s) tv) (ud ns t (mtN (cs s) (ns s) tv)) (ud qs t (qs s / gD (qs s) (mtF (cs s) (ns s) tv))) (ud3 cs t (fun i j => mtF (cs s) (ns s) tv i j / gD (qs s) (mtF (cs s) (ns s) tv))) ∧ unt M r.2 R 17) := by
  obtain ⟨hs, rfl, hn, ht, rfl, htl⟩ := ho
  obtain ⟨z1, z2⟩ := rml_0 h
  obtain ⟨hg, c1, c2, c3⟩ := slo_c z1 hs hn
  have hn8 := hg.2.1
  have q6 := hg.2.2.2.1
  obtain ⟨m1, m2, m3, m4, m5, m6, m7⟩ := mt_ok tv hg
  have k0 : isK G (R 0) 9 := h.1.2.1 0 (by decide)
  have k2 : isK G (R 2) 10 := h.1.2.1 2 (by decide)
  have l2 : G.2.2 (R 2) = 7 := h.1.2.2 2 (by decide) (by decide)
  have k3 : isK G (R 3) 10 := h.1.2.1 3 (by decide)
  have l3 : G.2.2 (R 3) = 7 := h.1.2.2 3 (by decide) (by decide)
  have n10 : R 1 ≠ R 0 := sR_ne h.1 (by decide) (by decide) (by decide)
  have htv : ∀ k, k < ns s → (mwI (mwI M (R 0) 0 (nI 0)) (R 0) 2 (nI 0)).1 (R 1) k = nI (tv k) := fun k hk => by
    rw [mwI_n (Or.inl n10), mwI_n (Or.inl n10)]
    exact h.2.2.1.2.2.1 k (by omega)
  have t2 : (mwI M (R 0) 0 (nI 0)).1 (R 0) 2 = nI (ns s) := by
    rw [mwI_n (by omega), ← htl]
    exact h.2.2.1.1
  obtain ⟨⟨v1, M1⟩, a1, a2, a3, a4⟩ := rml_56 (i1 := nI s) (i2 := nI t) z1 hn8 htv h.2.2.1.2.2.2
  dsimp only at a2 a3 a4
  subst a2
  have hI1 := rRI_r z1 a3
  obtain ⟨⟨v2, M2⟩, b1, b2, b3, b4⟩ := rml_136 (i2 := nI t) hI1 hs hn a4
  dsimp only at b2 b3 b4
  subst b2
  have b1' : lp_X9_melt_136 G (R 0) (nI s) (nI t) (nI (ns s)) FU (nI (ncE (relP tv) (ns s))) (nI 1) M1 = some (nI (mtN (cs s) (ns s) tv), M2) := b1
  have hI2 := rRI_r hI1 b3
  obtain ⟨M3, d1, ⟨d2, d2'⟩, d3⟩ := rml_283 (i2 := nI t) hI2 hs hn m2 b4 m3
  have hI3 := rRI_r hI2 d2
  have d4 := mdD_0 m4 d3
  obtain ⟨M4, f1, f2, f3⟩ := rml_335 (i1 := nI s) (i2 := nI t) (i5 := nI (mtN (cs s) (ns s) tv)) hI3 hn8 (fun k hk => by rw [d2']; exact b4.1 k hk)
  have n014 : R 0 ≠ R 14 := sR_ne h.1 (by decide) (by decide) (by decide)
  have w4 : fr M3 (mwI M4 (R 0) 17 (nI (ns s))) [R 0, R 14] [] := fr_tr (fr_sub f2 (fun y hy => by simp at hy; simp [hy]) (fun y hy => hy)) (fr_I (by simp))
  have hI4 := rRI_o (ov' := mtP (cs s) (ns s) tv) hI3 w4 (by rw [mwI_n (by omega), f2.1 _ (ne_in n014)]) mwI_s hn8 (fun k hk => by rw [mwI_n (Or.inl (Ne.symm n014))]; exact f3 k hk)
  have u4 : unt M3 (mwI M4 (R 0) 17 (nI (ns s))) R 17 := unt_fr w4 (fun y hy => by
    simp at hy
    rcases hy with rfl | rfl
    · exact ⟨0, by decide, rfl⟩
    · exact ⟨14, by decide, rfl⟩) (fun y hy => by simp at hy)
  have hmd : mdR (mwI M4 (R 0) 17 (nI (ns s))) R (mtN (cs s) (ns s) tv) (mtF (cs s) (ns s) tv) := fun a b ha hb => by
    rw [w4.1 _ (ne_in2 (sR_ne h.1 (by decide) (by decide) (by decide)) (sR_ne h.1 (by decide) (by decide) (by decide)))]
    exact d4 a b ha hb
  have hfl : ∀ i j, mtF (cs s) (ns s) tv i j < 2 ^ 20 := fun i j => by
    unfold mtF mfc
    split
    · have := gS_le (P := mtP (cs s) (ns s) tv) hg (foP (mtP (cs s) (ns s) tv) (ns s) i) (ns s) (Nat.le_refl _) j
      omega
    · decide
  obtain ⟨⟨v5, M5⟩, g1, g2, g3, g4⟩ := puts_ok hI4 ht m2 hg.2.2.1 (by omega) hfl hmd (isG_64 (q := qs s) m2 m6) (gD_g m1 m2 hg.2.2.1 m5 m6 m7)
  dsimp only at g2 g3 g4
  refine ⟨(nI (mtN (cs s) (ns s) tv), M5), ?_, rfl, g3, unt_tr z2 (unt_tr (unt_r a3) (unt_tr (unt_r b3) (unt_tr (unt_r d2) (unt_tr u4 g4))))⟩
  have e1 := rhas_p z1 hs hn
  have e2 := isSlot9_p ht
  have r3 := z1.2.1.2.1
  have r4 := hI4.2.1.2.2.1
  have c2' := (slo_c hI4 hs hn).2.2.1
  have en : nI (ns s) - nI 1 = nI (ns s - 1) := by
    obtain ⟨k, hk⟩ : ∃ k, ns s = k + 1 := ⟨ns s - 1, by omega⟩
    rw [hk, nI_sb, Nat.add_sub_cancel]
  unfold f_X9_melt
  simp (disch := first | assumption | omega | (refine inb_n ?_ ?_ <;> omega) | fail) only [ck_t, Option.bind_some, iLeP, iLeN, iLtP, iLtN, iEqP, iEqN, nI_1, pk_mul, nI_add, cl_n, zI0, zI1, zI8, bI_z, if_true_eq, if_false_eq, if_true, if_false, e1, e2, r3, l2, c1, t2, a1, b1', en, d1, f1, r4, l3, c2', g1]
theorem rmelt_n (h : rRI G M R tl tv ol ov ns qs cs) {i1 i2 : Int32} (ho : ¬ ∃ s t, mtOK ns tl i1 i2 s t) : OK (f_X9_melt G M (R 0) i1 i2) (fun r => r.1 = -1 ∧ rRI G r.2 R 0 tv ol ov ns qs cs ∧ unt M r.2 R 17) := by
  obtain ⟨z1, z2⟩ := rml_0 h
  have k0 : isK G (R 0) 9 := h.1.2.1 0 (by decide)
  refine ⟨(-1, mwI (mwI M (R 0) 0 (nI 0)) (R 0) 2 (nI 0)), ?_, rfl, z1, z2⟩
  unfold f_X9_melt
  by_cases h1 : slo ns i1
  · obtain ⟨s, hs, rfl, hn⟩ := h1
    have e1 := rhas_p z1 hs hn
    by_cases h2 : isl i2
    · obtain ⟨t, ht, rfl⟩ := h2
      have e2 := isSlot9_p ht
      have hne : tl ≠ ns s := fun e => ho ⟨s, t, hs, rfl, hn, ht, rfl, e⟩
      obtain ⟨hg, c1, c2, c3⟩ := slo_c z1 hs hn
      have hn8 := hg.2.1
      have k2 : isK G (R 2) 10 := h.1.2.1 2 (by decide)
      have l2 : G.2.2 (R 2) = 7 := h.1.2.2 2 (by decide) (by decide)
      have t2 : (mwI M (R 0) 0 (nI 0)).1 (R 0) 2 = nI tl := by
        rw [mwI_n (by omega)]
        exact h.2.2.1.1
      have tb := h.2.2.1.2.1
      have r3 := z1.2.1.2.1
      simp (disch := first | assumption | omega | (refine inb_n ?_ ?_ <;> omega) | fail) only [ck_t, Option.bind_some, iLeP, iLeN, iLtP, iLtN, iEqP, iEqN, nI_1, pk_mul, nI_add, cl_n, zI0, zI1, zI8, bI_z, if_true_eq, if_false_eq, if_true, if_false, e1, e2, r3, l2, c1, t2]
    · have e2 := isSlot9_n h2
      simp (disch := first | assumption | omega | (refine inb_n ?_ ?_ <;> omega) | fail) only [ck_t, Option.bind_some, iLeP, iLeN, iLtP, iLtN, iEqP, iEqN, nI_1, pk_mul, nI_add, cl_n, zI0, zI1, zI8, bI_z, if_true_eq, if_false_eq, if_true, if_false, e1, e2]
  · have e1 := rhas_n z1 h1
    simp (disch := first | assumption | omega | (refine inb_n ?_ ?_ <;> omega) | fail) only [ck_t, Option.bind_some, iLeP, iLeN, iLtP, iLtN, iEqP, iEqN, nI_1, pk_mul, nI_add, cl_n, zI0, zI1, zI8, bI_z, if_true_eq, if_false_eq, if_true, if_false, e1]
end
