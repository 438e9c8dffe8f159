/-! melt of the reference -/
theorem nI_d1 (k : Nat) : nI (k + 1) + -nI 1 = nI k := by
  rw [← nI_add, Int32.add_assoc, Int32.add_right_neg, Int32.add_zero]
theorem nI_sb (k : Nat) : nI (k + 1) - nI 1 = nI k := by
  rw [Int32.sub_eq_add_neg, nI_d1]
theorem m1_lt {α : Type} {x y : α} : (if -nI 1 < nI 0 then x else y) = x := if_pos (by decide)
/-- the parts as the reference keeps them -/
def rP (M : Mm) (R : Nat → Nat) (n : Nat) (P : Nat → Nat) : Prop := (∀ k, k < n → M.1 (R 12) k = nI (P k)) ∧ ∀ k, k < n → P k < 8
section
variable {G : Gg} {M : Mm} {R : Nat → Nat} {tl : Nat} {tv : Nat → Nat} {ol : Nat} {ov ns qs : Nat → Nat} {cs : Nat → Nat → Nat → Nat}
theorem goes_eq (h : rRI G M R tl tv ol ov ns qs cs) {s i x : Nat} {P : Nat → Nat} (hs : s < 6) (hn : 0 < ns s) (hP : rP M R (ns s) P) (hi : i < ns s) (hx : x < 8) : f_X9_goesTo G M (R 0) (nI s) (nI i) (nI x) = some (nI (gS (cs s) (ns s) P i x)) := by
  obtain ⟨hg, c1, c2, c3⟩ := slo_c h hs hn
  have hn8 := hg.2.1
  have k0 : isK G (R 0) 9 := h.1.2.1 0 (by decide)
  have k2 : isK G (R 2) 10 := h.1.2.1 2 (by decide)
  have l2 : G.2.2 (R 2) = 7 := h.1.2.2 2 (by decide) (by decide)
  have k12 : isK G (R 12) 10 := h.1.2.1 12 (by decide)
  have l12 : G.2.2 (R 12) = 8 := h.1.2.2 12 (by decide) (by decide)
  have r3 := h.2.1.2.1
  have r14 := h.2.1.2.2.2.2.2.2.2.2.2.2.2.1
  have e := lpF (fun f (y : Int32) i5 => lp_X9_goesTo_6 G M (R 0) (nI s) (nI i) (nI x) f y i5) (fun j => nI (gS (cs s) j P i x)) (ns s) (nI (gS (cs s) (ns s) P i x)) (by omega) (fun f j hj => by
    have ea := rat_c h hs hn hi hj
    have pj := hP.1 j hj
    have bj := hP.2 j hj
    have gs : gS (cs s) (j + 1) P i x = gS (cs s) j P i x + (if P j = x then cs s i j else 0) := sN_succ _ _
    rw [gs]
    rw [lp_X9_goesTo_6, bd_X9_goesTo_6]
    by_cases hp : P j = x
    · rw [if_pos hp]
      simp (disch := first | assumption | omega | (refine inb_n ?_ ?_ <;> omega) | fail) only [ck_t, Option.bind_some, iLeP, iLeN, iLtP, iLtN, iEqP, iEqN, nI_1, pk_mul, nI_add, cl_n, zI0, zI1, zI8, bI_z, if_true_eq, if_false_eq, if_true, if_false, r3, l2, c1, r14, l12, pj, ea]
    · rw [if_neg hp]
      simp (disch := first | assumption | omega | (refine inb_n ?_ ?_ <;> omega) | fail) only [ck_t, Option.bind_some, iLeP, iLeN, iLtP, iLtN, iEqP, iEqN, nI_1, pk_mul, nI_add, cl_n, zI0, zI1, zI8, bI_z, if_true_eq, if_false_eq, if_true, if_false, r3, l2, c1, r14, l12, pj, ea]
      rfl) (fun f => by
    rw [lp_X9_goesTo_6, bd_X9_goesTo_6]
    simp (disch := first | assumption | omega | (refine inb_n ?_ ?_ <;> omega) | fail) only [ck_t, Option.bind_some, iLeP, iLeN, iLtP, iLtN, iEqP, iEqN, nI_1, pk_mul, nI_add, cl_n, zI0, zI1, zI8, bI_z, if_true_eq, if_false_eq, if_true, if_false, r3, l2, c1])
  have e' : lp_X9_goesTo_6 G M (R 0) (nI s) (nI i) (nI x) FU (nI 0) (nI 0) = some (nI (gS (cs s) (ns s) P i x)) := e
  unfold f_X9_goesTo
  simp (disch := first | assumption | omega | (refine inb_n ?_ ?_ <;> omega) | fail) only [ck_t, Option.bind_some, iLeP, iLeN, iLtP, iLtN, iEqP, iEqN, nI_1, pk_mul, nI_add, cl_n, zI0, zI1, zI8, bI_z, if_true_eq, if_false_eq, if_true, if_false, e']
theorem alike_eq (h : rRI G M R tl tv ol ov ns qs cs) {s i j : Nat} {P : Nat → Nat} (hs : s < 6) (hn : 0 < ns s) (hP : rP M R (ns s) P) (hi : i < ns s) (hj : j < ns s) : f_X9_areAlike G M (R 0) (nI s) (nI i) (nI j) = some (bI (lkB (cs s) (ns s) P i j)) := by
  obtain ⟨hg, c1, c2, c3⟩ := slo_c h hs hn
  have hn8 := hg.2.1
  have k0 : isK G (R 0) 9 := h.1.2.1 0 (by decide)
  have k12 : isK G (R 12) 10 := h.1.2.1 12 (by decide)
  have l12 : G.2.2 (R 12) = 8 := h.1.2.2 12 (by decide) (by decide)
  have r14 := h.2.1.2.2.2.2.2.2.2.2.2.2.2.1
  have pi := hP.1 i hi
  have pj := hP.1 j hj
  have bi := hP.2 i hi
  have bj := hP.2 j hj
  have hb : ∀ i x, gS (cs s) (ns s) P i x ≤ 60 := fun i x => gS_le hg i (ns s) (Nat.le_refl _) x
  by_cases hq : P i = P j
  · have e := lpI (fun f i4 (x : Unit) => lp_X9_areAlike_20 G M (R 0) (nI s) (nI i) (nI j) f i4) (fun x _ => ∀ y, y < x → gS (cs s) (ns s) P i y = gS (cs s) (ns s) P j y) 8 (fun r => (r = .inl (nI 0) ∧ lkB (cs s) (ns s) P i j = false) ∨ (r = .inr () ∧ lkB (cs s) (ns s) P i j = true)) (by omega) (fun f x u hx hI => by
      have g1 := goes_eq h hs hn hP hi hx
      have g2 := goes_eq h hs hn hP hj hx
      have u1 := hb i x
      have u2 := hb j x
      by_cases he : gS (cs s) (ns s) P i x = gS (cs s) (ns s) P j x
      · left
        refine ⟨(), fun y hy => ?_, ?_⟩
        · by_cases e : y = x
          · subst e; exact he
          · exact hI y (by omega)
        · rw [lp_X9_areAlike_20, bd_X9_areAlike_20]
          simp (disch := first | assumption | omega | (refine inb_n ?_ ?_ <;> omega) | fail) only [ck_t, Option.bind_some, iLeP, iLeN, iLtP, iLtN, iEqP, iEqN, nI_1, pk_mul, nI_add, cl_n, zI0, zI1, zI8, bI_z, if_true_eq, if_false_eq, if_true, if_false, g1, g2]
      · right
        refine ⟨.inl (nI 0), ?_, Or.inl ⟨rfl, ?_⟩⟩
        · rw [lp_X9_areAlike_20, bd_X9_areAlike_20]
          simp (disch := first | assumption | omega | (refine inb_n ?_ ?_ <;> omega) | fail) only [ck_t, Option.bind_some, iLeP, iLeN, iLtP, iLtN, iEqP, iEqN, nI_1, pk_mul, nI_add, cl_n, zI0, zI1, zI8, bI_z, if_true_eq, if_false_eq, if_true, if_false, g1, g2]
        · rw [← Bool.not_eq_true, lk_iff]
          intro z
          apply he
          by_cases hex : ∃ k, k < ns s ∧ P k = x
          · obtain ⟨k, k1, rfl⟩ := hex
            exact z.2 k k1
          · have z1 : ∀ i, gS (cs s) (ns s) P i x = 0 := fun i => sN_0 (fun k hk => if_neg (fun e => hex ⟨k, hk, e⟩))
            rw [z1, z1]) (fun f u hI => by
      refine ⟨.inr (), ?_, Or.inr ⟨rfl, lk_iff.mpr ⟨hq, fun k hk => hI _ (hP.2 k hk)⟩⟩⟩
      rw [lp_X9_areAlike_20, bd_X9_areAlike_20]
      simp (disch := first | assumption | omega | (refine inb_n ?_ ?_ <;> omega) | fail) only [ck_t, Option.bind_some, iLeP, iLeN, iLtP, iLtN, iEqP, iEqN, nI_1, pk_mul, nI_add, cl_n, zI0, zI1, zI8, bI_z, if_true_eq, if_false_eq, if_true, if_false]) (j0 := 0) (x := ()) (by omega) (fun y hy => absurd hy (Nat.not_lt_zero y))
    obtain ⟨r, e1, e2⟩ := e
    have e1' : lp_X9_areAlike_20 G M (R 0) (nI s) (nI i) (nI j) FU (nI 0) = some r := e1
    unfold f_X9_areAlike
    rcases e2 with ⟨rfl, e2⟩ | ⟨rfl, e2⟩
    · rw [e2]
      simp (disch := first | assumption | omega | (refine inb_n ?_ ?_ <;> omega) | fail) only [ck_t, Option.bind_some, iLeP, iLeN, iLtP, iLtN, iEqP, iEqN, nI_1, pk_mul, nI_add, cl_n, zI0, zI1, zI8, bI_z, if_true_eq, if_false_eq, if_true, if_false, r14, l12, pi, pj, e1', onS]
      rfl
    · rw [e2]
      simp (disch := first | assumption | omega | (refine inb_n ?_ ?_ <;> omega) | fail) only [ck_t, Option.bind_some, iLeP, iLeN, iLtP, iLtN, iEqP, iEqN, nI_1, pk_mul, nI_add, cl_n, zI0, zI1, zI8, bI_z, if_true_eq, if_false_eq, if_true, if_false, r14, l12, pi, pj, e1', onS]
      rfl
  · have e2 : lkB (cs s) (ns s) P i j = false := by
      rw [← Bool.not_eq_true, lk_iff]
      exact fun z => hq z.1
    rw [e2]
    unfold f_X9_areAlike
    simp (disch := first | assumption | omega | (refine inb_n ?_ ?_ <;> omega) | fail) only [ck_t, Option.bind_some, iLeP, iLeN, iLtP, iLtN, iEqP, iEqN, nI_1, pk_mul, nI_add, cl_n, zI0, zI1, zI8, bI_z, if_true_eq, if_false_eq, if_true, if_false, r14, l12, pi, pj]
    rfl
theorem rml_66 (hs : shR G R) (hr : rfR M R) {n i : Nat} {i1 i2 i4 i5 : Int32} (hn8 : n ≤ 8) (ht : ∀ k, k < n → M.1 (R 1) k = nI (tv k)) (tb : ∀ k, tv k < 256) (hi : i < n) : lp_X9_melt_66 G M (R 0) i1 i2 i4 i5 (nI i) FU (nI 0) = some (nI (hdE (relP tv) i)) := by
  have k0 : isK G (R 0) 9 := hs.2.1 0 (by decide)
  have k1 : isK G (R 1) 10 := hs.2.1 1 (by decide)
  have l1 : G.2.2 (R 1) = 80 := hs.2.2 1 (by decide) (by decide)
  have r1 := hr.1
  have hle := hd_le (relP tv) i
  have ti := ht i hi
  have bi := tb i
  have e := lpI (fun f i7 (x : Unit) => lp_X9_melt_66 G M (R 0) i1 i2 i4 i5 (nI i) f i7) (fun j _ => True) (hdE (relP tv) i) (fun r => r = nI (hdE (relP tv) i)) (by omega) (fun f j x hj _ => by
    left
    have hne := (fst_ok (relP tv i) i).2.1 j hj
    have hne' : tv j ≠ tv i := fun e => by
      have := rel_i (P := tv) (i := i) (j := j) |>.mpr e.symm
      rw [hne] at this; cases this
    have tj := ht j (by omega)
    have bj := tb j
    refine ⟨(), trivial, ?_⟩
    rw [lp_X9_melt_66, bd_X9_melt_66]
    simp (disch := first | assumption | omega | (refine inb_n ?_ ?_ <;> omega) | fail) only [ck_t, Option.bind_some, iLeP, iLeN, iLtP, iLtN, iEqP, iEqN, nI_1, pk_mul, nI_add, cl_n, zI0, zI1, zI8, bI_z, if_true_eq, if_false_eq, if_true, if_false, r1, l1, ti, tj]) (fun f x _ => by
    have he : tv (hdE (relP tv) i) = tv i := (rel_i.mp (hd_E (rel_eqv tv) i)).symm
    have tj := ht (hdE (relP tv) i) (by omega)
    refine ⟨nI (hdE (relP tv) i), ?_, rfl⟩
    rw [lp_X9_melt_66, bd_X9_melt_66]
    simp (disch := first | assumption | omega | (refine inb_n ?_ ?_ <;> omega) | fail) only [ck_t, Option.bind_some, iLeP, iLeN, iLtP, iLtN, iEqP, iEqN, nI_1, pk_mul, nI_add, cl_n, zI0, zI1, zI8, bI_z, if_true_eq, if_false_eq, if_true, if_false, r1, l1, ti, tj]) (j0 := 0) (x := ()) (by omega) trivial
  obtain ⟨r, e1, rfl⟩ := e
  exact e1
theorem rml_56 (h : rRI G M R tl tv ol ov ns qs cs) {n : Nat} {i1 i2 : Int32} {cv : Nat → Nat} (hn8 : n ≤ 8) (ht : ∀ k, k < n → M.1 (R 1) k = nI (cv k)) (tb : ∀ k, cv k < 256) : OK (lp_X9_melt_56 G (R 0) i1 i2 (nI n) FU (nI 0) (nI 0) M) (fun r => r.1 = nI (ncE (relP cv) n) ∧ rfr M r.2 R ∧ ∀ k, k < n → r.2.1 (R 12) k = nI (lbE (relP cv) k)) := by
  have k0 : isK G (R 0) 9 := h.1.2.1 0 (by decide)
  have k12 : isK G (R 12) 10 := h.1.2.1 12 (by decide)
  have l12 : G.2.2 (R 12) = 8 := h.1.2.2 12 (by decide) (by decide)
  have hE := rel_eqv cv
  refine lpI (fun f i6 (x : Int32 × Mm) => lp_X9_melt_56 G (R 0) i1 i2 (nI n) f x.1 i6 x.2) (fun j x => x.1 = nI (ct (rpE (relP cv)) j) ∧ rfr M x.2 R ∧ ∀ k, k < j → x.2.1 (R 12) k = nI (lbE (relP cv) k)) n _ (by omega) (fun f i x hi hx => ?_) (fun f x hx => ?_) (j0 := 0) (x := (nI 0, M)) (by omega) ⟨rfl, rfr_rf M R, fun k hk => absurd hk (Nat.not_lt_zero k)⟩
  · obtain ⟨x1, x2⟩ := x
    obtain ⟨e1, e2, e3⟩ := hx
    dsimp only at e1 e2 e3
    subst e1
    left
    have hIx := rRI_r h e2
    have r14 := hIx.2.1.2.2.2.2.2.2.2.2.2.2.2.1
    have x1t : x2.1 (R 1) = M.1 (R 1) := e2.1 _ (by
      simp
      exact ⟨sR_ne h.1 (by decide) (by decide) (by decide), sR_ne h.1 (by decide) (by decide) (by decide), sR_ne h.1 (by decide) (by decide) (by decide), sR_ne h.1 (by decide) (by decide) (by decide), sR_ne h.1 (by decide) (by decide) (by decide), sR_ne h.1 (by decide) (by decide) (by decide), sR_ne h.1 (by decide) (by decide) (by decide)⟩)
    have ef := rml_66 (i1 := i1) (i2 := i2) (i4 := nI n) (i5 := nI (ct (rpE (relP cv)) i)) hIx.1 hIx.2.1 hn8 (fun k hk => by rw [x1t]; exact ht k hk) tb hi
    have hle := hd_le (relP cv) i
    have hcl := ct_le (rpE (relP cv)) i
    by_cases hh : hdE (relP cv) i = i
    · have hr : rpE (relP cv) i = true := decide_eq_true hh
      have hl : lbE (relP cv) i = ct (rpE (relP cv)) i := by unfold lbE; rw [hh]
      rw [hh] at ef
      refine ⟨(nI (ct (rpE (relP cv)) i + 1), mwI x2 (R 12) i (nI (ct (rpE (relP cv)) i))), ⟨by rw [ct_s, if_pos hr], rfr_tr e2 (rfr_I h.1 (by omega)), fun k hk => ?_⟩, ?_⟩
      · by_cases e : k = i
        · subst e; rw [mwI_s, hl]
        · rw [mwI_n (by omega)]; exact e3 k (by omega)
      · dsimp only
        rw [lp_X9_melt_56, bd_X9_melt_56]
        simp (disch := first | assumption | omega | (refine inb_n ?_ ?_ <;> omega) | fail) only [ck_t, Option.bind_some, iLeP, iLeN, iLtP, iLtN, iEqP, iEqN, nI_1, pk_mul, nI_add, cl_n, zI0, zI1, zI8, bI_z, if_true_eq, if_false_eq, if_true, if_false, ef, jn_X9_melt_99, r14, l12, nI_sb]
    · have hr : rpE (relP cv) i = false := decide_eq_false hh
      have hl : lbE (relP cv) (hdE (relP cv) i) = lbE (relP cv) i := by unfold lbE; rw [hd_hd hE]
      have e5 := e3 (hdE (relP cv) i) (by omega)
      rw [hl] at e5
      refine ⟨(nI (ct (rpE (relP cv)) i), mwI x2 (R 12) i (nI (lbE (relP cv) i))), ⟨by rw [ct_s, hr]; rfl, rfr_tr e2 (rfr_I h.1 (by omega)), fun k hk => ?_⟩, ?_⟩
      · by_cases e : k = i
        · subst e; rw [mwI_s]
        · rw [mwI_n (by omega)]; exact e3 k (by omega)
      · dsimp only
        rw [lp_X9_melt_56, bd_X9_melt_56]
        simp (disch := first | assumption | omega | (refine inb_n ?_ ?_ <;> omega) | fail) only [ck_t, Option.bind_some, iLeP, iLeN, iLtP, iLtN, iEqP, iEqN, nI_1, pk_mul, nI_add, cl_n, zI0, zI1, zI8, bI_z, if_true_eq, if_false_eq, if_true, if_false, ef, jn_X9_melt_99, r14, l12, e5]
  · obtain ⟨x1, x2⟩ := x
    obtain ⟨e1, e2, e3⟩ := hx
    refine ⟨(x1, x2), ?_, e1, e2, e3⟩
    rw [lp_X9_melt_56, bd_X9_melt_56]
    simp (disch := first | assumption | omega | (refine inb_n ?_ ?_ <;> omega) | fail) only [ck_t, Option.bind_some, iLeP, iLeN, iLtP, iLtN, iEqP, iEqN, nI_1, pk_mul, nI_add, cl_n, zI0, zI1, zI8, bI_z, if_true_eq, if_false_eq, if_true, if_false]
theorem rml_157 (h : rRI G M R tl tv ol ov ns qs cs) {s i : Nat} {P : Nat → Nat} {i2 i4 i5 i7 : Int32} (hs : s < 6) (hn : 0 < ns s) (hP : rP M R (ns s) P) (hi : i < ns s) : lp_X9_melt_157 G M (R 0) (nI s) i2 i4 i5 i7 (nI i) FU (nI 0) = some (nI (hdE (lkB (cs s) (ns s) P) i)) := by
  obtain ⟨hg, c1, c2, c3⟩ := slo_c h hs hn
  have hn8 := hg.2.1
  have k0 : isK G (R 0) 9 := h.1.2.1 0 (by decide)
  have e := lpI (fun f i9 (x : Unit) => lp_X9_melt_157 G M (R 0) (nI s) i2 i4 i5 i7 (nI i) f i9) (fun j _ => ∀ k, k < j → lkB (cs s) (ns s) P i k = false) i (fun r => r = nI (hdE (lkB (cs s) (ns s) P) i)) (by omega) (fun f j x hj hx => by
    have ea := alike_eq h hs hn hP hi (show j < ns s by omega)
    cases hv : lkB (cs s) (ns s) P i j with
    | false =>
      left
      rw [hv] at ea
      have ea' : f_X9_areAlike G M (R 0) (nI s) (nI i) (nI j) = some (nI 0) := ea
      refine ⟨(), fun k hk => ?_, ?_⟩
      · by_cases e : k = j
        · subst e; exact hv
        · exact hx k (by omega)
      · rw [lp_X9_melt_157, bd_X9_melt_157]
        simp (disch := first | assumption | omega | (refine inb_n ?_ ?_ <;> omega) | fail) only [ck_t, Option.bind_some, iLeP, iLeN, iLtP, iLtN, iEqP, iEqN, nI_1, pk_mul, nI_add, cl_n, zI0, zI1, zI8, bI_z, if_true_eq, if_false_eq, if_true, if_false, ea']
    | true =>
      right
      rw [hv] at ea
      have ea' : f_X9_areAlike G M (R 0) (nI s) (nI i) (nI j) = some (nI 1) := ea
      refine ⟨nI j, ?_, ?_⟩
      · rw [lp_X9_melt_157, bd_X9_melt_157]
        simp (disch := first | assumption | omega | (refine inb_n ?_ ?_ <;> omega) | fail) only [ck_t, Option.bind_some, iLeP, iLeN, iLtP, iLtN, iEqP, iEqN, nI_1, pk_mul, nI_add, cl_n, zI0, zI1, zI8, bI_z, if_true_eq, if_false_eq, if_true, if_false, ea']
      · have : hdE (lkB (cs s) (ns s) P) i = j := fst_at hj hx hv
        rw [this]) (fun f x hx => by
    have : hdE (lkB (cs s) (ns s) P) i = i := fst_no hx
    refine ⟨nI i, ?_, by rw [this]⟩
    rw [lp_X9_melt_157, bd_X9_melt_157]
    simp (disch := first | assumption | omega | (refine inb_n ?_ ?_ <;> omega) | fail) only [ck_t, Option.bind_some, iLeP, iLeN, iLtP, iLtN, iEqP, iEqN, nI_1, pk_mul, nI_add, cl_n, zI0, zI1, zI8, bI_z, if_true_eq, if_false_eq, if_true, if_false]) (j0 := 0) (x := ()) (by omega) (fun k hk => absurd hk (Nat.not_lt_zero k))
  obtain ⟨r, e1, rfl⟩ := e
  exact e1
theorem rml_147 (h : rRI G M R tl tv ol ov ns qs cs) {s : Nat} {P : Nat → Nat} {i2 i5 : Int32} (hs : s < 6) (hn : 0 < ns s) (hP : rP M R (ns s) P) : OK (lp_X9_melt_147 G (R 0) (nI s) i2 (nI (ns s)) i5 FU (nI 0) (nI 0) M) (fun r => r.1 = nI (ncE (lkB (cs s) (ns s) P) (ns s)) ∧ rfr M r.2 R ∧ ∀ k, k < ns s → r.2.1 (R 13) k = nI (lbE (lkB (cs s) (ns s) P) k)) := by
  obtain ⟨hg, c1, c2, c3⟩ := slo_c h hs hn
  have hn8 := hg.2.1
  have k0 : isK G (R 0) 9 := h.1.2.1 0 (by decide)
  have k13 : isK G (R 13) 10 := h.1.2.1 13 (by decide)
  have l13 : G.2.2 (R 13) = 8 := h.1.2.2 13 (by decide) (by decide)
  have n1213 : R 12 ≠ R 13 := sR_ne h.1 (by decide) (by decide) (by decide)
  have hE := lk_eqv (c := cs s) (n := ns s) P
  refine lpI (fun f i8 (x : Int32 × Mm) => lp_X9_melt_147 G (R 0) (nI s) i2 (nI (ns s)) i5 f x.1 i8 x.2) (fun j x => x.1 = nI (ct (rpE (lkB (cs s) (ns s) P)) j) ∧ (rfr M x.2 R ∧ x.2.1 (R 12) = M.1 (R 12)) ∧ ∀ k, k < j → x.2.1 (R 13) k = nI (lbE (lkB (cs s) (ns s) P) k)) (ns s) _ (by omega) (fun f i x hi hx => ?_) (fun f x hx => ?_) (j0 := 0) (x := (nI 0, M)) (by omega) ⟨rfl, ⟨rfr_rf M R, rfl⟩, fun k hk => absurd hk (Nat.not_lt_zero k)⟩
  · obtain ⟨x1, x2⟩ := x
    obtain ⟨e1, ⟨e2, e2'⟩, e3⟩ := hx
    dsimp only at e1 e2 e2' e3
    subst e1
    left
    have hIx := rRI_r h e2
    have r15 := hIx.2.1.2.2.2.2.2.2.2.2.2.2.2.2.1
    have hPx : rP x2 R (ns s) P := ⟨by rw [e2']; exact hP.1, hP.2⟩
    have ef := rml_157 (i2 := i2) (i4 := nI (ns s)) (i5 := i5) (i7 := nI (ct (rpE (lkB (cs s) (ns s) P)) i)) hIx hs hn hPx hi
    have hle := hd_le (lkB (cs s) (ns s) P) i
    have hcl := ct_le (rpE (lkB (cs s) (ns s) P)) i
    have kp : ∀ (k : Nat) (v : Int32), (mwI x2 (R 13) k v).1 (R 12) = M.1 (R 12) := fun k v => (va_up_ne _ _ n1213).trans e2'
    by_cases hh : hdE (lkB (cs s) (ns s) P) i = i
    · have hr : rpE (lkB (cs s) (ns s) P) i = true := decide_eq_true hh
      have hl : lbE (lkB (cs s) (ns s) P) i = ct (rpE (lkB (cs s) (ns s) P)) i := by unfold lbE; rw [hh]
      rw [hh] at ef
      refine ⟨(nI (ct (rpE (lkB (cs s) (ns s) P)) i + 1), mwI x2 (R 13) i (nI (ct (rpE (lkB (cs s) (ns s) P)) i))), ⟨by rw [ct_s, if_pos hr], ⟨rfr_tr e2 (rfr_I h.1 (by omega)), kp _ _⟩, fun k hk => ?_⟩, ?_⟩
      · by_cases e : k = i
        · subst e; rw [mwI_s, hl]
        · rw [mwI_n (by omega)]; exact e3 k (by omega)
      · dsimp only
        rw [lp_X9_melt_147, bd_X9_melt_147]
        simp (disch := first | assumption | omega | (refine inb_n ?_ ?_ <;> omega) | fail) only [ck_t, Option.bind_some, iLeP, iLeN, iLtP, iLtN, iEqP, iEqN, nI_1, pk_mul, nI_add, cl_n, zI0, zI1, zI8, bI_z, if_true_eq, if_false_eq, if_true, if_false, ef, jn_X9_melt_182, jn_X9_melt_192, r15, l13, nI_sb]
    · have hr : rpE (lkB (cs s) (ns s) P) i = false := decide_eq_false hh
      have hl : lbE (lkB (cs s) (ns s) P) (hdE (lkB (cs s) (ns s) P) i) = lbE (lkB (cs s) (ns s) P) i := by unfold lbE; rw [hd_hd hE]
      have e5 := e3 (hdE (lkB (cs s) (ns s) P) i) (by omega)
      rw [hl] at e5
      refine ⟨(nI (ct (rpE (lkB (cs s) (ns s) P)) i), mwI x2 (R 13) i (nI (lbE (lkB (cs s) (ns s) P) i))), ⟨by rw [ct_s, hr]; rfl, ⟨rfr_tr e2 (rfr_I h.1 (by omega)), kp _ _⟩, fun k hk => ?_⟩, ?_⟩
      · by_cases e : k = i
        · subst e; rw [mwI_s]
        · rw [mwI_n (by omega)]; exact e3 k (by omega)
      · dsimp only
        rw [lp_X9_melt_147, bd_X9_melt_147]
        simp (disch := first | assumption | omega | (refine inb_n ?_ ?_ <;> omega) | fail) only [ck_t, Option.bind_some, iLeP, iLeN, iLtP, iLtN, iEqP, iEqN, nI_1, pk_mul, nI_add, cl_n, zI0, zI1, zI8, bI_z, if_true_eq, if_false_eq, if_true, if_false, ef, jn_X9_melt_182, jn_X9_melt_192, r15, l13, e5]
  · obtain ⟨x1, x2⟩ := x
    obtain ⟨e1, e2, e3⟩ := hx
    refine ⟨(x1, x2), ?_, e1, e2.1, e3⟩
    rw [lp_X9_melt_147, bd_X9_melt_147]
    simp (disch := first | assumption | omega | (refine inb_n ?_ ?_ <;> omega) | fail) only [ck_t, Option.bind_some, iLeP, iLeN, iLtP, iLtN, iEqP, iEqN, nI_1, pk_mul, nI_add, cl_n, zI0, zI1, zI8, bI_z, if_true_eq, if_false_eq, if_true, if_false]
theorem rml_247 (h : rRI G M R tl tv ol ov ns qs cs) {n : Nat} {P : Nat → Nat} {i1 i2 i5 i6 : Int32} (hn8 : n ≤ 8) (h13 : ∀ k, k < n → M.1 (R 13) k = nI (P k)) : OK (lp_X9_melt_247 G (R 0) i1 i2 (nI n) i5 i6 FU (nI 0) M) (fun x => rfr M x R ∧ ∀ k, k < n → x.1 (R 12) k = nI (P k)) := by
  have k0 : isK G (R 0) 9 := h.1.2.1 0 (by decide)
  have k12 : isK G (R 12) 10 := h.1.2.1 12 (by decide)
  have l12 : G.2.2 (R 12) = 8 := h.1.2.2 12 (by decide) (by decide)
  have k13 : isK G (R 13) 10 := h.1.2.1 13 (by decide)
  have l13 : G.2.2 (R 13) = 8 := h.1.2.2 13 (by decide) (by decide)
  have n1312 : R 13 ≠ R 12 := sR_ne h.1 (by decide) (by decide) (by decide)
  refine lpI (fun f i8 (x : Mm) => lp_X9_melt_247 G (R 0) i1 i2 (nI n) i5 i6 f i8 x) (fun j x => rfr M x R ∧ (∀ k, k < n → x.1 (R 13) k = nI (P k)) ∧ ∀ k, k < j → x.1 (R 12) k = nI (P k)) n _ (by omega) (fun f i x hi hx => ?_) (fun f x hx => ?_) (j0 := 0) (x := M) (by omega) ⟨rfr_rf M R, h13, fun k hk => absurd hk (Nat.not_lt_zero k)⟩
  · obtain ⟨e1, e2, e3⟩ := hx
    left
    have hIx := rRI_r h e1
    have r14 := hIx.2.1.2.2.2.2.2.2.2.2.2.2.2.1
    have r15 := hIx.2.1.2.2.2.2.2.2.2.2.2.2.2.2.1
    have e4 := e2 i hi
    refine ⟨mwI x (R 12) i (nI (P i)), ⟨rfr_tr e1 (rfr_I h.1 (by omega)), fun k hk => by rw [mwI_n (Or.inl n1312)]; exact e2 k hk, fun k hk => ?_⟩, ?_⟩
    · by_cases e : k = i
      · subst e; rw [mwI_s]
      · rw [mwI_n (by omega)]; exact e3 k (by omega)
    · rw [lp_X9_melt_247, bd_X9_melt_247]
      simp (disch := first | assumption | omega | (refine inb_n ?_ ?_ <;> omega) | fail) only [ck_t, Option.bind_some, iLeP, iLeN, iLtP, iLtN, iEqP, iEqN, nI_1, pk_mul, nI_add, cl_n, zI0, zI1, zI8, bI_z, if_true_eq, if_false_eq, if_true, if_false, r14, r15, l12, l13, e4]
  · obtain ⟨e1, e2, e3⟩ := hx
    refine ⟨x, ?_, e1, e3⟩
    rw [lp_X9_melt_247, bd_X9_melt_247]
    simp (disch := first | assumption | omega | (refine inb_n ?_ ?_ <;> omega) | fail) only [ck_t, Option.bind_some, iLeP, iLeN, iLtP, iLtN, iEqP, iEqN, nI_1, pk_mul, nI_add, cl_n, zI0, zI1, zI8, bI_z, if_true_eq, if_false_eq, if_true, if_false]
end
