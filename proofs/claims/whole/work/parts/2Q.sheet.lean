/-! sheet and lazy of both -/
def tvm (n : Nat) (tv : Nat → Nat) : Nat → Nat → Nat := fun i j => if i < n ∧ j < n then tv (i * n + j) else 0
theorem tvm_in {n i j : Nat} {tv : Nat → Nat} (hi : i < n) (hj : j < n) : tvm n tv i j = tv (i * n + j) := if_pos ⟨hi, hj⟩
theorem tvm_z {n i j : Nat} {tv : Nat → Nat} (h : n ≤ i ∨ n ≤ j) : tvm n tv i j = 0 := if_neg (by omega)
theorem tvm_lt {n : Nat} {tv : Nat → Nat} (h : ∀ k, tv k < 256) (i j : Nat) : tvm n tv i j < 256 := by
  unfold tvm
  split
  · exact h _
  · decide
theorem ij_lt {n i j : Nat} (hi : i < n) (hj : j < n) : i * n + j < n * n := by
  have h1 : (i + 1) * n ≤ n * n := Nat.mul_le_mul_right n hi
  rw [Nat.succ_mul] at h1
  omega
def rowQ (n q : Nat) (f : Nat → Nat → Nat) : Prop := ∀ i, i < n → sN (f i) n = q
theorem tat_eq {G : Gg} {M : Mm} {o b tl k : Nat} {tv : Nat → Nat} (h : tpC G M o b tl tv) (hk : k < tl) : f_X6_at G M o (nI k) = some (nI (tv k)) := by
  obtain ⟨h1, h2, h3, h4, h5, h6, h7, h8⟩ := h
  have e := h7 k hk
  unfold f_X6_at
  simp (disch := first | assumption | omega | (refine inb_n ?_ ?_ <;> omega) | fail) only [ck_t, Option.bind_some, iLeP, iLeN, iLtP, iLtN, iEqP, iEqN, nI_1, pk_mul, nI_add, cl_n, zI0, zI1, zI8, bI_z, if_true_eq, if_false_eq, if_true, if_false, h5, h2, h4, e]
theorem tpC_fr {G : Gg} {M M' : Mm} {o b tl : Nat} {tv : Nat → Nat} {ai al : List Nat} (h : tpC G M o b tl tv) (hf : fr M M' ai al) (n1 : o ∉ ai) (n2 : b ∉ ai) : tpC G M' o b tl tv := by
  obtain ⟨h1, h2, h3, h4, h5, h6, h7, h8⟩ := h
  exact ⟨h1, by rw [hf.2.2]; exact h2, h3, h4, by rw [hf.1 o n1]; exact h5, h6, by rw [hf.1 b n2]; exact h7, h8⟩
section
variable {G : Gg} {M : Mm} {a cl o b n q tl : Nat} {tv : Nat → Nat}
theorem read_row {i : Nat} (hT : tpC G M o b tl tv) (hd : dfC G M a cl n q (fl2 (tvm n tv) i 0)) {i3 : Int32} (hb : b ≠ cl) (hi : i < n) (hl : tl = n * n) : OK (lp_X0_readTape_52 G a o (nI n) i3 (nI i) FU (nI 0) M) (fun M' => dfC G M' a cl n q (fl2 (tvm n tv) (i + 1) 0) ∧ fr M M' [cl] []) := by
  have hn := hd.2.2.2.2.2.1
  have oc : o ≠ cl := kne hT.1 hd.2.2.1 (by decide)
  have k6 := hT.1
  have k0 := hd.1
  have hz := fl2_r (t := tvm n tv) (n := n) (fun x y h => tvm_z (Or.inr h)) i
  refine lpI (fun f1 i5 (x : Mm) => lp_X0_readTape_52 G a o (nI n) i3 (nI i) f1 i5 x) (fun j x => dfC G x a cl n q (fl2 (tvm n tv) i j) ∧ fr M x [cl] []) n _ (by omega) (fun f1 j x hj hx => ?_) (fun f1 x hx => ?_) (by omega) ⟨hd, fr_rf⟩
  · obtain ⟨e1, e2⟩ := hx
    left
    have hij := ij_lt hi hj
    have et := tat_eq (tpC_fr hT e2 (ne_in oc) (ne_in hb)) (show i * n + j < tl by omega)
    have hv := hT.2.2.2.2.2.2.2 (i * n + j)
    obtain ⟨y, a1, a2, a3⟩ := raise_ok (v := tv (i * n + j)) e1 hi hj (by rw [fl2_at]; omega)
    rw [fl2_at, Nat.zero_add, ← tvm_in (tv := tv) hi hj, fl2_s] at a2
    refine ⟨y, ⟨a2, fr_tr e2 a3⟩, ?_⟩
    · rw [lp_X0_readTape_52, bd_X0_readTape_52]
      simp (disch := first | assumption | omega | (refine inb_n ?_ ?_ <;> omega) | fail) only [ck_t, Option.bind_some, iLeP, iLeN, iLtP, iLtN, iEqP, iEqN, nI_1, pk_mul, nI_add, cl_n, zI0, zI1, zI8, bI_z, if_true_eq, if_false_eq, if_true, if_false, et, a1]
  · refine ⟨x, ?_, ?_, hx.2⟩
    · rw [lp_X0_readTape_52, bd_X0_readTape_52]
      simp (disch := first | assumption | omega | (refine inb_n ?_ ?_ <;> omega) | fail) only [ck_t, Option.bind_some, iLeP, iLeN, iLtP, iLtN, iEqP, iEqN, nI_1, pk_mul, nI_add, cl_n, zI0, zI1, zI8, bI_z, if_true_eq, if_false_eq, if_true, if_false]
    · rw [← hz]; exact hx.1
theorem readTape_ok (hT : tpC G M o b tl tv) (h1 : isK G a 0) (h2 : M.2.2 a 2 = some cl) (h3 : isK G cl 10) (h4 : G.2.2 cl = 64) (hb : b ≠ cl) (hn1 : 1 ≤ n) (hn : n ≤ 8) (hq1 : 1 ≤ q) (hq : q ≤ 60) (hl : tl = n * n) : OK (f_X0_readTape G M a o (nI n) (nI q)) (fun r => ((r.1 = nI 1 ∧ dfC G r.2 a cl n q (tvm n tv) ∧ rowQ n q (tvm n tv)) ∨ (r.1 = nI 0 ∧ ¬ rowQ n q (tvm n tv))) ∧ fr M r.2 [a, cl] []) := by
  obtain ⟨M1, b1, b2, b3⟩ := begin_ok (q := q) h1 h2 h3 h4 hn1 hn
  have k6 := hT.1
  have na : o ∉ [a, cl] := ne_in2 (kne hT.1 h1 (by decide)) (kne hT.1 h3 (by decide))
  have nb : b ∉ [a, cl] := ne_in2 (kne hT.2.2.1 h1 (by decide)) hb
  have t5 := hT.2.2.2.2.1
  have e := lpI (fun f1 i4 (x : Mm) => lp_X0_readTape_43 G a o (nI n) (nI q) f1 i4 x) (fun i x => dfC G x a cl n q (fl2 (tvm n tv) i 0) ∧ fr M x [a, cl] [] ∧ ∀ y, y < i → sN (tvm n tv y) n = q) n (fun r => (∃ y, r = .inr y ∧ dfC G y a cl n q (tvm n tv) ∧ rowQ n q (tvm n tv) ∧ fr M y [a, cl] []) ∨ (∃ y, r = .inl (nI 0, y) ∧ ¬ rowQ n q (tvm n tv) ∧ fr M y [a, cl] [])) (by omega) (fun f1 i x hi hx => by
    obtain ⟨e1, e2, e3⟩ := hx
    obtain ⟨y, a1, a2, a3⟩ := read_row (i3 := nI q) (tpC_fr hT e2 na nb) e1 hb hi hl
    have hC := dfC_C a2
    have ea := allStates_eq (M := y) h1 a2.2.2.2.2.1 hn
    have b8 := p2_31 hn
    have ei := into_eq hC hi (show 2 ^ n - 1 < 2 ^ 31 by omega)
    have hsum : sB (2 ^ n - 1) (fl2 (tvm n tv) (i + 1) 0 i) n = sN (tvm n tv i) n := by
      rw [sB_all (fun j hj => by rw [low_t]; simp; omega)]
      apply sN_congr
      intro j hj
      unfold fl2
      rw [if_pos (by omega)]
    rw [hsum] at ei
    have hbd : sN (tvm n tv i) n ≤ n * 256 := sN_le (fun j _ => Nat.le_of_lt (tvm_lt hT.2.2.2.2.2.2.2 i j))
    have hbd2 : n * 256 ≤ 8 * 256 := Nat.mul_le_mul_right _ hn
    have f2 : fr M y [a, cl] [] := fr_tr e2 (fr_2 a3)
    by_cases hr : sN (tvm n tv i) n = q
    · left
      refine ⟨y, ⟨a2, f2, fun z hz => ?_⟩, ?_⟩
      · by_cases hzi : z = i
        · subst hzi; exact hr
        · exact e3 z (by omega)
      · rw [lp_X0_readTape_43, bd_X0_readTape_43]
        simp (disch := first | assumption | omega | (refine inb_n ?_ ?_ <;> omega) | fail) only [ck_t, Option.bind_some, iLeP, iLeN, iLtP, iLtN, iEqP, iEqN, nI_1, pk_mul, nI_add, cl_n, zI0, zI1, zI8, bI_z, if_true_eq, if_false_eq, if_true, if_false, a1, ea, ei]
    · right
      refine ⟨.inl (nI 0, y), ?_, Or.inr ⟨y, rfl, fun z => hr (z i hi), f2⟩⟩
      rw [lp_X0_readTape_43, bd_X0_readTape_43]
      simp (disch := first | assumption | omega | (refine inb_n ?_ ?_ <;> omega) | fail) only [ck_t, Option.bind_some, iLeP, iLeN, iLtP, iLtN, iEqP, iEqN, nI_1, pk_mul, nI_add, cl_n, zI0, zI1, zI8, bI_z, if_true_eq, if_false_eq, if_true, if_false, a1, ea, ei]) (fun f1 x hx => by
    obtain ⟨e1, e2, e3⟩ := hx
    rw [fl2_n (fun x y h => tvm_z (Or.inl h))] at e1
    refine ⟨.inr x, ?_, Or.inl ⟨x, rfl, e1, e3, e2⟩⟩
    rw [lp_X0_readTape_43, bd_X0_readTape_43]
    simp (disch := first | assumption | omega | (refine inb_n ?_ ?_ <;> omega) | fail) only [ck_t, Option.bind_some, iLeP, iLeN, iLtP, iLtN, iEqP, iEqN, nI_1, pk_mul, nI_add, cl_n, zI0, zI1, zI8, bI_z, if_true_eq, if_false_eq, if_true, if_false]) (j0 := 0) (x := M1) (by omega) ⟨by rw [fl2_0]; exact b2, b3, fun y hy => absurd hy (by omega)⟩
  obtain ⟨r, c1, c2⟩ := e
  have hnn : n * n ≤ 8 * 8 := Nat.mul_le_mul hn hn
  rcases c2 with ⟨y, rfl, c2, c3, c4⟩ | ⟨y, rfl, c3, c4⟩
  · refine ⟨(nI 1, y), ?_, Or.inl ⟨rfl, c2, c3⟩, c4⟩
    unfold f_X0_readTape
    simp (disch := first | assumption | omega | (refine inb_n ?_ ?_ <;> omega) | fail) only [ck_t, Option.bind_some, iLeP, iLeN, iLtP, iLtN, iEqP, iEqN, nI_1, pk_mul, nI_add, cl_n, zI0, zI1, zI8, bI_z, if_true_eq, if_false_eq, if_true, if_false, nz60, t5, b1, c1, onS]
  · refine ⟨(nI 0, y), ?_, Or.inr ⟨rfl, c3⟩, c4⟩
    unfold f_X0_readTape
    simp (disch := first | assumption | omega | (refine inb_n ?_ ?_ <;> omega) | fail) only [ck_t, Option.bind_some, iLeP, iLeN, iLtP, iLtN, iEqP, iEqN, nI_1, pk_mul, nI_add, cl_n, zI0, zI1, zI8, bI_z, if_true_eq, if_false_eq, if_true, if_false, nz60, t5, b1, c1, onS]
theorem readTape_n {i2 i3 : Int32} (hT : tpC G M o b tl tv) (h : ¬ ∃ n q, 1 ≤ n ∧ n ≤ 8 ∧ 1 ≤ q ∧ q ≤ 60 ∧ i2 = nI n ∧ i3 = nI q ∧ tl = n * n) : f_X0_readTape G M a o i2 i3 = some (nI 0, M) := by
  obtain ⟨t1, t2, t3, t4, t5, t6, t7, t8⟩ := hT
  unfold f_X0_readTape
  have n1 : ∀ x : Int32, x < nI 0 → x < nI 1 := fun x hx => Int32.lt_trans hx (by decide)
  rcases int_c i2 with hn | ⟨n, hn, rfl⟩
  · exact if_pos (n1 _ hn)
  · by_cases hn1 : 1 ≤ n
    · by_cases hn8 : n ≤ 8
      · rcases int_c i3 with hq | ⟨q, hq, rfl⟩
        · have := n1 _ hq
          simp (disch := first | assumption | omega | (refine inb_n ?_ ?_ <;> omega) | fail) only [ck_t, Option.bind_some, iLeP, iLeN, iLtP, iLtN, iEqP, iEqN, nI_1, pk_mul, nI_add, cl_n, zI0, zI1, zI8, bI_z, if_true_eq, if_false_eq, if_true, if_false]
          exact if_pos this
        · by_cases hq1 : 1 ≤ q
          · by_cases hq6 : q ≤ 60
            · have hnn : n * n ≤ 8 * 8 := Nat.mul_le_mul hn8 hn8
              have hne : tl ≠ n * n := fun e => h ⟨n, q, hn1, hn8, hq1, hq6, rfl, rfl, e⟩
              simp (disch := first | assumption | omega | (refine inb_n ?_ ?_ <;> omega) | fail) only [ck_t, Option.bind_some, iLeP, iLeN, iLtP, iLtN, iEqP, iEqN, nI_1, pk_mul, nI_add, cl_n, zI0, zI1, zI8, bI_z, if_true_eq, if_false_eq, if_true, if_false, nz60, t5]
            · simp (disch := first | assumption | omega | (refine inb_n ?_ ?_ <;> omega) | fail) only [ck_t, Option.bind_some, iLeP, iLeN, iLtP, iLtN, iEqP, iEqN, nI_1, pk_mul, nI_add, cl_n, zI0, zI1, zI8, bI_z, if_true_eq, if_false_eq, if_true, if_false, nz60]
          · simp (disch := first | assumption | omega | (refine inb_n ?_ ?_ <;> omega) | fail) only [ck_t, Option.bind_some, iLeP, iLeN, iLtP, iLtN, iEqP, iEqN, nI_1, pk_mul, nI_add, cl_n, zI0, zI1, zI8, bI_z, if_true_eq, if_false_eq, if_true, if_false, nz60]
      · simp (disch := first | assumption | omega | (refine inb_n ?_ ?_ <;> omega) | fail) only [ck_t, Option.bind_some, iLeP, iLeN, iLtP, iLtN, iEqP, iEqN, nI_1, pk_mul, nI_add, cl_n, zI0, zI1, zI8, bI_z, if_true_eq, if_false_eq, if_true, if_false, nz60]
    · simp (disch := first | assumption | omega | (refine inb_n ?_ ?_ <;> omega) | fail) only [ck_t, Option.bind_some, iLeP, iLeN, iLtP, iLtN, iEqP, iEqN, nI_1, pk_mul, nI_add, cl_n, zI0, zI1, zI8, bI_z, if_true_eq, if_false_eq, if_true, if_false, nz60]
end
/-- what sheet asks of its numbers -/
def shOK (tl : Nat) (tv : Nat → Nat) (i1 i2 i3 : Int32) (s n q : Nat) : Prop := s < 6 ∧ i1 = nI s ∧ 1 ≤ n ∧ n ≤ 8 ∧ 1 ≤ q ∧ q ≤ 60 ∧ i2 = nI n ∧ i3 = nI q ∧ tl = n * n ∧ rowQ n q (tvm n tv)
/-- the divisor -/
abbrev gD (q : Nat) (f : Nat → Nat → Nat) : Nat := gcS q (fun k => f (k / 8) (k % 8)) 64
theorem gD_b {q : Nat} (f : Nat → Nat → Nat) (hq : 0 < q) : 0 < gD q f ∧ gD q f ≤ q := gcS_b hq 64
theorem gD_g {n q : Nat} {f : Nat → Nat → Nat} (hn1 : 1 ≤ n) (hn : n ≤ 8) (hq : 0 < q) (hr : rowQ n q f) (hz : ∀ i j, n ≤ i ∨ n ≤ j → f i j = 0) (hs : q / gD q f ≤ 60) : gch n (q / gD q f) (fun i j => f i j / gD q f) := by
  have hG := isG_64 (q := q) hn hz
  have hb := gD_b f hq
  refine ⟨hn1, hn, Nat.div_pos hb.2 hb.1, hs, fun i hi => ?_, fun i j h => ?_⟩
  · rw [sN_div hb.1 (fun j hj => hG.2.1 i j hi hj), hr i hi]
  · show f i j / gD q f = 0
    rw [hz i j h]; exact Nat.zero_div _
section
variable {G : Gg} {M : Mm} {A p : Nat → Nat} {tl : Nat} {tv : Nat → Nat} {ol : Nat} {ov ns qs : Nat → Nat} {cs : Nat → Nat → Nat → Nat}
theorem dr_fr {M' : Mm} (h : kCI G M A p tl tv ol ov ns qs cs) (hf : fr M M' [A (18 + 5 * p 6), A (19 + 5 * p 6)] []) : kCI G M' A p tl tv ol ov ns qs cs ∧ unt M M' A 53 := by
  have hp6 : p 6 < 7 := h.2.2.1.1 6 (by decide)
  exact ⟨kCI_fr h hf (fun x hx => by
    simp at hx
    rcases hx with rfl | rfl
    · exact ⟨_, by simp, rfl⟩
    · exact ⟨_, by simp, rfl⟩) (fun x hx => by simp at hx), unt_fr hf (fun x hx => by
    simp at hx
    rcases hx with rfl | rfl
    · exact ⟨_, by omega, rfl⟩
    · exact ⟨_, by omega, rfl⟩) (fun x hx => by simp at hx)⟩
theorem ksheet_p (h : kCI G M A p tl tv ol ov ns qs cs) {i1 i2 i3 : Int32} {s n q : Nat} (ho : shOK tl tv i1 i2 i3 s n q) : OK (f_X8_sheet G M (A 0) i1 i2 i3) (fun r => r.1 = nI (q / gD q (tvm n tv)) ∧ kCI G r.2 A (swp p s) 0 tv ol ov (ud ns s n) (ud qs s (q / gD q (tvm n tv))) (ud3 cs s (fun i j => tvm n tv i j / gD q (tvm n tv))) ∧ unt M r.2 A 53) := by
  obtain ⟨hs, rfl, hn1, hn, hq1, hq, rfl, rfl, hl, hrow⟩ := ho
  have hp6 : p 6 < 7 := h.2.2.1.1 6 (by decide)
  obtain ⟨c1, ⟨c2, c3, c4⟩, c5⟩ := kCI_ch h hp6
  obtain ⟨⟨v, M1⟩, a1, a2, a3⟩ := readTape_ok (kCI_tp h) c1 c2 c3 c4 (sA_ne h.1 (by omega) (by omega) (by omega)) hn1 hn hq1 hq hl
  dsimp only at a2 a3
  rcases a2 with ⟨rfl, a2, a4⟩ | ⟨_, a4⟩
  · obtain ⟨d1, d2⟩ := dr_fr h a3
    obtain ⟨e1, e2, e3⟩ := shorten_p d1 (show 0 ≤ tl by omega)
    have na : ∀ i, i < 53 → i ≠ 1 → A i ∉ [A 1] := fun i hi hne => ne_in (sA_ne h.1 hi (by decide) hne)
    have hd := dfC_fr a2 (fr_I (M := M1) (a := A 1) (k := 1) (x := nI 0) (ai := [A 1]) (al := []) in_1) (na _ (by omega) (by omega)) (na _ (by omega) (by omega))
    have hq60 : q / gD q (tvm n tv) ≤ 60 := Nat.le_trans (Nat.div_le_self _ _) hq
    obtain ⟨⟨v2, M2⟩, b1, b2, b3, b4⟩ := place_ok e2 hs hd hn1 (by omega) (by omega) hrow (fun i j hij => tvm_z hij) hq60
    dsimp only at b2 b3 b4
    subst b2
    refine ⟨(nI (q / gD q (tvm n tv)), M2), ?_, rfl, b3, unt_tr d2 (unt_tr e3 b4)⟩
    have k0 : isK G (A 0) 8 := h.1.2.1 0 (by decide)
    have k1 : isK G (A 1) 6 := h.1.2.1 1 (by decide)
    have r0 := h.2.1.1.1
    have r4 := h.2.1.1.2.2.2.1
    have r0' := d1.2.1.1.1
    have e0 := isSlot_p hs
    unfold f_X8_sheet jn_X8_sheet_27 jn_X8_sheet_28
    simp (disch := first | assumption | omega | (refine inb_n ?_ ?_ <;> omega) | fail) only [ck_t, Option.bind_some, iLeP, iLeN, iLtP, iLtN, iEqP, iEqN, nI_1, pk_mul, nI_add, cl_n, zI0, zI1, zI8, bI_z, if_true_eq, if_false_eq, if_true, if_false, e0, r4, r0, a1, r0', e1, b1]
  · exact absurd hrow a4
theorem ksheet_n (h : kCI G M A p tl tv ol ov ns qs cs) {i1 i2 i3 : Int32} (ho : ¬ ∃ s n q, shOK tl tv i1 i2 i3 s n q) : OK (f_X8_sheet G M (A 0) i1 i2 i3) (fun r => r.1 = -1 ∧ kCI G r.2 A p 0 tv ol ov ns qs cs ∧ unt M r.2 A 53) := by
  have hp6 : p 6 < 7 := h.2.2.1.1 6 (by decide)
  have k0 : isK G (A 0) 8 := h.1.2.1 0 (by decide)
  have k1 : isK G (A 1) 6 := h.1.2.1 1 (by decide)
  have r0 := h.2.1.1.1
  have r4 := h.2.1.1.2.2.2.1
  obtain ⟨c1, ⟨c2, c3, c4⟩, c5⟩ := kCI_ch h hp6
  by_cases hs : ∃ k, k < 6 ∧ i1 = nI k
  · obtain ⟨s, hs, rfl⟩ := hs
    have e0 := isSlot_p hs
    by_cases hx : ∃ n q, 1 ≤ n ∧ n ≤ 8 ∧ 1 ≤ q ∧ q ≤ 60 ∧ i2 = nI n ∧ i3 = nI q ∧ tl = n * n
    · obtain ⟨n, q, hn1, hn, hq1, hq, rfl, rfl, hl⟩ := hx
      obtain ⟨⟨v, M1⟩, a1, a2, a3⟩ := readTape_ok (kCI_tp h) c1 c2 c3 c4 (sA_ne h.1 (by omega) (by omega) (by omega)) hn1 hn hq1 hq hl
      dsimp only at a2 a3
      rcases a2 with ⟨rfl, a2, a4⟩ | ⟨rfl, a4⟩
      · exact absurd ⟨s, n, q, hs, rfl, hn1, hn, hq1, hq, rfl, rfl, hl, a4⟩ ho
      · obtain ⟨d1, d2⟩ := dr_fr h a3
        obtain ⟨e1, e2, e3⟩ := shorten_p d1 (show 0 ≤ tl by omega)
        have r0' := d1.2.1.1.1
        refine ⟨(-1, mwI M1 (A 1) 1 (nI 0)), ?_, rfl, e2, unt_tr d2 e3⟩
        unfold f_X8_sheet jn_X8_sheet_27 jn_X8_sheet_28
        simp (disch := first | assumption | omega | (refine inb_n ?_ ?_ <;> omega) | fail) only [ck_t, Option.bind_some, iLeP, iLeN, iLtP, iLtN, iEqP, iEqN, nI_1, pk_mul, nI_add, cl_n, zI0, zI1, zI8, bI_z, if_true_eq, if_false_eq, if_true, if_false, e0, r4, r0, a1, r0', e1]
    · have a1 := readTape_n (a := A (18 + 5 * p 6)) (kCI_tp h) hx
      obtain ⟨e1, e2, e3⟩ := shorten_p h (show 0 ≤ tl by omega)
      refine ⟨(-1, mwI M (A 1) 1 (nI 0)), ?_, rfl, e2, e3⟩
      unfold f_X8_sheet jn_X8_sheet_27 jn_X8_sheet_28
      simp (disch := first | assumption | omega | (refine inb_n ?_ ?_ <;> omega) | fail) only [ck_t, Option.bind_some, iLeP, iLeN, iLtP, iLtN, iEqP, iEqN, nI_1, pk_mul, nI_add, cl_n, zI0, zI1, zI8, bI_z, if_true_eq, if_false_eq, if_true, if_false, e0, r4, r0, a1, e1]
  · have e0 := isSlot_n hs
    obtain ⟨e1, e2, e3⟩ := shorten_p h (show 0 ≤ tl by omega)
    refine ⟨(-1, mwI M (A 1) 1 (nI 0)), ?_, rfl, e2, e3⟩
    unfold f_X8_sheet jn_X8_sheet_27 jn_X8_sheet_28
    simp (disch := first | assumption | omega | (refine inb_n ?_ ?_ <;> omega) | fail) only [ck_t, Option.bind_some, iLeP, iLeN, iLtP, iLtN, iEqP, iEqN, nI_1, pk_mul, nI_add, cl_n, zI0, zI1, zI8, bI_z, if_true_eq, if_false_eq, if_true, if_false, e0, r0, e1]
end
