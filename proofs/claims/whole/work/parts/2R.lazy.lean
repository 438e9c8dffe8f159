/-! the reference's sheet; lazy of both -/
section
variable {G : Gg} {M : Mm} {R : Nat → Nat} {tl : Nat} {tv : Nat → Nat} {ol : Nat} {ov ns qs : Nat → Nat} {cs : Nat → Nat → Nat → Nat}
theorem rin {G : Gg} {R : Nat → Nat} (hs : shR G R) {i : Nat} (hi : i < 17) (hn : i ∉ [0, 4, 5, 6, 11, 12, 13]) : R i ∉ [R 0, R 4, R 5, R 6, R 11, R 12, R 13] := fun z => by
    simp at z
    rcases z with z | z | z | z | z | z | z
    · have := hs.1 i 0 hi (by decide) z; simp [this] at hn
    · have := hs.1 i 4 hi (by decide) z; simp [this] at hn
    · have := hs.1 i 5 hi (by decide) z; simp [this] at hn
    · have := hs.1 i 6 hi (by decide) z; simp [this] at hn
    · have := hs.1 i 11 hi (by decide) z; simp [this] at hn
    · have := hs.1 i 12 hi (by decide) z; simp [this] at hn
    · have := hs.1 i 13 hi (by decide) z; simp [this] at hn
/-- filled up to row i, place j -/
def mdI (M : Mm) (R : Nat → Nat) (n : Nat) (f : Nat → Nat → Nat) (i j : Nat) : Prop := ∀ a b, b < n → (a < i ∨ (a = i ∧ b < j)) → M.1 (R 4) (384 + 8 * a + b) = nI (f a b)
theorem mdI_s {n i j : Nat} {f : Nat → Nat → Nat} (hn : n ≤ 8) (hj : j < n) (h : mdI M R n f i j) : mdI (mwI M (R 4) (384 + 8 * i + j) (nI (f i j))) R n f i (j + 1) := fun a b hb hab => by
  by_cases e : a = i ∧ b = j
  · obtain ⟨rfl, rfl⟩ := e
    rw [mwI_s]
  · rw [mwI_n (by omega)]
    exact h a b hb (by omega)
theorem rsh_row {n i : Nat} {i1 i3 : Int32} (hs : shR G R) (hr : rfR M R) (ht : ∀ k, k < n * n → M.1 (R 1) k = nI (tv k)) (hn : n ≤ 8) (hi : i < n) (hm : mdI M R n (tvm n tv) i 0) (hnn : n * n ≤ 80) : OK (lp_X9_sheet_70 G (R 0) i1 (nI n) i3 (nI i) FU (nI 0) (nI 0) M) (fun r => r.1 = nI (sN (tvm n tv i) n) ∧ mdI r.2 R n (tvm n tv) (i + 1) 0 ∧ rfr M r.2 R) := by
  have k0 : isK G (R 0) 9 := hs.2.1 0 (by decide)
  have k1 : isK G (R 1) 10 := hs.2.1 1 (by decide)
  have l1 : G.2.2 (R 1) = 80 := hs.2.2 1 (by decide) (by decide)
  refine lpI (fun f1 i7 (x : Int32 × Mm) => lp_X9_sheet_70 G (R 0) i1 (nI n) i3 (nI i) f1 x.1 i7 x.2) (fun j x => x.1 = nI (sN (tvm n tv i) j) ∧ mdI x.2 R n (tvm n tv) i j ∧ rfr M x.2 R) n _ (by omega) (fun f1 j x hj hx => ?_) (fun f1 x hx => ?_) (x := (nI 0, M)) (by omega) ⟨rfl, hm, rfr_rf M R⟩
  · obtain ⟨x1, x2⟩ := x
    obtain ⟨e1, e2, e3⟩ := hx
    dsimp only at e1 e2 e3
    subst e1
    left
    have hr' : rfR x2 R := by unfold rfR; rw [e3.2.2.2.2]; exact hr
    have hij := ij_lt hi hj
    have hcm : n * i = i * n := Nat.mul_comm n i
    have et : x2.1 (R 1) (n * i + j) = nI (tvm n tv i j) := by
      rw [e3.1 _ (rin hs (by decide) (by decide)), ht _ (by omega), tvm_in hi hj, hcm]
    have em := make_eq (x := nI (tvm n tv i j)) hs hr' (show i < 8 by omega) (show j < 8 by omega)
    have r1 := hr'.1
    have r1' : (mwI x2 (R 4) (384 + 8 * i + j) (nI (tvm n tv i j))).2.2 (R 0) 1 = some (R 1) := r1
    have et' : (mwI x2 (R 4) (384 + 8 * i + j) (nI (tvm n tv i j))).1 (R 1) (n * i + j) = nI (tvm n tv i j) := by
      rw [mwI_n (Or.inl (sR_ne hs (by decide) (by decide) (by decide)))]; exact et
    refine ⟨(nI (sN (tvm n tv i) (j + 1)), mwI x2 (R 4) (384 + 8 * i + j) (nI (tvm n tv i j))), ⟨rfl, mdI_s hn hj e2, rfr_tr e3 (rfr_4 hs (by omega))⟩, ?_⟩
    dsimp only
    rw [lp_X9_sheet_70, bd_X9_sheet_70]
    simp (disch := first | assumption | omega | (refine inb_n ?_ ?_ <;> omega) | fail) only [ck_t, Option.bind_some, iLeP, iLeN, iLtP, iLtN, iEqP, iEqN, nI_1, pk_mul, nI_add, cl_n, zI0, zI1, zI8, bI_z, if_true_eq, if_false_eq, if_true, if_false, r1, l1, et, em, r1', et']
    rfl
  · obtain ⟨x1, x2⟩ := x
    obtain ⟨e1, e2, e3⟩ := hx
    refine ⟨(x1, x2), ?_, e1, fun a b hb hab => e2 a b hb (by omega), e3⟩
    dsimp only
    rw [lp_X9_sheet_70, bd_X9_sheet_70]
    simp (disch := first | assumption | omega | (refine inb_n ?_ ?_ <;> omega) | fail) only [ck_t, Option.bind_some, iLeP, iLeN, iLtP, iLtN, iEqP, iEqN, nI_1, pk_mul, nI_add, cl_n, zI0, zI1, zI8, bI_z, if_true_eq, if_false_eq, if_true, if_false]
theorem rRI_0 (h : rRI G M R tl tv ol ov ns qs cs) : rRI G (mwI (mwI M (R 0) 0 (nI 0)) (R 0) 2 (nI 0)) R 0 tv ol ov ns qs cs ∧ unt M (mwI (mwI M (R 0) 0 (nI 0)) (R 0) 2 (nI 0)) R 17 := by
  obtain ⟨z1, z2⟩ := thr_0 h (nI 0)
  obtain ⟨t0, tb, t3, t4⟩ := z1.2.2.1
  exact ⟨rRI_t z1 (fr_I (by simp)) (by rw [mwI_n (by omega)]) mwI_s (by omega) (fun k hk => absurd hk (by omega)) t4, unt_tr z2 (unt_I (by decide))⟩
theorem rsheet_0 (h : rRI G M R tl tv ol ov ns qs cs) {i1 : Int32} {s n q : Nat} (hn1 : 1 ≤ n) (hn : n ≤ 8) (hq1 : 1 ≤ q) (hq : q ≤ 60) (hl : tl = n * n) : OK (lp_X9_sheet_58 G (R 0) i1 (nI n) (nI q) FU (nI 0) (mwI (mwI M (R 0) 0 (nI 0)) (R 0) 2 (nI 0))) (fun r => (∃ y, r = .inr y ∧ mdR y R n (tvm n tv) ∧ rowQ n q (tvm n tv) ∧ rfr (mwI (mwI M (R 0) 0 (nI 0)) (R 0) 2 (nI 0)) y R) ∨ (∃ y, r = .inl (-1, y) ∧ ¬ rowQ n q (tvm n tv) ∧ rfr (mwI (mwI M (R 0) 0 (nI 0)) (R 0) 2 (nI 0)) y R)) := by
  obtain ⟨z1, z2⟩ := rRI_0 h
  obtain ⟨hs, hr, ht, ho, hc⟩ := id h
  have hnn : n * n ≤ 8 * 8 := Nat.mul_le_mul hn hn
  have t4 := ht.2.2.2
  have htp : ∀ k, k < n * n → (mwI (mwI M (R 0) 0 (nI 0)) (R 0) 2 (nI 0)).1 (R 1) k = nI (tv k) := fun k hk => by
    rw [mwI_n (Or.inl (sR_ne hs (by decide) (by decide) (by decide))), mwI_n (Or.inl (sR_ne hs (by decide) (by decide) (by decide)))]
    exact ht.2.2.1 k (by omega)
  generalize mwI (mwI M (R 0) 0 (nI 0)) (R 0) 2 (nI 0) = M0 at *
  have k0 : isK G (R 0) 9 := hs.2.1 0 (by decide)
  refine lpI (fun f1 i5 (x : Mm) => lp_X9_sheet_58 G (R 0) i1 (nI n) (nI q) f1 i5 x) (fun i x => mdI x R n (tvm n tv) i 0 ∧ rfr M0 x R ∧ ∀ y, y < i → sN (tvm n tv y) n = q) n _ (by omega) (fun f1 i x hi hx => ?_) (fun f1 x hx => ?_) (by omega) ⟨fun a b hb hab => absurd hab (by omega), rfr_rf _ _, fun y hy => absurd hy (by omega)⟩
  · obtain ⟨e1, e2, e3⟩ := hx
    have hr' : rfR x R := by unfold rfR; rw [e2.2.2.2.2]; exact z1.2.1
    obtain ⟨⟨v, y⟩, a1, a2, a3, a4⟩ := rsh_row (i1 := i1) (i3 := nI q) hs hr' (fun k hk => by rw [e2.1 _ (rin hs (by decide) (by decide))]; exact htp k hk) hn hi e1 (by omega)
    dsimp only at a2 a3 a4
    subst a2
    have hbd : sN (tvm n tv i) n ≤ n * 256 := sN_le (fun j _ => Nat.le_of_lt (tvm_lt t4 i j))
    have hbd2 : n * 256 ≤ 8 * 256 := Nat.mul_le_mul_right _ hn
    by_cases hrw : sN (tvm n tv i) n = q
    · left
      refine ⟨y, ⟨a3, rfr_tr e2 a4, fun z hz => ?_⟩, ?_⟩
      · by_cases hzi : z = i
        · subst hzi; exact hrw
        · exact e3 z (by omega)
      · rw [lp_X9_sheet_58, bd_X9_sheet_58]
        simp (disch := first | assumption | omega | (refine inb_n ?_ ?_ <;> omega) | fail) only [ck_t, Option.bind_some, iLeP, iLeN, iLtP, iLtN, iEqP, iEqN, nI_1, pk_mul, nI_add, cl_n, zI0, zI1, zI8, bI_z, if_true_eq, if_false_eq, if_true, if_false, a1]
    · right
      refine ⟨.inl (-1, y), ?_, Or.inr ⟨y, rfl, fun z => hrw (z i hi), rfr_tr e2 a4⟩⟩
      rw [lp_X9_sheet_58, bd_X9_sheet_58]
      simp (disch := first | assumption | omega | (refine inb_n ?_ ?_ <;> omega) | fail) only [ck_t, Option.bind_some, iLeP, iLeN, iLtP, iLtN, iEqP, iEqN, nI_1, pk_mul, nI_add, cl_n, zI0, zI1, zI8, bI_z, if_true_eq, if_false_eq, if_true, if_false, a1]
  · obtain ⟨e1, e2, e3⟩ := hx
    refine ⟨.inr x, ?_, Or.inl ⟨x, rfl, fun a b ha hb => e1 a b hb (by omega), e3, e2⟩⟩
    rw [lp_X9_sheet_58, bd_X9_sheet_58]
    simp (disch := first | assumption | omega | (refine inb_n ?_ ?_ <;> omega) | fail) only [ck_t, Option.bind_some, iLeP, iLeN, iLtP, iLtN, iEqP, iEqN, nI_1, pk_mul, nI_add, cl_n, zI0, zI1, zI8, bI_z, if_true_eq, if_false_eq, if_true, if_false]
theorem rsheet_p (h : rRI G M R tl tv ol ov ns qs cs) {i1 i2 i3 : Int32} {s n q : Nat} (ho : shOK tl tv i1 i2 i3 s n q) : OK (f_X9_sheet G M (R 0) i1 i2 i3) (fun r => r.1 = nI (q / gD q (tvm n tv)) ∧ rRI G r.2 R 0 tv ol ov (ud ns s n) (ud qs s (q / gD q (tvm n tv))) (ud3 cs s (fun i j => tvm n tv i j / gD q (tvm n tv))) ∧ unt M r.2 R 17) := by
  obtain ⟨hs, rfl, hn1, hn, hq1, hq, rfl, rfl, hl, hrow⟩ := ho
  have hnn : n * n ≤ 8 * 8 := Nat.mul_le_mul hn hn
  obtain ⟨z1, z2⟩ := rRI_0 h
  obtain ⟨r, a1, a2⟩ := rsheet_0 (i1 := nI s) (s := s) h hn1 hn hq1 hq hl
  rcases a2 with ⟨y, rfl, a2, a3, a4⟩ | ⟨y, rfl, a3, a4⟩
  · have t4 := h.2.2.1.2.2.2
    have hq60 : q / gD q (tvm n tv) ≤ 60 := Nat.le_trans (Nat.div_le_self _ _) hq
    obtain ⟨⟨v, M2⟩, b1, b2, b3, b4⟩ := puts_ok (rRI_r z1 a4) hs hn (by omega) (by omega) (fun i j => by have := tvm_lt (n := n) t4 i j; omega) a2 (isG_64 hn (fun i j hij => tvm_z hij)) (gD_g hn1 hn (by omega) hrow (fun i j hij => tvm_z hij) hq60)
    dsimp only at b2 b3 b4
    subst b2
    refine ⟨(nI (q / gD q (tvm n tv)), M2), ?_, rfl, b3, unt_tr z2 (unt_tr (unt_r a4) b4)⟩
    have k0 : isK G (R 0) 9 := h.1.2.1 0 (by decide)
    have e0 := isSlot9_p hs
    have t0 := (thr_0 h (nI 0)).1.2.2.1.1
    unfold f_X9_sheet
    simp (disch := first | assumption | omega | (refine inb_n ?_ ?_ <;> omega) | fail) only [ck_t, Option.bind_some, iLeP, iLeN, iLtP, iLtN, iEqP, iEqN, nI_1, pk_mul, nI_add, cl_n, zI0, zI1, zI8, bI_z, if_true_eq, if_false_eq, if_true, if_false, e0, nz60, t0, a1, onS, b1]
  · exact absurd hrow a3
theorem rsheet_n (h : rRI G M R tl tv ol ov ns qs cs) {i1 i2 i3 : Int32} (ho : ¬ ∃ s n q, shOK tl tv i1 i2 i3 s n q) : OK (f_X9_sheet G M (R 0) i1 i2 i3) (fun r => r.1 = -1 ∧ rRI G r.2 R 0 tv ol ov ns qs cs ∧ unt M r.2 R 17) := by
  have k0 : isK G (R 0) 9 := h.1.2.1 0 (by decide)
  obtain ⟨z1, z2⟩ := rRI_0 h
  have t0 := (thr_0 h (nI 0)).1.2.2.1.1
  have tb := h.2.2.1.2.1
  have n1 : ∀ x : Int32, x < nI 0 → x < nI 1 := fun x hx => Int32.lt_trans hx (by decide)
  have ans : ∀ {r : Option (Int32 × Mm)}, r = some (-1, mwI (mwI M (R 0) 0 (nI 0)) (R 0) 2 (nI 0)) → OK r (fun r => r.1 = -1 ∧ rRI G r.2 R 0 tv ol ov ns qs cs ∧ unt M r.2 R 17) := fun e => ⟨_, e, rfl, z1, z2⟩
  by_cases hs : ∃ k, k < 6 ∧ i1 = nI k
  · obtain ⟨s, hs, rfl⟩ := hs
    have e0 := isSlot9_p hs
    rcases int_c i2 with hn | ⟨n, hn, rfl⟩
    · apply ans
      have := n1 _ hn
      unfold f_X9_sheet
      simp (disch := first | assumption | omega | (refine inb_n ?_ ?_ <;> omega) | fail) only [ck_t, Option.bind_some, iLeP, iLeN, iLtP, iLtN, iEqP, iEqN, nI_1, pk_mul, nI_add, cl_n, zI0, zI1, zI8, bI_z, if_true_eq, if_false_eq, if_true, if_false, e0]
      exact if_pos this
    · by_cases hn1 : 1 ≤ n
      · by_cases hn8 : n ≤ 8
        · rcases int_c i3 with hq | ⟨q, hq, rfl⟩
          · apply ans
            have := n1 _ hq
            unfold f_X9_sheet
            simp (disch := first | assumption | omega | (refine inb_n ?_ ?_ <;> omega) | fail) only [ck_t, Option.bind_some, iLeP, iLeN, iLtP, iLtN, iEqP, iEqN, nI_1, pk_mul, nI_add, cl_n, zI0, zI1, zI8, bI_z, if_true_eq, if_false_eq, if_true, if_false, e0]
            exact if_pos this
          · by_cases hq1 : 1 ≤ q
            · by_cases hq6 : q ≤ 60
              · have hnn : n * n ≤ 8 * 8 := Nat.mul_le_mul hn8 hn8
                by_cases hl : tl = n * n
                · obtain ⟨r, a1, a2⟩ := rsheet_0 (i1 := nI s) (s := s) h hn1 hn8 hq1 hq6 hl
                  rcases a2 with ⟨y, rfl, a2, a3, a4⟩ | ⟨y, rfl, a3, a4⟩
                  · exact absurd ⟨s, n, q, hs, rfl, hn1, hn8, hq1, hq6, rfl, rfl, hl, a3⟩ ho
                  · refine ⟨(-1, y), ?_, rfl, rRI_r z1 a4, unt_tr z2 (unt_r a4)⟩
                    unfold f_X9_sheet
                    simp (disch := first | assumption | omega | (refine inb_n ?_ ?_ <;> omega) | fail) only [ck_t, Option.bind_some, iLeP, iLeN, iLtP, iLtN, iEqP, iEqN, nI_1, pk_mul, nI_add, cl_n, zI0, zI1, zI8, bI_z, if_true_eq, if_false_eq, if_true, if_false, e0, nz60, t0, a1, onS]
                · apply ans
                  unfold f_X9_sheet
                  simp (disch := first | assumption | omega | (refine inb_n ?_ ?_ <;> omega) | fail) only [ck_t, Option.bind_some, iLeP, iLeN, iLtP, iLtN, iEqP, iEqN, nI_1, pk_mul, nI_add, cl_n, zI0, zI1, zI8, bI_z, if_true_eq, if_false_eq, if_true, if_false, e0, nz60, t0]
              · apply ans
                unfold f_X9_sheet
                simp (disch := first | assumption | omega | (refine inb_n ?_ ?_ <;> omega) | fail) only [ck_t, Option.bind_some, iLeP, iLeN, iLtP, iLtN, iEqP, iEqN, nI_1, pk_mul, nI_add, cl_n, zI0, zI1, zI8, bI_z, if_true_eq, if_false_eq, if_true, if_false, e0, nz60]
            · apply ans
              unfold f_X9_sheet
              simp (disch := first | assumption | omega | (refine inb_n ?_ ?_ <;> omega) | fail) only [ck_t, Option.bind_some, iLeP, iLeN, iLtP, iLtN, iEqP, iEqN, nI_1, pk_mul, nI_add, cl_n, zI0, zI1, zI8, bI_z, if_true_eq, if_false_eq, if_true, if_false, e0, nz60]
        · apply ans
          unfold f_X9_sheet
          simp (disch := first | assumption | omega | (refine inb_n ?_ ?_ <;> omega) | fail) only [ck_t, Option.bind_some, iLeP, iLeN, iLtP, iLtN, iEqP, iEqN, nI_1, pk_mul, nI_add, cl_n, zI0, zI1, zI8, bI_z, if_true_eq, if_false_eq, if_true, if_false, e0]
      · apply ans
        unfold f_X9_sheet
        simp (disch := first | assumption | omega | (refine inb_n ?_ ?_ <;> omega) | fail) only [ck_t, Option.bind_some, iLeP, iLeN, iLtP, iLtN, iEqP, iEqN, nI_1, pk_mul, nI_add, cl_n, zI0, zI1, zI8, bI_z, if_true_eq, if_false_eq, if_true, if_false, e0]
  · have e0 := isSlot9_n hs
    apply ans
    unfold f_X9_sheet
    simp (disch := first | assumption | omega | (refine inb_n ?_ ?_ <;> omega) | fail) only [ck_t, Option.bind_some, iLeP, iLeN, iLtP, iLtN, iEqP, iEqN, nI_1, pk_mul, nI_add, cl_n, zI0, zI1, zI8, bI_z, if_true_eq, if_false_eq, if_true, if_false, e0]
end
/-- the lazy chain's cells -/
def lzf (n q : Nat) (c : Nat → Nat → Nat) : Nat → Nat → Nat := fun i j => c i j + (if i = j ∧ i < n then q else 0)
theorem lzf_z {n q : Nat} {c : Nat → Nat → Nat} (hg : gch n q c) {i j : Nat} (h : n ≤ i ∨ n ≤ j) : lzf n q c i j = 0 := by
  unfold lzf
  rw [hg.2.2.2.2.2 i j h, if_neg (by omega)]
theorem lzf_lt {n q : Nat} {c : Nat → Nat → Nat} (hg : gch n q c) (i j : Nat) : lzf n q c i j ≤ 120 := by
  have h1 := gch_le hg i j
  have h2 := hg.2.2.2.1
  unfold lzf
  split <;> omega
theorem sN_one {n i v : Nat} (hi : i < n) : sN (fun j => if i = j ∧ i < n then v else 0) n = v := by
  have key : ∀ m, m ≤ n → sN (fun j => if i = j ∧ i < n then v else 0) m = if i < m then v else 0 := by
    intro m
    induction m with
    | zero => intro _; rw [if_neg (by omega)]; rfl
    | succ m ih =>
      intro hm
      rw [sN_succ, ih (by omega)]
      by_cases e : i = m
      · rw [if_neg (by omega), if_pos ⟨e, hi⟩, if_pos (by omega)]
        omega
      · rw [if_neg (fun z : i = m ∧ i < n => e z.1)]
        by_cases h2 : i < m
        · rw [if_pos h2, if_pos (by omega), Nat.add_zero]
        · rw [if_neg h2, if_neg (by omega)]
  rw [key n (Nat.le_refl n), if_pos hi]
theorem lzf_r {n q : Nat} {c : Nat → Nat → Nat} (hg : gch n q c) : rowQ n (2 * q) (lzf n q c) := fun i hi => by
  have e : sN (lzf n q c i) n = sN (c i) n + sN (fun j => if i = j ∧ i < n then q else 0) n := sN_add _ _ _
  rw [e, hg.2.2.2.2.1 i hi, sN_one hi]
  omega
section
variable {G : Gg} {M : Mm} {a cl b bl n q : Nat} {c : Nat → Nat → Nat}
/-- row i begun: its first j cells are the chances -/
def lzr (n q : Nat) (c : Nat → Nat → Nat) (i j : Nat) : Nat → Nat → Nat := fun x y => if x < i then lzf n q c x y else if x = i ∧ y < j then c x y else 0
theorem lz_row {i : Nat} (hg : gch n q c) (hC : chC G M b bl n c) (hd : dfC G M a cl n (2 * q) (lzr n q c i 0)) (hne : cl ≠ bl) (hi : i < n) : OK (lp_X0_makeLazyOf_26 G a b (nI i) FU (nI 0) M) (fun M' => dfC G M' a cl n (2 * q) (lzr n q c i n) ∧ fr M M' [cl] []) := by
  have hn := hg.2.1
  have kb := hC.1
  have ka := hd.1
  have nb : b ∉ [cl] := ne_in (kne hC.1 hd.2.2.1 (by decide))
  have nbl : bl ∉ [cl] := ne_in (fun e => hne e.symm)
  refine lpI (fun f1 i3 (x : Mm) => lp_X0_makeLazyOf_26 G a b (nI i) f1 i3 x) (fun j x => dfC G x a cl n (2 * q) (lzr n q c i j) ∧ fr M x [cl] []) n _ (by omega) (fun f1 j x hj hx => ?_) (fun f1 x hx => ?_) (by omega) ⟨hd, fr_rf⟩
  · obtain ⟨e1, e2⟩ := hx
    left
    have h5 := e1.2.2.2.2.1
    have ea := at_eq (chC_fr hC e2 nb nbl) hi hj
    have h0 : lzr n q c i j i j = 0 := by unfold lzr; rw [if_neg (by omega), if_neg (by omega)]
    have hle := gch_le hg i j
    have hq := hg.2.2.2.1
    obtain ⟨y, a1, a2, a3⟩ := raise_ok (v := c i j) e1 hi hj (by rw [h0]; omega)
    have hup : up2 (lzr n q c i j) i j (lzr n q c i j i j + c i j) = lzr n q c i (j + 1) := by
      rw [h0, Nat.zero_add]
      funext x y
      unfold up2 lzr
      by_cases h : x = i ∧ y = j
      · obtain ⟨rfl, rfl⟩ := h
        rw [if_pos ⟨rfl, rfl⟩, if_neg (by omega), if_pos (by omega)]
      · rw [if_neg h]
        by_cases h2 : x < i
        · rw [if_pos h2, if_pos h2]
        · rw [if_neg h2, if_neg h2]
          by_cases h3 : x = i ∧ y < j
          · rw [if_pos h3, if_pos (by omega)]
          · rw [if_neg h3, if_neg (by omega)]
    rw [hup] at a2
    refine ⟨y, ⟨a2, fr_tr e2 a3⟩, ?_⟩
    rw [lp_X0_makeLazyOf_26, bd_X0_makeLazyOf_26]
    simp (disch := first | assumption | omega | (refine inb_n ?_ ?_ <;> omega) | fail) only [ck_t, Option.bind_some, iLeP, iLeN, iLtP, iLtN, iEqP, iEqN, nI_1, pk_mul, nI_add, cl_n, zI0, zI1, zI8, bI_z, if_true_eq, if_false_eq, if_true, if_false, h5, ea, a1]
  · obtain ⟨e1, e2⟩ := hx
    have h5 := e1.2.2.2.2.1
    refine ⟨x, ?_, e1, e2⟩
    rw [lp_X0_makeLazyOf_26, bd_X0_makeLazyOf_26]
    simp (disch := first | assumption | omega | (refine inb_n ?_ ?_ <;> omega) | fail) only [ck_t, Option.bind_some, iLeP, iLeN, iLtP, iLtN, iEqP, iEqN, nI_1, pk_mul, nI_add, cl_n, zI0, zI1, zI8, bI_z, if_true_eq, if_false_eq, if_true, if_false, h5]
theorem lazy_ok (hg : gch n q c) (hC : chC G M b bl n c) (hq : M.1 b 1 = nI q) (h1 : isK G a 0) (h2 : M.2.2 a 2 = some cl) (h3 : isK G cl 10) (h4 : G.2.2 cl = 64) (hab : a ≠ b) (hne : cl ≠ bl) : OK (f_X0_makeLazyOf G M a b) (fun M' => dfC G M' a cl n (2 * q) (lzf n q c) ∧ fr M M' [a, cl] []) := by
  have hn := hg.2.1
  have kb := hC.1
  obtain ⟨M1, b1, b2, b3⟩ := begin_ok (n := n) (q := 2 * q) h1 h2 h3 h4 hg.1 hn
  have nb : b ∉ [a, cl] := ne_in2 (fun e => hab e.symm) (kne hC.1 h3 (by decide))
  have nbl : bl ∉ [a, cl] := ne_in2 (kne hC.2.2.1 h1 (by decide)) (fun e => hne e.symm)
  have h0 : lzr n q c 0 0 = fun _ _ => 0 := by
    funext x y
    unfold lzr
    rw [if_neg (by omega), if_neg (by omega)]
  have e := lpI (fun f1 i3 (x : Mm) => lp_X0_makeLazyOf_16 G a b f1 i3 x) (fun i x => dfC G x a cl n (2 * q) (lzr n q c i 0) ∧ fr M x [a, cl] []) n (fun M' => dfC G M' a cl n (2 * q) (lzf n q c) ∧ fr M M' [a, cl] []) (by omega) (fun f1 i x hi hx => by
    obtain ⟨e1, e2⟩ := hx
    left
    have h5 := e1.2.2.2.2.1
    obtain ⟨y, a1, a2, a3⟩ := lz_row hg (chC_fr hC e2 nb nbl) e1 hne hi
    have hd0 : lzr n q c i n i i = c i i := by unfold lzr; rw [if_neg (by omega), if_pos (by omega)]
    have hle := gch_le hg i i
    have hq6 := hg.2.2.2.1
    obtain ⟨z, c1, c2, c3⟩ := raise_ok (v := q) a2 hi hi (by rw [hd0]; omega)
    have hup : up2 (lzr n q c i n) i i (lzr n q c i n i i + q) = lzr n q c (i + 1) 0 := by
      rw [hd0]
      funext x y
      unfold up2 lzr
      by_cases h : x = i ∧ y = i
      · obtain ⟨rfl, rfl⟩ := h
        rw [if_pos ⟨rfl, rfl⟩, if_pos (by omega)]
        unfold lzf
        rw [if_pos ⟨rfl, hi⟩]
      · rw [if_neg h]
        by_cases h2 : x < i
        · rw [if_pos h2, if_pos (by omega)]
        · rw [if_neg h2]
          by_cases h3 : x = i ∧ y < n
          · rw [if_pos h3, if_pos (by omega)]
            unfold lzf
            rw [if_neg (by omega)]
            rfl
          · rw [if_neg h3]
            by_cases h4 : x < i + 1
            · rw [if_pos h4]
              exact (lzf_z hg (by omega)).symm
            · rw [if_neg h4, if_neg (by omega)]
    rw [hup] at c2
    have w : fr M y [a, cl] [] := fr_tr e2 (fr_2 a3)
    have hq' : y.1 b 1 = nI q := by rw [w.1 b nb]; exact hq
    refine ⟨z, ⟨c2, fr_tr w (fr_2 c3)⟩, ?_⟩
    rw [lp_X0_makeLazyOf_16, bd_X0_makeLazyOf_16]
    simp (disch := first | assumption | omega | (refine inb_n ?_ ?_ <;> omega) | fail) only [ck_t, Option.bind_some, iLeP, iLeN, iLtP, iLtN, iEqP, iEqN, nI_1, pk_mul, nI_add, cl_n, zI0, zI1, zI8, bI_z, if_true_eq, if_false_eq, if_true, if_false, h5, a1, hq', c1]) (fun f1 x hx => by
    obtain ⟨e1, e2⟩ := hx
    have h5 := e1.2.2.2.2.1
    have hl : lzr n q c n 0 = lzf n q c := by
      funext x y
      unfold lzr
      by_cases h : x < n
      · rw [if_pos h]
      · rw [if_neg h, if_neg (by omega)]
        exact (lzf_z hg (by omega)).symm
    rw [hl] at e1
    refine ⟨x, ?_, e1, e2⟩
    rw [lp_X0_makeLazyOf_16, bd_X0_makeLazyOf_16]
    simp (disch := first | assumption | omega | (refine inb_n ?_ ?_ <;> omega) | fail) only [ck_t, Option.bind_some, iLeP, iLeN, iLtP, iLtN, iEqP, iEqN, nI_1, pk_mul, nI_add, cl_n, zI0, zI1, zI8, bI_z, if_true_eq, if_false_eq, if_true, if_false, h5]) (j0 := 0) (x := M1) (by omega) ⟨by rw [h0]; exact b2, b3⟩
  obtain ⟨M', e1, e2⟩ := e
  refine ⟨M', ?_, e2⟩
  have hsz := hC.2.2.2.2.1
  unfold f_X0_makeLazyOf
  simp (disch := first | assumption | omega | (refine inb_n ?_ ?_ <;> omega) | fail) only [ck_t, Option.bind_some, iLeP, iLeN, iLtP, iLtN, iEqP, iEqN, nI_1, pk_mul, nI_add, cl_n, zI0, zI1, zI8, bI_z, if_true_eq, if_false_eq, if_true, if_false, hsz, hq, nz2, b1, e1]
end
