/-! back of the reference -/
theorem gdv {g x y : Nat} (hg : 0 < g) : g * y / Nat.gcd (g * x) (g * y) = y / Nat.gcd x y ∧ g * x / Nat.gcd (g * x) (g * y) = x / Nat.gcd x y := by
  rw [Nat.gcd_mul_left, Nat.mul_div_mul_left _ _ hg, Nat.mul_div_mul_left _ _ hg]
  exact ⟨rfl, rfl⟩
section
variable {G : Gg} {M : Mm} {R : Nat → Nat} {tl : Nat} {tv : Nat → Nat} {ol : Nat} {ov ns qs : Nat → Nat} {cs : Nat → Nat → Nat → Nat}
theorem wg_b {n q : Nat} {c : Nat → Nat → Nat} {g : Nat} (hg : gch n q c) (hwh : ct (lsB (cL c n) n) n = 1) (hw : wgR M R n q c g) {i : Nat} (hi : i < n) (j : Nat) : cW n q c i / g * q / Nat.gcd (cW n q c j / g * c j i) (cW n q c i / g * q) = blw n q c i j ∧ cW n q c j / g * c j i / Nat.gcd (cW n q c j / g * c j i) (cW n q c i / g * q) = bup n q c i j ∧ cW n q c i / g * q ≤ 2 ^ 49 * 60 ∧ cW n q c j / g * c j i ≤ 2 ^ 49 * 60 ∧ 0 < cW n q c i / g * q := by
  obtain ⟨g0, gd, _⟩ := hw
  have e1 : cW n q c i = g * (cW n q c i / g) := (Nat.mul_div_cancel' (gd i)).symm
  have e2 : cW n q c j = g * (cW n q c j / g) := (Nat.mul_div_cancel' (gd j)).symm
  have hL : bL n q c i = g * (cW n q c i / g * q) := by unfold bL; rw [← Nat.mul_assoc, ← e1]
  have hU : bU n q c i j = g * (cW n q c j / g * c j i) := by unfold bU; rw [← Nat.mul_assoc, ← e2]
  have hb := bU_bd hg i j
  have hp := bL_pos hg hwh hi
  unfold blw bup
  rw [hL, hU] at hb
  rw [hL] at hp
  rw [hL, hU, (gdv g0).1, (gdv g0).2]
  have h3 := Nat.le_mul_of_pos_left (cW n q c i / g * q) g0
  have h4 := Nat.le_mul_of_pos_left (cW n q c j / g * c j i) g0
  exact ⟨rfl, rfl, by omega, by omega, Nat.pos_of_mul_pos_left hp⟩
theorem rbk_1 (h : rRI G M R tl tv ol ov ns qs cs) {s i g x0 : Nat} {i2 : Int32} (hs : s < 6) (hn : 0 < ns s) (hwh : ct (lsB (cL (cs s) (ns s)) (ns s)) (ns s) = 1) (hw : wgR M R (ns s) (qs s) (cs s) g) (hi : i < ns s) (hx0 : 0 < x0) (hx60 : x0 ≤ 60) : OK (lp_X9_back_65 G M (R 0) (nI s) i2 (nI (ns s)) (nI i) FU (lN x0) (nI 0)) (fun r => (∃ y, r = .inr (lN y) ∧ bR (blo (ns s) (qs s) (cs s) i) x0 (ns s) = some y) ∨ (r = .inl (-1, M) ∧ bR (blo (ns s) (qs s) (cs s) i) x0 (ns s) = none)) := by
  obtain ⟨hg, c1, c2, c3⟩ := slo_c h hs hn
  have hn8 := hg.2.1
  have k0 : isK G (R 0) 9 := h.1.2.1 0 (by decide)
  have k10 : isK G (R 10) 11 := h.1.2.1 10 (by decide)
  have l10 : G.2.2 (R 10) = 8 := h.1.2.2 10 (by decide) (by decide)
  have k3 : isK G (R 3) 10 := h.1.2.1 3 (by decide)
  have l3 : G.2.2 (R 3) = 7 := h.1.2.2 3 (by decide) (by decide)
  have r4 := h.2.1.2.2.1
  have r12 := h.2.1.2.2.2.2.2.2.2.2.2.1
  have z60 : (60 : Int64) = lN 60 := rfl
  have hlo := blo_pos hg hwh
  have hq6 := hg.2.2.2.1
  refine lpI (fun f i7 (x : Int64) => lp_X9_back_65 G M (R 0) (nI s) i2 (nI (ns s)) (nI i) f x i7) (fun j x => ∃ y, x = lN y ∧ bR (blo (ns s) (qs s) (cs s) i) x0 j = some y) (ns s) _ (by omega) (fun f j x hj hx => ?_) (fun f x hx => ?_) (j0 := 0) (x := lN x0) (by omega) ⟨x0, rfl, rfl⟩
  · obtain ⟨y, rfl, e2⟩ := hx
    obtain ⟨y1, y2, y3, y4⟩ := bR_ok hx0 hx60 (hlo i) e2
    have ea := rat_c h hs hn hj hi
    have ewi := hw.2.2 i (by omega)
    have ewj := hw.2.2 j (by omega)
    obtain ⟨w1, w2, w3, w4, w5⟩ := wg_b hg hwh hw hi j
    have hbp := blw_pos hg hwh hi j
    have hbl : blw (ns s) (qs s) (cs s) i j ≤ 2 ^ 49 * 60 := Nat.le_trans (Nat.div_le_self _ _) (bU_bd hg i j).2
    have hle := gch_le hg j i
    have e5 := cmn_eq (show cW (ns s) (qs s) (cs s) j / g * cs s j i < 2 ^ 63 by omega) (show cW (ns s) (qs s) (cs s) i / g * qs s < 2 ^ 63 by omega)
    have hgp : 0 < Nat.gcd (cW (ns s) (qs s) (cs s) j / g * cs s j i) (cW (ns s) (qs s) (cs s) i / g * qs s) := Nat.gcd_pos_of_pos_right _ w5
    have hgl : Nat.gcd (cW (ns s) (qs s) (cs s) j / g * cs s j i) (cW (ns s) (qs s) (cs s) i / g * qs s) ≤ cW (ns s) (qs s) (cs s) i / g * qs s := Nat.gcd_le_right _ w5
    have hbs : bR (blo (ns s) (qs s) (cs s) i) x0 (j + 1) = if blc y (blw (ns s) (qs s) (cs s) i j) ≤ 60 then some (blc y (blw (ns s) (qs s) (cs s) i j)) else none := by
      rw [bR_s, e2, Option.bind_some, blo_in hi]
    generalize blw (ns s) (qs s) (cs s) i j = d at *
    have ec := cmn_eq (show y < 2 ^ 63 by omega) (show d < 2 ^ 63 by omega)
    have hgp2 : 0 < Nat.gcd y d := Nat.gcd_pos_of_pos_left _ y1
    have hgl2 : Nat.gcd y d ≤ y := Nat.gcd_le_left _ y1
    have hdl : y / Nat.gcd y d ≤ y := Nat.div_le_self _ _
    have hbb : y / Nat.gcd y d * d ≤ 60 * (2 ^ 49 * 60) := Nat.mul_le_mul (by omega) hbl
    by_cases hc : blc y d ≤ 60
    · left
      rw [if_pos hc] at hbs
      refine ⟨lN (blc y d), ⟨blc y d, rfl, hbs⟩, ?_⟩
      have hc' : y / Nat.gcd y d * d ≤ 60 := hc
      unfold blc
      rw [lp_X9_back_65, bd_X9_back_65]
      simp (disch := first | assumption | omega | (refine inb_n ?_ ?_ <;> omega) | fail) only [ck_t, Option.bind_some, iLeP, iLeN, iLtP, iLtN, iEqP, iEqN, nI_1, pk_mul, nI_add, cl_n, zI0, zI1, zI8, bI_z, if_true_eq, if_false_eq, if_true, if_false, lEqP, lEqN, lGtP, lGtN, lLeP, lLeN, lGeP, lGeN, lLtP, lLtN, lN_mul, lN_add, nI_l, pk_lDiv, pk_lRem, ckl, zL0, zL1, r12, l10, r4, l3, c2, ea, ewi, ewj, e5, w1, ec, z60]
    · right
      rw [if_neg hc] at hbs
      have hc' : 60 < y / Nat.gcd y d * d := by unfold blc at hc; omega
      refine ⟨.inl (-1, M), ?_, Or.inr ⟨rfl, bR_none hbs _ (by omega)⟩⟩
      rw [lp_X9_back_65, bd_X9_back_65]
      simp (disch := first | assumption | omega | (refine inb_n ?_ ?_ <;> omega) | fail) only [ck_t, Option.bind_some, iLeP, iLeN, iLtP, iLtN, iEqP, iEqN, nI_1, pk_mul, nI_add, cl_n, zI0, zI1, zI8, bI_z, if_true_eq, if_false_eq, if_true, if_false, lEqP, lEqN, lGtP, lGtN, lLeP, lLeN, lGeP, lGeN, lLtP, lLtN, lN_mul, lN_add, nI_l, pk_lDiv, pk_lRem, ckl, zL0, zL1, r12, l10, r4, l3, c2, ea, ewi, ewj, e5, w1, ec, z60]
  · obtain ⟨y, rfl, e2⟩ := hx
    refine ⟨.inr (lN y), ?_, Or.inl ⟨y, rfl, e2⟩⟩
    rw [lp_X9_back_65, bd_X9_back_65]
    simp (disch := first | assumption | omega | (refine inb_n ?_ ?_ <;> omega) | fail) only [ck_t, Option.bind_some, iLeP, iLeN, iLtP, iLtN, iEqP, iEqN, nI_1, pk_mul, nI_add, cl_n, zI0, zI1, zI8, bI_z, if_true_eq, if_false_eq, if_true, if_false]
theorem rbk_2 (h : rRI G M R tl tv ol ov ns qs cs) {s g : Nat} {i2 : Int32} (hs : s < 6) (hn : 0 < ns s) (hwh : ct (lsB (cL (cs s) (ns s)) (ns s)) (ns s) = 1) (hw : wgR M R (ns s) (qs s) (cs s) g) : OK (lp_X9_back_56 G M (R 0) (nI s) i2 (nI (ns s)) FU (lN 1) (nI 0)) (fun r => (∃ Q, r = .inr (lN Q) ∧ bkQ (ns s) (qs s) (cs s) = some Q) ∨ (r = .inl (-1, M) ∧ bkQ (ns s) (qs s) (cs s) = none)) := by
  obtain ⟨hg, c1, c2, c3⟩ := slo_c h hs hn
  have hn8 := hg.2.1
  have hlo := blo_pos hg hwh
  refine lpI (fun f i6 (x : Int64) => lp_X9_back_56 G M (R 0) (nI s) i2 (nI (ns s)) f x i6) (fun i x => ∃ y, x = lN y ∧ bQ (blo (ns s) (qs s) (cs s)) (ns s) i = some y) (ns s) _ (by omega) (fun f i x hi hx => ?_) (fun f x hx => ?_) (j0 := 0) (x := lN 1) (by omega) ⟨1, rfl, rfl⟩
  · obtain ⟨y, rfl, e2⟩ := hx
    obtain ⟨y1, y2, _⟩ := bQ_ok hlo e2
    obtain ⟨r, a1, a2⟩ := rbk_1 (i2 := i2) h hs hn hwh hw hi y1 y2
    have hbs : bQ (blo (ns s) (qs s) (cs s)) (ns s) (i + 1) = bR (blo (ns s) (qs s) (cs s) i) y (ns s) := by
      rw [bQ_s, e2, Option.bind_some]
    rcases a2 with ⟨z, rfl, a3⟩ | ⟨rfl, a3⟩
    · left
      refine ⟨lN z, ⟨z, rfl, by rw [hbs, a3]⟩, ?_⟩
      rw [lp_X9_back_56, bd_X9_back_56]
      simp (disch := first | assumption | omega | (refine inb_n ?_ ?_ <;> omega) | fail) only [ck_t, Option.bind_some, iLeP, iLeN, iLtP, iLtN, iEqP, iEqN, nI_1, pk_mul, nI_add, cl_n, zI0, zI1, zI8, bI_z, if_true_eq, if_false_eq, if_true, if_false, a1, onS]
    · right
      rw [a3] at hbs
      refine ⟨.inl (-1, M), ?_, Or.inr ⟨rfl, bQ_none hbs _ (by omega)⟩⟩
      rw [lp_X9_back_56, bd_X9_back_56]
      simp (disch := first | assumption | omega | (refine inb_n ?_ ?_ <;> omega) | fail) only [ck_t, Option.bind_some, iLeP, iLeN, iLtP, iLtN, iEqP, iEqN, nI_1, pk_mul, nI_add, cl_n, zI0, zI1, zI8, bI_z, if_true_eq, if_false_eq, if_true, if_false, a1, onS]
  · obtain ⟨y, rfl, e2⟩ := hx
    refine ⟨.inr (lN y), ?_, Or.inl ⟨y, rfl, e2⟩⟩
    rw [lp_X9_back_56, bd_X9_back_56]
    simp (disch := first | assumption | omega | (refine inb_n ?_ ?_ <;> omega) | fail) only [ck_t, Option.bind_some, iLeP, iLeN, iLtP, iLtN, iEqP, iEqN, nI_1, pk_mul, nI_add, cl_n, zI0, zI1, zI8, bI_z, if_true_eq, if_false_eq, if_true, if_false]
theorem rbk_3 (h : rRI G M R tl tv ol ov ns qs cs) {s i g Q : Nat} {i2 : Int32} (hs : s < 6) (hn : 0 < ns s) (hwh : ct (lsB (cL (cs s) (ns s)) (ns s)) (ns s) = 1) (hw : wgR M R (ns s) (qs s) (cs s) g) (hq1 : 0 < Q) (hq60 : Q ≤ 60) (hd : ∀ i j, i < ns s → j < ns s → blw (ns s) (qs s) (cs s) i j ∣ Q) (hi : i < ns s) (hm : mdI M R (ns s) (bkf (ns s) (qs s) (cs s) Q) i 0) : OK (lp_X9_back_166 G (R 0) (nI s) i2 (nI (ns s)) (lN Q) (nI i) FU (nI 0) M) (fun M' => mdI M' R (ns s) (bkf (ns s) (qs s) (cs s) Q) (i + 1) 0 ∧ rfr M M' R ∧ wgR M' R (ns s) (qs s) (cs s) g) := by
  obtain ⟨hg, c1, c2, c3⟩ := slo_c h hs hn
  have hn8 := hg.2.1
  have k0 : isK G (R 0) 9 := h.1.2.1 0 (by decide)
  have k10 : isK G (R 10) 11 := h.1.2.1 10 (by decide)
  have l10 : G.2.2 (R 10) = 8 := h.1.2.2 10 (by decide) (by decide)
  have k3 : isK G (R 3) 10 := h.1.2.1 3 (by decide)
  have l3 : G.2.2 (R 3) = 7 := h.1.2.2 3 (by decide) (by decide)
  have hq6 := hg.2.2.2.1
  refine lpI (fun f i7 (x : Mm) => lp_X9_back_166 G (R 0) (nI s) i2 (nI (ns s)) (lN Q) (nI i) f i7 x) (fun j x => mdI x R (ns s) (bkf (ns s) (qs s) (cs s) Q) i j ∧ rfr M x R ∧ wgR x R (ns s) (qs s) (cs s) g) (ns s) _ (by omega) (fun f j x hj hx => ?_) (fun f x hx => ?_) (j0 := 0) (x := M) (by omega) ⟨hm, rfr_rf M R, hw⟩
  · obtain ⟨e1, e2, e3⟩ := hx
    left
    have hx' := rRI_r h e2
    have r4 := hx'.2.1.2.2.1
    have r12 := hx'.2.1.2.2.2.2.2.2.2.2.2.1
    have c2' := (slo_c hx' hs hn).2.2.1
    have ea := rat_c hx' hs hn hj hi
    have ewi := e3.2.2 i (by omega)
    have ewj := e3.2.2 j (by omega)
    obtain ⟨w1, w2, w3, w4, w5⟩ := wg_b hg hwh hw hi j
    have hbp := blw_pos hg hwh hi j
    have hdv := hd i j hi hj
    have hbl : blw (ns s) (qs s) (cs s) i j ≤ Q := Nat.le_of_dvd hq1 hdv
    have hle := gch_le hg j i
    have hkl := bkf_le hg hwh hd i j
    have hin : bkf (ns s) (qs s) (cs s) Q i j = bup (ns s) (qs s) (cs s) i j * (Q / blw (ns s) (qs s) (cs s) i j) := if_pos ⟨hi, hj⟩
    have e5 := cmn_eq (show cW (ns s) (qs s) (cs s) j / g * cs s j i < 2 ^ 63 by omega) (show cW (ns s) (qs s) (cs s) i / g * qs s < 2 ^ 63 by omega)
    have hgp : 0 < Nat.gcd (cW (ns s) (qs s) (cs s) j / g * cs s j i) (cW (ns s) (qs s) (cs s) i / g * qs s) := Nat.gcd_pos_of_pos_right _ w5
    have hgl : Nat.gcd (cW (ns s) (qs s) (cs s) j / g * cs s j i) (cW (ns s) (qs s) (cs s) i / g * qs s) ≤ cW (ns s) (qs s) (cs s) i / g * qs s := Nat.gcd_le_right _ w5
    have hup : bup (ns s) (qs s) (cs s) i j ≤ 2 ^ 49 * 60 := Nat.le_trans (Nat.div_le_self _ _) (bU_bd hg i j).1
    have hql : Q / blw (ns s) (qs s) (cs s) i j ≤ Q := Nat.div_le_self _ _
    have em := make_eq (x := nI (bkf (ns s) (qs s) (cs s) Q i j)) hx'.1 hx'.2.1 (show i < 8 by omega) (show j < 8 by omega)
    refine ⟨mwI x (R 4) (384 + 8 * i + j) (nI (bkf (ns s) (qs s) (cs s) Q i j)), ⟨mdI_s hn8 hj e1, rfr_tr e2 (rfr_4 h.1 (by omega)), e3⟩, ?_⟩
    rw [hin] at em hkl
    rw [hin]
    rw [lp_X9_back_166, bd_X9_back_166]
    simp (disch := first | assumption | omega | (refine inb_n ?_ ?_ <;> omega) | fail) only [ck_t, Option.bind_some, iLeP, iLeN, iLtP, iLtN, iEqP, iEqN, nI_1, pk_mul, nI_add, cl_n, zI0, zI1, zI8, bI_z, if_true_eq, if_false_eq, if_true, if_false, lEqP, lEqN, lGtP, lGtN, lLeP, lLeN, lGeP, lGeN, lLtP, lLtN, lN_mul, lN_add, nI_l, pk_lDiv, pk_lRem, ckl, zL0, zL1, r12, l10, r4, l3, c2', ea, ewi, ewj, e5, w1, w2, lN_i, em]
  · obtain ⟨e1, e2, e3⟩ := hx
    refine ⟨x, ?_, fun a b hb hab => e1 a b hb (by omega), e2, e3⟩
    rw [lp_X9_back_166, bd_X9_back_166]
    simp (disch := first | assumption | omega | (refine inb_n ?_ ?_ <;> omega) | fail) only [ck_t, Option.bind_some, iLeP, iLeN, iLtP, iLtN, iEqP, iEqN, nI_1, pk_mul, nI_add, cl_n, zI0, zI1, zI8, bI_z, if_true_eq, if_false_eq, if_true, if_false]
theorem rbk_4 (h : rRI G M R tl tv ol ov ns qs cs) {s g Q : Nat} {i2 : Int32} (hs : s < 6) (hn : 0 < ns s) (hwh : ct (lsB (cL (cs s) (ns s)) (ns s)) (ns s) = 1) (hw : wgR M R (ns s) (qs s) (cs s) g) (hq1 : 0 < Q) (hq60 : Q ≤ 60) (hd : ∀ i j, i < ns s → j < ns s → blw (ns s) (qs s) (cs s) i j ∣ Q) : OK (lp_X9_back_157 G (R 0) (nI s) i2 (nI (ns s)) (lN Q) FU (nI 0) M) (fun M' => mdR M' R (ns s) (bkf (ns s) (qs s) (cs s) Q) ∧ rfr M M' R) := by
  obtain ⟨hg, c1, c2, c3⟩ := slo_c h hs hn
  have hn8 := hg.2.1
  refine lpI (fun f i6 (x : Mm) => lp_X9_back_157 G (R 0) (nI s) i2 (nI (ns s)) (lN Q) f i6 x) (fun i x => mdI x R (ns s) (bkf (ns s) (qs s) (cs s) Q) i 0 ∧ rfr M x R ∧ wgR x R (ns s) (qs s) (cs s) g) (ns s) _ (by omega) (fun f i x hi hx => ?_) (fun f x hx => ?_) (j0 := 0) (x := M) (by omega) ⟨fun a b hb hab => absurd hab (by omega), rfr_rf M R, hw⟩
  · obtain ⟨e1, e2, e3⟩ := hx
    left
    obtain ⟨y, a1, a2, a3, a4⟩ := rbk_3 (i2 := i2) (rRI_r h e2) hs hn hwh e3 hq1 hq60 hd hi e1
    refine ⟨y, ⟨a2, rfr_tr e2 a3, a4⟩, ?_⟩
    rw [lp_X9_back_157, bd_X9_back_157]
    simp (disch := first | assumption | omega | (refine inb_n ?_ ?_ <;> omega) | fail) only [ck_t, Option.bind_some, iLeP, iLeN, iLtP, iLtN, iEqP, iEqN, nI_1, pk_mul, nI_add, cl_n, zI0, zI1, zI8, bI_z, if_true_eq, if_false_eq, if_true, if_false, a1]
  · obtain ⟨e1, e2, e3⟩ := hx
    refine ⟨x, ?_, fun a b ha hb => e1 a b hb (by omega), e2⟩
    rw [lp_X9_back_157, bd_X9_back_157]
    simp (disch := first | assumption | omega | (refine inb_n ?_ ?_ <;> omega) | fail) only [ck_t, Option.bind_some, iLeP, iLeN, iLtP, iLtN, iEqP, iEqN, nI_1, pk_mul, nI_add, cl_n, zI0, zI1, zI8, bI_z, if_true_eq, if_false_eq, if_true, if_false]
theorem rback_p (h : rRI G M R tl tv ol ov ns qs cs) {i1 i2 : Int32} {s t Q : Nat} (ho : bkOK ns qs cs i1 i2 s t Q) : OK (f_X9_back G M (R 0) i1 i2) (fun r => r.1 = nI (Q / gD Q (bkf (ns s) (qs s) (cs s) Q)) ∧ rRI G r.2 R tl tv ol ov (ud ns t (ns s)) (ud qs t (Q / gD Q (bkf (ns s) (qs s) (cs s) Q))) (ud3 cs t (fun i j => bkf (ns s) (qs s) (cs s) Q i j / gD Q (bkf (ns s) (qs s) (cs s) Q))) ∧ unt M r.2 R 17) := by
  obtain ⟨hs, rfl, hn, ht, rfl, hwh, hQ⟩ := ho
  obtain ⟨z1, z2⟩ := thr_0 h (nI 0)
  obtain ⟨hg, c1, c2, c3⟩ := slo_c z1 hs hn
  have hn8 := hg.2.1
  obtain ⟨q1, q2, q3⟩ := bQ_ok (blo_pos hg hwh) hQ
  have hd : ∀ i j, i < ns s → j < ns s → blw (ns s) (qs s) (cs s) i j ∣ Q := fun i j hi hj => by
    have := q3 i j hi hj
    rw [blo_in hi] at this
    exact this
  obtain ⟨M1, a1, a2, a3⟩ := reach_ok z1 hs hn
  have hI1 := rRI_r z1 a2
  have h8 := a3.2.2
  rw [hwh] at h8
  obtain ⟨M2, b1, b2, g, b3⟩ := weigh_ok (h0 := 0) hI1 hs hn a3 (by decide) (wh_bs hwh) (wh_one hwh)
  have hI2 := rRI_r hI1 b2
  obtain ⟨r, d1, d2⟩ := rbk_2 (i2 := nI t) hI2 hs hn hwh b3
  have d3 : r = .inr (lN Q) := by
    rcases d2 with ⟨Q', rfl, d2⟩ | ⟨_, d2⟩
    · rw [hQ] at d2
      rw [Option.some.inj d2]
    · rw [hQ] at d2; cases d2
  subst d3
  obtain ⟨M3, f1, f2, f3⟩ := rbk_4 (i2 := nI t) hI2 hs hn hwh b3 q1 q2 hd
  have hle : Q / gD Q (bkf (ns s) (qs s) (cs s) Q) ≤ 60 := Nat.le_trans (Nat.div_le_self _ _) q2
  obtain ⟨⟨v, M4⟩, g1, g2, g3, g4⟩ := puts_ok (rRI_r hI2 f3) ht hn8 q1 (by omega) (fun i j => by have := bkf_le hg hwh hd i j; omega) f2 (isG_64 (q := Q) hn8 (fun i j hij => bkf_z hij)) (gD_g hg.1 hn8 q1 (bkf_row hg hwh hd) (fun i j hij => bkf_z hij) hle)
  dsimp only at g2 g3 g4
  subst g2
  refine ⟨(nI (Q / gD Q (bkf (ns s) (qs s) (cs s) Q)), M4), ?_, rfl, g3, unt_tr z2 (unt_tr (unt_r a2) (unt_tr (unt_r b2) (unt_tr (unt_r f3) g4)))⟩
  have k0 : isK G (R 0) 9 := h.1.2.1 0 (by decide)
  have k2 : isK G (R 2) 10 := h.1.2.1 2 (by decide)
  have l2 : G.2.2 (R 2) = 7 := h.1.2.2 2 (by decide) (by decide)
  have r3 := hI2.2.1.2.1
  have c1' := (slo_c hI2 hs hn).2.1
  have e1 := rhas_p z1 hs hn
  have e2 := isSlot9_p ht
  unfold f_X9_back
  simp (disch := first | assumption | omega | (refine inb_n ?_ ?_ <;> omega) | fail) only [ck_t, Option.bind_some, iLeP, iLeN, iLtP, iLtN, iEqP, iEqN, nI_1, pk_mul, nI_add, cl_n, zI0, zI1, zI8, bI_z, if_true_eq, if_false_eq, if_true, if_false, lEqP, lEqN, lGtP, lGtN, lLeP, lLeN, lGeP, lGeN, lLtP, lLtN, lN_mul, lN_add, nI_l, pk_lDiv, pk_lRem, ckl, zL0, zL1, e1, e2, a1, h8, b1, r3, l2, c1', d1, onS, f1, lN_i, g1]
theorem rback_n (h : rRI G M R tl tv ol ov ns qs cs) {i1 i2 : Int32} (ho : ¬ ∃ s t Q, bkOK ns qs cs i1 i2 s t Q) : OK (f_X9_back G M (R 0) i1 i2) (fun r => r.1 = -1 ∧ rRI G r.2 R tl tv ol ov ns qs cs ∧ unt M r.2 R 17) := by
  have k0 : isK G (R 0) 9 := h.1.2.1 0 (by decide)
  obtain ⟨z1, z2⟩ := thr_0 h (nI 0)
  unfold f_X9_back
  by_cases h1 : slo ns i1
  · obtain ⟨s, hs, rfl, hn⟩ := h1
    have e1 := rhas_p z1 hs hn
    by_cases h2 : isl i2
    · obtain ⟨t, ht, rfl⟩ := h2
      have e2 := isSlot9_p ht
      obtain ⟨hg, c1, c2, c3⟩ := slo_c z1 hs hn
      have hn8 := hg.2.1
      obtain ⟨M1, a1, a2, a3⟩ := reach_ok z1 hs hn
      have hI1 := rRI_r z1 a2
      have h8 := a3.2.2
      by_cases hwh : ct (lsB (cL (cs s) (ns s)) (ns s)) (ns s) = 1
      · have hQ : bkQ (ns s) (qs s) (cs s) = none := by
          cases hq : bkQ (ns s) (qs s) (cs s) with
          | none => rfl
          | some Q => exact absurd ⟨s, t, Q, hs, rfl, hn, ht, rfl, hwh, hq⟩ ho
        rw [hwh] at h8
        obtain ⟨M2, b1, b2, g, b3⟩ := weigh_ok (h0 := 0) hI1 hs hn a3 (by decide) (wh_bs hwh) (wh_one hwh)
        have hI2 := rRI_r hI1 b2
        obtain ⟨r, d1, d2⟩ := rbk_2 (i2 := nI t) hI2 hs hn hwh b3
        have d3 : r = .inl (-1, M2) := by
          rcases d2 with ⟨Q', _, d2⟩ | ⟨d2, _⟩
          · rw [hQ] at d2; cases d2
          · exact d2
        subst d3
        have k2 : isK G (R 2) 10 := h.1.2.1 2 (by decide)
        have l2 : G.2.2 (R 2) = 7 := h.1.2.2 2 (by decide) (by decide)
        have r3 := hI2.2.1.2.1
        have c1' := (slo_c hI2 hs hn).2.1
        refine ⟨(-1, M2), ?_, rfl, hI2, unt_tr z2 (unt_tr (unt_r a2) (unt_r b2))⟩
        simp (disch := first | assumption | omega | (refine inb_n ?_ ?_ <;> omega) | fail) only [ck_t, Option.bind_some, iLeP, iLeN, iLtP, iLtN, iEqP, iEqN, nI_1, pk_mul, nI_add, cl_n, zI0, zI1, zI8, bI_z, if_true_eq, if_false_eq, if_true, if_false, lEqP, lEqN, lGtP, lGtN, lLeP, lLeN, lGeP, lGeN, lLtP, lLtN, lN_mul, lN_add, nI_l, pk_lDiv, pk_lRem, ckl, zL0, zL1, e1, e2, a1, h8, b1, r3, l2, c1', d1, onS]
      · have hge := hps_pos (c := cs s) hg.1
        have hle := ct_le (lsB (cL (cs s) (ns s)) (ns s)) (ns s)
        refine ⟨(-1, M1), ?_, rfl, hI1, unt_tr z2 (unt_r a2)⟩
        simp (disch := first | assumption | omega | (refine inb_n ?_ ?_ <;> omega) | fail) only [ck_t, Option.bind_some, iLeP, iLeN, iLtP, iLtN, iEqP, iEqN, nI_1, pk_mul, nI_add, cl_n, zI0, zI1, zI8, bI_z, if_true_eq, if_false_eq, if_true, if_false, e1, e2, a1, h8]
    · have e2 := isSlot9_n h2
      refine ⟨(-1, mwI M (R 0) 0 (nI 0)), ?_, rfl, z1, z2⟩
      simp (disch := first | assumption | omega | (refine inb_n ?_ ?_ <;> omega) | fail) only [ck_t, Option.bind_some, iLeP, iLeN, iLtP, iLtN, iEqP, iEqN, nI_1, pk_mul, nI_add, cl_n, zI0, zI1, zI8, bI_z, if_true_eq, if_false_eq, if_true, if_false, e1, e2]
  · have e1 := rhas_n z1 h1
    refine ⟨(-1, mwI M (R 0) 0 (nI 0)), ?_, rfl, z1, z2⟩
    simp (disch := first | assumption | omega | (refine inb_n ?_ ?_ <;> omega) | fail) only [ck_t, Option.bind_some, iLeP, iLeN, iLtP, iLtN, iEqP, iEqN, nI_1, pk_mul, nI_add, cl_n, zI0, zI1, zI8, bI_z, if_true_eq, if_false_eq, if_true, if_false, e1]
end
