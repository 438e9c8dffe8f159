/-! the reference: when, stay; roaming, coming -/
theorem bs_cl {c : Nat → Nat → Nat} {n h : Nat} (hn : n ≤ 8) (h1 : oneC c n) (hh : h < ct (lsB (cL c n) n) n) (hc : clh c n h = true) : bsH c n h = cS c n := by
  obtain ⟨j, hj, rfl⟩ := hnm_on (c := c) n h (Nat.le_refl n) hh
  rw [clh_eq hn hj] at hc
  apply set_ext (n := n) (show bsH c n (hnm c n j) < 2 ^ n from mkS_lt _ _) cS_lt
  intro i hi
  rw [cS_t hi]
  show (mkS (fun x => decide (hnm c n x = hnm c n j)) n).testBit i = _
  rw [mkS_t, decide_eq_true hi, Bool.true_and, Bool.eq_iff_iff, decide_eq_true_eq, hnm_eq hi hj]
  exact ⟨fun hm => cl_mB hj hi (mB_sy hm) hc, fun hi2 => one_cl h1 hi hj hi2 hc⟩
section
variable {G : Gg} {M : Mm} {R : Nat → Nat} {tl : Nat} {tv : Nat → Nat} {ol : Nat} {ov ns qs : Nat → Nat} {cs : Nat → Nat → Nat → Nat}
theorem rwhen_p (h : rRI G M R tl tv ol ov ns qs cs) {i1 i2 i3 : Int32} {s a b : Nat} (ho : whOK ns i1 i2 i3 s a b) : OK (f_X9_when G M (R 0) i1 i2 i3) (fun r => r.1 = whn (ns s) (qs s) (cs s) a b ∧ rRI G r.2 R tl tv ol ov ns qs cs ∧ unt M r.2 R 17) := by
  obtain ⟨hs, rfl, hn, rfl, rfl, hab, hb1, hb2⟩ := ho
  obtain ⟨z1, z2⟩ := thr_0 h (nI 0)
  obtain ⟨hg, c1, c2, c3⟩ := slo_c z1 hs hn
  have hq1 := hg.2.2.1
  have hq2 := hg.2.2.2.1
  have k0 : isK G (R 0) 9 := h.1.2.1 0 (by decide)
  have e0 := rhas_p z1 hs hn
  obtain ⟨M1, a1, a2, a3⟩ := rbegin_ok (q := qs s) (c := cs s) z1 hg.2.1
  have f1 : rfr (mwI M (R 0) 0 (nI 0)) M1 R := fr_w h.1 a2 (fun x hx => in_s hx)
  have hI1 := rRI_r z1 f1
  obtain ⟨tr, e3, t', rfl, ht'⟩ := rtimes_ok hI1 hs hn
  have : t' = lT (qs s) := isLT_un hq1 ht' (lT_ok hq1 hq2)
  subst this
  have hl20 := (lT_ok hq1 hq2).1
  have z2l : (2 : Int64) = lN 2 := rfl
  have e := lpI (fun f i5 (z : Mm) => lp_X9_when_50 G (R 0) (nI s) (nI a) (nI b) (nI (lT (qs s))) f i5 z) (fun t z => rfr (mwI M (R 0) 0 (nI 0)) z R ∧ (t ≤ lT (qs s) → rwS z R (ns s) (qs s) (cs s) t) ∧ ∀ k, k < t → nea (ns s) (qs s) (cs s) a b k = false) (lT (qs s) + 1) (fun r => (∃ t z, r = .inl (nI t, z) ∧ t < lT (qs s) + 1 ∧ fst1 (nea (ns s) (qs s) (cs s) a b) (lT (qs s) + 1) = t ∧ rfr (mwI M (R 0) 0 (nI 0)) z R) ∨ (∃ z, r = .inr z ∧ ¬ fst1 (nea (ns s) (qs s) (cs s) a b) (lT (qs s) + 1) < lT (qs s) + 1 ∧ rfr (mwI M (R 0) 0 (nI 0)) z R)) (by omega) (fun f t z ht hz => by
    obtain ⟨e1, e2, e3'⟩ := hz
    have e2 := e2 (by omega)
    obtain ⟨b1, b2, b3⟩ := nea_b (t := t) hg (by omega) hab hb2
    have hIz := rRI_r z1 e1
    have ew := rwidest_eq hIz hs hn b3 e2
    have ep := e2.2
    have hcm : 2 * a * qs s ^ t = 2 * qs s ^ t * a := Nat.mul_right_comm _ _ _
    have b2' : 2 * a * qs s ^ t < 2 ^ 63 := by omega
    by_cases hc : wo_ (gp (cs s) (ns s) t) (ns s) * b ≤ 2 * qs s ^ t * a
    · right
      refine ⟨.inl (nI t, z), ?_, Or.inl ⟨t, z, rfl, ht, fst1_is ht (decide_eq_true hc) e3', e1⟩⟩
      have hc' : wo_ (gp (cs s) (ns s) t) (ns s) * b ≤ 2 * a * qs s ^ t := by omega
      rw [lp_X9_when_50, bd_X9_when_50]
      simp (disch := first | assumption | omega | (refine inb_n ?_ ?_ <;> omega) | fail) only [ck_t, Option.bind_some, iLeP, iLeN, iLtP, iLtN, iEqP, iEqN, nI_1, pk_mul, nI_add, cl_n, zI0, zI1, zI8, bI_z, if_true_eq, if_false_eq, if_true, if_false, lEqP, lEqN, lGtP, lGtN, lLeP, lLeN, lGeP, lGeN, lLtP, lLtN, lN_mul, lN_add, nI_l, pk_lDiv, pk_lRem, ckl, zL0, zL1, ew, ep, z2l]
    · left
      have hc' : 2 * a * qs s ^ t < wo_ (gp (cs s) (ns s) t) (ns s) * b := by omega
      have hno : ∀ k, k < t + 1 → nea (ns s) (qs s) (cs s) a b k = false := fun k hk => by
        by_cases hkt : k = t
        · subst hkt; exact decide_eq_false hc
        · exact e3' k (by omega)
      by_cases hlast : t = lT (qs s)
      · refine ⟨z, ⟨e1, fun hle => absurd hle (by omega), hno⟩, ?_⟩
        rw [lp_X9_when_50, bd_X9_when_50]
        simp (disch := first | assumption | omega | (refine inb_n ?_ ?_ <;> omega) | fail) only [ck_t, Option.bind_some, iLeP, iLeN, iLtP, iLtN, iEqP, iEqN, nI_1, pk_mul, nI_add, cl_n, zI0, zI1, zI8, bI_z, if_true_eq, if_false_eq, if_true, if_false, lEqP, lEqN, lGtP, lGtN, lLeP, lLeN, lGeP, lGeN, lLtP, lLtN, lN_mul, lN_add, nI_l, pk_lDiv, pk_lRem, ckl, zL0, zL1, ew, ep, z2l]
      · obtain ⟨v, g1, g2, g3⟩ := rstep_ok hIz hs hn e2
        refine ⟨v, ⟨rfr_tr e1 (fr_w h.1 g2 (fun x hx => in_s hx)), fun _ => g3, hno⟩, ?_⟩
        rw [lp_X9_when_50, bd_X9_when_50]
        simp (disch := first | assumption | omega | (refine inb_n ?_ ?_ <;> omega) | fail) only [ck_t, Option.bind_some, iLeP, iLeN, iLtP, iLtN, iEqP, iEqN, nI_1, pk_mul, nI_add, cl_n, zI0, zI1, zI8, bI_z, if_true_eq, if_false_eq, if_true, if_false, lEqP, lEqN, lGtP, lGtN, lLeP, lLeN, lGeP, lGeN, lLtP, lLtN, lN_mul, lN_add, nI_l, pk_lDiv, pk_lRem, ckl, zL0, zL1, ew, ep, z2l, g1]) (fun f z hz => by
    obtain ⟨e1, e2, e3'⟩ := hz
    refine ⟨.inr z, ?_, Or.inr ⟨z, rfl, fst1_no e3', e1⟩⟩
    rw [lp_X9_when_50, bd_X9_when_50]
    simp (disch := first | assumption | omega | (refine inb_n ?_ ?_ <;> omega) | fail) only [ck_t, Option.bind_some, iLeP, iLeN, iLtP, iLtN, iEqP, iEqN, nI_1, pk_mul, nI_add, cl_n, zI0, zI1, zI8, bI_z, if_true_eq, if_false_eq, if_true, if_false]) (j0 := 0) (x := M1) (by omega) ⟨f1, fun _ => a3, fun k hk => absurd hk (by omega)⟩
  obtain ⟨r, g1, g2⟩ := e
  have z1000 : (1000 : Int32) = nI 1000 := rfl
  rcases g2 with ⟨t, z, rfl, g2, g3, g4⟩ | ⟨z, rfl, g2, g3⟩
  · refine ⟨(nI t, z), ?_, ?_, rRI_r z1 g4, unt_tr z2 (unt_r g4)⟩
    · unfold f_X9_when
      simp (disch := first | assumption | omega | (refine inb_n ?_ ?_ <;> omega) | fail) only [ck_t, Option.bind_some, iLeP, iLeN, iLtP, iLtN, iEqP, iEqN, nI_1, pk_mul, nI_add, cl_n, zI0, zI1, zI8, bI_z, if_true_eq, if_false_eq, if_true, if_false, e0, z1000, a1, e3, g1, onS]
    · unfold whn
      rw [g3, if_pos g2]
  · refine ⟨(-1, z), ?_, ?_, rRI_r z1 g3, unt_tr z2 (unt_r g3)⟩
    · unfold f_X9_when
      simp (disch := first | assumption | omega | (refine inb_n ?_ ?_ <;> omega) | fail) only [ck_t, Option.bind_some, iLeP, iLeN, iLtP, iLtN, iEqP, iEqN, nI_1, pk_mul, nI_add, cl_n, zI0, zI1, zI8, bI_z, if_true_eq, if_false_eq, if_true, if_false, e0, z1000, a1, e3, g1, onS]
    · unfold whn
      rw [if_neg g2]
theorem rwhen_n (h : rRI G M R tl tv ol ov ns qs cs) {i1 i2 i3 : Int32} (ho : ¬ ∃ s a b, whOK ns i1 i2 i3 s a b) : f_X9_when G M (R 0) i1 i2 i3 = some (-1, mwI M (R 0) 0 (nI 0)) := by
  obtain ⟨z1, z2⟩ := thr_0 h (nI 0)
  have k0 : isK G (R 0) 9 := h.1.2.1 0 (by decide)
  have z1000 : (1000 : Int32) = nI 1000 := rfl
  unfold f_X9_when
  by_cases h1 : slo ns i1
  · obtain ⟨s, hs, rfl, hn⟩ := h1
    have e0 := rhas_p z1 hs hn
    rw [ck_t k0]
    refine (congrArg (Option.bind · _) e0).trans ?_
    rw [Option.bind_some, if_neg (by decide)]
    rcases int_c i2 with hneg | ⟨a, ha, rfl⟩
    · exact if_pos hneg
    · rw [if_neg (nI_pos ha)]
      rcases int_c i3 with hneg | ⟨b, hb, rfl⟩
      · exact if_pos (Int32.lt_of_lt_of_le hneg (nI_pos' ha))
      · by_cases hab : a ≤ b
        · rw [if_neg (nI_nlt hab hb)]
          by_cases hb1 : 1 ≤ b
          · have hb2 : ¬ b ≤ 1000 := fun z => ho ⟨s, a, b, hs, rfl, hn, rfl, rfl, hab, hb1, z⟩
            refine (if_neg (nI_nlt (a := b) (b := 1) hb1 hb)).trans ?_
            exact if_neg (nI_ge (a := 1000) (b := b) (by omega) hb)
          · exact if_pos (nI_lt (a := b) (b := 1) (by omega) (by decide))
        · exact if_pos (nI_lt (by omega) ha)
  · have e0 := rhas_n z1 h1
    rw [ck_t k0]
    refine (congrArg (Option.bind · _) e0).trans ?_
    rfl
theorem rstay_p (h : rRI G M R tl tv ol ov ns qs cs) {s i : Nat} {i3 : Int32} (hs : s < 6) (hn : 0 < ns s) (hi : i < ns s) (hw : wht i3) (h1 : oneC (cs s) (ns s)) : OK (f_X9_stay G M (R 0) (nI s) (nI i) i3) (fun r => r.1 = tld (cW (ns s) (qs s) (cs s) i) (sN (cW (ns s) (qs s) (cs s)) (ns s)) i3 ∧ ans G M R tl tv ol ov ns qs cs r.2) := by
  obtain ⟨hg, c1, c2, c3⟩ := slo_c h hs hn
  have hn8 := hg.2.1
  have k0 : isK G (R 0) 9 := h.1.2.1 0 (by decide)
  have k2 : isK G (R 2) 10 := h.1.2.1 2 (by decide)
  have l2 : G.2.2 (R 2) = 7 := h.1.2.2 2 (by decide) (by decide)
  have k10 : isK G (R 10) 11 := h.1.2.1 10 (by decide)
  have l10 : G.2.2 (R 10) = 8 := h.1.2.2 10 (by decide) (by decide)
  have e1 := risState_p h hs hn hi
  have e2 := isWhat_p hw
  obtain ⟨M1, a1, a2, a3⟩ := reach_ok h hs hn
  have hI1 := rRI_r h a2
  obtain ⟨r, b1, b2⟩ := closedOne_ok hI1.1 hI1.2.1 hn8 a3
  have hone := h1
  unfold oneC at hone
  rw [← hps_ct hn8] at hone
  rcases b2 with ⟨_, b2⟩ | ⟨h0, b2, rfl, b3, _⟩
  · exact absurd hone b2
  · have hle := ct_le (lsB (cL (cs s) (ns s)) (ns s)) (ns s)
    obtain ⟨M2, d1, d2, g, d3⟩ := weigh_ok hI1 hs hn a3 (show h0 < 2 ^ 31 by omega) (bs_cl hn8 h1 b2 b3) h1
    have hI2 := rRI_r hI1 d2
    have ea := allWeights_eq hI2 hn8 d3
    have ei := d3.2.2 i (by omega)
    have hpos := cW_tot hg h1
    have htb := cW_tb hg
    have hlt := cW_lt hg i
    have hdv : g ∣ sN (cW (ns s) (qs s) (cs s)) (ns s) := sN_dvd (fun k _ => d3.2.1 k)
    have hp2 : 0 < sN (cW (ns s) (qs s) (cs s)) (ns s) / g := Nat.div_pos (Nat.le_of_dvd hpos hdv) d3.1
    have hd1 : cW (ns s) (qs s) (cs s) i / g ≤ cW (ns s) (qs s) (cs s) i := Nat.div_le_self _ _
    have hd2 : sN (cW (ns s) (qs s) (cs s)) (ns s) / g ≤ sN (cW (ns s) (qs s) (cs s)) (ns s) := Nat.div_le_self _ _
    have et := told_eq (i := i3) hI2 (show cW (ns s) (qs s) (cs s) i / g < 2 ^ 63 by omega) (show sN (cW (ns s) (qs s) (cs s)) (ns s) / g < 2 ^ 63 by omega) hp2
    rw [tld_g d3.1 (d3.2.1 i) hdv] at et
    have r3 := hI1.2.1.2.1
    have c1' := (slo_c hI1 hs hn).2.1
    have r12 := hI2.2.1.2.2.2.2.2.2.2.2.2.1
    refine ⟨(tld (cW (ns s) (qs s) (cs s) i) (sN (cW (ns s) (qs s) (cs s)) (ns s)) i3, mwI M2 (R 0) 0 (nI 0)), ?_, rfl, ans_2 h (rfr_tr a2 d2)⟩
    unfold f_X9_stay
    simp (disch := first | assumption | omega | (refine inb_n ?_ ?_ <;> omega) | fail) only [ck_t, Option.bind_some, iLeP, iLeN, iLtP, iLtN, iEqP, iEqN, nI_1, pk_mul, nI_add, cl_n, zI0, zI1, zI8, bI_z, if_true_eq, if_false_eq, if_true, if_false, e1, e2, a1, r3, l2, c1', b1, m1N, d1, r12, l10, ei, ea, et]
theorem rstay_n (h : rRI G M R tl tv ol ov ns qs cs) {i1 i2 i3 : Int32} (ho : ¬ ∃ s i, s < 6 ∧ i1 = nI s ∧ 0 < ns s ∧ i < ns s ∧ i2 = nI i ∧ wht i3 ∧ oneC (cs s) (ns s)) : OK (f_X9_stay G M (R 0) i1 i2 i3) (fun r => rfd G M R tl tv ol ov ns qs cs r.2) := by
  have k0 : isK G (R 0) 9 := h.1.2.1 0 (by decide)
  have er := refuse_eq h
  by_cases h2 : ∃ s, s < 6 ∧ i1 = nI s ∧ 0 < ns s ∧ stt (ns s) i2
  · obtain ⟨s, hs, rfl, hn, i, hi, rfl⟩ := h2
    obtain ⟨hg, c1, c2, c3⟩ := slo_c h hs hn
    have hn8 := hg.2.1
    have e1 := risState_p h hs hn hi
    by_cases hw : wht i3
    · have e2 := isWhat_p hw
      obtain ⟨M1, a1, a2, a3⟩ := reach_ok h hs hn
      have hI1 := rRI_r h a2
      obtain ⟨r, b1, b2⟩ := closedOne_ok hI1.1 hI1.2.1 hn8 a3
      have hone : ¬ oneC (cs s) (ns s) := fun z => ho ⟨s, i, hs, rfl, hn, hi, rfl, hw, z⟩
      unfold oneC at hone
      rw [← hps_ct hn8] at hone
      rcases b2 with ⟨rfl, _⟩ | ⟨h0, _, _, _, b3⟩
      · have er2 := refuse_eq hI1
        have k2 : isK G (R 2) 10 := h.1.2.1 2 (by decide)
        have l2 : G.2.2 (R 2) = 7 := h.1.2.2 2 (by decide) (by decide)
        have r3 := hI1.2.1.2.1
        have c1' := (slo_c hI1 hs hn).2.1
        refine ⟨(Int32.toInt64 (nI 0), mwI M1 (R 0) 0 (nI 1)), ?_, rfd_2 h a2⟩
        unfold f_X9_stay
        simp (disch := first | assumption | omega | (refine inb_n ?_ ?_ <;> omega) | fail) only [ck_t, Option.bind_some, iLeP, iLeN, iLtP, iLtN, iEqP, iEqN, nI_1, pk_mul, nI_add, cl_n, zI0, zI1, zI8, bI_z, if_true_eq, if_false_eq, if_true, if_false, e1, e2, a1, r3, l2, c1', b1, er2]
      · exact absurd b3 hone
    · have e2 := isWhat_n hw
      refine ⟨(Int32.toInt64 (nI 0), mwI M (R 0) 0 (nI 1)), ?_, rfd_1 h⟩
      unfold f_X9_stay
      simp (disch := first | assumption | omega | (refine inb_n ?_ ?_ <;> omega) | fail) only [ck_t, Option.bind_some, iLeP, iLeN, iLtP, iLtN, iEqP, iEqN, nI_1, pk_mul, nI_add, cl_n, zI0, zI1, zI8, bI_z, if_true_eq, if_false_eq, if_true, if_false, e1, e2, er]
  · have e1 := risState_n h h2
    refine ⟨(Int32.toInt64 (nI 0), mwI M (R 0) 0 (nI 1)), ?_, rfd_1 h⟩
    unfold f_X9_stay
    simp (disch := first | assumption | omega | (refine inb_n ?_ ?_ <;> omega) | fail) only [ck_t, Option.bind_some, iLeP, iLeN, iLtP, iLtN, iEqP, iEqN, nI_1, pk_mul, nI_add, cl_n, zI0, zI1, zI8, bI_z, if_true_eq, if_false_eq, if_true, if_false, e1, er]
/-- the next ones of k outside of S -/
def rn_ (c : Nat → Nat → Nat) (S k : Nat) (m : Nat) : Nat := mkS (fun j => decide (0 < c k j) && !S.testBit j) m
def rsw (c : Nat → Nat → Nat) (n S X : Nat) : Nat → Nat
  | 0 => X
  | k + 1 => if (rsw c n S X k).testBit k then rsw c n S X k ||| rn_ c S k n else rsw c n S X k
theorem rn_t {c : Nat → Nat → Nat} {S k n j : Nat} (hj : j < n) : (rn_ c S k n).testBit j = true ↔ 0 < c k j ∧ S.testBit j = false := by
  unfold rn_
  rw [mkS_t, decide_eq_true hj, Bool.true_and, Bool.and_eq_true, decide_eq_true_eq]
  simp
theorem rsw_lt {c : Nat → Nat → Nat} {n S X : Nat} (hX : X < 2 ^ n) : ∀ k, rsw c n S X k < 2 ^ n
  | 0 => hX
  | k + 1 => by
    show (if _ then _ else _) < _
    split
    · exact or_bits (rsw_lt hX k) (mkS_lt _ _)
    · exact rsw_lt hX k
theorem rsw_mono {c : Nat → Nat → Nat} {n S X : Nat} : ∀ {j k : Nat}, j ≤ k → ∀ x, (rsw c n S X j).testBit x = true → (rsw c n S X k).testBit x = true
  | j, 0, h, x, hx => by
    have : j = 0 := by omega
    subst this; exact hx
  | j, k + 1, h, x, hx => by
    by_cases e : j = k + 1
    · subst e; exact hx
    · have ih := rsw_mono (c := c) (n := n) (S := S) (X := X) (show j ≤ k by omega) x hx
      show (if _ then _ else _ : Nat).testBit x = true
      split
      · rw [Nat.testBit_or, ih]; rfl
      · exact ih
theorem rsw_min {c : Nat → Nat → Nat} {n S X : Nat} {Q : Nat → Prop} (hX : ∀ x, x < n → X.testBit x = true → Q x) (hcl : ∀ k j, k < n → j < n → Q k → 0 < c k j → S.testBit j = false → Q j) : ∀ k, k ≤ n → ∀ x, x < n → (rsw c n S X k).testBit x = true → Q x
  | 0, _, x, hx, h => hX x hx h
  | k + 1, hk, x, hx, h => by
    have ih := rsw_min hX hcl k (by omega)
    have h' : (if (rsw c n S X k).testBit k then rsw c n S X k ||| rn_ c S k n else rsw c n S X k).testBit x = true := h
    split at h'
    · rename_i hb
      rw [Nat.testBit_or, Bool.or_eq_true] at h'
      rcases h' with h' | h'
      · exact ih x hx h'
      · have := (rn_t hx).mp h'
        exact hcl k x (by omega) hx (ih k (by omega) hb) this.1 this.2
    · exact ih x hx h'
theorem roams_1 (h : rRI G M R tl tv ol ov ns qs cs) {s k X S : Nat} {i6 : Int32} (hs : s < 6) (hn : 0 < ns s) (hk : k < ns s) (hX : X < 2 ^ ns s) (hS : S < 2 ^ ns s) : lp_X9_roams_47 G M (R 0) (nI s) (nI S) i6 (nI k) FU (nI X) (nI 0) = some (nI (X ||| rn_ (cs s) S k (ns s))) := by
  obtain ⟨hg, c1, c2, c3⟩ := slo_c h hs hn
  have hn8 := hg.2.1
  have b8 := p2_31 hn8
  have k0 : isK G (R 0) 9 := h.1.2.1 0 (by decide)
  have k2 : isK G (R 2) 10 := h.1.2.1 2 (by decide)
  have l2 : G.2.2 (R 2) = 7 := h.1.2.2 2 (by decide) (by decide)
  have r3 := h.2.1.2.1
  have e := lpF (fun f (x : Int32) i8 => lp_X9_roams_47 G M (R 0) (nI s) (nI S) i6 (nI k) f x i8) (fun j => nI (X ||| rn_ (cs s) S k j)) (ns s) (nI (X ||| rn_ (cs s) S k (ns s))) (by omega) (fun f j hj => by
    have ea := rat_c h hs hn hk hj
    have hle := gch_le hg k j
    have hq6 := hg.2.2.2.1
    have es := sh_1 (show j < 31 by omega)
    rw [zI1] at es
    have hms : rn_ (cs s) S k (j + 1) = rn_ (cs s) S k j ||| (if (decide (0 < cs s k j) && !S.testBit j) then 2 ^ j else 0) := mkS_s _ _
    rw [hms]
    rw [lp_X9_roams_47, bd_X9_roams_47]
    by_cases hc : 0 < cs s k j
    · by_cases hb : S.testBit j = true
      · rw [decide_eq_true hc, hb]
        simp (disch := first | assumption | omega | (refine inb_n ?_ ?_ <;> omega) | fail) only [ck_t, Option.bind_some, iLeP, iLeN, iLtP, iLtN, iEqP, iEqN, nI_1, pk_mul, nI_add, cl_n, zI0, zI1, zI8, bI_z, if_true_eq, if_false_eq, if_true, if_false, r3, l2, c1, ea, bT0N]
        simp
      · rw [Bool.not_eq_true] at hb
        rw [decide_eq_true hc, hb]
        simp (disch := first | assumption | omega | (refine inb_n ?_ ?_ <;> omega) | fail) only [ck_t, Option.bind_some, iLeP, iLeN, iLtP, iLtN, iEqP, iEqN, nI_1, pk_mul, nI_add, cl_n, zI0, zI1, zI8, bI_z, if_true_eq, if_false_eq, if_true, if_false, r3, l2, c1, ea, bT0P, es, nI_or]
        simp [Nat.or_assoc]
    · rw [decide_eq_false hc]
      simp (disch := first | assumption | omega | (refine inb_n ?_ ?_ <;> omega) | fail) only [ck_t, Option.bind_some, iLeP, iLeN, iLtP, iLtN, iEqP, iEqN, nI_1, pk_mul, nI_add, cl_n, zI0, zI1, zI8, bI_z, if_true_eq, if_false_eq, if_true, if_false, r3, l2, c1, ea]
      simp) (fun f => by
    rw [lp_X9_roams_47, bd_X9_roams_47]
    simp (disch := first | assumption | omega | (refine inb_n ?_ ?_ <;> omega) | fail) only [ck_t, Option.bind_some, iLeP, iLeN, iLtP, iLtN, iEqP, iEqN, nI_1, pk_mul, nI_add, cl_n, zI0, zI1, zI8, bI_z, if_true_eq, if_false_eq, if_true, if_false, r3, l2, c1])
  have e0 : X ||| rn_ (cs s) S k 0 = X := Nat.or_zero X
  rw [e0] at e
  exact e
theorem roams_2 (h : rRI G M R tl tv ol ov ns qs cs) {s X S : Nat} {i6 : Int32} (hs : s < 6) (hn : 0 < ns s) (hX : X < 2 ^ ns s) (hS : S < 2 ^ ns s) : lp_X9_roams_20 G M (R 0) (nI s) (nI S) i6 FU (nI X) (nI 0) = some (nI (rsw (cs s) (ns s) S X (ns s))) := by
  obtain ⟨hg, c1, c2, c3⟩ := slo_c h hs hn
  have hn8 := hg.2.1
  have b8 := p2_31 hn8
  have k0 : isK G (R 0) 9 := h.1.2.1 0 (by decide)
  have k2 : isK G (R 2) 10 := h.1.2.1 2 (by decide)
  have l2 : G.2.2 (R 2) = 7 := h.1.2.2 2 (by decide) (by decide)
  have r3 := h.2.1.2.1
  refine lpF (fun f (x : Int32) i7 => lp_X9_roams_20 G M (R 0) (nI s) (nI S) i6 f x i7) (fun k => nI (rsw (cs s) (ns s) S X k)) (ns s) _ (by omega) (fun f k hk => ?_) (fun f => ?_)
  · have hl := rsw_lt (c := cs s) (S := S) hX k
    have er := roams_1 (i6 := i6) h hs hn hk hl hS
    rw [lp_X9_roams_20, bd_X9_roams_20]
    by_cases hb : (rsw (cs s) (ns s) S X k).testBit k = true
    · have hsw : rsw (cs s) (ns s) S X (k + 1) = rsw (cs s) (ns s) S X k ||| rn_ (cs s) S k (ns s) := if_pos hb
      rw [hsw]
      simp (disch := first | assumption | omega | (refine inb_n ?_ ?_ <;> omega) | fail) only [ck_t, Option.bind_some, iLeP, iLeN, iLtP, iLtN, iEqP, iEqN, nI_1, pk_mul, nI_add, cl_n, zI0, zI1, zI8, bI_z, if_true_eq, if_false_eq, if_true, if_false, r3, l2, c1, bT0N, er]
    · have hsw : rsw (cs s) (ns s) S X (k + 1) = rsw (cs s) (ns s) S X k := if_neg hb
      rw [Bool.not_eq_true] at hb
      rw [hsw]
      simp (disch := first | assumption | omega | (refine inb_n ?_ ?_ <;> omega) | fail) only [ck_t, Option.bind_some, iLeP, iLeN, iLtP, iLtN, iEqP, iEqN, nI_1, pk_mul, nI_add, cl_n, zI0, zI1, zI8, bI_z, if_true_eq, if_false_eq, if_true, if_false, r3, l2, c1, bT0P]
  · rw [lp_X9_roams_20, bd_X9_roams_20]
    simp (disch := first | assumption | omega | (refine inb_n ?_ ?_ <;> omega) | fail) only [ck_t, Option.bind_some, iLeP, iLeN, iLtP, iLtN, iEqP, iEqN, nI_1, pk_mul, nI_add, cl_n, zI0, zI1, zI8, bI_z, if_true_eq, if_false_eq, if_true, if_false, r3, l2, c1]
theorem roams_3 (h : rRI G M R tl tv ol ov ns qs cs) {s S i : Nat} (hs : s < 6) (hn : 0 < ns s) (hS : S < 2 ^ ns s) (hi : i < ns s) : ∀ (m f X : Nat), X < 2 ^ ns s → X.testBit i = true → (∀ Q : Nat → Prop, Q i → (∀ k j, k < ns s → j < ns s → Q k → 0 < cs s k j → S.testBit j = false → Q j) → ∀ j, j < ns s → X.testBit j = true → Q j) → ns s ≤ cnt X (ns s) + m → m + 2 ≤ f → lp_X9_roams_8 G M (R 0) (nI s) (nI S) f (nI X) (nI 1) = some (nI (stI (cs s) (ns s) i S))
  | m, f, X, hX, hXi, hmin, hm, hf => by
    obtain ⟨hg, c1, c2, c3⟩ := slo_c h hs hn
    have hn8 := hg.2.1
    have b8 := p2_31 hn8
    obtain ⟨f, rfl⟩ : ∃ g, f = g + 1 := ⟨f - 1, by omega⟩
    have er := roams_2 (i6 := nI X) h hs hn hX hS
    have hYl := rsw_lt (c := cs s) (S := S) hX (ns s)
    have hsub : ∀ x, x < ns s → X.testBit x = true → (rsw (cs s) (ns s) S X (ns s)).testBit x = true := fun x _ hx => rsw_mono (j := 0) (by omega) x hx
    by_cases he : rsw (cs s) (ns s) S X (ns s) = X
    · obtain ⟨f, rfl⟩ : ∃ g, f = g + 1 := ⟨f - 1, by omega⟩
      have hall : ∀ k, k ≤ ns s → rsw (cs s) (ns s) S X k = X := fun k hk => by
        apply set_ext (rsw_lt hX k) hX
        intro x hx
        rw [Bool.eq_iff_iff]
        exact ⟨fun hz => by rw [← he]; exact rsw_mono hk x hz, fun hz => rsw_mono (j := 0) (by omega) x hz⟩
      have hcl : isCl (cs s) (ns s) S i X := ⟨hX, hXi, fun k j hk hj hz hc hS2 => by
        have h1 := hall (k + 1) (by omega)
        have h2 : rsw (cs s) (ns s) S X (k + 1) = if (rsw (cs s) (ns s) S X k).testBit k then rsw (cs s) (ns s) S X k ||| rn_ (cs s) S k (ns s) else rsw (cs s) (ns s) S X k := rfl
        rw [h2, hall k (by omega), if_pos hz] at h1
        rw [← h1, Nat.testBit_or, (rn_t hj).mpr ⟨hc, hS2⟩, Bool.or_true], hmin⟩
      have hZ : stI (cs s) (ns s) i S = X := isCl_un (roS_cl hn8 hi) hcl
      rw [hZ]
      rw [he] at er
      rw [lp_X9_roams_8, bd_X9_roams_8, zI0, if_neg (by decide), er, Option.bind_some, if_pos rfl]
      rw [lp_X9_roams_8, bd_X9_roams_8, zI0, if_pos rfl]
    · obtain ⟨z, hz, z1, z2⟩ := set_ne hX hYl hsub (fun e => he e.symm)
      have hlt := cnt_ss hsub hz z1 z2
      have hcl := cnt_le (rsw (cs s) (ns s) S X (ns s)) (ns s)
      obtain ⟨m, rfl⟩ : ∃ g, m = g + 1 := ⟨m - 1, by omega⟩
      have ih := roams_3 h hs hn hS hi m f (rsw (cs s) (ns s) S X (ns s)) hYl (hsub i hi hXi) (fun Q hQ hc => rsw_min (hmin Q hQ hc) hc (ns s) (Nat.le_refl _)) (by omega) (by omega)
      rw [← ih]
      rw [lp_X9_roams_8, bd_X9_roams_8, zI0, if_neg (by decide), er, Option.bind_some, if_neg (fun e => he ((nI_eq (by omega) (by omega)).mp e))]
      rfl
theorem roams_eq (h : rRI G M R tl tv ol ov ns qs cs) {s S i : Nat} (hs : s < 6) (hn : 0 < ns s) (hS : S < 2 ^ ns s) (hi : i < ns s) : f_X9_roams G M (R 0) (nI s) (nI i) (nI S) = some (nI (stI (cs s) (ns s) i S)) := by
  obtain ⟨hg, c1, c2, c3⟩ := slo_c h hs hn
  have hn8 := hg.2.1
  have e := roams_3 h hs hn hS hi (ns s) FU (2 ^ i) (p2l hi) (by rw [Nat.testBit_two_pow]; simp) (fun Q hQ _ j _ hz => by
    rw [Nat.testBit_two_pow, decide_eq_true_eq] at hz
    subst hz; exact hQ) (by omega) (by rw [FU_big]; omega)
  have es := sh_1 (show i < 31 by omega)
  unfold f_X9_roams
  rw [es, zI1, e]
  rfl
theorem comes_ok (h : rRI G M R tl tv ol ov ns qs cs) {s Z S : Nat} (hs : s < 6) (hn : 0 < ns s) (hZ : Z < 2 ^ ns s) (hS : S < 2 ^ ns s) : OK (f_X9_comes G M (R 0) (nI s) (nI Z) (nI S)) (fun r => (r = nI 1 ∧ coB (cs s) (ns s) Z S) ∨ (r = nI 0 ∧ ¬ coB (cs s) (ns s) Z S)) := by
  obtain ⟨hg, c1, c2, c3⟩ := slo_c h hs hn
  have hn8 := hg.2.1
  have b8 := p2_31 hn8
  have k0 : isK G (R 0) 9 := h.1.2.1 0 (by decide)
  have k2 : isK G (R 2) 10 := h.1.2.1 2 (by decide)
  have l2 : G.2.2 (R 2) = 7 := h.1.2.2 2 (by decide) (by decide)
  have r3 := h.2.1.2.1
  have row : ∀ x, x < ns s → OK (lp_X9_comes_17 G M (R 0) (nI s) (nI Z) (nI S) (nI x) FU (nI 0)) (fun r => (r = .inl (nI 1) ∧ ∃ y, y < ns s ∧ Z.testBit x = true ∧ S.testBit y = true ∧ 0 < cs s x y) ∨ (r = .inr () ∧ ¬ ∃ y, y < ns s ∧ Z.testBit x = true ∧ S.testBit y = true ∧ 0 < cs s x y)) := fun x hx => by
    refine lpI (fun f i5 (u : Unit) => lp_X9_comes_17 G M (R 0) (nI s) (nI Z) (nI S) (nI x) f i5) (fun j _ => ¬ ∃ y, y < j ∧ Z.testBit x = true ∧ S.testBit y = true ∧ 0 < cs s x y) (ns s) _ (by omega) (fun f j u hj hu => ?_) (fun f u hu => ?_) (j0 := 0) (x := ()) (by omega) (fun ⟨y, hy, _⟩ => by omega)
    · have ea := rat_c h hs hn hx hj
      have hle := gch_le hg x j
      have hq6 := hg.2.2.2.1
      have next : ¬ (Z.testBit x = true ∧ S.testBit j = true ∧ 0 < cs s x j) → ¬ ∃ y, y < j + 1 ∧ Z.testBit x = true ∧ S.testBit y = true ∧ 0 < cs s x y := fun hno ⟨y, hy, h1⟩ => by
        by_cases e : y = j
        · subst e; exact hno h1
        · exact hu ⟨y, by omega, h1⟩
      by_cases hz : Z.testBit x = true
      · by_cases hb : S.testBit j = true
        · by_cases hc : 0 < cs s x j
          · right
            refine ⟨.inl (nI 1), ?_, Or.inl ⟨rfl, j, hj, hz, hb, hc⟩⟩
            rw [lp_X9_comes_17, bd_X9_comes_17]
            simp (disch := first | assumption | omega | (refine inb_n ?_ ?_ <;> omega) | fail) only [ck_t, Option.bind_some, iLeP, iLeN, iLtP, iLtN, iEqP, iEqN, nI_1, pk_mul, nI_add, cl_n, zI0, zI1, zI8, bI_z, if_true_eq, if_false_eq, if_true, if_false, r3, l2, c1, bT1P, ea]
          · left
            refine ⟨(), next (fun z => hc z.2.2), ?_⟩
            rw [lp_X9_comes_17, bd_X9_comes_17]
            simp (disch := first | assumption | omega | (refine inb_n ?_ ?_ <;> omega) | fail) only [ck_t, Option.bind_some, iLeP, iLeN, iLtP, iLtN, iEqP, iEqN, nI_1, pk_mul, nI_add, cl_n, zI0, zI1, zI8, bI_z, if_true_eq, if_false_eq, if_true, if_false, r3, l2, c1, bT1P, ea]
        · left
          refine ⟨(), next (fun z => hb z.2.1), ?_⟩
          rw [Bool.not_eq_true] at hb
          rw [lp_X9_comes_17, bd_X9_comes_17]
          simp (disch := first | assumption | omega | (refine inb_n ?_ ?_ <;> omega) | fail) only [ck_t, Option.bind_some, iLeP, iLeN, iLtP, iLtN, iEqP, iEqN, nI_1, pk_mul, nI_add, cl_n, zI0, zI1, zI8, bI_z, if_true_eq, if_false_eq, if_true, if_false, r3, l2, c1, bT1P, bT1N]
      · left
        refine ⟨(), next (fun z => hz z.1), ?_⟩
        rw [Bool.not_eq_true] at hz
        rw [lp_X9_comes_17, bd_X9_comes_17]
        simp (disch := first | assumption | omega | (refine inb_n ?_ ?_ <;> omega) | fail) only [ck_t, Option.bind_some, iLeP, iLeN, iLtP, iLtN, iEqP, iEqN, nI_1, pk_mul, nI_add, cl_n, zI0, zI1, zI8, bI_z, if_true_eq, if_false_eq, if_true, if_false, r3, l2, c1, bT1N]
    · refine ⟨.inr (), ?_, Or.inr ⟨rfl, hu⟩⟩
      rw [lp_X9_comes_17, bd_X9_comes_17]
      simp (disch := first | assumption | omega | (refine inb_n ?_ ?_ <;> omega) | fail) only [ck_t, Option.bind_some, iLeP, iLeN, iLtP, iLtN, iEqP, iEqN, nI_1, pk_mul, nI_add, cl_n, zI0, zI1, zI8, bI_z, if_true_eq, if_false_eq, if_true, if_false, r3, l2, c1]
  have e := lpI (fun f i4 (u : Unit) => lp_X9_comes_3 G M (R 0) (nI s) (nI Z) (nI S) f i4) (fun j _ => ¬ ∃ x y, x < j ∧ y < ns s ∧ Z.testBit x = true ∧ S.testBit y = true ∧ 0 < cs s x y) (ns s) (fun r => (r = .inl (nI 1) ∧ coB (cs s) (ns s) Z S) ∨ (r = .inr () ∧ ¬ coB (cs s) (ns s) Z S)) (by omega) (fun f j u hj hu => by
    obtain ⟨r, a1, a2⟩ := row j hj
    rcases a2 with ⟨rfl, y, hy, a2⟩ | ⟨rfl, a2⟩
    · right
      refine ⟨.inl (nI 1), ?_, Or.inl ⟨rfl, j, y, hj, hy, a2⟩⟩
      rw [lp_X9_comes_3, bd_X9_comes_3]
      simp (disch := first | assumption | omega | (refine inb_n ?_ ?_ <;> omega) | fail) only [ck_t, Option.bind_some, iLeP, iLeN, iLtP, iLtN, iEqP, iEqN, nI_1, pk_mul, nI_add, cl_n, zI0, zI1, zI8, bI_z, if_true_eq, if_false_eq, if_true, if_false, r3, l2, c1, a1, onS]
    · left
      refine ⟨(), fun ⟨x, y, hx, hy, hz⟩ => ?_, ?_⟩
      · by_cases e : x = j
        · subst e; exact a2 ⟨y, hy, hz⟩
        · exact hu ⟨x, y, by omega, hy, hz⟩
      · rw [lp_X9_comes_3, bd_X9_comes_3]
        simp (disch := first | assumption | omega | (refine inb_n ?_ ?_ <;> omega) | fail) only [ck_t, Option.bind_some, iLeP, iLeN, iLtP, iLtN, iEqP, iEqN, nI_1, pk_mul, nI_add, cl_n, zI0, zI1, zI8, bI_z, if_true_eq, if_false_eq, if_true, if_false, r3, l2, c1, a1, onS]) (fun f u hu => by
    refine ⟨.inr (), ?_, Or.inr ⟨rfl, hu⟩⟩
    rw [lp_X9_comes_3, bd_X9_comes_3]
    simp (disch := first | assumption | omega | (refine inb_n ?_ ?_ <;> omega) | fail) only [ck_t, Option.bind_some, iLeP, iLeN, iLtP, iLtN, iEqP, iEqN, nI_1, pk_mul, nI_add, cl_n, zI0, zI1, zI8, bI_z, if_true_eq, if_false_eq, if_true, if_false, r3, l2, c1]) (j0 := 0) (x := ()) (by omega) (fun ⟨x, y, hx, _⟩ => by omega)
  obtain ⟨r, e1, e2⟩ := e
  unfold f_X9_comes
  rw [zI0, e1, Option.bind_some]
  rcases e2 with ⟨rfl, e2⟩ | ⟨rfl, e2⟩
  · exact ⟨_, rfl, Or.inl ⟨rfl, e2⟩⟩
  · exact ⟨_, rfl, Or.inr ⟨rfl, e2⟩⟩
theorem risSet_p (h : rRI G M R tl tv ol ov ns qs cs) {s S : Nat} (hs : s < 6) (hn : 0 < ns s) (h0 : 0 < S) (hS : S < 2 ^ ns s) : f_X9_isSet G M (R 0) (nI s) (nI S) = some (nI 1) := by
  obtain ⟨hg, c1, c2, c3⟩ := slo_c h hs hn
  have hn8 := hg.2.1
  have b8 := p2_31 hn8
  have k0 : isK G (R 0) 9 := h.1.2.1 0 (by decide)
  have k2 : isK G (R 2) 10 := h.1.2.1 2 (by decide)
  have l2 : G.2.2 (R 2) = 7 := h.1.2.2 2 (by decide) (by decide)
  have r3 := h.2.1.2.1
  have es := sh_1 (show ns s < 31 by omega)
  rw [zI1] at es
  unfold f_X9_isSet
  simp (disch := first | assumption | omega | (refine inb_n ?_ ?_ <;> omega) | fail) only [ck_t, Option.bind_some, iLeP, iLeN, iLtP, iLtN, iEqP, iEqN, nI_1, pk_mul, nI_add, cl_n, zI0, zI1, zI8, bI_z, if_true_eq, if_false_eq, if_true, if_false, r3, l2, c1, es]
theorem risSet_n (h : rRI G M R tl tv ol ov ns qs cs) {s : Nat} {i : Int32} (hs : s < 6) (hn : 0 < ns s) (hi : ¬ ∃ S, 0 < S ∧ S < 2 ^ ns s ∧ i = nI S) : f_X9_isSet G M (R 0) (nI s) i = some (nI 0) := by
  obtain ⟨hg, c1, c2, c3⟩ := slo_c h hs hn
  have hn8 := hg.2.1
  have b8 := p2_31 hn8
  have k0 : isK G (R 0) 9 := h.1.2.1 0 (by decide)
  have k2 : isK G (R 2) 10 := h.1.2.1 2 (by decide)
  have l2 : G.2.2 (R 2) = 7 := h.1.2.2 2 (by decide) (by decide)
  have r3 := h.2.1.2.1
  have es := sh_1 (show ns s < 31 by omega)
  rw [zI1] at es
  unfold f_X9_isSet
  rcases int_c i with hneg | ⟨j, hj, rfl⟩
  · exact if_pos (Int32.le_of_lt hneg)
  · by_cases h0 : 0 < j
    · have : 2 ^ ns s ≤ j := by
        rcases Nat.lt_or_ge j (2 ^ ns s) with h2 | h2
        · exact absurd ⟨j, h0, h2, rfl⟩ hi
        · exact h2
      simp (disch := first | assumption | omega | (refine inb_n ?_ ?_ <;> omega) | fail) only [ck_t, Option.bind_some, iLeP, iLeN, iLtP, iLtN, iEqP, iEqN, nI_1, pk_mul, nI_add, cl_n, zI0, zI1, zI8, bI_z, if_true_eq, if_false_eq, if_true, if_false, r3, l2, c1, es]
    · simp (disch := first | assumption | omega | (refine inb_n ?_ ?_ <;> omega) | fail) only [ck_t, Option.bind_some, iLeP, iLeN, iLtP, iLtN, iEqP, iEqN, nI_1, pk_mul, nI_add, cl_n, zI0, zI1, zI8, bI_z, if_true_eq, if_false_eq, if_true, if_false]
end
