/-! chance and apart of the reference; when and stay of both -/
section
variable {G : Gg} {M : Mm} {R : Nat → Nat} {tl : Nat} {tv : Nat → Nat} {ol : Nat} {ov ns qs : Nat → Nat} {cs : Nat → Nat → Nat → Nat}
/-- refused -/
def rfd (G : Gg) (M : Mm) (R : Nat → Nat) (tl : Nat) (tv : Nat → Nat) (ol : Nat) (ov ns qs : Nat → Nat) (cs : Nat → Nat → Nat → Nat) (M' : Mm) : Prop := M'.1 (R 0) 0 = nI 1 ∧ rRI G M' R tl tv ol ov ns qs cs ∧ unt M M' R 17
/-- answered -/
def ans (G : Gg) (M : Mm) (R : Nat → Nat) (tl : Nat) (tv : Nat → Nat) (ol : Nat) (ov ns qs : Nat → Nat) (cs : Nat → Nat → Nat → Nat) (M' : Mm) : Prop := M'.1 (R 0) 0 = nI 0 ∧ rRI G M' R tl tv ol ov ns qs cs ∧ unt M M' R 17
theorem rfd_1 (h : rRI G M R tl tv ol ov ns qs cs) : rfd G M R tl tv ol ov ns qs cs (mwI M (R 0) 0 (nI 1)) := ⟨mwI_s, thr_0 h (nI 1)⟩
theorem rfd_2 {M1 : Mm} (h : rRI G M R tl tv ol ov ns qs cs) (hf : rfr M M1 R) : rfd G M R tl tv ol ov ns qs cs (mwI M1 (R 0) 0 (nI 1)) := by
  obtain ⟨z1, z2⟩ := thr_0 (rRI_r h hf) (nI 1)
  exact ⟨mwI_s, z1, unt_tr (unt_r hf) z2⟩
theorem ans_2 {M1 : Mm} (h : rRI G M R tl tv ol ov ns qs cs) (hf : rfr M M1 R) : ans G M R tl tv ol ov ns qs cs (mwI M1 (R 0) 0 (nI 0)) := by
  obtain ⟨z1, z2⟩ := thr_0 (rRI_r h hf) (nI 0)
  exact ⟨mwI_s, z1, unt_tr (unt_r hf) z2⟩
theorem rchance_p (h : rRI G M R tl tv ol ov ns qs cs) {i1 i2 i3 i4 i5 : Int32} {s i j t : Nat} (ho : chOK ns qs i1 i2 i3 i4 i5 s i j t) : OK (f_X9_chance G M (R 0) i1 i2 i3 i4 i5) (fun r => r.1 = tld (pw_ (cs s) (ns s) t i j) (qs s ^ t) i5 ∧ ans G M R tl tv ol ov ns qs cs r.2) := by
  obtain ⟨hs, rfl, hn, hi, rfl, hj, rfl, ht, rfl, hw⟩ := ho
  obtain ⟨hg, c1, c2, c3⟩ := slo_c h hs hn
  have hn8 := hg.2.1
  have hq1 := hg.2.2.1
  have hq2 := hg.2.2.2.1
  have k0 : isK G (R 0) 9 := h.1.2.1 0 (by decide)
  have k15 : isK G (R 15) 11 := h.1.2.1 15 (by decide)
  have l15 : G.2.2 (R 15) = 64 := h.1.2.2 15 (by decide) (by decide)
  have e1 := risState_p h hs hn hi
  have e2 := risState_p h hs hn hj
  obtain ⟨tr, e3, t', rfl, ht'⟩ := rtimes_ok h hs hn
  have : t' = lT (qs s) := isLT_un hq1 ht' (lT_ok hq1 hq2)
  subst this
  have hl20 := (lT_ok hq1 hq2).1
  have e4 := isWhat_p hw
  obtain ⟨M1, a1, a2, a3⟩ := rgo_ok h hs hn (show t < 1000 by omega)
  have hI1 := rRI_r h a2
  have hp := lT_le hq1 hq2 ht
  have hpp : 0 < qs s ^ t := Nat.pow_pos hq1
  have hle := pw_le hg hi hj t
  have ea := a3.1 i j hi hj
  have ep := a3.2
  have et := told_eq (i := i5) hI1 (show pw_ (cs s) (ns s) t i j < 2 ^ 63 by omega) (show qs s ^ t < 2 ^ 63 by omega) hpp
  have r18 := hI1.2.1.2.2.2.2.2.2.2.2.2.2.2.2.2.2.1
  refine ⟨(tld (pw_ (cs s) (ns s) t i j) (qs s ^ t) i5, mwI M1 (R 0) 0 (nI 0)), ?_, rfl, ans_2 h a2⟩
  unfold f_X9_chance
  simp (disch := first | assumption | omega | (refine inb_n ?_ ?_ <;> omega) | fail) only [ck_t, Option.bind_some, iLeP, iLeN, iLtP, iLtN, iEqP, iEqN, nI_1, pk_mul, nI_add, cl_n, zI0, zI1, zI8, bI_z, if_true_eq, if_false_eq, if_true, if_false, e1, e2, e3, e4, a1, r18, l15, ea, ep, et]
theorem rchance_n (h : rRI G M R tl tv ol ov ns qs cs) {i1 i2 i3 i4 i5 : Int32} (ho : ¬ ∃ s i j t, chOK ns qs i1 i2 i3 i4 i5 s i j t) : OK (f_X9_chance G M (R 0) i1 i2 i3 i4 i5) (fun r => rfd G M R tl tv ol ov ns qs cs r.2) := by
  have k0 : isK G (R 0) 9 := h.1.2.1 0 (by decide)
  have er := refuse_eq h
  refine ⟨(Int32.toInt64 (nI 0), mwI M (R 0) 0 (nI 1)), ?_, rfd_1 h⟩
  unfold f_X9_chance
  by_cases h2 : ∃ s, s < 6 ∧ i1 = nI s ∧ 0 < ns s ∧ stt (ns s) i2
  · obtain ⟨s, hs, rfl, hn, i, hi, rfl⟩ := h2
    obtain ⟨hg, c1, c2, c3⟩ := slo_c h hs hn
    have hq1 := hg.2.2.1
    have hq2 := hg.2.2.2.1
    have e1 := risState_p h hs hn hi
    by_cases h3 : ∃ s', s' < 6 ∧ nI s = nI s' ∧ 0 < ns s' ∧ stt (ns s') i3
    · obtain ⟨s', hs', hss, hn', j, hj, rfl⟩ := h3
      have : s = s' := (nI_eq (by omega) (by omega)).mp hss
      subst this
      have e2 := risState_p h hs hn hj
      obtain ⟨tr, e3, t', rfl, ht'⟩ := rtimes_ok h hs hn
      have : t' = lT (qs s) := isLT_un hq1 ht' (lT_ok hq1 hq2)
      subst this
      have hl20 := (lT_ok hq1 hq2).1
      rcases int_c i4 with hneg | ⟨t, ht, rfl⟩
      · rw [ck_t k0, e1, Option.bind_some, if_neg (by decide), e2, Option.bind_some, if_neg (by decide)]
        refine (if_pos hneg).trans ?_
        rw [er]
        rfl
      · by_cases htl : t ≤ lT (qs s)
        · have e4 := isWhat_n (i := i5) (fun z => ho ⟨s, i, j, t, hs, rfl, hn, hi, rfl, hj, rfl, htl, rfl, z⟩)
          simp (disch := first | assumption | omega | (refine inb_n ?_ ?_ <;> omega) | fail) only [ck_t, Option.bind_some, iLeP, iLeN, iLtP, iLtN, iEqP, iEqN, nI_1, pk_mul, nI_add, cl_n, zI0, zI1, zI8, bI_z, if_true_eq, if_false_eq, if_true, if_false, e1, e2, e3, e4, er]
        · simp (disch := first | assumption | omega | (refine inb_n ?_ ?_ <;> omega) | fail) only [ck_t, Option.bind_some, iLeP, iLeN, iLtP, iLtN, iEqP, iEqN, nI_1, pk_mul, nI_add, cl_n, zI0, zI1, zI8, bI_z, if_true_eq, if_false_eq, if_true, if_false, e1, e2, e3, er]
    · have e2 := risState_n h h3
      simp (disch := first | assumption | omega | (refine inb_n ?_ ?_ <;> omega) | fail) only [ck_t, Option.bind_some, iLeP, iLeN, iLtP, iLtN, iEqP, iEqN, nI_1, pk_mul, nI_add, cl_n, zI0, zI1, zI8, bI_z, if_true_eq, if_false_eq, if_true, if_false, e1, e2, er]
  · have e1 := risState_n h h2
    simp (disch := first | assumption | omega | (refine inb_n ?_ ?_ <;> omega) | fail) only [ck_t, Option.bind_some, iLeP, iLeN, iLtP, iLtN, iEqP, iEqN, nI_1, pk_mul, nI_add, cl_n, zI0, zI1, zI8, bI_z, if_true_eq, if_false_eq, if_true, if_false, e1, er]
theorem rap48 (h : rRI G M R tl tv ol ov ns qs cs) {i2 i3 i4 i5 k : Int32} {s : Nat} (hs : s < 6) (hn : 0 < ns s) (hno : ¬ ((∃ t, t ≤ lT (qs s) ∧ i4 = nI t) ∧ wht i5)) : jn_X9_apart_48 G M (R 0) (nI s) i2 i3 i4 i5 k = some (Int32.toInt64 (nI 0), mwI M (R 0) 0 (nI 1)) := by
  obtain ⟨hg, c1, c2, c3⟩ := slo_c h hs hn
  have hq1 := hg.2.2.1
  have hq2 := hg.2.2.2.1
  have k0 : isK G (R 0) 9 := h.1.2.1 0 (by decide)
  have er := refuse_eq h
  obtain ⟨tr, e3, t', rfl, ht'⟩ := rtimes_ok h hs hn
  have : t' = lT (qs s) := isLT_un hq1 ht' (lT_ok hq1 hq2)
  subst this
  have hl20 := (lT_ok hq1 hq2).1
  unfold jn_X9_apart_48
  rcases int_c i4 with hneg | ⟨t, ht, rfl⟩
  · refine (if_pos hneg).trans ?_
    rw [ck_t k0, er]
    rfl
  · by_cases htl : t ≤ lT (qs s)
    · have e4 := isWhat_n (i := i5) (fun z => hno ⟨⟨t, htl, rfl⟩, z⟩)
      simp (disch := first | assumption | omega | (refine inb_n ?_ ?_ <;> omega) | fail) only [ck_t, Option.bind_some, iLeP, iLeN, iLtP, iLtN, iEqP, iEqN, nI_1, pk_mul, nI_add, cl_n, zI0, zI1, zI8, bI_z, if_true_eq, if_false_eq, if_true, if_false, e3, e4, er]
    · simp (disch := first | assumption | omega | (refine inb_n ?_ ?_ <;> omega) | fail) only [ck_t, Option.bind_some, iLeP, iLeN, iLtP, iLtN, iEqP, iEqN, nI_1, pk_mul, nI_add, cl_n, zI0, zI1, zI8, bI_z, if_true_eq, if_false_eq, if_true, if_false, e3, er]
theorem rapart_p (h : rRI G M R tl tv ol ov ns qs cs) {i1 i2 i3 i4 i5 : Int32} {s t g : Nat} (ho : apOK ns qs cs i1 i2 i3 i4 i5 s t g) : OK (f_X9_apart G M (R 0) i1 i2 i3 i4 i5) (fun r => r.1 = tld g (2 * qs s ^ t) i5 ∧ ans G M R tl tv ol ov ns qs cs r.2) := by
  obtain ⟨hs, rfl, hn, ht, rfl, hw, hap⟩ := ho
  obtain ⟨hg, c1, c2, c3⟩ := slo_c h hs hn
  have hq1 := hg.2.2.1
  have hq2 := hg.2.2.2.1
  have k0 : isK G (R 0) 9 := h.1.2.1 0 (by decide)
  have e0 := rhas_p h hs hn
  obtain ⟨tr, e3, t', rfl, ht'⟩ := rtimes_ok h hs hn
  have : t' = lT (qs s) := isLT_un hq1 ht' (lT_ok hq1 hq2)
  subst this
  have hl20 := (lT_ok hq1 hq2).1
  have e4 := isWhat_p hw
  obtain ⟨M1, a1, a2, a3⟩ := rgo_ok h hs hn (show t < 1000 by omega)
  have hI1 := rRI_r h a2
  have hp := lT_le hq1 hq2 ht
  have hpp : 0 < qs s ^ t := Nat.pow_pos hq1
  have hle := apG_le hg hap
  have ep := a3.2
  have z2l : (2 : Int64) = lN 2 := rfl
  have et := told_eq (i := i5) hI1 (show g < 2 ^ 63 by omega) (show 2 * qs s ^ t < 2 ^ 63 by omega) (by omega)
  refine ⟨(tld g (2 * qs s ^ t) i5, mwI M1 (R 0) 0 (nI 0)), ?_, rfl, ans_2 h a2⟩
  unfold f_X9_apart
  rcases hap with ⟨rfl, rfl, rfl⟩ | ⟨i, j, hi, hj, rfl, rfl, rfl⟩
  · have ew := rwidest_eq hI1 hs hn (by omega) a3
    simp (disch := first | assumption | omega | (refine inb_n ?_ ?_ <;> omega) | fail) only [ck_t, Option.bind_some, iLeP, iLeN, iLtP, iLtN, iEqP, iEqN, nI_1, pk_mul, nI_add, cl_n, zI0, zI1, zI8, bI_z, if_true_eq, if_false_eq, if_true, if_false, jn_X9_apart_15, e0, jn_X9_apart_48, e3, e4, a1, ew, ep, z2l, lN_mul, et]
  · have hn8 := hg.2.1
    have e1 := risState_p h hs hn hi
    have e2 := risState_p h hs hn hj
    have ew := between_eq hI1 hs hn (by omega) a3 hi hj
    simp (disch := first | assumption | omega | (refine inb_n ?_ ?_ <;> omega) | fail) only [ck_t, Option.bind_some, iLeP, iLeN, iLtP, iLtN, iEqP, iEqN, nI_1, pk_mul, nI_add, cl_n, zI0, zI1, zI8, bI_z, if_true_eq, if_false_eq, if_true, if_false, m1N, jn_X9_apart_14, jn_X9_apart_15, e0, e1, e2, jn_X9_apart_48, e3, e4, a1, ew, ep, z2l, lN_mul, et]
theorem rapart_n (h : rRI G M R tl tv ol ov ns qs cs) {i1 i2 i3 i4 i5 : Int32} (ho : ¬ ∃ s t g, apOK ns qs cs i1 i2 i3 i4 i5 s t g) : OK (f_X9_apart G M (R 0) i1 i2 i3 i4 i5) (fun r => rfd G M R tl tv ol ov ns qs cs r.2) := by
  have k0 : isK G (R 0) 9 := h.1.2.1 0 (by decide)
  have er := refuse_eq h
  refine ⟨(Int32.toInt64 (nI 0), mwI M (R 0) 0 (nI 1)), ?_, rfd_1 h⟩
  by_cases h1 : slo ns i1
  · obtain ⟨s, hs, rfl, hn⟩ := h1
    have e0 := rhas_p h hs hn
    by_cases h4 : (∃ t, t ≤ lT (qs s) ∧ i4 = nI t) ∧ wht i5
    · obtain ⟨⟨t, ht, rfl⟩, hw⟩ := h4
      have hno : ∀ g, ¬ apG (ns s) (cs s) t i2 i3 g := fun g z => ho ⟨s, t, g, hs, rfl, hn, ht, rfl, hw, z⟩
      have key : jn_X9_apart_14 G M (R 0) (nI s) i2 i3 (nI t) i5 = some (Int32.toInt64 (nI 0), mwI M (R 0) 0 (nI 1)) := by
        unfold jn_X9_apart_14 jn_X9_apart_15
        by_cases h2 : stt (ns s) i2
        · obtain ⟨i, hi, rfl⟩ := h2
          have e1 := risState_p h hs hn hi
          by_cases h3 : stt (ns s) i3
          · obtain ⟨j, hj, rfl⟩ := h3
            exact absurd (Or.inr ⟨i, j, hi, hj, rfl, rfl, rfl⟩) (hno _)
          · have e2 := risState_n (i1 := nI s) (i2 := i3) h (fun ⟨s', hs', hss, hn', z⟩ => h3 (by
              have : s = s' := (nI_eq (by omega) (by omega)).mp hss
              subst this
              exact z))
            simp (disch := first | assumption | omega | (refine inb_n ?_ ?_ <;> omega) | fail) only [ck_t, Option.bind_some, iLeP, iLeN, iLtP, iLtN, iEqP, iEqN, nI_1, pk_mul, nI_add, cl_n, zI0, zI1, zI8, bI_z, if_true_eq, if_false_eq, if_true, if_false, e0, e1, e2, er]
        · have e1 := risState_n (i1 := nI s) (i2 := i2) h (fun ⟨s', hs', hss, hn', z⟩ => h2 (by
            have : s = s' := (nI_eq (by omega) (by omega)).mp hss
            subst this
            exact z))
          simp (disch := first | assumption | omega | (refine inb_n ?_ ?_ <;> omega) | fail) only [ck_t, Option.bind_some, iLeP, iLeN, iLtP, iLtN, iEqP, iEqN, nI_1, pk_mul, nI_add, cl_n, zI0, zI1, zI8, bI_z, if_true_eq, if_false_eq, if_true, if_false, e0, e1, er]
      unfold f_X9_apart
      by_cases d2 : i2 = -1
      · by_cases d3 : i3 = -1
        · exact absurd (Or.inl ⟨d2, d3, rfl⟩) (hno _)
        · rw [if_pos d2, if_neg d3]
          exact key
      · rw [if_neg d2]
        exact key
    · have key : ∀ k, jn_X9_apart_15 G M (R 0) (nI s) i2 i3 i4 i5 k = some (Int32.toInt64 (nI 0), mwI M (R 0) 0 (nI 1)) := fun k => by
        have e48 := rap48 (i2 := i2) (i3 := i3) (k := k) h hs hn h4
        unfold jn_X9_apart_15
        rw [ck_t k0, e0, Option.bind_some, if_neg (by decide)]
        by_cases hk : k = 0
        · rw [if_pos hk]
          by_cases h2 : stt (ns s) i2
          · obtain ⟨i, hi, rfl⟩ := h2
            have e1 := risState_p h hs hn hi
            by_cases h3 : stt (ns s) i3
            · obtain ⟨j, hj, rfl⟩ := h3
              have e2 := risState_p h hs hn hj
              rw [e1, Option.bind_some, if_neg (by decide), e2, Option.bind_some, if_neg (by decide)]
              exact e48
            · have e2 := risState_n (i1 := nI s) (i2 := i3) h (fun ⟨s', hs', hss, hn', z⟩ => h3 (by
                have : s = s' := (nI_eq (by omega) (by omega)).mp hss
                subst this
                exact z))
              rw [e1, Option.bind_some, if_neg (by decide), e2, Option.bind_some, if_pos (by decide), er]
              rfl
          · have e1 := risState_n (i1 := nI s) (i2 := i2) h (fun ⟨s', hs', hss, hn', z⟩ => h2 (by
              have : s = s' := (nI_eq (by omega) (by omega)).mp hss
              subst this
              exact z))
            rw [e1, Option.bind_some, if_pos (by decide), er]
            rfl
        · rw [if_neg hk]
          exact e48
      unfold f_X9_apart jn_X9_apart_14
      split
      · split
        · exact key _
        · exact key _
      · exact key _
  · have e0 := rhas_n h h1
    have key : ∀ k, jn_X9_apart_15 G M (R 0) i1 i2 i3 i4 i5 k = some (Int32.toInt64 (nI 0), mwI M (R 0) 0 (nI 1)) := fun k => by
      unfold jn_X9_apart_15
      rw [ck_t k0, e0, Option.bind_some, if_pos (by decide), er]
      rfl
    unfold f_X9_apart jn_X9_apart_14
    split
    · split
      · exact key _
      · exact key _
    · exact key _
end
/-- what when asks of its numbers -/
def whOK (ns : Nat → Nat) (i1 i2 i3 : Int32) (s a b : Nat) : Prop := s < 6 ∧ i1 = nI s ∧ 0 < ns s ∧ i2 = nI a ∧ i3 = nI b ∧ a ≤ b ∧ 1 ≤ b ∧ b ≤ 1000
theorem nea_b {n q : Nat} {c : Nat → Nat → Nat} (hg : gch n q c) {t a b : Nat} (ht : t ≤ lT q) (hab : a ≤ b) (hb : b ≤ 1000) : wo_ (gp c n t) n * b < 2 ^ 63 ∧ 2 * q ^ t * a < 2 ^ 63 ∧ q ^ t < 2 ^ 61 := by
  have hp := lT_le hg.2.2.1 hg.2.2.2.1 ht
  have h1 : wo_ (gp c n t) n ≤ 2 * q ^ t := wo_le n (fun x y hx hy => gp_le hg hx (by omega) t)
  have h2 : wo_ (gp c n t) n * b ≤ 2000000000000000 * 1000 := Nat.mul_le_mul (by omega) hb
  have h3 : 2 * q ^ t * a ≤ 2000000000000000 * 1000 := Nat.mul_le_mul (by omega) (by omega)
  omega
section
variable {G : Gg} {M : Mm} {A p : Nat → Nat} {tl : Nat} {tv : Nat → Nat} {ol : Nat} {ov ns qs : Nat → Nat} {cs : Nat → Nat → Nat → Nat}
theorem near_ok {w wr ws a cl n q x y : Nat} {c : Nat → Nat → Nat} (hW : wkT G M w wr ws) (hC : chC G M a cl n c) (hg : gch n q c) (hq : M.1 a 1 = nI q) (hxy : x ≤ y) (hy : y ≤ 1000) : OK (f_X7_firstNear G M w a (nI x) (nI y)) (fun r => r.1 = whn n q c x y ∧ fr M r.2 [] [w, wr, ws]) := by
  have kw := hW.1
  have ka := hC.1
  have hn := hg.2.1
  have b8 := p2_31 hn
  have hp0 : 0 < 2 ^ n := Nat.pow_pos (by decide)
  obtain ⟨r, e0, t0, rfl, ht0⟩ := lastTime_ok ka hq hg.2.2.1 hg.2.2.2.1
  have : t0 = lT q := isLT_un hg.2.2.1 ht0 (lT_ok hg.2.2.1 hg.2.2.2.1)
  subst this
  have hl20 := ht0.1
  obtain ⟨M1, a1, a2, a3, a4⟩ := wbegin_ok hW
  have z2l : (2 : Int64) = lN 2 := rfl
  have e := lpI (fun f i5 (z : Mm) => lp_X7_firstNear_13 G w a (nI x) (nI y) (nI (lT q)) f i5 z) (fun t z => fr M z [] [w, wr, ws] ∧ wkS z w wr n q c (2 ^ n - 1) t ∧ ∀ k, k < t → nea n q c x y k = false) (lT q + 1) (fun r => (∃ t z, r = .inl (nI t, z) ∧ t < lT q + 1 ∧ fst1 (nea n q c x y) (lT q + 1) = t ∧ fr M z [] [w, wr, ws]) ∨ (∃ z, r = .inr z ∧ ¬ fst1 (nea n q c x y) (lT q + 1) < lT q + 1 ∧ fr M z [] [w, wr, ws])) (by omega) (fun f t z ht hz => by
    obtain ⟨e1, e2, e3⟩ := hz
    obtain ⟨b1, b2, b3⟩ := nea_b (t := t) hg (by omega) hxy hy
    have hCz := chC_fr hC e1 (by simp) (by simp)
    have ew := widest_eq (wkT_fr hW e1) hCz hg b3 e2 (fun i hi => by rw [low_t]; simp; omega)
    have ep := e2.2
    by_cases hc : wo_ (gp c n t) n * y ≤ 2 * q ^ t * x
    · right
      refine ⟨.inl (nI t, z), ?_, Or.inl ⟨t, z, rfl, ht, fst1_is ht (decide_eq_true hc) e3, e1⟩⟩
      rw [lp_X7_firstNear_13, bd_X7_firstNear_13]
      simp (disch := first | assumption | omega | (refine inb_n ?_ ?_ <;> omega) | fail) only [ck_t, Option.bind_some, iLeP, iLeN, iLtP, iLtN, iEqP, iEqN, nI_1, pk_mul, nI_add, cl_n, zI0, zI1, zI8, bI_z, if_true_eq, if_false_eq, if_true, if_false, lEqP, lEqN, lGtP, lGtN, lLeP, lLeN, lGeP, lGeN, lLtP, lLtN, lN_mul, lN_add, nI_l, pk_lDiv, pk_lRem, ckl, zL0, zL1, ew, ep, z2l]
    · left
      have es := allStates_eq (M := z) ka hCz.2.2.2.2.1 hn
      obtain ⟨v, g1, g2, g3⟩ := goOnce_ok (wkT_fr hW e1) hCz hg (by rw [e1.1 a (by simp)]; exact hq) (show 2 ^ n - 1 < 2 ^ n by omega) (by omega) e2
      refine ⟨v, ⟨fr_tr e1 g2, g3, fun k hk => ?_⟩, ?_⟩
      · by_cases hkt : k = t
        · subst hkt; exact decide_eq_false hc
        · exact e3 k (by omega)
      · rw [lp_X7_firstNear_13, bd_X7_firstNear_13]
        simp (disch := first | assumption | omega | (refine inb_n ?_ ?_ <;> omega) | fail) only [ck_t, Option.bind_some, iLeP, iLeN, iLtP, iLtN, iEqP, iEqN, nI_1, pk_mul, nI_add, cl_n, zI0, zI1, zI8, bI_z, if_true_eq, if_false_eq, if_true, if_false, lEqP, lEqN, lGtP, lGtN, lLeP, lLeN, lGeP, lGeN, lLtP, lLtN, lN_mul, lN_add, nI_l, pk_lDiv, pk_lRem, ckl, zL0, zL1, ew, ep, z2l, es, g1]) (fun f z hz => by
    obtain ⟨e1, e2, e3⟩ := hz
    refine ⟨.inr z, ?_, Or.inr ⟨z, rfl, fst1_no e3, e1⟩⟩
    rw [lp_X7_firstNear_13, bd_X7_firstNear_13]
    simp (disch := first | assumption | omega | (refine inb_n ?_ ?_ <;> omega) | fail) only [ck_t, Option.bind_some, iLeP, iLeN, iLtP, iLtN, iEqP, iEqN, nI_1, pk_mul, nI_add, cl_n, zI0, zI1, zI8, bI_z, if_true_eq, if_false_eq, if_true, if_false]) (j0 := 0) (x := M1) (by omega) ⟨fr_sub a2 (fun z hz => hz) (fun z hz => by simp at hz; rcases hz with rfl | rfl <;> simp), ⟨fun i j hi _ hj => a3 i j (by omega) (by omega), by rw [a4, Nat.pow_zero]⟩, fun k hk => absurd hk (by omega)⟩
  obtain ⟨r, g1, g2⟩ := e
  unfold f_X7_firstNear whn
  rw [ck_t ka, e0, Option.bind_some, ck_t kw, a1, Option.bind_some, zI0, g1, Option.bind_some]
  rcases g2 with ⟨t, z, rfl, g2, g3, g4⟩ | ⟨z, rfl, g2, g3⟩
  · refine ⟨(nI t, z), rfl, ?_, g4⟩
    rw [g3, if_pos g2]
  · refine ⟨(-1, z), rfl, ?_, g3⟩
    rw [if_neg g2]
theorem kwhen_p (h : kCI G M A p tl tv ol ov ns qs cs) {i1 i2 i3 : Int32} {s a b : Nat} (ho : whOK ns i1 i2 i3 s a b) : OK (f_X8_when G M (A 0) i1 i2 i3) (fun r => r.1 = whn (ns s) (qs s) (cs s) a b ∧ kCI G r.2 A p tl tv ol ov ns qs cs ∧ unt M r.2 A 53) := by
  obtain ⟨hs, rfl, hn, rfl, rfl, hab, hb1, hb2⟩ := ho
  obtain ⟨hg, hz, _⟩ := kCI_z h hs hn
  obtain ⟨⟨v, M1⟩, a1, a2, a3⟩ := near_ok (kCI_wk h) hz.1 hg hz.2.1 hab hb2
  dsimp only at a2 a3
  obtain ⟨hI1, u1⟩ := wk_fr h a3
  have k0 : isK G (A 0) 8 := h.1.2.1 0 (by decide)
  have k8 : isK G (A 8) 7 := h.1.2.1 8 (by decide)
  have e1 := chainIn_p h hs hn
  have r6 := h.2.1.1.2.2.2.2.2.1
  have z1000 : (1000 : Int32) = nI 1000 := rfl
  refine ⟨(v, M1), ?_, a2, hI1, u1⟩
  unfold f_X8_when
  simp (disch := first | assumption | omega | (refine inb_n ?_ ?_ <;> omega) | fail) only [ck_t, Option.bind_some, iLeP, iLeN, iLtP, iLtN, iEqP, iEqN, nI_1, pk_mul, nI_add, cl_n, zI0, zI1, zI8, bI_z, if_true_eq, if_false_eq, if_true, if_false, e1, onE, z1000, r6, a1]
theorem kwhen_n (h : kCI G M A p tl tv ol ov ns qs cs) {i1 i2 i3 : Int32} (ho : ¬ ∃ s a b, whOK ns i1 i2 i3 s a b) : f_X8_when G M (A 0) i1 i2 i3 = some (-1, M) := by
  have k0 : isK G (A 0) 8 := h.1.2.1 0 (by decide)
  have z1000 : (1000 : Int32) = nI 1000 := rfl
  unfold f_X8_when
  by_cases h1 : slo ns i1
  · obtain ⟨s, hs, rfl, hn⟩ := h1
    have e1 := chainIn_p h hs hn
    rw [ck_t k0, e1, Option.bind_some]
    simp only [onE]
    rcases int_c i2 with hneg | ⟨a, ha, rfl⟩
    · exact if_pos hneg
    · rw [if_neg (nI_pos ha)]
      rcases int_c i3 with hneg | ⟨b, hb, rfl⟩
      · exact if_pos (Int32.lt_of_lt_of_le hneg (nI_pos' ha))
      · by_cases hab : a ≤ b
        · rw [if_neg (nI_nlt hab hb)]
          by_cases hb1 : 1 ≤ b
          · have hb2 : ¬ b ≤ 1000 := fun z => ho ⟨s, a, b, hs, rfl, hn, rfl, rfl, hab, hb1, z⟩
            simp (disch := first | assumption | omega | (refine inb_n ?_ ?_ <;> omega) | fail) only [ck_t, Option.bind_some, iLeP, iLeN, iLtP, iLtN, iEqP, iEqN, nI_1, pk_mul, nI_add, cl_n, zI0, zI1, zI8, bI_z, if_true_eq, if_false_eq, if_true, if_false, z1000]
          · simp (disch := first | assumption | omega | (refine inb_n ?_ ?_ <;> omega) | fail) only [ck_t, Option.bind_some, iLeP, iLeN, iLtP, iLtN, iEqP, iEqN, nI_1, pk_mul, nI_add, cl_n, zI0, zI1, zI8, bI_z, if_true_eq, if_false_eq, if_true, if_false, z1000]
        · exact if_pos (nI_lt (by omega) ha)
  · have e1 := chainIn_n h h1
    rw [ck_t k0, e1, Option.bind_some]
    rfl
theorem kstay_p (h : kCI G M A p tl tv ol ov ns qs cs) {s i : Nat} {i3 : Int32} (hs : s < 6) (hn : 0 < ns s) (hi : i < ns s) (hw : wht i3) (h1 : oneC (cs s) (ns s)) : OK (f_X8_stay G M (A 0) (nI s) (nI i) i3) (fun r => r.1 = some (tld (cW (ns s) (qs s) (cs s) i) (sN (cW (ns s) (qs s) (cs s)) (ns s)) i3) ∧ kCI G r.2 A p tl tv ol ov ns qs cs ∧ unt M r.2 A 53) := by
  obtain ⟨hg, hz, hz2⟩ := kCI_z h hs hn
  have k0 : isK G (A 0) 8 := h.1.2.1 0 (by decide)
  have k17 : isK G (A 17) 1 := h.1.2.1 17 (by decide)
  have kc := hz.1.1
  have hn8 := hg.2.1
  have e1 := need_p h hs hn hw
  have e2 := isState_p kc hz.1.2.2.2.2.1 hn8 hi
  have hpos := cW_tot hg h1
  have htb := cW_tb hg
  have hlt := cW_lt hg i
  obtain ⟨M2, b1, b2, b3, b4⟩ := put_t h (show cW (ns s) (qs s) (cs s) i < 2 ^ 63 by omega) (show sN (cW (ns s) (qs s) (cs s)) (ns s) < 2 ^ 63 by omega) hpos
  have b4' := b4 i3
  obtain ⟨g5, ks, ls⟩ := hz.2.2.2.2.2.2.1
  have es := hz.2.2.2.2.2.2.2.2.2.1 i hi
  have r9 := h.2.1.1.2.2.2.2.2.2.2.2
  have r9'' := b2.2.1.1.2.2.2.2.2.2.2.2
  refine ⟨(some (tld (cW (ns s) (qs s) (cs s) i) (sN (cW (ns s) (qs s) (cs s)) (ns s)) i3), M2), ?_, rfl, b2, b3⟩
  unfold f_X8_stay
  simp (disch := first | assumption | omega | (refine inb_n ?_ ?_ <;> omega) | fail) only [ck_t, Option.bind_some, iLeP, iLeN, iLtP, iLtN, iEqP, iEqN, nI_1, pk_mul, nI_add, cl_n, zI0, zI1, zI8, bI_z, if_true_eq, if_false_eq, if_true, if_false, lEqP, lEqN, lGtP, lGtN, lLeP, lLeN, lGeP, lGeN, lLtP, lLtN, lN_mul, lN_add, nI_l, pk_lDiv, pk_lRem, ckl, zL0, zL1, e1, onE, e2, hz2, r9, g5, ls, es, b1, r9'', b4']
theorem kstay_n (h : kCI G M A p tl tv ol ov ns qs cs) {i1 i2 i3 : Int32} (ho : ¬ ∃ s i, s < 6 ∧ i1 = nI s ∧ 0 < ns s ∧ i < ns s ∧ i2 = nI i ∧ wht i3 ∧ oneC (cs s) (ns s)) : f_X8_stay G M (A 0) i1 i2 i3 = some (none, M) := by
  have k0 : isK G (A 0) 8 := h.1.2.1 0 (by decide)
  unfold f_X8_stay
  by_cases h1 : slo ns i1 ∧ wht i3
  · obtain ⟨⟨s, hs, rfl, hn⟩, hw⟩ := h1
    obtain ⟨hg, hz, hz2⟩ := kCI_z h hs hn
    have kc := hz.1.1
    have hn8 := hg.2.1
    have e1 := need_p h hs hn hw
    by_cases h2 : stt (ns s) i2
    · obtain ⟨i, hi, rfl⟩ := h2
      have e2 := isState_p kc hz.1.2.2.2.2.1 hn8 hi
      rw [cW_tn (fun z => ho ⟨s, i, hs, rfl, hn, hi, rfl, hw, z⟩)] at hz2
      simp (disch := first | assumption | omega | (refine inb_n ?_ ?_ <;> omega) | fail) only [ck_t, Option.bind_some, iLeP, iLeN, iLtP, iLtN, iEqP, iEqN, nI_1, pk_mul, nI_add, cl_n, zI0, zI1, zI8, bI_z, if_true_eq, if_false_eq, if_true, if_false, lEqP, lEqN, lGtP, lGtN, lLeP, lLeN, lGeP, lGeN, lLtP, lLtN, lN_mul, lN_add, nI_l, pk_lDiv, pk_lRem, ckl, zL0, zL1, e1, onE, e2, hz2]
    · have e2 := isState_n kc hz.1.2.2.2.2.1 hn8 h2
      simp (disch := first | assumption | omega | (refine inb_n ?_ ?_ <;> omega) | fail) only [ck_t, Option.bind_some, iLeP, iLeN, iLtP, iLtN, iEqP, iEqN, nI_1, pk_mul, nI_add, cl_n, zI0, zI1, zI8, bI_z, if_true_eq, if_false_eq, if_true, if_false, e1, onE, e2]
  · have e1 := need_n h h1
    simp (disch := first | assumption | omega | (refine inb_n ?_ ?_ <;> omega) | fail) only [ck_t, Option.bind_some, iLeP, iLeN, iLtP, iLtN, iEqP, iEqN, nI_1, pk_mul, nI_add, cl_n, zI0, zI1, zI8, bI_z, if_true_eq, if_false_eq, if_true, if_false, e1, onE]
end
