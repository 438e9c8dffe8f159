/-! a chain settled: Q at its least, who leads where, the shares -/
theorem mwJ_p {M : Mm} {a k : Nat} {x : Int64} : (mwJ M a k x).2.2 = M.2.2 := rfl
theorem mwJ_i {M : Mm} {a k : Nat} {x : Int64} : (mwJ M a k x).1 = M.1 := rfl
theorem mwI_p {M : Mm} {a k : Nat} {x : Int32} : (mwI M a k x).2.2 = M.2.2 := rfl
theorem mwI_j {M : Mm} {a k : Nat} {x : Int32} : (mwI M a k x).2.1 = M.2.1 := rfl
section
variable {G : Gg} {M : Mm} {a cl nx ld sh n q : Nat} {f : Nat → Nat → Nat}
theorem settle_n (h : dfC G M a cl n q f) (hq : 0 < q) (hq2 : q < 2 ^ 20) (hs : 60 < q / gcS q (fun k => f (k / 8) (k % 8)) 64) : f_X0_settle G M a = some ((0 : Int32), M) := by
  have e1 := settle_1 h hq hq2
  obtain ⟨h1, h2, h3, h4, h5, h6, h7, h8, h9⟩ := h
  have hD := Nat.pos_of_dvd_of_pos (gcS_d q (fun k => f (k / 8) (k % 8)) 64) hq
  have hD2 := gcS_le (g := fun k => f (k / 8) (k % 8)) hq 64
  have hqd : q / gcS q (fun k => f (k / 8) (k % 8)) 64 ≤ q := Nat.div_le_self _ _
  generalize gcS q (fun k => f (k / 8) (k % 8)) 64 = D at *
  have hz : (60 : Int32) = nI 60 := rfl
  unfold f_X0_settle
  simp (disch := first | assumption | omega | (refine inb_n ?_ ?_ <;> omega) | fail) only [ck_t, Option.bind_some, iLeP, iLeN, iLtP, iLtN, iEqP, iEqN, nI_1, pk_mul, nI_add, cl_n, zI0, zI1, zI8, bI_z, if_true_eq, if_false_eq, if_true, if_false, h7, e1, cki, pk_div, hz]
theorem settle_ok (hT : chT G M a cl nx ld sh) (h : dfC G M a cl n q f) (hq : 0 < q) (hq2 : q < 2 ^ 20) (hs : q / gcS q (fun k => f (k / 8) (k % 8)) 64 ≤ 60) : OK (f_X0_settle G M a) (fun r => r.1 = 1 ∧ dfC G r.2 a cl n (q / gcS q (fun k => f (k / 8) (k % 8)) 64) (fun i j => f i j / gcS q (fun k => f (k / 8) (k % 8)) 64) ∧ (∀ i, i < n → r.2.1 nx i = nI (cN (fun i j => f i j / gcS q (fun k => f (k / 8) (k % 8)) 64) n i)) ∧ (∀ i, i < n → r.2.1 ld i = nI (cL (fun i j => f i j / gcS q (fun k => f (k / 8) (k % 8)) 64) n i)) ∧ fr M r.2 [a, cl, nx, ld] []) := by
  have e1 := settle_1 h hq hq2
  obtain ⟨h1, h2, h3, h4, h5, h6, h7, h8, h9⟩ := id h
  have hD := Nat.pos_of_dvd_of_pos (gcS_d q (fun k => f (k / 8) (k % 8)) 64) hq
  have hD2 := gcS_le (g := fun k => f (k / 8) (k % 8)) hq 64
  generalize gcS q (fun k => f (k / 8) (k % 8)) 64 = D at *
  have hne : a ≠ cl := kne h1 h3 (by decide)
  have hd' : dfC G (mwI M a 1 (nI (q / D))) a cl n (q / D) f := ⟨h1, h2, h3, h4, by rw [mwI_n (by omega)]; exact h5, h6, mwI_s, fun i j hi hj => by rw [mwI_n (Or.inl (fun z => hne z.symm))]; exact h8 i j hi hj, h9⟩
  have w1 : fr M (mwI M a 1 (nI (q / D))) [a, cl, nx, ld] [] := fr_I (by simp)
  obtain ⟨y, a1, a2, a3⟩ := settle_2 hd' hD (by omega)
  have w2 : fr M y [a, cl, nx, ld] [] := fr_tr w1 (fr_sub a3 (fun z hz => by simp at hz; simp [hz]) (fun z hz => hz))
  obtain ⟨z, b1, b2, b3, b4⟩ := trace_ok (M := y) (chT_fr hT w2 (by simp)) (dfC_C a2)
  have t := hT
  obtain ⟨t1, t2, ⟨t3, t3k, t3l⟩, ⟨t4, t4k, t4l⟩, t5, t6, t7, t8, t9⟩ := t
  refine ⟨((1 : Int32), z), ?_, rfl, dfC_fr a2 b2 (ne_in2 (kne h1 t3k (by decide)) (kne h1 t4k (by decide))) (ne_in2 t6 t7), b3, b4, fr_tr w2 (fr_sub b2 (fun z hz => by simp at hz; rcases hz with rfl | rfl <;> simp) (fun z hz => hz))⟩
  have hz : (60 : Int32) = nI 60 := rfl
  unfold f_X0_settle
  simp (disch := first | assumption | omega | (refine inb_n ?_ ?_ <;> omega) | fail) only [ck_t, Option.bind_some, iLeP, iLeN, iLtP, iLtN, iEqP, iEqN, nI_1, pk_mul, nI_add, cl_n, zI0, zI1, zI8, bI_z, if_true_eq, if_false_eq, if_true, if_false, h7, e1, cki, pk_div, hz, a1, b1]
end
section
variable {G : Gg} {M : Mm} {mi mc mo a cl nx ld sh n q : Nat} {c : Nat → Nat → Nat} {w : Nat → Nat}
theorem fill_loop (hm : minT G M mi mc mo) (h : chS G M a cl nx ld sh n q c (cN c n) (cL c n) w) (hg : gch n q c) (n1 : sh ≠ mc) (n2 : sh ≠ mo) {b : Bool} (hb : b = true ↔ oneC c n) : OK (lp_X3_fillShares_27 G mi a (bI b) (nI (cS c n)) FU (nI 0) (mwJ M a 6 (lN 0))) (fun M' => fr M M' [mi] [mc, mo, sh, a] ∧ (∀ i, i < n → M'.2.1 sh i = lN (cW n q c i)) ∧ M'.2.1 a 6 = lN (sN (cW n q c) n) ∧ ∀ i, n ≤ i → M'.2.1 sh i = M.2.1 sh i) := by
  obtain ⟨hC, q1, q2, q3, g1, g2, ⟨s1, s2, s3⟩, hN, hL, hW, bN, bL, bW⟩ := h
  obtain ⟨m1, m2, m3, m4, m5, m6, m7, m8⟩ := id hm
  have hn := hC.2.2.2.2.2.1
  have h1 := hC.1
  have na : a ∉ [mi] := ne_in (kne hC.1 m1 (by decide))
  have nc : cl ∉ [mi] := ne_in (kne hC.2.2.1 m1 (by decide))
  have sa : sh ≠ a := kne s2 h1 (by decide)
  have ac : a ≠ mc := kne h1 m4 (by decide)
  have ao : a ≠ mo := kne h1 m5 (by decide)
  have b8 := p2_31 hn
  refine lpI (fun f1 i3 (x : Mm) => lp_X3_fillShares_27 G mi a (bI b) (nI (cS c n)) f1 i3 x) (fun j x => fr M x [mi] [mc, mo, sh, a] ∧ (∀ i, i < j → x.2.1 sh i = lN (cW n q c i)) ∧ x.2.1 a 6 = lN (sN (cW n q c) j) ∧ ∀ i, j ≤ i → x.2.1 sh i = M.2.1 sh i) n _ (by omega) (fun f1 j x hj hx => ?_) (fun f1 x hx => ?_) (by omega) ⟨fr_J (by simp), fun i hi => absurd hi (by omega), mwJ_s, fun i _ => by rw [mwJ_n (Or.inl sa)]⟩
  · obtain ⟨e1, e2, e3, e4⟩ := hx
    left
    have hC' := chC_fr hC e1 na nc
    have h5 := hC'.2.2.2.2.1
    have hr : x.2.2 a 5 = some sh := by rw [e1.2.2]; exact s1
    have k1 := cS_lt (c := c) (n := n)
    have eh := has_b (show cS c n < 2 ^ 31 by omega) (show j < 32 by omega)
    have w1 : fr M (mwJ x sh j (lN 0)) [mi] [mc, mo, sh, a] := fr_tr e1 (fr_J (by simp))
    have h0 : (0 : Int64) = lN 0 := rfl
    by_cases hs : b = true ∧ (cS c n).testBit j = true
    · obtain ⟨hb1, hb2⟩ := hs
      have h1c := hb.mp hb1
      rw [hb2] at eh
      subst hb1
      have hle := sdf_le (cS c n) (2 ^ j)
      obtain ⟨y, a1, a2, a3⟩ := load_ok (M := mwJ x sh j (lN 0)) (q := q) (S := sdf (cS c n) (2 ^ j)) (minT_fr hm w1) (chC_fr hC w1 na nc) (by rw [w1.1 a na]; exact q1) (by omega) (by omega)
      obtain ⟨⟨v, z⟩, b1, b2, b3, b4⟩ := det_ok a2
      dsimp only at b2 b3 b4
      have ev : v = lN (cW n q c j) := by
        rw [b2]
        have := (cW_1 hg h1c hj hb2).1
        unfold cD at this
        rw [← this]
        rfl
      subst ev
      have w2 : fr M y [mi] [mc, mo, sh, a] := fr_tr w1 (fr_sub a3 (fun z hz => hz) (fun z hz => by simp at hz; simp [hz]))
      have w3 : fr M z [mi] [mc, mo, sh, a] := fr_tr w2 (fr_sub b4 (fun z hz => by simp at hz) (fun z hz => by simp at hz; simp [hz]))
      have r1 : y.2.2 a 5 = some sh := by rw [w2.2.2]; exact s1
      have r2 : z.2.2 a 5 = some sh := by rw [w3.2.2]; exact s1
      have zs : z.2.1 sh = (mwJ x sh j (lN 0)).2.1 sh := by rw [b4.2.1 sh (ne_in n2), a3.2.1 sh (ne_in n1)]
      have za : z.2.1 a = x.2.1 a := by rw [b4.2.1 a (ne_in ao), a3.2.1 a (ne_in ac)]; exact va_up_ne _ _ (fun e => sa e.symm)
      have za6 : z.2.1 a 6 = lN (sN (cW n q c) j) := by rw [za]; exact e3
      have es := sh_1 (show j < 31 by omega)
      rw [zI1] at es
      refine ⟨mwJ (mwJ z sh j (lN (cW n q c j))) a 6 (lN (sN (cW n q c) (j + 1))), ⟨fr_tr (fr_tr w3 (fr_J (by simp))) (fr_J (by simp)), fun i hi => ?_, mwJ_s, fun i hi => ?_⟩, ?_⟩
      · rw [mwJ_n (Or.inl sa)]
        by_cases hij : i = j
        · subst hij; rw [mwJ_s]
        · rw [mwJ_n (Or.inr hij), zs, mwJ_n (Or.inr hij)]; exact e2 i (by omega)
      · rw [mwJ_n (Or.inl sa), mwJ_n (by omega), zs, mwJ_n (by omega)]; exact e4 i (by omega)
      · rw [lp_X3_fillShares_27, bd_X3_fillShares_27]
        have g6 : (mwJ z sh j (lN (cW n q c j))).2.1 a 6 = lN (sN (cW n q c) j) := by rw [mwJ_n (Or.inl (fun e => sa e.symm))]; exact za6
        have gj : (mwJ z sh j (lN (cW n q c j))).2.1 sh j = lN (cW n q c j) := mwJ_s
        simp (disch := first | assumption | omega | (refine inb_n ?_ ?_ <;> omega) | fail) only [ck_t, Option.bind_some, iLeP, iLeN, iLtP, iLtN, iEqP, iEqN, nI_1, pk_mul, nI_add, cl_n, zI0, zI1, zI8, bI_z, if_true_eq, if_false_eq, if_true, if_false, lEqP, lEqN, lGtP, lGtN, lLeP, lLeN, lGeP, lGeN, lLtP, lLtN, lN_mul, lN_add, nI_l, pk_lDiv, pk_lRem, ckl, zL0, zL1, mwJ_p, mwJ_i, mwI_p, mwI_j, h5, hr, s3, eh, es, nI_com', nI_sdf, a1, r1, b1, jn_X3_fillShares_81, r2, g6, gj]
        rfl
    · have hw0 : cW n q c j = 0 := by
        by_cases hb1 : b = true
        · exact cW_0 (by simpa [hb1] using hs)
        · exact cW_n (fun z => hb1 (hb.mpr z))
      have g6 : (mwJ x sh j (lN 0)).2.1 a 6 = lN (sN (cW n q c) j) := by rw [mwJ_n (Or.inl (fun e => sa e.symm))]; exact e3
      have gj : (mwJ x sh j (lN 0)).2.1 sh j = lN 0 := mwJ_s
      refine ⟨mwJ (mwJ x sh j (lN 0)) a 6 (lN (sN (cW n q c) (j + 1))), ⟨fr_tr w1 (fr_J (by simp)), fun i hi => ?_, mwJ_s, fun i hi => ?_⟩, ?_⟩
      · rw [mwJ_n (Or.inl sa)]
        by_cases hij : i = j
        · subst hij; rw [mwJ_s, hw0]
        · rw [mwJ_n (Or.inr hij)]; exact e2 i (by omega)
      · rw [mwJ_n (Or.inl sa), mwJ_n (by omega)]; exact e4 i (by omega)
      · rw [lp_X3_fillShares_27, bd_X3_fillShares_27]
        have hsn : sN (cW n q c) (j + 1) = sN (cW n q c) j + 0 := by rw [sN_succ, hw0]
        rw [hsn]
        by_cases hb1 : b = true
        · have hb2 : (cS c n).testBit j = false := by simpa [hb1] using hs
          rw [hb2] at eh
          subst hb1
          simp (disch := first | assumption | omega | (refine inb_n ?_ ?_ <;> omega) | fail) only [ck_t, Option.bind_some, iLeP, iLeN, iLtP, iLtN, iEqP, iEqN, nI_1, pk_mul, nI_add, cl_n, zI0, zI1, zI8, bI_z, if_true_eq, if_false_eq, if_true, if_false, lEqP, lEqN, lGtP, lGtN, lLeP, lLeN, lGeP, lGeN, lLtP, lLtN, lN_mul, lN_add, nI_l, pk_lDiv, pk_lRem, ckl, zL0, zL1, mwJ_p, mwJ_i, mwI_p, mwI_j, h5, hr, s3, eh, jn_X3_fillShares_81, g6, gj]
        · rw [Bool.not_eq_true] at hb1
          subst hb1
          simp (disch := first | assumption | omega | (refine inb_n ?_ ?_ <;> omega) | fail) only [ck_t, Option.bind_some, iLeP, iLeN, iLtP, iLtN, iEqP, iEqN, nI_1, pk_mul, nI_add, cl_n, zI0, zI1, zI8, bI_z, if_true_eq, if_false_eq, if_true, if_false, lEqP, lEqN, lGtP, lGtN, lLeP, lLeN, lGeP, lGeN, lLtP, lLtN, lN_mul, lN_add, nI_l, pk_lDiv, pk_lRem, ckl, zL0, zL1, mwJ_p, mwJ_i, mwI_p, mwI_j, h5, hr, s3, eh, jn_X3_fillShares_81, g6, gj]
  · obtain ⟨e1, e2, e3, e4⟩ := hx
    have hC' := chC_fr hC e1 na nc
    have h5 := hC'.2.2.2.2.1
    refine ⟨x, ?_, e1, e2, e3, e4⟩
    rw [lp_X3_fillShares_27, bd_X3_fillShares_27]
    simp (disch := first | assumption | omega | (refine inb_n ?_ ?_ <;> omega) | fail) only [ck_t, Option.bind_some, iLeP, iLeN, iLtP, iLtN, iEqP, iEqN, nI_1, pk_mul, nI_add, cl_n, zI0, zI1, zI8, bI_z, if_true_eq, if_false_eq, if_true, if_false, h5]
theorem fill_ok (hm : minT G M mi mc mo) (h : chS G M a cl nx ld sh n q c (cN c n) (cL c n) w) (hg : gch n q c) (n1 : sh ≠ mc) (n2 : sh ≠ mo) : OK (f_X3_fillShares G M mi a) (fun M' => fr M M' [mi] [mc, mo, sh, a] ∧ (∀ i, i < n → M'.2.1 sh i = lN (cW n q c i)) ∧ M'.2.1 a 6 = lN (sN (cW n q c) n) ∧ ∀ i, n ≤ i → M'.2.1 sh i = M.2.1 sh i) := by
  have ec := closedHeaps_eq h
  have es := closedStates_eq h
  have h1 := h.1.1
  have hn := h.1.2.2.2.2.2.1
  have hc := ct_le (fun i => lsB (cL c n) n i && clB (cL c n) n i) n
  by_cases ho : oneC c n
  · obtain ⟨M', e1, e2⟩ := fill_loop hm h hg n1 n2 (b := true) (by simp [ho])
    refine ⟨M', ?_, e2⟩
    unfold oneC at ho
    unfold f_X3_fillShares
    have e1' : lp_X3_fillShares_27 G mi a (nI 1) (nI (mkS (clB (cL c n) n) n)) FU (nI 0) (mwJ M a 6 (lN 0)) = some M' := e1
    simp (disch := first | assumption | omega | (refine inb_n ?_ ?_ <;> omega) | fail) only [ck_t, Option.bind_some, iLeP, iLeN, iLtP, iLtN, iEqP, iEqN, nI_1, pk_mul, nI_add, cl_n, zI0, zI1, zI8, bI_z, if_true_eq, if_false_eq, if_true, if_false, lEqP, lEqN, lGtP, lGtN, lLeP, lLeN, lGeP, lGeN, lLtP, lLtN, lN_mul, lN_add, nI_l, pk_lDiv, pk_lRem, ckl, zL0, zL1, mwJ_p, mwJ_i, mwI_p, mwI_j, ec, es, e1', ho]
  · obtain ⟨M', e1, e2⟩ := fill_loop hm h hg n1 n2 (b := false) (by simp [ho])
    refine ⟨M', ?_, e2⟩
    unfold oneC at ho
    unfold f_X3_fillShares
    have e1' : lp_X3_fillShares_27 G mi a (nI 0) (nI (mkS (clB (cL c n) n) n)) FU (nI 0) (mwJ M a 6 (lN 0)) = some M' := e1
    simp (disch := first | assumption | omega | (refine inb_n ?_ ?_ <;> omega) | fail) only [ck_t, Option.bind_some, iLeP, iLeN, iLtP, iLtN, iEqP, iEqN, nI_1, pk_mul, nI_add, cl_n, zI0, zI1, zI8, bI_z, if_true_eq, if_false_eq, if_true, if_false, lEqP, lEqN, lGtP, lGtN, lLeP, lLeN, lGeP, lGeN, lLtP, lLtN, lN_mul, lN_add, nI_l, pk_lDiv, pk_lRem, ckl, zL0, zL1, mwJ_p, mwJ_i, mwI_p, mwI_j, ec, es, e1']
end
