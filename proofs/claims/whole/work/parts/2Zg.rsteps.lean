/-! steps and ahead of the reference -/
theorem tE_mtx {n q I a b : Nat} {c : Nat → Nat → Nat} (ha : a < cnt I n) (hb : b < cnt I n) : tE q c (fun j => el I j n) (rmc (cnt I n) a) (rmc (cnt I n) b) = mtx q c n I a b := by
  have e1 : rmc (cnt I n) a = a := by unfold rmc; rw [if_pos ha]
  have e2 : rmc (cnt I n) b = b := by unfold rmc; rw [if_pos hb]
  rw [e1, e2]
  unfold tE mtx
  by_cases e : a = b
  · rw [if_pos e, if_pos (by rw [e])]
  · rw [if_neg e, if_neg (fun z => e (el_inj ha hb z))]
theorem rk_0 (m : Nat) : rk m m = m := by unfold rk; rw [if_pos (Nat.le_refl m)]
theorem mtx_lim {n q I a b : Nat} {c : Nat → Nat → Nat} (hg : gch n q c) : -(2 ^ 62) < mtx q c n I a b ∧ mtx q c n I a b < 2 ^ 62 := by
  have h1 := gch_le hg (el I a n) (el I b n)
  have h2 := hg.2.2.2.1
  unfold mtx
  split <;> omega
section
variable {G : Gg} {M : Mm} {R : Nat → Nat} {tl : Nat} {tv : Nat → Nat} {ol : Nat} {ov ns qs : Nat → Nat} {cs : Nat → Nat → Nat → Nat}
/-- listed, laid -/
theorem ll_ok (h : rRI G M R tl tv ol ov ns qs cs) {s I : Nat} (hs : s < 6) (hn : 0 < ns s) (hI : I < 2 ^ ns s) : ∃ M1 M2, f_X9_list G M (R 0) (nI I) = some (nI (cnt I (ns s)), M1) ∧ f_X9_lay G M1 (R 0) (nI s) (nI (cnt I (ns s))) (-nI 1) = some (nI (cnt I (ns s)), M2) ∧ rfr M M2 R ∧ (∀ k, k < cnt I (ns s) → M2.1 (R 11) k = nI (el I k (ns s))) ∧ ∀ a b, a < cnt I (ns s) → b < cnt I (ns s) → M2.2.1 (R 7) (8 * a + b) = Int64.ofInt (mtx (qs s) (cs s) (ns s) I a b) := by
  obtain ⟨hg, c1, c2, c3⟩ := slo_c h hs hn
  have hn8 := hg.2.1
  obtain ⟨⟨v, M1⟩, a1, a2, a3, a4⟩ := list_ok h.1 h.2.1 hn8 hI
  dsimp only at a2 a3 a4
  subst a2
  have w1 : rfr M M1 R := rfr_fr h.1 a3 (fun x hx => ⟨11, by omega, by simpa using hx⟩) (fun x hx => by simp at hx)
  have hcn := cnt_le I (ns s)
  obtain ⟨⟨v2, M2⟩, b1, b2, b3, b4⟩ := lay_ok (k := cnt I (ns s)) (o := fun j => el I j (ns s)) (i3 := -nI 1) (rRI_r h w1) hs hn (show cnt I (ns s) ≤ 8 by omega) (fun j hj => ⟨a4 j hj, (el_ok I j hj).1⟩) (fun j hj => ⟨fun e => absurd e (m1_ne (by omega)), fun e => by omega⟩)
  dsimp only at b2 b3 b4
  rw [rk_0] at b2 b4
  subst b2
  refine ⟨M1, M2, a1, b1, rfr_tr w1 (fr_w h.1 b3 (fun x hx => ⟨7, by decide, by simpa using hx⟩)), fun k hk => by rw [b3.1 _ (by simp)]; exact a4 k hk, fun a b ha hb => ?_⟩
  rw [b4 a b ha hb, tE_mtx ha hb]
/-- both determinants -/
theorem dd_ok (h : rRI G M R tl tv ol ov ns qs cs) {s I i : Nat} {b : Nat → Nat} (hs : s < 6) (hn : 0 < ns s) (hi : i < ns s) (hb : I.testBit i = true) (hl : lvT (cs s) (ns s) I) (h7 : cnt I (ns s) ≤ 7) (hbb : ∀ x, b x ≤ 60) (ht : ∀ a b, a < cnt I (ns s) → b < cnt I (ns s) → M.2.1 (R 7) (8 * a + b) = Int64.ofInt (mtx (qs s) (cs s) (ns s) I a b)) (hr : ∀ r, r < cnt I (ns s) → M.2.1 (R 8) r = lN (b (el I r (ns s)))) : ∃ M1 M2, f_X9_determinant G M (R 0) (nI (cnt I (ns s))) (-nI 1) = some (lN (den (ns s) (qs s) (cs s) I), M1) ∧ f_X9_determinant G M1 (R 0) (nI (cnt I (ns s))) (nI (cnt I i)) = some (lN (num (ns s) (qs s) (cs s) I i b), M2) ∧ rfr M M2 R := by
  obtain ⟨hg, c1, c2, c3⟩ := slo_c h hs hn
  have hci := cnt_lt I hi hb
  have hden := den_ok (I := I) hg hl
  have hnum := num_ok (b := b) hg hl hi hb
  have hdb := den_bd hg hl h7
  have hnb := num_bd hg hl h7 hi hb hbb
  obtain ⟨g1, d1⟩ := rd_eq (M := M) (cc := cnt I (ns s)) (i2 := -nI 1) (B := mtx (qs s) (cs s) (ns s) I) (refO_R h) (show cnt I (ns s) ≤ 8 by omega) (fun j hj => ⟨fun e => absurd e (m1_ne (by omega)), fun e => by omega⟩) (fun _ _ _ _ => mtx_lim hg) (fun a b ha hb _ => ht a b ha hb) (fun _ _ hc => absurd hc (by omega)) (by rw [← hden.1]; omega) (by rw [← hden.1]; omega)
  have w1 : rfr M (setJ M (R 9) g1) R := fr_w h.1 (fr_set (al := [R 9]) (by simp)) (fun x hx => ⟨9, by decide, by simpa using hx⟩)
  have n79 : R 7 ≠ R 9 := sR_ne h.1 (by decide) (by decide) (by decide)
  have n89 : R 8 ≠ R 9 := sR_ne h.1 (by decide) (by decide) (by decide)
  obtain ⟨g2, d2⟩ := rd_eq (M := setJ M (R 9) g1) (cc := cnt I i) (i2 := nI (cnt I i)) (B := eqA (ns s) (qs s) (cs s) I i b) (refO_R (rRI_r h w1)) (show cnt I (ns s) ≤ 8 by omega) (fun j hj => nI_eq (by omega) (by omega)) (fun a b' _ _ => by
    unfold eqA sco
    split
    · have := hbb (el I a (ns s))
      dsimp only
      omega
    · exact mtx_lim hg) (fun a b' ha hb' hne => by
    rw [setJ_o n79, ht a b' ha hb']
    unfold eqA
    rw [sco_n hne]) (fun a ha _ => by
    rw [setJ_o n89, hr a ha]
    unfold eqA
    rw [sco_c]
    rfl) (by rw [← hnum]; omega) (by rw [← hnum]; omega)
  rw [← hden.1] at d1
  rw [← hnum] at d2
  exact ⟨_, _, d1, d2, rfr_tr w1 (fr_w h.1 (fr_set (al := [R 9]) (by simp)) (fun x hx => ⟨9, by decide, by simpa using hx⟩))⟩
theorem rst_right (h : rRI G M R tl tv ol ov ns qs cs) {s I i : Nat} {i4 i7 : Int32} (hs : s < 6) (hn : 0 < ns s) (hi : i < ns s) (hb : I.testBit i = true) (ho : ∀ k, k < cnt I (ns s) → M.1 (R 11) k = nI (el I k (ns s))) : OK (lp_X9_steps_137 G (R 0) (nI s) (nI i) i4 (nI (cnt I (ns s))) i7 FU (nI 0) (nI 0) M) (fun r => r.1 = nI (cnt I i) ∧ fr M r.2 [] [R 8] ∧ ∀ k, k < cnt I (ns s) → r.2.2.1 (R 8) k = lN (qs s)) := by
  obtain ⟨hg, c1, c2, c3⟩ := slo_c h hs hn
  have hn8 := hg.2.1
  have hcn := cnt_le I (ns s)
  have q60 := hg.2.2.2.1
  have k0 : isK G (R 0) 9 := h.1.2.1 0 (by decide)
  have k3 : isK G (R 3) 10 := h.1.2.1 3 (by decide)
  have l3 : G.2.2 (R 3) = 7 := h.1.2.2 3 (by decide) (by decide)
  have k8 : isK G (R 8) 11 := h.1.2.1 8 (by decide)
  have l8 : G.2.2 (R 8) = 8 := h.1.2.2 8 (by decide) (by decide)
  have k11 : isK G (R 11) 10 := h.1.2.1 11 (by decide)
  have l11 : G.2.2 (R 11) = 8 := h.1.2.2 11 (by decide) (by decide)
  have hci := cnt_lt I hi hb
  refine lpI (fun f i9 (x : Int32 × Mm) => lp_X9_steps_137 G (R 0) (nI s) (nI i) i4 (nI (cnt I (ns s))) i7 f x.1 i9 x.2) (fun k x => x.1 = nI (if cnt I i < k then cnt I i else 0) ∧ fr M x.2 [] [R 8] ∧ ∀ r, r < k → x.2.2.1 (R 8) r = lN (qs s)) (cnt I (ns s)) _ (by omega) (fun f k x hk hx => ?_) (fun f x hx => ?_) (x := (nI 0, M)) (by omega) ⟨by rw [if_neg (by omega)], fr_rf, fun r hr => absurd hr (by omega)⟩
  · obtain ⟨x1, x2⟩ := x
    obtain ⟨e1, e2, e3⟩ := hx
    dsimp only at e1 e2 e3
    left
    obtain ⟨b1, b2, b3⟩ := el_ok I k hk
    have r10 : x2.2.2 (R 0) 10 = some (R 8) := by rw [e2.2.2]; exact h.2.1.2.2.2.2.2.2.2.1
    have r4 : x2.2.2 (R 0) 4 = some (R 3) := by rw [e2.2.2]; exact h.2.1.2.2.1
    have o1 : x2.1 (R 3) s = nI (qs s) := by rw [e2.1 _ (by simp)]; exact c2
    have r13 : (mwJ x2 (R 8) k (lN (qs s))).2.2 (R 0) 13 = some (R 11) := by rw [mwJ_p, e2.2.2]; exact h.2.1.2.2.2.2.2.2.2.2.2.2.1
    have o2 : (mwJ x2 (R 8) k (lN (qs s))).1 (R 11) k = nI (el I k (ns s)) := by rw [mwJ_i, e2.1 _ (by simp)]; exact ho k hk
    have wr : ∀ r, r < k + 1 → (mwJ x2 (R 8) k (lN (qs s))).2.1 (R 8) r = lN (qs s) := fun r hr => by
      by_cases hrk : r = k
      · subst hrk; rw [mwJ_s]
      · rw [mwJ_n (Or.inr hrk)]; exact e3 r (by omega)
    by_cases hc : el I k (ns s) = i
    · have hck : cnt I i = k := by rw [← hc]; exact b3
      refine ⟨(nI k, mwJ x2 (R 8) k (lN (qs s))), ⟨by rw [if_pos (by omega), hck], fr_tr e2 (fr_J in_1), wr⟩, ?_⟩
      dsimp only
      rw [lp_X9_steps_137, bd_X9_steps_137]
      simp (disch := first | assumption | omega | (refine inb_n ?_ ?_ <;> omega) | fail) only [ck_t, Option.bind_some, iLeP, iLeN, iLtP, iLtN, iEqP, iEqN, nI_1, pk_mul, nI_add, cl_n, zI0, zI1, zI8, bI_z, if_true_eq, if_false_eq, if_true, if_false, lEqP, lEqN, lGtP, lGtN, lLeP, lLeN, lGeP, lGeN, lLtP, lLtN, lN_mul, lN_add, nI_l, pk_lDiv, pk_lRem, ckl, zL0, zL1, r10, r4, l3, o1, l8, r13, l11, o2]
    · have hck : cnt I i ≠ k := fun e => hc (by rw [← e]; exact el_un hi hb)
      refine ⟨(x1, mwJ x2 (R 8) k (lN (qs s))), ⟨?_, fr_tr e2 (fr_J in_1), wr⟩, ?_⟩
      · dsimp only
        rw [e1]
        congr 1
        by_cases hlt : cnt I i < k
        · rw [if_pos hlt, if_pos (by omega)]
        · rw [if_neg hlt, if_neg (by omega)]
      · dsimp only
        rw [lp_X9_steps_137, bd_X9_steps_137]
        simp (disch := first | assumption | omega | (refine inb_n ?_ ?_ <;> omega) | fail) only [ck_t, Option.bind_some, iLeP, iLeN, iLtP, iLtN, iEqP, iEqN, nI_1, pk_mul, nI_add, cl_n, zI0, zI1, zI8, bI_z, if_true_eq, if_false_eq, if_true, if_false, lEqP, lEqN, lGtP, lGtN, lLeP, lLeN, lGeP, lGeN, lLtP, lLtN, lN_mul, lN_add, nI_l, pk_lDiv, pk_lRem, ckl, zL0, zL1, r10, r4, l3, o1, l8, r13, l11, o2]
  · obtain ⟨x1, x2⟩ := x
    obtain ⟨e1, e2, e3⟩ := hx
    dsimp only at e1 e2 e3
    rw [if_pos hci] at e1
    refine ⟨(x1, x2), ?_, e1, e2, e3⟩
    dsimp only
    rw [lp_X9_steps_137, bd_X9_steps_137]
    simp (disch := first | assumption | omega | (refine inb_n ?_ ?_ <;> omega) | fail) only [ck_t, Option.bind_some, iLeP, iLeN, iLtP, iLtN, iEqP, iEqN, nI_1, pk_mul, nI_add, cl_n, zI0, zI1, zI8, bI_z, if_true_eq, if_false_eq, if_true, if_false]
/-- all lead on: the reference's look -/
theorem rst_lead (h : rRI G M R tl tv ol ov ns qs cs) {s i S : Nat} {i2 i4 : Int32} (hs : s < 6) (hn : 0 < ns s) (he : reS M R (ns s) (cs s)) (hi : i < ns s) (hS : S < 2 ^ ns s) (hb : S.testBit i = false) : OK (lp_X9_steps_67 G M (R 0) (nI s) i2 (nI S) i4 (nI (stI (cs s) (ns s) i S)) FU (nI 0)) (fun r => (r = .inr () ∧ stL (cs s) (ns s) i S) ∨ (r = .inl (Int32.toInt64 (nI 0), mwI M (R 0) 0 (nI 1)) ∧ ¬ stL (cs s) (ns s) i S)) := by
  obtain ⟨hg, c1, c2, c3⟩ := slo_c h hs hn
  have hn8 := hg.2.1
  have b8 := p2_31 hn8
  have k0 : isK G (R 0) 9 := h.1.2.1 0 (by decide)
  have k2 : isK G (R 2) 10 := h.1.2.1 2 (by decide)
  have l2 : G.2.2 (R 2) = 7 := h.1.2.2 2 (by decide) (by decide)
  have k5 : isK G (R 5) 10 := h.1.2.1 5 (by decide)
  have l5 : G.2.2 (R 5) = 8 := h.1.2.2 5 (by decide) (by decide)
  have r3 := h.2.1.2.1
  have r6 := h.2.1.2.2.2.2.1
  have er := refuse_eq h
  have hcl := roS_cl (c := cs s) (S := S) hn8 hi
  have hIl : stI (cs s) (ns s) i S < 2 ^ ns s := hcl.1
  have same : ∀ j, j < ns s → (stI (cs s) (ns s) i S).testBit j = true → (rL (cs s) (ns s) j &&& S = 0 ↔ cL (cs s) (ns s) j &&& S = 0) := fun j hj hz => by
    have hjS := isCl_out hcl hb hj hz
    have key : rL (cs s) (ns s) j &&& S = cL (cs s) (ns s) j &&& S := by
      apply set_ext (n := ns s) (Nat.lt_of_le_of_lt Nat.and_le_right hS) (Nat.lt_of_le_of_lt Nat.and_le_right hS)
      intro k hk
      rw [Nat.testBit_and, Nat.testBit_and, rL_t hk, cL_t hk, lB_rl]
      by_cases e : j = k
      · subst e; rw [hjS, Bool.and_false, Bool.and_false]
      · simp [e]
    rw [key]
  refine lpI (fun f i6 (u : Unit) => lp_X9_steps_67 G M (R 0) (nI s) i2 (nI S) i4 (nI (stI (cs s) (ns s) i S)) f i6) (fun j _ => alB (fun j => !(stI (cs s) (ns s) i S).testBit j || decide (cL (cs s) (ns s) j &&& S ≠ 0)) j = true) (ns s) _ (by omega) (fun f j u hj hu => ?_) (fun f u hu => ?_) (j0 := 0) (x := ()) (by omega) rfl
  · have e5 := he.1 j hj
    have hrl := rL_lt (cs s) (ns s) j
    have hle : rL (cs s) (ns s) j &&& S ≤ S := Nat.and_le_right
    by_cases hz : (stI (cs s) (ns s) i S).testBit j = true
    · have hsm := same j hj hz
      by_cases h0 : rL (cs s) (ns s) j &&& S = 0
      · right
        refine ⟨.inl (Int32.toInt64 (nI 0), mwI M (R 0) 0 (nI 1)), ?_, Or.inr ⟨rfl, ?_⟩⟩
        · rw [lp_X9_steps_67, bd_X9_steps_67]
          simp (disch := first | assumption | omega | (refine inb_n ?_ ?_ <;> omega) | fail) only [ck_t, Option.bind_some, iLeP, iLeN, iLtP, iLtN, iEqP, iEqN, nI_1, pk_mul, nI_add, cl_n, zI0, zI1, zI8, bI_z, if_true_eq, if_false_eq, if_true, if_false, r3, l2, c1, bT1P, r6, l5, e5, nI_and, h0, er]
        · unfold stL
          rw [alB_t]
          intro hh
          have h3 := hh j hj
          rw [hz, hsm.mp h0] at h3
          simp at h3
      · left
        refine ⟨(), ?_, ?_⟩
        · show alB _ (j + 1) = true
          rw [alB_s, hu, hz]
          have : cL (cs s) (ns s) j &&& S ≠ 0 := fun z => h0 (hsm.mpr z)
          simp [this]
        · rw [lp_X9_steps_67, bd_X9_steps_67]
          simp (disch := first | assumption | omega | (refine inb_n ?_ ?_ <;> omega) | fail) only [ck_t, Option.bind_some, iLeP, iLeN, iLtP, iLtN, iEqP, iEqN, nI_1, pk_mul, nI_add, cl_n, zI0, zI1, zI8, bI_z, if_true_eq, if_false_eq, if_true, if_false, r3, l2, c1, bT1P, r6, l5, e5, nI_and]
    · left
      rw [Bool.not_eq_true] at hz
      refine ⟨(), ?_, ?_⟩
      · show alB _ (j + 1) = true
        rw [alB_s, hu, hz]
        rfl
      · rw [lp_X9_steps_67, bd_X9_steps_67]
        simp (disch := first | assumption | omega | (refine inb_n ?_ ?_ <;> omega) | fail) only [ck_t, Option.bind_some, iLeP, iLeN, iLtP, iLtN, iEqP, iEqN, nI_1, pk_mul, nI_add, cl_n, zI0, zI1, zI8, bI_z, if_true_eq, if_false_eq, if_true, if_false, r3, l2, c1, bT1N]
  · refine ⟨.inr (), ?_, Or.inl ⟨rfl, hu⟩⟩
    rw [lp_X9_steps_67, bd_X9_steps_67]
    simp (disch := first | assumption | omega | (refine inb_n ?_ ?_ <;> omega) | fail) only [ck_t, Option.bind_some, iLeP, iLeN, iLtP, iLtN, iEqP, iEqN, nI_1, pk_mul, nI_add, cl_n, zI0, zI1, zI8, bI_z, if_true_eq, if_false_eq, if_true, if_false, r3, l2, c1]
theorem rsteps_0 (h : rRI G M R tl tv ol ov ns qs cs) {i1 i2 i3 i4 : Int32} {s i S : Nat} (ho : spOK ns i1 i2 i3 i4 s i S) (hb : S.testBit i = true) : OK (f_X9_steps G M (R 0) i1 i2 i3 i4) (fun r => r.1 = tld 0 1 i4 ∧ ans G M R tl tv ol ov ns qs cs r.2) := by
  obtain ⟨hs, rfl, hn, hi, rfl, h0, hS, rfl, hw⟩ := ho
  obtain ⟨hg, c1, c2, c3⟩ := slo_c h hs hn
  have hn8 := hg.2.1
  have b8 := p2_31 hn8
  have k0 : isK G (R 0) 9 := h.1.2.1 0 (by decide)
  have e1 := risState_p h hs hn hi
  have e2 := risSet_p h hs hn h0 hS
  have e3 := isWhat_p hw
  have et := told_eq (u := 0) (l := 1) (i := i4) h (by decide) (by decide) (by decide)
  refine ⟨(tld 0 1 i4, mwI M (R 0) 0 (nI 0)), ?_, rfl, ans_2 h (rfr_rf M R)⟩
  unfold f_X9_steps
  simp (disch := first | assumption | omega | (refine inb_n ?_ ?_ <;> omega) | fail) only [ck_t, Option.bind_some, iLeP, iLeN, iLtP, iLtN, iEqP, iEqN, nI_1, pk_mul, nI_add, cl_n, zI0, zI1, zI8, bI_z, if_true_eq, if_false_eq, if_true, if_false, lEqP, lEqN, lGtP, lGtN, lLeP, lLeN, lGeP, lGeN, lLtP, lLtN, lN_mul, lN_add, nI_l, pk_lDiv, pk_lRem, ckl, zL0, zL1, e1, e2, e3, bT1P, et]
theorem rsteps_p (h : rRI G M R tl tv ol ov ns qs cs) {i1 i2 i3 i4 : Int32} {s i S : Nat} (ho : spOK ns i1 i2 i3 i4 s i S) (hb : S.testBit i = false) (hl : stL (cs s) (ns s) i S) : OK (f_X9_steps G M (R 0) i1 i2 i3 i4) (fun r => r.1 = tld (num (ns s) (qs s) (cs s) (stI (cs s) (ns s) i S) i (fun _ => qs s)) (den (ns s) (qs s) (cs s) (stI (cs s) (ns s) i S)) i4 ∧ ans G M R tl tv ol ov ns qs cs r.2) := by
  obtain ⟨hs, rfl, hn, hi, rfl, h0, hS, rfl, hw⟩ := ho
  obtain ⟨hg, c1, c2, c3⟩ := slo_c h hs hn
  have hn8 := hg.2.1
  have b8 := p2_31 hn8
  have k0 : isK G (R 0) 9 := h.1.2.1 0 (by decide)
  have e1 := risState_p h hs hn hi
  have e2 := risSet_p h hs hn h0 hS
  have e3 := isWhat_p hw
  obtain ⟨M1, a1, a2, a3⟩ := reach_ok h hs hn
  have hI1 := rRI_r h a2
  have e4 := roams_eq hI1 hs hn hS hi
  obtain ⟨r, e5, e6⟩ := rst_lead (i2 := nI i) (i4 := i4) hI1 hs hn a3 hi hS hb
  rcases e6 with ⟨rfl, _⟩ | ⟨_, e6⟩
  · have hcl := roS_cl (c := cs s) (S := S) hn8 hi
    have hIl : stI (cs s) (ns s) i S < 2 ^ ns s := hcl.1
    have hIi : (stI (cs s) (ns s) i S).testBit i = true := hcl.2.1
    have hlv := stI_lv hn8 hi hb hl
    have h7 := stI_7 (c := cs s) hn8 hi h0 hS hb
    generalize stI (cs s) (ns s) i S = I at *
    obtain ⟨M2, M3, b1, b2, b3, b4, b5⟩ := ll_ok hI1 hs hn hIl
    have hI3 := rRI_r hI1 b3
    obtain ⟨⟨v, M4⟩, d1, d2, d3, d4⟩ := rst_right (i4 := i4) (i7 := nI (cnt I (ns s))) hI3 hs hn hi hIi b4
    dsimp only at d2 d3 d4
    subst d2
    have w4 : rfr M3 M4 R := fr_w h.1 d3 (fun x hx => ⟨8, by decide, by simpa using hx⟩)
    have hI4 := rRI_r hI3 w4
    have n78 : R 7 ≠ R 8 := sR_ne h.1 (by decide) (by decide) (by decide)
    obtain ⟨M5, M6, f1, f2, f3⟩ := dd_ok (b := fun _ => qs s) hI4 hs hn hi hIi hlv h7 (fun _ => hg.2.2.2.1) (fun a b ha hb => by rw [d3.2.1 _ (ne_in n78)]; exact b5 a b ha hb) d4
    have hI6 := rRI_r hI4 f3
    have hden := den_ok (I := I) hg hlv
    have hdb := den_bd hg hlv h7
    have hnb := num_bd (b := fun _ => qs s) hg hlv h7 hi hIi (fun _ => hg.2.2.2.1)
    have et := told_eq (i := i4) hI6 (show num (ns s) (qs s) (cs s) I i (fun _ => qs s) < 2 ^ 63 by omega) (show den (ns s) (qs s) (cs s) I < 2 ^ 63 by omega) hden.2
    refine ⟨(tld (num (ns s) (qs s) (cs s) I i (fun _ => qs s)) (den (ns s) (qs s) (cs s) I) i4, mwI M6 (R 0) 0 (nI 0)), ?_, rfl, ans_2 h (rfr_tr a2 (rfr_tr b3 (rfr_tr w4 f3)))⟩
    unfold f_X9_steps
    simp (disch := first | assumption | omega | (refine inb_n ?_ ?_ <;> omega) | fail) only [ck_t, Option.bind_some, iLeP, iLeN, iLtP, iLtN, iEqP, iEqN, nI_1, pk_mul, nI_add, cl_n, zI0, zI1, zI8, bI_z, if_true_eq, if_false_eq, if_true, if_false, e1, e2, e3, bT1N, a1, e4, e5, onS, b1, b2, d1, f1, f2, et]
  · exact absurd hl e6
theorem rsteps_n (h : rRI G M R tl tv ol ov ns qs cs) {i1 i2 i3 i4 : Int32} (ho : ¬ ∃ s i S, spOK ns i1 i2 i3 i4 s i S ∧ (S.testBit i = true ∨ stL (cs s) (ns s) i S)) : OK (f_X9_steps G M (R 0) i1 i2 i3 i4) (fun r => rfd G M R tl tv ol ov ns qs cs r.2) := by
  have k0 : isK G (R 0) 9 := h.1.2.1 0 (by decide)
  have er := refuse_eq h
  by_cases h2 : ∃ s, s < 6 ∧ i1 = nI s ∧ 0 < ns s ∧ stt (ns s) i2
  · obtain ⟨s, hs, rfl, hn, i, hi, rfl⟩ := h2
    obtain ⟨hg, c1, c2, c3⟩ := slo_c h hs hn
    have hn8 := hg.2.1
    have b8 := p2_31 hn8
    have e1 := risState_p h hs hn hi
    by_cases h3 : ∃ S, 0 < S ∧ S < 2 ^ ns s ∧ i3 = nI S
    · obtain ⟨S, h0, hS, rfl⟩ := h3
      have e2 := risSet_p h hs hn h0 hS
      by_cases hw : wht i4
      · have e3 := isWhat_p hw
        have hb : S.testBit i = false := by
          apply Classical.byContradiction
          intro hz
          rw [Bool.not_eq_false] at hz
          exact ho ⟨s, i, S, ⟨hs, rfl, hn, hi, rfl, h0, hS, rfl, hw⟩, Or.inl hz⟩
        have hl : ¬ stL (cs s) (ns s) i S := fun z => ho ⟨s, i, S, ⟨hs, rfl, hn, hi, rfl, h0, hS, rfl, hw⟩, Or.inr z⟩
        obtain ⟨M1, a1, a2, a3⟩ := reach_ok h hs hn
        have hI1 := rRI_r h a2
        have e4 := roams_eq hI1 hs hn hS hi
        obtain ⟨r, e5, e6⟩ := rst_lead (i2 := nI i) (i4 := i4) hI1 hs hn a3 hi hS hb
        rcases e6 with ⟨_, e6⟩ | ⟨rfl, _⟩
        · exact absurd e6 hl
        · refine ⟨(Int32.toInt64 (nI 0), mwI M1 (R 0) 0 (nI 1)), ?_, rfd_2 h a2⟩
          unfold f_X9_steps
          simp (disch := first | assumption | omega | (refine inb_n ?_ ?_ <;> omega) | fail) only [ck_t, Option.bind_some, iLeP, iLeN, iLtP, iLtN, iEqP, iEqN, nI_1, pk_mul, nI_add, cl_n, zI0, zI1, zI8, bI_z, if_true_eq, if_false_eq, if_true, if_false, e1, e2, e3, bT1N, a1, e4, e5, onS]
      · have e3 := isWhat_n hw
        refine ⟨(Int32.toInt64 (nI 0), mwI M (R 0) 0 (nI 1)), ?_, rfd_1 h⟩
        unfold f_X9_steps
        simp (disch := first | assumption | omega | (refine inb_n ?_ ?_ <;> omega) | fail) only [ck_t, Option.bind_some, iLeP, iLeN, iLtP, iLtN, iEqP, iEqN, nI_1, pk_mul, nI_add, cl_n, zI0, zI1, zI8, bI_z, if_true_eq, if_false_eq, if_true, if_false, e1, e2, e3, er]
    · have e2 := risSet_n h hs hn h3
      refine ⟨(Int32.toInt64 (nI 0), mwI M (R 0) 0 (nI 1)), ?_, rfd_1 h⟩
      unfold f_X9_steps
      simp (disch := first | assumption | omega | (refine inb_n ?_ ?_ <;> omega) | fail) only [ck_t, Option.bind_some, iLeP, iLeN, iLtP, iLtN, iEqP, iEqN, nI_1, pk_mul, nI_add, cl_n, zI0, zI1, zI8, bI_z, if_true_eq, if_false_eq, if_true, if_false, e1, e2, er]
  · have e1 := risState_n h h2
    refine ⟨(Int32.toInt64 (nI 0), mwI M (R 0) 0 (nI 1)), ?_, rfd_1 h⟩
    unfold f_X9_steps
    simp (disch := first | assumption | omega | (refine inb_n ?_ ?_ <;> omega) | fail) only [ck_t, Option.bind_some, iLeP, iLeN, iLtP, iLtN, iEqP, iEqN, nI_1, pk_mul, nI_add, cl_n, zI0, zI1, zI8, bI_z, if_true_eq, if_false_eq, if_true, if_false, e1, er]
/-- the good ones: on the way, and leading into S -/
def gdS (c : Nat → Nat → Nat) (n i S T : Nat) : Nat := mkS (fun k => (stI c n i (S ||| T)).testBit k && (adI c n S T).testBit k) n
theorem gd_eq (h : rRI G M R tl tv ol ov ns qs cs) {s i S T : Nat} {i2 i5 : Int32} (hs : s < 6) (hn : 0 < ns s) (hi : i < ns s) (hS : S < 2 ^ ns s) (hT : T < 2 ^ ns s) (hb : (S ||| T).testBit i = false) : lp_X9_ahead_101 G M (R 0) (nI s) i2 (nI S) (nI T) i5 (nI (stI (cs s) (ns s) i (S ||| T))) FU (nI 0) (nI 0) = some (nI (gdS (cs s) (ns s) i S T)) := by
  obtain ⟨hg, c1, c2, c3⟩ := slo_c h hs hn
  have hn8 := hg.2.1
  have b8 := p2_31 hn8
  have k0 : isK G (R 0) 9 := h.1.2.1 0 (by decide)
  have k2 : isK G (R 2) 10 := h.1.2.1 2 (by decide)
  have l2 : G.2.2 (R 2) = 7 := h.1.2.2 2 (by decide) (by decide)
  have r3 := h.2.1.2.1
  have hST := or_bits hS hT
  have hcl := roS_cl (c := cs s) (S := S ||| T) hn8 hi
  have hIl : stI (cs s) (ns s) i (S ||| T) < 2 ^ ns s := hcl.1
  have hld := lrS_ld (c := cs s) (n := ns s) (A := S) (B := T) hn8
  refine lpF (fun f (x : Int32) i8 => lp_X9_ahead_101 G M (R 0) (nI s) i2 (nI S) (nI T) i5 (nI (stI (cs s) (ns s) i (S ||| T))) f x i8) (fun j => nI (mkS (fun k => (stI (cs s) (ns s) i (S ||| T)).testBit k && (adI (cs s) (ns s) S T).testBit k) j)) (ns s) _ (by omega) (fun f j hj => ?_) (fun f => ?_)
  · have es := sh_1 (show j < 31 by omega)
    rw [zI1] at es
    rw [lp_X9_ahead_101, bd_X9_ahead_101]
    rw [mkS_s]
    by_cases hz : (stI (cs s) (ns s) i (S ||| T)).testBit j = true
    · have hjo := isCl_out hcl hb hj hz
      have er := roams_eq h hs hn hST hj
      have hclj := roS_cl (c := cs s) (S := S ||| T) hn8 hj
      obtain ⟨r, ec, ec2⟩ := comes_ok h (Z := stI (cs s) (ns s) j (S ||| T)) (S := S) hs hn hclj.1 hS
      have hiff := co_iff hn8 hld hj hjo hclj
      rcases ec2 with ⟨rfl, ec2⟩ | ⟨rfl, ec2⟩
      · have hx : (adI (cs s) (ns s) S T).testBit j = true := hiff.mp ec2
        rw [hz, hx]
        simp (disch := first | assumption | omega | (refine inb_n ?_ ?_ <;> omega) | fail) only [ck_t, Option.bind_some, iLeP, iLeN, iLtP, iLtN, iEqP, iEqN, nI_1, pk_mul, nI_add, cl_n, zI0, zI1, zI8, bI_z, if_true_eq, if_false_eq, if_true, if_false, r3, l2, c1, bT1P, nI_or, er, ec, es]
        rfl
      · have hx : (adI (cs s) (ns s) S T).testBit j = false := by
          rw [← Bool.not_eq_true]
          exact fun z => ec2 (hiff.mpr z)
        rw [hz, hx]
        simp (disch := first | assumption | omega | (refine inb_n ?_ ?_ <;> omega) | fail) only [ck_t, Option.bind_some, iLeP, iLeN, iLtP, iLtN, iEqP, iEqN, nI_1, pk_mul, nI_add, cl_n, zI0, zI1, zI8, bI_z, if_true_eq, if_false_eq, if_true, if_false, r3, l2, c1, bT1P, nI_or, er, ec]
        simp
    · rw [Bool.not_eq_true] at hz
      rw [hz]
      simp (disch := first | assumption | omega | (refine inb_n ?_ ?_ <;> omega) | fail) only [ck_t, Option.bind_some, iLeP, iLeN, iLtP, iLtN, iEqP, iEqN, nI_1, pk_mul, nI_add, cl_n, zI0, zI1, zI8, bI_z, if_true_eq, if_false_eq, if_true, if_false, r3, l2, c1, bT1N]
      simp
  · rw [lp_X9_ahead_101, bd_X9_ahead_101]
    simp (disch := first | assumption | omega | (refine inb_n ?_ ?_ <;> omega) | fail) only [ck_t, Option.bind_some, iLeP, iLeN, iLtP, iLtN, iEqP, iEqN, nI_1, pk_mul, nI_add, cl_n, zI0, zI1, zI8, bI_z, if_true_eq, if_false_eq, if_true, if_false, r3, l2, c1]
    rfl
theorem rad_sum (h : rRI G M R tl tv ol ov ns qs cs) {s I S k : Nat} {i2 i5 i8 i9 i10 : Int32} (hs : s < 6) (hn : 0 < ns s) (hS : S < 2 ^ ns s) (hk : k < cnt I (ns s)) (ho : M.1 (R 11) k = nI (el I k (ns s))) (h0 : M.2.1 (R 8) k = lN 0) : OK (lp_X9_ahead_218 G (R 0) (nI s) i2 (nI S) i5 i8 i9 i10 (nI k) FU (nI 0) M) (fun M' => fr M M' [] [R 8] ∧ M'.2.1 (R 8) k = lN (sB S (cs s (el I k (ns s))) (ns s)) ∧ ∀ r, r ≠ k → M'.2.1 (R 8) r = M.2.1 (R 8) r) := by
  obtain ⟨hg, c1, c2, c3⟩ := slo_c h hs hn
  have hn8 := hg.2.1
  have b8 := p2_31 hn8
  have hcn := cnt_le I (ns s)
  have q60 := hg.2.2.2.1
  have k0 : isK G (R 0) 9 := h.1.2.1 0 (by decide)
  have k2 : isK G (R 2) 10 := h.1.2.1 2 (by decide)
  have l2 : G.2.2 (R 2) = 7 := h.1.2.2 2 (by decide) (by decide)
  have k8 : isK G (R 8) 11 := h.1.2.1 8 (by decide)
  have l8 : G.2.2 (R 8) = 8 := h.1.2.2 8 (by decide) (by decide)
  have k11 : isK G (R 11) 10 := h.1.2.1 11 (by decide)
  have l11 : G.2.2 (R 11) = 8 := h.1.2.2 11 (by decide) (by decide)
  have hek := (el_ok I k hk).1
  refine lpI (fun f i12 (x : Mm) => lp_X9_ahead_218 G (R 0) (nI s) i2 (nI S) i5 i8 i9 i10 (nI k) f i12 x) (fun j x => fr M x [] [R 8] ∧ x.2.1 (R 8) k = lN (sB S (cs s (el I k (ns s))) j) ∧ ∀ r, r ≠ k → x.2.1 (R 8) r = M.2.1 (R 8) r) (ns s) _ (by omega) (fun f j x hj hx => ?_) (fun f x hx => ?_) (by omega) ⟨fr_rf, h0, fun _ _ => rfl⟩
  · obtain ⟨e1, e2, e3⟩ := hx
    left
    have hx' := rRI_r h (fr_w h.1 e1 (fun x hx => ⟨8, by decide, by simpa using hx⟩))
    have c1' := (slo_c hx' hs hn).2.1
    have r3 := hx'.2.1.2.1
    have r10 := hx'.2.1.2.2.2.2.2.2.2.1
    have r13 := hx'.2.1.2.2.2.2.2.2.2.2.2.2.1
    have o1 : x.1 (R 11) k = nI (el I k (ns s)) := by rw [e1.1 _ (by simp)]; exact ho
    have ea := rat_c hx' hs hn hek hj
    have hle := gch_le hg (el I k (ns s)) j
    by_cases hb : S.testBit j = true
    · refine ⟨mwJ x (R 8) k (lN (sB S (cs s (el I k (ns s))) (j + 1))), ⟨fr_tr e1 (fr_J in_1), mwJ_s, fun r hr => by rw [mwJ_n (Or.inr hr)]; exact e3 r hr⟩, ?_⟩
      rw [sB_s, hb]
      rw [lp_X9_ahead_218, bd_X9_ahead_218]
      simp (disch := first | assumption | omega | (refine inb_n ?_ ?_ <;> omega) | fail) only [ck_t, Option.bind_some, iLeP, iLeN, iLtP, iLtN, iEqP, iEqN, nI_1, pk_mul, nI_add, cl_n, zI0, zI1, zI8, bI_z, if_true_eq, if_false_eq, if_true, if_false, lEqP, lEqN, lGtP, lGtN, lLeP, lLeN, lGeP, lGeN, lLtP, lLtN, lN_mul, lN_add, nI_l, pk_lDiv, pk_lRem, ckl, zL0, zL1, r3, l2, c1', bT1P, r10, l8, r13, l11, o1, ea, e2]
    · rw [Bool.not_eq_true] at hb
      refine ⟨x, ⟨e1, by rw [sB_s, hb, e2]; rfl, e3⟩, ?_⟩
      rw [lp_X9_ahead_218, bd_X9_ahead_218]
      simp (disch := first | assumption | omega | (refine inb_n ?_ ?_ <;> omega) | fail) only [ck_t, Option.bind_some, iLeP, iLeN, iLtP, iLtN, iEqP, iEqN, nI_1, pk_mul, nI_add, cl_n, zI0, zI1, zI8, bI_z, if_true_eq, if_false_eq, if_true, if_false, r3, l2, c1', bT1N]
  · obtain ⟨e1, e2, e3⟩ := hx
    have hx' := rRI_r h (fr_w h.1 e1 (fun x hx => ⟨8, by decide, by simpa using hx⟩))
    have c1' := (slo_c hx' hs hn).2.1
    have r3 := hx'.2.1.2.1
    refine ⟨x, ?_, e1, e2, e3⟩
    rw [lp_X9_ahead_218, bd_X9_ahead_218]
    simp (disch := first | assumption | omega | (refine inb_n ?_ ?_ <;> omega) | fail) only [ck_t, Option.bind_some, iLeP, iLeN, iLtP, iLtN, iEqP, iEqN, nI_1, pk_mul, nI_add, cl_n, zI0, zI1, zI8, bI_z, if_true_eq, if_false_eq, if_true, if_false, r3, l2, c1']
theorem rad_right (h : rRI G M R tl tv ol ov ns qs cs) {s I S i : Nat} {i5 i9 : Int32} (hs : s < 6) (hn : 0 < ns s) (hS : S < 2 ^ ns s) (hi : i < ns s) (hb : I.testBit i = true) (ho : ∀ k, k < cnt I (ns s) → M.1 (R 11) k = nI (el I k (ns s))) : OK (lp_X9_ahead_200 G (R 0) (nI s) (nI i) (nI S) i5 (nI (cnt I (ns s))) i9 FU (nI 0) (nI 0) M) (fun r => r.1 = nI (cnt I i) ∧ fr M r.2 [] [R 8] ∧ ∀ k, k < cnt I (ns s) → r.2.2.1 (R 8) k = lN (sB S (cs s (el I k (ns s))) (ns s))) := by
  obtain ⟨hg, c1, c2, c3⟩ := slo_c h hs hn
  have hn8 := hg.2.1
  have hcn := cnt_le I (ns s)
  have k0 : isK G (R 0) 9 := h.1.2.1 0 (by decide)
  have k8 : isK G (R 8) 11 := h.1.2.1 8 (by decide)
  have l8 : G.2.2 (R 8) = 8 := h.1.2.2 8 (by decide) (by decide)
  have k11 : isK G (R 11) 10 := h.1.2.1 11 (by decide)
  have l11 : G.2.2 (R 11) = 8 := h.1.2.2 11 (by decide) (by decide)
  have hci := cnt_lt I hi hb
  refine lpI (fun f i11 (x : Int32 × Mm) => lp_X9_ahead_200 G (R 0) (nI s) (nI i) (nI S) i5 (nI (cnt I (ns s))) i9 f x.1 i11 x.2) (fun k x => x.1 = nI (if cnt I i < k then cnt I i else 0) ∧ fr M x.2 [] [R 8] ∧ ∀ r, r < k → x.2.2.1 (R 8) r = lN (sB S (cs s (el I r (ns s))) (ns s))) (cnt I (ns s)) _ (by omega) (fun f k x hk hx => ?_) (fun f x hx => ?_) (x := (nI 0, M)) (by omega) ⟨by rw [if_neg (by omega)], fr_rf, fun r hr => absurd hr (by omega)⟩
  · obtain ⟨x1, x2⟩ := x
    obtain ⟨e1, e2, e3⟩ := hx
    dsimp only at e1 e2 e3
    left
    obtain ⟨b1, b2, b3⟩ := el_ok I k hk
    have w2 : fr M (mwJ x2 (R 8) k (lN 0)) [] [R 8] := fr_tr e2 (fr_J in_1)
    have hx' := rRI_r h (fr_w h.1 w2 (fun x hx => ⟨8, by decide, by simpa using hx⟩))
    obtain ⟨y, a1, a2, a3, a4⟩ := rad_sum (I := I) (k := k) (i2 := nI i) (i5 := i5) (i8 := nI (cnt I (ns s))) (i9 := i9) (i10 := x1) hx' hs hn hS hk (by rw [w2.1 _ (by simp)]; exact ho k hk) mwJ_s
    have r10 : x2.2.2 (R 0) 10 = some (R 8) := by rw [e2.2.2]; exact h.2.1.2.2.2.2.2.2.2.1
    have wy := fr_tr w2 a2
    have r13 : y.2.2 (R 0) 13 = some (R 11) := by rw [wy.2.2]; exact h.2.1.2.2.2.2.2.2.2.2.2.2.1
    have o2 : y.1 (R 11) k = nI (el I k (ns s)) := by rw [wy.1 _ (by simp)]; exact ho k hk
    have wr : ∀ r, r < k + 1 → y.2.1 (R 8) r = lN (sB S (cs s (el I r (ns s))) (ns s)) := fun r hr => by
      by_cases hrk : r = k
      · subst hrk; exact a3
      · rw [a4 r hrk, mwJ_n (Or.inr hrk)]; exact e3 r (by omega)
    by_cases hc : el I k (ns s) = i
    · have hck : cnt I i = k := by rw [← hc]; exact b3
      refine ⟨(nI k, y), ⟨by rw [if_pos (by omega), hck], wy, wr⟩, ?_⟩
      dsimp only
      rw [lp_X9_ahead_200, bd_X9_ahead_200]
      simp (disch := first | assumption | omega | (refine inb_n ?_ ?_ <;> omega) | fail) only [ck_t, Option.bind_some, iLeP, iLeN, iLtP, iLtN, iEqP, iEqN, nI_1, pk_mul, nI_add, cl_n, zI0, zI1, zI8, bI_z, if_true_eq, if_false_eq, if_true, if_false, lEqP, lEqN, lGtP, lGtN, lLeP, lLeN, lGeP, lGeN, lLtP, lLtN, lN_mul, lN_add, nI_l, pk_lDiv, pk_lRem, ckl, zL0, zL1, r10, l8, a1, r13, l11, o2]
    · have hck : cnt I i ≠ k := fun e => hc (by rw [← e]; exact el_un hi hb)
      refine ⟨(x1, y), ⟨?_, wy, wr⟩, ?_⟩
      · dsimp only
        rw [e1]
        congr 1
        by_cases hlt : cnt I i < k
        · rw [if_pos hlt, if_pos (by omega)]
        · rw [if_neg hlt, if_neg (by omega)]
      · dsimp only
        rw [lp_X9_ahead_200, bd_X9_ahead_200]
        simp (disch := first | assumption | omega | (refine inb_n ?_ ?_ <;> omega) | fail) only [ck_t, Option.bind_some, iLeP, iLeN, iLtP, iLtN, iEqP, iEqN, nI_1, pk_mul, nI_add, cl_n, zI0, zI1, zI8, bI_z, if_true_eq, if_false_eq, if_true, if_false, lEqP, lEqN, lGtP, lGtN, lLeP, lLeN, lGeP, lGeN, lLtP, lLtN, lN_mul, lN_add, nI_l, pk_lDiv, pk_lRem, ckl, zL0, zL1, r10, l8, a1, r13, l11, o2]
  · obtain ⟨x1, x2⟩ := x
    obtain ⟨e1, e2, e3⟩ := hx
    dsimp only at e1 e2 e3
    rw [if_pos hci] at e1
    refine ⟨(x1, x2), ?_, e1, e2, e3⟩
    dsimp only
    rw [lp_X9_ahead_200, bd_X9_ahead_200]
    simp (disch := first | assumption | omega | (refine inb_n ?_ ?_ <;> omega) | fail) only [ck_t, Option.bind_some, iLeP, iLeN, iLtP, iLtN, iEqP, iEqN, nI_1, pk_mul, nI_add, cl_n, zI0, zI1, zI8, bI_z, if_true_eq, if_false_eq, if_true, if_false]
theorem rahead_p (h : rRI G M R tl tv ol ov ns qs cs) {i1 i2 i3 i4 i5 : Int32} {s i S T : Nat} (ho : adOK ns i1 i2 i3 i4 i5 s i S T) : OK (f_X9_ahead G M (R 0) i1 i2 i3 i4 i5) (fun r => r.1 = (if (adI (cs s) (ns s) S T).testBit i then tld (num (ns s) (qs s) (cs s) (adI (cs s) (ns s) S T) i (fun x => sB S (cs s x) (ns s))) (den (ns s) (qs s) (cs s) (adI (cs s) (ns s) S T)) i5 else tld (if S.testBit i then 1 else 0) 1 i5) ∧ ans G M R tl tv ol ov ns qs cs r.2) := by
  obtain ⟨hs, rfl, hn, hi, rfl, h0, hS, rfl, h0', hT, rfl, hst, hw⟩ := ho
  obtain ⟨hg, c1, c2, c3⟩ := slo_c h hs hn
  have hn8 := hg.2.1
  have b8 := p2_31 hn8
  have hST := or_bits hS hT
  have k0 : isK G (R 0) 9 := h.1.2.1 0 (by decide)
  have e1 := risState_p h hs hn hi
  have e2 := risSet_p h hs hn h0 hS
  have e3 := risSet_p h hs hn h0' hT
  have e4 := isWhat_p hw
  have hld := lrS_ld (c := cs s) (n := ns s) (A := S) (B := T) hn8
  have hXl : adI (cs s) (ns s) S T < 2 ^ ns s := hld.1
  by_cases hb : (S ||| T).testBit i = true
  · have hXi : (adI (cs s) (ns s) S T).testBit i = false := by
      rw [← Bool.not_eq_true]
      intro hz
      rw [ld_out hld hi hz] at hb
      cases hb
    by_cases hSi : S.testBit i = true
    · have et := told_eq (u := 1) (l := 1) (i := i5) h (by decide) (by decide) (by decide)
      refine ⟨(tld 1 1 i5, mwI M (R 0) 0 (nI 0)), ?_, by rw [hXi, hSi]; rfl, ans_2 h (rfr_rf M R)⟩
      unfold f_X9_ahead
      simp (disch := first | assumption | omega | (refine inb_n ?_ ?_ <;> omega) | fail) only [ck_t, Option.bind_some, iLeP, iLeN, iLtP, iLtN, iEqP, iEqN, nI_1, pk_mul, nI_add, cl_n, zI0, zI1, zI8, bI_z, if_true_eq, if_false_eq, if_true, if_false, lEqP, lEqN, lGtP, lGtN, lLeP, lLeN, lGeP, lGeN, lLtP, lLtN, lN_mul, lN_add, nI_l, pk_lDiv, pk_lRem, ckl, zL0, zL1, e1, e2, e3, nI_and, hst, e4, nI_or, bT1P, et]
    · rw [Bool.not_eq_true] at hSi
      have et := told_eq (u := 0) (l := 1) (i := i5) h (by decide) (by decide) (by decide)
      refine ⟨(tld 0 1 i5, mwI M (R 0) 0 (nI 0)), ?_, by rw [hXi, hSi]; rfl, ans_2 h (rfr_rf M R)⟩
      unfold f_X9_ahead
      simp (disch := first | assumption | omega | (refine inb_n ?_ ?_ <;> omega) | fail) only [ck_t, Option.bind_some, iLeP, iLeN, iLtP, iLtN, iEqP, iEqN, nI_1, pk_mul, nI_add, cl_n, zI0, zI1, zI8, bI_z, if_true_eq, if_false_eq, if_true, if_false, lEqP, lEqN, lGtP, lGtN, lLeP, lLeN, lGeP, lGeN, lLtP, lLtN, lN_mul, lN_add, nI_l, pk_lDiv, pk_lRem, ckl, zL0, zL1, e1, e2, e3, nI_and, hst, e4, nI_or, bT1P, bT1N, et]
  · rw [Bool.not_eq_true] at hb
    have hSi : S.testBit i = false := by
      rw [Nat.testBit_or] at hb
      cases hh : S.testBit i
      · rfl
      · rw [hh] at hb; cases hb
    have e5 := roams_eq h hs hn hST hi
    have e6 := gd_eq (i2 := nI i) (i5 := i5) h hs hn hi hS hT hb
    have hcl := roS_cl (c := cs s) (S := S ||| T) hn8 hi
    have hGl : gdS (cs s) (ns s) i S T < 2 ^ ns s := mkS_lt _ _
    have hGt : ∀ x, x < ns s → (gdS (cs s) (ns s) i S T).testBit x = ((stI (cs s) (ns s) i (S ||| T)).testBit x && (adI (cs s) (ns s) S T).testBit x) := fun x hx => by
      unfold gdS
      rw [mkS_t, decide_eq_true hx, Bool.true_and]
    have hGi : (gdS (cs s) (ns s) i S T).testBit i = (adI (cs s) (ns s) S T).testBit i := by
      rw [hGt i hi, show (stI (cs s) (ns s) i (S ||| T)).testBit i = true from hcl.2.1, Bool.true_and]
    by_cases hX : (adI (cs s) (ns s) S T).testBit i = true
    · have hGi' := hGi
      rw [hX] at hGi'
      have hsub : ∀ x, x < ns s → (gdS (cs s) (ns s) i S T).testBit x = true → (adI (cs s) (ns s) S T).testBit x = true := fun x hx hz => by
        rw [hGt x hx, Bool.and_eq_true] at hz
        exact hz.2
      have hclG : ∀ x z, x < ns s → z < ns s → (gdS (cs s) (ns s) i S T).testBit x = true → (adI (cs s) (ns s) S T).testBit z = true → 0 < cs s x z → (gdS (cs s) (ns s) i S T).testBit z = true := fun x z hx hz hGx hXz hc => by
        rw [hGt x hx, Bool.and_eq_true] at hGx
        rw [hGt z hz, hXz, Bool.and_true]
        exact hcl.2.2.1 x z hx hz hGx.1 hc (ld_out hld hz hXz)
      have hlvX := ld_lv hld
      have hlvG : lvT (cs s) (ns s) (gdS (cs s) (ns s) i S T) := sub_lv hlvX hsub
      have h7X : cnt (adI (cs s) (ns s) S T) (ns s) ≤ 7 := adI_7 hn8 h0 hS
      have h7 : cnt (gdS (cs s) (ns s) i S T) (ns s) ≤ 7 := Nat.le_trans (cnt_sb hsub) h7X
      have hfr := frac_eq (q := qs s) (b := fun x => sB S (cs s x) (ns s)) hi hGi' hsub hclG
      have hdX := den_ok (I := adI (cs s) (ns s) S T) hg hlvX
      have hdG := den_ok (I := gdS (cs s) (ns s) i S T) hg hlvG
      have hnX := num_ok (I := adI (cs s) (ns s) S T) (b := fun x => sB S (cs s x) (ns s)) hg hlvX hi hX
      have hnG := num_ok (I := gdS (cs s) (ns s) i S T) (b := fun x => sB S (cs s x) (ns s)) hg hlvG hi hGi'
      rw [← hdX.1, ← hdG.1, ← hnX, ← hnG] at hfr
      have hfr' : num (ns s) (qs s) (cs s) (adI (cs s) (ns s) S T) i (fun x => sB S (cs s x) (ns s)) * den (ns s) (qs s) (cs s) (gdS (cs s) (ns s) i S T) = num (ns s) (qs s) (cs s) (gdS (cs s) (ns s) i S T) i (fun x => sB S (cs s x) (ns s)) * den (ns s) (qs s) (cs s) (adI (cs s) (ns s) S T) := by exact_mod_cast hfr
      have htx := tld_x hdX.2 hdG.2 hfr' i5
      have hdb := den_bd hg hlvG h7
      have hnb := num_bd (b := fun x => sB S (cs s x) (ns s)) hg hlvG h7 hi hGi' (fun x => sB_60 hg S x)
      rw [hX, if_pos rfl, htx]
      clear htx hfr hfr' hnX hnG hdX h7X hGi hGt hclG hsub
      generalize gdS (cs s) (ns s) i S T = I at *
      obtain ⟨M2, M3, b1, b2, b3, b4, b5⟩ := ll_ok h hs hn hGl
      have hI3 := rRI_r h b3
      obtain ⟨⟨v, M4⟩, d1, d2, d3, d4⟩ := rad_right (i5 := i5) (i9 := nI (cnt I (ns s))) hI3 hs hn hS hi hGi' b4
      dsimp only at d2 d3 d4
      subst d2
      have w4 : rfr M3 M4 R := fr_w h.1 d3 (fun x hx => ⟨8, by decide, by simpa using hx⟩)
      have hI4 := rRI_r hI3 w4
      have n78 : R 7 ≠ R 8 := sR_ne h.1 (by decide) (by decide) (by decide)
      obtain ⟨M5, M6, f1, f2, f3⟩ := dd_ok (b := fun x => sB S (cs s x) (ns s)) hI4 hs hn hi hGi' hlvG h7 (fun x => sB_60 hg S x) (fun a b ha hb => by rw [d3.2.1 _ (ne_in n78)]; exact b5 a b ha hb) d4
      have hI6 := rRI_r hI4 f3
      have et := told_eq (i := i5) hI6 (show num (ns s) (qs s) (cs s) I i (fun x => sB S (cs s x) (ns s)) < 2 ^ 63 by omega) (show den (ns s) (qs s) (cs s) I < 2 ^ 63 by omega) hdG.2
      refine ⟨(tld (num (ns s) (qs s) (cs s) I i (fun x => sB S (cs s x) (ns s))) (den (ns s) (qs s) (cs s) I) i5, mwI M6 (R 0) 0 (nI 0)), ?_, rfl, ans_2 h (rfr_tr b3 (rfr_tr w4 f3))⟩
      unfold f_X9_ahead
      simp (disch := first | assumption | omega | (refine inb_n ?_ ?_ <;> omega) | fail) only [ck_t, Option.bind_some, iLeP, iLeN, iLtP, iLtN, iEqP, iEqN, nI_1, pk_mul, nI_add, cl_n, zI0, zI1, zI8, bI_z, if_true_eq, if_false_eq, if_true, if_false, e1, e2, e3, nI_and, hst, e4, nI_or, bT1N, e5, e6, bT0N, b1, b2, d1, f1, f2, et]
    · rw [Bool.not_eq_true] at hX
      rw [hX] at hGi
      have et := told_eq (u := 0) (l := 1) (i := i5) h (by decide) (by decide) (by decide)
      refine ⟨(tld 0 1 i5, mwI M (R 0) 0 (nI 0)), ?_, by rw [hX, hSi]; rfl, ans_2 h (rfr_rf M R)⟩
      unfold f_X9_ahead
      simp (disch := first | assumption | omega | (refine inb_n ?_ ?_ <;> omega) | fail) only [ck_t, Option.bind_some, iLeP, iLeN, iLtP, iLtN, iEqP, iEqN, nI_1, pk_mul, nI_add, cl_n, zI0, zI1, zI8, bI_z, if_true_eq, if_false_eq, if_true, if_false, lEqP, lEqN, lGtP, lGtN, lLeP, lLeN, lGeP, lGeN, lLtP, lLtN, lN_mul, lN_add, nI_l, pk_lDiv, pk_lRem, ckl, zL0, zL1, e1, e2, e3, nI_and, hst, e4, nI_or, bT1N, e5, e6, bT0P, et]
theorem rahead_n (h : rRI G M R tl tv ol ov ns qs cs) {i1 i2 i3 i4 i5 : Int32} (ho : ¬ ∃ s i S T, adOK ns i1 i2 i3 i4 i5 s i S T) : OK (f_X9_ahead G M (R 0) i1 i2 i3 i4 i5) (fun r => rfd G M R tl tv ol ov ns qs cs r.2) := by
  have k0 : isK G (R 0) 9 := h.1.2.1 0 (by decide)
  have er := refuse_eq h
  refine ⟨(Int32.toInt64 (nI 0), mwI M (R 0) 0 (nI 1)), ?_, rfd_1 h⟩
  unfold f_X9_ahead
  by_cases h2 : ∃ s, s < 6 ∧ i1 = nI s ∧ 0 < ns s ∧ stt (ns s) i2
  · obtain ⟨s, hs, rfl, hn, i, hi, rfl⟩ := h2
    obtain ⟨hg, c1, c2, c3⟩ := slo_c h hs hn
    have hn8 := hg.2.1
    have b8 := p2_31 hn8
    have e1 := risState_p h hs hn hi
    by_cases h3 : ∃ S, 0 < S ∧ S < 2 ^ ns s ∧ i3 = nI S
    · obtain ⟨S, h0, hS, rfl⟩ := h3
      have e2 := risSet_p h hs hn h0 hS
      by_cases h4 : ∃ T, 0 < T ∧ T < 2 ^ ns s ∧ i4 = nI T
      · obtain ⟨T, h0', hT, rfl⟩ := h4
        have e3 := risSet_p h hs hn h0' hT
        have hle : S &&& T ≤ S := Nat.and_le_left
        by_cases hst : S &&& T = 0
        · have e4 := isWhat_n (i := i5) (fun z => ho ⟨s, i, S, T, hs, rfl, hn, hi, rfl, h0, hS, rfl, h0', hT, rfl, hst, z⟩)
          simp (disch := first | assumption | omega | (refine inb_n ?_ ?_ <;> omega) | fail) only [ck_t, Option.bind_some, iLeP, iLeN, iLtP, iLtN, iEqP, iEqN, nI_1, pk_mul, nI_add, cl_n, zI0, zI1, zI8, bI_z, if_true_eq, if_false_eq, if_true, if_false, e1, e2, e3, nI_and, hst, e4, er]
        · simp (disch := first | assumption | omega | (refine inb_n ?_ ?_ <;> omega) | fail) only [ck_t, Option.bind_some, iLeP, iLeN, iLtP, iLtN, iEqP, iEqN, nI_1, pk_mul, nI_add, cl_n, zI0, zI1, zI8, bI_z, if_true_eq, if_false_eq, if_true, if_false, e1, e2, e3, nI_and, er]
      · have e3 := risSet_n h hs hn h4
        simp (disch := first | assumption | omega | (refine inb_n ?_ ?_ <;> omega) | fail) only [ck_t, Option.bind_some, iLeP, iLeN, iLtP, iLtN, iEqP, iEqN, nI_1, pk_mul, nI_add, cl_n, zI0, zI1, zI8, bI_z, if_true_eq, if_false_eq, if_true, if_false, e1, e2, e3, er]
    · have e2 := risSet_n h hs hn h3
      simp (disch := first | assumption | omega | (refine inb_n ?_ ?_ <;> omega) | fail) only [ck_t, Option.bind_some, iLeP, iLeN, iLtP, iLtN, iEqP, iEqN, nI_1, pk_mul, nI_add, cl_n, zI0, zI1, zI8, bI_z, if_true_eq, if_false_eq, if_true, if_false, e1, e2, er]
  · have e1 := risState_n h h2
    simp (disch := first | assumption | omega | (refine inb_n ?_ ?_ <;> omega) | fail) only [ck_t, Option.bind_some, iLeP, iLeN, iLtP, iLtN, iEqP, iEqN, nI_1, pk_mul, nI_add, cl_n, zI0, zI1, zI8, bI_z, if_true_eq, if_false_eq, if_true, if_false, e1, er]
end
