/-! steps and ahead of the class -/
section
variable {G : Gg} {M : Mm} {A p : Nat → Nat} {tl : Nat} {tv : Nat → Nat} {ol : Nat} {ov ns qs : Nat → Nat} {cs : Nat → Nat → Nat → Nat}
/-- the states on the way from i into S -/
def stI (c : Nat → Nat → Nat) (n i S : Nat) : Nat := roS (cN c n) n i S 8
/-- all of them lead into S -/
def stL (c : Nat → Nat → Nat) (n i S : Nat) : Prop := alB (fun j => !(stI c n i S).testBit j || decide (cL c n j &&& S ≠ 0)) n = true
theorem stI_lv {c : Nat → Nat → Nat} {n i S : Nat} (hn : n ≤ 8) (hi : i < n) (hS : S.testBit i = false) (h : stL c n i S) : lvT c n (stI c n i S) := by
  intro x hx hb P hP hcl
  have hz := roS_cl (c := c) (S := S) hn hi
  have h1 := (alB_t.mp h) x hx
  rw [hb] at h1
  have h2 : cL c n x &&& S ≠ 0 := by simpa using h1
  obtain ⟨k, hk, k1, k2⟩ := and_ex (show cL c n x < 2 ^ n from mkS_lt _ _) h2
  rw [show (cL c n x).testBit k = lB c n x k from cL_t hk] at k1
  refine ⟨k, hk, lB_snd hcl k1 hP, ?_⟩
  apply Classical.byContradiction
  intro hz2
  rw [Bool.not_eq_false] at hz2
  rw [isCl_out hz hS hk hz2] at k2
  cases k2
theorem set_bit {S n : Nat} (h0 : 0 < S) (hS : S < 2 ^ n) : ∃ z, z < n ∧ S.testBit z = true := by
  apply Classical.byContradiction
  intro hno
  have : S = 0 := (set_0 hS).mpr (fun i hi => by
    apply Classical.byContradiction
    intro hz
    rw [Bool.not_eq_false] at hz
    exact hno ⟨i, hi, hz⟩)
  omega
theorem stI_7 {c : Nat → Nat → Nat} {n i S : Nat} (hn : n ≤ 8) (hi : i < n) (h0 : 0 < S) (hSl : S < 2 ^ n) (hS : S.testBit i = false) : cnt (stI c n i S) n ≤ 7 := by
  obtain ⟨z, hz, hb⟩ := set_bit h0 hSl
  have hcl := roS_cl (c := c) (S := S) hn hi
  refine cnt_miss hn hcl.1 hz ?_
  apply Classical.byContradiction
  intro h
  rw [Bool.not_eq_false] at h
  rw [isCl_out hcl hS hz h] at hb
  cases hb
theorem rt_fr {M' : Mm} (h : kCI G M A p tl tv ol ov ns qs cs) (hf : fr M M' [] [A 15]) : kCI G M' A p tl tv ol ov ns qs cs ∧ unt M M' A 53 := mn_fr h (fr_sub hf (bi := [A 12]) (fun x hx => by simp at hx) (fun x hx => hx)) (fun x hx => Or.inr (Or.inr (Or.inl (by simpa using hx))))
theorem right_q (h : kCI G M A p tl tv ol ov ns qs cs) {s : Nat} (hs : s < 6) (hn : 0 < ns s) {i2 i5 : Int32} : OK (lp_X2_findSteps_40 G (A 11) (A (18 + 5 * p s)) i2 (A 17) i5 FU (nI 0) M) (fun M' => fr M M' [] [A 15] ∧ ∀ r, r < 8 → M'.2.1 (A 15) r = lN (qs s)) := by
  obtain ⟨hg, hz, _⟩ := kCI_z h hs hn
  have k11 : isK G (A 11) 2 := h.1.2.1 11 (by decide)
  have k15 : isK G (A 15) 11 := h.1.2.1 15 (by decide)
  have l15 : G.2.2 (A 15) = 8 := h.1.2.2 15 (by decide) (by decide)
  have kc := hz.1.1
  have q60 := hg.2.2.2.1
  refine lpI (fun f i6 (x : Mm) => lp_X2_findSteps_40 G (A 11) (A (18 + 5 * p s)) i2 (A 17) i5 f i6 x) (fun j x => fr M x [] [A 15] ∧ ∀ r, r < j → x.2.1 (A 15) r = lN (qs s)) 8 _ (by omega) (fun f j x hj hx => ?_) (fun f x hx => ?_) (by omega) ⟨fr_rf, fun r hr => absurd hr (by omega)⟩
  · obtain ⟨e1, e2⟩ := hx
    left
    have r1 : x.2.2 (A 11) 1 = some (A 15) := by rw [e1.2.2]; exact h.2.1.2.2.2.2.1.2
    have hq : x.1 (A (18 + 5 * p s)) 1 = nI (qs s) := by rw [e1.1 _ (by simp)]; exact hz.2.1
    refine ⟨mwJ x (A 15) j (lN (qs s)), ⟨fr_tr e1 (fr_J in_1), fun r hr => ?_⟩, ?_⟩
    · by_cases hrj : r = j
      · subst hrj; rw [mwJ_s]
      · rw [mwJ_n (Or.inr hrj)]; exact e2 r (by omega)
    · rw [lp_X2_findSteps_40, bd_X2_findSteps_40]
      simp (disch := first | assumption | omega | (refine inb_n ?_ ?_ <;> omega) | fail) only [ck_t, Option.bind_some, iLeP, iLeN, iLtP, iLtN, iEqP, iEqN, nI_1, pk_mul, nI_add, cl_n, zI0, zI1, zI8, bI_z, if_true_eq, if_false_eq, if_true, if_false, lEqP, lEqN, lGtP, lGtN, lLeP, lLeN, lGeP, lGeN, lLtP, lLtN, lN_mul, lN_add, nI_l, pk_lDiv, pk_lRem, ckl, zL0, zL1, r1, l15, hq]
  · refine ⟨x, ?_, hx⟩
    rw [lp_X2_findSteps_40, bd_X2_findSteps_40]
    simp (disch := first | assumption | omega | (refine inb_n ?_ ?_ <;> omega) | fail) only [ck_t, Option.bind_some, iLeP, iLeN, iLtP, iLtN, iEqP, iEqN, nI_1, pk_mul, nI_add, cl_n, zI0, zI1, zI8, bI_z, if_true_eq, if_false_eq, if_true, if_false]
/-- what steps asks of its numbers -/
def spOK (ns : Nat → Nat) (i1 i2 i3 i4 : Int32) (s i S : Nat) : Prop := s < 6 ∧ i1 = nI s ∧ 0 < ns s ∧ i < ns s ∧ i2 = nI i ∧ 0 < S ∧ S < 2 ^ ns s ∧ i3 = nI S ∧ wht i4
theorem isSet_n {a n : Nat} {i : Int32} (h1 : isK G a 0) (h2 : M.1 a 0 = nI n) (hn : n ≤ 8) (hi : ¬ ∃ S, 0 < S ∧ S < 2 ^ n ∧ i = nI S) : f_X0_isSet G M a i = some (nI 0) := by
  rcases int_c i with hneg | ⟨j, hj, rfl⟩
  · unfold f_X0_isSet
    exact if_pos (Int32.lt_trans hneg (by decide))
  · rw [isSet_eq h1 h2 hn hj, decide_eq_false (fun z => hi ⟨j, z.1, z.2, rfl⟩)]
    rfl
theorem isSet_p {a n S : Nat} (h1 : isK G a 0) (h2 : M.1 a 0 = nI n) (hn : n ≤ 8) (h0 : 0 < S) (hS : S < 2 ^ n) : f_X0_isSet G M a (nI S) = some (nI 1) := by
  have b8 := p2_31 hn
  rw [isSet_eq h1 h2 hn (by omega), decide_eq_true ⟨h0, hS⟩]
  rfl
theorem ksteps_0 (h : kCI G M A p tl tv ol ov ns qs cs) {i1 i2 i3 i4 : Int32} {s i S : Nat} (ho : spOK ns i1 i2 i3 i4 s i S) (hb : S.testBit i = true) : OK (f_X8_steps G M (A 0) i1 i2 i3 i4) (fun r => r.1 = some (tld 0 1 i4) ∧ kCI G r.2 A p tl tv ol ov ns qs cs ∧ unt M r.2 A 53) := by
  obtain ⟨hs, rfl, hn, hi, rfl, h0, hS, rfl, hw⟩ := ho
  obtain ⟨hg, hz, _⟩ := kCI_z h hs hn
  have hn8 := hg.2.1
  have b8 := p2_31 hn8
  have k0 : isK G (A 0) 8 := h.1.2.1 0 (by decide)
  have k11 : isK G (A 11) 2 := h.1.2.1 11 (by decide)
  have k17 : isK G (A 17) 1 := h.1.2.1 17 (by decide)
  have kc := hz.1.1
  have hz0 := hz.1.2.2.2.2.1
  have e1 := need_p h hs hn hw
  have e2 := isState_p kc hz0 hn8 hi
  have e3 := isSet_p (M := M) kc hz0 hn8 h0 hS
  have eh := has_b (show S < 2 ^ 31 by omega) (show i < 32 by omega)
  rw [hb] at eh
  obtain ⟨M2, b1, b2, b3, b4⟩ := put_t h (u := 0) (l := 1) (by decide) (by decide) (by decide)
  have b4' := b4 i4
  have r7 := h.2.1.1.2.2.2.2.2.2.1
  have r9 := h.2.1.1.2.2.2.2.2.2.2.2
  have r9' := b2.2.1.1.2.2.2.2.2.2.2.2
  refine ⟨(some (tld 0 1 i4), M2), ?_, rfl, b2, b3⟩
  unfold f_X8_steps f_X2_findSteps
  simp (disch := first | assumption | omega | (refine inb_n ?_ ?_ <;> omega) | fail) only [ck_t, Option.bind_some, iLeP, iLeN, iLtP, iLtN, iEqP, iEqN, nI_1, pk_mul, nI_add, cl_n, zI0, zI1, zI8, bI_z, if_true_eq, if_false_eq, if_true, if_false, lEqP, lEqN, lGtP, lGtN, lLeP, lLeN, lGeP, lGeN, lLtP, lLtN, lN_mul, lN_add, nI_l, pk_lDiv, pk_lRem, ckl, zL0, zL1, e1, onE, e2, e3, r7, r9, eh, b1, r9', b4']
theorem ksteps_p (h : kCI G M A p tl tv ol ov ns qs cs) {i1 i2 i3 i4 : Int32} {s i S : Nat} (ho : spOK ns i1 i2 i3 i4 s i S) (hb : S.testBit i = false) (hl : stL (cs s) (ns s) i S) : OK (f_X8_steps G M (A 0) i1 i2 i3 i4) (fun r => r.1 = some (tld (num (ns s) (qs s) (cs s) (stI (cs s) (ns s) i S) i (fun _ => qs s)) (den (ns s) (qs s) (cs s) (stI (cs s) (ns s) i S)) i4) ∧ kCI G r.2 A p tl tv ol ov ns qs cs ∧ unt M r.2 A 53) := by
  obtain ⟨hs, rfl, hn, hi, rfl, h0, hS, rfl, hw⟩ := ho
  obtain ⟨hg, hz, _⟩ := kCI_z h hs hn
  have hn8 := hg.2.1
  have b8 := p2_31 hn8
  have k0 : isK G (A 0) 8 := h.1.2.1 0 (by decide)
  have k11 : isK G (A 11) 2 := h.1.2.1 11 (by decide)
  have k17 : isK G (A 17) 1 := h.1.2.1 17 (by decide)
  have kc := hz.1.1
  have hz0 := hz.1.2.2.2.2.1
  have e1 := need_p h hs hn hw
  have e2 := isState_p kc hz0 hn8 hi
  have e3 := isSet_p (M := M) kc hz0 hn8 h0 hS
  have eh := has_b (show S < 2 ^ 31 by omega) (show i < 32 by omega)
  rw [hb] at eh
  have hcl := roS_cl (c := cs s) (S := S) hn8 hi
  have er := reachedOutside_eq hz (S := S) hi
  have el := allLeadInto_eq hz (I := stI (cs s) (ns s) i S) hcl.1 hS
  unfold stL at hl
  rw [hl] at el
  obtain ⟨M1, a1, a2, a3⟩ := right_q (i2 := nI i) (i5 := nI (stI (cs s) (ns s) i S)) h hs hn
  obtain ⟨hI1, u1⟩ := rt_fr h a2
  have hcn := cnt_le (stI (cs s) (ns s) i S) (ns s)
  obtain ⟨M2, b1, b2, b3, b4⟩ := solve_ok (I := stI (cs s) (ns s) i S) (b := fun _ => qs s) hI1 hs hn hcl.1 hi hcl.2.1 (stI_lv hn8 hi hb hl) (stI_7 hn8 hi h0 hS hb) (fun _ => hg.2.2.2.1) (fun r hr => a3 r (by omega))
  have b4' := b4 i4
  have r7 := h.2.1.1.2.2.2.2.2.2.1
  have r9 := h.2.1.1.2.2.2.2.2.2.2.2
  have r9' := b2.2.1.1.2.2.2.2.2.2.2.2
  refine ⟨(some (tld (num (ns s) (qs s) (cs s) (stI (cs s) (ns s) i S) i (fun _ => qs s)) (den (ns s) (qs s) (cs s) (stI (cs s) (ns s) i S)) i4), M2), ?_, rfl, b2, unt_tr u1 b3⟩
  have er' : f_X2_reachedOutside G M (A (18 + 5 * p s)) (nI i) (nI S) = some (nI (stI (cs s) (ns s) i S)) := er
  unfold f_X8_steps f_X2_findSteps
  simp (disch := first | assumption | omega | (refine inb_n ?_ ?_ <;> omega) | fail) only [ck_t, Option.bind_some, iLeP, iLeN, iLtP, iLtN, iEqP, iEqN, nI_1, pk_mul, nI_add, cl_n, zI0, zI1, zI8, bI_z, if_true_eq, if_false_eq, if_true, if_false, lEqP, lEqN, lGtP, lGtN, lLeP, lLeN, lGeP, lGeN, lLtP, lLtN, lN_mul, lN_add, nI_l, pk_lDiv, pk_lRem, ckl, zL0, zL1, e1, onE, e2, e3, r7, r9, eh, er', el, a1, b1, r9', b4']
theorem ksteps_n (h : kCI G M A p tl tv ol ov ns qs cs) {i1 i2 i3 i4 : Int32} (ho : ¬ ∃ s i S, spOK ns i1 i2 i3 i4 s i S ∧ (S.testBit i = true ∨ stL (cs s) (ns s) i S)) : f_X8_steps G M (A 0) i1 i2 i3 i4 = some (none, M) := by
  have k0 : isK G (A 0) 8 := h.1.2.1 0 (by decide)
  unfold f_X8_steps
  by_cases h1 : slo ns i1 ∧ wht i4
  · obtain ⟨⟨s, hs, rfl, hn⟩, hw⟩ := h1
    obtain ⟨hg, hz, _⟩ := kCI_z h hs hn
    have hn8 := hg.2.1
    have b8 := p2_31 hn8
    have kc := hz.1.1
    have hz0 := hz.1.2.2.2.2.1
    have e1 := need_p h hs hn hw
    by_cases h2 : stt (ns s) i2
    · obtain ⟨i, hi, rfl⟩ := h2
      have e2 := isState_p kc hz0 hn8 hi
      by_cases h3 : ∃ S, 0 < S ∧ S < 2 ^ ns s ∧ i3 = nI S
      · obtain ⟨S, h0, hS, rfl⟩ := h3
        have e3 := isSet_p (M := M) kc hz0 hn8 h0 hS
        have k11 : isK G (A 11) 2 := h.1.2.1 11 (by decide)
        have hb : S.testBit i = false := by
          apply Classical.byContradiction
          intro hz
          rw [Bool.not_eq_false] at hz
          exact ho ⟨s, i, S, ⟨hs, rfl, hn, hi, rfl, h0, hS, rfl, hw⟩, Or.inl hz⟩
        have hl : ¬ stL (cs s) (ns s) i S := fun z => ho ⟨s, i, S, ⟨hs, rfl, hn, hi, rfl, h0, hS, rfl, hw⟩, Or.inr z⟩
        unfold stL at hl
        rw [Bool.not_eq_true] at hl
        have eh := has_b (show S < 2 ^ 31 by omega) (show i < 32 by omega)
        rw [hb] at eh
        have hcl := roS_cl (c := cs s) (S := S) hn8 hi
        have er : f_X2_reachedOutside G M (A (18 + 5 * p s)) (nI i) (nI S) = some (nI (stI (cs s) (ns s) i S)) := reachedOutside_eq hz (S := S) hi
        have el := allLeadInto_eq hz (I := stI (cs s) (ns s) i S) hcl.1 hS
        rw [hl] at el
        have r7 := h.2.1.1.2.2.2.2.2.2.1
        have r9 := h.2.1.1.2.2.2.2.2.2.2.2
        unfold f_X2_findSteps
        simp (disch := first | assumption | omega | (refine inb_n ?_ ?_ <;> omega) | fail) only [ck_t, Option.bind_some, iLeP, iLeN, iLtP, iLtN, iEqP, iEqN, nI_1, pk_mul, nI_add, cl_n, zI0, zI1, zI8, bI_z, if_true_eq, if_false_eq, if_true, if_false, e1, onE, e2, e3, r7, r9, eh, er, el]
      · have e3 := isSet_n (M := M) kc hz0 hn8 h3
        simp (disch := first | assumption | omega | (refine inb_n ?_ ?_ <;> omega) | fail) only [ck_t, Option.bind_some, iLeP, iLeN, iLtP, iLtN, iEqP, iEqN, nI_1, pk_mul, nI_add, cl_n, zI0, zI1, zI8, bI_z, if_true_eq, if_false_eq, if_true, if_false, e1, onE, e2, e3]
    · have e2 := isState_n kc hz0 hn8 h2
      simp (disch := first | assumption | omega | (refine inb_n ?_ ?_ <;> omega) | fail) only [ck_t, Option.bind_some, iLeP, iLeN, iLtP, iLtN, iEqP, iEqN, nI_1, pk_mul, nI_add, cl_n, zI0, zI1, zI8, bI_z, if_true_eq, if_false_eq, if_true, if_false, e1, onE, e2]
  · have e1 := need_n h h1
    simp (disch := first | assumption | omega | (refine inb_n ?_ ?_ <;> omega) | fail) only [ck_t, Option.bind_some, iLeP, iLeN, iLtP, iLtN, iEqP, iEqN, nI_1, pk_mul, nI_add, cl_n, zI0, zI1, zI8, bI_z, if_true_eq, if_false_eq, if_true, if_false, e1, onE]
/-- what ahead asks of its numbers -/
def adOK (ns : Nat → Nat) (i1 i2 i3 i4 i5 : Int32) (s i S T : Nat) : Prop := s < 6 ∧ i1 = nI s ∧ 0 < ns s ∧ i < ns s ∧ i2 = nI i ∧ 0 < S ∧ S < 2 ^ ns s ∧ i3 = nI S ∧ 0 < T ∧ T < 2 ^ ns s ∧ i4 = nI T ∧ S &&& T = 0 ∧ wht i5
def adI (c : Nat → Nat → Nat) (n S T : Nat) : Nat := lrS (cN c n) n S T 8
theorem right_a (h : kCI G M A p tl tv ol ov ns qs cs) {s S I : Nat} (hs : s < 6) (hn : 0 < ns s) (hS : S < 2 ^ ns s) (hI : I < 2 ^ ns s) {i2 : Int32} : OK (lp_X2_findAhead_44 G (A 11) (A (18 + 5 * p s)) i2 (nI S) (A 17) (nI I) FU (nI 0) (nI 0) M) (fun M' => fr M M' [] [A 15] ∧ ∀ r, r < cnt I (ns s) → M'.2.1 (A 15) r = lN (sB S (cs s (el I r (ns s))) (ns s))) := by
  obtain ⟨hg, hz, _⟩ := kCI_z h hs hn
  have hn8 := hg.2.1
  have b8 := p2_31 hn8
  have k11 : isK G (A 11) 2 := h.1.2.1 11 (by decide)
  have k15 : isK G (A 15) 11 := h.1.2.1 15 (by decide)
  have l15 : G.2.2 (A 15) = 8 := h.1.2.2 15 (by decide) (by decide)
  have kc := hz.1.1
  refine lpI (fun f i8 (x : Int32 × Mm) => lp_X2_findAhead_44 G (A 11) (A (18 + 5 * p s)) i2 (nI S) (A 17) (nI I) f x.1 i8 x.2) (fun j x => x.1 = nI (cnt I j) ∧ fr M x.2 [] [A 15] ∧ ∀ r, r < cnt I j → x.2.2.1 (A 15) r = lN (sB S (cs s (el I r (ns s))) (ns s))) (ns s) _ (by omega) (fun f j x hj hx => ?_) (fun f x hx => ?_) (x := (nI 0, M)) (by omega) ⟨rfl, fr_rf, fun r hr => absurd hr (by show ¬ r < 0; omega)⟩
  · obtain ⟨x1, x2⟩ := x
    obtain ⟨e1, e2, e3⟩ := hx
    dsimp only at e1 e2 e3
    subst e1
    left
    have r1 : x2.2.2 (A 11) 1 = some (A 15) := by rw [e2.2.2]; exact h.2.1.2.2.2.2.1.2
    have hz0 : x2.1 (A (18 + 5 * p s)) 0 = nI (ns s) := by rw [e2.1 _ (by simp)]; exact hz.1.2.2.2.2.1
    have eh := has_b (show I < 2 ^ 31 by omega) (show j < 32 by omega)
    have ei := into_eq (chC_fr hz.1 e2 (by simp) (by simp)) hj (show S < 2 ^ 31 by omega)
    have hcj := cnt_le I j
    have hsb : sB S (cs s j) (ns s) ≤ qs s := by
      have := sB_sN S (cs s j) (ns s)
      rw [hg.2.2.2.2.1 j hj] at this
      exact this
    have q60 := hg.2.2.2.1
    by_cases hb : I.testBit j = true
    · rw [hb] at eh
      have hcs : cnt I (j + 1) = cnt I j + 1 := by rw [cnt_s, if_pos hb]
      have hel : el I (cnt I j) (ns s) = j := el_un hj hb
      refine ⟨(nI (cnt I (j + 1)), mwJ x2 (A 15) (cnt I j) (lN (sB S (cs s j) (ns s)))), ⟨rfl, fr_tr e2 (fr_J in_1), fun r hr => ?_⟩, ?_⟩
      · dsimp only
        by_cases hrj : r = cnt I j
        · subst hrj; rw [mwJ_s, hel]
        · rw [mwJ_n (Or.inr hrj)]; exact e3 r (by omega)
      · dsimp only
        rw [lp_X2_findAhead_44, bd_X2_findAhead_44]
        simp (disch := first | assumption | omega | (refine inb_n ?_ ?_ <;> omega) | fail) only [ck_t, Option.bind_some, iLeP, iLeN, iLtP, iLtN, iEqP, iEqN, nI_1, pk_mul, nI_add, cl_n, zI0, zI1, zI8, bI_z, if_true_eq, if_false_eq, if_true, if_false, lEqP, lEqN, lGtP, lGtN, lLeP, lLeN, lGeP, lGeN, lLtP, lLtN, lN_mul, lN_add, nI_l, pk_lDiv, pk_lRem, ckl, zL0, zL1, hz0, eh, r1, ei, l15, hcs]
    · rw [Bool.not_eq_true] at hb
      rw [hb] at eh
      have hcs : cnt I (j + 1) = cnt I j := by rw [cnt_s, hb]; rfl
      refine ⟨(nI (cnt I (j + 1)), x2), ⟨rfl, e2, by rw [hcs]; exact e3⟩, ?_⟩
      dsimp only
      rw [lp_X2_findAhead_44, bd_X2_findAhead_44]
      simp (disch := first | assumption | omega | (refine inb_n ?_ ?_ <;> omega) | fail) only [ck_t, Option.bind_some, iLeP, iLeN, iLtP, iLtN, iEqP, iEqN, nI_1, pk_mul, nI_add, cl_n, zI0, zI1, zI8, bI_z, if_true_eq, if_false_eq, if_true, if_false, hz0, eh, hcs]
  · obtain ⟨x1, x2⟩ := x
    obtain ⟨e1, e2, e3⟩ := hx
    dsimp only at e1 e2 e3
    have hz0 : x2.1 (A (18 + 5 * p s)) 0 = nI (ns s) := by rw [e2.1 _ (by simp)]; exact hz.1.2.2.2.2.1
    refine ⟨x2, ?_, e2, e3⟩
    dsimp only
    rw [lp_X2_findAhead_44, bd_X2_findAhead_44]
    simp (disch := first | assumption | omega | (refine inb_n ?_ ?_ <;> omega) | fail) only [ck_t, Option.bind_some, iLeP, iLeN, iLtP, iLtN, iEqP, iEqN, nI_1, pk_mul, nI_add, cl_n, zI0, zI1, zI8, bI_z, if_true_eq, if_false_eq, if_true, if_false, hz0]
theorem adI_7 {c : Nat → Nat → Nat} {n S T : Nat} (hn : n ≤ 8) (h0 : 0 < S) (hS : S < 2 ^ n) : cnt (adI c n S T) n ≤ 7 := by
  obtain ⟨z, hz, hb⟩ := set_bit h0 hS
  have hld := lrS_ld (c := c) (n := n) (A := S) (B := T) hn
  refine cnt_miss hn hld.1 hz ?_
  apply Classical.byContradiction
  intro h
  rw [Bool.not_eq_false] at h
  have := ld_out hld hz h
  rw [Nat.testBit_or, hb] at this
  cases this
theorem sB_60 {n q : Nat} {c : Nat → Nat → Nat} (hg : gch n q c) (S x : Nat) : sB S (c x) n ≤ 60 := by
  have h60 := hg.2.2.2.1
  have h1 := sB_sN S (c x) n
  by_cases hx : x < n
  · rw [hg.2.2.2.2.1 x hx] at h1
    omega
  · rw [sN_0 (f := c x) (fun k _ => hg.2.2.2.2.2 x k (by omega))] at h1
    omega
theorem kahead_p (h : kCI G M A p tl tv ol ov ns qs cs) {i1 i2 i3 i4 i5 : Int32} {s i S T : Nat} (ho : adOK ns i1 i2 i3 i4 i5 s i S T) : OK (f_X8_ahead G M (A 0) i1 i2 i3 i4 i5) (fun r => r.1 = some (if (adI (cs s) (ns s) S T).testBit i then tld (num (ns s) (qs s) (cs s) (adI (cs s) (ns s) S T) i (fun x => sB S (cs s x) (ns s))) (den (ns s) (qs s) (cs s) (adI (cs s) (ns s) S T)) i5 else tld (if S.testBit i then 1 else 0) 1 i5) ∧ kCI G r.2 A p tl tv ol ov ns qs cs ∧ unt M r.2 A 53) := by
  obtain ⟨hs, rfl, hn, hi, rfl, h0, hS, rfl, h0', hT, rfl, hst, hw⟩ := ho
  obtain ⟨hg, hz, _⟩ := kCI_z h hs hn
  have hn8 := hg.2.1
  have b8 := p2_31 hn8
  have k0 : isK G (A 0) 8 := h.1.2.1 0 (by decide)
  have k11 : isK G (A 11) 2 := h.1.2.1 11 (by decide)
  have k17 : isK G (A 17) 1 := h.1.2.1 17 (by decide)
  have kc := hz.1.1
  have hz0 := hz.1.2.2.2.2.1
  have e1 := need_p h hs hn hw
  have e2 := isState_p kc hz0 hn8 hi
  have e3 := isSet_p (M := M) kc hz0 hn8 h0 hS
  have e4 := isSet_p (M := M) kc hz0 hn8 h0' hT
  have el : f_X2_leadingInto G M (A (18 + 5 * p s)) (nI S) (nI T) = some (nI (adI (cs s) (ns s) S T)) := leadingInto_eq hz hS hT
  have hld := lrS_ld (c := cs s) (n := ns s) (A := S) (B := T) hn8
  have hIl : adI (cs s) (ns s) S T < 2 ^ ns s := hld.1
  have eh := has_b (show adI (cs s) (ns s) S T < 2 ^ 31 by omega) (show i < 32 by omega)
  have eh2 := has_b (show S < 2 ^ 31 by omega) (show i < 32 by omega)
  have r7 := h.2.1.1.2.2.2.2.2.2.1
  have r9 := h.2.1.1.2.2.2.2.2.2.2.2
  by_cases hb : (adI (cs s) (ns s) S T).testBit i = true
  · rw [hb] at eh
    obtain ⟨M1, a1, a2, a3⟩ := right_a (S := S) (I := adI (cs s) (ns s) S T) (i2 := nI i) h hs hn hS hIl
    obtain ⟨hI1, u1⟩ := rt_fr h a2
    obtain ⟨M2, b1, b2, b3, b4⟩ := solve_ok (b := fun x => sB S (cs s x) (ns s)) hI1 hs hn hIl hi hb (ld_lv hld) (adI_7 hn8 h0 hS) (fun x => sB_60 hg S x) a3
    have b4' := b4 i5
    have r9' := b2.2.1.1.2.2.2.2.2.2.2.2
    refine ⟨(some (tld (num (ns s) (qs s) (cs s) (adI (cs s) (ns s) S T) i (fun x => sB S (cs s x) (ns s))) (den (ns s) (qs s) (cs s) (adI (cs s) (ns s) S T)) i5), M2), ?_, by rw [if_pos hb], b2, unt_tr u1 b3⟩
    unfold f_X8_ahead f_X2_findAhead
    simp (disch := first | assumption | omega | (refine inb_n ?_ ?_ <;> omega) | fail) only [ck_t, Option.bind_some, iLeP, iLeN, iLtP, iLtN, iEqP, iEqN, nI_1, pk_mul, nI_add, cl_n, zI0, zI1, zI8, bI_z, if_true_eq, if_false_eq, if_true, if_false, e1, onE, e2, e3, e4, nI_and, hst, r7, r9, el, eh, a1, b1, r9', b4']
  · have hb' := hb
    rw [Bool.not_eq_true] at hb
    rw [hb] at eh
    by_cases hSi : S.testBit i = true
    · rw [hSi] at eh2
      obtain ⟨M2, b1, b2, b3, b4⟩ := put_t h (u := 1) (l := 1) (by decide) (by decide) (by decide)
      have b4' := b4 i5
      have r9' := b2.2.1.1.2.2.2.2.2.2.2.2
      refine ⟨(some (tld 1 1 i5), M2), ?_, by rw [if_neg hb', if_pos hSi], b2, b3⟩
      unfold f_X8_ahead f_X2_findAhead
      simp (disch := first | assumption | omega | (refine inb_n ?_ ?_ <;> omega) | fail) only [ck_t, Option.bind_some, iLeP, iLeN, iLtP, iLtN, iEqP, iEqN, nI_1, pk_mul, nI_add, cl_n, zI0, zI1, zI8, bI_z, if_true_eq, if_false_eq, if_true, if_false, lEqP, lEqN, lGtP, lGtN, lLeP, lLeN, lGeP, lGeN, lLtP, lLtN, lN_mul, lN_add, nI_l, pk_lDiv, pk_lRem, ckl, zL0, zL1, e1, onE, e2, e3, e4, nI_and, hst, r7, r9, el, eh, eh2, b1, r9', b4']
    · have hSi' := hSi
      rw [Bool.not_eq_true] at hSi
      rw [hSi] at eh2
      obtain ⟨M2, b1, b2, b3, b4⟩ := put_t h (u := 0) (l := 1) (by decide) (by decide) (by decide)
      have b4' := b4 i5
      have r9' := b2.2.1.1.2.2.2.2.2.2.2.2
      refine ⟨(some (tld 0 1 i5), M2), ?_, by rw [if_neg hb', if_neg hSi'], b2, b3⟩
      unfold f_X8_ahead f_X2_findAhead
      simp (disch := first | assumption | omega | (refine inb_n ?_ ?_ <;> omega) | fail) only [ck_t, Option.bind_some, iLeP, iLeN, iLtP, iLtN, iEqP, iEqN, nI_1, pk_mul, nI_add, cl_n, zI0, zI1, zI8, bI_z, if_true_eq, if_false_eq, if_true, if_false, lEqP, lEqN, lGtP, lGtN, lLeP, lLeN, lGeP, lGeN, lLtP, lLtN, lN_mul, lN_add, nI_l, pk_lDiv, pk_lRem, ckl, zL0, zL1, e1, onE, e2, e3, e4, nI_and, hst, r7, r9, el, eh, eh2, b1, r9', b4']
theorem kahead_n (h : kCI G M A p tl tv ol ov ns qs cs) {i1 i2 i3 i4 i5 : Int32} (ho : ¬ ∃ s i S T, adOK ns i1 i2 i3 i4 i5 s i S T) : f_X8_ahead G M (A 0) i1 i2 i3 i4 i5 = some (none, M) := by
  have k0 : isK G (A 0) 8 := h.1.2.1 0 (by decide)
  unfold f_X8_ahead
  by_cases h1 : slo ns i1 ∧ wht i5
  · obtain ⟨⟨s, hs, rfl, hn⟩, hw⟩ := h1
    obtain ⟨hg, hz, _⟩ := kCI_z h hs hn
    have hn8 := hg.2.1
    have b8 := p2_31 hn8
    have kc := hz.1.1
    have hz0 := hz.1.2.2.2.2.1
    have e1 := need_p h hs hn hw
    by_cases h2 : stt (ns s) i2
    · obtain ⟨i, hi, rfl⟩ := h2
      have e2 := isState_p kc hz0 hn8 hi
      by_cases h3 : ∃ S, 0 < S ∧ S < 2 ^ ns s ∧ i3 = nI S
      · obtain ⟨S, h0, hS, rfl⟩ := h3
        have e3 := isSet_p (M := M) kc hz0 hn8 h0 hS
        by_cases h4 : ∃ T, 0 < T ∧ T < 2 ^ ns s ∧ i4 = nI T
        · obtain ⟨T, h0', hT, rfl⟩ := h4
          have e4 := isSet_p (M := M) kc hz0 hn8 h0' hT
          have hst : S &&& T ≠ 0 := fun z => ho ⟨s, i, S, T, hs, rfl, hn, hi, rfl, h0, hS, rfl, h0', hT, rfl, z, hw⟩
          have hle : S &&& T ≤ S := Nat.and_le_left
          simp (disch := first | assumption | omega | (refine inb_n ?_ ?_ <;> omega) | fail) only [ck_t, Option.bind_some, iLeP, iLeN, iLtP, iLtN, iEqP, iEqN, nI_1, pk_mul, nI_add, cl_n, zI0, zI1, zI8, bI_z, if_true_eq, if_false_eq, if_true, if_false, e1, onE, e2, e3, e4, nI_and]
        · have e4 := isSet_n (M := M) kc hz0 hn8 h4
          simp (disch := first | assumption | omega | (refine inb_n ?_ ?_ <;> omega) | fail) only [ck_t, Option.bind_some, iLeP, iLeN, iLtP, iLtN, iEqP, iEqN, nI_1, pk_mul, nI_add, cl_n, zI0, zI1, zI8, bI_z, if_true_eq, if_false_eq, if_true, if_false, e1, onE, e2, e3, e4]
      · have e3 := isSet_n (M := M) kc hz0 hn8 h3
        simp (disch := first | assumption | omega | (refine inb_n ?_ ?_ <;> omega) | fail) only [ck_t, Option.bind_some, iLeP, iLeN, iLtP, iLtN, iEqP, iEqN, nI_1, pk_mul, nI_add, cl_n, zI0, zI1, zI8, bI_z, if_true_eq, if_false_eq, if_true, if_false, e1, onE, e2, e3]
    · have e2 := isState_n kc hz0 hn8 h2
      simp (disch := first | assumption | omega | (refine inb_n ?_ ?_ <;> omega) | fail) only [ck_t, Option.bind_some, iLeP, iLeN, iLtP, iLtN, iEqP, iEqN, nI_1, pk_mul, nI_add, cl_n, zI0, zI1, zI8, bI_z, if_true_eq, if_false_eq, if_true, if_false, e1, onE, e2]
  · have e1 := need_n h h1
    simp (disch := first | assumption | omega | (refine inb_n ?_ ?_ <;> omega) | fail) only [ck_t, Option.bind_some, iLeP, iLeN, iLtP, iLtN, iEqP, iEqN, nI_1, pk_mul, nI_add, cl_n, zI0, zI1, zI8, bI_z, if_true_eq, if_false_eq, if_true, if_false, e1, onE]
end
