/-! about and state of both -/
def lT (q : Nat) : Nat := ct (fun t => decide (q ^ (t + 1) ≤ 1000000000000000)) 20
theorem lT_all : ∀ q, q < 61 → 1 ≤ q → (lT q ≤ 20 ∧ q ^ lT q ≤ 1000000000000000 ∧ (lT q = 20 ∨ 1000000000000000 < q ^ (lT q + 1))) := by decide +kernel
theorem lT_ok {q : Nat} (h1 : 1 ≤ q) (h2 : q ≤ 60) : isLT q (lT q) := lT_all q (by omega) h1
/-- what about answers -/
def abt (n q : Nat) (c : Nat → Nat → Nat) (i : Int32) : Int32 := if i = nI 0 then nI n else if i = nI 1 then nI q else if i = nI 2 then nI (ct (lsB (cL c n) n) n) else if i = nI 3 then nI (ct (fun i => lsB (cL c n) n i && clB (cL c n) n i) n) else if i = nI 4 then nI (lT q) else if i = nI 5 then nI (if ct (lsB (cL c n) n) n = 1 then if (btS (cN c n) n 0 (3 * n)).2 = 1 then 2 else 1 else 0) else if i = nI 6 then bI (decide (ct (lsB (cL c n) n) n = 1) && alB (fun i => alB (bwP (cW n q c) c i) i) n) else -1
/-- what state answers -/
def sta (n : Nat) (c : Nat → Nat → Nat) (i2 : Nat) (i : Int32) : Int32 := if i = nI 0 then nI (hnm c n i2) else if i = nI 1 then bI (clB (cL c n) n i2) else if i = nI 2 then nI (btS (cN c n) n i2 (3 * n)).2 else -1
def stt (n : Nat) (i : Int32) : Prop := ∃ k, k < n ∧ i = nI k
theorem bI_if (b : Bool) : (if bI b = nI 0 then some (nI 0) else some (nI 1)) = some (bI b) := by cases b <;> rfl
theorem bI_ifM {M : Mm} (b : Bool) : (if bI b = nI 0 then some (nI 0, M) else some (nI 1, M)) = some (bI b, M) := by cases b <;> rfl
section
variable {G : Gg} {M : Mm} {A p : Nat → Nat} {tl : Nat} {tv : Nat → Nat} {ol : Nat} {ov ns qs : Nat → Nat} {cs : Nat → Nat → Nat → Nat}
theorem kabout_p (h : kCI G M A p tl tv ol ov ns qs cs) {s : Nat} (hs : s < 6) (hn : 0 < ns s) (i : Int32) : f_X8_about G M (A 0) (nI s) i = some (abt (ns s) (qs s) (cs s) i) := by
  obtain ⟨hg, hz, _⟩ := kCI_z h hs hn
  have k0 : isK G (A 0) 8 := h.1.2.1 0 (by decide)
  have kc := hz.1.1
  have e1 := chainIn_p h hs hn
  have h0 := hz.1.2.2.2.2.1
  have h1 := hz.2.1
  have h2 := heaps_eq hz
  have h3 := closedHeaps_eq hz
  obtain ⟨r, h4, t, rfl, ht⟩ := lastTime_ok kc h1 hg.2.2.1 hg.2.2.2.1
  have : t = lT (qs s) := isLT_un hg.2.2.1 ht (lT_ok hg.2.2.1 hg.2.2.2.1)
  subst this
  have h5 := wholeness_eq hz (by omega)
  have h6 := isBothWays_eq hz
  unfold f_X8_about abt
  rw [ck_t k0, e1, Option.bind_some]
  simp only [onE]
  by_cases c0 : i = nI 0
  · rw [if_pos c0, if_pos (show i = 0 from c0), ck_t kc, h0]
  · rw [if_neg c0, if_neg (show ¬ i = 0 from c0)]
    by_cases c1 : i = nI 1
    · rw [if_pos c1, if_pos (show i = 1 from c1), ck_t kc, h1]
    · rw [if_neg c1, if_neg (show ¬ i = 1 from c1)]
      by_cases c2 : i = nI 2
      · rw [if_pos c2, if_pos (show i = 2 from c2), ck_t kc, h2, Option.bind_some]
      · rw [if_neg c2, if_neg (show ¬ i = 2 from c2)]
        by_cases c3 : i = nI 3
        · rw [if_pos c3, if_pos (show i = 3 from c3), ck_t kc, h3, Option.bind_some]
        · rw [if_neg c3, if_neg (show ¬ i = 3 from c3)]
          by_cases c4 : i = nI 4
          · rw [if_pos c4, if_pos (show i = 4 from c4), ck_t kc, h4, Option.bind_some]
          · rw [if_neg c4, if_neg (show ¬ i = 4 from c4)]
            by_cases c5 : i = nI 5
            · rw [if_pos c5, if_pos (show i = 5 from c5), ck_t kc, h5, Option.bind_some]
            · rw [if_neg c5, if_neg (show ¬ i = 5 from c5)]
              by_cases c6 : i = nI 6
              · rw [if_pos c6, if_pos (show i = 6 from c6), ck_t kc, h6, Option.bind_some]
                exact bI_if _
              · rw [if_neg c6, if_neg (show ¬ i = 6 from c6)]
theorem kabout_n (h : kCI G M A p tl tv ol ov ns qs cs) {i1 : Int32} (hx : ¬ slo ns i1) (i : Int32) : f_X8_about G M (A 0) i1 i = some (-1) := by
  have k0 : isK G (A 0) 8 := h.1.2.1 0 (by decide)
  have e1 := chainIn_n h hx
  unfold f_X8_about
  simp (disch := first | assumption | omega | (refine inb_n ?_ ?_ <;> omega) | fail) only [ck_t, Option.bind_some, iLeP, iLeN, iLtP, iLtN, iEqP, iEqN, nI_1, pk_mul, nI_add, cl_n, zI0, zI1, zI8, bI_z, if_true_eq, if_false_eq, if_true, if_false, e1, onE]
theorem isState_n {a n : Nat} {i : Int32} (h1 : isK G a 0) (h2 : M.1 a 0 = nI n) (hn : n ≤ 8) (hi : ¬ stt n i) : f_X0_isState G M a i = some (nI 0) := by
  unfold f_X0_isState
  rcases int_c i with hneg | ⟨j, hj, rfl⟩
  · exact if_pos hneg
  · have : n ≤ j := by
      rcases Nat.lt_or_ge j n with h | h
      · exact absurd ⟨j, h, rfl⟩ hi
      · exact h
    simp (disch := first | assumption | omega | (refine inb_n ?_ ?_ <;> omega) | fail) only [ck_t, Option.bind_some, iLeP, iLeN, iLtP, iLtN, iEqP, iEqN, nI_1, pk_mul, nI_add, cl_n, zI0, zI1, zI8, bI_z, if_true_eq, if_false_eq, if_true, if_false, h2]
theorem isState_p {a n j : Nat} (h1 : isK G a 0) (h2 : M.1 a 0 = nI n) (hn : n ≤ 8) (hj : j < n) : f_X0_isState G M a (nI j) = some (nI 1) := by
  rw [isState_eq h1 h2 hn (by omega), decide_eq_true hj]
  rfl
theorem kstate_p (h : kCI G M A p tl tv ol ov ns qs cs) {s j : Nat} (hs : s < 6) (hn : 0 < ns s) (hj : j < ns s) (i : Int32) : f_X8_state G M (A 0) (nI s) (nI j) i = some (sta (ns s) (cs s) j i) := by
  obtain ⟨hg, hz, _⟩ := kCI_z h hs hn
  have k0 : isK G (A 0) 8 := h.1.2.1 0 (by decide)
  have kc := hz.1.1
  have e1 := chainIn_p h hs hn
  have e2 := isState_p kc hz.1.2.2.2.2.1 hg.2.1 hj
  obtain ⟨o1, o2, o3, o4⟩ := lst_ok (c := cs s) hj
  have h0 := heapNumber_eq hz hj o1 (fun k hk => by rw [hp_t hj (by omega)]; exact o4 k hk) (by rw [hp_t hj o2]; exact o3)
  have h1 := isClosed_eq hz hj
  have h2 := beat_eq hz hj
  unfold f_X8_state sta
  rw [ck_t k0, e1, Option.bind_some]
  simp only [onE]
  rw [ck_t kc, e2, Option.bind_some, if_neg (show ¬ nI 1 = 0 by decide)]
  by_cases c0 : i = nI 0
  · rw [if_pos c0, if_pos (show i = 0 from c0), h0, Option.bind_some]
    rfl
  · rw [if_neg c0, if_neg (show ¬ i = 0 from c0)]
    by_cases c1 : i = nI 1
    · rw [if_pos c1, if_pos (show i = 1 from c1), h1, Option.bind_some]
      exact bI_if _
    · rw [if_neg c1, if_neg (show ¬ i = 1 from c1)]
      by_cases c2 : i = nI 2
      · rw [if_pos c2, if_pos (show i = 2 from c2), h2, Option.bind_some]
      · rw [if_neg c2, if_neg (show ¬ i = 2 from c2)]
theorem kstate_n (h : kCI G M A p tl tv ol ov ns qs cs) {i1 i2 : Int32} (hx : ¬ ∃ s, s < 6 ∧ i1 = nI s ∧ 0 < ns s ∧ stt (ns s) i2) (i : Int32) : f_X8_state G M (A 0) i1 i2 i = some (-1) := by
  have k0 : isK G (A 0) 8 := h.1.2.1 0 (by decide)
  by_cases h1 : slo ns i1
  · obtain ⟨s, hs, rfl, hn⟩ := h1
    obtain ⟨hg, hz, _⟩ := kCI_z h hs hn
    have kc := hz.1.1
    have e1 := chainIn_p h hs hn
    have e2 := isState_n (i := i2) kc hz.1.2.2.2.2.1 hg.2.1 (fun z => hx ⟨s, hs, rfl, hn, z⟩)
    unfold f_X8_state
    simp (disch := first | assumption | omega | (refine inb_n ?_ ?_ <;> omega) | fail) only [ck_t, Option.bind_some, iLeP, iLeN, iLtP, iLtN, iEqP, iEqN, nI_1, pk_mul, nI_add, cl_n, zI0, zI1, zI8, bI_z, if_true_eq, if_false_eq, if_true, if_false, e1, onE, e2]
  · have e1 := chainIn_n h h1
    unfold f_X8_state
    simp (disch := first | assumption | omega | (refine inb_n ?_ ?_ <;> omega) | fail) only [ck_t, Option.bind_some, iLeP, iLeN, iLtP, iLtN, iEqP, iEqN, nI_1, pk_mul, nI_add, cl_n, zI0, zI1, zI8, bI_z, if_true_eq, if_false_eq, if_true, if_false, e1, onE]
end
section
variable {G : Gg} {M : Mm} {R : Nat → Nat} {tl : Nat} {tv : Nat → Nat} {ol : Nat} {ov ns qs : Nat → Nat} {cs : Nat → Nat → Nat → Nat}
/-- a whole chain: the first heap is all -/
theorem wh_bs {c : Nat → Nat → Nat} {n : Nat} (h1 : ct (lsB (cL c n) n) n = 1) : bsH c n 0 = cS c n := by
  apply set_ext (n := n) (mkS_lt _ _) cS_lt
  intro i hi
  rw [cS_t hi, wh_cl h1 hi]
  rw [mkS_t, decide_eq_true hi, Bool.true_and]
  have := hnm_lt (c := c) hi
  rw [h1] at this
  exact decide_eq_true (by omega)
theorem ractab (h : rRI G M R tl tv ol ov ns qs cs) {s : Nat} (hs : s < 6) (hn : 0 < ns s) (he : reS M R (ns s) (cs s)) : lp_X9_about_120 G M (R 0) (nI (ns s)) FU (nI 0) (nI 0) = some (nI (ct (fun i => lsB (cL (cs s) (ns s)) (ns s) i && clB (cL (cs s) (ns s)) (ns s) i) (ns s))) := by
  obtain ⟨hg, c1, c2, c3⟩ := slo_c h hs hn
  have hn8 := hg.2.1
  have k0 : isK G (R 0) 9 := h.1.2.1 0 (by decide)
  have h8 := he.2.2
  have hle := ct_le (lsB (cL (cs s) (ns s)) (ns s)) (ns s)
  rw [← hps_ct hn8]
  refine lpF (fun f (x : Int32) i3 => lp_X9_about_120 G M (R 0) (nI (ns s)) f x i3) (fun j => nI (ct (clh (cs s) (ns s)) j)) (ct (lsB (cL (cs s) (ns s)) (ns s)) (ns s)) _ (by omega) (fun f j hj => ?_) (fun f => ?_)
  · have ec := risClosed_eq (h := j) h.1 h.2.1 hn8 he (by omega)
    rw [lp_X9_about_120, bd_X9_about_120]
    rw [ct_s]
    by_cases hc : clh (cs s) (ns s) j = true
    · rw [hc] at ec
      simp (disch := first | assumption | omega | (refine inb_n ?_ ?_ <;> omega) | fail) only [ck_t, Option.bind_some, iLeP, iLeN, iLtP, iLtN, iEqP, iEqN, nI_1, pk_mul, nI_add, cl_n, zI0, zI1, zI8, bI_z, if_true_eq, if_false_eq, if_true, if_false, h8, ec, hc]
    · rw [Bool.not_eq_true] at hc
      rw [hc] at ec
      simp (disch := first | assumption | omega | (refine inb_n ?_ ?_ <;> omega) | fail) only [ck_t, Option.bind_some, iLeP, iLeN, iLtP, iLtN, iEqP, iEqN, nI_1, pk_mul, nI_add, cl_n, zI0, zI1, zI8, bI_z, if_true_eq, if_false_eq, if_true, if_false, h8, ec, hc]
      rfl
  · rw [lp_X9_about_120, bd_X9_about_120]
    simp (disch := first | assumption | omega | (refine inb_n ?_ ?_ <;> omega) | fail) only [ck_t, Option.bind_some, iLeP, iLeN, iLtP, iLtN, iEqP, iEqN, nI_1, pk_mul, nI_add, cl_n, zI0, zI1, zI8, bI_z, if_true_eq, if_false_eq, if_true, if_false, h8]
theorem rabout_p (h : rRI G M R tl tv ol ov ns qs cs) {s : Nat} (hs : s < 6) (hn : 0 < ns s) (i : Int32) : OK (f_X9_about G M (R 0) (nI s) i) (fun r => r.1 = abt (ns s) (qs s) (cs s) i ∧ rRI G r.2 R tl tv ol ov ns qs cs ∧ unt M r.2 R 17) := by
  obtain ⟨z1, z2⟩ := thr_0 h (nI 0)
  obtain ⟨hg, c1, c2, c3⟩ := slo_c z1 hs hn
  have hn8 := hg.2.1
  have hq1 := hg.2.2.1
  have hq2 := hg.2.2.2.1
  have k0 : isK G (R 0) 9 := h.1.2.1 0 (by decide)
  have k2 : isK G (R 2) 10 := h.1.2.1 2 (by decide)
  have l2 : G.2.2 (R 2) = 7 := h.1.2.2 2 (by decide) (by decide)
  have k3 : isK G (R 3) 10 := h.1.2.1 3 (by decide)
  have l3 : G.2.2 (R 3) = 7 := h.1.2.2 3 (by decide) (by decide)
  have r3 := z1.2.1.2.1
  have r4 := z1.2.1.2.2.1
  have e1 := rhas_p z1 hs hn
  obtain ⟨tr, et, t, rfl, ht⟩ := rtimes_ok z1 hs hn
  have : t = lT (qs s) := isLT_un hq1 ht (lT_ok hq1 hq2)
  subst this
  obtain ⟨M1, a1, a2, a3⟩ := reach_ok z1 hs hn
  have hI1 := rRI_r z1 a2
  have u1 : unt M M1 R 17 := unt_tr z2 (unt_r a2)
  have h8 := a3.2.2
  have hle := ct_le (lsB (cL (cs s) (ns s)) (ns s)) (ns s)
  have hge := hps_pos (c := cs s) hg.1
  have e5 := rbeat_eq hI1 hs hn (show 0 < ns s by omega)
  have bb : (btS (cN (cs s) (ns s)) (ns s) 0 (3 * ns s)).2 ≤ 3 * ns s := (btS_b (N := cN (cs s) (ns s)) (fun i => mkS_lt _ _) (show 0 < ns s by omega) (3 * ns s)).2
  by_cases c0 : i = nI 0
  · subst c0
    refine ⟨(nI (ns s), mwI M (R 0) 0 (nI 0)), ?_, rfl, z1, z2⟩
    unfold f_X9_about
    simp (disch := first | assumption | omega | (refine inb_n ?_ ?_ <;> omega) | fail) only [ck_t, Option.bind_some, iLeP, iLeN, iLtP, iLtN, iEqP, iEqN, nI_1, pk_mul, nI_add, cl_n, zI0, zI1, zI8, bI_z, if_true_eq, if_false_eq, if_true, if_false, e1, nz6, r3, l2, c1]
  by_cases d1 : i = nI 1
  · subst d1
    refine ⟨(nI (qs s), mwI M (R 0) 0 (nI 0)), ?_, rfl, z1, z2⟩
    unfold f_X9_about
    simp (disch := first | assumption | omega | (refine inb_n ?_ ?_ <;> omega) | fail) only [ck_t, Option.bind_some, iLeP, iLeN, iLtP, iLtN, iEqP, iEqN, nI_1, pk_mul, nI_add, cl_n, zI0, zI1, zI8, bI_z, if_true_eq, if_false_eq, if_true, if_false, e1, nz6, r3, l2, r4, l3, c2]
  by_cases d4 : i = nI 4
  · subst d4
    refine ⟨(nI (lT (qs s)), mwI M (R 0) 0 (nI 0)), ?_, rfl, z1, z2⟩
    unfold f_X9_about
    simp (disch := first | assumption | omega | (refine inb_n ?_ ?_ <;> omega) | fail) only [ck_t, Option.bind_some, iLeP, iLeN, iLtP, iLtN, iEqP, iEqN, nI_1, pk_mul, nI_add, cl_n, zI0, zI1, zI8, bI_z, if_true_eq, if_false_eq, if_true, if_false, e1, nz6, nz4, r3, l2, et]
  by_cases d2 : i = nI 2
  · subst d2
    refine ⟨(nI (ct (lsB (cL (cs s) (ns s)) (ns s)) (ns s)), M1), ?_, rfl, hI1, u1⟩
    unfold f_X9_about
    simp (disch := first | assumption | omega | (refine inb_n ?_ ?_ <;> omega) | fail) only [ck_t, Option.bind_some, iLeP, iLeN, iLtP, iLtN, iEqP, iEqN, nI_1, pk_mul, nI_add, cl_n, zI0, zI1, zI8, bI_z, if_true_eq, if_false_eq, if_true, if_false, e1, nz6, nz4, nz2, r3, l2, a1, h8]
  by_cases d3 : i = nI 3
  · subst d3
    have e3 := ractab hI1 hs hn a3
    refine ⟨(nI (ct (fun i => lsB (cL (cs s) (ns s)) (ns s) i && clB (cL (cs s) (ns s)) (ns s) i) (ns s)), M1), ?_, rfl, hI1, u1⟩
    unfold f_X9_about
    simp (disch := first | assumption | omega | (refine inb_n ?_ ?_ <;> omega) | fail) only [ck_t, Option.bind_some, iLeP, iLeN, iLtP, iLtN, iEqP, iEqN, nI_1, pk_mul, nI_add, cl_n, zI0, zI1, zI8, bI_z, if_true_eq, if_false_eq, if_true, if_false, e1, nz6, nz5, nz4, nz3, nz2, r3, l2, c1, a1, e3]
  by_cases d5 : i = nI 5
  · subst d5
    by_cases hw : ct (lsB (cL (cs s) (ns s)) (ns s)) (ns s) = 1
    · by_cases hb : (btS (cN (cs s) (ns s)) (ns s) 0 (3 * ns s)).2 = 1
      · refine ⟨(nI 2, M1), ?_, ?_, hI1, u1⟩
        · rw [hb] at e5
          rw [hw] at h8
          unfold f_X9_about
          simp (disch := first | assumption | omega | (refine inb_n ?_ ?_ <;> omega) | fail) only [ck_t, Option.bind_some, iLeP, iLeN, iLtP, iLtN, iEqP, iEqN, nI_1, pk_mul, nI_add, cl_n, zI0, zI1, zI8, bI_z, if_true_eq, if_false_eq, if_true, if_false, e1, nz6, nz5, nz4, nz3, nz2, r3, l2, c1, a1, h8, e5]
        · show nI 2 = nI (if _ then if _ then 2 else 1 else 0)
          rw [if_pos hw, if_pos hb]
      · refine ⟨(nI 1, M1), ?_, ?_, hI1, u1⟩
        · rw [hw] at h8
          unfold f_X9_about
          simp (disch := first | assumption | omega | (refine inb_n ?_ ?_ <;> omega) | fail) only [ck_t, Option.bind_some, iLeP, iLeN, iLtP, iLtN, iEqP, iEqN, nI_1, pk_mul, nI_add, cl_n, zI0, zI1, zI8, bI_z, if_true_eq, if_false_eq, if_true, if_false, e1, nz6, nz5, nz4, nz3, nz2, r3, l2, c1, a1, h8, e5]
          exact if_neg (fun e => hb ((nI_eq (by omega) (by decide)).mp e))
        · show nI 1 = nI (if _ then if _ then 2 else 1 else 0)
          rw [if_pos hw, if_neg hb]
    · refine ⟨(nI 0, M1), ?_, ?_, hI1, u1⟩
      · unfold f_X9_about
        simp (disch := first | assumption | omega | (refine inb_n ?_ ?_ <;> omega) | fail) only [ck_t, Option.bind_some, iLeP, iLeN, iLtP, iLtN, iEqP, iEqN, nI_1, pk_mul, nI_add, cl_n, zI0, zI1, zI8, bI_z, if_true_eq, if_false_eq, if_true, if_false, e1, nz6, nz5, nz4, nz3, nz2, r3, l2, c1, a1, h8]
      · show nI 0 = nI (if _ then if _ then 2 else 1 else 0)
        rw [if_neg hw]
  by_cases d6 : i = nI 6
  · subst d6
    by_cases hw : ct (lsB (cL (cs s) (ns s)) (ns s)) (ns s) = 1
    · obtain ⟨M2, b1, b2, g, b3⟩ := weigh_ok (h0 := 0) hI1 hs hn a3 (by decide) (wh_bs hw) (wh_one hw)
      have hI2 := rRI_r hI1 b2
      have e6 := rbw_eq hI2 hs hn b3
      refine ⟨(bI (decide (ct (lsB (cL (cs s) (ns s)) (ns s)) (ns s) = 1) && alB (fun i => alB (bwP (cW (ns s) (qs s) (cs s)) (cs s) i) i) (ns s)), M2), ?_, rfl, hI2, unt_tr u1 (unt_r b2)⟩
      rw [decide_eq_true hw, Bool.true_and, ← bI_ifM]
      rw [hw] at h8
      unfold f_X9_about
      simp (disch := first | assumption | omega | (refine inb_n ?_ ?_ <;> omega) | fail) only [ck_t, Option.bind_some, iLeP, iLeN, iLtP, iLtN, iEqP, iEqN, nI_1, pk_mul, nI_add, cl_n, zI0, zI1, zI8, bI_z, if_true_eq, if_false_eq, if_true, if_false, e1, nz6, nz5, nz4, nz3, nz2, r3, l2, c1, a1, h8, b1, e6]
    · refine ⟨(nI 0, M1), ?_, ?_, hI1, u1⟩
      · unfold f_X9_about
        simp (disch := first | assumption | omega | (refine inb_n ?_ ?_ <;> omega) | fail) only [ck_t, Option.bind_some, iLeP, iLeN, iLtP, iLtN, iEqP, iEqN, nI_1, pk_mul, nI_add, cl_n, zI0, zI1, zI8, bI_z, if_true_eq, if_false_eq, if_true, if_false, e1, nz6, nz5, nz4, nz3, nz2, r3, l2, c1, a1, h8]
      · show nI 0 = bI (decide _ && _)
        rw [decide_eq_false hw]
        rfl
  refine ⟨(-1, mwI M (R 0) 0 (nI 0)), ?_, ?_, z1, z2⟩
  · unfold f_X9_about
    rcases int_c i with hneg | ⟨j, hj, rfl⟩
    · rw [ck_t k0]
      refine (congrArg (Option.bind · _) e1).trans ?_
      rw [Option.bind_some, if_neg (by decide)]
      exact if_pos hneg
    · have : 6 < j := by
        rcases Nat.lt_or_ge 6 j with h | h
        · exact h
        · have : j = 0 ∨ j = 1 ∨ j = 2 ∨ j = 3 ∨ j = 4 ∨ j = 5 ∨ j = 6 := by omega
          rcases this with rfl | rfl | rfl | rfl | rfl | rfl | rfl
          · exact absurd rfl c0
          · exact absurd rfl d1
          · exact absurd rfl d2
          · exact absurd rfl d3
          · exact absurd rfl d4
          · exact absurd rfl d5
          · exact absurd rfl d6
      simp (disch := first | assumption | omega | (refine inb_n ?_ ?_ <;> omega) | fail) only [ck_t, Option.bind_some, iLeP, iLeN, iLtP, iLtN, iEqP, iEqN, nI_1, pk_mul, nI_add, cl_n, zI0, zI1, zI8, bI_z, if_true_eq, if_false_eq, if_true, if_false, e1, nz6]
  · unfold abt
    rw [if_neg c0, if_neg d1, if_neg d2, if_neg d3, if_neg d4, if_neg d5, if_neg d6]
theorem rabout_n (h : rRI G M R tl tv ol ov ns qs cs) {i1 : Int32} (hx : ¬ slo ns i1) (i : Int32) : f_X9_about G M (R 0) i1 i = some (-1, mwI M (R 0) 0 (nI 0)) := by
  obtain ⟨z1, z2⟩ := thr_0 h (nI 0)
  have k0 : isK G (R 0) 9 := h.1.2.1 0 (by decide)
  have e1 := rhas_n z1 hx
  unfold f_X9_about
  simp (disch := first | assumption | omega | (refine inb_n ?_ ?_ <;> omega) | fail) only [ck_t, Option.bind_some, iLeP, iLeN, iLtP, iLtN, iEqP, iEqN, nI_1, pk_mul, nI_add, cl_n, zI0, zI1, zI8, bI_z, if_true_eq, if_false_eq, if_true, if_false, e1]
theorem risState_p (h : rRI G M R tl tv ol ov ns qs cs) {s j : Nat} (hs : s < 6) (hn : 0 < ns s) (hj : j < ns s) : f_X9_isState G M (R 0) (nI s) (nI j) = some (nI 1) := by
  obtain ⟨hg, c1, c2, c3⟩ := slo_c h hs hn
  have hn8 := hg.2.1
  have k0 : isK G (R 0) 9 := h.1.2.1 0 (by decide)
  have k2 : isK G (R 2) 10 := h.1.2.1 2 (by decide)
  have l2 : G.2.2 (R 2) = 7 := h.1.2.2 2 (by decide) (by decide)
  have r3 := h.2.1.2.1
  have e1 := rhas_p h hs hn
  unfold f_X9_isState
  simp (disch := first | assumption | omega | (refine inb_n ?_ ?_ <;> omega) | fail) only [ck_t, Option.bind_some, iLeP, iLeN, iLtP, iLtN, iEqP, iEqN, nI_1, pk_mul, nI_add, cl_n, zI0, zI1, zI8, bI_z, if_true_eq, if_false_eq, if_true, if_false, e1, r3, l2, c1]
theorem risState_n (h : rRI G M R tl tv ol ov ns qs cs) {i1 i2 : Int32} (hx : ¬ ∃ s, s < 6 ∧ i1 = nI s ∧ 0 < ns s ∧ stt (ns s) i2) : f_X9_isState G M (R 0) i1 i2 = some (nI 0) := by
  have k0 : isK G (R 0) 9 := h.1.2.1 0 (by decide)
  by_cases h1 : slo ns i1
  · obtain ⟨s, hs, rfl, hn⟩ := h1
    obtain ⟨hg, c1, c2, c3⟩ := slo_c h hs hn
    have hn8 := hg.2.1
    have k2 : isK G (R 2) 10 := h.1.2.1 2 (by decide)
    have l2 : G.2.2 (R 2) = 7 := h.1.2.2 2 (by decide) (by decide)
    have r3 := h.2.1.2.1
    have e1 := rhas_p h hs hn
    unfold f_X9_isState
    rcases int_c i2 with hneg | ⟨j, hj, rfl⟩
    · simp (disch := first | assumption | omega | (refine inb_n ?_ ?_ <;> omega) | fail) only [ck_t, Option.bind_some, iLeP, iLeN, iLtP, iLtN, iEqP, iEqN, nI_1, pk_mul, nI_add, cl_n, zI0, zI1, zI8, bI_z, if_true_eq, if_false_eq, if_true, if_false, e1]
      exact if_pos hneg
    · have : ns s ≤ j := by
        rcases Nat.lt_or_ge j (ns s) with h2 | h2
        · exact absurd ⟨s, hs, rfl, hn, j, h2, rfl⟩ hx
        · exact h2
      simp (disch := first | assumption | omega | (refine inb_n ?_ ?_ <;> omega) | fail) only [ck_t, Option.bind_some, iLeP, iLeN, iLtP, iLtN, iEqP, iEqN, nI_1, pk_mul, nI_add, cl_n, zI0, zI1, zI8, bI_z, if_true_eq, if_false_eq, if_true, if_false, e1, r3, l2, c1]
  · have e1 := rhas_n h h1
    unfold f_X9_isState
    simp (disch := first | assumption | omega | (refine inb_n ?_ ?_ <;> omega) | fail) only [ck_t, Option.bind_some, iLeP, iLeN, iLtP, iLtN, iEqP, iEqN, nI_1, pk_mul, nI_add, cl_n, zI0, zI1, zI8, bI_z, if_true_eq, if_false_eq, if_true, if_false, e1]
theorem rstate_p (h : rRI G M R tl tv ol ov ns qs cs) {s j : Nat} (hs : s < 6) (hn : 0 < ns s) (hj : j < ns s) (i : Int32) : OK (f_X9_state G M (R 0) (nI s) (nI j) i) (fun r => r.1 = sta (ns s) (cs s) j i ∧ rRI G r.2 R tl tv ol ov ns qs cs ∧ unt M r.2 R 17) := by
  obtain ⟨z1, z2⟩ := thr_0 h (nI 0)
  obtain ⟨hg, c1, c2, c3⟩ := slo_c z1 hs hn
  have hn8 := hg.2.1
  have k0 : isK G (R 0) 9 := h.1.2.1 0 (by decide)
  have k2 : isK G (R 2) 10 := h.1.2.1 2 (by decide)
  have l2 : G.2.2 (R 2) = 7 := h.1.2.2 2 (by decide) (by decide)
  have k6 : isK G (R 6) 10 := h.1.2.1 6 (by decide)
  have l6 : G.2.2 (R 6) = 8 := h.1.2.2 6 (by decide) (by decide)
  have e1 := risState_p z1 hs hn hj
  have e2 := rbeat_eq z1 hs hn hj
  obtain ⟨M1, a1, a2, a3⟩ := reach_ok z1 hs hn
  have hI1 := rRI_r z1 a2
  have u1 : unt M M1 R 17 := unt_tr z2 (unt_r a2)
  have e6 := a3.2.1 j hj
  have hl := hnm_8 (c := cs s) (n := ns s) j
  have r7 := hI1.2.1.2.2.2.2.2.1
  have r3 := hI1.2.1.2.1
  have c1' := (slo_c hI1 hs hn).2.1
  by_cases d2 : i = nI 2
  · subst d2
    refine ⟨(nI (btS (cN (cs s) (ns s)) (ns s) j (3 * ns s)).2, mwI M (R 0) 0 (nI 0)), ?_, rfl, z1, z2⟩
    unfold f_X9_state
    simp (disch := first | assumption | omega | (refine inb_n ?_ ?_ <;> omega) | fail) only [ck_t, Option.bind_some, iLeP, iLeN, iLtP, iLtN, iEqP, iEqN, nI_1, pk_mul, nI_add, cl_n, zI0, zI1, zI8, bI_z, if_true_eq, if_false_eq, if_true, if_false, e1, nz2, e2]
  by_cases d0 : i = nI 0
  · subst d0
    refine ⟨(nI (hnm (cs s) (ns s) j), M1), ?_, rfl, hI1, u1⟩
    unfold f_X9_state
    simp (disch := first | assumption | omega | (refine inb_n ?_ ?_ <;> omega) | fail) only [ck_t, Option.bind_some, iLeP, iLeN, iLtP, iLtN, iEqP, iEqN, nI_1, pk_mul, nI_add, cl_n, zI0, zI1, zI8, bI_z, if_true_eq, if_false_eq, if_true, if_false, e1, nz2, a1, r7, l6, e6]
  by_cases d1 : i = nI 1
  · subst d1
    have ec := risClosed_eq (h := hnm (cs s) (ns s) j) hI1.1 hI1.2.1 hn8 a3 (by omega)
    rw [clh_eq hn8 hj] at ec
    refine ⟨(bI (clB (cL (cs s) (ns s)) (ns s) j), M1), ?_, rfl, hI1, u1⟩
    rw [← bI_ifM]
    unfold f_X9_state
    simp (disch := first | assumption | omega | (refine inb_n ?_ ?_ <;> omega) | fail) only [ck_t, Option.bind_some, iLeP, iLeN, iLtP, iLtN, iEqP, iEqN, nI_1, pk_mul, nI_add, cl_n, zI0, zI1, zI8, bI_z, if_true_eq, if_false_eq, if_true, if_false, e1, nz2, a1, r3, l2, c1', r7, l6, e6, ec]
  refine ⟨(-1, mwI M (R 0) 0 (nI 0)), ?_, ?_, z1, z2⟩
  · unfold f_X9_state
    rcases int_c i with hneg | ⟨k, hk, rfl⟩
    · simp (disch := first | assumption | omega | (refine inb_n ?_ ?_ <;> omega) | fail) only [ck_t, Option.bind_some, iLeP, iLeN, iLtP, iLtN, iEqP, iEqN, nI_1, pk_mul, nI_add, cl_n, zI0, zI1, zI8, bI_z, if_true_eq, if_false_eq, if_true, if_false, e1]
      exact if_pos hneg
    · have : 2 < k := by
        rcases Nat.lt_or_ge 2 k with h | h
        · exact h
        · have : k = 0 ∨ k = 1 ∨ k = 2 := by omega
          rcases this with rfl | rfl | rfl
          · exact absurd rfl d0
          · exact absurd rfl d1
          · exact absurd rfl d2
      simp (disch := first | assumption | omega | (refine inb_n ?_ ?_ <;> omega) | fail) only [ck_t, Option.bind_some, iLeP, iLeN, iLtP, iLtN, iEqP, iEqN, nI_1, pk_mul, nI_add, cl_n, zI0, zI1, zI8, bI_z, if_true_eq, if_false_eq, if_true, if_false, e1, nz2]
  · unfold sta
    rw [if_neg d0, if_neg d1, if_neg d2]
theorem rstate_n (h : rRI G M R tl tv ol ov ns qs cs) {i1 i2 : Int32} (hx : ¬ ∃ s, s < 6 ∧ i1 = nI s ∧ 0 < ns s ∧ stt (ns s) i2) (i : Int32) : f_X9_state G M (R 0) i1 i2 i = some (-1, mwI M (R 0) 0 (nI 0)) := by
  obtain ⟨z1, z2⟩ := thr_0 h (nI 0)
  have k0 : isK G (R 0) 9 := h.1.2.1 0 (by decide)
  have e1 := risState_n z1 hx
  unfold f_X9_state
  simp (disch := first | assumption | omega | (refine inb_n ?_ ?_ <;> omega) | fail) only [ck_t, Option.bind_some, iLeP, iLeN, iLtP, iLtN, iEqP, iEqN, nI_1, pk_mul, nI_add, cl_n, zI0, zI1, zI8, bI_z, if_true_eq, if_false_eq, if_true, if_false, e1]
end
