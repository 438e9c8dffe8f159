/-! the reference: a heap's states, closed heaps, beats, times -/
section
variable {G : Gg} {M : Mm} {R : Nat → Nat} {tl : Nat} {tv : Nat → Nat} {ol : Nat} {ov ns qs : Nat → Nat} {cs : Nat → Nat → Nat → Nat}
def bsH (c : Nat → Nat → Nat) (n h : Nat) : Nat := mkS (fun j => decide (hnm c n j = h)) n
theorem bitsOf_eq (hs : shR G R) (hr : rfR M R) {n : Nat} {c : Nat → Nat → Nat} (hn : n ≤ 8) (he : reS M R n c) {h : Nat} (hh : h < 2 ^ 31) : f_X9_bitsOf G M (R 0) (nI n) (nI h) = some (nI (bsH c n h)) := by
  have k0 : isK G (R 0) 9 := hs.2.1 0 (by decide)
  have k6 : isK G (R 6) 10 := hs.2.1 6 (by decide)
  have l6 : G.2.2 (R 6) = 8 := hs.2.2 6 (by decide) (by decide)
  have r7 := hr.2.2.2.2.2.1
  have e := lpF (fun f (x : Int32) i3 => lp_X9_bitsOf_5 G M (R 0) (nI n) (nI h) f x i3) (fun j => nI (mkS (fun j => decide (hnm c n j = h)) j)) n (nI (bsH c n h)) (by omega) (fun f j hj => by
    have e1 := he.2.1 j hj
    have hl := hnm_8 (c := c) (n := n) j
    have es := sh_1 (show j < 31 by omega)
    rw [zI1] at es
    rw [lp_X9_bitsOf_5, bd_X9_bitsOf_5]
    rw [mkS_s]
    by_cases hc : hnm c n j = h
    · rw [decide_eq_true hc]
      simp (disch := first | assumption | omega | (refine inb_n ?_ ?_ <;> omega) | fail) only [ck_t, Option.bind_some, iLeP, iLeN, iLtP, iLtN, iEqP, iEqN, nI_1, pk_mul, nI_add, cl_n, zI0, zI1, zI8, bI_z, if_true_eq, if_false_eq, if_true, if_false, r7, l6, e1, es, nI_or]
    · rw [decide_eq_false hc]
      simp (disch := first | assumption | omega | (refine inb_n ?_ ?_ <;> omega) | fail) only [ck_t, Option.bind_some, iLeP, iLeN, iLtP, iLtN, iEqP, iEqN, nI_1, pk_mul, nI_add, cl_n, zI0, zI1, zI8, bI_z, if_true_eq, if_false_eq, if_true, if_false, r7, l6, e1]
      simp) (fun f => by
    rw [lp_X9_bitsOf_5, bd_X9_bitsOf_5]
    simp (disch := first | assumption | omega | (refine inb_n ?_ ?_ <;> omega) | fail) only [ck_t, Option.bind_some, iLeP, iLeN, iLtP, iLtN, iEqP, iEqN, nI_1, pk_mul, nI_add, cl_n, zI0, zI1, zI8, bI_z, if_true_eq, if_false_eq, if_true, if_false]
    rfl)
  unfold f_X9_bitsOf
  rw [zI0]
  exact (congrArg (Option.bind · _) e)
theorem risClosed_eq (hs : shR G R) (hr : rfR M R) {n : Nat} {c : Nat → Nat → Nat} (hn : n ≤ 8) (he : reS M R n c) {h : Nat} (hh : h < 2 ^ 31) : f_X9_isClosed G M (R 0) (nI n) (nI h) = some (bI (clh c n h)) := by
  have k0 : isK G (R 0) 9 := hs.2.1 0 (by decide)
  have k5 : isK G (R 5) 10 := hs.2.1 5 (by decide)
  have l5 : G.2.2 (R 5) = 8 := hs.2.2 5 (by decide) (by decide)
  have k6 : isK G (R 6) 10 := hs.2.1 6 (by decide)
  have l6 : G.2.2 (R 6) = 8 := hs.2.2 6 (by decide) (by decide)
  have r7 := hr.2.2.2.2.2.1
  have r6 := hr.2.2.2.2.1
  have eb := bitsOf_eq hs hr hn he hh
  have b8 := p2_31 hn
  have e := lpI (fun f i3 (x : Unit) => lp_X9_isClosed_10 G M (R 0) (nI n) (nI h) (nI (bsH c n h)) f i3) (fun j _ => alB (fun i => !(decide (hnm c n i = h)) || decide (sdf (rL c n i) (bsH c n h) = 0)) j = true) n (fun r => (r = .inl (nI 0) ∧ clh c n h = false) ∨ (r = .inr () ∧ clh c n h = true)) (by omega) (fun f j x hj hx => by
    have e1 := he.2.1 j hj
    have e2 := he.1 j hj
    have hl := hnm_8 (c := c) (n := n) j
    have hle := sdf_le (rL c n j) (bsH c n h)
    have hlt := rL_lt c n j
    by_cases hc : hnm c n j = h
    · by_cases hz : sdf (rL c n j) (bsH c n h) = 0
      · left
        refine ⟨(), ?_, ?_⟩
        · show alB _ (j + 1) = true
          rw [alB_s, hx, hz]
          simp
        · rw [lp_X9_isClosed_10, bd_X9_isClosed_10]
          simp (disch := first | assumption | omega | (refine inb_n ?_ ?_ <;> omega) | fail) only [ck_t, Option.bind_some, iLeP, iLeN, iLtP, iLtN, iEqP, iEqN, nI_1, pk_mul, nI_add, cl_n, zI0, zI1, zI8, bI_z, if_true_eq, if_false_eq, if_true, if_false, r7, l6, e1, r6, l5, e2, nI_com', nI_sdf, hz]
      · right
        refine ⟨.inl (nI 0), ?_, Or.inl ⟨rfl, ?_⟩⟩
        · rw [lp_X9_isClosed_10, bd_X9_isClosed_10]
          simp (disch := first | assumption | omega | (refine inb_n ?_ ?_ <;> omega) | fail) only [ck_t, Option.bind_some, iLeP, iLeN, iLtP, iLtN, iEqP, iEqN, nI_1, pk_mul, nI_add, cl_n, zI0, zI1, zI8, bI_z, if_true_eq, if_false_eq, if_true, if_false, r7, l6, e1, r6, l5, e2, nI_com', nI_sdf]
        · rw [← Bool.not_eq_true]
          unfold clh
          rw [alB_t]
          intro hh
          have h3 := hh j hj
          rw [decide_eq_true hc] at h3
          have h4 : (!true || decide (sdf (rL c n j) (bsH c n h) = 0)) = true := h3
          rw [decide_eq_false hz] at h4
          cases h4
    · left
      refine ⟨(), ?_, ?_⟩
      · show alB _ (j + 1) = true
        rw [alB_s, hx, decide_eq_false hc]
        rfl
      · rw [lp_X9_isClosed_10, bd_X9_isClosed_10]
        simp (disch := first | assumption | omega | (refine inb_n ?_ ?_ <;> omega) | fail) only [ck_t, Option.bind_some, iLeP, iLeN, iLtP, iLtN, iEqP, iEqN, nI_1, pk_mul, nI_add, cl_n, zI0, zI1, zI8, bI_z, if_true_eq, if_false_eq, if_true, if_false, r7, l6, e1]) (fun f x hx => by
    refine ⟨.inr (), ?_, Or.inr ⟨rfl, hx⟩⟩
    rw [lp_X9_isClosed_10, bd_X9_isClosed_10]
    simp (disch := first | assumption | omega | (refine inb_n ?_ ?_ <;> omega) | fail) only [ck_t, Option.bind_some, iLeP, iLeN, iLtP, iLtN, iEqP, iEqN, nI_1, pk_mul, nI_add, cl_n, zI0, zI1, zI8, bI_z, if_true_eq, if_false_eq, if_true, if_false]) (j0 := 0) (x := ()) (by omega) rfl
  obtain ⟨r, e1, e2⟩ := e
  unfold f_X9_isClosed
  rw [ck_t k0, eb, Option.bind_some, zI0, e1, Option.bind_some]
  rcases e2 with ⟨rfl, e2⟩ | ⟨rfl, e2⟩
  · rw [e2]; rfl
  · rw [e2]; rfl
theorem closedOne_ok (hs : shR G R) (hr : rfR M R) {n : Nat} {c : Nat → Nat → Nat} (hn : n ≤ 8) (he : reS M R n c) : OK (f_X9_closedOne G M (R 0) (nI n)) (fun r => (r = -nI 1 ∧ ct (clh c n) (ct (lsB (cL c n) n) n) ≠ 1) ∨ (∃ h, h < ct (lsB (cL c n) n) n ∧ r = nI h ∧ clh c n h = true ∧ ct (clh c n) (ct (lsB (cL c n) n) n) = 1)) := by
  have k0 : isK G (R 0) 9 := hs.2.1 0 (by decide)
  have h8 := he.2.2
  have hle := ct_le (lsB (cL c n) n) n
  have e := lpI (fun f i3 (x : Int32) => lp_X9_closedOne_4 G M (R 0) (nI n) f x i3) (fun j x => (x = -nI 1 ∧ ct (clh c n) j = 0) ∨ (∃ h, h < j ∧ x = nI h ∧ clh c n h = true ∧ ct (clh c n) j = 1)) (ct (lsB (cL c n) n) n) (fun r => (r = .inl (-nI 1) ∧ ct (clh c n) (ct (lsB (cL c n) n) n) ≠ 1) ∨ (∃ x, r = .inr x ∧ ((x = -nI 1 ∧ ct (clh c n) (ct (lsB (cL c n) n) n) = 0) ∨ (∃ h, h < ct (lsB (cL c n) n) n ∧ x = nI h ∧ clh c n h = true ∧ ct (clh c n) (ct (lsB (cL c n) n) n) = 1)))) (by omega) (fun f j x hj hx => by
    have ec := risClosed_eq (h := j) hs hr hn he (by omega)
    by_cases hc : clh c n j = true
    · rw [hc] at ec
      rcases hx with ⟨rfl, h0⟩ | ⟨h, h1, rfl, h2, h3⟩
      · left
        refine ⟨nI j, Or.inr ⟨j, by omega, rfl, hc, ?_⟩, ?_⟩
        · rw [ct_s, hc, h0]; rfl
        · rw [lp_X9_closedOne_4, bd_X9_closedOne_4]
          simp (disch := first | assumption | omega | (refine inb_n ?_ ?_ <;> omega) | fail) only [ck_t, Option.bind_some, iLeP, iLeN, iLtP, iLtN, iEqP, iEqN, nI_1, pk_mul, nI_add, cl_n, zI0, zI1, zI8, bI_z, if_true_eq, if_false_eq, if_true, if_false, h8, ec]
      · right
        refine ⟨.inl (-nI 1), ?_, Or.inl ⟨rfl, ?_⟩⟩
        · rw [lp_X9_closedOne_4, bd_X9_closedOne_4]
          simp (disch := first | assumption | omega | (refine inb_n ?_ ?_ <;> omega) | fail) only [ck_t, Option.bind_some, iLeP, iLeN, iLtP, iLtN, iEqP, iEqN, nI_1, pk_mul, nI_add, cl_n, zI0, zI1, zI8, bI_z, if_true_eq, if_false_eq, if_true, if_false, h8, ec, m1N]
        · have := ct_mono (clh c n) (show j + 1 ≤ ct (lsB (cL c n) n) n by omega)
          rw [ct_s, hc, h3, if_pos rfl] at this
          omega
    · rw [Bool.not_eq_true] at hc
      rw [hc] at ec
      left
      refine ⟨x, ?_, ?_⟩
      · rw [ct_s, hc, if_neg (by decide)]
        rcases hx with hx | ⟨h, h1, h2⟩
        · exact Or.inl hx
        · exact Or.inr ⟨h, by omega, h2⟩
      · rw [lp_X9_closedOne_4, bd_X9_closedOne_4]
        simp (disch := first | assumption | omega | (refine inb_n ?_ ?_ <;> omega) | fail) only [ck_t, Option.bind_some, iLeP, iLeN, iLtP, iLtN, iEqP, iEqN, nI_1, pk_mul, nI_add, cl_n, zI0, zI1, zI8, bI_z, if_true_eq, if_false_eq, if_true, if_false, h8, ec]) (fun f x hx => by
    refine ⟨.inr x, ?_, Or.inr ⟨x, rfl, hx⟩⟩
    rw [lp_X9_closedOne_4, bd_X9_closedOne_4]
    simp (disch := first | assumption | omega | (refine inb_n ?_ ?_ <;> omega) | fail) only [ck_t, Option.bind_some, iLeP, iLeN, iLtP, iLtN, iEqP, iEqN, nI_1, pk_mul, nI_add, cl_n, zI0, zI1, zI8, bI_z, if_true_eq, if_false_eq, if_true, if_false, h8]) (j0 := 0) (x := -nI 1) (by omega) (Or.inl ⟨rfl, rfl⟩)
  obtain ⟨r, e1, e2⟩ := e
  unfold f_X9_closedOne
  have e1' : lp_X9_closedOne_4 G M (R 0) (nI n) FU (-1) (0 : Int32) = some r := e1
  rw [e1', Option.bind_some]
  rcases e2 with ⟨rfl, e2⟩ | ⟨x, rfl, ⟨rfl, e2⟩ | e2⟩
  · exact ⟨_, rfl, Or.inl ⟨rfl, e2⟩⟩
  · exact ⟨_, rfl, Or.inl ⟨rfl, by omega⟩⟩
  · exact ⟨_, rfl, Or.inr e2⟩
theorem unS_c {c : Nat → Nat → Nat} {n S : Nat} : ∀ j, unS (cN c n) S j < 2 ^ n := fun j => unS_lt (fun i => mkS_lt _ _) S j
theorem rbeat_eq (h : rRI G M R tl tv ol ov ns qs cs) {s i : Nat} (hs : s < 6) (hn : 0 < ns s) (hi : i < ns s) : f_X9_beat G M (R 0) (nI s) (nI i) = some (nI (btS (cN (cs s) (ns s)) (ns s) i (3 * ns s)).2) := by
  obtain ⟨hg, c1, c2, c3⟩ := slo_c h hs hn
  have hn8 := hg.2.1
  have k0 : isK G (R 0) 9 := h.1.2.1 0 (by decide)
  have k2 : isK G (R 2) 10 := h.1.2.1 2 (by decide)
  have l2 : G.2.2 (R 2) = 7 := h.1.2.2 2 (by decide) (by decide)
  have r3 := h.2.1.2.1
  have b8 := p2_31 hn8
  have bN : ∀ i, cN (cs s) (ns s) i < 2 ^ ns s := fun i => mkS_lt _ _
  have row : ∀ (j a : Nat) (i2 i4 : Int32) (l5 : Int64) (i7 : Int32), j < ns s → a < 2 ^ ns s → lp_X9_beat_54 G M (R 0) (nI s) i2 (nI (ns s)) i4 l5 i7 (nI j) FU (nI a) (nI 0) = some (nI (a ||| cN (cs s) (ns s) j)) := fun j a i2 i4 l5 i7 hj ha => by
    have e := lpF (fun f (x : Int32) i3 => lp_X9_beat_54 G M (R 0) (nI s) i2 (nI (ns s)) i4 l5 i7 (nI j) f x i3) (fun k => nI (a ||| mkS (cB (cs s) j) k)) (ns s) (nI (a ||| cN (cs s) (ns s) j)) (by omega) (fun f k hk => by
      have ea := rat_c h hs hn hj hk
      have hle := gch_le hg j k
      have hq6 := hg.2.2.2.1
      have es := sh_1 (show k < 31 by omega)
      rw [zI1] at es
      rw [lp_X9_beat_54, bd_X9_beat_54]
      rw [mkS_s]
      by_cases hc : 0 < cs s j k
      · rw [show cB (cs s) j k = true from decide_eq_true hc]
        simp (disch := first | assumption | omega | (refine inb_n ?_ ?_ <;> omega) | fail) only [ck_t, Option.bind_some, iLeP, iLeN, iLtP, iLtN, iEqP, iEqN, nI_1, pk_mul, nI_add, cl_n, zI0, zI1, zI8, bI_z, if_true_eq, if_false_eq, if_true, if_false, ea, es, nI_or]
        rw [Nat.or_assoc]
      · rw [show cB (cs s) j k = false from decide_eq_false hc]
        simp (disch := first | assumption | omega | (refine inb_n ?_ ?_ <;> omega) | fail) only [ck_t, Option.bind_some, iLeP, iLeN, iLtP, iLtN, iEqP, iEqN, nI_1, pk_mul, nI_add, cl_n, zI0, zI1, zI8, bI_z, if_true_eq, if_false_eq, if_true, if_false, ea]
        simp) (fun f => by
      rw [lp_X9_beat_54, bd_X9_beat_54]
      simp (disch := first | assumption | omega | (refine inb_n ?_ ?_ <;> omega) | fail) only [ck_t, Option.bind_some, iLeP, iLeN, iLtP, iLtN, iEqP, iEqN, nI_1, pk_mul, nI_add, cl_n, zI0, zI1, zI8, bI_z, if_true_eq, if_false_eq, if_true, if_false]
      rfl)
    have e0 : a ||| mkS (cB (cs s) j) 0 = a := Nat.or_zero a
    rw [e0] at e
    exact e
  have turn : ∀ (S : Nat) (i2 : Int32) (l5 : Int64) (i7 : Int32), S < 2 ^ ns s → lp_X9_beat_32 G M (R 0) (nI s) i2 (nI (ns s)) (nI S) l5 i7 FU (nI 0) (nI 0) = some (nI (unS (cN (cs s) (ns s)) S (ns s))) := fun S i2 l5 i7 hS => by
    refine lpF (fun f (x : Int32) i3 => lp_X9_beat_32 G M (R 0) (nI s) i2 (nI (ns s)) (nI S) l5 i7 f x i3) (fun k => nI (unS (cN (cs s) (ns s)) S k)) (ns s) _ (by omega) (fun f k hk => ?_) (fun f => ?_)
    · have k1 := unS_c (c := cs s) (n := ns s) (S := S) k
      have er := row k (unS (cN (cs s) (ns s)) S k) i2 (nI S) l5 i7 hk k1
      rw [lp_X9_beat_32, bd_X9_beat_32]
      rw [unS_s]
      by_cases hb : S.testBit k = true
      · rw [hb]
        simp (disch := first | assumption | omega | (refine inb_n ?_ ?_ <;> omega) | fail) only [ck_t, Option.bind_some, iLeP, iLeN, iLtP, iLtN, iEqP, iEqN, nI_1, pk_mul, nI_add, cl_n, zI0, zI1, zI8, bI_z, if_true_eq, if_false_eq, if_true, if_false, bT0N, er]
      · rw [Bool.not_eq_true] at hb
        rw [hb]
        simp (disch := first | assumption | omega | (refine inb_n ?_ ?_ <;> omega) | fail) only [ck_t, Option.bind_some, iLeP, iLeN, iLtP, iLtN, iEqP, iEqN, nI_1, pk_mul, nI_add, cl_n, zI0, zI1, zI8, bI_z, if_true_eq, if_false_eq, if_true, if_false, bT0P]
        simp
    · rw [lp_X9_beat_32, bd_X9_beat_32]
      simp (disch := first | assumption | omega | (refine inb_n ?_ ?_ <;> omega) | fail) only [ck_t, Option.bind_some, iLeP, iLeN, iLtP, iLtN, iEqP, iEqN, nI_1, pk_mul, nI_add, cl_n, zI0, zI1, zI8, bI_z, if_true_eq, if_false_eq, if_true, if_false]
  have e := lpOj (fun f (x : Int32 × Int64) i5 => lp_X9_beat_18 G M (R 0) (nI s) (nI i) (nI (ns s)) f x.1 x.2 i5) (fun j => (nI (btS (cN (cs s) (ns s)) (ns s) i j).1, lN (btS (cN (cs s) (ns s)) (ns s) i j).2)) 1 (3 * ns s) (lN (btS (cN (cs s) (ns s)) (ns s) i (3 * ns s)).2) (fun f j hj => by
    obtain ⟨b1, b2⟩ := btS_b bN hi j
    have et := turn (btS (cN (cs s) (ns s)) (ns s) i j).1 (nI i) (lN (btS (cN (cs s) (ns s)) (ns s) i j).2) (nI (j + 1)) b1
    have b3 := unS_c (c := cs s) (n := ns s) (S := (btS (cN (cs s) (ns s)) (ns s) i j).1) (ns s)
    have eg := cmn_eq (show (btS (cN (cs s) (ns s)) (ns s) i j).2 < 2 ^ 63 by omega) (show j + 1 < 2 ^ 63 by omega)
    rw [lp_X9_beat_18, bd_X9_beat_18]
    by_cases hb : (unS (cN (cs s) (ns s)) (btS (cN (cs s) (ns s)) (ns s) i j).1 (ns s)).testBit i = true
    · simp (disch := first | assumption | omega | (refine inb_n ?_ ?_ <;> omega) | fail) only [ck_t, Option.bind_some, iLeP, iLeN, iLtP, iLtN, iEqP, iEqN, nI_1, pk_mul, nI_add, cl_n, zI0, zI1, zI8, bI_z, if_true_eq, if_false_eq, if_true, if_false, lEqP, lEqN, lGtP, lGtN, lLeP, lLeN, lGeP, lGeN, lLtP, lLtN, lN_mul, lN_add, nI_l, pk_lDiv, pk_lRem, ckl, zL0, zL1, nz3, et, bT1P, eg]
      rw [show (btS (cN (cs s) (ns s)) (ns s) i (j + 1)).2 = Nat.gcd (btS (cN (cs s) (ns s)) (ns s) i j).2 (j + 1) from if_pos hb]
      rfl
    · have hb' := hb
      rw [Bool.not_eq_true] at hb
      simp (disch := first | assumption | omega | (refine inb_n ?_ ?_ <;> omega) | fail) only [ck_t, Option.bind_some, iLeP, iLeN, iLtP, iLtN, iEqP, iEqN, nI_1, pk_mul, nI_add, cl_n, zI0, zI1, zI8, bI_z, if_true_eq, if_false_eq, if_true, if_false, lEqP, lEqN, lGtP, lGtN, lLeP, lLeN, lGeP, lGeN, lLtP, lLtN, lN_mul, lN_add, nI_l, pk_lDiv, pk_lRem, ckl, zL0, zL1, nz3, et, bT1N]
      rw [show (btS (cN (cs s) (ns s)) (ns s) i (j + 1)).2 = (btS (cN (cs s) (ns s)) (ns s) i j).2 from if_neg hb']
      rfl) (fun f => by
    rw [lp_X9_beat_18, bd_X9_beat_18]
    simp (disch := first | assumption | omega | (refine inb_n ?_ ?_ <;> omega) | fail) only [ck_t, Option.bind_some, iLeP, iLeN, iLtP, iLtN, iEqP, iEqN, nI_1, pk_mul, nI_add, cl_n, zI0, zI1, zI8, bI_z, if_true_eq, if_false_eq, if_true, if_false, nz3]) (3 * ns s) 0 FU (by omega) (by rw [FU_big]; omega)
  have es := sh_1 (show i < 31 by omega)
  unfold f_X9_beat
  rw [ck_t k0, r3, Option.bind_some, ck_t k2, l2, ck_t (inb_n (by omega) (by decide)), cl_n (by omega), c1, es, zI1]
  show Option.bind (lp_X9_beat_18 G M (R 0) (nI s) (nI i) (nI (ns s)) FU (nI (2 ^ i)) (lN 0) (nI 1)) _ = _
  refine (congrArg (Option.bind · _) e).trans ?_
  rw [Option.bind_some, lN_i]
theorem rtimes_ok (h : rRI G M R tl tv ol ov ns qs cs) {s : Nat} (hs : s < 6) (hn : 0 < ns s) : OK (f_X9_times G M (R 0) (nI s)) (fun r => ∃ t, r = nI t ∧ isLT (qs s) t) := by
  obtain ⟨hg, c1, c2, c3⟩ := slo_c h hs hn
  have hq1 := hg.2.2.1
  have hq2 := hg.2.2.2.1
  have k0 : isK G (R 0) 9 := h.1.2.1 0 (by decide)
  have k3 : isK G (R 3) 10 := h.1.2.1 3 (by decide)
  have l3 : G.2.2 (R 3) = 7 := h.1.2.2 3 (by decide) (by decide)
  have r4 := h.2.1.2.2.1
  have hz : (1000000000000000 : Int64) = lN 1000000000000000 := rfl
  have e := lpI (fun f i (x : Int64) => lp_X9_times_5 G M (R 0) (nI s) f x i) (fun j x => x = lN (qs s ^ j) ∧ qs s ^ j ≤ 1000000000000000) 20 (fun r => ∃ t, r = nI t ∧ isLT (qs s) t) (by omega) (fun f j x hj hx => by
    obtain ⟨rfl, hx⟩ := hx
    have hdl : 1000000000000000 / qs s ≤ 1000000000000000 := Nat.div_le_self _ _
    by_cases hp : qs s ^ (j + 1) ≤ 1000000000000000
    · left
      refine ⟨lN (qs s ^ (j + 1)), ⟨rfl, hp⟩, ?_⟩
      have hle : qs s ^ j ≤ 1000000000000000 / qs s := by
        rw [Nat.le_div_iff_mul_le (by omega)]
        exact hp
      have hpw : qs s ^ j * qs s = qs s ^ (j + 1) := rfl
      rw [lp_X9_times_5, bd_X9_times_5]
      simp (disch := first | assumption | omega | (refine inb_n ?_ ?_ <;> omega) | fail) only [ck_t, Option.bind_some, iLeP, iLeN, iLtP, iLtN, iEqP, iEqN, nI_1, pk_mul, nI_add, cl_n, zI0, zI1, zI8, bI_z, if_true_eq, if_false_eq, if_true, if_false, lEqP, lEqN, lGtP, lGtN, lLeP, lLeN, lGeP, lGeN, lLtP, lLtN, lN_mul, lN_add, nI_l, pk_lDiv, pk_lRem, ckl, zL0, zL1, nz20, r4, l3, c2, hz, hpw]
    · right
      refine ⟨nI j, ?_, j, rfl, by omega, hx, Or.inr (by omega)⟩
      have hle : 1000000000000000 / qs s < qs s ^ j := by
        rw [Nat.div_lt_iff_lt_mul (by omega)]
        have hpw : qs s ^ j * qs s = qs s ^ (j + 1) := rfl
        omega
      rw [lp_X9_times_5, bd_X9_times_5]
      simp (disch := first | assumption | omega | (refine inb_n ?_ ?_ <;> omega) | fail) only [ck_t, Option.bind_some, iLeP, iLeN, iLtP, iLtN, iEqP, iEqN, nI_1, pk_mul, nI_add, cl_n, zI0, zI1, zI8, bI_z, if_true_eq, if_false_eq, if_true, if_false, lEqP, lEqN, lGtP, lGtN, lLeP, lLeN, lGeP, lGeN, lLtP, lLtN, lN_mul, lN_add, nI_l, pk_lDiv, pk_lRem, ckl, zL0, zL1, nz20, r4, l3, c2, hz]) (fun f x hx => by
    refine ⟨nI 20, ?_, 20, rfl, by omega, hx.2, Or.inl rfl⟩
    rw [lp_X9_times_5, bd_X9_times_5]
    simp (disch := first | assumption | omega | (refine inb_n ?_ ?_ <;> omega) | fail) only [ck_t, Option.bind_some, iLeP, iLeN, iLtP, iLtN, iEqP, iEqN, nI_1, pk_mul, nI_add, cl_n, zI0, zI1, zI8, bI_z, if_true_eq, if_false_eq, if_true, if_false, nz20]) (j0 := 0) (x := lN (qs s ^ 0)) (by omega) ⟨rfl, by rw [Nat.pow_zero]; omega⟩
  obtain ⟨r, e1, e2⟩ := e
  refine ⟨r, ?_, e2⟩
  unfold f_X9_times
  rw [Nat.pow_zero] at e1
  rw [zI0, zL1, e1]
  rfl
end
