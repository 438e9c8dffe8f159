/-! the class's split to the end -/
def avN (c : Nat → Nat → Nat) (n : Nat) (tv : Nat → Nat) (r : Nat) : Int32 := if r = 0 then nI 0 else nI (nmN c n tv r)
def bvN (c : Nat → Nat → Nat) (n : Nat) (tv : Nat → Nat) (r : Nat) : Int32 := if r = 0 then -nI 1 else avN c n tv (r - 1)
theorem av_bv {c : Nat → Nat → Nat} {n : Nat} {tv : Nat → Nat} {r : Nat} (hn : 0 < n) (hn8 : n ≤ 8) (h : avN c n tv r = bvN c n tv r) : ∃ k, r = k + 2 ∧ nmN c n tv (k + 2) = nmN c n tv (k + 1) := by
  match r, h with
  | 0, h => exact absurd (show nI 0 = -nI 1 from h) (by decide)
  | 1, h =>
    have h' : nI (nmN c n tv 1) = nI 0 := h
    have p1 := nm_pos (c := c) (n := n) tv 1 hn
    have p2 := nm_n (c := c) (n := n) tv 1
    have := (nI_eq (by omega) (by omega)).mp h'
    omega
  | k + 2, h =>
    have h' : nI (nmN c n tv (k + 2)) = nI (nmN c n tv (k + 1)) := h
    have p2 := nm_n (c := c) (n := n) tv (k + 2)
    have p3 := nm_n (c := c) (n := n) tv (k + 1)
    exact ⟨k, rfl, (nI_eq (by omega) (by omega)).mp h'⟩
section
variable {G : Gg} {M : Mm} {o b t n q a cl : Nat} {tv : Nat → Nat} {c : Nat → Nat → Nat}
theorem spl_45 (hp : pC G M o b t n tv) (hc : chC G M a cl n c) (hg : gch n q c) (h0 : M.1 o 3 = nI 0) (nc : cl ∉ [o, b, t]) : OK (lp_X5_split_45 G o a FU (-nI 1) (nI 0) M) (fun x => fr M x [o, b, t] [] ∧ pC G x o b t n (ptN c n tv 9) ∧ x.1 o 3 = nI (nmN c n tv 9)) := by
  have h1 := hp.1
  have h4 := hp.2.2.2.1.1
  have h6 := hp.2.2.2.2.1.1
  have hn := hg.1
  have hn8 := hg.2.1
  have na : a ∉ [o, b, t] := by
    have n1 := kne hc.1 h1 (by decide)
    have n2 := kne hc.1 h4 (by decide)
    have n3 := kne hc.1 h6 (by decide)
    simp
    exact ⟨n1, n2, n3⟩
  have nc2 : cl ∉ [o, t] := fun z => nc (by simp at z; simp; omega)
  refine lpI (fun f i4 (x : Int32 × Mm) => lp_X5_split_45 G o a f x.1 i4 x.2) (fun r x => x.1 = bvN c n tv r ∧ fr M x.2 [o, b, t] [] ∧ pC G x.2 o b t n (ptN c n tv r) ∧ x.2.1 o 3 = avN c n tv r) 9 _ (by omega) (fun f r x hr hx => ?_) (fun f x hx => ?_) (j0 := 0) (x := (-nI 1, M)) (by omega) ⟨rfl, fr_rf, hp, h0⟩
  · obtain ⟨x1, x2⟩ := x
    obtain ⟨e1, e2, e3, e4⟩ := hx
    dsimp only at e1 e2 e3 e4
    by_cases he : avN c n tv r = bvN c n tv r
    · right
      obtain ⟨k, rfl, hk⟩ := av_bv hn hn8 he
      have hs : nmN c n tv (k + 1 + 1) ≤ nmN c n tv (k + 1) := by show nmN c n tv (k + 2) ≤ _; omega
      have hp9 := pt_all hs (9 - (k + 2))
      have hn9 := nm_all hs (9 - (k + 2))
      rw [show k + 1 + 1 + (9 - (k + 2)) = 9 by omega] at hp9 hn9
      refine ⟨x2, ?_, e2, pC_cg e3 (fun i hi => (hp9 i hi).symm), ?_⟩
      · dsimp only
        rw [e1]
        rw [lp_X5_split_45, bd_X5_split_45]
        simp (disch := first | assumption | omega | (refine inb_n ?_ ?_ <;> omega) | fail) only [ck_t, Option.bind_some, iLeP, iLeN, iLtP, iLtN, iEqP, iEqN, nI_1, pk_mul, nI_add, cl_n, zI0, zI1, zI8, bI_z, if_true_eq, if_false_eq, if_true, if_false, e4, if_pos he]
      · rw [hn9]; exact e4
    · left
      obtain ⟨y, a1, a2, a3, a4⟩ := spl_1 e3 (chC_fr hc e2 na nc) (fun i x => gS_le hg i n (Nat.le_refl n) x) nc2
      refine ⟨(avN c n tv r, y), ⟨?_, fr_tr e2 a2, a3, ?_⟩, ?_⟩
      · show avN c n tv r = bvN c n tv (r + 1)
        unfold bvN
        rw [if_neg (by omega), Nat.add_sub_cancel]
      · dsimp only
        rw [a4, ← nm_s]
        unfold avN
        rw [if_neg (by omega)]
      · dsimp only
        rw [e1]
        rw [lp_X5_split_45, bd_X5_split_45]
        simp (disch := first | assumption | omega | (refine inb_n ?_ ?_ <;> omega) | fail) only [ck_t, Option.bind_some, iLeP, iLeN, iLtP, iLtN, iEqP, iEqN, nI_1, pk_mul, nI_add, cl_n, zI0, zI1, zI8, bI_z, if_true_eq, if_false_eq, if_true, if_false, e4, if_neg he, a1]
  · obtain ⟨x1, x2⟩ := x
    obtain ⟨e1, e2, e3, e4⟩ := hx
    dsimp only at e1 e2 e3 e4
    refine ⟨x2, ?_, e2, e3, e4⟩
    dsimp only
    rw [lp_X5_split_45, bd_X5_split_45]
    simp (disch := first | assumption | omega | (refine inb_n ?_ ?_ <;> omega) | fail) only [ck_t, Option.bind_some, iLeP, iLeN, iLtP, iLtN, iEqP, iEqN, nI_1, pk_mul, nI_add, cl_n, zI0, zI1, zI8, bI_z, if_true_eq, if_false_eq, if_true, if_false]
end
section
variable {G : Gg} {M : Mm} {A p : Nat → Nat} {tl : Nat} {tv : Nat → Nat} {ol : Nat} {ov ns qs : Nat → Nat} {cs : Nat → Nat → Nat → Nat}
theorem fr_p {x : Mm} (h : kCI G M A p tl tv ol ov ns qs cs) (hf : fr M x [A 5, A 6, A 7] []) : kCI G x A p tl tv ol ov ns qs cs ∧ unt M x A 53 := ⟨kCI_fr h hf (fun y hy => by
  simp at hy
  rcases hy with rfl | rfl | rfl
  · exact ⟨5, by simp, rfl⟩
  · exact ⟨6, by simp, rfl⟩
  · exact ⟨7, by simp, rfl⟩) (fun y hy => by simp at hy), unt_fr hf (fun y hy => by
  simp at hy
  rcases hy with rfl | rfl | rfl
  · exact ⟨5, by decide, rfl⟩
  · exact ⟨6, by decide, rfl⟩
  · exact ⟨7, by decide, rfl⟩) (fun y hy => by simp at hy)⟩
theorem ksplit (h : kCI G M A p tl tv ol ov ns qs cs) {s : Nat} (hs : s < 6) (hn : 0 < ns s) (htl : tl = ns s) : OK (f_X5_split G M (A 5) (A (18 + 5 * p s)) (A 1)) (fun x => fr M x [A 5, A 6, A 7] [] ∧ pC G x (A 5) (A 6) (A 7) (ns s) (ptN (cs s) (ns s) tv 9) ∧ x.1 (A 5) 3 = nI (nmN (cs s) (ns s) tv 9)) := by
  obtain ⟨hg, hz, _⟩ := kCI_z h hs hn
  have hn8 := hg.2.1
  have hps : p s < 7 := h.2.2.1.1 s (by omega)
  have kc := hz.1.1
  have k5 : isK G (A 5) 5 := h.1.2.1 5 (by decide)
  have k6 : isK G (A 6) 10 := h.1.2.1 6 (by decide)
  have k7 : isK G (A 7) 10 := h.1.2.1 7 (by decide)
  have k1 : isK G (A 1) 6 := h.1.2.1 1 (by decide)
  have l6 : G.2.2 (A 6) = 8 := h.1.2.2 6 (by decide) (by decide)
  have l7 : G.2.2 (A 7) = 8 := h.1.2.2 7 (by decide) (by decide)
  have n65 : A 6 ≠ A 5 := sA_ne h.1 (by decide) (by decide) (by decide)
  have n67 : A 6 ≠ A 7 := sA_ne h.1 (by decide) (by decide) (by decide)
  have h0 := hz.1.2.2.2.2.1
  have e := lpI (fun f i3 (x : Mm) => lp_X5_split_10 G (A 5) (A (18 + 5 * p s)) (A 1) f i3 x) (fun j x => fr M x [A 5, A 6, A 7] [] ∧ x.1 (A 5) 2 = nI (ns s) ∧ ∀ k, k < j → x.1 (A 6) k = nI (tv k)) (ns s) (fun x => fr M x [A 5, A 6, A 7] [] ∧ x.1 (A 5) 2 = nI (ns s) ∧ ∀ k, k < ns s → x.1 (A 6) k = nI (tv k)) (by omega) (fun f j x hj hx => by
    obtain ⟨e1, e2, e3⟩ := hx
    left
    obtain ⟨hIx, _⟩ := fr_p h e1
    have et := tat_eq (kCI_tp hIx) (show j < tl by omega)
    have r0 := hIx.2.1.2.2.1.1
    refine ⟨mwI x (A 6) j (nI (tv j)), ⟨fr_tr e1 (fr_I (by simp)), ?_, fun k hk => ?_⟩, ?_⟩
    · rw [mwI_n (Or.inl (Ne.symm n65))]; exact e2
    · by_cases e : k = j
      · subst e; rw [mwI_s]
      · rw [mwI_n (by omega)]; exact e3 k (by omega)
    · rw [lp_X5_split_10, bd_X5_split_10]
      simp (disch := first | assumption | omega | (refine inb_n ?_ ?_ <;> omega) | fail) only [ck_t, Option.bind_some, iLeP, iLeN, iLtP, iLtN, iEqP, iEqN, nI_1, pk_mul, nI_add, cl_n, zI0, zI1, zI8, bI_z, if_true_eq, if_false_eq, if_true, if_false, e2, r0, et, l6]) (fun f x hx => by
    obtain ⟨e1, e2, e3⟩ := hx
    refine ⟨x, ?_, e1, e2, e3⟩
    rw [lp_X5_split_10, bd_X5_split_10]
    simp (disch := first | assumption | omega | (refine inb_n ?_ ?_ <;> omega) | fail) only [ck_t, Option.bind_some, iLeP, iLeN, iLtP, iLtN, iEqP, iEqN, nI_1, pk_mul, nI_add, cl_n, zI0, zI1, zI8, bI_z, if_true_eq, if_false_eq, if_true, if_false, e2]) (j0 := 0) (x := mwI M (A 5) 2 (nI (ns s))) (by omega) ⟨fr_I (by simp), mwI_s, fun k hk => absurd hk (Nat.not_lt_zero k)⟩
  obtain ⟨x, a1, a2, a3, a4⟩ := e
  have w : fr M (mwI x (A 5) 3 (nI 0)) [A 5, A 6, A 7] [] := fr_tr a2 (fr_I (by simp))
  obtain ⟨hIx, _⟩ := fr_p h w
  obtain ⟨_, hzx, _⟩ := kCI_z hIx hs hn
  have tb := h.2.2.2.1.2.2.2
  have hp : pC G (mwI x (A 5) 3 (nI 0)) (A 5) (A 6) (A 7) (ns s) tv := ⟨k5, hIx.2.1.2.2.1.1, hIx.2.1.2.2.1.2, ⟨k6, l6⟩, ⟨k7, l7⟩, n67, hn8, by rw [mwI_n (by omega)]; exact a3, fun k hk => by rw [mwI_n (Or.inl n65)]; exact a4 k hk, fun k _ => by have := tb k; omega⟩
  obtain ⟨y, b1, b2, b3, b4⟩ := spl_45 hp hzx.1 hg mwI_s (by
    simp
    exact ⟨sA_ne h.1 (by omega) (by decide) (by omega), sA_ne h.1 (by omega) (by decide) (by omega), sA_ne h.1 (by omega) (by decide) (by omega)⟩)
  refine ⟨y, ?_, fr_tr w b2, b3, b4⟩
  unfold f_X5_split
  simp (disch := first | assumption | omega | (refine inb_n ?_ ?_ <;> omega) | fail) only [ck_t, Option.bind_some, iLeP, iLeN, iLtP, iLtN, iEqP, iEqN, nI_1, pk_mul, nI_add, cl_n, zI0, zI1, zI8, bI_z, if_true_eq, if_false_eq, if_true, if_false, h0, a1, b1]
end
