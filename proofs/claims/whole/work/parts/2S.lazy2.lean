/-! lazy of both -/
def isl (i : Int32) : Prop := ∃ k, k < 6 ∧ i = nI k
section
variable {G : Gg} {M : Mm} {A p : Nat → Nat} {tl : Nat} {tv : Nat → Nat} {ol : Nat} {ov ns qs : Nat → Nat} {cs : Nat → Nat → Nat → Nat}
theorem kCI_z (h : kCI G M A p tl tv ol ov ns qs cs) {s : Nat} (hs : s < 6) (hn : 0 < ns s) : gch (ns s) (qs s) (cs s) ∧ chZ G M A (p s) (ns s) (qs s) (cs s) := by
  rcases h.2.2.2.2.2.2 s hs with ⟨z1, z2⟩ | z
  · omega
  · exact z
theorem p_ne (h : kCI G M A p tl tv ol ov ns qs cs) {s : Nat} (hs : s < 6) : p s < 7 ∧ p 6 < 7 ∧ p s ≠ p 6 := by
  obtain ⟨h1, h2⟩ := h.2.2.1
  refine ⟨h1 s (by omega), h1 6 (by omega), fun e => ?_⟩
  have := h2 s 6 (by omega) (by omega) e
  omega
theorem klazy_0 (h : kCI G M A p tl tv ol ov ns qs cs) {s : Nat} (hs : s < 6) (hn : 0 < ns s) : OK (f_X0_makeLazyOf G M (A (18 + 5 * p 6)) (A (18 + 5 * p s))) (fun M' => dfC G M' (A (18 + 5 * p 6)) (A (19 + 5 * p 6)) (ns s) (2 * qs s) (lzf (ns s) (qs s) (cs s)) ∧ kCI G M' A p tl tv ol ov ns qs cs ∧ unt M M' A 53) := by
  obtain ⟨hg, hz, _⟩ := kCI_z h hs hn
  obtain ⟨n1, n2, n3⟩ := p_ne h hs
  obtain ⟨c1, ⟨c2, c3, c4⟩, c5⟩ := kCI_ch h n2
  obtain ⟨M', a1, a2, a3⟩ := lazy_ok hg hz.1 hz.2.1 c1 c2 c3 c4 (sA_ne h.1 (by omega) (by omega) (by omega)) (sA_ne h.1 (by omega) (by omega) (by omega))
  exact ⟨M', a1, a2, dr_fr h a3⟩
theorem klazy_p (h : kCI G M A p tl tv ol ov ns qs cs) {s t : Nat} (hs : s < 6) (hn : 0 < ns s) (ht : t < 6) (hle : 2 * qs s / gD (2 * qs s) (lzf (ns s) (qs s) (cs s)) ≤ 60) : OK (f_X8_lazy G M (A 0) (nI s) (nI t)) (fun r => r.1 = nI (2 * qs s / gD (2 * qs s) (lzf (ns s) (qs s) (cs s))) ∧ kCI G r.2 A (swp p t) tl tv ol ov (ud ns t (ns s)) (ud qs t (2 * qs s / gD (2 * qs s) (lzf (ns s) (qs s) (cs s)))) (ud3 cs t (fun i j => lzf (ns s) (qs s) (cs s) i j / gD (2 * qs s) (lzf (ns s) (qs s) (cs s)))) ∧ unt M r.2 A 53) := by
  obtain ⟨hg, hz, _⟩ := kCI_z h hs hn
  obtain ⟨M1, a1, a2, a3, a4⟩ := klazy_0 h hs hn
  have hq1 := hg.2.2.1
  have hq2 := hg.2.2.2.1
  obtain ⟨⟨v, M2⟩, b1, b2, b3, b4⟩ := place_ok a3 ht a2 hg.1 (by omega) (by omega) (lzf_r hg) (fun i j hij => lzf_z hg hij) hle
  dsimp only at b2 b3 b4
  subst b2
  refine ⟨(nI (2 * qs s / gD (2 * qs s) (lzf (ns s) (qs s) (cs s))), M2), ?_, rfl, b3, unt_tr a4 b4⟩
  have k0 : isK G (A 0) 8 := h.1.2.1 0 (by decide)
  have kd6 := a2.1
  have r4 := h.2.1.1.2.2.2.1
  have e1 := chainIn_p h hs hn
  have e2 := isSlot_p ht
  unfold f_X8_lazy
  simp (disch := first | assumption | omega | (refine inb_n ?_ ?_ <;> omega) | fail) only [ck_t, Option.bind_some, iLeP, iLeN, iLtP, iLtN, iEqP, iEqN, nI_1, pk_mul, nI_add, cl_n, zI0, zI1, zI8, bI_z, if_true_eq, if_false_eq, if_true, if_false, e1, onE, e2, r4, a1, b1]
theorem klazy_b (h : kCI G M A p tl tv ol ov ns qs cs) {s t : Nat} (hs : s < 6) (hn : 0 < ns s) (ht : t < 6) (hle : 60 < 2 * qs s / gD (2 * qs s) (lzf (ns s) (qs s) (cs s))) : OK (f_X8_lazy G M (A 0) (nI s) (nI t)) (fun r => r.1 = -1 ∧ kCI G r.2 A p tl tv ol ov ns qs cs ∧ unt M r.2 A 53) := by
  obtain ⟨hg, hz, _⟩ := kCI_z h hs hn
  obtain ⟨M1, a1, a2, a3, a4⟩ := klazy_0 h hs hn
  have hq1 := hg.2.2.1
  have hq2 := hg.2.2.2.1
  have b1 := place_n a3 ht a2 (by omega) (by omega) hle
  refine ⟨(-1, M1), ?_, rfl, a3, a4⟩
  have k0 : isK G (A 0) 8 := h.1.2.1 0 (by decide)
  have kd6 := a2.1
  have r4 := h.2.1.1.2.2.2.1
  have e1 := chainIn_p h hs hn
  have e2 := isSlot_p ht
  unfold f_X8_lazy
  simp (disch := first | assumption | omega | (refine inb_n ?_ ?_ <;> omega) | fail) only [ck_t, Option.bind_some, iLeP, iLeN, iLtP, iLtN, iEqP, iEqN, nI_1, pk_mul, nI_add, cl_n, zI0, zI1, zI8, bI_z, if_true_eq, if_false_eq, if_true, if_false, e1, onE, e2, r4, a1]
  rw [b1]
  rfl
theorem klazy_n (h : kCI G M A p tl tv ol ov ns qs cs) {i1 i2 : Int32} (hx : ¬ (slo ns i1 ∧ isl i2)) : f_X8_lazy G M (A 0) i1 i2 = some (-1, M) := by
  have k0 : isK G (A 0) 8 := h.1.2.1 0 (by decide)
  unfold f_X8_lazy
  by_cases h1 : slo ns i1
  · obtain ⟨s, hs, rfl, hn⟩ := h1
    have e1 := chainIn_p h hs hn
    have e2 := isSlot_n (i := i2) (fun z => hx ⟨⟨s, hs, rfl, hn⟩, z⟩)
    simp (disch := first | assumption | omega | (refine inb_n ?_ ?_ <;> omega) | fail) only [ck_t, Option.bind_some, iLeP, iLeN, iLtP, iLtN, iEqP, iEqN, nI_1, pk_mul, nI_add, cl_n, zI0, zI1, zI8, bI_z, if_true_eq, if_false_eq, if_true, if_false, e1, onE, e2]
  · have e1 := chainIn_n h h1
    simp (disch := first | assumption | omega | (refine inb_n ?_ ?_ <;> omega) | fail) only [ck_t, Option.bind_some, iLeP, iLeN, iLtP, iLtN, iEqP, iEqN, nI_1, pk_mul, nI_add, cl_n, zI0, zI1, zI8, bI_z, if_true_eq, if_false_eq, if_true, if_false, e1, onE]
end
section
variable {G : Gg} {M : Mm} {R : Nat → Nat} {tl : Nat} {tv : Nat → Nat} {ol : Nat} {ov ns qs : Nat → Nat} {cs : Nat → Nat → Nat → Nat}
theorem rlz_row {s i : Nat} {i2 : Int32} (h : rRI G M R tl tv ol ov ns qs cs) (hs : s < 6) (hn : 0 < ns s) (hi : i < ns s) (hm : mdI M R (ns s) (lzf (ns s) (qs s) (cs s)) i 0) : OK (lp_X9_lazy_49 G (R 0) (nI s) i2 (nI (ns s)) (nI (qs s)) (nI i) FU (nI 0) M) (fun M' => mdI M' R (ns s) (lzf (ns s) (qs s) (cs s)) (i + 1) 0 ∧ rfr M M' R) := by
  have k0 : isK G (R 0) 9 := h.1.2.1 0 (by decide)
  obtain ⟨hg, c1, c2, c3⟩ := slo_c h hs hn
  have hn8 := hg.2.1
  refine lpI (fun f1 i6 (x : Mm) => lp_X9_lazy_49 G (R 0) (nI s) i2 (nI (ns s)) (nI (qs s)) (nI i) f1 i6 x) (fun j x => mdI x R (ns s) (lzf (ns s) (qs s) (cs s)) i j ∧ rfr M x R) (ns s) _ (by omega) (fun f1 j x hj hx => ?_) (fun f1 x hx => ?_) (by omega) ⟨hm, rfr_rf M R⟩
  · obtain ⟨e1, e2⟩ := hx
    left
    have hx' := rRI_r h e2
    have ea := rat_eq hx'.1 hx'.2.1 (show s < 7 by omega) (show i < 8 by omega) (show j < 8 by omega)
    rw [(slo_c hx' hs hn).2.2.2 i j hi hj] at ea
    have em := make_eq (x := nI (lzf (ns s) (qs s) (cs s) i j)) hx'.1 hx'.2.1 (show i < 8 by omega) (show j < 8 by omega)
    refine ⟨mwI x (R 4) (384 + 8 * i + j) (nI (lzf (ns s) (qs s) (cs s) i j)), ⟨mdI_s hn8 hj e1, rfr_tr e2 (rfr_4 h.1 (by omega))⟩, ?_⟩
    rw [lp_X9_lazy_49, bd_X9_lazy_49]
    by_cases hij : i = j
    · have hl : lzf (ns s) (qs s) (cs s) i j = cs s i j + qs s := by unfold lzf; rw [if_pos ⟨hij, hi⟩]
      rw [hl] at em
      rw [hl]
      simp (disch := first | assumption | omega | (refine inb_n ?_ ?_ <;> omega) | fail) only [ck_t, Option.bind_some, iLeP, iLeN, iLtP, iLtN, iEqP, iEqN, nI_1, pk_mul, nI_add, cl_n, zI0, zI1, zI8, bI_z, if_true_eq, if_false_eq, if_true, if_false, ea, em]
    · have hl : lzf (ns s) (qs s) (cs s) i j = cs s i j + 0 := by unfold lzf; rw [if_neg (fun z => hij z.1)]
      rw [hl] at em
      rw [hl]
      simp (disch := first | assumption | omega | (refine inb_n ?_ ?_ <;> omega) | fail) only [ck_t, Option.bind_some, iLeP, iLeN, iLtP, iLtN, iEqP, iEqN, nI_1, pk_mul, nI_add, cl_n, zI0, zI1, zI8, bI_z, if_true_eq, if_false_eq, if_true, if_false, ea, em]
  · obtain ⟨e1, e2⟩ := hx
    refine ⟨x, ?_, fun a b hb hab => e1 a b hb (by omega), e2⟩
    rw [lp_X9_lazy_49, bd_X9_lazy_49]
    simp (disch := first | assumption | omega | (refine inb_n ?_ ?_ <;> omega) | fail) only [ck_t, Option.bind_some, iLeP, iLeN, iLtP, iLtN, iEqP, iEqN, nI_1, pk_mul, nI_add, cl_n, zI0, zI1, zI8, bI_z, if_true_eq, if_false_eq, if_true, if_false]
theorem rlazy_0 (h : rRI G M R tl tv ol ov ns qs cs) {s : Nat} {i2 : Int32} (hs : s < 6) (hn : 0 < ns s) : OK (lp_X9_lazy_40 G (R 0) (nI s) i2 (nI (ns s)) (nI (qs s)) FU (nI 0) M) (fun M' => mdR M' R (ns s) (lzf (ns s) (qs s) (cs s)) ∧ rfr M M' R) := by
  obtain ⟨hg, c1, c2, c3⟩ := slo_c h hs hn
  have hn8 := hg.2.1
  refine lpI (fun f1 i5 (x : Mm) => lp_X9_lazy_40 G (R 0) (nI s) i2 (nI (ns s)) (nI (qs s)) f1 i5 x) (fun i x => mdI x R (ns s) (lzf (ns s) (qs s) (cs s)) i 0 ∧ rfr M x R) (ns s) _ (by omega) (fun f1 i x hi hx => ?_) (fun f1 x hx => ?_) (by omega) ⟨fun a b hb hab => absurd hab (by omega), rfr_rf M R⟩
  · obtain ⟨e1, e2⟩ := hx
    left
    obtain ⟨y, a1, a2, a3⟩ := rlz_row (i2 := i2) (rRI_r h e2) hs hn hi e1
    refine ⟨y, ⟨a2, rfr_tr e2 a3⟩, ?_⟩
    rw [lp_X9_lazy_40, bd_X9_lazy_40]
    simp (disch := first | assumption | omega | (refine inb_n ?_ ?_ <;> omega) | fail) only [ck_t, Option.bind_some, iLeP, iLeN, iLtP, iLtN, iEqP, iEqN, nI_1, pk_mul, nI_add, cl_n, zI0, zI1, zI8, bI_z, if_true_eq, if_false_eq, if_true, if_false, a1]
  · obtain ⟨e1, e2⟩ := hx
    refine ⟨x, ?_, fun a b ha hb => e1 a b hb (by omega), e2⟩
    rw [lp_X9_lazy_40, bd_X9_lazy_40]
    simp (disch := first | assumption | omega | (refine inb_n ?_ ?_ <;> omega) | fail) only [ck_t, Option.bind_some, iLeP, iLeN, iLtP, iLtN, iEqP, iEqN, nI_1, pk_mul, nI_add, cl_n, zI0, zI1, zI8, bI_z, if_true_eq, if_false_eq, if_true, if_false]
theorem rlazy_p (h : rRI G M R tl tv ol ov ns qs cs) {s t : Nat} (hs : s < 6) (hn : 0 < ns s) (ht : t < 6) (hle : 2 * qs s / gD (2 * qs s) (lzf (ns s) (qs s) (cs s)) ≤ 60) : OK (f_X9_lazy G M (R 0) (nI s) (nI t)) (fun r => r.1 = nI (2 * qs s / gD (2 * qs s) (lzf (ns s) (qs s) (cs s))) ∧ rRI G r.2 R tl tv ol ov (ud ns t (ns s)) (ud qs t (2 * qs s / gD (2 * qs s) (lzf (ns s) (qs s) (cs s)))) (ud3 cs t (fun i j => lzf (ns s) (qs s) (cs s) i j / gD (2 * qs s) (lzf (ns s) (qs s) (cs s)))) ∧ unt M r.2 R 17) := by
  obtain ⟨z1, z2⟩ := thr_0 h (nI 0)
  obtain ⟨hg, c1, c2, c3⟩ := slo_c z1 hs hn
  have hn8 := hg.2.1
  have hq1 := hg.2.2.1
  have hq2 := hg.2.2.2.1
  obtain ⟨M1, a1, a2, a3⟩ := rlazy_0 (i2 := nI t) z1 hs hn
  obtain ⟨⟨v, M2⟩, b1, b2, b3, b4⟩ := puts_ok (rRI_r z1 a3) ht hn8 (by omega) (by omega) (fun i j => by have := lzf_lt hg i j; omega) a2 (isG_64 (q := 2 * qs s) hn8 (fun i j hij => lzf_z hg hij)) (gD_g hg.1 hn8 (by omega) (lzf_r hg) (fun i j hij => lzf_z hg hij) hle)
  dsimp only at b2 b3 b4
  subst b2
  refine ⟨(nI (2 * qs s / gD (2 * qs s) (lzf (ns s) (qs s) (cs s))), M2), ?_, rfl, b3, unt_tr z2 (unt_tr (unt_r a3) b4)⟩
  have k0 : isK G (R 0) 9 := h.1.2.1 0 (by decide)
  have k2 : isK G (R 2) 10 := h.1.2.1 2 (by decide)
  have l2 : G.2.2 (R 2) = 7 := h.1.2.2 2 (by decide) (by decide)
  have k3 : isK G (R 3) 10 := h.1.2.1 3 (by decide)
  have l3 : G.2.2 (R 3) = 7 := h.1.2.2 3 (by decide) (by decide)
  have r3 := z1.2.1.2.1
  have r4 := z1.2.1.2.2.1
  have e1 := rhas_p z1 hs hn
  have e2 := isSlot9_p ht
  unfold f_X9_lazy
  simp (disch := first | assumption | omega | (refine inb_n ?_ ?_ <;> omega) | fail) only [ck_t, Option.bind_some, iLeP, iLeN, iLtP, iLtN, iEqP, iEqN, nI_1, pk_mul, nI_add, cl_n, zI0, zI1, zI8, bI_z, if_true_eq, if_false_eq, if_true, if_false, e1, e2, r3, l2, r4, l3, c1, c2, a1, nz2, b1]
theorem rlazy_b (h : rRI G M R tl tv ol ov ns qs cs) {s t : Nat} (hs : s < 6) (hn : 0 < ns s) (ht : t < 6) (hle : 60 < 2 * qs s / gD (2 * qs s) (lzf (ns s) (qs s) (cs s))) : OK (f_X9_lazy G M (R 0) (nI s) (nI t)) (fun r => r.1 = -1 ∧ rRI G r.2 R tl tv ol ov ns qs cs ∧ unt M r.2 R 17) := by
  obtain ⟨z1, z2⟩ := thr_0 h (nI 0)
  obtain ⟨hg, c1, c2, c3⟩ := slo_c z1 hs hn
  have hn8 := hg.2.1
  have hq1 := hg.2.2.1
  have hq2 := hg.2.2.2.1
  obtain ⟨M1, a1, a2, a3⟩ := rlazy_0 (i2 := nI t) z1 hs hn
  have b1 := puts_n (t := t) (rRI_r z1 a3) hn8 (show 0 < 2 * qs s by omega) (by omega) (fun i j => by have := lzf_lt hg i j; omega) a2 (isG_64 (q := 2 * qs s) hn8 (fun i j hij => lzf_z hg hij)) hle
  refine ⟨(-1, M1), ?_, rfl, rRI_r z1 a3, unt_tr z2 (unt_r a3)⟩
  have k0 : isK G (R 0) 9 := h.1.2.1 0 (by decide)
  have k2 : isK G (R 2) 10 := h.1.2.1 2 (by decide)
  have l2 : G.2.2 (R 2) = 7 := h.1.2.2 2 (by decide) (by decide)
  have k3 : isK G (R 3) 10 := h.1.2.1 3 (by decide)
  have l3 : G.2.2 (R 3) = 7 := h.1.2.2 3 (by decide) (by decide)
  have r3 := z1.2.1.2.1
  have r4 := z1.2.1.2.2.1
  have e1 := rhas_p z1 hs hn
  have e2 := isSlot9_p ht
  unfold f_X9_lazy
  simp (disch := first | assumption | omega | (refine inb_n ?_ ?_ <;> omega) | fail) only [ck_t, Option.bind_some, iLeP, iLeN, iLtP, iLtN, iEqP, iEqN, nI_1, pk_mul, nI_add, cl_n, zI0, zI1, zI8, bI_z, if_true_eq, if_false_eq, if_true, if_false, e1, e2, r3, l2, r4, l3, c1, c2, a1, nz2]
  rw [b1]
  rfl
theorem rlazy_n (h : rRI G M R tl tv ol ov ns qs cs) {i1 i2 : Int32} (hx : ¬ (slo ns i1 ∧ isl i2)) : f_X9_lazy G M (R 0) i1 i2 = some (-1, mwI M (R 0) 0 (nI 0)) := by
  obtain ⟨z1, z2⟩ := thr_0 h (nI 0)
  have k0 : isK G (R 0) 9 := h.1.2.1 0 (by decide)
  unfold f_X9_lazy
  by_cases h1 : slo ns i1
  · obtain ⟨s, hs, rfl, hn⟩ := h1
    have e1 := rhas_p z1 hs hn
    have e2 := isSlot9_n (i := i2) (fun z => hx ⟨⟨s, hs, rfl, hn⟩, z⟩)
    simp (disch := first | assumption | omega | (refine inb_n ?_ ?_ <;> omega) | fail) only [ck_t, Option.bind_some, iLeP, iLeN, iLtP, iLtN, iEqP, iEqN, nI_1, pk_mul, nI_add, cl_n, zI0, zI1, zI8, bI_z, if_true_eq, if_false_eq, if_true, if_false, e1, e2]
  · have e1 := rhas_n z1 h1
    simp (disch := first | assumption | omega | (refine inb_n ?_ ?_ <;> omega) | fail) only [ck_t, Option.bind_some, iLeP, iLeN, iLtP, iLtN, iEqP, iEqN, nI_1, pk_mul, nI_add, cl_n, zI0, zI1, zI8, bI_z, if_true_eq, if_false_eq, if_true, if_false, e1]
end
