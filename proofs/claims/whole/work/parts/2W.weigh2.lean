/-! the reference's weights are the class's shares, brought to their least -/
theorem sN_cap {f : Nat → Nat} {n : Nat} (h : ∀ k, n ≤ k → f k = 0) : ∀ {m : Nat}, n ≤ m → sN f m = sN f n
  | 0, hm => by have : n = 0 := by omega
                subst this; rfl
  | m + 1, hm => by
    by_cases e : n = m + 1
    · subst e; rfl
    · rw [sN_succ, sN_cap h (show n ≤ m by omega), h m (by omega), Nat.add_zero]
theorem cW_out {n q i : Nat} {c : Nat → Nat → Nat} (h : n ≤ i) : cW n q c i = 0 := cW_0 (tb_ge cS_lt h)
theorem tE_bd {n q : Nat} {c : Nat → Nat → Nat} (hg : gch n q c) (o : Nat → Nat) (i j : Nat) : -(2 ^ 62) < tE q c o i j ∧ tE q c o i j < 2 ^ 62 := by
  have h1 := gch_le hg (o i) (o j)
  have h2 := hg.2.2.2.1
  unfold tE
  split <;> omega
/-- weights that are the shares over a common divisor -/
def wgR (M : Mm) (R : Nat → Nat) (n q : Nat) (c : Nat → Nat → Nat) (g : Nat) : Prop := 0 < g ∧ (∀ i, g ∣ cW n q c i) ∧ ∀ i, i < 8 → M.2.1 (R 10) i = lN (cW n q c i / g)
section
variable {G : Gg} {M : Mm} {R : Nat → Nat} {tl : Nat} {tv : Nat → Nat} {ol : Nat} {ov ns qs : Nat → Nat} {cs : Nat → Nat → Nat → Nat}
theorem weigh_1 (hs : shR G R) (hr : rfR M R) {i1 i3 : Int32} {l4 : Int64} : OK (lp_X9_weigh_22 G (R 0) i1 i3 l4 FU (nI 0) M) (fun M' => fr M M' [] [R 10] ∧ ∀ i, i < 8 → M'.2.1 (R 10) i = lN 0) := by
  have k0 : isK G (R 0) 9 := hs.2.1 0 (by decide)
  have k10 : isK G (R 10) 11 := hs.2.1 10 (by decide)
  have l10 : G.2.2 (R 10) = 8 := hs.2.2 10 (by decide) (by decide)
  refine lpI (fun f1 i6 (x : Mm) => lp_X9_weigh_22 G (R 0) i1 i3 l4 f1 i6 x) (fun j x => fr M x [] [R 10] ∧ ∀ i, i < j → x.2.1 (R 10) i = lN 0) 8 _ (by omega) (fun f1 j x hj hx => ?_) (fun f1 x hx => ?_) (by omega) ⟨fr_rf, fun i hi => absurd hi (by omega)⟩
  · obtain ⟨e1, e2⟩ := hx
    left
    have r12 : x.2.2 (R 0) 12 = some (R 10) := by rw [e1.2.2]; exact hr.2.2.2.2.2.2.2.2.2.1
    refine ⟨mwJ x (R 10) j (lN 0), ⟨fr_tr e1 (fr_J in_1), fun i hi => ?_⟩, ?_⟩
    · by_cases hij : i = j
      · subst hij; rw [mwJ_s]
      · rw [mwJ_n (by omega)]; exact e2 i (by omega)
    · rw [lp_X9_weigh_22, bd_X9_weigh_22]
      simp (disch := first | assumption | omega | (refine inb_n ?_ ?_ <;> omega) | fail) only [ck_t, Option.bind_some, iLeP, iLeN, iLtP, iLtN, iEqP, iEqN, nI_1, pk_mul, nI_add, cl_n, zI0, zI1, zI8, bI_z, if_true_eq, if_false_eq, if_true, if_false, lEqP, lEqN, lGtP, lGtN, lLeP, lLeN, lGeP, lGeN, lLtP, lLtN, lN_mul, lN_add, nI_l, pk_lDiv, pk_lRem, ckl, zL0, zL1, r12, l10]
  · refine ⟨x, ?_, hx⟩
    rw [lp_X9_weigh_22, bd_X9_weigh_22]
    simp (disch := first | assumption | omega | (refine inb_n ?_ ?_ <;> omega) | fail) only [ck_t, Option.bind_some, iLeP, iLeN, iLtP, iLtN, iEqP, iEqN, nI_1, pk_mul, nI_add, cl_n, zI0, zI1, zI8, bI_z, if_true_eq, if_false_eq, if_true, if_false]
theorem fr_w {M M' : Mm} {al : List Nat} (hs : shR G R) (hf : fr M M' [] al) (h : ∀ x, x ∈ al → ∃ i, i < 17 ∧ x = R i) : rfr M M' R := rfr_fr hs hf (fun x hx => by simp at hx) h
theorem in_w {x : Nat} (h : x ∈ [R 7, R 9, R 10]) : ∃ i, i < 17 ∧ x = R i := by
  simp at h
  rcases h with rfl | rfl | rfl
  · exact ⟨7, by decide, rfl⟩
  · exact ⟨9, by decide, rfl⟩
  · exact ⟨10, by decide, rfl⟩
theorem weigh_2 (h : rRI G M R tl tv ol ov ns qs cs) {s S : Nat} (hs : s < 6) (hn : 0 < ns s) (hS : S = cS (cs s) (ns s)) (h1 : oneC (cs s) (ns s)) (ho : ∀ k, k < cnt S (ns s) → M.1 (R 11) k = nI (el S k (ns s))) (hw : ∀ i, i < 8 → M.2.1 (R 10) i = lN 0) : OK (lp_X9_weigh_46 G (R 0) (nI s) (nI (cnt S (ns s))) FU (lN 0) (nI 0) M) (fun r => r.1 = lN (gcS 0 (fun k => cW (ns s) (qs s) (cs s) (el S k (ns s))) (cnt S (ns s))) ∧ fr M r.2 [] [R 7, R 9, R 10] ∧ ∀ i, i < 8 → r.2.2.1 (R 10) i = lN (cW (ns s) (qs s) (cs s) i)) := by
  obtain ⟨hg, c1, c2, c3⟩ := slo_c h hs hn
  have hn8 := hg.2.1
  have k0 : isK G (R 0) 9 := h.1.2.1 0 (by decide)
  have k10 : isK G (R 10) 11 := h.1.2.1 10 (by decide)
  have l10 : G.2.2 (R 10) = 8 := h.1.2.2 10 (by decide) (by decide)
  have k11 : isK G (R 11) 10 := h.1.2.1 11 (by decide)
  have l11 : G.2.2 (R 11) = 8 := h.1.2.2 11 (by decide) (by decide)
  have hSl : S < 2 ^ ns s := by rw [hS]; exact cS_lt
  have hcn := cnt_le S (ns s)
  have n710 : R 10 ≠ R 7 := sR_ne h.1 (by decide) (by decide) (by decide)
  have n910 : R 10 ≠ R 9 := sR_ne h.1 (by decide) (by decide) (by decide)
  refine lpI (fun f1 i6 (x : Int64 × Mm) => lp_X9_weigh_46 G (R 0) (nI s) (nI (cnt S (ns s))) f1 x.1 i6 x.2) (fun k x => x.1 = lN (gcS 0 (fun k => cW (ns s) (qs s) (cs s) (el S k (ns s))) k) ∧ fr M x.2 [] [R 7, R 9, R 10] ∧ ∀ i, i < 8 → x.2.2.1 (R 10) i = lN (if S.testBit i = true ∧ cnt S i < k then cW (ns s) (qs s) (cs s) i else 0)) (cnt S (ns s)) _ (by omega) (fun f1 k x hk hx => ?_) (fun f1 x hx => ?_) (x := (lN 0, M)) (by omega) ⟨rfl, fr_rf, fun i hi => by rw [if_neg (by omega)]; exact hw i hi⟩
  · obtain ⟨x1, x2⟩ := x
    obtain ⟨e1, e2, e3⟩ := hx
    dsimp only at e1 e2 e3
    subst e1
    left
    obtain ⟨b1, b2, b3⟩ := el_ok S k hk
    have hx' : rRI G x2 R tl tv ol ov ns qs cs := rRI_r h (fr_w h.1 e2 (fun x hx => in_w hx))
    have r12 := hx'.2.1.2.2.2.2.2.2.2.2.2.1
    have r13 := hx'.2.1.2.2.2.2.2.2.2.2.2.2.1
    have ox : ∀ j, j < cnt S (ns s) → x2.1 (R 11) j = nI (el S j (ns s)) ∧ el S j (ns s) < ns s := fun j hj => ⟨by rw [e2.1 _ (by simp)]; exact ho j hj, (el_ok S j hj).1⟩
    obtain ⟨⟨v, y⟩, a1, a2, a3, a4⟩ := lay_ok (k := k) (o := fun j => el S j (ns s)) (i3 := nI k) hx' hs hn (by omega) ox (fun j hj => nI_eq (by omega) (by omega))
    dsimp only at a2 a3 a4
    subst a2
    have wy : fr M y [] [R 7, R 9, R 10] := fr_tr e2 (fr_sub a3 (fun x hx => hx) (fun x hx => by simp at hx; simp [hx]))
    have hy' : rRI G y R tl tv ol ov ns qs cs := rRI_r h (fr_w h.1 wy (fun x hx => in_w hx))
    have hmin := minor_eq (q := qs s) (c := cs s) hn8 hSl hk
    have hcw := cW_1 hg h1 b1 (by rw [← hS]; exact b2)
    rw [← hS] at hcw
    have hbd := cD_bd hg (i := el S k (ns s)) hSl b1
    have hrk : rk k (cnt S (ns s)) ≤ 8 := by have := rk_le k (cnt S (ns s)); omega
    obtain ⟨g', d1⟩ := rd_eq (M := y) (cc := rk k (cnt S (ns s))) (i2 := -nI 1) (B := fun a b => tE (qs s) (cs s) (fun j => el S j (ns s)) (rmc k a) (rmc k b)) (refO_R hy') hrk (fun j hj => ⟨fun e => absurd e (m1_ne (by omega)), fun e => by omega⟩) (fun i c _ _ => tE_bd hg _ _ _) (fun i c hi hc _ => a4 i c hi hc) (fun i hi hc => absurd hc (by omega)) (by rw [hmin]; omega) (by rw [hmin]; omega)
    rw [hmin, ← hcw.1] at d1
    have d1' : f_X9_determinant G y (R 0) (nI (rk k (cnt S (ns s)))) (-nI 1) = some (lN (cW (ns s) (qs s) (cs s) (el S k (ns s))), setJ y (R 9) g') := d1
    have wz : fr M (setJ y (R 9) g') [] [R 7, R 9, R 10] := fr_tr wy (fr_set (by simp))
    have r12' : (mwJ (setJ y (R 9) g') (R 10) (el S k (ns s)) (lN (cW (ns s) (qs s) (cs s) (el S k (ns s))))).2.2 (R 0) 12 = some (R 10) := by rw [mwJ_p, wz.2.2]; exact h.2.1.2.2.2.2.2.2.2.2.2.1
    have r13' : (mwJ (setJ y (R 9) g') (R 10) (el S k (ns s)) (lN (cW (ns s) (qs s) (cs s) (el S k (ns s))))).2.2 (R 0) 13 = some (R 11) := by rw [mwJ_p, wz.2.2]; exact h.2.1.2.2.2.2.2.2.2.2.2.2.1
    have o1 := (ox k hk).1
    have o2 : (mwJ (setJ y (R 9) g') (R 10) (el S k (ns s)) (lN (cW (ns s) (qs s) (cs s) (el S k (ns s))))).1 (R 11) k = nI (el S k (ns s)) := by rw [mwJ_i, wz.1 _ (by simp)]; exact ho k hk
    have o3 : (mwJ (setJ y (R 9) g') (R 10) (el S k (ns s)) (lN (cW (ns s) (qs s) (cs s) (el S k (ns s))))).2.1 (R 10) (el S k (ns s)) = lN (cW (ns s) (qs s) (cs s) (el S k (ns s))) := mwJ_s
    have hlt := cW_lt hg (el S k (ns s))
    have hgl : gcS 0 (fun k => cW (ns s) (qs s) (cs s) (el S k (ns s))) k < 2 ^ 63 := by
      rcases Nat.eq_zero_or_pos k with h0 | h0
      · rw [h0]; exact Nat.two_pow_pos 63
      · have hd := gcS_f 0 (fun k => cW (ns s) (qs s) (cs s) (el S k (ns s))) k 0 h0
        have h3 := (el_ok S 0 (n := ns s) (by omega))
        have hc0 := (cW_1 hg h1 h3.1 (by rw [← hS]; exact h3.2.1)).2
        have := Nat.le_of_dvd hc0 hd
        have := cW_lt hg (el S 0 (ns s))
        omega
    have hgc := cmn_eq hgl (show cW (ns s) (qs s) (cs s) (el S k (ns s)) < 2 ^ 63 by omega)
    refine ⟨(lN (gcS 0 (fun k => cW (ns s) (qs s) (cs s) (el S k (ns s))) (k + 1)), mwJ (setJ y (R 9) g') (R 10) (el S k (ns s)) (lN (cW (ns s) (qs s) (cs s) (el S k (ns s))))), ⟨rfl, fr_tr wz (fr_J (by simp)), fun i hi => ?_⟩, ?_⟩
    · dsimp only
      by_cases hik : i = el S k (ns s)
      · subst hik
        rw [mwJ_s, if_pos ⟨b2, by omega⟩]
      · rw [mwJ_n (Or.inr hik), setJ_o n910, a3.2.1 _ (ne_in n710), e3 i hi]
        congr 1
        by_cases hb : S.testBit i = true
        · have hne : cnt S i ≠ k := fun e => hik (by
            rw [← e]
            exact (el_un (by
              rcases Nat.lt_or_ge i (ns s) with h2 | h2
              · exact h2
              · rw [tb_ge hSl h2] at hb; cases hb) hb).symm)
          by_cases hlt : cnt S i < k
          · rw [if_pos ⟨hb, hlt⟩, if_pos ⟨hb, by omega⟩]
          · rw [if_neg (fun z => hlt z.2), if_neg (by omega)]
        · rw [if_neg (fun z => hb z.1), if_neg (fun z => hb z.1)]
    · dsimp only
      rw [lp_X9_weigh_46, bd_X9_weigh_46]
      simp (disch := first | assumption | omega | (refine inb_n ?_ ?_ <;> omega) | fail) only [ck_t, Option.bind_some, iLeP, iLeN, iLtP, iLtN, iEqP, iEqN, nI_1, pk_mul, nI_add, cl_n, zI0, zI1, zI8, bI_z, if_true_eq, if_false_eq, if_true, if_false, r12, r13, l11, a1, d1', o1, l10, r12', r13', o2, o3, hgc]
      rfl
  · obtain ⟨x1, x2⟩ := x
    obtain ⟨e1, e2, e3⟩ := hx
    dsimp only at e1 e2 e3
    refine ⟨(x1, x2), ?_, e1, e2, fun i hi => ?_⟩
    · dsimp only
      rw [lp_X9_weigh_46, bd_X9_weigh_46]
      simp (disch := first | assumption | omega | (refine inb_n ?_ ?_ <;> omega) | fail) only [ck_t, Option.bind_some, iLeP, iLeN, iLtP, iLtN, iEqP, iEqN, nI_1, pk_mul, nI_add, cl_n, zI0, zI1, zI8, bI_z, if_true_eq, if_false_eq, if_true, if_false]
    · dsimp only
      rw [e3 i hi]
      congr 1
      by_cases hb : S.testBit i = true
      · rw [if_pos ⟨hb, cnt_lt S (by
          rcases Nat.lt_or_ge i (ns s) with h2 | h2
          · exact h2
          · rw [tb_ge hSl h2] at hb; cases hb) hb⟩]
      · rw [if_neg (fun z => hb z.1)]
        rw [Bool.not_eq_true] at hb
        exact (cW_0 (by rw [← hS]; exact hb)).symm
theorem weigh_3 (hs : shR G R) (hr : rfR M R) {n q S g : Nat} {c : Nat → Nat → Nat} (hg : gch n q c) (hS : S < 2 ^ n) (hg0 : 0 < g) (hg2 : g < 2 ^ 63) (ho : ∀ k, k < cnt S n → M.1 (R 11) k = nI (el S k n)) (hw : ∀ i, i < 8 → M.2.1 (R 10) i = lN (cW n q c i)) (hz : ∀ i, S.testBit i = false → cW n q c i = 0) : OK (lp_X9_weigh_105 G (R 0) (nI (cnt S n)) (lN g) FU (nI 0) M) (fun M' => fr M M' [] [R 10] ∧ ∀ i, i < 8 → M'.2.1 (R 10) i = lN (cW n q c i / g)) := by
  have hn8 := hg.2.1
  have k0 : isK G (R 0) 9 := hs.2.1 0 (by decide)
  have k10 : isK G (R 10) 11 := hs.2.1 10 (by decide)
  have l10 : G.2.2 (R 10) = 8 := hs.2.2 10 (by decide) (by decide)
  have k11 : isK G (R 11) 10 := hs.2.1 11 (by decide)
  have l11 : G.2.2 (R 11) = 8 := hs.2.2 11 (by decide) (by decide)
  have hcn := cnt_le S n
  refine lpI (fun f1 i6 (x : Mm) => lp_X9_weigh_105 G (R 0) (nI (cnt S n)) (lN g) f1 i6 x) (fun k x => fr M x [] [R 10] ∧ ∀ i, i < 8 → x.2.1 (R 10) i = lN (if S.testBit i = true ∧ cnt S i < k then cW n q c i / g else cW n q c i)) (cnt S n) _ (by omega) (fun f1 k x hk hx => ?_) (fun f1 x hx => ?_) (by omega) ⟨fr_rf, fun i hi => by rw [if_neg (by omega)]; exact hw i hi⟩
  · obtain ⟨e1, e2⟩ := hx
    left
    obtain ⟨b1, b2, b3⟩ := el_ok S k hk
    have r12 : x.2.2 (R 0) 12 = some (R 10) := by rw [e1.2.2]; exact hr.2.2.2.2.2.2.2.2.2.1
    have r13 : x.2.2 (R 0) 13 = some (R 11) := by rw [e1.2.2]; exact hr.2.2.2.2.2.2.2.2.2.2.1
    have o1 : x.1 (R 11) k = nI (el S k n) := by rw [e1.1 _ (by simp)]; exact ho k hk
    have o2 := e2 (el S k n) (by omega)
    rw [if_neg (by omega)] at o2
    have hlt := cW_lt hg (el S k n)
    refine ⟨mwJ x (R 10) (el S k n) (lN (cW n q c (el S k n) / g)), ⟨fr_tr e1 (fr_J in_1), fun i hi => ?_⟩, ?_⟩
    · by_cases hik : i = el S k n
      · subst hik
        rw [mwJ_s, if_pos ⟨b2, by omega⟩]
      · rw [mwJ_n (Or.inr hik), e2 i hi]
        congr 1
        by_cases hb : S.testBit i = true
        · have hne : cnt S i ≠ k := fun e => hik (by
            rw [← e]
            exact (el_un (by
              rcases Nat.lt_or_ge i n with h2 | h2
              · exact h2
              · rw [tb_ge hS h2] at hb; cases hb) hb).symm)
          by_cases hlt : cnt S i < k
          · rw [if_pos ⟨hb, hlt⟩, if_pos ⟨hb, by omega⟩]
          · rw [if_neg (fun z => hlt z.2), if_neg (by omega)]
        · rw [if_neg (fun z => hb z.1), if_neg (fun z => hb z.1)]
    · rw [lp_X9_weigh_105, bd_X9_weigh_105]
      simp (disch := first | assumption | omega | (refine inb_n ?_ ?_ <;> omega) | fail) only [ck_t, Option.bind_some, iLeP, iLeN, iLtP, iLtN, iEqP, iEqN, nI_1, pk_mul, nI_add, cl_n, zI0, zI1, zI8, bI_z, if_true_eq, if_false_eq, if_true, if_false, lEqP, lEqN, lGtP, lGtN, lLeP, lLeN, lGeP, lGeN, lLtP, lLtN, lN_mul, lN_add, nI_l, pk_lDiv, pk_lRem, ckl, zL0, zL1, r12, r13, l11, l10, o1, o2]
  · obtain ⟨e1, e2⟩ := hx
    refine ⟨x, ?_, e1, fun i hi => ?_⟩
    · rw [lp_X9_weigh_105, bd_X9_weigh_105]
      simp (disch := first | assumption | omega | (refine inb_n ?_ ?_ <;> omega) | fail) only [ck_t, Option.bind_some, iLeP, iLeN, iLtP, iLtN, iEqP, iEqN, nI_1, pk_mul, nI_add, cl_n, zI0, zI1, zI8, bI_z, if_true_eq, if_false_eq, if_true, if_false]
    · rw [e2 i hi]
      congr 1
      by_cases hb : S.testBit i = true
      · rw [if_pos ⟨hb, cnt_lt S (by
          rcases Nat.lt_or_ge i n with h2 | h2
          · exact h2
          · rw [tb_ge hS h2] at hb; cases hb) hb⟩]
      · rw [if_neg (fun z => hb z.1)]
        rw [Bool.not_eq_true] at hb
        rw [hz i hb, Nat.zero_div]
theorem weigh_ok (h : rRI G M R tl tv ol ov ns qs cs) {s h0 : Nat} (hs : s < 6) (hn : 0 < ns s) (he : reS M R (ns s) (cs s)) (hh : h0 < 2 ^ 31) (hS : bsH (cs s) (ns s) h0 = cS (cs s) (ns s)) (h1 : oneC (cs s) (ns s)) : OK (f_X9_weigh G M (R 0) (nI s) (nI h0)) (fun M' => rfr M M' R ∧ ∃ g, wgR M' R (ns s) (qs s) (cs s) g) := by
  obtain ⟨hg, c1, c2, c3⟩ := slo_c h hs hn
  have hn8 := hg.2.1
  have k0 : isK G (R 0) 9 := h.1.2.1 0 (by decide)
  have k2 : isK G (R 2) 10 := h.1.2.1 2 (by decide)
  have l2 : G.2.2 (R 2) = 7 := h.1.2.2 2 (by decide) (by decide)
  have r3 := h.2.1.2.1
  have eb := bitsOf_eq h.1 h.2.1 hn8 he hh
  rw [hS] at eb
  obtain ⟨⟨v, M1⟩, a1, a2, a3, a4⟩ := list_ok h.1 h.2.1 (S := cS (cs s) (ns s)) hn8 cS_lt
  dsimp only at a2 a3 a4
  subst a2
  have w1 : rfr M M1 R := rfr_fr h.1 a3 (fun x hx => ⟨11, by omega, by simpa using hx⟩) (fun x hx => by simp at hx)
  have hI1 := rRI_r h w1
  obtain ⟨M2, b1, b2, b3⟩ := weigh_1 (i1 := nI s) (i3 := nI (cnt (cS (cs s) (ns s)) (ns s))) (l4 := lN 0) hI1.1 hI1.2.1
  have w2 : rfr M1 M2 R := fr_w h.1 b2 (fun x hx => ⟨10, by decide, by simpa using hx⟩)
  have hI2 := rRI_r hI1 w2
  obtain ⟨⟨v2, M3⟩, d1, d2, d3, d4⟩ := weigh_2 hI2 hs hn (S := cS (cs s) (ns s)) rfl h1 (fun k hk => by rw [b2.1 _ (by simp)]; exact a4 k hk) b3
  dsimp only at d2 d3 d4
  subst d2
  have w3 : rfr M2 M3 R := fr_w h.1 d3 (fun x hx => in_w hx)
  have hI3 := rRI_r hI2 w3
  have hpos : 0 < cnt (cS (cs s) (ns s)) (ns s) := by
    obtain ⟨j, hj, hb⟩ := ct_ex (p := fun i => lsB (cL (cs s) (ns s)) (ns s) i && clB (cL (cs s) (ns s)) (ns s) i) (n := ns s) (by unfold oneC at h1; omega)
    rw [Bool.and_eq_true] at hb
    have := cnt_lt (cS (cs s) (ns s)) hj (by rw [cS_t hj]; exact hb.2)
    omega
  obtain ⟨p1, p2, p3⟩ := el_ok (cS (cs s) (ns s)) 0 hpos
  have hc0 := (cW_1 hg h1 p1 p2).2
  have hgd := gcS_f 0 (fun k => cW (ns s) (qs s) (cs s) (el (cS (cs s) (ns s)) k (ns s))) (cnt (cS (cs s) (ns s)) (ns s))
  have hg0 : 0 < gcS 0 (fun k => cW (ns s) (qs s) (cs s) (el (cS (cs s) (ns s)) k (ns s))) (cnt (cS (cs s) (ns s)) (ns s)) := Nat.pos_of_dvd_of_pos (hgd 0 hpos) hc0
  have hgl : gcS 0 (fun k => cW (ns s) (qs s) (cs s) (el (cS (cs s) (ns s)) k (ns s))) (cnt (cS (cs s) (ns s)) (ns s)) < 2 ^ 63 := by
    have := Nat.le_of_dvd hc0 (hgd 0 hpos)
    have := cW_lt hg (el (cS (cs s) (ns s)) 0 (ns s))
    omega
  generalize gcS 0 (fun k => cW (ns s) (qs s) (cs s) (el (cS (cs s) (ns s)) k (ns s))) (cnt (cS (cs s) (ns s)) (ns s)) = g at *
  obtain ⟨M4, f1, f2, f3⟩ := weigh_3 hI3.1 hI3.2.1 hg (S := cS (cs s) (ns s)) cS_lt hg0 hgl (fun k hk => by rw [d3.1 _ (by simp), b2.1 _ (by simp)]; exact a4 k hk) d4 (fun i hi => cW_0 hi)
  have w4 : rfr M3 M4 R := fr_w h.1 f2 (fun x hx => ⟨10, by decide, by simpa using hx⟩)
  refine ⟨M4, ?_, rfr_tr w1 (rfr_tr w2 (rfr_tr w3 w4)), g, hg0, fun i => ?_, f3⟩
  · unfold f_X9_weigh
    simp (disch := first | assumption | omega | (refine inb_n ?_ ?_ <;> omega) | fail) only [ck_t, Option.bind_some, iLeP, iLeN, iLtP, iLtN, iEqP, iEqN, nI_1, pk_mul, nI_add, cl_n, zI0, zI1, zI8, bI_z, if_true_eq, if_false_eq, if_true, if_false, lEqP, lEqN, lGtP, lGtN, lLeP, lLeN, lGeP, lGeN, lLtP, lLtN, lN_mul, lN_add, nI_l, pk_lDiv, pk_lRem, ckl, zL0, zL1, r3, l2, c1, eb, a1, b1, d1, f1]
  · by_cases hb : (cS (cs s) (ns s)).testBit i = true
    · have hi : i < ns s := by
        rcases Nat.lt_or_ge i (ns s) with h2 | h2
        · exact h2
        · rw [tb_ge cS_lt h2] at hb; cases hb
      have := hgd (cnt (cS (cs s) (ns s)) i) (cnt_lt _ hi hb)
      rw [el_un hi hb] at this
      exact this
    · rw [Bool.not_eq_true] at hb
      rw [cW_0 hb]
      exact Nat.dvd_zero g
theorem sN_gdiv {n q g : Nat} {c : Nat → Nat → Nat} (hg0 : 0 < g) (hd : ∀ i, g ∣ cW n q c i) (hn : n ≤ 8) : sN (fun i => cW n q c i / g) 8 = sN (cW n q c) n / g := by
  rw [sN_cap (n := n) (fun k hk => by rw [cW_out hk, Nat.zero_div]) hn, sN_div hg0 (fun j _ => hd j)]
theorem allWeights_eq (h : rRI G M R tl tv ol ov ns qs cs) {n q g : Nat} {c : Nat → Nat → Nat} (hn : n ≤ 8) (hw : wgR M R n q c g) : f_X9_allWeights G M (R 0) = some (lN (sN (cW n q c) n / g)) := by
  have k0 : isK G (R 0) 9 := h.1.2.1 0 (by decide)
  have k10 : isK G (R 10) 11 := h.1.2.1 10 (by decide)
  have l10 : G.2.2 (R 10) = 8 := h.1.2.2 10 (by decide) (by decide)
  have r12 := h.2.1.2.2.2.2.2.2.2.2.2.1
  have e := lpF (fun f (x : Int64) i3 => lp_X9_allWeights_4 G M (R 0) f x i3) (fun j => lN (sN (fun i => cW n q c i / g) j)) 8 (lN (sN (fun i => cW n q c i / g) 8)) (by omega) (fun f j hj => by
    have e1 := hw.2.2 j hj
    rw [lp_X9_allWeights_4, bd_X9_allWeights_4]
    simp (disch := first | assumption | omega | (refine inb_n ?_ ?_ <;> omega) | fail) only [ck_t, Option.bind_some, iLeP, iLeN, iLtP, iLtN, iEqP, iEqN, nI_1, pk_mul, nI_add, cl_n, zI0, zI1, zI8, bI_z, if_true_eq, if_false_eq, if_true, if_false, lEqP, lEqN, lGtP, lGtN, lLeP, lLeN, lGeP, lGeN, lLtP, lLtN, lN_mul, lN_add, nI_l, pk_lDiv, pk_lRem, ckl, zL0, zL1, r12, l10, e1]
    rfl) (fun f => by
    rw [lp_X9_allWeights_4, bd_X9_allWeights_4]
    simp (disch := first | assumption | omega | (refine inb_n ?_ ?_ <;> omega) | fail) only [ck_t, Option.bind_some, iLeP, iLeN, iLtP, iLtN, iEqP, iEqN, nI_1, pk_mul, nI_add, cl_n, zI0, zI1, zI8, bI_z, if_true_eq, if_false_eq, if_true, if_false])
  rw [sN_gdiv hw.1 hw.2.1 hn] at e
  unfold f_X9_allWeights
  rw [zI0, zL0]
  exact (congrArg (Option.bind · _) e)
theorem bw_g {a b x y g : Nat} (hg : 0 < g) (ha : g ∣ a) (hb : g ∣ b) : a / g * x = b / g * y ↔ a * x = b * y := by
  obtain ⟨u, rfl⟩ := ha
  obtain ⟨v, rfl⟩ := hb
  rw [Nat.mul_div_cancel_left _ hg, Nat.mul_div_cancel_left _ hg, Nat.mul_assoc, Nat.mul_assoc]
  exact ⟨fun e => by rw [e], fun e => Nat.eq_of_mul_eq_mul_left hg e⟩
theorem rbw_eq (h : rRI G M R tl tv ol ov ns qs cs) {s g : Nat} (hs : s < 6) (hn : 0 < ns s) (hw : wgR M R (ns s) (qs s) (cs s) g) : f_X9_isBothWays G M (R 0) (nI s) = some (bI (alB (fun i => alB (bwP (cW (ns s) (qs s) (cs s)) (cs s) i) i) (ns s))) := by
  obtain ⟨hg, c1, c2, c3⟩ := slo_c h hs hn
  have hn8 := hg.2.1
  have hq6 := hg.2.2.2.1
  have k0 : isK G (R 0) 9 := h.1.2.1 0 (by decide)
  have k2 : isK G (R 2) 10 := h.1.2.1 2 (by decide)
  have l2 : G.2.2 (R 2) = 7 := h.1.2.2 2 (by decide) (by decide)
  have r3 := h.2.1.2.1
  have k10 : isK G (R 10) 11 := h.1.2.1 10 (by decide)
  have l10 : G.2.2 (R 10) = 8 := h.1.2.2 10 (by decide) (by decide)
  have r12 := h.2.1.2.2.2.2.2.2.2.2.2.1
  have row : ∀ i, i < ns s → OK (lp_X9_isBothWays_17 G M (R 0) (nI s) (nI (ns s)) (nI i) FU (nI 0)) (fun r => (r = .inl (nI 0) ∧ alB (bwP (cW (ns s) (qs s) (cs s)) (cs s) i) i = false) ∨ (r = .inr () ∧ alB (bwP (cW (ns s) (qs s) (cs s)) (cs s) i) i = true)) := fun i hi => by
    refine lpI (fun f i3 (x : Unit) => lp_X9_isBothWays_17 G M (R 0) (nI s) (nI (ns s)) (nI i) f i3) (fun j _ => alB (bwP (cW (ns s) (qs s) (cs s)) (cs s) i) j = true) i _ (by omega) (fun f j x hj hx => ?_) (fun f x hx => ?_) (j0 := 0) (x := ()) (by omega) rfl
    · have e1 := hw.2.2 i (by omega)
      have e2 := hw.2.2 j (by omega)
      have ea := rat_c h hs hn hi (show j < ns s by omega)
      have eb := rat_c h hs hn (show j < ns s by omega) hi
      have m1 := gch_le hg i j
      have m2 := gch_le hg j i
      have w1 := cW_lt hg i
      have w2 := cW_lt hg j
      have d1 : cW (ns s) (qs s) (cs s) i / g ≤ cW (ns s) (qs s) (cs s) i := Nat.div_le_self _ _
      have d2 : cW (ns s) (qs s) (cs s) j / g ≤ cW (ns s) (qs s) (cs s) j := Nat.div_le_self _ _
      have t1 : cW (ns s) (qs s) (cs s) i / g * cs s i j ≤ 2 ^ 49 * 60 := Nat.mul_le_mul (by omega) (by omega)
      have t2 : cW (ns s) (qs s) (cs s) j / g * cs s j i ≤ 2 ^ 49 * 60 := Nat.mul_le_mul (by omega) (by omega)
      have hiff := bw_g (x := cs s i j) (y := cs s j i) hw.1 (hw.2.1 i) (hw.2.1 j)
      by_cases hc : cW (ns s) (qs s) (cs s) i * cs s i j = cW (ns s) (qs s) (cs s) j * cs s j i
      · left
        have hc' := hiff.mpr hc
        refine ⟨(), ?_, ?_⟩
        · show alB _ (j + 1) = true
          rw [alB_s, hx, show bwP (cW (ns s) (qs s) (cs s)) (cs s) i j = true from decide_eq_true hc]
          rfl
        · rw [lp_X9_isBothWays_17, bd_X9_isBothWays_17]
          simp (disch := first | assumption | omega | (refine inb_n ?_ ?_ <;> omega) | fail) only [ck_t, Option.bind_some, iLeP, iLeN, iLtP, iLtN, iEqP, iEqN, nI_1, pk_mul, nI_add, cl_n, zI0, zI1, zI8, bI_z, if_true_eq, if_false_eq, if_true, if_false, lEqP, lEqN, lGtP, lGtN, lLeP, lLeN, lGeP, lGeN, lLtP, lLtN, lN_mul, lN_add, nI_l, pk_lDiv, pk_lRem, ckl, zL0, zL1, r12, l10, ea, eb, e1, e2]
      · right
        have hc' : cW (ns s) (qs s) (cs s) i / g * cs s i j ≠ cW (ns s) (qs s) (cs s) j / g * cs s j i := fun e => hc (hiff.mp e)
        refine ⟨.inl (nI 0), ?_, Or.inl ⟨rfl, ?_⟩⟩
        · rw [lp_X9_isBothWays_17, bd_X9_isBothWays_17]
          simp (disch := first | assumption | omega | (refine inb_n ?_ ?_ <;> omega) | fail) only [ck_t, Option.bind_some, iLeP, iLeN, iLtP, iLtN, iEqP, iEqN, nI_1, pk_mul, nI_add, cl_n, zI0, zI1, zI8, bI_z, if_true_eq, if_false_eq, if_true, if_false, lEqP, lEqN, lGtP, lGtN, lLeP, lLeN, lGeP, lGeN, lLtP, lLtN, lN_mul, lN_add, nI_l, pk_lDiv, pk_lRem, ckl, zL0, zL1, r12, l10, ea, eb, e1, e2]
        · rw [← Bool.not_eq_true, alB_t]
          intro hh
          have h3 := hh j hj
          rw [show bwP (cW (ns s) (qs s) (cs s)) (cs s) i j = false from decide_eq_false hc] at h3
          cases h3
    · refine ⟨.inr (), ?_, Or.inr ⟨rfl, hx⟩⟩
      rw [lp_X9_isBothWays_17, bd_X9_isBothWays_17]
      simp (disch := first | assumption | omega | (refine inb_n ?_ ?_ <;> omega) | fail) only [ck_t, Option.bind_some, iLeP, iLeN, iLtP, iLtN, iEqP, iEqN, nI_1, pk_mul, nI_add, cl_n, zI0, zI1, zI8, bI_z, if_true_eq, if_false_eq, if_true, if_false]
  have e := lpI (fun f i3 (x : Unit) => lp_X9_isBothWays_9 G M (R 0) (nI s) (nI (ns s)) f i3) (fun i _ => alB (fun i => alB (bwP (cW (ns s) (qs s) (cs s)) (cs s) i) i) i = true) (ns s) (fun r => (r = .inl (nI 0) ∧ alB (fun i => alB (bwP (cW (ns s) (qs s) (cs s)) (cs s) i) i) (ns s) = false) ∨ (r = .inr () ∧ alB (fun i => alB (bwP (cW (ns s) (qs s) (cs s)) (cs s) i) i) (ns s) = true)) (by omega) (fun f i x hi hx => by
    obtain ⟨r, a1, a2⟩ := row i hi
    rcases a2 with ⟨rfl, a2⟩ | ⟨rfl, a2⟩
    · right
      refine ⟨.inl (nI 0), ?_, Or.inl ⟨rfl, ?_⟩⟩
      · rw [lp_X9_isBothWays_9, bd_X9_isBothWays_9]
        simp (disch := first | assumption | omega | (refine inb_n ?_ ?_ <;> omega) | fail) only [ck_t, Option.bind_some, iLeP, iLeN, iLtP, iLtN, iEqP, iEqN, nI_1, pk_mul, nI_add, cl_n, zI0, zI1, zI8, bI_z, if_true_eq, if_false_eq, if_true, if_false, a1, onS]
      · rw [← Bool.not_eq_true, alB_t]
        intro hh
        have h3 := hh i hi
        rw [a2] at h3
        cases h3
    · left
      refine ⟨(), ?_, ?_⟩
      · show alB _ (i + 1) = true
        rw [alB_s, hx, a2]
        rfl
      · rw [lp_X9_isBothWays_9, bd_X9_isBothWays_9]
        simp (disch := first | assumption | omega | (refine inb_n ?_ ?_ <;> omega) | fail) only [ck_t, Option.bind_some, iLeP, iLeN, iLtP, iLtN, iEqP, iEqN, nI_1, pk_mul, nI_add, cl_n, zI0, zI1, zI8, bI_z, if_true_eq, if_false_eq, if_true, if_false, a1, onS]) (fun f x hx => by
    refine ⟨.inr (), ?_, Or.inr ⟨rfl, hx⟩⟩
    rw [lp_X9_isBothWays_9, bd_X9_isBothWays_9]
    simp (disch := first | assumption | omega | (refine inb_n ?_ ?_ <;> omega) | fail) only [ck_t, Option.bind_some, iLeP, iLeN, iLtP, iLtN, iEqP, iEqN, nI_1, pk_mul, nI_add, cl_n, zI0, zI1, zI8, bI_z, if_true_eq, if_false_eq, if_true, if_false]) (j0 := 0) (x := ()) (by omega) rfl
  obtain ⟨r, e1, e2⟩ := e
  unfold f_X9_isBothWays
  rw [ck_t k0, r3, Option.bind_some, ck_t k2, l2, ck_t (inb_n (by omega) (by decide)), cl_n (by omega), c1, zI0, e1, Option.bind_some]
  rcases e2 with ⟨rfl, e2⟩ | ⟨rfl, e2⟩
  · rw [e2]; rfl
  · rw [e2]; rfl
end
