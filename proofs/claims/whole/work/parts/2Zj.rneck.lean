/-! narrow and cut of the reference -/
theorem sB_out2 {n t : Nat} {f : Nat → Nat} (hn : n ≤ 8) : ∀ {m : Nat}, m ≤ n → sB (sdf (2 ^ n - 1) t) f m = sN (fun j => if t.testBit j then 0 else f j) m
  | 0, _ => rfl
  | m + 1, h => by
    rw [sB_s, sN_succ, sB_out2 hn (show m ≤ n by omega), sdf_t (by omega), low_t, decide_eq_true (show m < n by omega), Bool.true_and]
    congr 1
    cases t.testBit m <;> rfl
section
variable {G : Gg} {M : Mm} {R : Nat → Nat} {tl : Nat} {tv : Nat → Nat} {ol : Nat} {ov ns qs : Nat → Nat} {cs : Nat → Nat → Nat → Nat}
theorem rnk_1 (h : rRI G M R tl tv ol ov ns qs cs) {s t i g a : Nat} {i3 : Int32} {l5 : Int64} (hs : s < 6) (hn : 0 < ns s) (hw : wgR M R (ns s) (qs s) (cs s) g) (hi : i < ns s) (ht : t < 2 ^ ns s) : lp_X9_narrowest_104 G M (R 0) (nI s) (nI (ns s)) i3 (nI t) l5 (nI i) FU (lN a) (nI 0) = some (lN (a + cW (ns s) (qs s) (cs s) i / g * sB (sdf (2 ^ ns s - 1) t) (cs s i) (ns s))) := by
  obtain ⟨hg, c1, c2, c3⟩ := slo_c h hs hn
  have hn8 := hg.2.1
  have b8 := p2_31 hn8
  have k0 : isK G (R 0) 9 := h.1.2.1 0 (by decide)
  have k10 : isK G (R 10) 11 := h.1.2.1 10 (by decide)
  have l10 : G.2.2 (R 10) = 8 := h.1.2.2 10 (by decide) (by decide)
  have r12 := h.2.1.2.2.2.2.2.2.2.2.2.1
  have ew := hw.2.2 i (by omega)
  rw [sB_out2 hn8 (Nat.le_refl _)]
  have e := lpF (fun f (x : Int64) i10 => lp_X9_narrowest_104 G M (R 0) (nI s) (nI (ns s)) i3 (nI t) l5 (nI i) f x i10) (fun j => lN (a + cW (ns s) (qs s) (cs s) i / g * sN (fun j => if t.testBit j then 0 else cs s i j) j)) (ns s) (lN (a + cW (ns s) (qs s) (cs s) i / g * sN (fun j => if t.testBit j then 0 else cs s i j) (ns s))) (by omega) (fun f j hj => by
    have ea := rat_c h hs hn hi hj
    have hle := gch_le hg i j
    have hq6 := hg.2.2.2.1
    rw [sN_succ]
    rw [lp_X9_narrowest_104, bd_X9_narrowest_104]
    by_cases hb : t.testBit j = true
    · rw [if_pos hb]
      simp (disch := first | assumption | omega | (refine inb_n ?_ ?_ <;> omega) | fail) only [ck_t, Option.bind_some, iLeP, iLeN, iLtP, iLtN, iEqP, iEqN, nI_1, pk_mul, nI_add, cl_n, zI0, zI1, zI8, bI_z, if_true_eq, if_false_eq, if_true, if_false, bT0N]
      rfl
    · rw [if_neg hb]
      rw [Bool.not_eq_true] at hb
      simp (disch := first | assumption | omega | (refine inb_n ?_ ?_ <;> omega) | fail) only [ck_t, Option.bind_some, iLeP, iLeN, iLtP, iLtN, iEqP, iEqN, nI_1, pk_mul, nI_add, cl_n, zI0, zI1, zI8, bI_z, if_true_eq, if_false_eq, if_true, if_false, lEqP, lEqN, lGtP, lGtN, lLeP, lLeN, lGeP, lGeN, lLtP, lLtN, lN_mul, lN_add, nI_l, pk_lDiv, pk_lRem, ckl, zL0, zL1, bT0P, r12, l10, ea, ew]
      rw [Nat.mul_add, Nat.add_assoc]) (fun f => by
    rw [lp_X9_narrowest_104, bd_X9_narrowest_104]
    simp (disch := first | assumption | omega | (refine inb_n ?_ ?_ <;> omega) | fail) only [ck_t, Option.bind_some, iLeP, iLeN, iLtP, iLtN, iEqP, iEqN, nI_1, pk_mul, nI_add, cl_n, zI0, zI1, zI8, bI_z, if_true_eq, if_false_eq, if_true, if_false])
  have e0 : a + cW (ns s) (qs s) (cs s) i / g * sN (fun j => if t.testBit j then 0 else cs s i j) 0 = a := by show a + _ * 0 = a; omega
  rw [e0] at e
  exact e
theorem rnk_2 (h : rRI G M R tl tv ol ov ns qs cs) {s t g : Nat} {i3 : Int32} (hs : s < 6) (hn : 0 < ns s) (hw : wgR M R (ns s) (qs s) (cs s) g) (ht : t < 2 ^ ns s) : lp_X9_narrowest_70 G M (R 0) (nI s) (nI (ns s)) i3 (nI t) FU (lN 0) (lN 0) (nI 0) = some (lN (hS_ (fun i => cW (ns s) (qs s) (cs s) i / g) (ns s) t), lN (fS_ (fun i => cW (ns s) (qs s) (cs s) i / g) (cs s) (ns s) t)) := by
  obtain ⟨hg, c1, c2, c3⟩ := slo_c h hs hn
  have hn8 := hg.2.1
  have b8 := p2_31 hn8
  have k0 : isK G (R 0) 9 := h.1.2.1 0 (by decide)
  have k10 : isK G (R 10) 11 := h.1.2.1 10 (by decide)
  have l10 : G.2.2 (R 10) = 8 := h.1.2.2 10 (by decide) (by decide)
  have r12 := h.2.1.2.2.2.2.2.2.2.2.2.1
  refine lpF (fun f (x : Int64 × Int64) i9 => lp_X9_narrowest_70 G M (R 0) (nI s) (nI (ns s)) i3 (nI t) f x.1 x.2 i9) (fun j => (lN (sB t (fun i => cW (ns s) (qs s) (cs s) i / g) j), lN (sB t (fun i => cW (ns s) (qs s) (cs s) i / g * sB (sdf (2 ^ ns s - 1) t) (cs s i) (ns s)) j))) (ns s) _ (by omega) (fun f j hj => ?_) (fun f => ?_)
  · dsimp only
    rw [sB_s, sB_s]
    have ew := hw.2.2 j (by omega)
    rw [lp_X9_narrowest_70, bd_X9_narrowest_70]
    by_cases hb : t.testBit j = true
    · have er := rnk_1 (t := t) (a := sB t (fun i => cW (ns s) (qs s) (cs s) i / g * sB (sdf (2 ^ ns s - 1) t) (cs s i) (ns s)) j) (i3 := i3) (l5 := lN (sB t (fun i => cW (ns s) (qs s) (cs s) i / g) j + cW (ns s) (qs s) (cs s) j / g)) h hs hn hw hj ht
      rw [if_pos hb, if_pos hb]
      simp (disch := first | assumption | omega | (refine inb_n ?_ ?_ <;> omega) | fail) only [ck_t, Option.bind_some, iLeP, iLeN, iLtP, iLtN, iEqP, iEqN, nI_1, pk_mul, nI_add, cl_n, zI0, zI1, zI8, bI_z, if_true_eq, if_false_eq, if_true, if_false, lEqP, lEqN, lGtP, lGtN, lLeP, lLeN, lGeP, lGeN, lLtP, lLtN, lN_mul, lN_add, nI_l, pk_lDiv, pk_lRem, ckl, zL0, zL1, bT0N, r12, l10, ew, er]
    · rw [if_neg hb, if_neg hb]
      rw [Bool.not_eq_true] at hb
      simp (disch := first | assumption | omega | (refine inb_n ?_ ?_ <;> omega) | fail) only [ck_t, Option.bind_some, iLeP, iLeN, iLtP, iLtN, iEqP, iEqN, nI_1, pk_mul, nI_add, cl_n, zI0, zI1, zI8, bI_z, if_true_eq, if_false_eq, if_true, if_false, bT0P]
      rfl
  · rw [lp_X9_narrowest_70, bd_X9_narrowest_70]
    simp (disch := first | assumption | omega | (refine inb_n ?_ ?_ <;> omega) | fail) only [ck_t, Option.bind_some, iLeP, iLeN, iLtP, iLtN, iEqP, iEqN, nI_1, pk_mul, nI_add, cl_n, zI0, zI1, zI8, bI_z, if_true_eq, if_false_eq, if_true, if_false]
    rfl
theorem rnk_3 (h : rRI G M R tl tv ol ov ns qs cs) {s g : Nat} (hs : s < 6) (hn2 : 2 ≤ ns s) (hwh : ct (lsB (cL (cs s) (ns s)) (ns s)) (ns s) = 1) (hw : wgR M R (ns s) (qs s) (cs s) g) : OK (lp_X9_narrowest_53 G (R 0) (nI s) (nI (ns s)) FU (-nI 1) (nI 1) M) (fun r => r.1 = cutA (ns s) (qs s) (cs s) ∧ rfr M r.2 R ∧ (nset (ns s) (qs s) (cs s) ≠ 0 → r.2.2.1 (R 0) 21 = lN (fS_ (cW (ns s) (qs s) (cs s)) (cs s) (ns s) (nset (ns s) (qs s) (cs s)) / g) ∧ r.2.2.1 (R 0) 22 = lN (hS_ (cW (ns s) (qs s) (cs s)) (ns s) (nset (ns s) (qs s) (cs s)) / g * qs s))) := by
  have hn : 0 < ns s := by omega
  obtain ⟨hg, c1, c2, c3⟩ := slo_c h hs hn
  have hn8 := hg.2.1
  have b8 := p2_31 hn8
  have hq1 := hg.2.2.1
  have hq2 := hg.2.2.2.1
  have hp : 0 < 2 ^ ns s := Nat.pow_pos (by decide)
  have h4 : 2 ^ 2 ≤ 2 ^ ns s := p2m hn2
  have k0 : isK G (R 0) 9 := h.1.2.1 0 (by decide)
  have k3 : isK G (R 3) 10 := h.1.2.1 3 (by decide)
  have l3 : G.2.2 (R 3) = 7 := h.1.2.2 3 (by decide) (by decide)
  have z2l : (2 : Int64) = lN 2 := rfl
  obtain ⟨g0, gd, gw⟩ := id hw
  have htb := cW_tb hg
  have es := sh_1 (show ns s < 31 by omega)
  rw [zI1] at es
  -- the weights w with W = g w
  have hW : ∀ i, cW (ns s) (qs s) (cs s) i = g * (cW (ns s) (qs s) (cs s) i / g) := fun i => (Nat.mul_div_cancel' (gd i)).symm
  have hH : ∀ t, hS_ (cW (ns s) (qs s) (cs s)) (ns s) t = g * hS_ (fun i => cW (ns s) (qs s) (cs s) i / g) (ns s) t := fun t => by
    unfold hS_
    rw [← sB_mul]
    exact sB_congr (fun i _ => hW i)
  have hF : ∀ t, fS_ (cW (ns s) (qs s) (cs s)) (cs s) (ns s) t = g * fS_ (fun i => cW (ns s) (qs s) (cs s) i / g) (cs s) (ns s) t := fun t => by
    unfold fS_
    rw [← sB_mul]
    refine sB_congr (fun i _ => ?_)
    dsimp only
    rw [← Nat.mul_assoc, ← hW i]
  have hTd : g ∣ sN (cW (ns s) (qs s) (cs s)) (ns s) := sN_dvd (fun k _ => gd k)
  have hT : sN (cW (ns s) (qs s) (cs s)) (ns s) = g * (sN (cW (ns s) (qs s) (cs s)) (ns s) / g) := (Nat.mul_div_cancel' hTd).symm
  have hnbe : ∀ t, nb (hS_ (cW (ns s) (qs s) (cs s)) (ns s)) (fS_ (cW (ns s) (qs s) (cs s)) (cs s) (ns s)) (sN (cW (ns s) (qs s) (cs s)) (ns s)) t = nb (hS_ (fun i => cW (ns s) (qs s) (cs s) i / g) (ns s)) (fS_ (fun i => cW (ns s) (qs s) (cs s) i / g) (cs s) (ns s)) (sN (cW (ns s) (qs s) (cs s)) (ns s) / g) t := fun t => by
    have e := nb_g (h := hS_ (fun i => cW (ns s) (qs s) (cs s) i / g) (ns s)) (f := fS_ (fun i => cW (ns s) (qs s) (cs s) i / g) (cs s) (ns s)) (T := sN (cW (ns s) (qs s) (cs s)) (ns s) / g) g0 t
    rw [← hT] at e
    rw [funext hH, funext hF]
    exact e
  have hpos : ∀ t, 0 < t → t < 2 ^ ns s → 0 < hS_ (fun i => cW (ns s) (qs s) (cs s) i / g) (ns s) t := fun t h0 ht => by
    have := hS_pos hg hwh h0 ht
    rw [hH t] at this
    exact Nat.pos_of_mul_pos_left this
  have hbd : ∀ t, hS_ (fun i => cW (ns s) (qs s) (cs s) i / g) (ns s) t ≤ 2 ^ 52 ∧ fS_ (fun i => cW (ns s) (qs s) (cs s) i / g) (cs s) (ns s) t ≤ 60 * 2 ^ 52 ∧ hS_ (fun i => cW (ns s) (qs s) (cs s) i / g) (ns s) t * qs s ≤ 2 ^ 52 * 60 := fun t => by
    have h1 := hS_le (n := ns s) (q := qs s) (c := cs s) t
    have h2 := fS_le hg t
    rw [hH t] at h1
    rw [hF t] at h2
    have h3 := Nat.le_mul_of_pos_left (hS_ (fun i => cW (ns s) (qs s) (cs s) i / g) (ns s) t) g0
    have h4 := Nat.le_mul_of_pos_left (fS_ (fun i => cW (ns s) (qs s) (cs s) i / g) (cs s) (ns s) t) g0
    exact ⟨by omega, by omega, Nat.mul_le_mul (by omega) hq2⟩
  have hTb : sN (cW (ns s) (qs s) (cs s)) (ns s) / g ≤ 2 ^ 52 := Nat.le_trans (Nat.div_le_self _ _) htb
  have hns : nset (ns s) (qs s) (cs s) = nb (hS_ (fun i => cW (ns s) (qs s) (cs s) i / g) (ns s)) (fS_ (fun i => cW (ns s) (qs s) (cs s) i / g) (cs s) (ns s)) (sN (cW (ns s) (qs s) (cs s)) (ns s) / g) (2 ^ ns s) := by rw [← nset_all hg hwh, hnbe]
  have hFd : ∀ t, fS_ (cW (ns s) (qs s) (cs s)) (cs s) (ns s) t / g = fS_ (fun i => cW (ns s) (qs s) (cs s) i / g) (cs s) (ns s) t := fun t => by rw [hF t, Nat.mul_div_cancel_left _ g0]
  have hHd : ∀ t, hS_ (cW (ns s) (qs s) (cs s)) (ns s) t / g = hS_ (fun i => cW (ns s) (qs s) (cs s) i / g) (ns s) t := fun t => by rw [hH t, Nat.mul_div_cancel_left _ g0]
  have r2 : ∀ (x : Mm), rfr M x R → (∀ i, i < 8 → x.2.1 (R 10) i = M.2.1 (R 10) i) → ∀ t, t < 2 ^ ns s → ∀ i3, lp_X9_narrowest_70 G x (R 0) (nI s) (nI (ns s)) i3 (nI t) FU (lN 0) (lN 0) (nI 0) = some (lN (hS_ (fun i => cW (ns s) (qs s) (cs s) i / g) (ns s) t), lN (fS_ (fun i => cW (ns s) (qs s) (cs s) i / g) (cs s) (ns s) t)) := fun x hx hx2 t ht i3 => rnk_2 (rRI_r h hx) hs hn ⟨g0, gd, fun i hi => by rw [hx2 i hi]; exact gw i hi⟩ ht
  have r3 : ∀ (x : Mm), rfr M x R → (∀ i, i < 8 → x.2.1 (R 10) i = M.2.1 (R 10) i) → f_X9_allWeights G x (R 0) = some (lN (sN (cW (ns s) (qs s) (cs s)) (ns s) / g)) := fun x hx hx2 => allWeights_eq (rRI_r h hx) hn8 ⟨g0, gd, fun i hi => by rw [hx2 i hi]; exact gw i hi⟩
  unfold cutA
  rw [hns, hFd, hHd]
  clear hns hFd hHd hnbe hH hF hW
  generalize hS_ (fun i => cW (ns s) (qs s) (cs s) i / g) (ns s) = H at *
  generalize fS_ (fun i => cW (ns s) (qs s) (cs s) i / g) (cs s) (ns s) = F at *
  generalize sN (cW (ns s) (qs s) (cs s)) (ns s) / g = T at *
  have n100 : R 10 ≠ R 0 := sR_ne h.1 (by decide) (by decide) (by decide)
  refine lpI (fun f i4 (x : Int32 × Mm) => lp_X9_narrowest_53 G (R 0) (nI s) (nI (ns s)) f x.1 i4 x.2) (fun t x => x.1 = (if nb H F T t = 0 then -nI 1 else nI (nb H F T t)) ∧ rfr M x.2 R ∧ (∀ i, i < 8 → x.2.2.1 (R 10) i = M.2.1 (R 10) i) ∧ (nb H F T t ≠ 0 → x.2.2.1 (R 0) 21 = lN (F (nb H F T t)) ∧ x.2.2.1 (R 0) 22 = lN (H (nb H F T t) * qs s)) ∧ 0 < t) (2 ^ ns s) _ (by omega) (fun f t x ht hx => ?_) (fun f x hx => ?_) (j0 := 1) (x := (-nI 1, M)) (by omega) ⟨rfl, rfr_rf M R, fun _ _ => rfl, fun z => absurd rfl z, by decide⟩
  · obtain ⟨x1, x2⟩ := x
    obtain ⟨e1, e2, e3, e4, t0⟩ := hx
    dsimp only at e1 e2 e3 e4
    left
    have hIx := rRI_r h e2
    have a1 := r2 x2 e2 e3 t ht x1
    have a2 := r3 x2 e2 e3
    have r4 := hIx.2.1.2.2.1
    have o1 := (slo_c hIx hs hn).2.2.1
    have nl := nb_lt H F T t t0
    have hnb : nb H F T (t + 1) = if 0 < t ∧ 2 * H t ≤ T ∧ (nb H F T t = 0 ∨ F t * H (nb H F T t) < F (nb H F T t) * H t) then t else nb H F T t := rfl
    have hposB : ∀ B, B ≠ 0 → B < t → 0 < H B := fun B hB hBt => hpos B (by omega) (by omega)
    have hpt := hpos t t0 ht
    have hb1 := hbd t
    generalize nb H F T (t + 1) = N1 at *
    generalize nb H F T t = B at *
    have hb2 := hbd B
    have took : rfr M (mwJ (mwJ x2 (R 0) 21 (lN (F t))) (R 0) 22 (lN (H t * qs s))) R := rfr_tr e2 (rfr_tr (rfr_J (by decide)) (rfr_J (by decide)))
    have took2 : ∀ i, i < 8 → (mwJ (mwJ x2 (R 0) 21 (lN (F t))) (R 0) 22 (lN (H t * qs s))).2.1 (R 10) i = M.2.1 (R 10) i := fun i hi => by rw [mwJ_n (Or.inl n100), mwJ_n (Or.inl n100)]; exact e3 i hi
    have took3 : (mwJ (mwJ x2 (R 0) 21 (lN (F t))) (R 0) 22 (lN (H t * qs s))).2.1 (R 0) 21 = lN (F t) ∧ (mwJ (mwJ x2 (R 0) 21 (lN (F t))) (R 0) 22 (lN (H t * qs s))).2.1 (R 0) 22 = lN (H t * qs s) := ⟨by rw [mwJ_n (by omega), mwJ_s], mwJ_s⟩
    have r4' : (mwJ x2 (R 0) 21 (lN (F t))).2.2 (R 0) 4 = some (R 3) := r4
    have o1' : (mwJ x2 (R 0) 21 (lN (F t))).1 (R 3) s = nI (qs s) := o1
    by_cases hc1 : 2 * H t ≤ T
    · by_cases hB0 : B = 0
      · rw [if_pos ⟨t0, hc1, Or.inl hB0⟩] at hnb
        rw [hnb]
        rw [if_pos hB0] at e1
        refine ⟨(nI t, mwJ (mwJ x2 (R 0) 21 (lN (F t))) (R 0) 22 (lN (H t * qs s))), ⟨by rw [if_neg (by omega)], took, took2, fun _ => took3, by omega⟩, ?_⟩
        dsimp only
        subst e1
        rw [lp_X9_narrowest_53, bd_X9_narrowest_53]
        simp (disch := first | assumption | omega | (refine inb_n ?_ ?_ <;> omega) | fail) only [ck_t, Option.bind_some, iLeP, iLeN, iLtP, iLtN, iEqP, iEqN, nI_1, pk_mul, nI_add, cl_n, zI0, zI1, zI8, bI_z, if_true_eq, if_false_eq, if_true, if_false, lEqP, lEqN, lGtP, lGtN, lLeP, lLeN, lGeP, lGeN, lLtP, lLtN, lN_mul, lN_add, nI_l, pk_lDiv, pk_lRem, ckl, zL0, zL1, es, a1, a2, z2l, jn_X9_narrowest_206, r4', l3, o1']
      · obtain ⟨e5, e6⟩ := e4 hB0
        rw [if_neg hB0] at e1
        have hcr : F t * (H B * qs s) < F B * (H t * qs s) ↔ F t * H B < F B * H t := by
          rw [← Nat.mul_assoc, ← Nat.mul_assoc]
          exact ⟨fun z => Nat.lt_of_mul_lt_mul_right z, fun z => Nat.mul_lt_mul_of_pos_right z hq1⟩
        have ei := isLess_eq (a := F t) (b := H t * qs s) (c := F B) (d := H B * qs s) (by omega) (by omega) (by omega) (by omega) (Nat.mul_pos hpt hq1) (Nat.mul_pos (hposB B hB0 nl) hq1)
        by_cases hc2 : F t * H B < F B * H t
        · rw [if_pos ⟨t0, hc1, Or.inr hc2⟩] at hnb
          rw [hnb]
          rw [decide_eq_true (hcr.mpr hc2)] at ei
          refine ⟨(nI t, mwJ (mwJ x2 (R 0) 21 (lN (F t))) (R 0) 22 (lN (H t * qs s))), ⟨by rw [if_neg (by omega)], took, took2, fun _ => took3, by omega⟩, ?_⟩
          dsimp only
          subst e1
          rw [lp_X9_narrowest_53, bd_X9_narrowest_53]
          simp (disch := first | assumption | omega | (refine inb_n ?_ ?_ <;> omega) | fail) only [ck_t, Option.bind_some, iLeP, iLeN, iLtP, iLtN, iEqP, iEqN, nI_1, pk_mul, nI_add, cl_n, zI0, zI1, zI8, bI_z, if_true_eq, if_false_eq, if_true, if_false, lEqP, lEqN, lGtP, lGtN, lLeP, lLeN, lGeP, lGeN, lLtP, lLtN, lN_mul, lN_add, nI_l, pk_lDiv, pk_lRem, ckl, zL0, zL1, es, a1, a2, z2l, m1N, r4, l3, o1, e5, e6, ei, jn_X9_narrowest_206, r4', o1']
        · rw [if_neg (fun z => z.2.2.elim hB0 hc2)] at hnb
          rw [hnb]
          rw [decide_eq_false (fun z => hc2 (hcr.mp z))] at ei
          refine ⟨(x1, x2), ⟨by rw [if_neg hB0]; exact e1, e2, e3, e4, by omega⟩, ?_⟩
          dsimp only
          subst e1
          rw [lp_X9_narrowest_53, bd_X9_narrowest_53]
          simp (disch := first | assumption | omega | (refine inb_n ?_ ?_ <;> omega) | fail) only [ck_t, Option.bind_some, iLeP, iLeN, iLtP, iLtN, iEqP, iEqN, nI_1, pk_mul, nI_add, cl_n, zI0, zI1, zI8, bI_z, if_true_eq, if_false_eq, if_true, if_false, lEqP, lEqN, lGtP, lGtN, lLeP, lLeN, lGeP, lGeN, lLtP, lLtN, lN_mul, lN_add, nI_l, pk_lDiv, pk_lRem, ckl, zL0, zL1, es, a1, a2, z2l, m1N, r4, l3, o1, e5, e6, ei]
    · rw [if_neg (fun z => hc1 z.2.1)] at hnb
      rw [hnb]
      refine ⟨(x1, x2), ⟨e1, e2, e3, e4, by omega⟩, ?_⟩
      dsimp only
      rw [lp_X9_narrowest_53, bd_X9_narrowest_53]
      simp (disch := first | assumption | omega | (refine inb_n ?_ ?_ <;> omega) | fail) only [ck_t, Option.bind_some, iLeP, iLeN, iLtP, iLtN, iEqP, iEqN, nI_1, pk_mul, nI_add, cl_n, zI0, zI1, zI8, bI_z, if_true_eq, if_false_eq, if_true, if_false, lEqP, lEqN, lGtP, lGtN, lLeP, lLeN, lGeP, lGeN, lLtP, lLtN, lN_mul, lN_add, nI_l, pk_lDiv, pk_lRem, ckl, zL0, zL1, es, a1, a2, z2l]
  · obtain ⟨x1, x2⟩ := x
    obtain ⟨e1, e2, e3, e4, t0⟩ := hx
    dsimp only at e1 e2 e3 e4
    refine ⟨(x1, x2), ?_, e1, e2, e4⟩
    dsimp only
    rw [lp_X9_narrowest_53, bd_X9_narrowest_53]
    simp (disch := first | assumption | omega | (refine inb_n ?_ ?_ <;> omega) | fail) only [ck_t, Option.bind_some, iLeP, iLeN, iLtP, iLtN, iEqP, iEqN, nI_1, pk_mul, nI_add, cl_n, zI0, zI1, zI8, bI_z, if_true_eq, if_false_eq, if_true, if_false, es]
theorem rnarrowest_p (h : rRI G M R tl tv ol ov ns qs cs) {i1 : Int32} {s : Nat} (ho : nwOK_ ns cs i1 s) : OK (f_X9_narrowest G M (R 0) i1) (fun r => r.1 = cutA (ns s) (qs s) (cs s) ∧ rfr M r.2 R ∧ ∃ g, 0 < g ∧ g ∣ fS_ (cW (ns s) (qs s) (cs s)) (cs s) (ns s) (nset (ns s) (qs s) (cs s)) ∧ g ∣ hS_ (cW (ns s) (qs s) (cs s)) (ns s) (nset (ns s) (qs s) (cs s)) ∧ (nset (ns s) (qs s) (cs s) ≠ 0 → r.2.2.1 (R 0) 21 = lN (fS_ (cW (ns s) (qs s) (cs s)) (cs s) (ns s) (nset (ns s) (qs s) (cs s)) / g) ∧ r.2.2.1 (R 0) 22 = lN (hS_ (cW (ns s) (qs s) (cs s)) (ns s) (nset (ns s) (qs s) (cs s)) / g * qs s))) := by
  obtain ⟨hs, rfl, hn2, hwh⟩ := ho
  have hn : 0 < ns s := by omega
  obtain ⟨hg, c1, c2, c3⟩ := slo_c h hs hn
  have hn8 := hg.2.1
  have k0 : isK G (R 0) 9 := h.1.2.1 0 (by decide)
  have k2 : isK G (R 2) 10 := h.1.2.1 2 (by decide)
  have l2 : G.2.2 (R 2) = 7 := h.1.2.2 2 (by decide) (by decide)
  have r3 := h.2.1.2.1
  have e0 := rhas_p h hs hn
  obtain ⟨M1, a1, a2, a3⟩ := reach_ok h hs hn
  have hI1 := rRI_r h a2
  have h8 := a3.2.2
  rw [hwh] at h8
  obtain ⟨M2, b1, b2, g, b3⟩ := weigh_ok (h0 := 0) hI1 hs hn a3 (by decide) (wh_bs hwh) (wh_one hwh)
  have hI2 := rRI_r hI1 b2
  obtain ⟨⟨v, M3⟩, d1, d2, d3, d4⟩ := rnk_3 hI2 hs hn2 hwh b3
  dsimp only at d2 d3 d4
  have r3' := hI2.2.1.2.1
  have c1' := (slo_c hI2 hs hn).2.1
  have dv : ∀ (S : Nat) (f : Nat → Nat) (m : Nat), (∀ i, g ∣ f i) → g ∣ sB S f m := fun S f m hf => by
    induction m with
    | zero => exact ⟨0, rfl⟩
    | succ m ih =>
      rw [sB_s]
      refine Nat.dvd_add ih ?_
      split
      · exact hf m
      · exact Nat.dvd_zero g
  refine ⟨(v, M3), ?_, d2, rfr_tr a2 (rfr_tr b2 d3), g, b3.1, dv _ _ _ (fun i => Nat.dvd_trans (b3.2.1 i) (Nat.dvd_mul_right _ _)), dv _ _ _ b3.2.1, d4⟩
  unfold f_X9_narrowest
  simp (disch := first | assumption | omega | (refine inb_n ?_ ?_ <;> omega) | fail) only [ck_t, Option.bind_some, iLeP, iLeN, iLtP, iLtN, iEqP, iEqN, nI_1, pk_mul, nI_add, cl_n, zI0, zI1, zI8, bI_z, if_true_eq, if_false_eq, if_true, if_false, e0, r3, l2, c1, nz2, a1, h8, b1, r3', c1', d1]
theorem rnarrowest_n (h : rRI G M R tl tv ol ov ns qs cs) {i1 : Int32} (ho : ¬ ∃ s, nwOK_ ns cs i1 s) : OK (f_X9_narrowest G M (R 0) i1) (fun r => r.1 = -nI 1 ∧ rfr M r.2 R) := by
  have k0 : isK G (R 0) 9 := h.1.2.1 0 (by decide)
  by_cases h1 : slo ns i1
  · obtain ⟨s, hs, rfl, hn⟩ := h1
    obtain ⟨hg, c1, c2, c3⟩ := slo_c h hs hn
    have hn8 := hg.2.1
    have k2 : isK G (R 2) 10 := h.1.2.1 2 (by decide)
    have l2 : G.2.2 (R 2) = 7 := h.1.2.2 2 (by decide) (by decide)
    have r3 := h.2.1.2.1
    have e0 := rhas_p h hs hn
    by_cases h2 : 2 ≤ ns s
    · obtain ⟨M1, a1, a2, a3⟩ := reach_ok h hs hn
      have h8 := a3.2.2
      have hge := hps_pos (c := cs s) hg.1
      have hle := ct_le (lsB (cL (cs s) (ns s)) (ns s)) (ns s)
      have hne : ct (lsB (cL (cs s) (ns s)) (ns s)) (ns s) ≠ 1 := fun z => ho ⟨s, hs, rfl, h2, z⟩
      refine ⟨(-nI 1, M1), ?_, rfl, a2⟩
      unfold f_X9_narrowest
      simp (disch := first | assumption | omega | (refine inb_n ?_ ?_ <;> omega) | fail) only [ck_t, Option.bind_some, iLeP, iLeN, iLtP, iLtN, iEqP, iEqN, nI_1, pk_mul, nI_add, cl_n, zI0, zI1, zI8, bI_z, if_true_eq, if_false_eq, if_true, if_false, e0, r3, l2, c1, nz2, a1, h8]
    · refine ⟨(-nI 1, M), ?_, rfl, rfr_rf M R⟩
      unfold f_X9_narrowest
      simp (disch := first | assumption | omega | (refine inb_n ?_ ?_ <;> omega) | fail) only [ck_t, Option.bind_some, iLeP, iLeN, iLtP, iLtN, iEqP, iEqN, nI_1, pk_mul, nI_add, cl_n, zI0, zI1, zI8, bI_z, if_true_eq, if_false_eq, if_true, if_false, e0, r3, l2, c1, nz2]
  · have e0 := rhas_n h h1
    refine ⟨(-nI 1, M), ?_, rfl, rfr_rf M R⟩
    unfold f_X9_narrowest
    simp (disch := first | assumption | omega | (refine inb_n ?_ ?_ <;> omega) | fail) only [ck_t, Option.bind_some, iLeP, iLeN, iLtP, iLtN, iEqP, iEqN, nI_1, pk_mul, nI_add, cl_n, zI0, zI1, zI8, bI_z, if_true_eq, if_false_eq, if_true, if_false, e0]
theorem rnarrow_p (h : rRI G M R tl tv ol ov ns qs cs) {i1 i2 : Int32} {s : Nat} (ho : nwOK_ ns cs i1 s) (hw : wht i2) (h0 : nset (ns s) (qs s) (cs s) ≠ 0) : OK (f_X9_narrow G M (R 0) i1 i2) (fun r => r.1 = tld (fS_ (cW (ns s) (qs s) (cs s)) (cs s) (ns s) (nset (ns s) (qs s) (cs s))) (qs s * hS_ (cW (ns s) (qs s) (cs s)) (ns s) (nset (ns s) (qs s) (cs s))) i2 ∧ ans G M R tl tv ol ov ns qs cs r.2) := by
  obtain ⟨⟨v, M1⟩, a1, a2, a3, g, g0, gf, gh, a4⟩ := rnarrowest_p h ho
  obtain ⟨hs, rfl, hn2, hwh⟩ := ho
  obtain ⟨hg, c1, c2, c3⟩ := slo_c h hs (by omega)
  dsimp only at a2 a3 a4
  obtain ⟨a5, a6⟩ := a4 h0
  have hn8 := hg.2.1
  have b8 := p2_31 hn8
  have hp : 0 < 2 ^ ns s := Nat.pow_pos (by decide)
  have h4 : 2 ^ 2 ≤ 2 ^ ns s := p2m hn2
  have hnl : nset (ns s) (qs s) (cs s) < 2 ^ ns s - 1 := nb_lt _ _ _ _ (by omega)
  have hh := hS_pos hg hwh (show 0 < nset (ns s) (qs s) (cs s) by omega) (by omega)
  have htb := cW_tb hg
  have hhl := hS_le (n := ns s) (q := qs s) (c := cs s) (nset (ns s) (qs s) (cs s))
  have hfl := fS_le hg (nset (ns s) (qs s) (cs s))
  have hq1 := hg.2.2.1
  have hq2 := hg.2.2.2.1
  have k0 : isK G (R 0) 9 := h.1.2.1 0 (by decide)
  have e1 := isWhat_p hw
  have hI1 := rRI_r h a3
  unfold cutA at a2
  rw [if_neg h0] at a2
  subst a2
  generalize hS_ (cW (ns s) (qs s) (cs s)) (ns s) (nset (ns s) (qs s) (cs s)) = H at *
  generalize fS_ (cW (ns s) (qs s) (cs s)) (cs s) (ns s) (nset (ns s) (qs s) (cs s)) = F at *
  have hd1 : F / g ≤ F := Nat.div_le_self _ _
  have hd2 : H / g ≤ H := Nat.div_le_self _ _
  have hd3 : 0 < H / g := Nat.div_pos (Nat.le_of_dvd hh gh) g0
  have hqh : H / g * qs s ≤ 2 ^ 52 * 60 := Nat.mul_le_mul (by omega) hq2
  have et := told_eq (i := i2) hI1 (show F / g < 2 ^ 63 by omega) (show H / g * qs s < 2 ^ 63 by omega) (Nat.mul_pos hd3 hq1)
  have hx : H / g * qs s = qs s * H / g := by
    rw [Nat.mul_comm, Nat.mul_div_assoc _ gh]
  rw [hx, tld_g g0 gf (Nat.dvd_trans gh (Nat.dvd_mul_left _ _))] at et
  rw [hx] at a6
  refine ⟨(tld F (qs s * H) i2, mwI M1 (R 0) 0 (nI 0)), ?_, rfl, ans_2 h a3⟩
  unfold f_X9_narrow
  simp (disch := first | assumption | omega | (refine inb_n ?_ ?_ <;> omega) | fail) only [ck_t, Option.bind_some, iLeP, iLeN, iLtP, iLtN, iEqP, iEqN, nI_1, pk_mul, nI_add, cl_n, zI0, zI1, zI8, bI_z, if_true_eq, if_false_eq, if_true, if_false, e1, a1, m1N, a5, a6, et]
theorem rnarrow_n (h : rRI G M R tl tv ol ov ns qs cs) {i1 i2 : Int32} (ho : ¬ ∃ s, nwOK_ ns cs i1 s ∧ wht i2 ∧ nset (ns s) (qs s) (cs s) ≠ 0) : OK (f_X9_narrow G M (R 0) i1 i2) (fun r => rfd G M R tl tv ol ov ns qs cs r.2) := by
  have k0 : isK G (R 0) 9 := h.1.2.1 0 (by decide)
  by_cases hw : wht i2
  · have e1 := isWhat_p hw
    by_cases h1 : ∃ s, nwOK_ ns cs i1 s
    · obtain ⟨s, ho1⟩ := h1
      obtain ⟨⟨v, M1⟩, a1, a2, a3, g, g0, gf, gh, a4⟩ := rnarrowest_p h ho1
      have h0 : nset (ns s) (qs s) (cs s) = 0 := by
        apply Classical.byContradiction
        intro z
        exact ho ⟨s, ho1, hw, z⟩
      dsimp only at a2 a3
      unfold cutA at a2
      rw [if_pos h0] at a2
      subst a2
      have er := refuse_eq (rRI_r h a3)
      have a1' : f_X9_narrowest G M (R 0) i1 = some (-nI 1, M1) := a1
      refine ⟨(Int32.toInt64 (nI 0), mwI M1 (R 0) 0 (nI 1)), ?_, rfd_2 h a3⟩
      unfold f_X9_narrow
      simp (disch := first | assumption | omega | (refine inb_n ?_ ?_ <;> omega) | fail) only [ck_t, Option.bind_some, iLeP, iLeN, iLtP, iLtN, iEqP, iEqN, nI_1, pk_mul, nI_add, cl_n, zI0, zI1, zI8, bI_z, if_true_eq, if_false_eq, if_true, if_false, e1, a1', er]
    · obtain ⟨⟨v, M1⟩, a1, a2, a3⟩ := rnarrowest_n h h1
      dsimp only at a2 a3
      subst a2
      have er := refuse_eq (rRI_r h a3)
      refine ⟨(Int32.toInt64 (nI 0), mwI M1 (R 0) 0 (nI 1)), ?_, rfd_2 h a3⟩
      unfold f_X9_narrow
      simp (disch := first | assumption | omega | (refine inb_n ?_ ?_ <;> omega) | fail) only [ck_t, Option.bind_some, iLeP, iLeN, iLtP, iLtN, iEqP, iEqN, nI_1, pk_mul, nI_add, cl_n, zI0, zI1, zI8, bI_z, if_true_eq, if_false_eq, if_true, if_false, e1, a1, er]
  · have e1 := isWhat_n hw
    have er := refuse_eq h
    refine ⟨(Int32.toInt64 (nI 0), mwI M (R 0) 0 (nI 1)), ?_, rfd_1 h⟩
    unfold f_X9_narrow
    simp (disch := first | assumption | omega | (refine inb_n ?_ ?_ <;> omega) | fail) only [ck_t, Option.bind_some, iLeP, iLeN, iLtP, iLtN, iEqP, iEqN, nI_1, pk_mul, nI_add, cl_n, zI0, zI1, zI8, bI_z, if_true_eq, if_false_eq, if_true, if_false, e1, er]
theorem rcut_p (h : rRI G M R tl tv ol ov ns qs cs) {i1 : Int32} {s : Nat} (ho : nwOK_ ns cs i1 s) : OK (f_X9_cut G M (R 0) i1) (fun r => r.1 = cutA (ns s) (qs s) (cs s) ∧ rRI G r.2 R tl tv ol ov ns qs cs ∧ unt M r.2 R 17) := by
  obtain ⟨z1, z2⟩ := thr_0 h (nI 0)
  obtain ⟨⟨v, M1⟩, a1, a2, a3, g, g0, gf, gh, a4⟩ := rnarrowest_p z1 ho
  dsimp only at a2 a3
  have k0 : isK G (R 0) 9 := h.1.2.1 0 (by decide)
  refine ⟨(v, M1), ?_, a2, rRI_r z1 a3, unt_tr z2 (unt_r a3)⟩
  unfold f_X9_cut
  simp (disch := first | assumption | omega | (refine inb_n ?_ ?_ <;> omega) | fail) only [ck_t, Option.bind_some, iLeP, iLeN, iLtP, iLtN, iEqP, iEqN, nI_1, pk_mul, nI_add, cl_n, zI0, zI1, zI8, bI_z, if_true_eq, if_false_eq, if_true, if_false, a1]
theorem rcut_n (h : rRI G M R tl tv ol ov ns qs cs) {i1 : Int32} (ho : ¬ ∃ s, nwOK_ ns cs i1 s) : OK (f_X9_cut G M (R 0) i1) (fun r => r.1 = -1 ∧ rRI G r.2 R tl tv ol ov ns qs cs ∧ unt M r.2 R 17) := by
  obtain ⟨z1, z2⟩ := thr_0 h (nI 0)
  obtain ⟨⟨v, M1⟩, a1, a2, a3⟩ := rnarrowest_n z1 ho
  dsimp only at a2 a3
  have k0 : isK G (R 0) 9 := h.1.2.1 0 (by decide)
  refine ⟨(v, M1), ?_, a2, rRI_r z1 a3, unt_tr z2 (unt_r a3)⟩
  unfold f_X9_cut
  simp (disch := first | assumption | omega | (refine inb_n ?_ ?_ <;> omega) | fail) only [ck_t, Option.bind_some, iLeP, iLeN, iLtP, iLtN, iEqP, iEqN, nI_1, pk_mul, nI_add, cl_n, zI0, zI1, zI8, bI_z, if_true_eq, if_false_eq, if_true, if_false, a1]
end
