/-! the reference: a chain made and put into its slot -/
theorem nz384 : (384 : Int32) = nI 384 := rfl
def mdR (M : Mm) (R : Nat → Nat) (n : Nat) (f : Nat → Nat → Nat) : Prop := ∀ i j, i < n → j < n → M.1 (R 4) (384 + 8 * i + j) = nI (f i j)
/-- the divisor row by row -/
def gR (n q : Nat) (f : Nat → Nat → Nat) : Nat → Nat
  | 0 => q
  | i + 1 => gcS (gR n q f i) (f i) n
theorem gR_d (n q : Nat) (f : Nat → Nat → Nat) : ∀ i, gR n q f i ∣ q
  | 0 => Nat.dvd_refl q
  | i + 1 => Nat.dvd_trans (gcS_d _ _ _) (gR_d n q f i)
theorem gR_f (n q : Nat) (f : Nat → Nat → Nat) : ∀ i x y, x < i → y < n → gR n q f i ∣ f x y
  | 0, x, y, h, _ => absurd h (by omega)
  | i + 1, x, y, h, hy => by
    by_cases e : x = i
    · subst e; exact gcS_f _ _ n y hy
    · exact Nat.dvd_trans (gcS_d _ _ _) (gR_f n q f i x y (by omega) hy)
theorem gR_u {n q : Nat} {f : Nat → Nat → Nat} {d : Nat} (h : d ∣ q) : ∀ i, (∀ x y, x < i → y < n → d ∣ f x y) → d ∣ gR n q f i
  | 0, _ => h
  | i + 1, hf => gcS_u (gR_u h i (fun x y hx hy => hf x y (by omega) hy)) n (fun j hj => hf i j (by omega) hj)
theorem gR_G (n q : Nat) (f : Nat → Nat → Nat) : isG n q f (gR n q f n) := ⟨gR_d n q f n, fun i j hi hj => gR_f n q f n i j hi hj, fun d hd hf => gR_u hd n hf⟩
section
variable {G : Gg} {M : Mm} {R : Nat → Nat} {tl : Nat} {tv : Nat → Nat} {ol : Nat} {ov ns qs : Nat → Nat} {cs : Nat → Nat → Nat → Nat}
theorem rat_eq (hs : shR G R) (hr : rfR M R) {s i j : Nat} (h1 : s < 7) (h2 : i < 8) (h3 : j < 8) : f_X9_at G M (R 0) (nI s) (nI i) (nI j) = some (M.1 (R 4) (64 * s + 8 * i + j)) := by
  have k0 : isK G (R 0) 9 := hs.2.1 0 (by decide)
  have k4 : isK G (R 4) 10 := hs.2.1 4 (by decide)
  have l4 : G.2.2 (R 4) = 448 := hs.2.2 4 (by decide) (by decide)
  have r4 := hr.2.2.2.1
  unfold f_X9_at
  simp (disch := first | assumption | omega | (refine inb_n ?_ ?_ <;> omega) | fail) only [ck_t, Option.bind_some, iLeP, iLeN, iLtP, iLtN, iEqP, iEqN, nI_1, pk_mul, nI_add, cl_n, zI0, zI1, zI8, bI_z, if_true_eq, if_false_eq, if_true, if_false, r4, l4, nz64]
theorem make_eq (hs : shR G R) (hr : rfR M R) {i j : Nat} {x : Int32} (h2 : i < 8) (h3 : j < 8) : f_X9_make G M (R 0) (nI i) (nI j) x = some (mwI M (R 4) (384 + 8 * i + j) x) := by
  have k0 : isK G (R 0) 9 := hs.2.1 0 (by decide)
  have k4 : isK G (R 4) 10 := hs.2.1 4 (by decide)
  have l4 : G.2.2 (R 4) = 448 := hs.2.2 4 (by decide) (by decide)
  have r4 := hr.2.2.2.1
  unfold f_X9_make
  simp (disch := first | assumption | omega | (refine inb_n ?_ ?_ <;> omega) | fail) only [ck_t, Option.bind_some, iLeP, iLeN, iLtP, iLtN, iEqP, iEqN, nI_1, pk_mul, nI_add, cl_n, zI0, zI1, zI8, bI_z, if_true_eq, if_false_eq, if_true, if_false, r4, l4, nz384]
theorem rhas_p (h : rRI G M R tl tv ol ov ns qs cs) {s : Nat} (hs : s < 6) (hn : 0 < ns s) : f_X9_has G M (R 0) (nI s) = some (nI 1) := by
  have k0 : isK G (R 0) 9 := h.1.2.1 0 (by decide)
  have k2 : isK G (R 2) 10 := h.1.2.1 2 (by decide)
  have l2 : G.2.2 (R 2) = 7 := h.1.2.2 2 (by decide) (by decide)
  have r3 := h.2.1.2.1
  obtain ⟨c1, c2⟩ := h.2.2.2.2 s hs
  have : ns s ≤ 8 := by
    rcases c2 with c2 | c2
    · omega
    · exact c2.1.2.1
  unfold f_X9_has
  simp (disch := first | assumption | omega | (refine inb_n ?_ ?_ <;> omega) | fail) only [ck_t, Option.bind_some, iLeP, iLeN, iLtP, iLtN, iEqP, iEqN, nI_1, pk_mul, nI_add, cl_n, zI0, zI1, zI8, bI_z, if_true_eq, if_false_eq, if_true, if_false, r3, l2, c1, nz6]
theorem rhas_n (h : rRI G M R tl tv ol ov ns qs cs) {i : Int32} (hi : ¬ slo ns i) : f_X9_has G M (R 0) i = some (nI 0) := by
  have k0 : isK G (R 0) 9 := h.1.2.1 0 (by decide)
  have k2 : isK G (R 2) 10 := h.1.2.1 2 (by decide)
  have l2 : G.2.2 (R 2) = 7 := h.1.2.2 2 (by decide) (by decide)
  have r3 := h.2.1.2.1
  unfold f_X9_has
  rcases int_c i with hn | ⟨j, hj, rfl⟩
  · exact if_pos hn
  · rcases Nat.lt_or_ge j 6 with h6 | h6
    · have hz : ns j = 0 := by
        rcases Nat.eq_zero_or_pos (ns j) with h1 | h1
        · exact h1
        · exact absurd ⟨j, h6, rfl, h1⟩ hi
      obtain ⟨c1, c2⟩ := h.2.2.2.2 j h6
      rw [hz] at c1
      simp (disch := first | assumption | omega | (refine inb_n ?_ ?_ <;> omega) | fail) only [ck_t, Option.bind_some, iLeP, iLeN, iLtP, iLtN, iEqP, iEqN, nI_1, pk_mul, nI_add, cl_n, zI0, zI1, zI8, bI_z, if_true_eq, if_false_eq, if_true, if_false, r3, l2, c1, nz6]
    · simp (disch := first | assumption | omega | (refine inb_n ?_ ?_ <;> omega) | fail) only [ck_t, Option.bind_some, iLeP, iLeN, iLtP, iLtN, iEqP, iEqN, nI_1, pk_mul, nI_add, cl_n, zI0, zI1, zI8, bI_z, if_true_eq, if_false_eq, if_true, if_false, nz6]
theorem slo_c (h : rRI G M R tl tv ol ov ns qs cs) {s : Nat} (hs : s < 6) (hn : 0 < ns s) : gch (ns s) (qs s) (cs s) ∧ M.1 (R 2) s = nI (ns s) ∧ M.1 (R 3) s = nI (qs s) ∧ ∀ i j, i < ns s → j < ns s → M.1 (R 4) (64 * s + 8 * i + j) = nI (cs s i j) := by
  obtain ⟨c1, c2⟩ := h.2.2.2.2 s hs
  rcases c2 with c2 | c2
  · omega
  · exact ⟨c2.1, c1, c2.2.1, c2.2.2⟩
/-- the reference's array of sizes and of Qs -/
theorem gcS_b {q : Nat} {g : Nat → Nat} (hq : 0 < q) (k : Nat) : 0 < gcS q g k ∧ gcS q g k ≤ q := ⟨Nat.pos_of_dvd_of_pos (gcS_d q g k) hq, gcS_le hq k⟩
theorem gR_b {n q : Nat} {f : Nat → Nat → Nat} (hq : 0 < q) (k : Nat) : 0 < gR n q f k ∧ gR n q f k ≤ q := ⟨Nat.pos_of_dvd_of_pos (gR_d n q f k) hq, Nat.le_of_dvd hq (gR_d n q f k)⟩
theorem puts_1 (hs : shR G R) (hr : rfR M R) {n q : Nat} {f : Nat → Nat → Nat} {i1 i3 : Int32} (hn : n ≤ 8) (hq : 0 < q) (hq2 : q < 2 ^ 20) (hf : ∀ i j, f i j < 2 ^ 20) (hm : mdR M R n f) : lp_X9_puts_7 G M (R 0) i1 (nI n) i3 FU (lN q) (nI 0) = some (lN (gR n q f n)) := by
  have k0 : isK G (R 0) 9 := hs.2.1 0 (by decide)
  refine lpF (fun f1 (x : Int64) i => lp_X9_puts_7 G M (R 0) i1 (nI n) i3 f1 x i) (fun k => lN (gR n q f k)) n _ (by omega) (fun f1 i hi => ?_) (fun f1 => ?_)
  · have hb := gR_b (n := n) (f := f) hq i
    have e : lp_X9_puts_16 G M (R 0) i1 (nI n) i3 (nI i) FU (lN (gR n q f i)) (nI 0) = some (lN (gcS (gR n q f i) (f i) n)) := by
      refine lpF (fun f1 (x : Int64) j => lp_X9_puts_16 G M (R 0) i1 (nI n) i3 (nI i) f1 x j) (fun k => lN (gcS (gR n q f i) (f i) k)) n _ (by omega) (fun f2 j hj => ?_) (fun f2 => ?_)
      · have ea := rat_eq hs hr (show 6 < 7 by decide) (show i < 8 by omega) (show j < 8 by omega)
        have em := hm i j hi hj
        have hb2 := gcS_b (g := f i) hb.1 j
        have hfj := hf i j
        have ec := cmn_eq (a := gcS (gR n q f i) (f i) j) (b := f i j) (by omega) (by omega)
        rw [show 64 * 6 + 8 * i + j = 384 + 8 * i + j by omega, em] at ea
        rw [lp_X9_puts_16, bd_X9_puts_16]
        simp (disch := first | assumption | omega | (refine inb_n ?_ ?_ <;> omega) | fail) only [ck_t, Option.bind_some, iLeP, iLeN, iLtP, iLtN, iEqP, iEqN, nI_1, pk_mul, nI_add, cl_n, zI0, zI1, zI8, bI_z, if_true_eq, if_false_eq, if_true, if_false, lEqP, lEqN, lGtP, lGtN, lLeP, lLeN, lGeP, lGeN, lLtP, lLtN, lN_mul, lN_add, nI_l, pk_lDiv, pk_lRem, ckl, zL0, zL1, nz6, ea, ec]
        rfl
      · rw [lp_X9_puts_16, bd_X9_puts_16]
        simp (disch := first | assumption | omega | (refine inb_n ?_ ?_ <;> omega) | fail) only [ck_t, Option.bind_some, iLeP, iLeN, iLtP, iLtN, iEqP, iEqN, nI_1, pk_mul, nI_add, cl_n, zI0, zI1, zI8, bI_z, if_true_eq, if_false_eq, if_true, if_false]
    rw [lp_X9_puts_7, bd_X9_puts_7]
    simp (disch := first | assumption | omega | (refine inb_n ?_ ?_ <;> omega) | fail) only [ck_t, Option.bind_some, iLeP, iLeN, iLtP, iLtN, iEqP, iEqN, nI_1, pk_mul, nI_add, cl_n, zI0, zI1, zI8, bI_z, if_true_eq, if_false_eq, if_true, if_false, e]
    rfl
  · rw [lp_X9_puts_7, bd_X9_puts_7]
    simp (disch := first | assumption | omega | (refine inb_n ?_ ?_ <;> omega) | fail) only [ck_t, Option.bind_some, iLeP, iLeN, iLtP, iLtN, iEqP, iEqN, nI_1, pk_mul, nI_add, cl_n, zI0, zI1, zI8, bI_z, if_true_eq, if_false_eq, if_true, if_false]
/-- the cells of slot t written -/
theorem puts_2 (hs : shR G R) (hr : rfR M R) {n D t : Nat} {f : Nat → Nat → Nat} {i6 : Int32} (hn : n ≤ 8) (hD : 0 < D) (hD2 : D < 2 ^ 20) (ht : t < 6) (hf : ∀ i j, f i j < 2 ^ 20) (hm : mdR M R n f) : OK (lp_X9_puts_71 G (R 0) (nI t) (nI n) (lN D) i6 FU (nI 0) M) (fun M' => fr M M' [R 4] [] ∧ (∀ i j, i < n → j < n → M'.1 (R 4) (64 * t + 8 * i + j) = nI (f i j / D)) ∧ ∀ k, k < 64 * t ∨ 64 * t + 64 ≤ k → M'.1 (R 4) k = M.1 (R 4) k) := by
  have k0 : isK G (R 0) 9 := hs.2.1 0 (by decide)
  have k4 : isK G (R 4) 10 := hs.2.1 4 (by decide)
  have l4 : G.2.2 (R 4) = 448 := hs.2.2 4 (by decide) (by decide)
  refine lpI (fun f1 i3 (x : Mm) => lp_X9_puts_71 G (R 0) (nI t) (nI n) (lN D) i6 f1 i3 x) (fun i x => fr M x [R 4] [] ∧ (∀ a b, a < i → b < n → x.1 (R 4) (64 * t + 8 * a + b) = nI (f a b / D)) ∧ ∀ k, k < 64 * t ∨ 64 * t + 64 ≤ k → x.1 (R 4) k = M.1 (R 4) k) n _ (by omega) (fun f1 i x hi hx => ?_) (fun f1 x hx => ?_) (by omega) ⟨fr_rf, fun a b ha => absurd ha (by omega), fun _ _ => rfl⟩
  · obtain ⟨e1, e2, e3⟩ := hx
    left
    have e := lpI (fun f1 i3 (y : Mm) => lp_X9_puts_80 G (R 0) (nI t) (nI n) (lN D) i6 (nI i) f1 i3 y) (fun j y => fr M y [R 4] [] ∧ (∀ a b, a < i → b < n → y.1 (R 4) (64 * t + 8 * a + b) = nI (f a b / D)) ∧ (∀ b, b < j → y.1 (R 4) (64 * t + 8 * i + b) = nI (f i b / D)) ∧ ∀ k, k < 64 * t ∨ 64 * t + 64 ≤ k → y.1 (R 4) k = M.1 (R 4) k) n (fun y => fr M y [R 4] [] ∧ (∀ a b, a < i → b < n → y.1 (R 4) (64 * t + 8 * a + b) = nI (f a b / D)) ∧ (∀ b, b < n → y.1 (R 4) (64 * t + 8 * i + b) = nI (f i b / D)) ∧ ∀ k, k < 64 * t ∨ 64 * t + 64 ≤ k → y.1 (R 4) k = M.1 (R 4) k) (by omega) (fun f2 j y hj hy => by
      obtain ⟨g1, g2, g3, g4⟩ := hy
      left
      have hr' : rfR y R := by unfold rfR; rw [g1.2.2]; exact hr
      have ea := rat_eq (M := y) hs hr' (show 6 < 7 by decide) (show i < 8 by omega) (show j < 8 by omega)
      have em := hm i j hi hj
      rw [show 64 * 6 + 8 * i + j = 384 + 8 * i + j by omega, g4 _ (by omega), em] at ea
      have r4 := hr'.2.2.2.1
      have hfj := hf i j
      refine ⟨mwI y (R 4) (64 * t + 8 * i + j) (nI (f i j / D)), ⟨fr_tr g1 (fr_I in_1), fun a b ha hb => by rw [mwI_n (by omega)]; exact g2 a b ha hb, fun b hb => ?_, fun k hk => by rw [mwI_n (by omega)]; exact g4 k hk⟩, ?_⟩
      · by_cases hbj : b = j
        · subst hbj; rw [mwI_s]
        · rw [mwI_n (by omega)]; exact g3 b (by omega)
      · rw [lp_X9_puts_80, bd_X9_puts_80]
        simp (disch := first | assumption | omega | (refine inb_n ?_ ?_ <;> omega) | fail) only [ck_t, Option.bind_some, iLeP, iLeN, iLtP, iLtN, iEqP, iEqN, nI_1, pk_mul, nI_add, cl_n, zI0, zI1, zI8, bI_z, if_true_eq, if_false_eq, if_true, if_false, nz6, nz64, ea, r4, l4, lN_i, cki, pk_div]) (fun f2 y hy => by
      refine ⟨y, ?_, hy⟩
      rw [lp_X9_puts_80, bd_X9_puts_80]
      simp (disch := first | assumption | omega | (refine inb_n ?_ ?_ <;> omega) | fail) only [ck_t, Option.bind_some, iLeP, iLeN, iLtP, iLtN, iEqP, iEqN, nI_1, pk_mul, nI_add, cl_n, zI0, zI1, zI8, bI_z, if_true_eq, if_false_eq, if_true, if_false]) (j0 := 0) (x := x) (by omega) ⟨e1, e2, fun b hb => absurd hb (by omega), e3⟩
    obtain ⟨y, a1, a2, a3, a4, a5⟩ := e
    refine ⟨y, ⟨a2, fun a b ha hb => ?_, a5⟩, ?_⟩
    · by_cases hai : a = i
      · subst hai; exact a4 b hb
      · exact a3 a b (by omega) hb
    · rw [lp_X9_puts_71, bd_X9_puts_71]
      simp (disch := first | assumption | omega | (refine inb_n ?_ ?_ <;> omega) | fail) only [ck_t, Option.bind_some, iLeP, iLeN, iLtP, iLtN, iEqP, iEqN, nI_1, pk_mul, nI_add, cl_n, zI0, zI1, zI8, bI_z, if_true_eq, if_false_eq, if_true, if_false, a1]
  · refine ⟨x, ?_, hx⟩
    rw [lp_X9_puts_71, bd_X9_puts_71]
    simp (disch := first | assumption | omega | (refine inb_n ?_ ?_ <;> omega) | fail) only [ck_t, Option.bind_some, iLeP, iLeN, iLtP, iLtN, iEqP, iEqN, nI_1, pk_mul, nI_add, cl_n, zI0, zI1, zI8, bI_z, if_true_eq, if_false_eq, if_true, if_false]
theorem puts_n (h : rRI G M R tl tv ol ov ns qs cs) {n q D t : Nat} {f : Nat → Nat → Nat} (hn : n ≤ 8) (hq : 0 < q) (hq2 : q < 2 ^ 20) (hf : ∀ i j, f i j < 2 ^ 20) (hm : mdR M R n f) (hD : isG n q f D) (hs : 60 < q / D) : f_X9_puts G M (R 0) (nI t) (nI n) (nI q) = some ((-1), M) := by
  have e1 := puts_1 (i1 := nI t) (i3 := nI q) h.1 h.2.1 hn hq hq2 hf hm
  have hDe : gR n q f n = D := isG_un (gR_G n q f) hD
  have hb := gR_b (n := n) (f := f) hq n
  rw [hDe] at e1 hb
  have hle : q / D ≤ q := Nat.div_le_self _ _
  unfold f_X9_puts
  simp (disch := first | assumption | omega | (refine inb_n ?_ ?_ <;> omega) | fail) only [ck_t, Option.bind_some, iLeP, iLeN, iLtP, iLtN, iEqP, iEqN, nI_1, pk_mul, nI_add, cl_n, zI0, zI1, zI8, bI_z, if_true_eq, if_false_eq, if_true, if_false, nI_l, e1, lN_i, cki, pk_div, nz60]
theorem puts_ok (h : rRI G M R tl tv ol ov ns qs cs) {n q D t : Nat} {f : Nat → Nat → Nat} (ht : t < 6) (hn : n ≤ 8) (hq : 0 < q) (hq2 : q < 2 ^ 20) (hf : ∀ i j, f i j < 2 ^ 20) (hm : mdR M R n f) (hD : isG n q f D) (hg : gch n (q / D) (fun i j => f i j / D)) : OK (f_X9_puts G M (R 0) (nI t) (nI n) (nI q)) (fun r => r.1 = nI (q / D) ∧ rRI G r.2 R tl tv ol ov (ud ns t n) (ud qs t (q / D)) (ud3 cs t (fun i j => f i j / D)) ∧ unt M r.2 R 17) := by
  have e1 := puts_1 (i1 := nI t) (i3 := nI q) h.1 h.2.1 hn hq hq2 hf hm
  have hDe : gR n q f n = D := isG_un (gR_G n q f) hD
  have hb := gR_b (n := n) (f := f) hq n
  rw [hDe] at e1 hb
  have hle : q / D ≤ q := Nat.div_le_self _ _
  have hs60 := hg.2.2.2.1
  obtain ⟨M1, a1, a2, a3, a4⟩ := puts_2 (i6 := nI (q / D)) h.1 h.2.1 hn hb.1 (by omega) ht hf hm
  obtain ⟨hs, hr, htp, ho, hc⟩ := id h
  have k0 : isK G (R 0) 9 := hs.2.1 0 (by decide)
  have k2 : isK G (R 2) 10 := hs.2.1 2 (by decide)
  have l2 : G.2.2 (R 2) = 7 := hs.2.2 2 (by decide) (by decide)
  have k3 : isK G (R 3) 10 := hs.2.1 3 (by decide)
  have l3 : G.2.2 (R 3) = 7 := hs.2.2 3 (by decide) (by decide)
  have r3 : M1.2.2 (R 0) 3 = some (R 2) := by rw [a2.2.2]; exact hr.2.1
  have r4 : (mwI M1 (R 2) t (nI n)).2.2 (R 0) 4 = some (R 3) := by rw [mwI_p, a2.2.2]; exact hr.2.2.1
  have ii : ∀ i, i < 17 → i ≠ 2 → i ≠ 3 → i ≠ 4 → (mwI (mwI M1 (R 2) t (nI n)) (R 3) t (nI (q / D))).1 (R i) = M.1 (R i) := fun i hi n1 n2 n3 => by
    have e1 : (mwI (mwI M1 (R 2) t (nI n)) (R 3) t (nI (q / D))).1 (R i) = (mwI M1 (R 2) t (nI n)).1 (R i) := va_up_ne _ _ (sR_ne hs hi (by decide) n2)
    have e2 : (mwI M1 (R 2) t (nI n)).1 (R i) = M1.1 (R i) := va_up_ne _ _ (sR_ne hs hi (by decide) n1)
    rw [e1, e2]
    exact a2.1 _ (ne_in (sR_ne hs hi (by decide) n3))
  have n23 : R 2 ≠ R 3 := sR_ne hs (by decide) (by decide) (by decide)
  have n42 : R 4 ≠ R 2 := sR_ne hs (by decide) (by decide) (by decide)
  have n43 : R 4 ≠ R 3 := sR_ne hs (by decide) (by decide) (by decide)
  have n24 : R 2 ≠ R 4 := sR_ne hs (by decide) (by decide) (by decide)
  have n34 : R 3 ≠ R 4 := sR_ne hs (by decide) (by decide) (by decide)
  refine ⟨(nI (q / D), mwI (mwI M1 (R 2) t (nI n)) (R 3) t (nI (q / D))), ?_, rfl, ⟨hs, ?_, ?_, ?_, fun s hs6 => ?_⟩, ?_⟩
  · unfold f_X9_puts
    simp (disch := first | assumption | omega | (refine inb_n ?_ ?_ <;> omega) | fail) only [ck_t, Option.bind_some, iLeP, iLeN, iLtP, iLtN, iEqP, iEqN, nI_1, pk_mul, nI_add, cl_n, zI0, zI1, zI8, bI_z, if_true_eq, if_false_eq, if_true, if_false, nI_l, e1, lN_i, cki, pk_div, nz60, a1, r3, l2, r4, l3]
  · unfold rfR
    rw [mwI_p, mwI_p, a2.2.2]
    exact hr
  · rw [ii 0 (by decide) (by decide) (by decide) (by decide), ii 1 (by decide) (by decide) (by decide) (by decide)]
    exact htp
  · rw [ii 0 (by decide) (by decide) (by decide) (by decide), ii 14 (by decide) (by decide) (by decide) (by decide)]
    exact ho
  · have c4 : ∀ k, (mwI (mwI M1 (R 2) t (nI n)) (R 3) t (nI (q / D))).1 (R 4) k = M1.1 (R 4) k := fun k => by rw [mwI_n (Or.inl n43), mwI_n (Or.inl n42)]
    by_cases hst : s = t
    · subst hst
      refine ⟨?_, Or.inr ⟨?_, ?_, fun i j hi hj => ?_⟩⟩
      · rw [mwI_n (Or.inl n23), mwI_s]
        show nI n = nI (if s = s then n else ns s)
        rw [if_pos rfl]
      · show gch (if s = s then n else ns s) (if s = s then q / D else qs s) (if s = s then (fun i j => f i j / D) else cs s)
        rw [if_pos rfl, if_pos rfl, if_pos rfl]
        exact hg
      · rw [mwI_s]
        show nI (q / D) = nI (if s = s then q / D else qs s)
        rw [if_pos rfl]
      · have e1 : ud ns s n s = n := if_pos rfl
        have e3 : ud3 cs s (fun i j => f i j / D) s = fun i j => f i j / D := if_pos rfl
        rw [e1] at hi hj
        rw [c4, e3]
        exact a3 i j hi hj
    · have e1 : ud ns t n s = ns s := if_neg hst
      have e2 : ud qs t (q / D) s = qs s := if_neg hst
      have e3 : ud3 cs t (fun i j => f i j / D) s = cs s := if_neg hst
      rw [e1, e2, e3, mwI_n (Or.inl n23), mwI_n (Or.inr hst), mwI_n (Or.inr hst), mwI_n (Or.inl (fun z => n23 z.symm)), a2.1 _ (ne_in n24), a2.1 _ (ne_in n34)]
      obtain ⟨c1, c2⟩ := hc s hs6
      refine ⟨c1, c2.imp id (fun ⟨g1, g2, g3⟩ => ⟨g1, g2, fun i j hi hj => ?_⟩)⟩
      have := g1.2.1
      rw [c4, a4 _ (by omega)]
      exact g3 i j hi hj
  · refine unt_tr (unt_fr a2 (fun x hx => ⟨4, by decide, by simpa using hx⟩) (fun x hx => by simp at hx)) (unt_tr (unt_I (by decide)) (unt_I (by decide)))
end
