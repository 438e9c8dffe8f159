/-! comparisons of longs; beats, times, shares, flows -/
theorem zL0 : (0 : Int64) = lN 0 := rfl
theorem zL1 : (1 : Int64) = lN 1 := rfl
theorem lc_eq {a b : Nat} (ha : a < 2 ^ 63) (hb : b < 2 ^ 63) : lg_cmp (lN a) (lN b) = nI 0 ↔ a = b := by
  rw [← zI0, lcmp0, pk_lEQ ha hb]
theorem lc_le {a b : Nat} (ha : a < 2 ^ 63) (hb : b < 2 ^ 63) : lg_cmp (lN a) (lN b) ≤ nI 0 ↔ a ≤ b := by
  rw [← zI0, lg_cmp_le, pk_lLE ha hb]
theorem lc_ge {a b : Nat} (ha : a < 2 ^ 63) (hb : b < 2 ^ 63) : nI 0 ≤ lg_cmp (lN a) (lN b) ↔ b ≤ a := by
  rw [← zI0, lg_cmp_ge, pk_lLE hb ha]
theorem lEqP {α : Type} {a b : Nat} {x y : α} (h : a = b) (ha : a < 2 ^ 63) : (if lg_cmp (lN a) (lN b) = nI 0 then x else y) = x := if_pos ((lc_eq ha (h ▸ ha)).mpr h)
theorem lEqN {α : Type} {a b : Nat} {x y : α} (h : a ≠ b) (ha : a < 2 ^ 63) (hb : b < 2 ^ 63) : (if lg_cmp (lN a) (lN b) = nI 0 then x else y) = y := if_neg (fun e => h ((lc_eq ha hb).mp e))
theorem lLeP {α : Type} {a b : Nat} {x y : α} (h : a ≤ b) (hb : b < 2 ^ 63) : (if lg_cmp (lN a) (lN b) ≤ nI 0 then x else y) = x := if_pos ((lc_le (by omega) hb).mpr h)
theorem lLeN {α : Type} {a b : Nat} {x y : α} (h : b < a) (ha : a < 2 ^ 63) : (if lg_cmp (lN a) (lN b) ≤ nI 0 then x else y) = y := if_neg (fun e => by have := (lc_le ha (by omega)).mp e; omega)
theorem lGeP {α : Type} {a b : Nat} {x y : α} (h : b ≤ a) (ha : a < 2 ^ 63) : (if nI 0 ≤ lg_cmp (lN a) (lN b) then x else y) = x := if_pos ((lc_ge ha (by omega)).mpr h)
theorem lGeN {α : Type} {a b : Nat} {x y : α} (h : a < b) (hb : b < 2 ^ 63) : (if nI 0 ≤ lg_cmp (lN a) (lN b) then x else y) = y := if_neg (fun e => by have := (lc_ge (by omega) hb).mp e; omega)
theorem lGtP {α : Type} {a b : Nat} {x y : α} (h : b < a) (ha : a < 2 ^ 63) : (if nI 0 < lg_cmp (lN a) (lN b) then x else y) = x := if_pos (by
  rw [← Int32.not_le, lc_le ha (by omega)]
  omega)
theorem lGtN {α : Type} {a b : Nat} {x y : α} (h : a ≤ b) (hb : b < 2 ^ 63) : (if nI 0 < lg_cmp (lN a) (lN b) then x else y) = y := if_neg (by
  rw [← Int32.not_le, lc_le (by omega) hb]
  omega)
theorem lLtP {α : Type} {a b : Nat} {x y : α} (h : a < b) (hb : b < 2 ^ 63) : (if lg_cmp (lN a) (lN b) < nI 0 then x else y) = x := if_pos (by
  rw [← Int32.not_le, lc_ge (by omega) hb]
  omega)
theorem lLtN {α : Type} {a b : Nat} {x y : α} (h : b ≤ a) (ha : a < 2 ^ 63) : (if lg_cmp (lN a) (lN b) < nI 0 then x else y) = y := if_neg (by
  rw [← Int32.not_le, lc_ge ha (by omega)]
  omega)
theorem ckl {α : Type} {a : Nat} {k : Option α} (h : a < 2 ^ 63) (h0 : 0 < a) : ck (¬ lN a = lN 0) k = k := ck_nz h h0
theorem cki {α : Type} {a : Nat} {k : Option α} (h : a < 2 ^ 31) (h0 : 0 < a) : ck (¬ nI a = nI 0) k = k := ck_t (fun e => by rw [nI_eq h (by decide)] at e; omega)
theorem toI_l {a : Nat} (h : a < 2 ^ 31) : Int64.toInt32 (lN a) = nI a := by
  apply Int32.toInt_inj.mp
  rw [nI_toInt h, Int64.toInt_toInt32, pk_lT (by omega)]
  exact Int.bmod_eq_of_le (by omega) (by omega)
theorem nI_com' (b : Nat) : nI b ^^^ (-nI 1) = nI (b ^^^ 4294967295) := nI_com b
theorem lpOj {α β : Type} (lp : Nat → α → Int32 → Option β) (enc : Nat → α) (o n : Nat) (r : β) (hs : ∀ q j, j < n → lp (q + 1) (enc j) (nI (j + o)) = lp q (enc (j + 1)) (nI (j + 1 + o))) (he : ∀ q, lp (q + 1) (enc n) (nI (n + o)) = some r) : ∀ (m j f : Nat), j + m = n → m < f → lp f (enc j) (nI (j + o)) = some r
  | 0, j, f, hj, hf => by
    obtain ⟨q, rfl⟩ : ∃ q, f = q + 1 := ⟨f - 1, by omega⟩
    have : j = n := by omega
    subst this
    exact he q
  | m + 1, j, f, hj, hf => by
    obtain ⟨q, rfl⟩ : ∃ q, f = q + 1 := ⟨f - 1, by omega⟩
    rw [hs q j (by omega)]
    exact lpOj lp enc o n r hs he m (j + 1) q (by omega) (by omega)
/-- the beat: what is reached after t steps, and the divisor of the times of return -/
def btS (N : Nat → Nat) (n i : Nat) : Nat → Nat × Nat
  | 0 => (2 ^ i, 0)
  | t + 1 => (unS N (btS N n i t).1 n, if (unS N (btS N n i t).1 n).testBit i then Nat.gcd (btS N n i t).2 (t + 1) else (btS N n i t).2)
theorem btS_b {N : Nat → Nat} {n i : Nat} (hN : ∀ i, N i < 2 ^ n) (hi : i < n) : ∀ t, (btS N n i t).1 < 2 ^ n ∧ (btS N n i t).2 ≤ t
  | 0 => ⟨p2l hi, Nat.le_refl _⟩
  | t + 1 => by
    obtain ⟨h1, h2⟩ := btS_b hN hi t
    refine ⟨unS_lt hN _ _, ?_⟩
    show (if _ then _ else _) ≤ t + 1
    split
    · exact Nat.gcd_le_right _ (by omega)
    · omega
def isLT (q t : Nat) : Prop := t ≤ 20 ∧ q ^ t ≤ 1000000000000000 ∧ (t = 20 ∨ 1000000000000000 < q ^ (t + 1))
theorem isLT_un {q s t : Nat} (hq : 1 ≤ q) (hs : isLT q s) (ht : isLT q t) : s = t := by
  have key : ∀ {s t : Nat}, isLT q s → isLT q t → ¬ s < t := fun {s t} hs ht hlt => by
    obtain ⟨a1, a2, a3⟩ := hs
    obtain ⟨b1, b2, b3⟩ := ht
    have := Nat.pow_le_pow_right hq (show s + 1 ≤ t by omega)
    omega
  have h1 := key hs ht
  have h2 := key ht hs
  omega
section
variable {G : Gg} {M : Mm} {a cl nx ld sh n q : Nat} {c : Nat → Nat → Nat} {N L W : Nat → Nat}
theorem beat_eq (h : chS G M a cl nx ld sh n q c N L W) {i : Nat} (hi : i < n) : f_X0_beat G M a (nI i) = some (nI (btS N n i (3 * n)).2) := by
  obtain ⟨h1, h2, h3, h4, h5, h6, h7, h8⟩ := h.1
  have bN := h.2.2.2.2.2.2.2.2.2.2.1
  have b8 := p2_31 h6
  have e := lpOj (fun f (x : Int32 × Int64) i5 => lp_X0_beat_9 G M a (nI i) f x.1 x.2 i5) (fun j => (nI (btS N n i j).1, lN (btS N n i j).2)) 1 (3 * n) (lN (btS N n i (3 * n)).2) (fun f j hj => by
    obtain ⟨b1, b2⟩ := btS_b bN hi j
    have en := nextsOf_eq h (show (btS N n i j).1 < 2 ^ 31 by omega)
    have b3 := unS_lt bN (btS N n i j).1 n
    have eh := has_b (show unS N (btS N n i j).1 n < 2 ^ 31 by omega) (show i < 32 by omega)
    have eg := cd_eq (show (btS N n i j).2 < 2 ^ 63 by omega) (show j + 1 < 2 ^ 63 by omega)
    have z3 : (3 : Int32) = nI 3 := rfl
    rw [lp_X0_beat_9, bd_X0_beat_9]
    by_cases hb : (unS N (btS N n i j).1 n).testBit i = true
    · rw [hb] at eh
      simp (disch := first | assumption | omega | (refine inb_n ?_ ?_ <;> omega) | fail) only [ck_t, Option.bind_some, iLeP, iLeN, iLtP, iLtN, iEqP, iEqN, nI_1, pk_mul, nI_add, cl_n, zI0, zI1, zI8, bI_z, if_true_eq, if_false_eq, if_true, if_false, lEqP, lEqN, lGtP, lGtN, lLeP, lLeN, lGeP, lGeN, lLtP, lLtN, lN_mul, lN_add, nI_l, pk_lDiv, pk_lRem, ckl, zL0, zL1, h5, z3, en, eh, eg]
      rw [show (btS N n i (j + 1)).2 = Nat.gcd (btS N n i j).2 (j + 1) from if_pos hb]
      rfl
    · have hb' := hb
      rw [Bool.not_eq_true] at hb
      rw [hb] at eh
      simp (disch := first | assumption | omega | (refine inb_n ?_ ?_ <;> omega) | fail) only [ck_t, Option.bind_some, iLeP, iLeN, iLtP, iLtN, iEqP, iEqN, nI_1, pk_mul, nI_add, cl_n, zI0, zI1, zI8, bI_z, if_true_eq, if_false_eq, if_true, if_false, lEqP, lEqN, lGtP, lGtN, lLeP, lLeN, lGeP, lGeN, lLtP, lLtN, lN_mul, lN_add, nI_l, pk_lDiv, pk_lRem, ckl, zL0, zL1, h5, z3, en, eh]
      rw [show (btS N n i (j + 1)).2 = (btS N n i j).2 from if_neg hb']
      rfl) (fun f => by
    have z3 : (3 : Int32) = nI 3 := rfl
    rw [lp_X0_beat_9, bd_X0_beat_9]
    simp (disch := first | assumption | omega | (refine inb_n ?_ ?_ <;> omega) | fail) only [ck_t, Option.bind_some, iLeP, iLeN, iLtP, iLtN, iEqP, iEqN, nI_1, pk_mul, nI_add, cl_n, zI0, zI1, zI8, bI_z, if_true_eq, if_false_eq, if_true, if_false, h5, z3]) (3 * n) 0 FU (by omega) (by rw [FU_big]; omega)
  have es := sh_1 (show i < 31 by omega)
  obtain ⟨b1, b2⟩ := btS_b bN hi (3 * n)
  unfold f_X0_beat
  rw [es, zI1]
  show Option.bind (lp_X0_beat_9 G M a (nI i) FU (nI (2 ^ i)) (lN 0) (nI 1)) _ = _
  refine (congrArg (Option.bind · _) e).trans ?_
  rw [Option.bind_some, toI_l (by omega)]
theorem isWhole_eq (h : chS G M a cl nx ld sh n q c N L W) : f_X0_isWhole G M a = some (bI (decide (ct (lsB L n) n = 1))) := by
  have e := heaps_eq h
  have hn := h.1.2.2.2.2.2.1
  have hc := ct_le (lsB L n) n
  unfold f_X0_isWhole
  rw [ck_t h.1.1, e, Option.bind_some, zI1]
  by_cases hw : ct (lsB L n) n = 1
  · rw [iEqP hw, decide_eq_true hw]
    rfl
  · rw [iEqN hw (by omega) (by omega), decide_eq_false hw]
    rfl
theorem wholeness_eq (h : chS G M a cl nx ld sh n q c N L W) (h0 : 0 < n) : f_X0_wholeness G M a = some (nI (if ct (lsB L n) n = 1 then if (btS N n 0 (3 * n)).2 = 1 then 2 else 1 else 0)) := by
  have e := isWhole_eq h
  have eb := beat_eq h h0
  have bN := h.2.2.2.2.2.2.2.2.2.2.1
  have hn := h.1.2.2.2.2.2.1
  obtain ⟨b1, b2⟩ := btS_b bN h0 (3 * n)
  unfold f_X0_wholeness
  rw [ck_t h.1.1, e, Option.bind_some, zI0, zI1]
  by_cases hw : ct (lsB L n) n = 1
  · rw [decide_eq_true hw, if_neg (by decide), eb, Option.bind_some, if_pos hw]
    by_cases hb : (btS N n 0 (3 * n)).2 = 1
    · rw [iEqP hb, if_pos hb]
      rfl
    · rw [iEqN hb (by omega) (by omega), if_neg hb]
  · rw [decide_eq_false hw, if_pos (by decide), if_neg hw]
theorem lastTime_ok (h1 : isK G a 0) (h2 : M.1 a 1 = nI q) (hq : 1 ≤ q) (hq2 : q ≤ 60) : OK (f_X0_lastTime G M a) (fun r => ∃ t, r = nI t ∧ isLT q t) := by
  have e := lpI (fun f i (x : Int64) => lp_X0_lastTime_8 G M a f x i) (fun j x => x = lN (q ^ (j + 1)) ∧ q ^ j ≤ 1000000000000000) 20 (fun r => ∃ t, r = nI t ∧ isLT q t) (by omega) (fun f j x hj hx => by
    obtain ⟨rfl, hx⟩ := hx
    have hb : q ^ (j + 1) ≤ 1000000000000000 * 60 := by
      rw [Nat.pow_succ]
      exact Nat.mul_le_mul hx hq2
    have hz : (1000000000000000 : Int64) = lN 1000000000000000 := rfl
    have hz2 : (20 : Int32) = nI 20 := rfl
    by_cases hp : q ^ (j + 1) ≤ 1000000000000000
    · left
      refine ⟨lN (q ^ (j + 1 + 1)), ⟨rfl, hp⟩, ?_⟩
      have hs : q ^ (j + 1) * q = q ^ (j + 1 + 1) := rfl
      rw [lp_X0_lastTime_8, bd_X0_lastTime_8]
      simp (disch := first | assumption | omega | (refine inb_n ?_ ?_ <;> omega) | fail) only [ck_t, Option.bind_some, iLeP, iLeN, iLtP, iLtN, iEqP, iEqN, nI_1, pk_mul, nI_add, cl_n, zI0, zI1, zI8, bI_z, if_true_eq, if_false_eq, if_true, if_false, lEqP, lEqN, lGtP, lGtN, lLeP, lLeN, lGeP, lGeN, lLtP, lLtN, lN_mul, lN_add, nI_l, pk_lDiv, pk_lRem, ckl, zL0, zL1, hz, hz2, h2, hs]
    · right
      refine ⟨nI j, ?_, j, rfl, by omega, hx, Or.inr (by omega)⟩
      rw [lp_X0_lastTime_8, bd_X0_lastTime_8]
      simp (disch := first | assumption | omega | (refine inb_n ?_ ?_ <;> omega) | fail) only [ck_t, Option.bind_some, iLeP, iLeN, iLtP, iLtN, iEqP, iEqN, nI_1, pk_mul, nI_add, cl_n, zI0, zI1, zI8, bI_z, if_true_eq, if_false_eq, if_true, if_false, lEqP, lEqN, lGtP, lGtN, lLeP, lLeN, lGeP, lGeN, lLtP, lLtN, lN_mul, lN_add, nI_l, pk_lDiv, pk_lRem, ckl, zL0, zL1, hz, hz2, h2]) (fun f x hx => by
    refine ⟨nI 20, ?_, 20, rfl, by omega, hx.2, Or.inl rfl⟩
    have hz2 : (20 : Int32) = nI 20 := rfl
    rw [lp_X0_lastTime_8, bd_X0_lastTime_8]
    simp (disch := first | assumption | omega | (refine inb_n ?_ ?_ <;> omega) | fail) only [ck_t, Option.bind_some, iLeP, iLeN, iLtP, iLtN, iEqP, iEqN, nI_1, pk_mul, nI_add, cl_n, zI0, zI1, zI8, bI_z, if_true_eq, if_false_eq, if_true, if_false, lEqP, lEqN, lGtP, lGtN, lLeP, lLeN, lGeP, lGeN, lLtP, lLtN, lN_mul, lN_add, nI_l, pk_lDiv, pk_lRem, ckl, zL0, zL1, hz2]) (j0 := 0) (x := lN (q ^ (0 + 1))) (by omega) ⟨rfl, by rw [Nat.pow_zero]; omega⟩
  obtain ⟨r, e1, e2⟩ := e
  refine ⟨r, ?_, e2⟩
  unfold f_X0_lastTime
  rw [Nat.zero_add, Nat.pow_one] at e1
  rw [ck_t h1, h2, nI_l (by omega), zI0, e1]
  rfl
theorem shareOf_eq (h : chS G M a cl nx ld sh n q c N L W) {S : Nat} (hS : S < 2 ^ 31) : f_X0_shareOf G M a (nI S) = some (lN (sB S W n)) := by
  obtain ⟨⟨h1, h2, h3, h4, h5, h6, h7, h8⟩, q1, q2, q3, ⟨n1, n2, n3⟩, ⟨l1, l2, l3⟩, ⟨s1, s2, s3⟩, hN, hL, hW, bN, bL, bW⟩ := h
  have e := lpF (fun f (x : Int64) i => lp_X0_shareOf_5 G M a (nI S) f x i) (fun j => lN (sB S W j)) n (lN (sB S W n)) (by omega) (fun f j hj => by
    have eh := has_b hS (show j < 32 by omega)
    rw [lp_X0_shareOf_5, bd_X0_shareOf_5]
    rw [sB_s]
    by_cases hb : S.testBit j = true
    · rw [hb] at eh
      simp (disch := first | assumption | omega | (refine inb_n ?_ ?_ <;> omega) | fail) only [ck_t, Option.bind_some, iLeP, iLeN, iLtP, iLtN, iEqP, iEqN, nI_1, pk_mul, nI_add, cl_n, zI0, zI1, zI8, bI_z, if_true_eq, if_false_eq, if_true, if_false, lEqP, lEqN, lGtP, lGtN, lLeP, lLeN, lGeP, lGeN, lLtP, lLtN, lN_mul, lN_add, nI_l, pk_lDiv, pk_lRem, ckl, zL0, zL1, h5, s1, s3, eh, hW, hb]
      try rfl
    · rw [Bool.not_eq_true] at hb
      rw [hb] at eh
      simp (disch := first | assumption | omega | (refine inb_n ?_ ?_ <;> omega) | fail) only [ck_t, Option.bind_some, iLeP, iLeN, iLtP, iLtN, iEqP, iEqN, nI_1, pk_mul, nI_add, cl_n, zI0, zI1, zI8, bI_z, if_true_eq, if_false_eq, if_true, if_false, lEqP, lEqN, lGtP, lGtN, lLeP, lLeN, lGeP, lGeN, lLtP, lLtN, lN_mul, lN_add, nI_l, pk_lDiv, pk_lRem, ckl, zL0, zL1, h5, eh, hb]
      try rfl) (fun f => by
    rw [lp_X0_shareOf_5, bd_X0_shareOf_5]
    simp (disch := first | assumption | omega | (refine inb_n ?_ ?_ <;> omega) | fail) only [ck_t, Option.bind_some, iLeP, iLeN, iLtP, iLtN, iEqP, iEqN, nI_1, pk_mul, nI_add, cl_n, zI0, zI1, zI8, bI_z, if_true_eq, if_false_eq, if_true, if_false, h5])
  unfold f_X0_shareOf
  rw [zI0]
  exact (congrArg (Option.bind · _) e)
theorem flowOutOf_eq (h : chS G M a cl nx ld sh n q c N L W) {S : Nat} (hS : S < 2 ^ n) : f_X0_flowOutOf G M a (nI S) = some (lN (sB S (fun i => W i * sB (sdf (2 ^ n - 1) S) (c i) n) n)) := by
  have hC := h.1
  obtain ⟨⟨h1, h2, h3, h4, h5, h6, h7, h8⟩, q1, q2, q3, ⟨n1, n2, n3⟩, ⟨l1, l2, l3⟩, ⟨s1, s2, s3⟩, hN, hL, hW, bN, bL, bW⟩ := h
  have b8 := p2_31 h6
  have ea := allStates_eq h1 h5 h6
  have hle := sdf_le (2 ^ n - 1) S
  have e := lpF (fun f (x : Int64) i => lp_X0_flowOutOf_5 G M a (nI S) f x i) (fun j => lN (sB S (fun i => W i * sB (sdf (2 ^ n - 1) S) (c i) n) j)) n (lN (sB S (fun i => W i * sB (sdf (2 ^ n - 1) S) (c i) n) n)) (by omega) (fun f j hj => by
    have eh := has_b (show S < 2 ^ 31 by omega) (show j < 32 by omega)
    have ei := into_eq hC hj (show sdf (2 ^ n - 1) S < 2 ^ 31 by omega)
    have hb1 : sB (sdf (2 ^ n - 1) S) (c j) n ≤ n * 2 ^ 10 := sB_le _ (fun i => Nat.le_of_lt (h8 j i)) n
    rw [lp_X0_flowOutOf_5, bd_X0_flowOutOf_5]
    rw [sB_s]
    by_cases hb : S.testBit j = true
    · rw [hb] at eh
      simp (disch := first | assumption | omega | (refine inb_n ?_ ?_ <;> omega) | fail) only [ck_t, Option.bind_some, iLeP, iLeN, iLtP, iLtN, iEqP, iEqN, nI_1, pk_mul, nI_add, cl_n, zI0, zI1, zI8, bI_z, if_true_eq, if_false_eq, if_true, if_false, lEqP, lEqN, lGtP, lGtN, lLeP, lLeN, lGeP, lGeN, lLtP, lLtN, lN_mul, lN_add, nI_l, pk_lDiv, pk_lRem, ckl, zL0, zL1, h5, s1, s3, eh, hW, hb, ea, nI_com', nI_sdf, ei]
      try rfl
    · rw [Bool.not_eq_true] at hb
      rw [hb] at eh
      simp (disch := first | assumption | omega | (refine inb_n ?_ ?_ <;> omega) | fail) only [ck_t, Option.bind_some, iLeP, iLeN, iLtP, iLtN, iEqP, iEqN, nI_1, pk_mul, nI_add, cl_n, zI0, zI1, zI8, bI_z, if_true_eq, if_false_eq, if_true, if_false, lEqP, lEqN, lGtP, lGtN, lLeP, lLeN, lGeP, lGeN, lLtP, lLtN, lN_mul, lN_add, nI_l, pk_lDiv, pk_lRem, ckl, zL0, zL1, h5, eh, hb]
      try rfl) (fun f => by
    rw [lp_X0_flowOutOf_5, bd_X0_flowOutOf_5]
    simp (disch := first | assumption | omega | (refine inb_n ?_ ?_ <;> omega) | fail) only [ck_t, Option.bind_some, iLeP, iLeN, iLtP, iLtN, iEqP, iEqN, nI_1, pk_mul, nI_add, cl_n, zI0, zI1, zI8, bI_z, if_true_eq, if_false_eq, if_true, if_false, h5])
  unfold f_X0_flowOutOf
  rw [zI0]
  exact (congrArg (Option.bind · _) e)
end
