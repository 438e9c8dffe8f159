/-! fractions compared; narrow and cut of both -/
theorem cmp_step {a b c d : Nat} (h : a / b = c / d) : a * d < c * b ↔ d * (a % b) < b * (c % d) := by
  have h1 := Nat.div_add_mod a b
  have h2 := Nat.div_add_mod c d
  rw [h] at h1
  generalize a % b = r at *
  generalize c % d = r' at *
  generalize c / d = w at *
  have e1 : a * d = w * (b * d) + d * r := by rw [← h1]; grind
  have e2 : c * b = w * (b * d) + b * r' := by rw [← h2]; grind
  omega
theorem cmp_lt {a b c d : Nat} (hb : 0 < b) (hd : 0 < d) (h : a / b < c / d) : a * d < c * b := by
  have h1 := Nat.lt_mul_div_succ a hb
  have h2 := Nat.mul_div_le c d
  have h3 : b * (a / b + 1) ≤ b * (c / d) := Nat.mul_le_mul_left b h
  have h4 : a * d < b * (c / d) * d := Nat.mul_lt_mul_of_pos_right (by omega) hd
  have h5 : b * (c / d) * d = d * (c / d) * b := by grind
  have h6 : d * (c / d) * b ≤ c * b := Nat.mul_le_mul_right b h2
  omega
theorem rem_s (a b : Nat) : lN a - lN (a / b * b) = lN (a % b) := by
  rw [lN_sub (Nat.div_mul_le_self a b)]
  congr 1
  have := Nat.div_add_mod a b
  rw [Nat.mul_comm] at this
  omega
theorem ib_loop : ∀ (j a b c d k f : Nat), a < 2 ^ 63 → b < 2 ^ 63 → c < 2 ^ 63 → d < 2 ^ 63 → b < 2 ^ j → (d = 0 → 0 < c) → k + 2 * j ≤ 200 → 2 * j < f → OK (lp_X8_isBelow_17 f (lN a) (lN b) (lN c) (lN d) (nI k)) (fun r => onS r (fun x => some x) (fun y => jn_X8_isBelow_111 y.1 y.2) = some (bI (decide (a * d < c * b)))) := by
  have stop0 : ∀ (a c d k f : Nat), d < 2 ^ 63 → OK (lp_X8_isBelow_17 (f + 1) (lN a) (lN 0) (lN c) (lN d) (nI k)) (fun r => onS r (fun x => some x) (fun y => jn_X8_isBelow_111 y.1 y.2) = some (bI (decide (a * d < c * 0)))) := fun a c d k f hd => by
    refine ⟨.inr (lN 0, lN d), ?_, ?_⟩
    · rw [lp_X8_isBelow_17, bd_X8_isBelow_17]
      split
      · rfl
      · rw [if_pos (show lg_cmp (lN 0) 0 = 0 from (lcmp0 _ _).mpr rfl)]
    · rw [Nat.mul_zero, decide_eq_false (by omega)]
      show jn_X8_isBelow_111 (lN 0) (lN d) = _
      unfold jn_X8_isBelow_111
      split
      · rw [if_pos (show lg_cmp (lN 0) 0 = 0 from (lcmp0 _ _).mpr rfl)]; rfl
      · rfl
  have stopd : ∀ (a b c k f : Nat), 0 < b → b < 2 ^ 63 → 0 < c → OK (lp_X8_isBelow_17 (f + 1) (lN a) (lN b) (lN c) (lN 0) (nI k)) (fun r => onS r (fun x => some x) (fun y => jn_X8_isBelow_111 y.1 y.2) = some (bI (decide (a * 0 < c * b)))) := fun a b c k f hb hb2 hc => by
    have hne : ¬ lg_cmp (lN b) (0 : Int64) = 0 := fun e => by
      have := (lN_0 hb2).mp ((lcmp0 _ _).mp e)
      omega
    refine ⟨.inr (lN b, lN 0), ?_, ?_⟩
    · rw [lp_X8_isBelow_17, bd_X8_isBelow_17]
      split
      · rfl
      · first | rw [if_neg hne, if_pos (show lg_cmp (lN 0) 0 = 0 from (lcmp0 _ _).mpr rfl)] | rw [if_pos (show lg_cmp (lN 0) 0 = 0 from (lcmp0 _ _).mpr rfl)]
    · have hp := Nat.mul_pos hc hb
      rw [decide_eq_true (by omega)]
      show jn_X8_isBelow_111 (lN b) (lN 0) = _
      unfold jn_X8_isBelow_111
      rw [if_pos (show lg_cmp (lN 0) 0 = 0 from (lcmp0 _ _).mpr rfl), if_neg hne]
      rfl
  have diff : ∀ (a b c d k f : Nat), a < 2 ^ 63 → b < 2 ^ 63 → c < 2 ^ 63 → d < 2 ^ 63 → 0 < b → 0 < d → k < 200 → a / b ≠ c / d → OK (lp_X8_isBelow_17 (f + 1) (lN a) (lN b) (lN c) (lN d) (nI k)) (fun r => onS r (fun x => some x) (fun y => jn_X8_isBelow_111 y.1 y.2) = some (bI (decide (a * d < c * b)))) := fun a b c d k f ha hb hc hd hb0 hd0 hk hne => by
    have z200 : (200 : Int32) = nI 200 := rfl
    have q1 : a / b ≤ a := Nat.div_le_self _ _
    have q2 : c / d ≤ c := Nat.div_le_self _ _
    rcases Nat.lt_or_gt_of_ne hne with hlt | hgt
    · refine ⟨.inl (nI 1), ?_, ?_⟩
      · rw [lp_X8_isBelow_17, bd_X8_isBelow_17]
        simp (disch := first | assumption | omega | (refine inb_n ?_ ?_ <;> omega) | fail) only [ck_t, Option.bind_some, iLeP, iLeN, iLtP, iLtN, iEqP, iEqN, nI_1, pk_mul, nI_add, cl_n, zI0, zI1, zI8, bI_z, if_true_eq, if_false_eq, if_true, if_false, lEqP, lEqN, lGtP, lGtN, lLeP, lLeN, lGeP, lGeN, lLtP, lLtN, lN_mul, lN_add, nI_l, pk_lDiv, pk_lRem, ckl, zL0, zL1, z200]
      · rw [decide_eq_true (cmp_lt hb0 hd0 hlt)]; rfl
    · refine ⟨.inl (nI 0), ?_, ?_⟩
      · rw [lp_X8_isBelow_17, bd_X8_isBelow_17]
        simp (disch := first | assumption | omega | (refine inb_n ?_ ?_ <;> omega) | fail) only [ck_t, Option.bind_some, iLeP, iLeN, iLtP, iLtN, iEqP, iEqN, nI_1, pk_mul, nI_add, cl_n, zI0, zI1, zI8, bI_z, if_true_eq, if_false_eq, if_true, if_false, lEqP, lEqN, lGtP, lGtN, lLeP, lLeN, lGeP, lGeN, lLtP, lLtN, lN_mul, lN_add, nI_l, pk_lDiv, pk_lRem, ckl, zL0, zL1, z200]
      · have := cmp_lt hd0 hb0 hgt
        rw [decide_eq_false (by omega)]; rfl
  have step : ∀ (a b c d k f : Nat), a < 2 ^ 63 → b < 2 ^ 63 → c < 2 ^ 63 → d < 2 ^ 63 → 0 < b → 0 < d → k < 200 → a / b = c / d → lp_X8_isBelow_17 (f + 1) (lN a) (lN b) (lN c) (lN d) (nI k) = lp_X8_isBelow_17 f (lN d) (lN (c % d)) (lN b) (lN (a % b)) (nI (k + 1)) := fun a b c d k f ha hb hc hd hb0 hd0 hk he => by
    have z200 : (200 : Int32) = nI 200 := rfl
    have q1 : a / b ≤ a := Nat.div_le_self _ _
    have q2 : c / d ≤ c := Nat.div_le_self _ _
    rw [lp_X8_isBelow_17, bd_X8_isBelow_17]
    simp (disch := first | assumption | omega | (refine inb_n ?_ ?_ <;> omega) | fail) only [ck_t, Option.bind_some, iLeP, iLeN, iLtP, iLtN, iEqP, iEqN, nI_1, pk_mul, nI_add, cl_n, zI0, zI1, zI8, bI_z, if_true_eq, if_false_eq, if_true, if_false, lEqP, lEqN, lGtP, lGtN, lLeP, lLeN, lGeP, lGeN, lLtP, lLtN, lN_mul, lN_add, nI_l, pk_lDiv, pk_lRem, ckl, zL0, zL1, z200, rem_s]
  intro j
  induction j with
  | zero =>
    intro a b c d k f ha hb hc hd hbj hdc hk hf
    have : b = 0 := by omega
    subst this
    obtain ⟨f, rfl⟩ : ∃ g, f = g + 1 := ⟨f - 1, by omega⟩
    exact stop0 a c d k f hd
  | succ j ih =>
    intro a b c d k f ha hb hc hd hbj hdc hk hf
    obtain ⟨f, rfl⟩ : ∃ g, f = g + 2 := ⟨f - 2, by omega⟩
    rcases Nat.eq_zero_or_pos b with h0 | h0
    · subst h0
      exact stop0 a c d k (f + 1) hd
    · rcases Nat.eq_zero_or_pos d with hd0 | hd0
      · subst hd0
        exact stopd a b c k (f + 1) h0 hb (hdc rfl)
      · by_cases he : a / b = c / d
        · rw [step a b c d k (f + 1) ha hb hc hd h0 hd0 (by omega) he]
          have hiff : (decide (a * d < c * b)) = decide (d * (a % b) < b * (c % d)) := by
            rw [Bool.eq_iff_iff, decide_eq_true_eq, decide_eq_true_eq]; exact cmp_step he
          rw [hiff]
          have m1 := Nat.mod_lt a h0
          have m2 := Nat.mod_lt c hd0
          rcases Nat.eq_zero_or_pos (c % d) with r0 | r0
          · rw [r0]
            exact stop0 d b (a % b) (k + 1) f (by omega)
          · rcases Nat.eq_zero_or_pos (a % b) with s0 | s0
            · rw [s0]
              exact stopd d (c % d) b (k + 1) f r0 (by omega) h0
            · by_cases he2 : d / (c % d) = b / (a % b)
              · rw [step d (c % d) b (a % b) (k + 1) f hd (by omega) hb (by omega) r0 s0 (by omega) he2]
                have hiff2 : (decide (d * (a % b) < b * (c % d))) = decide ((a % b) * (d % (c % d)) < (c % d) * (b % (a % b))) := by
                  rw [Bool.eq_iff_iff, decide_eq_true_eq, decide_eq_true_eq]; exact cmp_step he2
                rw [hiff2]
                have hh := mod_half h0 s0
                have hm2 := Nat.mod_lt d r0
                exact ih (a % b) (b % (a % b)) (c % d) (d % (c % d)) (k + 2) f (by omega) (by omega) (by omega) (by omega) (by rw [Nat.pow_succ] at hbj; omega) (fun _ => r0) (by omega) (by omega)
              · exact diff d (c % d) b (a % b) (k + 1) f hd (by omega) hb (by omega) r0 s0 (by omega) he2
        · exact diff a b c d k (f + 1) ha hb hc hd h0 hd0 (by omega) he
theorem isBelow_eq {a b c d : Nat} (ha : a < 2 ^ 63) (hb : b < 2 ^ 63) (hc : c < 2 ^ 63) (hd : d < 2 ^ 63) (hd0 : 0 < d) : f_X8_isBelow (lN a) (lN b) (lN c) (lN d) = some (bI (decide (a * d < c * b))) := by
  obtain ⟨r, e1, e2⟩ := ib_loop 63 a b c d 0 FU ha hb hc hd hb (by omega) (by omega) (by rw [FU_big]; omega)
  unfold f_X8_isBelow
  rw [zI0, e1, Option.bind_some]
  exact e2
def lsP (t : Bool) (a b c d : Nat) : Bool := if t then decide (c * b < a * d) else decide (a * d < c * b)
theorem il_loop : ∀ (j a b c d f : Nat) (t : Bool), a < 2 ^ 63 → b < 2 ^ 63 → c < 2 ^ 63 → d < 2 ^ 63 → b < 2 ^ j → (b = 0 → 0 < a) → (d = 0 → 0 < c) → 2 * j < f → OK (lp_X9_isLess_17 f (lN a) (lN b) (lN c) (lN d) (bI t)) (fun r => jn_X9_isLess_90 r.1 r.2.1 r.2.2.1 r.2.2.2.1 r.2.2.2.2 = some (bI (lsP t a b c d))) := by
  have l0 : lg_cmp (lN 0) (0 : Int64) = 0 := (lcmp0 _ _).mpr rfl
  have ln : ∀ {x : Nat}, 0 < x → x < 2 ^ 63 → ¬ lg_cmp (lN x) (0 : Int64) = 0 := fun h0 h e => by
    have := (lN_0 h).mp ((lcmp0 _ _).mp e)
    omega
  have stop0 : ∀ (a c d f : Nat) (t : Bool), 0 < a → d < 2 ^ 63 → OK (lp_X9_isLess_17 (f + 1) (lN a) (lN 0) (lN c) (lN d) (bI t)) (fun r => jn_X9_isLess_90 r.1 r.2.1 r.2.2.1 r.2.2.2.1 r.2.2.2.2 = some (bI (lsP t a 0 c d))) := fun a c d f t ha hd => by
    refine ⟨_, by rw [lp_X9_isLess_17, bd_X9_isLess_17, if_pos l0], ?_⟩
    show jn_X9_isLess_90 (lN a) (lN 0) (lN c) (lN d) (bI t) = _
    unfold jn_X9_isLess_90 jn_X9_isLess_104 lsP
    rw [if_pos l0, if_pos l0]
    rcases Nat.eq_zero_or_pos d with hd0 | hd0
    · subst hd0
      rw [if_pos l0, Nat.mul_zero, Nat.mul_zero]
      cases t <;> simp <;> rfl
    · rw [if_neg (ln hd0 hd)]
      have hp := Nat.mul_pos ha hd0
      have hne : ¬ lg_cmp (lN 0) (lN d) = 0 := fun e => by
        have := (pk_lEQ (by decide) hd).mp ((lcmp0 _ _).mp e)
        omega
      cases t
      · rw [if_pos (by decide), Nat.mul_zero]
        simp
        rfl
      · rw [if_neg (by decide), if_neg hne, Nat.mul_zero, if_pos rfl, decide_eq_true hp]
        rfl
  have stopd : ∀ (a b c f : Nat) (t : Bool), 0 < b → b < 2 ^ 63 → 0 < c → OK (lp_X9_isLess_17 (f + 1) (lN a) (lN b) (lN c) (lN 0) (bI t)) (fun r => jn_X9_isLess_90 r.1 r.2.1 r.2.2.1 r.2.2.2.1 r.2.2.2.2 = some (bI (lsP t a b c 0))) := fun a b c f t hb hb2 hc => by
    refine ⟨_, by rw [lp_X9_isLess_17, bd_X9_isLess_17, if_neg (ln hb hb2), if_pos l0], ?_⟩
    show jn_X9_isLess_90 (lN a) (lN b) (lN c) (lN 0) (bI t) = _
    unfold jn_X9_isLess_90 jn_X9_isLess_104 lsP
    rw [if_neg (ln hb hb2), if_pos l0, if_neg (ln hb hb2)]
    have hp := Nat.mul_pos hc hb
    have hne : ¬ lg_cmp (lN b) (lN 0) = 0 := fun e => by
      have := (pk_lEQ hb2 (by decide)).mp ((lcmp0 _ _).mp e)
      omega
    cases t
    · rw [if_pos (by decide), if_neg hne, Nat.mul_zero, if_neg (by decide), decide_eq_true hp]
      rfl
    · rw [if_neg (by decide), Nat.mul_zero]
      simp
      rfl
  have diff : ∀ (a b c d f : Nat) (t : Bool), a < 2 ^ 63 → b < 2 ^ 63 → c < 2 ^ 63 → d < 2 ^ 63 → 0 < b → 0 < d → a / b ≠ c / d → OK (lp_X9_isLess_17 (f + 1) (lN a) (lN b) (lN c) (lN d) (bI t)) (fun r => jn_X9_isLess_90 r.1 r.2.1 r.2.2.1 r.2.2.2.1 r.2.2.2.2 = some (bI (lsP t a b c d))) := fun a b c d f t ha hb hc hd hb0 hd0 hne => by
    have q1 : a / b ≤ a := Nat.div_le_self _ _
    have q2 : c / d ≤ c := Nat.div_le_self _ _
    refine ⟨(lN a, lN b, lN c, lN d, bI t), ?_, ?_⟩
    · rw [lp_X9_isLess_17, bd_X9_isLess_17]
      simp (disch := first | assumption | omega | (refine inb_n ?_ ?_ <;> omega) | fail) only [ck_t, Option.bind_some, iLeP, iLeN, iLtP, iLtN, iEqP, iEqN, nI_1, pk_mul, nI_add, cl_n, zI0, zI1, zI8, bI_z, if_true_eq, if_false_eq, if_true, if_false, lEqP, lEqN, lGtP, lGtN, lLeP, lLeN, lGeP, lGeN, lLtP, lLtN, lN_mul, lN_add, nI_l, pk_lDiv, pk_lRem, ckl, zL0, zL1]
    · show jn_X9_isLess_90 (lN a) (lN b) (lN c) (lN d) (bI t) = _
      unfold jn_X9_isLess_90
      rcases Nat.lt_or_gt_of_ne hne with hlt | hgt
      · have h1 := cmp_lt hb0 hd0 hlt
        have hL : lsP t a b c d = !t := by
          unfold lsP
          cases t
          · rw [if_neg (by decide), decide_eq_true h1]; rfl
          · rw [if_pos rfl, decide_eq_false (by omega)]; rfl
        rw [hL]
        simp (disch := first | assumption | omega | (refine inb_n ?_ ?_ <;> omega) | fail) only [ck_t, Option.bind_some, iLeP, iLeN, iLtP, iLtN, iEqP, iEqN, nI_1, pk_mul, nI_add, cl_n, zI0, zI1, zI8, bI_z, if_true_eq, if_false_eq, if_true, if_false, lEqP, lEqN, lGtP, lGtN, lLeP, lLeN, lGeP, lGeN, lLtP, lLtN, lN_mul, lN_add, nI_l, pk_lDiv, pk_lRem, ckl, zL0, zL1]
        cases t <;> rfl
      · have h1 := cmp_lt hd0 hb0 hgt
        have hL : lsP t a b c d = t := by
          unfold lsP
          cases t
          · rw [if_neg (by decide), decide_eq_false (by omega)]
          · rw [if_pos rfl, decide_eq_true h1]
        rw [hL]
        simp (disch := first | assumption | omega | (refine inb_n ?_ ?_ <;> omega) | fail) only [ck_t, Option.bind_some, iLeP, iLeN, iLtP, iLtN, iEqP, iEqN, nI_1, pk_mul, nI_add, cl_n, zI0, zI1, zI8, bI_z, if_true_eq, if_false_eq, if_true, if_false, lEqP, lEqN, lGtP, lGtN, lLeP, lLeN, lGeP, lGeN, lLtP, lLtN, lN_mul, lN_add, nI_l, pk_lDiv, pk_lRem, ckl, zL0, zL1]
        cases t <;> rfl
  have step : ∀ (a b c d f : Nat) (t : Bool), a < 2 ^ 63 → b < 2 ^ 63 → c < 2 ^ 63 → d < 2 ^ 63 → 0 < b → 0 < d → a / b = c / d → lp_X9_isLess_17 (f + 1) (lN a) (lN b) (lN c) (lN d) (bI t) = lp_X9_isLess_17 f (lN b) (lN (a % b)) (lN d) (lN (c % d)) (bI (!t)) := fun a b c d f t ha hb hc hd hb0 hd0 he => by
    have q1 : a / b ≤ a := Nat.div_le_self _ _
    have q2 : c / d ≤ c := Nat.div_le_self _ _
    rw [lp_X9_isLess_17, bd_X9_isLess_17]
    cases t
    · simp (disch := first | assumption | omega | (refine inb_n ?_ ?_ <;> omega) | fail) only [ck_t, Option.bind_some, iLeP, iLeN, iLtP, iLtN, iEqP, iEqN, nI_1, pk_mul, nI_add, cl_n, zI0, zI1, zI8, bI_z, if_true_eq, if_false_eq, if_true, if_false, lEqP, lEqN, lGtP, lGtN, lLeP, lLeN, lGeP, lGeN, lLtP, lLtN, lN_mul, lN_add, nI_l, pk_lDiv, pk_lRem, ckl, zL0, zL1, rem_s]
      rfl
    · simp (disch := first | assumption | omega | (refine inb_n ?_ ?_ <;> omega) | fail) only [ck_t, Option.bind_some, iLeP, iLeN, iLtP, iLtN, iEqP, iEqN, nI_1, pk_mul, nI_add, cl_n, zI0, zI1, zI8, bI_z, if_true_eq, if_false_eq, if_true, if_false, lEqP, lEqN, lGtP, lGtN, lLeP, lLeN, lGeP, lGeN, lLtP, lLtN, lN_mul, lN_add, nI_l, pk_lDiv, pk_lRem, ckl, zL0, zL1, rem_s]
      rfl
  have flip : ∀ (a b c d : Nat) (t : Bool), a / b = c / d → lsP t a b c d = lsP (!t) b (a % b) d (c % d) := fun a b c d t he => by
    have h1 := cmp_step he
    have h2 := cmp_step he.symm
    unfold lsP
    cases t
    · show decide (a * d < c * b) = decide (d * (a % b) < b * (c % d))
      rw [Bool.eq_iff_iff, decide_eq_true_eq, decide_eq_true_eq]
      exact h1
    · show decide (c * b < a * d) = decide (b * (c % d) < d * (a % b))
      rw [Bool.eq_iff_iff, decide_eq_true_eq, decide_eq_true_eq]
      exact h2
  intro j
  induction j with
  | zero =>
    intro a b c d f t ha hb hc hd hbj hba hdc hf
    have : b = 0 := by omega
    subst this
    obtain ⟨f, rfl⟩ : ∃ g, f = g + 1 := ⟨f - 1, by omega⟩
    exact stop0 a c d f t (hba rfl) hd
  | succ j ih =>
    intro a b c d f t ha hb hc hd hbj hba hdc hf
    obtain ⟨f, rfl⟩ : ∃ g, f = g + 2 := ⟨f - 2, by omega⟩
    rcases Nat.eq_zero_or_pos b with h0 | h0
    · subst h0
      exact stop0 a c d (f + 1) t (hba rfl) hd
    · rcases Nat.eq_zero_or_pos d with hd0 | hd0
      · subst hd0
        exact stopd a b c (f + 1) t h0 hb (hdc rfl)
      · by_cases he : a / b = c / d
        · rw [step a b c d (f + 1) t ha hb hc hd h0 hd0 he, flip a b c d t he]
          have m1 := Nat.mod_lt a h0
          have m2 := Nat.mod_lt c hd0
          rcases Nat.eq_zero_or_pos (a % b) with r0 | r0
          · rw [r0]
            exact stop0 b d (c % d) f (!t) h0 (by omega)
          · rcases Nat.eq_zero_or_pos (c % d) with s0 | s0
            · rw [s0]
              exact stopd b (a % b) d f (!t) r0 (by omega) hd0
            · by_cases he2 : b / (a % b) = d / (c % d)
              · rw [step b (a % b) d (c % d) f (!t) hb (by omega) hd (by omega) r0 s0 he2, flip b (a % b) d (c % d) (!t) he2]
                have hh := mod_half h0 r0
                have hm := Nat.mod_lt d s0
                exact ih (a % b) (b % (a % b)) (c % d) (d % (c % d)) f (!!t) (by omega) (by omega) (by omega) (by omega) (by rw [Nat.pow_succ] at hbj; omega) (fun _ => r0) (fun _ => s0) (by omega)
              · exact diff b (a % b) d (c % d) f (!t) hb (by omega) hd (by omega) r0 s0 he2
        · exact diff a b c d (f + 1) t ha hb hc hd h0 hd0 he
theorem isLess_eq {a b c d : Nat} (ha : a < 2 ^ 63) (hb : b < 2 ^ 63) (hc : c < 2 ^ 63) (hd : d < 2 ^ 63) (hb0 : 0 < b) (hd0 : 0 < d) : f_X9_isLess (lN a) (lN b) (lN c) (lN d) = some (bI (decide (a * d < c * b))) := by
  obtain ⟨r, e1, e2⟩ := il_loop 63 a b c d FU false ha hb hc hd hb (by omega) (by omega) (by rw [FU_big]; omega)
  unfold f_X9_isLess
  have e1' : lp_X9_isLess_17 FU (lN a) (lN b) (lN c) (lN d) (0 : Int32) = some r := e1
  rw [e1', Option.bind_some]
  exact e2
