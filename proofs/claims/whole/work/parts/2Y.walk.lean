/-! chances after some steps; the class's walk -/
def pw_ (c : Nat → Nat → Nat) (n : Nat) : Nat → Nat → Nat → Nat
  | 0, i, j => if i = j then 1 else 0
  | t + 1, i, j => sN (fun k => pw_ c n t i k * c k j) n
theorem pw_s (c : Nat → Nat → Nat) (n t i j : Nat) : pw_ c n (t + 1) i j = sN (fun k => pw_ c n t i k * c k j) n := rfl
theorem sN_swap (f : Nat → Nat → Nat) (m : Nat) : ∀ n, sN (fun i => sN (fun j => f i j) m) n = sN (fun j => sN (fun i => f i j) n) m
  | 0 => (sN_0 (f := fun _ => 0) (n := m) (fun _ _ => rfl)).symm
  | n + 1 => by
    rw [sN_succ, sN_swap f m n, ← sN_add]
    rfl
theorem sN_unit {n i : Nat} (hi : i < n) : sN (fun j => if i = j then 1 else 0) n = 1 := (sN_congr (fun k hk => by
  by_cases e : i = k
  · rw [if_pos e, if_pos ⟨e, hi⟩]
  · rw [if_neg e, if_neg (fun z => e z.1)])).trans (sN_one (v := 1) hi)
theorem pw_row {n q : Nat} {c : Nat → Nat → Nat} (hg : gch n q c) {i : Nat} (hi : i < n) : ∀ t, sN (pw_ c n t i) n = q ^ t
  | 0 => sN_unit hi
  | t + 1 => by
    have e : sN (pw_ c n (t + 1) i) n = sN (fun k => sN (fun j => pw_ c n t i k * c k j) n) n := (sN_swap (fun j k => pw_ c n t i k * c k j) n n)
    have e2 : sN (fun k => sN (fun j => pw_ c n t i k * c k j) n) n = sN (fun k => q * pw_ c n t i k) n := sN_congr (fun k hk => by
      rw [sN_mul, hg.2.2.2.2.1 k hk, Nat.mul_comm])
    rw [e, e2, sN_mul, pw_row hg hi t, Nat.pow_succ, Nat.mul_comm]
theorem pw_le {n q : Nat} {c : Nat → Nat → Nat} (hg : gch n q c) {i j : Nat} (hi : i < n) (hj : j < n) (t : Nat) : pw_ c n t i j ≤ q ^ t := by
  rw [← pw_row hg hi t]
  exact sN_ge hj
/-- times: so many steps that the power is small -/
theorem lT_le {q t : Nat} (h1 : 1 ≤ q) (h2 : q ≤ 60) (ht : t ≤ lT q) : q ^ t ≤ 1000000000000000 := by
  have h3 := (lT_ok h1 h2).2.1
  have := Nat.pow_le_pow_right h1 ht
  omega
/-- the difference without sign -/
def ab_ (a b : Nat) : Nat := (a - b) + (b - a)
def gp (c : Nat → Nat → Nat) (n t i j : Nat) : Nat := sN (fun k => ab_ (pw_ c n t i k) (pw_ c n t j k)) n
theorem gp_le {n q : Nat} {c : Nat → Nat → Nat} (hg : gch n q c) {i j : Nat} (hi : i < n) (hj : j < n) (t : Nat) : gp c n t i j ≤ 2 * q ^ t := by
  have e : ∀ m, m ≤ n → sN (fun k => ab_ (pw_ c n t i k) (pw_ c n t j k)) m ≤ sN (pw_ c n t i) m + sN (pw_ c n t j) m := by
    intro m
    induction m with
    | zero => intro _; exact Nat.le_refl _
    | succ m ih =>
      intro hm
      have := ih (by omega)
      rw [sN_succ, sN_succ, sN_succ]
      unfold ab_ at *
      omega
  have := e n (Nat.le_refl n)
  rw [pw_row hg hi, pw_row hg hj] at this
  unfold gp
  omega
def wr_ (g : Nat → Nat) (l : Nat) : Nat → Nat
  | 0 => l
  | j + 1 => if wr_ g l j < g j then g j else wr_ g l j
def wo_ (g : Nat → Nat → Nat) : Nat → Nat
  | 0 => 0
  | i + 1 => wr_ (g i) (wo_ g i) i
theorem wr_le {g : Nat → Nat} {l b : Nat} (hl : l ≤ b) : ∀ j, (∀ k, k < j → g k ≤ b) → wr_ g l j ≤ b
  | 0, _ => hl
  | j + 1, h => by
    have h1 := wr_le (g := g) hl j (fun k hk => h k (by omega))
    have h2 := h j (by omega)
    show (if _ then _ else _) ≤ b
    split <;> omega
theorem wo_le {g : Nat → Nat → Nat} {b : Nat} : ∀ i, (∀ x y, x < i → y < x → g x y ≤ b) → wo_ g i ≤ b
  | 0, _ => Nat.zero_le _
  | i + 1, h => wr_le (wo_le i (fun x y hx hy => h x y (by omega) hy)) i (fun k hk => h i k (by omega) hk)
theorem lN_ti {a b : Nat} (ha : a < 2 ^ 62) (hb : b < 2 ^ 62) : (lN a - lN b).toInt = (a : Int) - (b : Int) := by
  rw [Int64.toInt_sub, pk_lT (by omega), pk_lT (by omega)]
  exact fb_bm (by omega) (by omega)
theorem lN_ng {a b : Nat} : -(lN a - lN b) = lN b - lN a := by rw [Int64.neg_sub]
theorem abs_eq {a b : Nat} (ha : a < 2 ^ 62) (hb : b < 2 ^ 62) : (if (0 : Int64) < lN a - lN b then lN a - lN b else -(lN a - lN b)) = lN (ab_ a b) := by
  unfold ab_
  have h := lN_ti ha hb
  by_cases hc : b < a
  · rw [if_pos (by rw [Int64.lt_iff_toInt_lt, h]; show (0 : Int) < _; omega), lN_sub (by omega)]
    congr 1
    omega
  · rw [if_neg (by rw [Int64.lt_iff_toInt_lt, h]; show ¬ (0 : Int) < _; omega), lN_ng, lN_sub (by omega)]
    congr 1
    omega
theorem abs_r {α : Type} {a b : Nat} {k : Int64 → α} (ha : a < 2 ^ 62) (hb : b < 2 ^ 62) : (if nI 0 ≤ lg_cmp (lN a - lN b) (lN 0) then k (lN a - lN b) else k (-(lN a - lN b))) = k (lN (ab_ a b)) := by
  unfold ab_
  have h := lN_ti ha hb
  by_cases hc : b ≤ a
  · rw [if_pos (by rw [← zI0, lg_cmp_ge, Int64.le_iff_toInt_le, h]; show (0 : Int) ≤ _; omega), lN_sub hc]
    congr 2
    omega
  · rw [if_neg (by rw [← zI0, lg_cmp_ge, Int64.le_iff_toInt_le, h]; show ¬ (0 : Int) ≤ _; omega), lN_ng, lN_sub (by omega)]
    congr 2
    omega
/-- the walk object w, its rows wr and its spare row ws -/
def wkT (G : Gg) (M : Mm) (w wr ws : Nat) : Prop := isK G w 7 ∧ M.2.2 w 0 = some wr ∧ M.2.2 w 1 = some ws ∧ isK G wr 11 ∧ isK G ws 11 ∧ G.2.2 wr = 64 ∧ G.2.2 ws = 8 ∧ wr ≠ ws
theorem wkT_fr {G : Gg} {M M' : Mm} {w wr ws : Nat} {ai al : List Nat} (h : wkT G M w wr ws) (hf : fr M M' ai al) : wkT G M' w wr ws := by
  obtain ⟨h1, h2, h3, h4⟩ := h
  exact ⟨h1, by rw [hf.2.2]; exact h2, by rw [hf.2.2]; exact h3, h4⟩
section
variable {G : Gg} {M : Mm} {w wr ws a cl n : Nat} {c : Nat → Nat → Nat}
theorem wbegin_ok (hW : wkT G M w wr ws) : OK (f_X7_begin G M w) (fun M' => fr M M' [] [w, wr] ∧ (∀ i j, i < 8 → j < 8 → M'.2.1 wr (i * 8 + j) = lN (if i = j then 1 else 0)) ∧ M'.2.1 w 2 = lN 1) := by
  obtain ⟨h1, h2, h3, h4, h5, h6, h7, h8⟩ := hW
  have h9 : (9 : Int32) = nI 9 := rfl
  have hne : wr ≠ w := kne h4 h1 (by decide)
  have e := lpI (fun f i1 (x : Mm) => lp_X7_begin_2 G w f i1 x) (fun j x => fr M x [] [w, wr] ∧ ∀ k, k < j → x.2.1 wr k = lN (if k % 9 = 0 then 1 else 0)) 64 (fun x => fr M x [] [w, wr] ∧ ∀ k, k < 64 → x.2.1 wr k = lN (if k % 9 = 0 then 1 else 0)) (by omega) (fun f j x hj hx => by
    obtain ⟨e1, e2⟩ := hx
    left
    have r0 : x.2.2 w 0 = some wr := by rw [e1.2.2]; exact h2
    have hd : nI j - nI j / nI 9 * nI 9 = nI (j % 9) := by
      rw [pk_div (by omega) (by decide) (by decide), pk_mul, pk_sub (by omega)]
      congr 1
      omega
    refine ⟨mwJ x wr j (lN (if j % 9 = 0 then 1 else 0)), ⟨fr_tr e1 (fr_J (by simp)), fun k hk => ?_⟩, ?_⟩
    · by_cases hkj : k = j
      · subst hkj; rw [mwJ_s]
      · rw [mwJ_n (Or.inr hkj)]; exact e2 k (by omega)
    · rw [lp_X7_begin_2, bd_X7_begin_2]
      by_cases hc : j % 9 = 0
      · rw [hc] at hd
        rw [if_pos hc]
        simp (disch := first | assumption | omega | (refine inb_n ?_ ?_ <;> omega) | fail) only [ck_t, Option.bind_some, iLeP, iLeN, iLtP, iLtN, iEqP, iEqN, nI_1, pk_mul, nI_add, cl_n, zI0, zI1, zI8, bI_z, if_true_eq, if_false_eq, if_true, if_false, lEqP, lEqN, lGtP, lGtN, lLeP, lLeN, lGeP, lGeN, lLtP, lLtN, lN_mul, lN_add, nI_l, pk_lDiv, pk_lRem, ckl, zL0, zL1, nz64, r0, h9, cki, hd, h6]
      · rw [if_neg hc]
        simp (disch := first | assumption | omega | (refine inb_n ?_ ?_ <;> omega) | fail) only [ck_t, Option.bind_some, iLeP, iLeN, iLtP, iLtN, iEqP, iEqN, nI_1, pk_mul, nI_add, cl_n, zI0, zI1, zI8, bI_z, if_true_eq, if_false_eq, if_true, if_false, lEqP, lEqN, lGtP, lGtN, lLeP, lLeN, lGeP, lGeN, lLtP, lLtN, lN_mul, lN_add, nI_l, pk_lDiv, pk_lRem, ckl, zL0, zL1, nz64, r0, h9, cki, hd, h6]) (fun f x hx => by
    refine ⟨x, ?_, hx⟩
    rw [lp_X7_begin_2, bd_X7_begin_2]
    simp (disch := first | assumption | omega | (refine inb_n ?_ ?_ <;> omega) | fail) only [ck_t, Option.bind_some, iLeP, iLeN, iLtP, iLtN, iEqP, iEqN, nI_1, pk_mul, nI_add, cl_n, zI0, zI1, zI8, bI_z, if_true_eq, if_false_eq, if_true, if_false, nz64]) (j0 := 0) (x := M) (by omega) ⟨fr_rf, fun k hk => absurd hk (by omega)⟩
  obtain ⟨x, e1, e2, e3⟩ := e
  refine ⟨mwJ x w 2 (lN 1), ?_, fr_tr e2 (fr_J (by simp)), fun i j hi hj => ?_, mwJ_s⟩
  · unfold f_X7_begin
    simp (disch := first | assumption | omega | (refine inb_n ?_ ?_ <;> omega) | fail) only [ck_t, Option.bind_some, iLeP, iLeN, iLtP, iLtN, iEqP, iEqN, nI_1, pk_mul, nI_add, cl_n, zI0, zI1, zI8, bI_z, if_true_eq, if_false_eq, if_true, if_false, lEqP, lEqN, lGtP, lGtN, lLeP, lLeN, lGeP, lGeN, lLtP, lLtN, lN_mul, lN_add, nI_l, pk_lDiv, pk_lRem, ckl, zL0, zL1, e1]
  · rw [mwJ_n (Or.inl hne), e3 _ (by omega)]
    congr 1
    by_cases hij : i = j
    · rw [if_pos (by omega), if_pos hij]
    · rw [if_neg (by omega), if_neg hij]
theorem move_1 (hW : wkT G M w wr ws) (hC : chC G M a cl n c) {i : Nat} {v : Nat → Nat} (hi : i < n) (hv : ∀ k, k < n → M.2.1 wr (i * 8 + k) = lN (v k)) : OK (lp_X7_moveRow_8 G w a (nI (i * 8)) FU (nI 0) M) (fun M' => fr M M' [] [wr, ws] ∧ (∀ k, k < n → M'.2.1 ws k = lN (v k)) ∧ (∀ k, k < n → M'.2.1 wr (i * 8 + k) = lN 0) ∧ ∀ k, k < i * 8 ∨ i * 8 + 8 ≤ k → M'.2.1 wr k = M.2.1 wr k) := by
  obtain ⟨h1, h2, h3, h4, h5, h6, h7, h8⟩ := hW
  have hn := hC.2.2.2.2.2.1
  have ka := hC.1
  have hsr : ws ≠ wr := fun e => h8 e.symm
  refine lpI (fun f i4 (x : Mm) => lp_X7_moveRow_8 G w a (nI (i * 8)) f i4 x) (fun j x => fr M x [] [wr, ws] ∧ (∀ k, k < j → x.2.1 ws k = lN (v k)) ∧ (∀ k, k < n → x.2.1 wr (i * 8 + k) = lN (if k < j then 0 else v k)) ∧ ∀ k, k < i * 8 ∨ i * 8 + 8 ≤ k → x.2.1 wr k = M.2.1 wr k) n _ (by omega) (fun f j x hj hx => ?_) (fun f x hx => ?_) (by omega) ⟨fr_rf, fun k hk => absurd hk (by omega), fun k hk => by rw [if_neg (by omega)]; exact hv k hk, fun _ _ => rfl⟩
  · obtain ⟨e1, e2, e3, e4⟩ := hx
    left
    have r0 : x.2.2 w 0 = some wr := by rw [e1.2.2]; exact h2
    have r1 : x.2.2 w 1 = some ws := by rw [e1.2.2]; exact h3
    have hz : x.1 a 0 = nI n := by rw [e1.1 a (by simp)]; exact hC.2.2.2.2.1
    have ej := e3 j hj
    rw [if_neg (by omega)] at ej
    refine ⟨mwJ (mwJ x ws j (lN (v j))) wr (i * 8 + j) (lN 0), ⟨fr_tr e1 (fr_tr (fr_J (by simp)) (fr_J (by simp))), fun k hk => ?_, fun k hk => ?_, fun k hk => ?_⟩, ?_⟩
    · rw [mwJ_n (Or.inl hsr)]
      by_cases hkj : k = j
      · subst hkj; rw [mwJ_s]
      · rw [mwJ_n (Or.inr hkj)]; exact e2 k (by omega)
    · by_cases hkj : k = j
      · subst hkj; rw [mwJ_s, if_pos (by omega)]
      · rw [mwJ_n (by omega), mwJ_n (Or.inl h8), e3 k hk]
        congr 1
        by_cases hlt : k < j
        · rw [if_pos hlt, if_pos (by omega)]
        · rw [if_neg hlt, if_neg (by omega)]
    · rw [mwJ_n (by omega), mwJ_n (Or.inl h8)]; exact e4 k hk
    · rw [lp_X7_moveRow_8, bd_X7_moveRow_8]
      simp (disch := first | assumption | omega | (refine inb_n ?_ ?_ <;> omega) | fail) only [ck_t, Option.bind_some, iLeP, iLeN, iLtP, iLtN, iEqP, iEqN, nI_1, pk_mul, nI_add, cl_n, zI0, zI1, zI8, bI_z, if_true_eq, if_false_eq, if_true, if_false, lEqP, lEqN, lGtP, lGtN, lLeP, lLeN, lGeP, lGeN, lLtP, lLtN, lN_mul, lN_add, nI_l, pk_lDiv, pk_lRem, ckl, zL0, zL1, hz, r0, r1, h6, h7, ej]
  · obtain ⟨e1, e2, e3, e4⟩ := hx
    have hz : x.1 a 0 = nI n := by rw [e1.1 a (by simp)]; exact hC.2.2.2.2.1
    refine ⟨x, ?_, e1, e2, fun k hk => by have := e3 k hk; rw [if_pos hk] at this; exact this, e4⟩
    rw [lp_X7_moveRow_8, bd_X7_moveRow_8]
    simp (disch := first | assumption | omega | (refine inb_n ?_ ?_ <;> omega) | fail) only [ck_t, Option.bind_some, iLeP, iLeN, iLtP, iLtN, iEqP, iEqN, nI_1, pk_mul, nI_add, cl_n, zI0, zI1, zI8, bI_z, if_true_eq, if_false_eq, if_true, if_false, hz]
theorem move_2 (hW : wkT G M w wr ws) (hC : chC G M a cl n c) {i k : Nat} {v u : Nat → Nat} (hi : i < n) (hk : k < n) (hv : M.2.1 ws k = lN (v k)) (hvl : v k < 2 ^ 63) (hu : ∀ j, j < n → M.2.1 wr (i * 8 + j) = lN (u j)) : OK (lp_X7_moveRow_64 G w a (nI (i * 8)) (nI k) FU (nI 0) M) (fun M' => fr M M' [] [wr] ∧ (∀ j, j < n → M'.2.1 wr (i * 8 + j) = lN (u j + v k * c k j)) ∧ ∀ y, y < i * 8 ∨ i * 8 + 8 ≤ y → M'.2.1 wr y = M.2.1 wr y) := by
  obtain ⟨h1, h2, h3, h4, h5, h6, h7, h8⟩ := hW
  have hn := hC.2.2.2.2.2.1
  have ka := hC.1
  have hsr : ws ≠ wr := fun e => h8 e.symm
  by_cases hz0 : v k = 0
  · refine ⟨M, ?_, fr_rf, fun j hj => by rw [hz0, Nat.zero_mul, Nat.add_zero]; exact hu j hj, fun _ _ => rfl⟩
    have hz := hC.2.2.2.2.1
    rw [hz0] at hv
    rw [show FU = 999 + 1 from rfl]
    rw [lp_X7_moveRow_64, bd_X7_moveRow_64]
    simp (disch := first | assumption | omega | (refine inb_n ?_ ?_ <;> omega) | fail) only [ck_t, Option.bind_some, iLeP, iLeN, iLtP, iLtN, iEqP, iEqN, nI_1, pk_mul, nI_add, cl_n, zI0, zI1, zI8, bI_z, if_true_eq, if_false_eq, if_true, if_false, lEqP, lEqN, lGtP, lGtN, lLeP, lLeN, lGeP, lGeN, lLtP, lLtN, lN_mul, lN_add, nI_l, pk_lDiv, pk_lRem, ckl, zL0, zL1, hz, h3, h7, hv]
  · refine lpI (fun f i5 (x : Mm) => lp_X7_moveRow_64 G w a (nI (i * 8)) (nI k) f i5 x) (fun j x => fr M x [] [wr] ∧ (∀ y, y < n → x.2.1 wr (i * 8 + y) = lN (if y < j then u y + v k * c k y else u y)) ∧ ∀ y, y < i * 8 ∨ i * 8 + 8 ≤ y → x.2.1 wr y = M.2.1 wr y) n _ (by omega) (fun f j x hj hx => ?_) (fun f x hx => ?_) (by omega) ⟨fr_rf, fun y hy => by rw [if_neg (by omega)]; exact hu y hy, fun _ _ => rfl⟩
    · obtain ⟨e1, e2, e3⟩ := hx
      left
      have r0 : x.2.2 w 0 = some wr := by rw [e1.2.2]; exact h2
      have r1 : x.2.2 w 1 = some ws := by rw [e1.2.2]; exact h3
      have rc : x.2.2 a 2 = some cl := by rw [e1.2.2]; exact hC.2.1
      have kcl := hC.2.2.1
      have lcl := hC.2.2.2.1
      have hz : x.1 a 0 = nI n := by rw [e1.1 a (by simp)]; exact hC.2.2.2.2.1
      have ec : x.1 cl (k * 8 + j) = nI (c k j) := by rw [e1.1 cl (by simp)]; exact hC.2.2.2.2.2.2.1 k j hk hj
      have es : x.2.1 ws k = lN (v k) := by rw [e1.2.1 ws (ne_in hsr)]; exact hv
      have hcl := hC.2.2.2.2.2.2.2 k j
      have ej := e2 j hj
      rw [if_neg (by omega)] at ej
      refine ⟨mwJ x wr (i * 8 + j) (lN (u j + v k * c k j)), ⟨fr_tr e1 (fr_J in_1), fun y hy => ?_, fun y hy => by rw [mwJ_n (by omega)]; exact e3 y hy⟩, ?_⟩
      · by_cases hyj : y = j
        · subst hyj; rw [mwJ_s, if_pos (by omega)]
        · rw [mwJ_n (by omega), e2 y hy]
          congr 1
          by_cases hlt : y < j
          · rw [if_pos hlt, if_pos (by omega)]
          · rw [if_neg hlt, if_neg (by omega)]
      · rw [lp_X7_moveRow_64, bd_X7_moveRow_64]
        simp (disch := first | assumption | omega | (refine inb_n ?_ ?_ <;> omega) | fail) only [ck_t, Option.bind_some, iLeP, iLeN, iLtP, iLtN, iEqP, iEqN, nI_1, pk_mul, nI_add, cl_n, zI0, zI1, zI8, bI_z, if_true_eq, if_false_eq, if_true, if_false, lEqP, lEqN, lGtP, lGtN, lLeP, lLeN, lGeP, lGeN, lLtP, lLtN, lN_mul, lN_add, nI_l, pk_lDiv, pk_lRem, ckl, zL0, zL1, hz, r1, h7, es, r0, h6, rc, lcl, ec, ej]
    · obtain ⟨e1, e2, e3⟩ := hx
      have hz : x.1 a 0 = nI n := by rw [e1.1 a (by simp)]; exact hC.2.2.2.2.1
      refine ⟨x, ?_, e1, fun j hj => by have := e2 j hj; rw [if_pos hj] at this; exact this, e3⟩
      rw [lp_X7_moveRow_64, bd_X7_moveRow_64]
      simp (disch := first | assumption | omega | (refine inb_n ?_ ?_ <;> omega) | fail) only [ck_t, Option.bind_some, iLeP, iLeN, iLtP, iLtN, iEqP, iEqN, nI_1, pk_mul, nI_add, cl_n, zI0, zI1, zI8, bI_z, if_true_eq, if_false_eq, if_true, if_false, hz]
theorem move_ok (hW : wkT G M w wr ws) (hC : chC G M a cl n c) {i : Nat} {v : Nat → Nat} (hi : i < n) (hv : ∀ k, k < n → M.2.1 wr (i * 8 + k) = lN (v k)) (hvl : ∀ k, k < n → v k < 2 ^ 63) : OK (f_X7_moveRow G M w a (nI i)) (fun M' => fr M M' [] [wr, ws] ∧ (∀ j, j < n → M'.2.1 wr (i * 8 + j) = lN (sN (fun k => v k * c k j) n)) ∧ ∀ y, y < i * 8 ∨ i * 8 + 8 ≤ y → M'.2.1 wr y = M.2.1 wr y) := by
  have hn := hC.2.2.2.2.2.1
  have ka := hC.1
  have hsr : ws ≠ wr := fun e => hW.2.2.2.2.2.2.2 e.symm
  obtain ⟨M1, a1, a2, a3, a4, a5⟩ := move_1 hW hC hi hv
  have e := lpI (fun f i4 (x : Mm) => lp_X7_moveRow_52 G w a (nI (i * 8)) f i4 x) (fun k x => fr M x [] [wr, ws] ∧ x.2.1 ws = M1.2.1 ws ∧ (∀ j, j < n → x.2.1 wr (i * 8 + j) = lN (sN (fun k => v k * c k j) k)) ∧ ∀ y, y < i * 8 ∨ i * 8 + 8 ≤ y → x.2.1 wr y = M.2.1 wr y) n (fun x => fr M x [] [wr, ws] ∧ (∀ j, j < n → x.2.1 wr (i * 8 + j) = lN (sN (fun k => v k * c k j) n)) ∧ ∀ y, y < i * 8 ∨ i * 8 + 8 ≤ y → x.2.1 wr y = M.2.1 wr y) (by omega) (fun f k x hk hx => by
    obtain ⟨e1, e2, e3, e4⟩ := hx
    left
    have hz : x.1 a 0 = nI n := by rw [e1.1 a (by simp)]; exact hC.2.2.2.2.1
    obtain ⟨y, b1, b2, b3, b4⟩ := move_2 (M := x) (i := i) (k := k) (v := v) (u := fun j => sN (fun k => v k * c k j) k) (wkT_fr hW e1) (chC_fr hC e1 (by simp) (by simp)) hi hk (by rw [e2]; exact a3 k hk) (hvl k hk) e3
    refine ⟨y, ⟨fr_tr e1 (fr_sub b2 (fun z hz => hz) (fun z hz => by simp at hz; simp [hz])), by rw [b2.2.1 ws (ne_in hsr)]; exact e2, b3, fun z hz => by rw [b4 z hz]; exact e4 z hz⟩, ?_⟩
    rw [lp_X7_moveRow_52, bd_X7_moveRow_52]
    simp (disch := first | assumption | omega | (refine inb_n ?_ ?_ <;> omega) | fail) only [ck_t, Option.bind_some, iLeP, iLeN, iLtP, iLtN, iEqP, iEqN, nI_1, pk_mul, nI_add, cl_n, zI0, zI1, zI8, bI_z, if_true_eq, if_false_eq, if_true, if_false, hz, b1]) (fun f x hx => by
    obtain ⟨e1, e2, e3, e4⟩ := hx
    have hz : x.1 a 0 = nI n := by rw [e1.1 a (by simp)]; exact hC.2.2.2.2.1
    refine ⟨x, ?_, e1, e3, e4⟩
    rw [lp_X7_moveRow_52, bd_X7_moveRow_52]
    simp (disch := first | assumption | omega | (refine inb_n ?_ ?_ <;> omega) | fail) only [ck_t, Option.bind_some, iLeP, iLeN, iLtP, iLtN, iEqP, iEqN, nI_1, pk_mul, nI_add, cl_n, zI0, zI1, zI8, bI_z, if_true_eq, if_false_eq, if_true, if_false, hz]) (j0 := 0) (x := M1) (by omega) ⟨a2, rfl, fun j hj => a4 j hj, a5⟩
  obtain ⟨x, e1, e2⟩ := e
  refine ⟨x, ?_, e2⟩
  unfold f_X7_moveRow
  simp (disch := first | assumption | omega | (refine inb_n ?_ ?_ <;> omega) | fail) only [ck_t, Option.bind_some, iLeP, iLeN, iLtP, iLtN, iEqP, iEqN, nI_1, pk_mul, nI_add, cl_n, zI0, zI1, zI8, bI_z, if_true_eq, if_false_eq, if_true, if_false, a1, e1]
/-- after t steps, for the beginnings B -/
def wkS (M : Mm) (w wr n q : Nat) (c : Nat → Nat → Nat) (B t : Nat) : Prop := (∀ i j, i < n → B.testBit i = true → j < n → M.2.1 wr (i * 8 + j) = lN (pw_ c n t i j)) ∧ M.2.1 w 2 = lN (q ^ t)
theorem goOnce_ok (hW : wkT G M w wr ws) (hC : chC G M a cl n c) {q B t : Nat} (hg : gch n q c) (hq : M.1 a 1 = nI q) (hB : B < 2 ^ n) (ht : q ^ t < 2 ^ 62) (hs : wkS M w wr n q c B t) : OK (f_X7_goOnce G M w a (nI B)) (fun M' => fr M M' [] [w, wr, ws] ∧ wkS M' w wr n q c B (t + 1)) := by
  have hn := hC.2.2.2.2.2.1
  have b8 := p2_31 hn
  have ka := hC.1
  have kw := hW.1
  have hwr : w ≠ wr := kne hW.1 hW.2.2.2.1 (by decide)
  have hws : w ≠ ws := kne hW.1 hW.2.2.2.2.1 (by decide)
  have e := lpI (fun f i3 (x : Mm) => lp_X7_goOnce_2 G w a (nI B) f i3 x) (fun k x => fr M x [] [wr, ws] ∧ ∀ i j, i < n → B.testBit i = true → j < n → x.2.1 wr (i * 8 + j) = lN (if i < k then pw_ c n (t + 1) i j else pw_ c n t i j)) n (fun x => fr M x [] [wr, ws] ∧ ∀ i j, i < n → B.testBit i = true → j < n → x.2.1 wr (i * 8 + j) = lN (pw_ c n (t + 1) i j)) (by omega) (fun f k x hk hx => by
    obtain ⟨e1, e2⟩ := hx
    left
    have hz : x.1 a 0 = nI n := by rw [e1.1 a (by simp)]; exact hC.2.2.2.2.1
    have eh := has_b (show B < 2 ^ 31 by omega) (show k < 32 by omega)
    by_cases hb : B.testBit k = true
    · rw [hb] at eh
      obtain ⟨y, b1, b2, b3, b4⟩ := move_ok (M := x) (i := k) (v := pw_ c n t k) (wkT_fr hW e1) (chC_fr hC e1 (by simp) (by simp)) hk (fun j hj => by have := e2 k j hk hb hj; rw [if_neg (by omega)] at this; exact this) (fun j hj => by have := pw_le hg hk hj t; omega)
      refine ⟨y, ⟨fr_tr e1 b2, fun i j hi hbi hj => ?_⟩, ?_⟩
      · by_cases hik : i = k
        · subst hik
          rw [if_pos (by omega), b3 j hj]
          rfl
        · rw [b4 _ (by omega), e2 i j hi hbi hj]
          congr 1
          by_cases hlt : i < k
          · rw [if_pos hlt, if_pos (by omega)]
          · rw [if_neg hlt, if_neg (by omega)]
      · rw [lp_X7_goOnce_2, bd_X7_goOnce_2]
        simp (disch := first | assumption | omega | (refine inb_n ?_ ?_ <;> omega) | fail) only [ck_t, Option.bind_some, iLeP, iLeN, iLtP, iLtN, iEqP, iEqN, nI_1, pk_mul, nI_add, cl_n, zI0, zI1, zI8, bI_z, if_true_eq, if_false_eq, if_true, if_false, hz, eh, b1]
    · rw [Bool.not_eq_true] at hb
      rw [hb] at eh
      refine ⟨x, ⟨e1, fun i j hi hbi hj => ?_⟩, ?_⟩
      · rw [e2 i j hi hbi hj]
        congr 1
        by_cases hik : i = k
        · subst hik; rw [hb] at hbi; cases hbi
        · by_cases hlt : i < k
          · rw [if_pos hlt, if_pos (by omega)]
          · rw [if_neg hlt, if_neg (by omega)]
      · rw [lp_X7_goOnce_2, bd_X7_goOnce_2]
        simp (disch := first | assumption | omega | (refine inb_n ?_ ?_ <;> omega) | fail) only [ck_t, Option.bind_some, iLeP, iLeN, iLtP, iLtN, iEqP, iEqN, nI_1, pk_mul, nI_add, cl_n, zI0, zI1, zI8, bI_z, if_true_eq, if_false_eq, if_true, if_false, hz, eh]) (fun f x hx => by
    obtain ⟨e1, e2⟩ := hx
    have hz : x.1 a 0 = nI n := by rw [e1.1 a (by simp)]; exact hC.2.2.2.2.1
    refine ⟨x, ?_, e1, fun i j hi hbi hj => by have := e2 i j hi hbi hj; rw [if_pos hi] at this; exact this⟩
    rw [lp_X7_goOnce_2, bd_X7_goOnce_2]
    simp (disch := first | assumption | omega | (refine inb_n ?_ ?_ <;> omega) | fail) only [ck_t, Option.bind_some, iLeP, iLeN, iLtP, iLtN, iEqP, iEqN, nI_1, pk_mul, nI_add, cl_n, zI0, zI1, zI8, bI_z, if_true_eq, if_false_eq, if_true, if_false, hz]) (j0 := 0) (x := M) (by omega) ⟨fr_rf, fun i j hi hbi hj => by rw [if_neg (by omega)]; exact hs.1 i j hi hbi hj⟩
  obtain ⟨x, e1, e2, e3⟩ := e
  have hq' : x.1 a 1 = nI q := by rw [e2.1 a (by simp)]; exact hq
  have hp : x.2.1 w 2 = lN (q ^ t) := by rw [e2.2.1 w (ne_in2 hwr hws)]; exact hs.2
  have hq60 := hg.2.2.2.1
  refine ⟨mwJ x w 2 (lN (q ^ (t + 1))), ?_, fr_tr (fr_sub e2 (fun z hz => hz) (fun z hz => by simp at hz; rcases hz with rfl | rfl <;> simp)) (fr_J (by simp)), fun i j hi hbi hj => ?_, mwJ_s⟩
  · have hpw : q ^ t * q = q ^ (t + 1) := rfl
    unfold f_X7_goOnce
    simp (disch := first | assumption | omega | (refine inb_n ?_ ?_ <;> omega) | fail) only [ck_t, Option.bind_some, iLeP, iLeN, iLtP, iLtN, iEqP, iEqN, nI_1, pk_mul, nI_add, cl_n, zI0, zI1, zI8, bI_z, if_true_eq, if_false_eq, if_true, if_false, lEqP, lEqN, lGtP, lGtN, lLeP, lLeN, lGeP, lGeN, lLtP, lLtN, lN_mul, lN_add, nI_l, pk_lDiv, pk_lRem, ckl, zL0, zL1, e1, hp, hq', hpw]
  · rw [mwJ_n (Or.inl (fun z => hwr z.symm))]
    exact e3 i j hi hbi hj
theorem go_ok (hW : wkT G M w wr ws) (hC : chC G M a cl n c) {q B t : Nat} (hg : gch n q c) (hq : M.1 a 1 = nI q) (hB : B < 2 ^ n) (ht : t ≤ lT q) : OK (f_X7_go G M w a (nI B) (nI t)) (fun M' => fr M M' [] [w, wr, ws] ∧ wkS M' w wr n q c B t) := by
  obtain ⟨M1, a1, a2, a3, a4⟩ := wbegin_ok hW
  have kw := hW.1
  have hn := hg.2.1
  have hlt := (lT_ok hg.2.2.1 hg.2.2.2.1).1
  have e := lpI (fun f i4 (x : Mm) => lp_X7_go_7 G w a (nI B) (nI t) f i4 x) (fun k x => fr M x [] [w, wr, ws] ∧ wkS x w wr n q c B k) t (fun x => fr M x [] [w, wr, ws] ∧ wkS x w wr n q c B t) (by omega) (fun f k x hk hx => by
    obtain ⟨e1, e2⟩ := hx
    left
    have hp := lT_le hg.2.2.1 hg.2.2.2.1 (show k ≤ lT q by omega)
    obtain ⟨y, b1, b2, b3⟩ := goOnce_ok (M := x) (wkT_fr hW e1) (chC_fr hC e1 (by simp) (by simp)) hg (by rw [e1.1 a (by simp)]; exact hq) hB (by omega) e2
    refine ⟨y, ⟨fr_tr e1 b2, b3⟩, ?_⟩
    rw [lp_X7_go_7, bd_X7_go_7]
    simp (disch := first | assumption | omega | (refine inb_n ?_ ?_ <;> omega) | fail) only [ck_t, Option.bind_some, iLeP, iLeN, iLtP, iLtN, iEqP, iEqN, nI_1, pk_mul, nI_add, cl_n, zI0, zI1, zI8, bI_z, if_true_eq, if_false_eq, if_true, if_false, nz20, b1]) (fun f x hx => by
    refine ⟨x, ?_, hx⟩
    rw [lp_X7_go_7, bd_X7_go_7]
    simp (disch := first | assumption | omega | (refine inb_n ?_ ?_ <;> omega) | fail) only [ck_t, Option.bind_some, iLeP, iLeN, iLtP, iLtN, iEqP, iEqN, nI_1, pk_mul, nI_add, cl_n, zI0, zI1, zI8, bI_z, if_true_eq, if_false_eq, if_true, if_false]) (j0 := 0) (x := M1) (by omega) ⟨fr_sub a2 (fun z hz => hz) (fun z hz => by simp at hz; rcases hz with rfl | rfl <;> simp), fun i j hi _ hj => a3 i j (by omega) (by omega), by rw [a4, Nat.pow_zero]⟩
  obtain ⟨x, e1, e2⟩ := e
  refine ⟨x, ?_, e2⟩
  unfold f_X7_go
  simp (disch := first | assumption | omega | (refine inb_n ?_ ?_ <;> omega) | fail) only [ck_t, Option.bind_some, iLeP, iLeN, iLtP, iLtN, iEqP, iEqN, nI_1, pk_mul, nI_add, cl_n, zI0, zI1, zI8, bI_z, if_true_eq, if_false_eq, if_true, if_false, a1, e1]
theorem gap_eq (hW : wkT G M w wr ws) (hC : chC G M a cl n c) {q B t i j : Nat} (hg : gch n q c) (ht : q ^ t < 2 ^ 62) (hs : wkS M w wr n q c B t) (hi : i < n) (hj : j < n) (bi : B.testBit i = true) (bj : B.testBit j = true) : f_X7_gap G M w a (nI i) (nI j) = some (lN (gp c n t i j)) := by
  obtain ⟨h1, h2, h3, h4, h5, h6, h7, h8⟩ := hW
  have hn := hC.2.2.2.2.2.1
  have ka := hC.1
  have hz := hC.2.2.2.2.1
  have s1 := isState_p ka hz hn hi
  have s2 := isState_p ka hz hn hj
  have e := lpF (fun f (x : Int64) i6 => lp_X7_gap_25 G M w a (nI i) (nI j) f x i6) (fun k => lN (sN (fun k => ab_ (pw_ c n t i k) (pw_ c n t j k)) k)) n (lN (gp c n t i j)) (by omega) (fun f k hk => by
    have e1 := hs.1 i k hi bi hk
    have e2 := hs.1 j k hj bj hk
    have l1 := pw_le hg hi hk t
    have l2 := pw_le hg hj hk t
    have ea := abs_eq (a := pw_ c n t i k) (b := pw_ c n t j k) (by omega) (by omega)
    rw [zL0] at ea
    rw [lp_X7_gap_25, bd_X7_gap_25]
    simp (disch := first | assumption | omega | (refine inb_n ?_ ?_ <;> omega) | fail) only [ck_t, Option.bind_some, iLeP, iLeN, iLtP, iLtN, iEqP, iEqN, nI_1, pk_mul, nI_add, cl_n, zI0, zI1, zI8, bI_z, if_true_eq, if_false_eq, if_true, if_false, lEqP, lEqN, lGtP, lGtN, lLeP, lLeN, lGeP, lGeN, lLtP, lLtN, lN_mul, lN_add, nI_l, pk_lDiv, pk_lRem, ckl, zL0, zL1, hz, h2, h6, e1, e2, ea]
    rfl) (fun f => by
    rw [lp_X7_gap_25, bd_X7_gap_25]
    simp (disch := first | assumption | omega | (refine inb_n ?_ ?_ <;> omega) | fail) only [ck_t, Option.bind_some, iLeP, iLeN, iLtP, iLtN, iEqP, iEqN, nI_1, pk_mul, nI_add, cl_n, zI0, zI1, zI8, bI_z, if_true_eq, if_false_eq, if_true, if_false, lEqP, lEqN, lGtP, lGtN, lLeP, lLeN, lGeP, lGeN, lLtP, lLtN, lN_mul, lN_add, nI_l, pk_lDiv, pk_lRem, ckl, zL0, zL1, hz]
    rfl)
  have e' : lp_X7_gap_25 G M w a (nI i) (nI j) FU (lN 0) (nI 0) = some (lN (gp c n t i j)) := e
  unfold f_X7_gap
  simp (disch := first | assumption | omega | (refine inb_n ?_ ?_ <;> omega) | fail) only [ck_t, Option.bind_some, iLeP, iLeN, iLtP, iLtN, iEqP, iEqN, nI_1, pk_mul, nI_add, cl_n, zI0, zI1, zI8, bI_z, if_true_eq, if_false_eq, if_true, if_false, lEqP, lEqN, lGtP, lGtN, lLeP, lLeN, lGeP, lGeN, lLtP, lLtN, lN_mul, lN_add, nI_l, pk_lDiv, pk_lRem, ckl, zL0, zL1, s1, s2, e']
theorem widest_eq (hW : wkT G M w wr ws) (hC : chC G M a cl n c) {q B t : Nat} (hg : gch n q c) (ht : q ^ t < 2 ^ 61) (hs : wkS M w wr n q c B t) (hB : ∀ i, i < n → B.testBit i = true) : f_X7_widestGap G M w a = some (lN (wo_ (gp c n t) n)) := by
  have hn := hC.2.2.2.2.2.1
  have ka := hC.1
  have kw := hW.1
  have hz := hC.2.2.2.2.1
  have row : ∀ i l, i < n → l ≤ 2 * q ^ t → lp_X7_widestGap_17 G M w a (nI i) FU (lN l) (nI 0) = some (lN (wr_ (gp c n t i) l i)) := fun i l hi hl => by
    refine lpF (fun f (x : Int64) i5 => lp_X7_widestGap_17 G M w a (nI i) f x i5) (fun k => lN (wr_ (gp c n t i) l k)) i _ (by omega) (fun f k hk => ?_) (fun f => ?_)
    · have e1 := gap_eq hW hC hg (by omega) hs hi (show k < n by omega) (hB i hi) (hB k (by omega))
      have l1 := gp_le hg hi (show k < n by omega) t
      have l2 := wr_le (g := gp c n t i) hl k (fun x hx => gp_le hg hi (by omega) t)
      have em : (if lN (gp c n t i k) < lN (wr_ (gp c n t i) l k) then lN (wr_ (gp c n t i) l k) else lN (gp c n t i k)) = lN (wr_ (gp c n t i) l (k + 1)) := by
        show _ = lN (if _ then _ else _)
        by_cases hc : wr_ (gp c n t i) l k < gp c n t i k
        · rw [if_pos hc, if_neg (by rw [pk_lLT (by omega) (by omega)]; omega)]
        · rw [if_neg hc]
          by_cases he : gp c n t i k < wr_ (gp c n t i) l k
          · rw [if_pos (by rw [pk_lLT (by omega) (by omega)]; exact he)]
          · rw [if_neg (by rw [pk_lLT (by omega) (by omega)]; exact he)]
            congr 1
            omega
      rw [lp_X7_widestGap_17, bd_X7_widestGap_17]
      simp (disch := first | assumption | omega | (refine inb_n ?_ ?_ <;> omega) | fail) only [ck_t, Option.bind_some, iLeP, iLeN, iLtP, iLtN, iEqP, iEqN, nI_1, pk_mul, nI_add, cl_n, zI0, zI1, zI8, bI_z, if_true_eq, if_false_eq, if_true, if_false, e1, em]
    · rw [lp_X7_widestGap_17, bd_X7_widestGap_17]
      simp (disch := first | assumption | omega | (refine inb_n ?_ ?_ <;> omega) | fail) only [ck_t, Option.bind_some, iLeP, iLeN, iLtP, iLtN, iEqP, iEqN, nI_1, pk_mul, nI_add, cl_n, zI0, zI1, zI8, bI_z, if_true_eq, if_false_eq, if_true, if_false]
  have e := lpF (fun f (x : Int64) i4 => lp_X7_widestGap_5 G M w a f x i4) (fun k => lN (wo_ (gp c n t) k)) n (lN (wo_ (gp c n t) n)) (by omega) (fun f k hk => by
    have l1 : wo_ (gp c n t) k ≤ 2 * q ^ t := wo_le k (fun x y hx hy => gp_le hg (by omega) (by omega) t)
    have er := row k (wo_ (gp c n t) k) hk l1
    rw [lp_X7_widestGap_5, bd_X7_widestGap_5]
    simp (disch := first | assumption | omega | (refine inb_n ?_ ?_ <;> omega) | fail) only [ck_t, Option.bind_some, iLeP, iLeN, iLtP, iLtN, iEqP, iEqN, nI_1, pk_mul, nI_add, cl_n, zI0, zI1, zI8, bI_z, if_true_eq, if_false_eq, if_true, if_false, hz, er]
    rfl) (fun f => by
    rw [lp_X7_widestGap_5, bd_X7_widestGap_5]
    simp (disch := first | assumption | omega | (refine inb_n ?_ ?_ <;> omega) | fail) only [ck_t, Option.bind_some, iLeP, iLeN, iLtP, iLtN, iEqP, iEqN, nI_1, pk_mul, nI_add, cl_n, zI0, zI1, zI8, bI_z, if_true_eq, if_false_eq, if_true, if_false, hz])
  unfold f_X7_widestGap
  rw [zI0, zL0]
  exact (congrArg (Option.bind · _) e)
end
