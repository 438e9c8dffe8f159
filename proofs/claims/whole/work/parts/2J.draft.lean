/-! a chain in the making: begun, its cells raised -/
def up2 (f : Nat → Nat → Nat) (i j v : Nat) : Nat → Nat → Nat := fun x y => if x = i ∧ y = j then v else f x y
def dfC (G : Gg) (M : Mm) (a cl n q : Nat) (f : Nat → Nat → Nat) : Prop := isK G a 0 ∧ M.2.2 a 2 = some cl ∧ isK G cl 10 ∧ G.2.2 cl = 64 ∧ M.1 a 0 = nI n ∧ n ≤ 8 ∧ M.1 a 1 = nI q ∧ (∀ i j, i < 8 → j < 8 → M.1 cl (i * 8 + j) = nI (f i j)) ∧ ∀ i j, f i j < 2 ^ 10
theorem dfC_C {G : Gg} {M : Mm} {a cl n q : Nat} {f : Nat → Nat → Nat} (h : dfC G M a cl n q f) : chC G M a cl n f := by
  obtain ⟨h1, h2, h3, h4, h5, h6, h7, h8, h9⟩ := h
  exact ⟨h1, h2, h3, h4, h5, h6, fun i j hi hj => h8 i j (by omega) (by omega), h9⟩
theorem dfC_fr {G : Gg} {M M' : Mm} {a cl n q : Nat} {f : Nat → Nat → Nat} {ai al : List Nat} (h : dfC G M a cl n q f) (hf : fr M M' ai al) (ha : a ∉ ai) (hc : cl ∉ ai) : dfC G M' a cl n q f := by
  obtain ⟨h1, h2, h3, h4, h5, h6, h7, h8, h9⟩ := h
  exact ⟨h1, by rw [hf.2.2]; exact h2, h3, h4, by rw [hf.1 a ha]; exact h5, h6, by rw [hf.1 a ha]; exact h7, fun i j hi hj => by rw [hf.1 cl hc]; exact h8 i j hi hj, h9⟩
theorem begin_ok {G : Gg} {M : Mm} {a cl n q : Nat} (h1 : isK G a 0) (h2 : M.2.2 a 2 = some cl) (h3 : isK G cl 10) (h4 : G.2.2 cl = 64) (hn1 : 1 ≤ n) (hn : n ≤ 8) : OK (f_X0_begin G M a (nI n) (nI q)) (fun M' => dfC G M' a cl n q (fun _ _ => 0) ∧ fr M M' [a, cl] []) := by
  have hne : a ≠ cl := kne h1 h3 (by decide)
  have hz : (64 : Int32) = nI 64 := rfl
  have e := lpI (fun f i3 (x : Mm) => lp_X0_begin_27 G a f i3 x) (fun j x => fr M x [a, cl] [] ∧ x.1 a 0 = nI n ∧ x.1 a 1 = nI q ∧ ∀ k, k < j → x.1 cl k = nI 0) 64 (fun M' => dfC G M' a cl n q (fun _ _ => 0) ∧ fr M M' [a, cl] []) (by omega) (fun f j x hj hx => by
    obtain ⟨e1, e2, e3, e4⟩ := hx
    left
    have h0 : x.2.2 a 2 = some cl := by rw [e1.2.2]; exact h2
    refine ⟨mwI x cl j (nI 0), ⟨fr_tr e1 (fr_I (by simp)), ?_, ?_, fun k hk => ?_⟩, ?_⟩
    · rw [mwI_n (Or.inl hne)]; exact e2
    · rw [mwI_n (Or.inl hne)]; exact e3
    · by_cases hkj : k = j
      · subst hkj; rw [mwI_s]
      · rw [mwI_n (Or.inr hkj)]; exact e4 k (by omega)
    · rw [lp_X0_begin_27, bd_X0_begin_27]
      simp (disch := first | assumption | omega | (refine inb_n ?_ ?_ <;> omega) | fail) only [ck_t, Option.bind_some, iLeP, iLeN, iLtP, iLtN, iEqP, iEqN, nI_1, pk_mul, nI_add, cl_n, zI0, zI1, zI8, bI_z, if_true_eq, if_false_eq, if_true, if_false, hz, h0, h4]) (fun f x hx => by
    obtain ⟨e1, e2, e3, e4⟩ := hx
    refine ⟨x, ?_, ⟨h1, by rw [e1.2.2]; exact h2, h3, h4, e2, hn, e3, fun i j hi hj => e4 _ (by omega), fun _ _ => Nat.two_pow_pos 10⟩, e1⟩
    rw [lp_X0_begin_27, bd_X0_begin_27]
    simp (disch := first | assumption | omega | (refine inb_n ?_ ?_ <;> omega) | fail) only [ck_t, Option.bind_some, iLeP, iLeN, iLtP, iLtN, iEqP, iEqN, nI_1, pk_mul, nI_add, cl_n, zI0, zI1, zI8, bI_z, if_true_eq, if_false_eq, if_true, if_false, hz]) (j0 := 0) (x := mwI (mwI M a 0 (nI n)) a 1 (nI q)) (by omega) ⟨fr_tr (fr_I (by simp)) (fr_I (by simp)), by rw [mwI_n (by omega), mwI_s], mwI_s, fun k hk => absurd hk (by omega)⟩
  obtain ⟨M', e1, e2⟩ := e
  refine ⟨M', ?_, e2⟩
  unfold f_X0_begin
  simp (disch := first | assumption | omega | (refine inb_n ?_ ?_ <;> omega) | fail) only [ck_t, Option.bind_some, iLeP, iLeN, iLtP, iLtN, iEqP, iEqN, nI_1, pk_mul, nI_add, cl_n, zI0, zI1, zI8, bI_z, if_true_eq, if_false_eq, if_true, if_false]
  exact congrArg (Option.bind · _) e1
theorem raise_ok {G : Gg} {M : Mm} {a cl n q i j v : Nat} {f : Nat → Nat → Nat} (h : dfC G M a cl n q f) (hi : i < n) (hj : j < n) (hv : f i j + v < 2 ^ 10) : OK (f_X0_raise G M a (nI i) (nI j) (nI v)) (fun M' => dfC G M' a cl n q (up2 f i j (f i j + v)) ∧ fr M M' [cl] []) := by
  obtain ⟨h1, h2, h3, h4, h5, h6, h7, h8, h9⟩ := h
  have hne : a ≠ cl := kne h1 h3 (by decide)
  have e1 := isState_eq h1 h5 h6 (show i < 2 ^ 31 by omega)
  have e2 := isState_eq h1 h5 h6 (show j < 2 ^ 31 by omega)
  rw [decide_eq_true hi] at e1
  rw [decide_eq_true hj] at e2
  have e3 := h8 i j (by omega) (by omega)
  refine ⟨mwI M cl (i * 8 + j) (nI (f i j + v)), ?_, ⟨h1, h2, h3, h4, by rw [mwI_n (Or.inl hne)]; exact h5, h6, by rw [mwI_n (Or.inl hne)]; exact h7, fun x y hx hy => ?_, fun x y => ?_⟩, fr_I in_1⟩
  · unfold f_X0_raise
    simp (disch := first | assumption | omega | (refine inb_n ?_ ?_ <;> omega) | fail) only [ck_t, Option.bind_some, iLeP, iLeN, iLtP, iLtN, iEqP, iEqN, nI_1, pk_mul, nI_add, cl_n, zI0, zI1, zI8, bI_z, if_true_eq, if_false_eq, if_true, if_false, e1, e2, h2, h4, e3]
  · unfold up2
    by_cases hh : x = i ∧ y = j
    · obtain ⟨rfl, rfl⟩ := hh
      rw [mwI_s, if_pos ⟨rfl, rfl⟩]
    · rw [mwI_n (by omega), if_neg hh]
      exact h8 x y hx hy
  · unfold up2
    split
    · exact hv
    · exact h9 x y
/-- filled up to row i, place j -/
def fl2 (t : Nat → Nat → Nat) (i j : Nat) : Nat → Nat → Nat := fun x y => if x < i ∨ (x = i ∧ y < j) then t x y else 0
theorem fl2_s (t : Nat → Nat → Nat) (i j : Nat) : up2 (fl2 t i j) i j (t i j) = fl2 t i (j + 1) := by
  funext x y
  unfold up2 fl2
  by_cases h : x = i ∧ y = j
  · obtain ⟨rfl, rfl⟩ := h
    rw [if_pos ⟨rfl, rfl⟩, if_pos (by omega)]
  · rw [if_neg h]
    by_cases h2 : x < i ∨ (x = i ∧ y < j)
    · rw [if_pos h2, if_pos (by omega)]
    · rw [if_neg h2, if_neg (by omega)]
theorem fl2_r {t : Nat → Nat → Nat} {n : Nat} (ht : ∀ x y, n ≤ y → t x y = 0) (i : Nat) : fl2 t i n = fl2 t (i + 1) 0 := by
  funext x y
  unfold fl2
  by_cases h : x < i ∨ (x = i ∧ y < n)
  · rw [if_pos h, if_pos (by omega)]
  · rw [if_neg h]
    by_cases h2 : x < i + 1 ∨ (x = i + 1 ∧ y < 0)
    · rw [if_pos h2, ht x y (by omega)]
    · rw [if_neg h2]
theorem fl2_0 (t : Nat → Nat → Nat) : fl2 t 0 0 = fun _ _ => 0 := by
  funext x y
  unfold fl2
  rw [if_neg (by omega)]
theorem fl2_at (t : Nat → Nat → Nat) (i j : Nat) : fl2 t i j i j = 0 := if_neg (by omega)
theorem fl2_n {t : Nat → Nat → Nat} {n : Nat} (ht : ∀ x y, n ≤ x → t x y = 0) : fl2 t n 0 = t := by
  funext x y
  unfold fl2
  by_cases h : x < n ∨ (x = n ∧ y < 0)
  · rw [if_pos h]
  · rw [if_neg h, ht x y (by omega)]
theorem fr_2 {M M' : Mm} {a b : Nat} (h : fr M M' [b] []) : fr M M' [a, b] [] := fr_sub h (fun x hx => by simp at hx; simp [hx]) (fun x hx => hx)
/-- a chain object and its rows, whatever they hold; its shares are numbers that aren't negative -/
def chT (G : Gg) (M : Mm) (a cl nx ld sh : Nat) : Prop := isK G a 0 ∧ (M.2.2 a 2 = some cl ∧ isK G cl 10 ∧ G.2.2 cl = 64) ∧ (M.2.2 a 3 = some nx ∧ isK G nx 10 ∧ G.2.2 nx = 8) ∧ (M.2.2 a 4 = some ld ∧ isK G ld 10 ∧ G.2.2 ld = 8) ∧ (M.2.2 a 5 = some sh ∧ isK G sh 11 ∧ G.2.2 sh = 8) ∧ cl ≠ nx ∧ cl ≠ ld ∧ nx ≠ ld ∧ ∃ w : Nat → Nat, (∀ i, i < 8 → M.2.1 sh i = lN (w i)) ∧ ∀ i, w i < 2 ^ 49
theorem chT_fr {G : Gg} {M M' : Mm} {a cl nx ld sh : Nat} {ai al : List Nat} (h : chT G M a cl nx ld sh) (hf : fr M M' ai al) (hs : sh ∉ al) : chT G M' a cl nx ld sh := by
  obtain ⟨h1, h2, h3, h4, h5, h6, h7, h8, h9⟩ := h
  refine ⟨h1, by rw [hf.2.2]; exact h2, by rw [hf.2.2]; exact h3, by rw [hf.2.2]; exact h4, by rw [hf.2.2]; exact h5, h6, h7, h8, ?_⟩
  rw [hf.2.1 sh hs]
  exact h9
/-- the common divisor of Q and all cells -/
def gcS (q : Nat) (f : Nat → Nat) : Nat → Nat
  | 0 => q
  | k + 1 => Nat.gcd (gcS q f k) (f k)
theorem gcS_d (q : Nat) (f : Nat → Nat) : ∀ k, gcS q f k ∣ q
  | 0 => Nat.dvd_refl q
  | k + 1 => Nat.dvd_trans (Nat.gcd_dvd_left _ _) (gcS_d q f k)
theorem gcS_f (q : Nat) (f : Nat → Nat) : ∀ k j, j < k → gcS q f k ∣ f j
  | 0, j, h => absurd h (by omega)
  | k + 1, j, h => by
    by_cases e : j = k
    · subst e; exact Nat.gcd_dvd_right _ _
    · exact Nat.dvd_trans (Nat.gcd_dvd_left _ _) (gcS_f q f k j (by omega))
theorem gcS_u {q : Nat} {f : Nat → Nat} {d : Nat} (h : d ∣ q) : ∀ k, (∀ j, j < k → d ∣ f j) → d ∣ gcS q f k
  | 0, _ => h
  | k + 1, hf => Nat.dvd_gcd (gcS_u h k (fun j hj => hf j (by omega))) (hf k (by omega))
/-- Q and the chances brought to their least -/
def isG (n q : Nat) (f : Nat → Nat → Nat) (D : Nat) : Prop := D ∣ q ∧ (∀ i j, i < n → j < n → D ∣ f i j) ∧ ∀ d, d ∣ q → (∀ i j, i < n → j < n → d ∣ f i j) → d ∣ D
theorem isG_un {n q D E : Nat} {f : Nat → Nat → Nat} (h : isG n q f D) (h2 : isG n q f E) : D = E := Nat.dvd_antisymm (h2.2.2 D h.1 h.2.1) (h.2.2 E h2.1 h2.2.1)
theorem isG_64 {n q : Nat} {f : Nat → Nat → Nat} (hn : n ≤ 8) (hz : ∀ i j, n ≤ i ∨ n ≤ j → f i j = 0) : isG n q f (gcS q (fun k => f (k / 8) (k % 8)) 64) := by
  refine ⟨gcS_d _ _ _, fun i j hi hj => ?_, fun d hd hf => gcS_u hd 64 (fun k hk => ?_)⟩
  · have := gcS_f q (fun k => f (k / 8) (k % 8)) 64 (i * 8 + j) (by omega)
    rw [show (i * 8 + j) / 8 = i by omega, show (i * 8 + j) % 8 = j by omega] at this
    exact this
  · show d ∣ f (k / 8) (k % 8)
    by_cases h1 : k / 8 < n
    · by_cases h2 : k % 8 < n
      · exact hf _ _ h1 h2
      · rw [hz _ _ (by omega)]
        exact Nat.dvd_zero d
    · rw [hz _ _ (by omega)]
      exact Nat.dvd_zero d
theorem cd_i {a b : Nat} (ha : a < 2 ^ 31) (hb : b < 2 ^ 31) : f_X8_commonDivisor (Int32.toInt64 (nI a)) (Int32.toInt64 (nI b)) = some (lN (Nat.gcd a b)) := by
  rw [nI_l ha, nI_l hb]
  exact cd_eq (by omega) (by omega)
section
variable {G : Gg} {M : Mm} {a cl nx ld sh n q : Nat} {f : Nat → Nat → Nat}
theorem gcS_le {g : Nat → Nat} (hq : 0 < q) : ∀ k, gcS q g k ≤ q := fun k => Nat.le_of_dvd hq (gcS_d q g k)
theorem settle_1 (h : dfC G M a cl n q f) (hq : 0 < q) (hq2 : q < 2 ^ 20) : lp_X0_settle_7 G M a FU (nI q) (nI 0) = some (nI (gcS q (fun k => f (k / 8) (k % 8)) 64)) := by
  obtain ⟨h1, h2, h3, h4, h5, h6, h7, h8, h9⟩ := h
  have hz : (64 : Int32) = nI 64 := rfl
  exact lpF (fun f1 (x : Int32) i => lp_X0_settle_7 G M a f1 x i) (fun k => nI (gcS q (fun k => f (k / 8) (k % 8)) k)) 64 _ (by omega) (fun f1 j hj => by
    have e1 := h8 (j / 8) (j % 8) (by omega) (by omega)
    rw [show j / 8 * 8 + j % 8 = j by omega] at e1
    have e2 := gcS_le (g := fun k => f (k / 8) (k % 8)) hq j
    have e3 := h9 (j / 8) (j % 8)
    have e4 := cd_i (a := gcS q (fun k => f (k / 8) (k % 8)) j) (b := f (j / 8) (j % 8)) (by omega) (by omega)
    rw [lp_X0_settle_7, bd_X0_settle_7]
    simp (disch := first | assumption | omega | (refine inb_n ?_ ?_ <;> omega) | fail) only [ck_t, Option.bind_some, iLeP, iLeN, iLtP, iLtN, iEqP, iEqN, nI_1, pk_mul, nI_add, cl_n, zI0, zI1, zI8, bI_z, if_true_eq, if_false_eq, if_true, if_false, hz, h2, h4, e1, e4, lN_i]
    rfl) (fun f1 => by
    rw [lp_X0_settle_7, bd_X0_settle_7]
    simp (disch := first | assumption | omega | (refine inb_n ?_ ?_ <;> omega) | fail) only [ck_t, Option.bind_some, iLeP, iLeN, iLtP, iLtN, iEqP, iEqN, nI_1, pk_mul, nI_add, cl_n, zI0, zI1, zI8, bI_z, if_true_eq, if_false_eq, if_true, if_false, hz])
theorem settle_2 {D : Nat} (h : dfC G M a cl n q f) (hD : 0 < D) (hD2 : D < 2 ^ 20) : OK (lp_X0_settle_62 G a (nI D) FU (nI 0) M) (fun M' => dfC G M' a cl n q (fun i j => f i j / D) ∧ fr M M' [cl] []) := by
  obtain ⟨h1, h2, h3, h4, h5, h6, h7, h8, h9⟩ := id h
  have hz : (64 : Int32) = nI 64 := rfl
  have hne : a ≠ cl := kne h1 h3 (by decide)
  refine lpI (fun f i3 (x : Mm) => lp_X0_settle_62 G a (nI D) f i3 x) (fun j x => fr M x [cl] [] ∧ ∀ k, k < 64 → x.1 cl k = nI (if k < j then f (k / 8) (k % 8) / D else f (k / 8) (k % 8))) 64 _ (by omega) (fun f1 j x hj hx => ?_) (fun f1 x hx => ?_) (by omega) ⟨fr_rf, fun k hk => by
    have e1 := h8 (k / 8) (k % 8) (by omega) (by omega)
    rw [show k / 8 * 8 + k % 8 = k by omega] at e1
    rw [if_neg (by omega)]
    exact e1⟩
  · obtain ⟨e1, e2⟩ := hx
    left
    have h0 : x.2.2 a 2 = some cl := by rw [e1.2.2]; exact h2
    have e3 := e2 j hj
    rw [if_neg (by omega)] at e3
    have e4 := h9 (j / 8) (j % 8)
    refine ⟨mwI x cl j (nI (f (j / 8) (j % 8) / D)), ⟨fr_tr e1 (fr_I in_1), fun k hk => ?_⟩, ?_⟩
    · by_cases hkj : k = j
      · subst hkj; rw [mwI_s, if_pos (by omega)]
      · rw [mwI_n (Or.inr hkj), e2 k hk]
        by_cases hlt : k < j
        · rw [if_pos hlt, if_pos (by omega)]
        · rw [if_neg hlt, if_neg (by omega)]
    · rw [lp_X0_settle_62, bd_X0_settle_62]
      simp (disch := first | assumption | omega | (refine inb_n ?_ ?_ <;> omega) | fail) only [ck_t, Option.bind_some, iLeP, iLeN, iLtP, iLtN, iEqP, iEqN, nI_1, pk_mul, nI_add, cl_n, zI0, zI1, zI8, bI_z, if_true_eq, if_false_eq, if_true, if_false, hz, h0, h4, e3, cki, pk_div]
  · obtain ⟨e1, e2⟩ := hx
    have na : a ∉ [cl] := ne_in hne
    refine ⟨x, ?_, ⟨h1, by rw [e1.2.2]; exact h2, h3, h4, by rw [e1.1 a na]; exact h5, h6, by rw [e1.1 a na]; exact h7, fun i j hi hj => ?_, fun i j => ?_⟩, e1⟩
    · rw [lp_X0_settle_62, bd_X0_settle_62]
      simp (disch := first | assumption | omega | (refine inb_n ?_ ?_ <;> omega) | fail) only [ck_t, Option.bind_some, iLeP, iLeN, iLtP, iLtN, iEqP, iEqN, nI_1, pk_mul, nI_add, cl_n, zI0, zI1, zI8, bI_z, if_true_eq, if_false_eq, if_true, if_false, hz]
    · rw [e2 _ (by omega), if_pos (by omega), show (i * 8 + j) / 8 = i by omega, show (i * 8 + j) % 8 = j by omega]
    · exact Nat.lt_of_le_of_lt (Nat.div_le_self _ _) (h9 i j)
/-- who leads where: one state's next ones -/
theorem trace_1 (hT : chT G M a cl nx ld sh) (h : chC G M a cl n f) {i : Nat} (hi : i < n) (h0 : M.1 nx i = nI 0) : OK (lp_X0_traceLeads_19 G a (nI i) FU (nI 0) M) (fun M' => fr M M' [nx] [] ∧ M'.1 nx i = nI (cN f n i) ∧ ∀ k, k ≠ i → M'.1 nx k = M.1 nx k) := by
  obtain ⟨t1, t2, ⟨t3, t3k, t3l⟩, t4, t5, t6, t7, t8, t9⟩ := hT
  have hn := h.2.2.2.2.2.1
  have na : a ∉ [nx] := ne_in (kne h.1 t3k (by decide))
  have nc : cl ∉ [nx] := ne_in t6
  refine lpI (fun f1 i3 (x : Mm) => lp_X0_traceLeads_19 G a (nI i) f1 i3 x) (fun j x => fr M x [nx] [] ∧ x.1 nx i = nI (mkS (cB f i) j) ∧ ∀ k, k ≠ i → x.1 nx k = M.1 nx k) n _ (by omega) (fun f1 j x hj hx => ?_) (fun f1 x hx => ?_) (by omega) ⟨fr_rf, h0, fun _ _ => rfl⟩
  · obtain ⟨e1, e2, e3⟩ := hx
    left
    have hC' := chC_fr h e1 na nc
    have h1 := hC'.1
    have h5 := hC'.2.2.2.2.1
    have ea := at_eq hC' hi hj
    have hb := h.2.2.2.2.2.2.2 i j
    have hr : x.2.2 a 3 = some nx := by rw [e1.2.2]; exact t3
    have es := sh_1 (show j < 31 by omega)
    rw [zI1] at es
    refine ⟨mwI x nx i (nI (mkS (cB f i) (j + 1))), ⟨fr_tr e1 (fr_I in_1), mwI_s, fun k hk => by rw [mwI_n (Or.inr hk)]; exact e3 k hk⟩, ?_⟩
    rw [lp_X0_traceLeads_19, bd_X0_traceLeads_19]
    rw [mkS_s]
    by_cases hc : 0 < f i j
    · rw [show cB f i j = true from decide_eq_true hc]
      simp (disch := first | assumption | omega | (refine inb_n ?_ ?_ <;> omega) | fail) only [ck_t, Option.bind_some, iLeP, iLeN, iLtP, iLtN, iEqP, iEqN, nI_1, pk_mul, nI_add, cl_n, zI0, zI1, zI8, bI_z, if_true_eq, if_false_eq, if_true, if_false, h5, hr, t3l, ea, e2, es, nI_or]
    · rw [show cB f i j = false from decide_eq_false hc]
      simp (disch := first | assumption | omega | (refine inb_n ?_ ?_ <;> omega) | fail) only [ck_t, Option.bind_some, iLeP, iLeN, iLtP, iLtN, iEqP, iEqN, nI_1, pk_mul, nI_add, cl_n, zI0, zI1, zI8, bI_z, if_true_eq, if_false_eq, if_true, if_false, h5, hr, t3l, ea, e2, es, nI_or]
      rfl
  · obtain ⟨e1, e2, e3⟩ := hx
    have hC' := chC_fr h e1 na nc
    have h1 := hC'.1
    have h5 := hC'.2.2.2.2.1
    refine ⟨x, ?_, e1, e2, e3⟩
    rw [lp_X0_traceLeads_19, bd_X0_traceLeads_19]
    simp (disch := first | assumption | omega | (refine inb_n ?_ ?_ <;> omega) | fail) only [ck_t, Option.bind_some, iLeP, iLeN, iLtP, iLtN, iEqP, iEqN, nI_1, pk_mul, nI_add, cl_n, zI0, zI1, zI8, bI_z, if_true_eq, if_false_eq, if_true, if_false, h5]
theorem cR_0 (f : Nat → Nat → Nat) {n i : Nat} (hi : i < n) : cN f n i ||| 2 ^ i = mkS (fw (cR f) 0 i) n := by
  apply set_ext (n := n) (or_bits (show cN f n i < 2 ^ n from mkS_lt _ _) (p2l hi)) (mkS_lt _ _)
  intro j hj
  rw [Nat.testBit_or, cN_t hj, mkS_t, Nat.testBit_two_pow, decide_eq_true hj, Bool.true_and]
  rfl
theorem trace_2 (hT : chT G M a cl nx ld sh) (h : chC G M a cl n f) : OK (lp_X0_traceLeads_2 G a FU (nI 0) M) (fun M' => fr M M' [nx, ld] [] ∧ (∀ i, i < n → M'.1 nx i = nI (cN f n i)) ∧ ∀ i, i < n → M'.1 ld i = nI (mkS (fw (cR f) 0 i) n)) := by
  obtain ⟨t1, t2, ⟨t3, t3k, t3l⟩, ⟨t4, t4k, t4l⟩, t5, t6, t7, t8, t9⟩ := id hT
  have hn := h.2.2.2.2.2.1
  have na : a ∉ [nx, ld] := ne_in2 (kne h.1 t3k (by decide)) (kne h.1 t4k (by decide))
  have nc : cl ∉ [nx, ld] := ne_in2 t6 t7
  refine lpI (fun f1 i3 (x : Mm) => lp_X0_traceLeads_2 G a f1 i3 x) (fun j x => fr M x [nx, ld] [] ∧ (∀ i, i < j → x.1 nx i = nI (cN f n i)) ∧ ∀ i, i < j → x.1 ld i = nI (mkS (fw (cR f) 0 i) n)) n _ (by omega) (fun f1 j x hj hx => ?_) (fun f1 x hx => ?_) (by omega) ⟨fr_rf, fun i hi => absurd hi (by omega), fun i hi => absurd hi (by omega)⟩
  · obtain ⟨e1, e2, e3⟩ := hx
    left
    have h1 := t1
    have hr : x.2.2 a 3 = some nx := by rw [e1.2.2]; exact t3
    have h5 : x.1 a 0 = nI n := by rw [e1.1 a na]; exact h.2.2.2.2.1
    have w1 : fr M (mwI x nx j (nI 0)) [nx, ld] [] := fr_tr e1 (fr_I (by simp))
    obtain ⟨y, a1, a2, a3, a4⟩ := trace_1 (M := mwI x nx j (nI 0)) (chT_fr hT w1 (by simp)) (chC_fr h w1 na nc) hj mwI_s
    have w2 : fr M y [nx, ld] [] := fr_tr w1 (fr_sub a2 (fun z hz => by simp at hz; simp [hz]) (fun z hz => hz))
    have r3 : y.2.2 a 3 = some nx := by rw [w2.2.2]; exact t3
    have r4 : y.2.2 a 4 = some ld := by rw [w2.2.2]; exact t4
    have es := sh_1 (show j < 31 by omega)
    rw [zI1] at es
    have hy : y.1 ld = x.1 ld := by
      rw [a2.1 ld (ne_in (fun z => t8 z.symm))]
      exact va_up_ne _ _ (fun z => t8 z.symm)
    refine ⟨mwI y ld j (nI (mkS (fw (cR f) 0 j) n)), ⟨fr_tr w2 (fr_I (by simp)), fun i hi => ?_, fun i hi => ?_⟩, ?_⟩
    · rw [mwI_n (Or.inl t8)]
      by_cases hij : i = j
      · subst hij; exact a3
      · rw [a4 i hij, mwI_n (Or.inr hij)]; exact e2 i (by omega)
    · by_cases hij : i = j
      · subst hij; rw [mwI_s]
      · rw [mwI_n (Or.inr hij), hy]; exact e3 i (by omega)
    · rw [← cR_0 f hj]
      rw [lp_X0_traceLeads_2, bd_X0_traceLeads_2]
      simp (disch := first | assumption | omega | (refine inb_n ?_ ?_ <;> omega) | fail) only [ck_t, Option.bind_some, iLeP, iLeN, iLtP, iLtN, iEqP, iEqN, nI_1, pk_mul, nI_add, cl_n, zI0, zI1, zI8, bI_z, if_true_eq, if_false_eq, if_true, if_false, h5, hr, t3l, a1, r3, r4, t4l, a3, es, nI_or]
  · obtain ⟨e1, e2, e3⟩ := hx
    have h1 := t1
    have h5 : x.1 a 0 = nI n := by rw [e1.1 a na]; exact h.2.2.2.2.1
    refine ⟨x, ?_, e1, e2, e3⟩
    rw [lp_X0_traceLeads_2, bd_X0_traceLeads_2]
    simp (disch := first | assumption | omega | (refine inb_n ?_ ?_ <;> omega) | fail) only [ck_t, Option.bind_some, iLeP, iLeN, iLtP, iLtN, iEqP, iEqN, nI_1, pk_mul, nI_add, cl_n, zI0, zI1, zI8, bI_z, if_true_eq, if_false_eq, if_true, if_false, h5]
/-- a round of the closure -/
theorem trace_3 (hT : chT G M a cl nx ld sh) (h : chC G M a cl n f) {k : Nat} (hk : k < n) (hl : ∀ i, i < n → M.1 ld i = nI (mkS (fw (cR f) k i) n)) : OK (lp_X0_traceLeads_92 G a (nI k) FU (nI 0) M) (fun M' => fr M M' [ld] [] ∧ ∀ i, i < n → M'.1 ld i = nI (mkS (fw (cR f) (k + 1) i) n)) := by
  obtain ⟨t1, t2, t3, ⟨t4, t4k, t4l⟩, t5, t6, t7, t8, t9⟩ := id hT
  have hn := h.2.2.2.2.2.1
  have na : a ∉ [ld] := ne_in (kne h.1 t4k (by decide))
  refine lpI (fun f1 i3 (x : Mm) => lp_X0_traceLeads_92 G a (nI k) f1 i3 x) (fun j x => fr M x [ld] [] ∧ ∀ i, i < n → x.1 ld i = nI (mkS (fw (cR f) (if i < j then k + 1 else k) i) n)) n _ (by omega) (fun f1 j x hj hx => ?_) (fun f1 x hx => ?_) (by omega) ⟨fr_rf, fun i hi => by rw [if_neg (by omega)]; exact hl i hi⟩
  · obtain ⟨e1, e2⟩ := hx
    left
    have h1 := t1
    have hr : x.2.2 a 4 = some ld := by rw [e1.2.2]; exact t4
    have h5 : x.1 a 0 = nI n := by rw [e1.1 a na]; exact h.2.2.2.2.1
    have ej := e2 j hj
    rw [if_neg (by omega)] at ej
    have ek : x.1 ld k = nI (mkS (fw (cR f) k k) n) := by
      rw [e2 k hk]
      congr 1
      by_cases hkj : k < j
      · rw [if_pos hkj]
        exact mkS_congr (fun i _ => fw_kk _ _ _)
      · rw [if_neg hkj]
    have k1 := mkS_8 (fw (cR f) k j) hn
    have eh := has_b (show mkS (fw (cR f) k j) n < 2 ^ 31 by omega) (show k < 32 by omega)
    rw [mkS_t, decide_eq_true hk, Bool.true_and] at eh
    have hrow := fw_row (cR f) n k j
    refine ⟨mwI x ld j (nI (mkS (fw (cR f) (k + 1) j) n)), ⟨fr_tr e1 (fr_I in_1), fun i hi => ?_⟩, ?_⟩
    · by_cases hij : i = j
      · subst hij; rw [mwI_s, if_pos (by omega)]
      · rw [mwI_n (Or.inr hij), e2 i hi]
        by_cases hlt : i < j
        · rw [if_pos hlt, if_pos (by omega)]
        · rw [if_neg hlt, if_neg (by omega)]
    · rw [← hrow]
      rw [lp_X0_traceLeads_92, bd_X0_traceLeads_92]
      by_cases hc : fw (cR f) k j k = true
      · rw [hc] at eh
        simp (disch := first | assumption | omega | (refine inb_n ?_ ?_ <;> omega) | fail) only [ck_t, Option.bind_some, iLeP, iLeN, iLtP, iLtN, iEqP, iEqN, nI_1, pk_mul, nI_add, cl_n, zI0, zI1, zI8, bI_z, if_true_eq, if_false_eq, if_true, if_false, h5, hr, t4l, ej, ek, eh, hc, nI_or]
      · rw [Bool.not_eq_true] at hc
        rw [hc] at eh
        simp (disch := first | assumption | omega | (refine inb_n ?_ ?_ <;> omega) | fail) only [ck_t, Option.bind_some, iLeP, iLeN, iLtP, iLtN, iEqP, iEqN, nI_1, pk_mul, nI_add, cl_n, zI0, zI1, zI8, bI_z, if_true_eq, if_false_eq, if_true, if_false, h5, hr, t4l, ej, ek, eh, hc, nI_or]
        rfl
  · obtain ⟨e1, e2⟩ := hx
    have h1 := t1
    have h5 : x.1 a 0 = nI n := by rw [e1.1 a na]; exact h.2.2.2.2.1
    refine ⟨x, ?_, e1, fun i hi => by have := e2 i hi; rw [if_pos hi] at this; exact this⟩
    rw [lp_X0_traceLeads_92, bd_X0_traceLeads_92]
    simp (disch := first | assumption | omega | (refine inb_n ?_ ?_ <;> omega) | fail) only [ck_t, Option.bind_some, iLeP, iLeN, iLtP, iLtN, iEqP, iEqN, nI_1, pk_mul, nI_add, cl_n, zI0, zI1, zI8, bI_z, if_true_eq, if_false_eq, if_true, if_false, h5]
theorem trace_ok (hT : chT G M a cl nx ld sh) (h : chC G M a cl n f) : OK (f_X0_traceLeads G M a) (fun M' => fr M M' [nx, ld] [] ∧ (∀ i, i < n → M'.1 nx i = nI (cN f n i)) ∧ ∀ i, i < n → M'.1 ld i = nI (cL f n i)) := by
  obtain ⟨t1, t2, ⟨t3, t3k, t3l⟩, ⟨t4, t4k, t4l⟩, t5, t6, t7, t8, t9⟩ := id hT
  have hn := h.2.2.2.2.2.1
  have na : a ∉ [nx, ld] := ne_in2 (kne h.1 t3k (by decide)) (kne h.1 t4k (by decide))
  have nc : cl ∉ [nx, ld] := ne_in2 t6 t7
  obtain ⟨y, a1, a2, a3, a4⟩ := trace_2 hT h
  have e := lpI (fun f1 i3 (x : Mm) => lp_X0_traceLeads_82 G a f1 i3 x) (fun j x => fr M x [nx, ld] [] ∧ (∀ i, i < n → x.1 nx i = nI (cN f n i)) ∧ ∀ i, i < n → x.1 ld i = nI (mkS (fw (cR f) j i) n)) n (fun M' => fr M M' [nx, ld] [] ∧ (∀ i, i < n → M'.1 nx i = nI (cN f n i)) ∧ ∀ i, i < n → M'.1 ld i = nI (cL f n i)) (by omega) (fun f1 j x hj hx => by
    obtain ⟨e1, e2, e3⟩ := hx
    left
    have h1 := t1
    have h5 : x.1 a 0 = nI n := by rw [e1.1 a na]; exact h.2.2.2.2.1
    obtain ⟨z, b1, b2, b3⟩ := trace_3 (M := x) (chT_fr hT e1 (by simp)) (chC_fr h e1 na nc) hj e3
    refine ⟨z, ⟨fr_tr e1 (fr_sub b2 (fun z hz => by simp at hz; simp [hz]) (fun z hz => hz)), fun i hi => ?_, b3⟩, ?_⟩
    · rw [b2.1 nx (ne_in t8)]; exact e2 i hi
    · rw [lp_X0_traceLeads_82, bd_X0_traceLeads_82]
      simp (disch := first | assumption | omega | (refine inb_n ?_ ?_ <;> omega) | fail) only [ck_t, Option.bind_some, iLeP, iLeN, iLtP, iLtN, iEqP, iEqN, nI_1, pk_mul, nI_add, cl_n, zI0, zI1, zI8, bI_z, if_true_eq, if_false_eq, if_true, if_false, h5, b1]) (fun f1 x hx => by
    obtain ⟨e1, e2, e3⟩ := hx
    have h1 := t1
    have h5 : x.1 a 0 = nI n := by rw [e1.1 a na]; exact h.2.2.2.2.1
    refine ⟨x, ?_, e1, e2, e3⟩
    rw [lp_X0_traceLeads_82, bd_X0_traceLeads_82]
    simp (disch := first | assumption | omega | (refine inb_n ?_ ?_ <;> omega) | fail) only [ck_t, Option.bind_some, iLeP, iLeN, iLtP, iLtN, iEqP, iEqN, nI_1, pk_mul, nI_add, cl_n, zI0, zI1, zI8, bI_z, if_true_eq, if_false_eq, if_true, if_false, h5]) (j0 := 0) (x := y) (by omega) ⟨a2, a3, a4⟩
  obtain ⟨z, b1, b2⟩ := e
  refine ⟨z, ?_, b2⟩
  unfold f_X0_traceLeads
  rw [zI0, a1, Option.bind_some, b1, Option.bind_some]
end
