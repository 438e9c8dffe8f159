/-! chance, apart, when, stay of the class -/
theorem tld_g {a b g : Nat} (hg : 0 < g) (ha : g ∣ a) (hb : g ∣ b) (i : Int32) : tld (a / g) (b / g) i = tld a b i := by
  obtain ⟨x, rfl⟩ := ha
  obtain ⟨y, rfl⟩ := hb
  unfold tld
  rw [Nat.mul_div_cancel_left _ hg, Nat.mul_div_cancel_left _ hg, Nat.gcd_mul_left, Nat.mul_div_mul_left _ _ hg, Nat.mul_div_mul_left _ _ hg]
/-- from when on it is near enough -/
def nea (n q : Nat) (c : Nat → Nat → Nat) (p r : Nat) : Nat → Bool := fun t => decide (wo_ (gp c n t) n * r ≤ 2 * q ^ t * p)
def whn (n q : Nat) (c : Nat → Nat → Nat) (p r : Nat) : Int32 := if fst1 (nea n q c p r) (lT q + 1) < lT q + 1 then nI (fst1 (nea n q c p r) (lT q + 1)) else -1
theorem fst1_is {p : Nat → Bool} {n t : Nat} (ht : t < n) (h1 : p t = true) (h2 : ∀ k, k < t → p k = false) : fst1 p n = t := by
  have h3 := fst1_ex ht h1
  rcases Nat.lt_or_ge (fst1 p n) t with h | h
  · have := fst1_at h3.2
    rw [h2 _ h] at this
    cases this
  · omega
theorem fst1_no {p : Nat → Bool} {n : Nat} (h2 : ∀ k, k < n → p k = false) : ¬ fst1 p n < n := fun h => by
  have := fst1_at h
  rw [h2 _ h] at this
  cases this
section
variable {G : Gg} {M : Mm} {A p : Nat → Nat} {tl : Nat} {tv : Nat → Nat} {ol : Nat} {ov ns qs : Nat → Nat} {cs : Nat → Nat → Nat → Nat}
theorem need_p (h : kCI G M A p tl tv ol ov ns qs cs) {s : Nat} {i : Int32} (hs : s < 6) (hn : 0 < ns s) (hi : wht i) : f_X8_neededChain G M (A 0) (nI s) i = some (some (A (18 + 5 * p s))) := by
  have k0 : isK G (A 0) 8 := h.1.2.1 0 (by decide)
  have e1 := chainIn_p h hs hn
  unfold f_X8_neededChain
  rw [ck_t k0, e1, Option.bind_some]
  rcases hi with rfl | rfl
  · rfl
  · rfl
theorem need_n (h : kCI G M A p tl tv ol ov ns qs cs) {i1 i : Int32} (hx : ¬ (slo ns i1 ∧ wht i)) : f_X8_neededChain G M (A 0) i1 i = some none := by
  have k0 : isK G (A 0) 8 := h.1.2.1 0 (by decide)
  unfold f_X8_neededChain
  by_cases h1 : slo ns i1
  · obtain ⟨s, hs, rfl, hn⟩ := h1
    have e1 := chainIn_p h hs hn
    have hw : ¬ wht i := fun z => hx ⟨⟨s, hs, rfl, hn⟩, z⟩
    rcases int_c i with hneg | ⟨j, hj, rfl⟩
    · rw [ck_t k0, e1, Option.bind_some]
      exact if_pos hneg
    · have : 1 < j := by
        rcases Nat.lt_or_ge 1 j with h2 | h2
        · exact h2
        · have : j = 0 ∨ j = 1 := by omega
          rcases this with rfl | rfl
          · exact absurd (Or.inl rfl) hw
          · exact absurd (Or.inr rfl) hw
      rw [ck_t k0, e1, Option.bind_some]
      show (if nI j < 0 then some none else if nI j ≤ nI 1 then some (some (A (18 + 5 * p s))) else some none) = some none
      rw [if_neg (nI_pos hj), if_neg (nI_ge this hj)]
  · have e1 := chainIn_n h h1
    simp (disch := first | assumption | omega | (refine inb_n ?_ ?_ <;> omega) | fail) only [ck_t, Option.bind_some, iLeP, iLeN, iLtP, iLtN, iEqP, iEqN, nI_1, pk_mul, nI_add, cl_n, zI0, zI1, zI8, bI_z, if_true_eq, if_false_eq, if_true, if_false, e1, onE]
theorem isTime_n {a q : Nat} {i : Int32} (h1 : isK G a 0) (h2 : M.1 a 1 = nI q) (hq : 1 ≤ q) (hq2 : q ≤ 60) (hi : ¬ ∃ t, t ≤ lT q ∧ i = nI t) : f_X0_isTime G M a i = some (nI 0) := by
  rcases int_c i with hneg | ⟨j, hj, rfl⟩
  · unfold f_X0_isTime
    exact if_pos hneg
  · rw [isTime_eq h1 h2 hq hq2 (lT_ok hq hq2) hj, decide_eq_false (fun z => hi ⟨j, z, rfl⟩)]
    rfl
theorem isTime_p {a q t : Nat} (h1 : isK G a 0) (h2 : M.1 a 1 = nI q) (hq : 1 ≤ q) (hq2 : q ≤ 60) (ht : t ≤ lT q) : f_X0_isTime G M a (nI t) = some (nI 1) := by
  have := (lT_ok hq hq2).1
  rw [isTime_eq h1 h2 hq hq2 (lT_ok hq hq2) (by omega), decide_eq_true ht]
  rfl
theorem put_t (h : kCI G M A p tl tv ol ov ns qs cs) {u l : Nat} (hu : u < 2 ^ 63) (hl : l < 2 ^ 63) (h0 : 0 < l) : OK (f_X1_put G M (A 17) (lN u) (lN l)) (fun M2 => kCI G M2 A p tl tv ol ov ns qs cs ∧ unt M M2 A 53 ∧ ∀ i, f_X1_told G M2 (A 17) i = some (tld u l i)) := by
  have k17 : isK G (A 17) 1 := h.1.2.1 17 (by decide)
  refine ⟨_, put_eq k17 hu hl h0, ?_, unt_tr (unt_J (by decide)) (unt_J (by decide)), fun i => ?_⟩
  · exact kCI_fr (ai := []) (al := [A 17]) h (fr_tr (fr_J in_1) (fr_J in_1)) (fun x hx => by simp at hx) (fun x hx => ⟨17, by simp, by simpa using hx⟩)
  · unfold f_X1_told tld
    by_cases hi : i = nI 0
    · rw [if_pos hi, if_pos (show i = 0 from hi), ck_t k17, mwJ_n (by omega), mwJ_s]
    · rw [if_neg hi, if_neg (show ¬ i = 0 from hi), ck_t k17, mwJ_s]
theorem kCI_wk (h : kCI G M A p tl tv ol ov ns qs cs) : wkT G M (A 8) (A 9) (A 10) := by
  obtain ⟨hs, hr, _⟩ := h
  exact ⟨hs.2.1 8 (by decide), hr.2.2.2.1.1, hr.2.2.2.1.2, hs.2.1 9 (by decide), hs.2.1 10 (by decide), hs.2.2 9 (by decide) (by decide), hs.2.2 10 (by decide) (by decide), sA_ne hs (by decide) (by decide) (by decide)⟩
theorem wk_fr {M' : Mm} (h : kCI G M A p tl tv ol ov ns qs cs) (hf : fr M M' [] [A 8, A 9, A 10]) : kCI G M' A p tl tv ol ov ns qs cs ∧ unt M M' A 53 := ⟨kCI_fr h hf (fun x hx => by simp at hx) (fun x hx => by
    simp at hx
    rcases hx with rfl | rfl | rfl
    · exact ⟨8, by simp, rfl⟩
    · exact ⟨9, by simp, rfl⟩
    · exact ⟨10, by simp, rfl⟩), unt_fr hf (fun x hx => by simp at hx) (fun x hx => by
    simp at hx
    rcases hx with rfl | rfl | rfl
    · exact ⟨8, by decide, rfl⟩
    · exact ⟨9, by decide, rfl⟩
    · exact ⟨10, by decide, rfl⟩)⟩
def chOK (ns qs : Nat → Nat) (i1 i2 i3 i4 i5 : Int32) (s i j t : Nat) : Prop := s < 6 ∧ i1 = nI s ∧ 0 < ns s ∧ i < ns s ∧ i2 = nI i ∧ j < ns s ∧ i3 = nI j ∧ t ≤ lT (qs s) ∧ i4 = nI t ∧ wht i5
theorem kchance_p (h : kCI G M A p tl tv ol ov ns qs cs) {i1 i2 i3 i4 i5 : Int32} {s i j t : Nat} (ho : chOK ns qs i1 i2 i3 i4 i5 s i j t) : OK (f_X8_chance G M (A 0) i1 i2 i3 i4 i5) (fun r => r.1 = some (tld (pw_ (cs s) (ns s) t i j) (qs s ^ t) i5) ∧ kCI G r.2 A p tl tv ol ov ns qs cs ∧ unt M r.2 A 53) := by
  obtain ⟨hs, rfl, hn, hi, rfl, hj, rfl, ht, rfl, hw⟩ := ho
  obtain ⟨hg, hz, _⟩ := kCI_z h hs hn
  have k0 : isK G (A 0) 8 := h.1.2.1 0 (by decide)
  have k8 : isK G (A 8) 7 := h.1.2.1 8 (by decide)
  have k9 : isK G (A 9) 11 := h.1.2.1 9 (by decide)
  have l9 : G.2.2 (A 9) = 64 := h.1.2.2 9 (by decide) (by decide)
  have k17 : isK G (A 17) 1 := h.1.2.1 17 (by decide)
  have kc := hz.1.1
  have hz0 := hz.1.2.2.2.2.1
  have hn8 := hg.2.1
  have e1 := need_p h hs hn hw
  have e2 := isState_p kc hz0 hn8 hi
  have e3 := isState_p kc hz0 hn8 hj
  have e4 := isTime_p (M := M) kc hz.2.1 hg.2.2.1 hg.2.2.2.1 ht
  have hb : 2 ^ i < 2 ^ ns s := p2l hi
  obtain ⟨M1, a1, a2, a3⟩ := go_ok (B := 2 ^ i) (kCI_wk h) hz.1 hg hz.2.1 hb ht
  obtain ⟨hI1, u1⟩ := wk_fr h a2
  have hp := lT_le hg.2.2.1 hg.2.2.2.1 ht
  have hpp : 0 < qs s ^ t := Nat.pow_pos hg.2.2.1
  have hle := pw_le hg hi hj t
  obtain ⟨M2, b1, b2, b3, b4⟩ := put_t hI1 (show pw_ (cs s) (ns s) t i j < 2 ^ 63 by omega) (show qs s ^ t < 2 ^ 63 by omega) hpp
  have b4' := b4 i5
  have ea := a3.1 i j hi (by rw [Nat.testBit_two_pow]; simp) hj
  have ep := a3.2
  have r6 := h.2.1.1.2.2.2.2.2.1
  have r6' := hI1.2.1.1.2.2.2.2.2.1
  have r9' := hI1.2.1.1.2.2.2.2.2.2.2.2
  have r9'' := b2.2.1.1.2.2.2.2.2.2.2.2
  have r80 := hI1.2.1.2.2.2.1.1
  have es := sh_1 (show i < 31 by omega)
  rw [zI1] at es
  refine ⟨(some (tld (pw_ (cs s) (ns s) t i j) (qs s ^ t) i5), M2), ?_, rfl, b2, unt_tr u1 b3⟩
  unfold f_X8_chance f_X7_at
  simp (disch := first | assumption | omega | (refine inb_n ?_ ?_ <;> omega) | fail) only [ck_t, Option.bind_some, iLeP, iLeN, iLtP, iLtN, iEqP, iEqN, nI_1, pk_mul, nI_add, cl_n, zI0, zI1, zI8, bI_z, if_true_eq, if_false_eq, if_true, if_false, e1, onE, e2, e3, e4, r6, es, a1, r9', r6', r80, l9, ea, ep, b1, r9'', b4']
theorem kchance_n (h : kCI G M A p tl tv ol ov ns qs cs) {i1 i2 i3 i4 i5 : Int32} (ho : ¬ ∃ s i j t, chOK ns qs i1 i2 i3 i4 i5 s i j t) : f_X8_chance G M (A 0) i1 i2 i3 i4 i5 = some (none, M) := by
  have k0 : isK G (A 0) 8 := h.1.2.1 0 (by decide)
  unfold f_X8_chance
  by_cases h1 : slo ns i1 ∧ wht i5
  · obtain ⟨⟨s, hs, rfl, hn⟩, hw⟩ := h1
    obtain ⟨hg, hz, _⟩ := kCI_z h hs hn
    have kc := hz.1.1
    have hz0 := hz.1.2.2.2.2.1
    have hn8 := hg.2.1
    have e1 := need_p h hs hn hw
    by_cases h2 : stt (ns s) i2
    · obtain ⟨i, hi, rfl⟩ := h2
      have e2 := isState_p kc hz0 hn8 hi
      by_cases h3 : stt (ns s) i3
      · obtain ⟨j, hj, rfl⟩ := h3
        have e3 := isState_p kc hz0 hn8 hj
        have e4 := isTime_n (M := M) (i := i4) kc hz.2.1 hg.2.2.1 hg.2.2.2.1 (fun ⟨t, ht, hti⟩ => ho ⟨s, i, j, t, hs, rfl, hn, hi, rfl, hj, rfl, ht, hti, hw⟩)
        simp (disch := first | assumption | omega | (refine inb_n ?_ ?_ <;> omega) | fail) only [ck_t, Option.bind_some, iLeP, iLeN, iLtP, iLtN, iEqP, iEqN, nI_1, pk_mul, nI_add, cl_n, zI0, zI1, zI8, bI_z, if_true_eq, if_false_eq, if_true, if_false, e1, onE, e2, e3, e4]
      · have e3 := isState_n kc hz0 hn8 h3
        simp (disch := first | assumption | omega | (refine inb_n ?_ ?_ <;> omega) | fail) only [ck_t, Option.bind_some, iLeP, iLeN, iLtP, iLtN, iEqP, iEqN, nI_1, pk_mul, nI_add, cl_n, zI0, zI1, zI8, bI_z, if_true_eq, if_false_eq, if_true, if_false, e1, onE, e2, e3]
    · have e2 := isState_n kc hz0 hn8 h2
      simp (disch := first | assumption | omega | (refine inb_n ?_ ?_ <;> omega) | fail) only [ck_t, Option.bind_some, iLeP, iLeN, iLtP, iLtN, iEqP, iEqN, nI_1, pk_mul, nI_add, cl_n, zI0, zI1, zI8, bI_z, if_true_eq, if_false_eq, if_true, if_false, e1, onE, e2]
  · have e1 := need_n h h1
    simp (disch := first | assumption | omega | (refine inb_n ?_ ?_ <;> omega) | fail) only [ck_t, Option.bind_some, iLeP, iLeN, iLtP, iLtN, iEqP, iEqN, nI_1, pk_mul, nI_add, cl_n, zI0, zI1, zI8, bI_z, if_true_eq, if_false_eq, if_true, if_false, e1, onE]
/-- what apart compares: two states, or all -/
def apG (n : Nat) (c : Nat → Nat → Nat) (t : Nat) (i2 i3 : Int32) (g : Nat) : Prop := (i2 = -nI 1 ∧ i3 = -nI 1 ∧ g = wo_ (gp c n t) n) ∨ ∃ i j, i < n ∧ j < n ∧ i2 = nI i ∧ i3 = nI j ∧ g = gp c n t i j
def apOK (ns qs : Nat → Nat) (cs : Nat → Nat → Nat → Nat) (i1 i2 i3 i4 i5 : Int32) (s t g : Nat) : Prop := s < 6 ∧ i1 = nI s ∧ 0 < ns s ∧ t ≤ lT (qs s) ∧ i4 = nI t ∧ wht i5 ∧ apG (ns s) (cs s) t i2 i3 g
theorem apG_le {n q : Nat} {c : Nat → Nat → Nat} (hg : gch n q c) {t g : Nat} {i2 i3 : Int32} (h : apG n c t i2 i3 g) : g ≤ 2 * q ^ t := by
  rcases h with ⟨_, _, rfl⟩ | ⟨i, j, hi, hj, _, _, rfl⟩
  · exact wo_le n (fun x y hx hy => gp_le hg hx (by omega) t)
  · exact gp_le hg hi hj t
set_option maxHeartbeats 1000000 in
theorem kapart_p (h : kCI G M A p tl tv ol ov ns qs cs) {i1 i2 i3 i4 i5 : Int32} {s t g : Nat} (ho : apOK ns qs cs i1 i2 i3 i4 i5 s t g) : OK (f_X8_apart G M (A 0) i1 i2 i3 i4 i5) (fun r => r.1 = some (tld g (2 * qs s ^ t) i5) ∧ kCI G r.2 A p tl tv ol ov ns qs cs ∧ unt M r.2 A 53) := by
  obtain ⟨hs, rfl, hn, ht, rfl, hw, hap⟩ := ho
  obtain ⟨hg, hz, _⟩ := kCI_z h hs hn
  have k0 : isK G (A 0) 8 := h.1.2.1 0 (by decide)
  have k8 : isK G (A 8) 7 := h.1.2.1 8 (by decide)
  have k17 : isK G (A 17) 1 := h.1.2.1 17 (by decide)
  have kc := hz.1.1
  have hz0 := hz.1.2.2.2.2.1
  have hn8 := hg.2.1
  have b8 := p2_31 hn8
  have e1 := need_p h hs hn hw
  have e4 := isTime_p (M := M) kc hz.2.1 hg.2.2.1 hg.2.2.2.1 ht
  have hp := lT_le hg.2.2.1 hg.2.2.2.1 ht
  have hpp : 0 < qs s ^ t := Nat.pow_pos hg.2.2.1
  have hle := apG_le hg hap
  have r6 := h.2.1.1.2.2.2.2.2.1
  have z2l : (2 : Int64) = lN 2 := rfl
  rcases hap with ⟨rfl, rfl, rfl⟩ | ⟨i, j, hi, hj, rfl, rfl, rfl⟩
  · have hp0 : 0 < 2 ^ ns s := Nat.pow_pos (by decide)
    obtain ⟨M1, a1, a2, a3⟩ := go_ok (B := 2 ^ ns s - 1) (kCI_wk h) hz.1 hg hz.2.1 (by omega) ht
    obtain ⟨hI1, u1⟩ := wk_fr h a2
    have ew := widest_eq (kCI_wk hI1) (chC_fr hz.1 a2 (by simp) (by simp)) hg (by omega) a3 (fun i hi => by rw [low_t]; simp; omega)
    have ep := a3.2
    obtain ⟨M2, b1, b2, b3, b4⟩ := put_t hI1 (show wo_ (gp (cs s) (ns s) t) (ns s) < 2 ^ 63 by omega) (show 2 * qs s ^ t < 2 ^ 63 by omega) (by omega)
    have b4' := b4 i5
    have r6' := hI1.2.1.1.2.2.2.2.2.1
    have r9' := hI1.2.1.1.2.2.2.2.2.2.2.2
    have r9'' := b2.2.1.1.2.2.2.2.2.2.2.2
    have es := allStates_eq (M := M) kc hz0 hn8
    have ei : f_X0_isState G M (A (18 + 5 * p s)) (-nI 1) = some (nI 0) := if_pos (by decide)
    refine ⟨(some (tld (wo_ (gp (cs s) (ns s) t) (ns s)) (2 * qs s ^ t) i5), M2), ?_, rfl, b2, unt_tr u1 b3⟩
    unfold f_X8_apart
    simp (disch := first | assumption | omega | (refine inb_n ?_ ?_ <;> omega) | fail) only [ck_t, Option.bind_some, iLeP, iLeN, iLtP, iLtN, iEqP, iEqN, nI_1, pk_mul, nI_add, cl_n, zI0, zI1, zI8, bI_z, if_true_eq, if_false_eq, if_true, if_false, e1, onE, jn_X8_apart_24, jn_X8_apart_48, ei, jn_X8_apart_49, e4, jn_X8_apart_79, r6, es, jn_X8_apart_105, a1, r9', r6', ew, jn_X8_apart_142, ep, z2l, lN_mul, b1, r9'', b4']
  · have e2 := isState_p kc hz0 hn8 hi
    have e3 := isState_p kc hz0 hn8 hj
    have hb : 2 ^ i ||| 2 ^ j < 2 ^ ns s := or_bits (p2l hi) (p2l hj)
    obtain ⟨M1, a1, a2, a3⟩ := go_ok (B := 2 ^ i ||| 2 ^ j) (kCI_wk h) hz.1 hg hz.2.1 hb ht
    obtain ⟨hI1, u1⟩ := wk_fr h a2
    have ew := gap_eq (kCI_wk hI1) (chC_fr hz.1 a2 (by simp) (by simp)) hg (by omega) a3 hi hj (by rw [Nat.testBit_or, Nat.testBit_two_pow]; simp) (by rw [Nat.testBit_or, Nat.testBit_two_pow, Nat.testBit_two_pow]; simp)
    have ep := a3.2
    obtain ⟨M2, b1, b2, b3, b4⟩ := put_t hI1 (show gp (cs s) (ns s) t i j < 2 ^ 63 by omega) (show 2 * qs s ^ t < 2 ^ 63 by omega) (by omega)
    have b4' := b4 i5
    have r6' := hI1.2.1.1.2.2.2.2.2.1
    have r9' := hI1.2.1.1.2.2.2.2.2.2.2.2
    have r9'' := b2.2.1.1.2.2.2.2.2.2.2.2
    have es1 := sh_1 (show i < 31 by omega)
    rw [zI1] at es1
    have es2 := sh_1 (show j < 31 by omega)
    rw [zI1] at es2
    refine ⟨(some (tld (gp (cs s) (ns s) t i j) (2 * qs s ^ t) i5), M2), ?_, rfl, b2, unt_tr u1 b3⟩
    unfold f_X8_apart
    simp (disch := first | assumption | omega | (refine inb_n ?_ ?_ <;> omega) | fail) only [ck_t, Option.bind_some, iLeP, iLeN, iLtP, iLtN, iEqP, iEqN, nI_1, pk_mul, nI_add, cl_n, zI0, zI1, zI8, bI_z, if_true_eq, if_false_eq, if_true, if_false, e1, onE, m1N, jn_X8_apart_23, jn_X8_apart_24, jn_X8_apart_48, e2, e3, jn_X8_apart_49, e4, jn_X8_apart_79, r6, es1, es2, nI_or, jn_X8_apart_105, a1, r9', r6', ew, jn_X8_apart_142, ep, z2l, lN_mul, b1, r9'', b4']
theorem kapart_n (h : kCI G M A p tl tv ol ov ns qs cs) {i1 i2 i3 i4 i5 : Int32} (ho : ¬ ∃ s t g, apOK ns qs cs i1 i2 i3 i4 i5 s t g) : f_X8_apart G M (A 0) i1 i2 i3 i4 i5 = some (none, M) := by
  have k0 : isK G (A 0) 8 := h.1.2.1 0 (by decide)
  unfold f_X8_apart
  by_cases h1 : slo ns i1 ∧ wht i5
  · obtain ⟨⟨s, hs, rfl, hn⟩, hw⟩ := h1
    obtain ⟨hg, hz, _⟩ := kCI_z h hs hn
    have kc := hz.1.1
    have hz0 := hz.1.2.2.2.2.1
    have hn8 := hg.2.1
    have e1 := need_p h hs hn hw
    rw [ck_t k0, e1, Option.bind_some]
    simp only [onE]
    by_cases h4 : ∃ t, t ≤ lT (qs s) ∧ i4 = nI t
    · obtain ⟨t, ht, rfl⟩ := h4
      have e4 := isTime_p (M := M) kc hz.2.1 hg.2.2.1 hg.2.2.2.1 ht
      have hno : ∀ g, ¬ apG (ns s) (cs s) t i2 i3 g := fun g z => ho ⟨s, t, g, hs, rfl, hn, ht, rfl, hw, z⟩
      have key : jn_X8_apart_23 G M (A 0) i2 i3 (nI t) i5 (A (18 + 5 * p s)) = some (none, M) := by
        unfold jn_X8_apart_23 jn_X8_apart_24
        by_cases h2 : stt (ns s) i2
        · obtain ⟨i, hi, rfl⟩ := h2
          have e2 := isState_p kc hz0 hn8 hi
          by_cases h3 : stt (ns s) i3
          · obtain ⟨j, hj, rfl⟩ := h3
            exact absurd (Or.inr ⟨i, j, hi, hj, rfl, rfl, rfl⟩) (hno _)
          · have e3 := isState_n kc hz0 hn8 h3
            simp (disch := first | assumption | omega | (refine inb_n ?_ ?_ <;> omega) | fail) only [ck_t, Option.bind_some, iLeP, iLeN, iLtP, iLtN, iEqP, iEqN, nI_1, pk_mul, nI_add, cl_n, zI0, zI1, zI8, bI_z, if_true_eq, if_false_eq, if_true, if_false, e2, e3, jn_X8_apart_48, jn_X8_apart_49, e4]
        · have e2 := isState_n kc hz0 hn8 h2
          simp (disch := first | assumption | omega | (refine inb_n ?_ ?_ <;> omega) | fail) only [ck_t, Option.bind_some, iLeP, iLeN, iLtP, iLtN, iEqP, iEqN, nI_1, pk_mul, nI_add, cl_n, zI0, zI1, zI8, bI_z, if_true_eq, if_false_eq, if_true, if_false, e2, jn_X8_apart_48, jn_X8_apart_49, e4]
      by_cases c2 : i2 = -1
      · by_cases c3 : i3 = -1
        · exact absurd (Or.inl ⟨c2, c3, rfl⟩) (hno _)
        · rw [if_pos c2, if_neg c3]
          exact key
      · rw [if_neg c2]
        exact key
    · have e4 := isTime_n (M := M) (i := i4) kc hz.2.1 hg.2.2.1 hg.2.2.2.1 h4
      have key : ∀ k, jn_X8_apart_24 G M (A 0) i2 i3 i4 i5 (A (18 + 5 * p s)) k = some (none, M) := fun k => by
        unfold jn_X8_apart_24 jn_X8_apart_48 jn_X8_apart_49
        by_cases h2 : stt (ns s) i2
        · obtain ⟨i, hi, rfl⟩ := h2
          have e2 := isState_p kc hz0 hn8 hi
          by_cases h3 : stt (ns s) i3
          · obtain ⟨j, hj, rfl⟩ := h3
            have e3 := isState_p kc hz0 hn8 hj
            simp (disch := first | assumption | omega | (refine inb_n ?_ ?_ <;> omega) | fail) only [ck_t, Option.bind_some, iLeP, iLeN, iLtP, iLtN, iEqP, iEqN, nI_1, pk_mul, nI_add, cl_n, zI0, zI1, zI8, bI_z, if_true_eq, if_false_eq, if_true, if_false, e2, e3, e4]
          · have e3 := isState_n kc hz0 hn8 h3
            simp (disch := first | assumption | omega | (refine inb_n ?_ ?_ <;> omega) | fail) only [ck_t, Option.bind_some, iLeP, iLeN, iLtP, iLtN, iEqP, iEqN, nI_1, pk_mul, nI_add, cl_n, zI0, zI1, zI8, bI_z, if_true_eq, if_false_eq, if_true, if_false, e2, e3, e4]
        · have e2 := isState_n kc hz0 hn8 h2
          simp (disch := first | assumption | omega | (refine inb_n ?_ ?_ <;> omega) | fail) only [ck_t, Option.bind_some, iLeP, iLeN, iLtP, iLtN, iEqP, iEqN, nI_1, pk_mul, nI_add, cl_n, zI0, zI1, zI8, bI_z, if_true_eq, if_false_eq, if_true, if_false, e2, e4]
      unfold jn_X8_apart_23
      split
      · split
        · exact key _
        · exact key _
      · exact key _
  · have e1 := need_n h h1
    rw [ck_t k0, e1, Option.bind_some]
    rfl
end
