/-! the equations of steps and ahead, of a set of states -/
def eqA (n q : Nat) (c : Nat → Nat → Nat) (I i : Nat) (b : Nat → Nat) : Nat → Nat → Int := sco (mtx q c n I) (cnt I i) (fun r => ((b (el I r n) : Nat) : Int))
def den (n q : Nat) (c : Nat → Nat → Nat) (I : Nat) : Nat := (det (cnt I n) (mtx q c n I)).toNat
def num (n q : Nat) (c : Nat → Nat → Nat) (I i : Nat) (b : Nat → Nat) : Nat := (det (cnt I n) (eqA n q c I i b)).toNat
section
variable {n q : Nat} {c : Nat → Nat → Nat} {I : Nat} {b : Nat → Nat}
theorem den_ok (hg : gch n q c) (hl : lvT c n I) : ((den n q c I : Nat) : Int) = det (cnt I n) (mtx q c n I) ∧ 0 < den n q c I := by
  have := mtx_pos hg hl
  unfold den
  omega
theorem num_ok (hg : gch n q c) (hl : lvT c n I) {i : Nat} (hi : i < n) (hb : I.testBit i = true) : ((num n q c I i b : Nat) : Int) = det (cnt I n) (eqA n q c I i b) := by
  have := mtx_num hg hl (b := fun r => ((b (el I r n) : Nat) : Int)) (i := cnt I i) (fun r _ => by show (0 : Int) ≤ ((_ : Nat) : Int); omega) (cnt_lt I hi hb)
  unfold num
  unfold eqA at *
  omega
theorem cnt_miss {z : Nat} (hn : n ≤ 8) (hI : I < 2 ^ n) (hz : z < n) (hb : I.testBit z = false) : cnt I n ≤ 7 := by
  have h1 := cnt_sub hn hI hz
  have h2 : sdf I (2 ^ z) = I := by
    apply set_ext (n := n) (Nat.lt_of_le_of_lt (sdf_le _ _) hI) hI
    intro j hj
    rw [sdf1_t (by omega)]
    by_cases e : z = j
    · subst e; rw [hb]; rfl
    · simp [e]
  rw [h2] at h1
  omega
theorem den_bd (hg : gch n q c) (hl : lvT c n I) (h7 : cnt I n ≤ 7) : den n q c I < 2 ^ 49 := by
  have h1 := mtx_bd (T := I) hg
  have h2 := p120 h7
  have h3 := (den_ok hg hl).1
  omega
theorem num_bd (hg : gch n q c) (hl : lvT c n I) (h7 : cnt I n ≤ 7) {i : Nat} (hi : i < n) (hb : I.testBit i = true) (hbb : ∀ x, b x ≤ 60) : num n q c I i b < 2 ^ 53 := by
  have h1 := sco_bd (T := I) hg (b := fun r => ((b (el I r n) : Nat) : Int)) (i := cnt I i) (cnt_lt I hi hb) (fun r _ => by have := hbb (el I r n); omega)
  have h2 := p180 h7
  have h3 := num_ok (b := b) hg hl hi hb
  unfold eqA at h3
  omega
/-- sums over a set's states -/
def sZ (T : Nat) (f : Nat → Int) (n : Nat) : Int := sI (fun j => if T.testBit j then f j else 0) n
theorem sI_elZ (T : Nat) (f : Nat → Int) : ∀ n, sI (fun k => f (el T k n)) (cnt T n) = sZ T f n
  | 0 => rfl
  | n + 1 => by
    have ih := sI_elZ T f n
    unfold sZ at *
    rw [sI_succ, cnt_s]
    by_cases hb : T.testBit n = true
    · rw [if_pos hb, if_pos hb, sI_succ]
      have e1 : sI (fun k => f (el T k (n + 1))) (cnt T n) = sI (fun k => f (el T k n)) (cnt T n) := sI_congr (fun k hk => by rw [el_s hk])
      have e2 : el T (cnt T n) (n + 1) = n := by
        show (if T.testBit n ∧ cnt T n = cnt T n then n else el T (cnt T n) n) = n
        rw [if_pos ⟨hb, rfl⟩]
      rw [e1, ih, e2]
    · rw [if_neg hb, if_neg hb]
      have e1 : sI (fun k => f (el T k (n + 1))) (cnt T n) = sI (fun k => f (el T k n)) (cnt T n) := sI_congr (fun k hk => by rw [el_s hk])
      show sI (fun k => f (el T k (n + 1))) (cnt T n) = _
      rw [e1, ih]
      omega
/-- a part of the states that doesn't step into the rest: the same fractions -/
theorem frac_eq {J i : Nat} (hi : i < n) (hiJ : J.testBit i = true) (hsub : ∀ x, x < n → J.testBit x = true → I.testBit x = true) (hcl : ∀ x z, x < n → z < n → J.testBit x = true → I.testBit z = true → 0 < c x z → J.testBit z = true) : det (cnt I n) (eqA n q c I i b) * det (cnt J n) (mtx q c n J) = det (cnt J n) (eqA n q c J i b) * det (cnt I n) (mtx q c n I) := by
  let D := det (cnt I n) (mtx q c n I)
  let NI : Nat → Int := fun z => det (cnt I n) (eqA n q c I z b)
  have hcr : ∀ x, x < n → I.testBit x = true → sZ I (fun z => (((if x = z then q else 0 : Nat) : Int) - ((c x z : Nat) : Int)) * NI z) n = D * ((b x : Nat) : Int) := fun x hx hxI => by
    have hk := cnt_lt I hx hxI
    have h := cramer (mtx q c n I) (fun r => ((b (el I r n) : Nat) : Int)) hk
    rw [el_un hx hxI] at h
    rw [← h, ← sI_elZ]
    apply sI_congr
    intro k hk2
    obtain ⟨a1, a2, a3⟩ := el_ok I k hk2
    have e1 : mtx q c n I (cnt I x) k = ((if x = el I k n then q else 0 : Nat) : Int) - ((c x (el I k n) : Nat) : Int) := by
      unfold mtx
      rw [el_un hx hxI]
    have e2 : NI (el I k n) = det (cnt I n) (sco (mtx q c n I) k (fun r => ((b (el I r n) : Nat) : Int))) := by
      show det (cnt I n) (eqA n q c I (el I k n) b) = _
      unfold eqA
      rw [a3]
    rw [e1, e2]
  have hJ : ∀ r, r < cnt J n → sI (fun k => mtx q c n J r k * NI (el J k n)) (cnt J n) = D * ((b (el J r n) : Nat) : Int) := fun r hr => by
    obtain ⟨a1, a2, a3⟩ := el_ok J r hr
    have e1 : sI (fun k => mtx q c n J r k * NI (el J k n)) (cnt J n) = sZ J (fun z => (((if el J r n = z then q else 0 : Nat) : Int) - ((c (el J r n) z : Nat) : Int)) * NI z) n := by
      rw [← sI_elZ]
      rfl
    rw [e1, ← hcr _ a1 (hsub _ a1 a2)]
    unfold sZ
    apply sI_congr
    intro z hz
    by_cases hzJ : J.testBit z = true
    · rw [if_pos hzJ, if_pos (hsub z hz hzJ)]
    · rw [if_neg hzJ]
      by_cases hzI : I.testBit z = true
      · rw [if_pos hzI]
        have hne : el J r n ≠ z := fun e => hzJ (by rw [← e]; exact a2)
        have h0 : c (el J r n) z = 0 := by
          rcases Nat.eq_zero_or_pos (c (el J r n) z) with h | h
          · exact h
          · exact absurd (hcl _ _ a1 hz a2 hzI h) hzJ
        dsimp only
        rw [if_neg hne, h0]
        simp
      · rw [if_neg hzI]
  have hiC := cnt_lt J hi hiJ
  have h1 := det_Ay (A := mtx q c n J) hiC (fun k => NI (el J k n))
  have h2 : det (cnt J n) (sco (mtx q c n J) (cnt J i) (fun r => sI (fun k => mtx q c n J r k * NI (el J k n)) (cnt J n))) = D * det (cnt J n) (eqA n q c J i b) := by
    unfold eqA
    rw [← det_cscale hiC]
    apply det_congr
    intro r j hr hj
    unfold sco
    by_cases e : j = cnt J i
    · rw [if_pos e, if_pos e]
      exact hJ r hr
    · rw [if_neg e, if_neg e]
  rw [h2, el_un hi hiJ] at h1
  show NI i * _ = _ * D
  rw [← h1, Int.mul_comm]
end
/-- the same fraction, told alike -/
theorem tld_x {a b' c' d : Nat} (hb : 0 < b') (hd : 0 < d) (h : a * d = c' * b') (w : Int32) : tld a b' w = tld c' d w := by
  have e1 : tld (a * d) (b' * d) w = tld a b' w := by
    have := tld_g (a := d * a) (b := d * b') hd (Nat.dvd_mul_right _ _) (Nat.dvd_mul_right _ _) w
    rw [Nat.mul_div_cancel_left _ hd, Nat.mul_div_cancel_left _ hd] at this
    rw [this, Nat.mul_comm a, Nat.mul_comm b']
  have e2 : tld (c' * b') (d * b') w = tld c' d w := by
    have := tld_g (a := b' * c') (b := b' * d) hb (Nat.dvd_mul_right _ _) (Nat.dvd_mul_right _ _) w
    rw [Nat.mul_div_cancel_left _ hb, Nat.mul_div_cancel_left _ hb] at this
    rw [this, Nat.mul_comm c', Nat.mul_comm d]
  rw [← e1, ← e2, h, Nat.mul_comm b' d]
theorem cnt_low {I i : Nat} : ∀ m, cnt (I &&& (2 ^ i - 1)) m = cnt I (if m ≤ i then m else i)
  | 0 => by rw [if_pos (by omega)]; rfl
  | m + 1 => by
    rw [cnt_s, cnt_low m, Nat.testBit_and, low_t]
    by_cases h : m + 1 ≤ i
    · rw [if_pos h, if_pos (by omega), cnt_s, decide_eq_true (by omega), Bool.and_true]
    · rw [if_neg h, decide_eq_false (by omega), Bool.and_false]
      by_cases h2 : m ≤ i
      · have e : m = i := by omega
        subst e
        rw [if_pos h2]
        rfl
      · rw [if_neg h2]
        rfl
section
variable {G : Gg} {M : Mm} {A p : Nat → Nat} {tl : Nat} {tv : Nat → Nat} {ol : Nat} {ov ns qs : Nat → Nat} {cs : Nat → Nat → Nat → Nat}
theorem mn_fr {M' : Mm} {al : List Nat} (h : kCI G M A p tl tv ol ov ns qs cs) (hf : fr M M' [A 12] al) (hal : ∀ x, x ∈ al → x = A 13 ∨ x = A 14 ∨ x = A 15 ∨ x = A 16) : kCI G M' A p tl tv ol ov ns qs cs ∧ unt M M' A 53 := ⟨kCI_fr h hf (fun x hx => ⟨12, by simp, by simpa using hx⟩) (fun x hx => by
    rcases hal x hx with rfl | rfl | rfl | rfl
    · exact ⟨13, by simp, rfl⟩
    · exact ⟨14, by simp, rfl⟩
    · exact ⟨15, by simp, rfl⟩
    · exact ⟨16, by simp, rfl⟩), unt_fr hf (fun x hx => ⟨12, by decide, by simpa using hx⟩) (fun x hx => by
    rcases hal x hx with rfl | rfl | rfl | rfl
    · exact ⟨13, by decide, rfl⟩
    · exact ⟨14, by decide, rfl⟩
    · exact ⟨15, by decide, rfl⟩
    · exact ⟨16, by decide, rfl⟩)⟩
theorem solve_ok (h : kCI G M A p tl tv ol ov ns qs cs) {s I i : Nat} {b : Nat → Nat} (hs : s < 6) (hn : 0 < ns s) (hI : I < 2 ^ ns s) (hi : i < ns s) (hb : I.testBit i = true) (hl : lvT (cs s) (ns s) I) (h7 : cnt I (ns s) ≤ 7) (hbb : ∀ x, b x ≤ 60) (hr : ∀ r, r < cnt I (ns s) → M.2.1 (A 15) r = lN (b (el I r (ns s)))) : OK (f_X2_solve G M (A 11) (A (18 + 5 * p s)) (nI I) (nI i) (A 17)) (fun M' => kCI G M' A p tl tv ol ov ns qs cs ∧ unt M M' A 53 ∧ ∀ w, f_X1_told G M' (A 17) w = some (tld (num (ns s) (qs s) (cs s) I i b) (den (ns s) (qs s) (cs s) I) w)) := by
  obtain ⟨hg, hz, _⟩ := kCI_z h hs hn
  have hn8 := hg.2.1
  have b8 := p2_31 hn8
  have k11 : isK G (A 11) 2 := h.1.2.1 11 (by decide)
  have k12 : isK G (A 12) 3 := h.1.2.1 12 (by decide)
  have k15 : isK G (A 15) 11 := h.1.2.1 15 (by decide)
  have l15 : G.2.2 (A 15) = 8 := h.1.2.2 15 (by decide) (by decide)
  have k17 : isK G (A 17) 1 := h.1.2.1 17 (by decide)
  have q60 := hg.2.2.2.1
  obtain ⟨M1, a1, a2, a3⟩ := load_ok (kCI_min h) hz.1 hz.2.1 (by omega) hI
  obtain ⟨hI1, u1⟩ := mn_fr h a3 (fun x hx => Or.inl (by simpa using hx))
  obtain ⟨⟨v, M2⟩, b1, b2, b3, b4⟩ := det_ok a2
  dsimp only at b2 b3 b4
  obtain ⟨hI2, u2⟩ := mn_fr hI1 (fr_sub b4 (bi := [A 12]) (fun x hx => by simp at hx) (fun x hx => hx)) (fun x hx => Or.inr (Or.inl (by simpa using hx)))
  have hci := cnt_lt I hi hb
  have n1513 : A 15 ≠ A 13 := sA_ne h.1 (by decide) (by decide) (by decide)
  have n1514 : A 15 ≠ A 14 := sA_ne h.1 (by decide) (by decide) (by decide)
  obtain ⟨M3, c1, c2, c3⟩ := replaceColumn_ok (b := fun r => ((b (el I r (ns s)) : Nat) : Int)) b3 hci k15 l15 n1513 (fun r hrr => by rw [b4.2.1 _ (ne_in n1514), a3.2.1 _ (ne_in n1513)]; exact hr r hrr)
  obtain ⟨hI3, u3⟩ := mn_fr hI2 (fr_sub c3 (bi := [A 12]) (fun x hx => by simp at hx) (fun x hx => hx)) (fun x hx => Or.inl (by simpa using hx))
  obtain ⟨⟨v2, M4⟩, d1, d2, d3, d4⟩ := det_ok c2
  dsimp only at d2 d3 d4
  obtain ⟨hI4, u4⟩ := mn_fr hI3 (fr_sub d4 (bi := [A 12]) (fun x hx => by simp at hx) (fun x hx => hx)) (fun x hx => Or.inr (Or.inl (by simpa using hx)))
  have hden := den_ok (I := I) hg hl
  have hnum := num_ok (b := b) hg hl hi hb
  have hdb := den_bd hg hl h7
  have hnb := num_bd hg hl h7 hi hb hbb
  have ev : v = lN (den (ns s) (qs s) (cs s) I) := by rw [b2, ← hden.1]; rfl
  have ev2 : v2 = lN (num (ns s) (qs s) (cs s) I i b) := by
    rw [d2]
    show Int64.ofInt (det (cnt I (ns s)) (eqA (ns s) (qs s) (cs s) I i b)) = _
    rw [← hnum]; rfl
  subst ev
  subst ev2
  obtain ⟨M5, f1, f2, f3, f4⟩ := put_t hI4 (show num (ns s) (qs s) (cs s) I i b < 2 ^ 63 by omega) (show den (ns s) (qs s) (cs s) I < 2 ^ 63 by omega) hden.2
  have es := sh_1 (show i < 31 by omega)
  rw [zI1] at es
  have hle : I &&& (2 ^ i - 1) ≤ I := Nat.and_le_left
  have ebc := bitc (I &&& (2 ^ i - 1)) (by omega)
  rw [cnt_low, if_neg (by omega)] at ebc
  have r0 := h.2.1.2.2.2.2.1.1
  have r1 := hI1.2.1.2.2.2.2.1.1
  have r2 := hI2.2.1.2.2.2.2.1.1
  have r2' := hI2.2.1.2.2.2.2.1.2
  have r3 := hI3.2.1.2.2.2.2.1.1
  have hpl : 0 < 2 ^ i := Nat.pow_pos (by decide)
  refine ⟨M5, ?_, f2, unt_tr u1 (unt_tr u2 (unt_tr u3 (unt_tr u4 f3))), f4⟩
  unfold f_X2_solve
  simp (disch := first | assumption | omega | (refine inb_n ?_ ?_ <;> omega) | fail) only [ck_t, Option.bind_some, iLeP, iLeN, iLtP, iLtN, iEqP, iEqN, nI_1, pk_mul, nI_add, cl_n, zI0, zI1, zI8, bI_z, if_true_eq, if_false_eq, if_true, if_false, r0, a1, r1, b1, r2, es, pk_sub, nI_and, ebc, r2', c1, r3, d1, f1]
end
