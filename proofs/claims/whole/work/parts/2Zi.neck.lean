/-! the narrowest way, of both -/
/-- the best of the sets below t: shares h, flows f, all shares T -/
def nb (h f : Nat → Nat) (T : Nat) : Nat → Nat
  | 0 => 0
  | t + 1 => if 0 < t ∧ 2 * h t ≤ T ∧ (nb h f T t = 0 ∨ f t * h (nb h f T t) < f (nb h f T t) * h t) then t else nb h f T t
theorem nb_lt (h f : Nat → Nat) (T : Nat) : ∀ t, 0 < t → nb h f T t < t
  | 0, ht => absurd ht (by omega)
  | t + 1, _ => by
    show (if _ then _ else _) < _
    split
    · omega
    · rcases Nat.eq_zero_or_pos t with e | e
      · subst e; show 0 < 1; omega
      · have := nb_lt h f T t e
        omega
theorem nb_g {h f : Nat → Nat} {T g : Nat} (hg : 0 < g) : ∀ t, nb (fun t => g * h t) (fun t => g * f t) (g * T) t = nb h f T t
  | 0 => rfl
  | t + 1 => by
    have ih := nb_g (h := h) (f := f) (T := T) hg t
    show (if 0 < t ∧ 2 * (g * h t) ≤ g * T ∧ (nb (fun t => g * h t) (fun t => g * f t) (g * T) t = 0 ∨ (g * f t) * (g * h (nb (fun t => g * h t) (fun t => g * f t) (g * T) t)) < (g * f (nb (fun t => g * h t) (fun t => g * f t) (g * T) t)) * (g * h t)) then t else nb (fun t => g * h t) (fun t => g * f t) (g * T) t) = if 0 < t ∧ 2 * h t ≤ T ∧ (nb h f T t = 0 ∨ f t * h (nb h f T t) < f (nb h f T t) * h t) then t else nb h f T t
    rw [ih]
    have e1 : 2 * (g * h t) ≤ g * T ↔ 2 * h t ≤ T := by
      rw [show 2 * (g * h t) = g * (2 * h t) by rw [← Nat.mul_assoc, ← Nat.mul_assoc, Nat.mul_comm 2 g]]
      exact ⟨fun z => Nat.le_of_mul_le_mul_left z hg, fun z => Nat.mul_le_mul_left g z⟩
    have e2 : ∀ x y z w : Nat, (g * x) * (g * y) < (g * z) * (g * w) ↔ x * y < z * w := fun x y z w => by
      have p1 : (g * x) * (g * y) = (g * g) * (x * y) := by grind
      have p2 : (g * z) * (g * w) = (g * g) * (z * w) := by grind
      rw [p1, p2]
      exact ⟨fun q => Nat.lt_of_mul_lt_mul_left q, fun q => Nat.mul_lt_mul_of_pos_left q (Nat.mul_pos hg hg)⟩
    simp only [e1, e2]
/-- a set's share and what leaves it -/
def hS_ (W : Nat → Nat) (n : Nat) : Nat → Nat := fun t => sB t W n
def fS_ (W : Nat → Nat) (c : Nat → Nat → Nat) (n : Nat) : Nat → Nat := fun t => sB t (fun i => W i * sB (sdf (2 ^ n - 1) t) (c i) n) n
theorem sB_mul (S g : Nat) (f : Nat → Nat) : ∀ n, sB S (fun i => g * f i) n = g * sB S f n
  | 0 => rfl
  | n + 1 => by
    rw [sB_s, sB_s, sB_mul S g f n, Nat.mul_add]
    split
    · rfl
    · rfl
theorem sB_congr {S : Nat} {f g : Nat → Nat} : ∀ {n : Nat}, (∀ i, i < n → f i = g i) → sB S f n = sB S g n
  | 0, _ => rfl
  | n + 1, h => by rw [sB_s, sB_s, sB_congr (fun i hi => h i (by omega)), h n (by omega)]
theorem hS_le {n q : Nat} {c : Nat → Nat → Nat} (t : Nat) : hS_ (cW n q c) n t ≤ sN (cW n q c) n := sB_sN _ _ _
theorem fS_le {n q : Nat} {c : Nat → Nat → Nat} (hg : gch n q c) (t : Nat) : fS_ (cW n q c) c n t ≤ 60 * sN (cW n q c) n := by
  have h1 := sB_sN t (fun i => cW n q c i * sB (sdf (2 ^ n - 1) t) (c i) n) n
  have h2 : sN (fun i => cW n q c i * sB (sdf (2 ^ n - 1) t) (c i) n) n ≤ sN (fun i => 60 * cW n q c i) n := by
    have key : ∀ m, sN (fun i => cW n q c i * sB (sdf (2 ^ n - 1) t) (c i) n) m ≤ sN (fun i => 60 * cW n q c i) m := by
      intro m
      induction m with
      | zero => exact Nat.le_refl _
      | succ m ih =>
        rw [sN_succ, sN_succ]
        have h3 : cW n q c m * sB (sdf (2 ^ n - 1) t) (c m) n ≤ 60 * cW n q c m := by
          rw [Nat.mul_comm 60]
          exact Nat.mul_le_mul_left _ (sB_60 hg _ m)
        omega
    exact key n
  rw [sN_mul] at h2
  unfold fS_
  omega
theorem sB_pos {S n i : Nat} {f : Nat → Nat} (hi : i < n) (hb : S.testBit i = true) (hf : 0 < f i) : 0 < sB S f n := by
  have key : ∀ m, i < m → f i ≤ sB S f m := by
    intro m
    induction m with
    | zero => intro h; omega
    | succ m ih =>
      intro h
      rw [sB_s]
      by_cases e : i = m
      · subst e; rw [if_pos hb]; omega
      · have := ih (by omega)
        split <;> omega
  have := key n hi
  omega
theorem hS_pos {n q t : Nat} {c : Nat → Nat → Nat} (hg : gch n q c) (h1 : ct (lsB (cL c n) n) n = 1) (h0 : 0 < t) (ht : t < 2 ^ n) : 0 < hS_ (cW n q c) n t := by
  obtain ⟨i, hi, hb⟩ := set_bit h0 ht
  exact sB_pos hi hb (cW_wp hg h1 hi)
/-- the narrowest set -/
def nset (n q : Nat) (c : Nat → Nat → Nat) : Nat := nb (hS_ (cW n q c) n) (fS_ (cW n q c) c n) (sN (cW n q c) n) (2 ^ n - 1)
theorem nset_all {n q : Nat} {c : Nat → Nat → Nat} (hg : gch n q c) (h1 : ct (lsB (cL c n) n) n = 1) : nb (hS_ (cW n q c) n) (fS_ (cW n q c) c n) (sN (cW n q c) n) (2 ^ n) = nset n q c := by
  have hp : 0 < 2 ^ n := Nat.pow_pos (by decide)
  obtain ⟨m, hm⟩ : ∃ m, 2 ^ n = m + 1 := ⟨2 ^ n - 1, by omega⟩
  unfold nset
  rw [show 2 ^ n - 1 = m by omega, hm]
  show (if 0 < m ∧ 2 * hS_ (cW n q c) n m ≤ sN (cW n q c) n ∧ _ then m else _) = _
  rw [if_neg]
  intro z
  have he : hS_ (cW n q c) n m = sN (cW n q c) n := by
    unfold hS_
    exact sB_all (fun i hi => by rw [show m = 2 ^ n - 1 by omega, low_t]; simp; omega)
  have := cW_tot hg (wh_one h1)
  rw [he] at z
  omega
def nwOK_ (ns : Nat → Nat) (cs : Nat → Nat → Nat → Nat) (i1 : Int32) (s : Nat) : Prop := s < 6 ∧ i1 = nI s ∧ 2 ≤ ns s ∧ ct (lsB (cL (cs s) (ns s)) (ns s)) (ns s) = 1
section
variable {G : Gg} {M : Mm} {A p : Nat → Nat} {tl : Nat} {tv : Nat → Nat} {ol : Nat} {ov ns qs : Nat → Nat} {cs : Nat → Nat → Nat → Nat}
theorem nk_fr {M' : Mm} (h : kCI G M A p tl tv ol ov ns qs cs) (hf : fr M M' [A 16] [A 16]) : kCI G M' A p tl tv ol ov ns qs cs ∧ unt M M' A 53 := ⟨kCI_fr h hf (fun x hx => ⟨16, by simp, by simpa using hx⟩) (fun x hx => ⟨16, by simp, by simpa using hx⟩), unt_fr hf (fun x hx => ⟨16, by decide, by simpa using hx⟩) (fun x hx => ⟨16, by decide, by simpa using hx⟩)⟩
set_option maxHeartbeats 1000000 in
theorem find_ok (h : kCI G M A p tl tv ol ov ns qs cs) {i1 : Int32} {s : Nat} (ho : nwOK_ ns cs i1 s) : OK (f_X4_find G M (A 16) (A (18 + 5 * p s))) (fun r => r.1 = nI (if nset (ns s) (qs s) (cs s) = 0 then 0 else 1) ∧ kCI G r.2 A p tl tv ol ov ns qs cs ∧ unt M r.2 A 53 ∧ r.2.1 (A 16) 0 = nI (nset (ns s) (qs s) (cs s)) ∧ (nset (ns s) (qs s) (cs s) ≠ 0 → r.2.2.1 (A 16) 1 = lN (fS_ (cW (ns s) (qs s) (cs s)) (cs s) (ns s) (nset (ns s) (qs s) (cs s))) ∧ r.2.2.1 (A 16) 2 = lN (hS_ (cW (ns s) (qs s) (cs s)) (ns s) (nset (ns s) (qs s) (cs s))))) := by
  obtain ⟨hs, rfl, hn2, hwh⟩ := ho
  obtain ⟨hg, hz, hzt⟩ := kCI_z h hs (by omega)
  obtain ⟨n1, n2, n3⟩ := p_ne h hs
  have hn8 := hg.2.1
  have b8 := p2_31 hn8
  have k16 : isK G (A 16) 4 := h.1.2.1 16 (by decide)
  have kc := hz.1.1
  have hp : 0 < 2 ^ ns s := Nat.pow_pos (by decide)
  have h4 : 2 ^ 2 ≤ 2 ^ ns s := p2m hn2
  have htb := cW_tb hg
  have hpos := cW_tot hg (wh_one hwh)
  have w0 : fr M (mwI M (A 16) 0 (nI 0)) [A 16] [A 16] := fr_I in_1
  have hI0 := (nk_fr h w0).1
  have hz0' := (kCI_z hI0 hs (by omega)).2.1
  have ew := isWhole_eq hz0'
  rw [decide_eq_true hwh] at ew
  have e := lpI (fun f i2 (x : Mm) => lp_X4_find_24 G (A 16) (A (18 + 5 * p s)) f i2 x) (fun t x => fr M x [A 16] [A 16] ∧ x.1 (A 16) 0 = nI (nb (hS_ (cW (ns s) (qs s) (cs s)) (ns s)) (fS_ (cW (ns s) (qs s) (cs s)) (cs s) (ns s)) (sN (cW (ns s) (qs s) (cs s)) (ns s)) t) ∧ (nb (hS_ (cW (ns s) (qs s) (cs s)) (ns s)) (fS_ (cW (ns s) (qs s) (cs s)) (cs s) (ns s)) (sN (cW (ns s) (qs s) (cs s)) (ns s)) t ≠ 0 → x.2.1 (A 16) 1 = lN (fS_ (cW (ns s) (qs s) (cs s)) (cs s) (ns s) (nb (hS_ (cW (ns s) (qs s) (cs s)) (ns s)) (fS_ (cW (ns s) (qs s) (cs s)) (cs s) (ns s)) (sN (cW (ns s) (qs s) (cs s)) (ns s)) t)) ∧ x.2.1 (A 16) 2 = lN (hS_ (cW (ns s) (qs s) (cs s)) (ns s) (nb (hS_ (cW (ns s) (qs s) (cs s)) (ns s)) (fS_ (cW (ns s) (qs s) (cs s)) (cs s) (ns s)) (sN (cW (ns s) (qs s) (cs s)) (ns s)) t))) ∧ 0 < t) (2 ^ ns s - 1) (fun x => fr M x [A 16] [A 16] ∧ x.1 (A 16) 0 = nI (nset (ns s) (qs s) (cs s)) ∧ (nset (ns s) (qs s) (cs s) ≠ 0 → x.2.1 (A 16) 1 = lN (fS_ (cW (ns s) (qs s) (cs s)) (cs s) (ns s) (nset (ns s) (qs s) (cs s))) ∧ x.2.1 (A 16) 2 = lN (hS_ (cW (ns s) (qs s) (cs s)) (ns s) (nset (ns s) (qs s) (cs s))))) (by omega) (fun f t x ht hx => by
    obtain ⟨e1, e2, e3, t0⟩ := hx
    left
    have hIx := (nk_fr h e1).1
    obtain ⟨hzx, hzxt⟩ := (kCI_z hIx hs (by omega)).2
    have ea := allStates_eq (M := x) kc hzx.1.2.2.2.2.1 hn8
    have es := shareOf_eq hzx (S := t) (by omega)
    have ef := flowOutOf_eq hzx (S := t) (by omega)
    have hh := hS_pos hg hwh t0 (show t < 2 ^ ns s by omega)
    have hhl := hS_le (n := ns s) (q := qs s) (c := cs s) t
    have hfl := fS_le hg t
    have nl := nb_lt (hS_ (cW (ns s) (qs s) (cs s)) (ns s)) (fS_ (cW (ns s) (qs s) (cs s)) (cs s) (ns s)) (sN (cW (ns s) (qs s) (cs s)) (ns s)) t t0
    have es' : f_X0_shareOf G x (A (18 + 5 * p s)) (nI t) = some (lN (hS_ (cW (ns s) (qs s) (cs s)) (ns s) t)) := es
    have ef' : f_X0_flowOutOf G x (A (18 + 5 * p s)) (nI t) = some (lN (fS_ (cW (ns s) (qs s) (cs s)) (cs s) (ns s) t)) := ef
    have hnb : nb (hS_ (cW (ns s) (qs s) (cs s)) (ns s)) (fS_ (cW (ns s) (qs s) (cs s)) (cs s) (ns s)) (sN (cW (ns s) (qs s) (cs s)) (ns s)) (t + 1) = if 0 < t ∧ 2 * hS_ (cW (ns s) (qs s) (cs s)) (ns s) t ≤ sN (cW (ns s) (qs s) (cs s)) (ns s) ∧ (nb (hS_ (cW (ns s) (qs s) (cs s)) (ns s)) (fS_ (cW (ns s) (qs s) (cs s)) (cs s) (ns s)) (sN (cW (ns s) (qs s) (cs s)) (ns s)) t = 0 ∨ fS_ (cW (ns s) (qs s) (cs s)) (cs s) (ns s) t * hS_ (cW (ns s) (qs s) (cs s)) (ns s) (nb (hS_ (cW (ns s) (qs s) (cs s)) (ns s)) (fS_ (cW (ns s) (qs s) (cs s)) (cs s) (ns s)) (sN (cW (ns s) (qs s) (cs s)) (ns s)) t) < fS_ (cW (ns s) (qs s) (cs s)) (cs s) (ns s) (nb (hS_ (cW (ns s) (qs s) (cs s)) (ns s)) (fS_ (cW (ns s) (qs s) (cs s)) (cs s) (ns s)) (sN (cW (ns s) (qs s) (cs s)) (ns s)) t) * hS_ (cW (ns s) (qs s) (cs s)) (ns s) t) then t else nb (hS_ (cW (ns s) (qs s) (cs s)) (ns s)) (fS_ (cW (ns s) (qs s) (cs s)) (cs s) (ns s)) (sN (cW (ns s) (qs s) (cs s)) (ns s)) t := rfl
    have hposB : ∀ B, B ≠ 0 → B < t → 0 < hS_ (cW (ns s) (qs s) (cs s)) (ns s) B := fun B hB hBt => hS_pos hg hwh (by omega) (by omega)
    have hflB : ∀ B, fS_ (cW (ns s) (qs s) (cs s)) (cs s) (ns s) B < 2 ^ 63 ∧ hS_ (cW (ns s) (qs s) (cs s)) (ns s) B < 2 ^ 63 := fun B => by
      have := fS_le hg B
      have := hS_le (n := ns s) (q := qs s) (c := cs s) B
      omega
    generalize hB : nb (hS_ (cW (ns s) (qs s) (cs s)) (ns s)) (fS_ (cW (ns s) (qs s) (cs s)) (cs s) (ns s)) (sN (cW (ns s) (qs s) (cs s)) (ns s)) t = B at *
    rw [hnb]
    generalize hS_ (cW (ns s) (qs s) (cs s)) (ns s) = H at *
    generalize fS_ (cW (ns s) (qs s) (cs s)) (cs s) (ns s) = F at *
    generalize sN (cW (ns s) (qs s) (cs s)) (ns s) = T at *
    have hsub : lN T - lN (H t) = lN (T - H t) := lN_sub hhl
    have wr : fr M (mwJ (mwJ (mwI x (A 16) 0 (nI t)) (A 16) 1 (lN (F t))) (A 16) 2 (lN (H t))) [A 16] [A 16] := fr_tr e1 (fr_tr (fr_I in_1) (fr_tr (fr_J in_1) (fr_J in_1)))
    have took : (mwJ (mwJ (mwI x (A 16) 0 (nI t)) (A 16) 1 (lN (F t))) (A 16) 2 (lN (H t))).1 (A 16) 0 = nI t ∧ (t ≠ 0 → (mwJ (mwJ (mwI x (A 16) 0 (nI t)) (A 16) 1 (lN (F t))) (A 16) 2 (lN (H t))).2.1 (A 16) 1 = lN (F t) ∧ (mwJ (mwJ (mwI x (A 16) 0 (nI t)) (A 16) 1 (lN (F t))) (A 16) 2 (lN (H t))).2.1 (A 16) 2 = lN (H t)) := ⟨mwI_s, fun _ => ⟨by rw [mwJ_n (by omega), mwJ_s], mwJ_s⟩⟩
    by_cases hc1 : 2 * H t ≤ T
    · by_cases hB0 : B = 0
      · rw [if_pos ⟨t0, hc1, Or.inl hB0⟩]
        refine ⟨_, ⟨wr, took.1, took.2, by omega⟩, ?_⟩
        rw [hB0] at e2
        rw [lp_X4_find_24, bd_X4_find_24]
        unfold f_X4_weigh
        simp (disch := first | assumption | omega | (refine inb_n ?_ ?_ <;> omega) | fail) only [ck_t, Option.bind_some, iLeP, iLeN, iLtP, iLtN, iEqP, iEqN, nI_1, pk_mul, nI_add, cl_n, zI0, zI1, zI8, bI_z, if_true_eq, if_false_eq, if_true, if_false, lEqP, lEqN, lGtP, lGtN, lLeP, lLeN, lGeP, lGeN, lLtP, lLtN, lN_mul, lN_add, nI_l, pk_lDiv, pk_lRem, ckl, zL0, zL1, ea, es', hzxt, hsub, ef', e2]
      · obtain ⟨e4, e5⟩ := e3 hB0
        have ei := isBelow_eq (a := F t) (b := H t) (c := F B) (d := H B) (hflB t).1 (hflB t).2 (hflB B).1 (hflB B).2 (hposB B hB0 nl)
        by_cases hc2 : F t * H B < F B * H t
        · rw [if_pos ⟨t0, hc1, Or.inr hc2⟩]
          rw [decide_eq_true hc2] at ei
          refine ⟨_, ⟨wr, took.1, took.2, by omega⟩, ?_⟩
          rw [lp_X4_find_24, bd_X4_find_24]
          unfold f_X4_weigh
          simp (disch := first | assumption | omega | (refine inb_n ?_ ?_ <;> omega) | fail) only [ck_t, Option.bind_some, iLeP, iLeN, iLtP, iLtN, iEqP, iEqN, nI_1, pk_mul, nI_add, cl_n, zI0, zI1, zI8, bI_z, if_true_eq, if_false_eq, if_true, if_false, lEqP, lEqN, lGtP, lGtN, lLeP, lLeN, lGeP, lGeN, lLtP, lLtN, lN_mul, lN_add, nI_l, pk_lDiv, pk_lRem, ckl, zL0, zL1, ea, es', hzxt, hsub, ef', e2, e4, e5, ei]
        · rw [if_neg (fun z => z.2.2.elim hB0 hc2)]
          rw [decide_eq_false hc2] at ei
          refine ⟨x, ⟨e1, e2, e3, by omega⟩, ?_⟩
          rw [lp_X4_find_24, bd_X4_find_24]
          unfold f_X4_weigh
          simp (disch := first | assumption | omega | (refine inb_n ?_ ?_ <;> omega) | fail) only [ck_t, Option.bind_some, iLeP, iLeN, iLtP, iLtN, iEqP, iEqN, nI_1, pk_mul, nI_add, cl_n, zI0, zI1, zI8, bI_z, if_true_eq, if_false_eq, if_true, if_false, lEqP, lEqN, lGtP, lGtN, lLeP, lLeN, lGeP, lGeN, lLtP, lLtN, lN_mul, lN_add, nI_l, pk_lDiv, pk_lRem, ckl, zL0, zL1, ea, es', hzxt, hsub, ef', e2, e4, e5, ei]
    · rw [if_neg (fun z => hc1 z.2.1)]
      refine ⟨x, ⟨e1, e2, e3, by omega⟩, ?_⟩
      rw [lp_X4_find_24, bd_X4_find_24]
      unfold f_X4_weigh
      simp (disch := first | assumption | omega | (refine inb_n ?_ ?_ <;> omega) | fail) only [ck_t, Option.bind_some, iLeP, iLeN, iLtP, iLtN, iEqP, iEqN, nI_1, pk_mul, nI_add, cl_n, zI0, zI1, zI8, bI_z, if_true_eq, if_false_eq, if_true, if_false, lEqP, lEqN, lGtP, lGtN, lLeP, lLeN, lGeP, lGeN, lLtP, lLtN, lN_mul, lN_add, nI_l, pk_lDiv, pk_lRem, ckl, zL0, zL1, ea, es', hzxt, hsub]) (fun f x hx => by
    obtain ⟨e1, e2, e3, t0⟩ := hx
    have hIx := (nk_fr h e1).1
    obtain ⟨hzx, hzxt⟩ := (kCI_z hIx hs (by omega)).2
    have ea := allStates_eq (M := x) kc hzx.1.2.2.2.2.1 hn8
    refine ⟨x, ?_, e1, e2, e3⟩
    rw [lp_X4_find_24, bd_X4_find_24]
    simp (disch := first | assumption | omega | (refine inb_n ?_ ?_ <;> omega) | fail) only [ck_t, Option.bind_some, iLeP, iLeN, iLtP, iLtN, iEqP, iEqN, nI_1, pk_mul, nI_add, cl_n, zI0, zI1, zI8, bI_z, if_true_eq, if_false_eq, if_true, if_false, ea]) (j0 := 1) (x := mwI M (A 16) 0 (nI 0)) (by omega) ⟨w0, mwI_s, fun z => absurd rfl z, by decide⟩
  obtain ⟨x, e1, e2, e3, e4⟩ := e
  have hsz := hz0'.1.2.2.2.2.1
  obtain ⟨hIx, ux⟩ := nk_fr h e2
  have hnl : nset (ns s) (qs s) (cs s) < 2 ^ ns s - 1 := nb_lt _ _ _ _ (by omega)
  by_cases h0 : nset (ns s) (qs s) (cs s) = 0
  · refine ⟨(nI 0, x), ?_, by rw [if_pos h0], hIx, ux, e3, e4⟩
    rw [h0] at e3
    unfold f_X4_find
    simp (disch := first | assumption | omega | (refine inb_n ?_ ?_ <;> omega) | fail) only [ck_t, Option.bind_some, iLeP, iLeN, iLtP, iLtN, iEqP, iEqN, nI_1, pk_mul, nI_add, cl_n, zI0, zI1, zI8, bI_z, if_true_eq, if_false_eq, if_true, if_false, hsz, nz2, ew, e1, e3]
  · refine ⟨(nI 1, x), ?_, by rw [if_neg h0], hIx, ux, e3, e4⟩
    unfold f_X4_find
    simp (disch := first | assumption | omega | (refine inb_n ?_ ?_ <;> omega) | fail) only [ck_t, Option.bind_some, iLeP, iLeN, iLtP, iLtN, iEqP, iEqN, nI_1, pk_mul, nI_add, cl_n, zI0, zI1, zI8, bI_z, if_true_eq, if_false_eq, if_true, if_false, hsz, nz2, ew, e1, e3]
theorem find_n (h : kCI G M A p tl tv ol ov ns qs cs) {s : Nat} (hs : s < 6) (hn : 0 < ns s) (ho : ¬ (2 ≤ ns s ∧ ct (lsB (cL (cs s) (ns s)) (ns s)) (ns s) = 1)) : f_X4_find G M (A 16) (A (18 + 5 * p s)) = some (nI 0, mwI M (A 16) 0 (nI 0)) := by
  obtain ⟨hg, hz, hzt⟩ := kCI_z h hs hn
  have hn8 := hg.2.1
  have k16 : isK G (A 16) 4 := h.1.2.1 16 (by decide)
  have kc := hz.1.1
  have w0 : fr M (mwI M (A 16) 0 (nI 0)) [A 16] [A 16] := fr_I in_1
  have hI0 := (nk_fr h w0).1
  have hz0' := (kCI_z hI0 hs hn).2.1
  have hsz := hz0'.1.2.2.2.2.1
  unfold f_X4_find
  by_cases h2 : 2 ≤ ns s
  · have ew := isWhole_eq hz0'
    rw [decide_eq_false (fun z => ho ⟨h2, z⟩)] at ew
    simp (disch := first | assumption | omega | (refine inb_n ?_ ?_ <;> omega) | fail) only [ck_t, Option.bind_some, iLeP, iLeN, iLtP, iLtN, iEqP, iEqN, nI_1, pk_mul, nI_add, cl_n, zI0, zI1, zI8, bI_z, if_true_eq, if_false_eq, if_true, if_false, hsz, nz2, ew]
  · simp (disch := first | assumption | omega | (refine inb_n ?_ ?_ <;> omega) | fail) only [ck_t, Option.bind_some, iLeP, iLeN, iLtP, iLtN, iEqP, iEqN, nI_1, pk_mul, nI_add, cl_n, zI0, zI1, zI8, bI_z, if_true_eq, if_false_eq, if_true, if_false, hsz, nz2]
theorem knarrow_p (h : kCI G M A p tl tv ol ov ns qs cs) {i1 i2 : Int32} {s : Nat} (ho : nwOK_ ns cs i1 s) (hw : wht i2) (h0 : nset (ns s) (qs s) (cs s) ≠ 0) : OK (f_X8_narrow G M (A 0) i1 i2) (fun r => r.1 = some (tld (fS_ (cW (ns s) (qs s) (cs s)) (cs s) (ns s) (nset (ns s) (qs s) (cs s))) (qs s * hS_ (cW (ns s) (qs s) (cs s)) (ns s) (nset (ns s) (qs s) (cs s))) i2) ∧ kCI G r.2 A p tl tv ol ov ns qs cs ∧ unt M r.2 A 53) := by
  obtain ⟨⟨v, M1⟩, a1, a2, a3, a4, a5, a6⟩ := find_ok h ho
  obtain ⟨hs, rfl, hn2, hwh⟩ := ho
  obtain ⟨hg, hz, hzt⟩ := kCI_z h hs (by omega)
  dsimp only at a2 a3 a4 a5 a6
  rw [if_neg h0] at a2
  subst a2
  obtain ⟨a7, a8⟩ := a6 h0
  have hp : 0 < 2 ^ ns s := Nat.pow_pos (by decide)
  have h4 : 2 ^ 2 ≤ 2 ^ ns s := p2m hn2
  have hnl : nset (ns s) (qs s) (cs s) < 2 ^ ns s - 1 := nb_lt _ _ _ _ (by omega)
  have hh := hS_pos hg hwh (show 0 < nset (ns s) (qs s) (cs s) by omega) (by omega)
  have htb := cW_tb hg
  have hhl := hS_le (n := ns s) (q := qs s) (c := cs s) (nset (ns s) (qs s) (cs s))
  have hfl := fS_le hg (nset (ns s) (qs s) (cs s))
  have hq1 := hg.2.2.1
  have hq2 := hg.2.2.2.1
  have hqh : qs s * hS_ (cW (ns s) (qs s) (cs s)) (ns s) (nset (ns s) (qs s) (cs s)) ≤ 60 * 2 ^ 52 := Nat.mul_le_mul hq2 (by omega)
  obtain ⟨M2, b1, b2, b3, b4⟩ := put_t a3 (show fS_ (cW (ns s) (qs s) (cs s)) (cs s) (ns s) (nset (ns s) (qs s) (cs s)) < 2 ^ 63 by omega) (show qs s * hS_ (cW (ns s) (qs s) (cs s)) (ns s) (nset (ns s) (qs s) (cs s)) < 2 ^ 63 by omega) (Nat.mul_pos hq1 hh)
  have b4' := b4 i2
  have k0 : isK G (A 0) 8 := h.1.2.1 0 (by decide)
  have k16 : isK G (A 16) 4 := h.1.2.1 16 (by decide)
  have k17 : isK G (A 17) 1 := h.1.2.1 17 (by decide)
  have kc := hz.1.1
  have e1 := need_p h hs (by omega) hw
  have r8 := h.2.1.1.2.2.2.2.2.2.2.1
  have r8' := a3.2.1.1.2.2.2.2.2.2.2.1
  have r9' := a3.2.1.1.2.2.2.2.2.2.2.2
  have r9'' := b2.2.1.1.2.2.2.2.2.2.2.2
  have hq' := (kCI_z a3 hs (by omega)).2.1.2.1
  refine ⟨(some (tld (fS_ (cW (ns s) (qs s) (cs s)) (cs s) (ns s) (nset (ns s) (qs s) (cs s))) (qs s * hS_ (cW (ns s) (qs s) (cs s)) (ns s) (nset (ns s) (qs s) (cs s))) i2), M2), ?_, rfl, b2, unt_tr a4 b3⟩
  unfold f_X8_narrow
  simp (disch := first | assumption | omega | (refine inb_n ?_ ?_ <;> omega) | fail) only [ck_t, Option.bind_some, iLeP, iLeN, iLtP, iLtN, iEqP, iEqN, nI_1, pk_mul, nI_add, cl_n, zI0, zI1, zI8, bI_z, if_true_eq, if_false_eq, if_true, if_false, lEqP, lEqN, lGtP, lGtN, lLeP, lLeN, lGeP, lGeN, lLtP, lLtN, lN_mul, lN_add, nI_l, pk_lDiv, pk_lRem, ckl, zL0, zL1, e1, onE, r8, a1, r9', r8', a7, a8, hq', b1, r9'', b4']
theorem knarrow_n (h : kCI G M A p tl tv ol ov ns qs cs) {i1 i2 : Int32} (ho : ¬ ∃ s, nwOK_ ns cs i1 s ∧ wht i2 ∧ nset (ns s) (qs s) (cs s) ≠ 0) : OK (f_X8_narrow G M (A 0) i1 i2) (fun r => r.1 = none ∧ kCI G r.2 A p tl tv ol ov ns qs cs ∧ unt M r.2 A 53) := by
  have k0 : isK G (A 0) 8 := h.1.2.1 0 (by decide)
  have k16 : isK G (A 16) 4 := h.1.2.1 16 (by decide)
  have r8 := h.2.1.1.2.2.2.2.2.2.2.1
  by_cases h1 : slo ns i1 ∧ wht i2
  · obtain ⟨⟨s, hs, rfl, hn⟩, hw⟩ := h1
    have e1 := need_p h hs hn hw
    by_cases h2 : 2 ≤ ns s ∧ ct (lsB (cL (cs s) (ns s)) (ns s)) (ns s) = 1
    · obtain ⟨⟨v, M1⟩, a1, a2, a3, a4, a5, a6⟩ := find_ok (i1 := nI s) h ⟨hs, rfl, h2.1, h2.2⟩
      have h0 : nset (ns s) (qs s) (cs s) = 0 := by
        apply Classical.byContradiction
        intro z
        exact ho ⟨s, ⟨hs, rfl, h2.1, h2.2⟩, hw, z⟩
      dsimp only at a2 a3 a4 a5 a6
      rw [if_pos h0] at a2
      subst a2
      refine ⟨(none, M1), ?_, rfl, a3, a4⟩
      unfold f_X8_narrow
      simp (disch := first | assumption | omega | (refine inb_n ?_ ?_ <;> omega) | fail) only [ck_t, Option.bind_some, iLeP, iLeN, iLtP, iLtN, iEqP, iEqN, nI_1, pk_mul, nI_add, cl_n, zI0, zI1, zI8, bI_z, if_true_eq, if_false_eq, if_true, if_false, e1, onE, r8, a1]
    · have a1 := find_n h hs hn h2
      obtain ⟨a3, a4⟩ := nk_fr h (fr_I (a := A 16) (k := 0) (x := nI 0) (al := [A 16]) in_1)
      refine ⟨(none, mwI M (A 16) 0 (nI 0)), ?_, rfl, a3, a4⟩
      unfold f_X8_narrow
      simp (disch := first | assumption | omega | (refine inb_n ?_ ?_ <;> omega) | fail) only [ck_t, Option.bind_some, iLeP, iLeN, iLtP, iLtN, iEqP, iEqN, nI_1, pk_mul, nI_add, cl_n, zI0, zI1, zI8, bI_z, if_true_eq, if_false_eq, if_true, if_false, e1, onE, r8, a1]
  · have e1 := need_n h h1
    refine ⟨(none, M), ?_, rfl, h, unt_rf _ _ _⟩
    unfold f_X8_narrow
    simp (disch := first | assumption | omega | (refine inb_n ?_ ?_ <;> omega) | fail) only [ck_t, Option.bind_some, iLeP, iLeN, iLtP, iLtN, iEqP, iEqN, nI_1, pk_mul, nI_add, cl_n, zI0, zI1, zI8, bI_z, if_true_eq, if_false_eq, if_true, if_false, e1, onE]
/-- what cut answers -/
def cutA (n q : Nat) (c : Nat → Nat → Nat) : Int32 := if nset n q c = 0 then -1 else nI (nset n q c)
theorem kcut_p (h : kCI G M A p tl tv ol ov ns qs cs) {i1 : Int32} {s : Nat} (ho : nwOK_ ns cs i1 s) : OK (f_X8_cut G M (A 0) i1) (fun r => r.1 = cutA (ns s) (qs s) (cs s) ∧ kCI G r.2 A p tl tv ol ov ns qs cs ∧ unt M r.2 A 53) := by
  obtain ⟨⟨v, M1⟩, a1, a2, a3, a4, a5, a6⟩ := find_ok h ho
  obtain ⟨hs, rfl, hn2, hwh⟩ := ho
  dsimp only at a2 a3 a4 a5 a6
  subst a2
  have k0 : isK G (A 0) 8 := h.1.2.1 0 (by decide)
  have k16 : isK G (A 16) 4 := h.1.2.1 16 (by decide)
  have e1 := chainIn_p h hs (show 0 < ns s by omega)
  have r8 := h.2.1.1.2.2.2.2.2.2.2.1
  have r8' := a3.2.1.1.2.2.2.2.2.2.2.1
  unfold f_X8_cut cutA
  by_cases h0 : nset (ns s) (qs s) (cs s) = 0
  · rw [if_pos h0] at a1
    refine ⟨(-1, M1), ?_, by rw [if_pos h0], a3, a4⟩
    simp (disch := first | assumption | omega | (refine inb_n ?_ ?_ <;> omega) | fail) only [ck_t, Option.bind_some, iLeP, iLeN, iLtP, iLtN, iEqP, iEqN, nI_1, pk_mul, nI_add, cl_n, zI0, zI1, zI8, bI_z, if_true_eq, if_false_eq, if_true, if_false, e1, onE, r8, a1]
  · rw [if_neg h0] at a1
    refine ⟨(nI (nset (ns s) (qs s) (cs s)), M1), ?_, by rw [if_neg h0], a3, a4⟩
    simp (disch := first | assumption | omega | (refine inb_n ?_ ?_ <;> omega) | fail) only [ck_t, Option.bind_some, iLeP, iLeN, iLtP, iLtN, iEqP, iEqN, nI_1, pk_mul, nI_add, cl_n, zI0, zI1, zI8, bI_z, if_true_eq, if_false_eq, if_true, if_false, e1, onE, r8, a1, r8', a5]
theorem kcut_n (h : kCI G M A p tl tv ol ov ns qs cs) {i1 : Int32} (ho : ¬ ∃ s, nwOK_ ns cs i1 s) : OK (f_X8_cut G M (A 0) i1) (fun r => r.1 = -1 ∧ kCI G r.2 A p tl tv ol ov ns qs cs ∧ unt M r.2 A 53) := by
  have k0 : isK G (A 0) 8 := h.1.2.1 0 (by decide)
  have k16 : isK G (A 16) 4 := h.1.2.1 16 (by decide)
  have r8 := h.2.1.1.2.2.2.2.2.2.2.1
  unfold f_X8_cut
  by_cases h1 : slo ns i1
  · obtain ⟨s, hs, rfl, hn⟩ := h1
    have e1 := chainIn_p h hs hn
    have a1 := find_n h hs hn (fun z => ho ⟨s, hs, rfl, z.1, z.2⟩)
    obtain ⟨a3, a4⟩ := nk_fr h (fr_I (a := A 16) (k := 0) (x := nI 0) (al := [A 16]) in_1)
    refine ⟨(-1, mwI M (A 16) 0 (nI 0)), ?_, rfl, a3, a4⟩
    simp (disch := first | assumption | omega | (refine inb_n ?_ ?_ <;> omega) | fail) only [ck_t, Option.bind_some, iLeP, iLeN, iLtP, iLtN, iEqP, iEqN, nI_1, pk_mul, nI_add, cl_n, zI0, zI1, zI8, bI_z, if_true_eq, if_false_eq, if_true, if_false, e1, onE, r8, a1]
  · have e1 := chainIn_n h h1
    refine ⟨(-1, M), ?_, rfl, h, unt_rf _ _ _⟩
    simp (disch := first | assumption | omega | (refine inb_n ?_ ?_ <;> omega) | fail) only [ck_t, Option.bind_some, iLeP, iLeN, iLtP, iLtN, iEqP, iEqN, nI_1, pk_mul, nI_add, cl_n, zI0, zI1, zI8, bI_z, if_true_eq, if_false_eq, if_true, if_false, e1, onE]
end
