/-! the reference: states of a set listed, the table laid, the weights -/
theorem el_cap {S n k : Nat} (hk : k < cnt S n) : ∀ {m : Nat}, n ≤ m → el S k m = el S k n
  | 0, h => by have : n = 0 := by omega
               subst this; rfl
  | m + 1, h => by
    by_cases e : n = m + 1
    · subst e; rfl
    · have h1 := cnt_mono S (show n ≤ m by omega)
      rw [el_s (by omega), el_cap hk (show n ≤ m by omega)]
/-- how many below i aren't k -/
def rk (k i : Nat) : Nat := if i ≤ k then i else i - 1
theorem rk_s {k i : Nat} (h : i ≠ k) : rk k (i + 1) = rk k i + 1 := by
  unfold rk
  repeat' split
  all_goals omega
theorem rk_k (k : Nat) : rk k (k + 1) = rk k k := by
  unfold rk
  repeat' split
  all_goals omega
theorem rk_i {k i : Nat} (h : i ≠ k) : rmc k (rk k i) = i := by
  unfold rmc rk
  repeat' split
  all_goals omega
theorem rk_le (k i : Nat) : rk k i ≤ i := by
  unfold rk
  split <;> omega
theorem rk_m {k : Nat} : ∀ {i m : Nat}, i ≤ m → rk k i ≤ rk k m := by
  intro i m h
  unfold rk
  repeat' split
  all_goals omega
section
variable {G : Gg} {M : Mm} {R : Nat → Nat} {tl : Nat} {tv : Nat → Nat} {ol : Nat} {ov ns qs : Nat → Nat} {cs : Nat → Nat → Nat → Nat}
theorem list_ok (hs : shR G R) (hr : rfR M R) {n S : Nat} (hn : n ≤ 8) (hS : S < 2 ^ n) : OK (f_X9_list G M (R 0) (nI S)) (fun r => r.1 = nI (cnt S n) ∧ fr M r.2 [R 11] [] ∧ ∀ k, k < cnt S n → r.2.1 (R 11) k = nI (el S k n)) := by
  have k0 : isK G (R 0) 9 := hs.2.1 0 (by decide)
  have k11 : isK G (R 11) 10 := hs.2.1 11 (by decide)
  have l11 : G.2.2 (R 11) = 8 := hs.2.2 11 (by decide) (by decide)
  have b8 := p2_31 hn
  have hcap : cnt S 8 = cnt S n := cnt_cap hS hn
  have e := lpI (fun f1 i3 (x : Int32 × Mm) => lp_X9_list_4 G (R 0) (nI S) f1 x.1 i3 x.2) (fun j x => x.1 = nI (cnt S j) ∧ fr M x.2 [R 11] [] ∧ ∀ k, k < cnt S j → x.2.1 (R 11) k = nI (el S k j)) 8 (fun r => r.1 = nI (cnt S n) ∧ fr M r.2 [R 11] [] ∧ ∀ k, k < cnt S n → r.2.1 (R 11) k = nI (el S k n)) (by omega) (fun f1 j x hj hx => by
    obtain ⟨x1, x2⟩ := x
    obtain ⟨e1, e2, e3⟩ := hx
    dsimp only at e1 e2 e3
    subst e1
    left
    have hcj := cnt_le S j
    have r13 : x2.2.2 (R 0) 13 = some (R 11) := by rw [e2.2.2]; exact hr.2.2.2.2.2.2.2.2.2.2.1
    by_cases hb : S.testBit j = true
    · have hcs : cnt S (j + 1) = cnt S j + 1 := by rw [cnt_s, if_pos hb]
      have hel : el S (cnt S j) (j + 1) = j := el_un (by omega) hb
      refine ⟨(nI (cnt S (j + 1)), mwI x2 (R 11) (cnt S j) (nI j)), ⟨rfl, fr_tr e2 (fr_I in_1), fun k hk => ?_⟩, ?_⟩
      · dsimp only
        by_cases hkj : k = cnt S j
        · subst hkj
          rw [mwI_s, hel]
        · rw [mwI_n (Or.inr hkj), el_s (by omega)]
          exact e3 k (by omega)
      · dsimp only
        rw [lp_X9_list_4, bd_X9_list_4]
        simp (disch := first | assumption | omega | (refine inb_n ?_ ?_ <;> omega) | fail) only [ck_t, Option.bind_some, iLeP, iLeN, iLtP, iLtN, iEqP, iEqN, nI_1, pk_mul, nI_add, cl_n, zI0, zI1, zI8, bI_z, if_true_eq, if_false_eq, if_true, if_false, bT0N, r13, l11, hcs]
    · rw [Bool.not_eq_true] at hb
      have hcs : cnt S (j + 1) = cnt S j := by rw [cnt_s, hb]; rfl
      refine ⟨(nI (cnt S (j + 1)), x2), ⟨rfl, e2, fun k hk => ?_⟩, ?_⟩
      · rw [hcs] at hk
        rw [el_s hk]
        exact e3 k hk
      · dsimp only
        rw [lp_X9_list_4, bd_X9_list_4]
        simp (disch := first | assumption | omega | (refine inb_n ?_ ?_ <;> omega) | fail) only [ck_t, Option.bind_some, iLeP, iLeN, iLtP, iLtN, iEqP, iEqN, nI_1, pk_mul, nI_add, cl_n, zI0, zI1, zI8, bI_z, if_true_eq, if_false_eq, if_true, if_false, bT0P, hcs]) (fun f1 x hx => by
    obtain ⟨x1, x2⟩ := x
    obtain ⟨e1, e2, e3⟩ := hx
    dsimp only at e1 e2 e3
    refine ⟨(x1, x2), ?_, by rw [← hcap]; exact e1, e2, fun k hk => ?_⟩
    · dsimp only
      rw [lp_X9_list_4, bd_X9_list_4]
      simp (disch := first | assumption | omega | (refine inb_n ?_ ?_ <;> omega) | fail) only [ck_t, Option.bind_some, iLeP, iLeN, iLtP, iLtN, iEqP, iEqN, nI_1, pk_mul, nI_add, cl_n, zI0, zI1, zI8, bI_z, if_true_eq, if_false_eq, if_true, if_false]
    · dsimp only
      rw [e3 k (by omega), el_cap hk hn]) (j0 := 0) (x := (nI 0, M)) (by omega) ⟨rfl, fr_rf, fun k hk => absurd hk (by show ¬ k < 0; omega)⟩
  obtain ⟨⟨v, M'⟩, e1, e2⟩ := e
  refine ⟨(v, M'), ?_, e2⟩
  unfold f_X9_list
  rw [zI0]
  exact (congrArg (Option.bind · _) e1)
/-- the cell of the table at the i-th and the j-th listed state -/
def tE (q : Nat) (c : Nat → Nat → Nat) (o : Nat → Nat) (i j : Nat) : Int := ((if i = j then q else 0 : Nat) : Int) - ((c (o i) (o j) : Nat) : Int)
theorem lay_row (h : rRI G M R tl tv ol ov ns qs cs) {s m k i : Nat} {o : Nat → Nat} {i3 : Int32} (hs : s < 6) (hn : 0 < ns s) (hm : m ≤ 8) (hi : i < m) (hik : i ≠ k) (ho : ∀ j, j < m → M.1 (R 11) j = nI (o j) ∧ o j < ns s) (hk : ∀ j, j < m → (nI j = i3 ↔ j = k)) : OK (lp_X9_lay_27 G (R 0) (nI s) (nI m) i3 (nI (rk k i)) (nI i) FU (nI 0) (nI 0) M) (fun M' => fr M M' [] [R 7] ∧ (∀ b, b < rk k m → M'.2.1 (R 7) (8 * rk k i + b) = Int64.ofInt (tE (qs s) (cs s) o i (rmc k b))) ∧ ∀ x, x < 8 * rk k i → M'.2.1 (R 7) x = M.2.1 (R 7) x) := by
  obtain ⟨hg, c1, c2, c3⟩ := slo_c h hs hn
  have hn8 := hg.2.1
  have hq6 := hg.2.2.2.1
  have k0 : isK G (R 0) 9 := h.1.2.1 0 (by decide)
  have k3 : isK G (R 3) 10 := h.1.2.1 3 (by decide)
  have l3 : G.2.2 (R 3) = 7 := h.1.2.2 3 (by decide) (by decide)
  have k7 : isK G (R 7) 11 := h.1.2.1 7 (by decide)
  have l7 : G.2.2 (R 7) = 64 := h.1.2.2 7 (by decide) (by decide)
  have k11 : isK G (R 11) 10 := h.1.2.1 11 (by decide)
  have l11 : G.2.2 (R 11) = 8 := h.1.2.2 11 (by decide) (by decide)
  have hri := rk_le k i
  refine lpI (fun f1 i7 (x : Int32 × Mm) => lp_X9_lay_27 G (R 0) (nI s) (nI m) i3 (nI (rk k i)) (nI i) f1 x.1 i7 x.2) (fun j x => x.1 = nI (rk k j) ∧ fr M x.2 [] [R 7] ∧ (∀ b, b < rk k j → x.2.2.1 (R 7) (8 * rk k i + b) = Int64.ofInt (tE (qs s) (cs s) o i (rmc k b))) ∧ ∀ y, y < 8 * rk k i → x.2.2.1 (R 7) y = M.2.1 (R 7) y) m _ (by omega) (fun f1 j x hj hx => ?_) (fun f1 x hx => ?_) (x := (nI 0, M)) (by omega) ⟨by unfold rk; rw [if_pos (by omega)], fr_rf, fun b hb => absurd hb (by unfold rk; rw [if_pos (by omega)]; omega), fun _ _ => rfl⟩
  · obtain ⟨x1, x2⟩ := x
    obtain ⟨e1, e2, e3, e4⟩ := hx
    dsimp only at e1 e2 e3 e4
    subst e1
    left
    have hx' : rRI G x2 R tl tv ol ov ns qs cs := rRI_r h (rfr_fr h.1 e2 (fun x hx => by simp at hx) (fun x hx => ⟨7, by decide, by simpa using hx⟩))
    have r9 := hx'.2.1.2.2.2.2.2.2.1
    have r13 := hx'.2.1.2.2.2.2.2.2.2.2.2.2.1
    have r4 := hx'.2.1.2.2.1
    have c2' := (slo_c hx' hs hn).2.2.1
    have o1 : x2.1 (R 11) i = nI (o i) := by rw [e2.1 _ (by simp)]; exact (ho i hi).1
    have o2 : x2.1 (R 11) j = nI (o j) := by rw [e2.1 _ (by simp)]; exact (ho j hj).1
    have ea := rat_c hx' hs hn (ho i hi).2 (ho j hj).2
    have hle := gch_le hg (o i) (o j)
    have hrj := rk_le k j
    by_cases hjk : j = k
    · have hj3 := (hk j hj).mpr hjk
      have hkk : rk k (j + 1) = rk k j := by rw [hjk]; exact rk_k k
      refine ⟨(nI (rk k (j + 1)), x2), ⟨rfl, e2, ?_, e4⟩, ?_⟩
      · rw [hkk]; exact e3
      · dsimp only
        rw [hkk]
        rw [lp_X9_lay_27, bd_X9_lay_27, if_neg (nI_ge hj (by omega)), if_pos hj3, nI_1]
    · have hj3 : ¬ nI j = i3 := fun z => hjk ((hk j hj).mp z)
      have et := toL_sub (a := if i = j then qs s else 0) (b := cs s (o i) (o j)) (by split <;> omega) (by omega)
      refine ⟨(nI (rk k (j + 1)), mwJ x2 (R 7) (8 * rk k i + rk k j) (Int64.ofInt (tE (qs s) (cs s) o i j))), ⟨rfl, fr_tr e2 (fr_J in_1), fun b hb => ?_, fun y hy => ?_⟩, ?_⟩
      · dsimp only
        rw [rk_s hjk] at hb
        by_cases hbj : b = rk k j
        · subst hbj
          rw [mwJ_s, rk_i hjk]
        · rw [mwJ_n (by omega)]; exact e3 b (by omega)
      · dsimp only
        rw [mwJ_n (by omega)]; exact e4 y hy
      · dsimp only
        rw [rk_s hjk]
        rw [lp_X9_lay_27, bd_X9_lay_27, if_neg (nI_ge hj (by omega)), if_neg hj3, ck_t k0, r9, Option.bind_some]
        by_cases hij : i = j
        · rw [if_pos hij] at et
          unfold tE
          rw [if_pos hij]
          simp (disch := first | assumption | omega | (refine inb_n ?_ ?_ <;> omega) | fail) only [ck_t, Option.bind_some, iLeP, iLeN, iLtP, iLtN, iEqP, iEqN, nI_1, pk_mul, nI_add, cl_n, zI0, zI1, zI8, bI_z, if_true_eq, if_false_eq, if_true, if_false, r4, l3, c2', jn_X9_lay_71, r13, l11, o1, o2, ea, l7, et]
        · rw [if_neg hij] at et
          unfold tE
          rw [if_neg hij]
          simp (disch := first | assumption | omega | (refine inb_n ?_ ?_ <;> omega) | fail) only [ck_t, Option.bind_some, iLeP, iLeN, iLtP, iLtN, iEqP, iEqN, nI_1, pk_mul, nI_add, cl_n, zI0, zI1, zI8, bI_z, if_true_eq, if_false_eq, if_true, if_false, jn_X9_lay_71, r13, l11, o1, o2, ea, l7, et]
  · obtain ⟨x1, x2⟩ := x
    obtain ⟨e1, e2, e3, e4⟩ := hx
    refine ⟨x2, ?_, e2, e3, e4⟩
    dsimp only
    rw [lp_X9_lay_27, bd_X9_lay_27]
    simp (disch := first | assumption | omega | (refine inb_n ?_ ?_ <;> omega) | fail) only [ck_t, Option.bind_some, iLeP, iLeN, iLtP, iLtN, iEqP, iEqN, nI_1, pk_mul, nI_add, cl_n, zI0, zI1, zI8, bI_z, if_true_eq, if_false_eq, if_true, if_false]
theorem lay_ok (h : rRI G M R tl tv ol ov ns qs cs) {s m k : Nat} {o : Nat → Nat} {i3 : Int32} (hs : s < 6) (hn : 0 < ns s) (hm : m ≤ 8) (ho : ∀ j, j < m → M.1 (R 11) j = nI (o j) ∧ o j < ns s) (hk : ∀ j, j < m → (nI j = i3 ↔ j = k)) : OK (f_X9_lay G M (R 0) (nI s) (nI m) i3) (fun r => r.1 = nI (rk k m) ∧ fr M r.2 [] [R 7] ∧ ∀ a b, a < rk k m → b < rk k m → r.2.2.1 (R 7) (8 * a + b) = Int64.ofInt (tE (qs s) (cs s) o (rmc k a) (rmc k b))) := by
  have hrm := rk_le k m
  have e := lpI (fun f1 i5 (x : Int32 × Mm) => lp_X9_lay_6 G (R 0) (nI s) (nI m) i3 f1 x.1 i5 x.2) (fun i x => x.1 = nI (rk k i) ∧ fr M x.2 [] [R 7] ∧ ∀ a b, a < rk k i → b < rk k m → x.2.2.1 (R 7) (8 * a + b) = Int64.ofInt (tE (qs s) (cs s) o (rmc k a) (rmc k b))) m (fun r => r.1 = nI (rk k m) ∧ fr M r.2 [] [R 7] ∧ ∀ a b, a < rk k m → b < rk k m → r.2.2.1 (R 7) (8 * a + b) = Int64.ofInt (tE (qs s) (cs s) o (rmc k a) (rmc k b))) (by omega) (fun f1 i x hi hx => by
    obtain ⟨x1, x2⟩ := x
    obtain ⟨e1, e2, e3⟩ := hx
    dsimp only at e1 e2 e3
    subst e1
    left
    by_cases hik : i = k
    · have hi3 := (hk i hi).mpr hik
      have hkk : rk k (i + 1) = rk k i := by rw [hik]; exact rk_k k
      refine ⟨(nI (rk k (i + 1)), x2), ⟨rfl, e2, ?_⟩, ?_⟩
      · rw [hkk]; exact e3
      · dsimp only
        rw [hkk]
        rw [lp_X9_lay_6, bd_X9_lay_6, if_neg (nI_ge hi (by omega)), if_pos hi3, nI_1]
    · have hi3 : ¬ nI i = i3 := fun z => hik ((hk i hi).mp z)
      have hx' : rRI G x2 R tl tv ol ov ns qs cs := rRI_r h (rfr_fr h.1 e2 (fun x hx => by simp at hx) (fun x hx => ⟨7, by decide, by simpa using hx⟩))
      obtain ⟨y, a1, a2, a3, a4⟩ := lay_row (i := i) (o := o) hx' hs hn hm hi hik (fun j hj => by rw [e2.1 _ (by simp)]; exact ho j hj) hk
      refine ⟨(nI (rk k (i + 1)), y), ⟨rfl, fr_tr e2 a2, fun a b ha hb => ?_⟩, ?_⟩
      · dsimp only
        rw [rk_s hik] at ha
        by_cases hai : a = rk k i
        · subst hai
          rw [a3 b hb, rk_i hik]
        · rw [a4 _ (by omega)]
          exact e3 a b (by omega) hb
      · dsimp only
        rw [rk_s hik]
        rw [lp_X9_lay_6, bd_X9_lay_6, if_neg (nI_ge hi (by omega)), if_neg hi3]
        simp (disch := first | assumption | omega | (refine inb_n ?_ ?_ <;> omega) | fail) only [ck_t, Option.bind_some, iLeP, iLeN, iLtP, iLtN, iEqP, iEqN, nI_1, pk_mul, nI_add, cl_n, zI0, zI1, zI8, bI_z, if_true_eq, if_false_eq, if_true, if_false, a1]) (fun f1 x hx => by
    obtain ⟨x1, x2⟩ := x
    obtain ⟨e1, e2, e3⟩ := hx
    refine ⟨(x1, x2), ?_, e1, e2, e3⟩
    dsimp only
    rw [lp_X9_lay_6, bd_X9_lay_6]
    simp (disch := first | assumption | omega | (refine inb_n ?_ ?_ <;> omega) | fail) only [ck_t, Option.bind_some, iLeP, iLeN, iLtP, iLtN, iEqP, iEqN, nI_1, pk_mul, nI_add, cl_n, zI0, zI1, zI8, bI_z, if_true_eq, if_false_eq, if_true, if_false]) (j0 := 0) (x := (nI 0, M)) (by omega) ⟨by unfold rk; rw [if_pos (by omega)], fr_rf, fun a b ha => absurd ha (by unfold rk; rw [if_pos (by omega)]; omega)⟩
  obtain ⟨⟨v, M'⟩, e1, e2⟩ := e
  refine ⟨(v, M'), ?_, e2⟩
  unfold f_X9_lay
  rw [zI0]
  exact (congrArg (Option.bind · _) e1)
theorem refO_R (h : rRI G M R tl tv ol ov ns qs cs) : refO G M (R 0) (R 7) (R 8) (R 9) := by
  obtain ⟨hs, hr, _⟩ := h
  exact ⟨hs.2.1 0 (by decide), hr.2.2.2.2.2.2.1, hr.2.2.2.2.2.2.2.1, hr.2.2.2.2.2.2.2.2.1, hs.2.1 7 (by decide), hs.2.1 8 (by decide), hs.2.1 9 (by decide), hs.2.2 7 (by decide) (by decide), hs.2.2 8 (by decide) (by decide), hs.2.2 9 (by decide) (by decide), sR_ne hs (by decide) (by decide) (by decide), sR_ne hs (by decide) (by decide) (by decide)⟩
theorem fr_set {a : Nat} {g : Nat → Int64} {al : List Nat} (h : a ∈ al) : fr M (setJ M a g) [] al := ⟨fun _ _ => rfl, fun b hb => setJ_o (fun e => hb (e ▸ h)), rfl⟩
end
/-- the minor that the reference lays is the class's -/
theorem minor_eq {n q S k : Nat} {c : Nat → Nat → Nat} (hn : n ≤ 8) (hS : S < 2 ^ n) (hk : k < cnt S n) : det (rk k (cnt S n)) (fun a b => tE q c (fun j => el S j n) (rmc k a) (rmc k b)) = cD n q c S (el S k n) := by
  obtain ⟨a1, a2, a3⟩ := el_ok S k hk
  have hx : sdf S (2 ^ el S k n) = S ^^^ 2 ^ el S k n := by
    apply set_ext (n := n)
    · exact Nat.lt_of_le_of_lt (sdf_le _ _) hS
    · exact xor_lt hS a1
    · intro i hi
      rw [sdf1_t (by omega), tb_flip]
      by_cases e : el S k n = i
      · rw [decide_eq_true e, ← e, a2]; rfl
      · rw [decide_eq_false e]; simp
  have hc := cnt_flip a2 n
  rw [if_pos a1] at hc
  have hr : rk k (cnt S n) = cnt S n - 1 := by unfold rk; rw [if_neg (by omega)]
  unfold cD
  rw [hx, hr, show cnt (S ^^^ 2 ^ el S k n) n = cnt S n - 1 by omega]
  apply det_congr
  intro i j hi hj
  unfold mtx tE
  rw [el_flip hk (by omega), el_flip hk (by omega)]
  have hri : rmc k i < cnt S n := by unfold rmc; split <;> omega
  have hrj : rmc k j < cnt S n := by unfold rmc; split <;> omega
  by_cases e : rmc k i = rmc k j
  · rw [if_pos e, if_pos (by rw [e])]
  · rw [if_neg e, if_neg (fun z => e (el_inj hri hrj z))]
