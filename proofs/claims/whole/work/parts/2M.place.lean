/-! slots; a settled chain put into its slot -/
def slo (ns : Nat → Nat) (i : Int32) : Prop := ∃ s, s < 6 ∧ i = nI s ∧ 0 < ns s
theorem int_c (x : Int32) : x < nI 0 ∨ ∃ j, j < 2 ^ 31 ∧ x = nI j := by
  by_cases h : x < nI 0
  · exact Or.inl h
  · exact Or.inr (nI_of h)
theorem neg_n {x : Int32} (h : x < nI 0) {j : Nat} (hj : j < 2 ^ 31) : x ≠ nI j := fun e => by
  rw [e] at h
  exact absurd h (nI_pos hj)
theorem isSlot_p {k : Nat} (h : k < 6) : f_X8_isSlot (nI k) = some (nI 1) := by
  have h6 : (6 : Int32) = nI 6 := rfl
  unfold f_X8_isSlot
  simp (disch := first | assumption | omega | (refine inb_n ?_ ?_ <;> omega) | fail) only [ck_t, Option.bind_some, iLeP, iLeN, iLtP, iLtN, iEqP, iEqN, nI_1, pk_mul, nI_add, cl_n, zI0, zI1, zI8, bI_z, if_true_eq, if_false_eq, if_true, if_false, h6]
theorem isSlot_n {i : Int32} (h : ¬ ∃ k, k < 6 ∧ i = nI k) : f_X8_isSlot i = some (nI 0) := by
  have h6 : (6 : Int32) = nI 6 := rfl
  unfold f_X8_isSlot
  rcases int_c i with hn | ⟨j, hj, rfl⟩
  · rw [zI0, if_pos hn]
  · have : 6 ≤ j := by
      rcases Nat.lt_or_ge j 6 with h1 | h1
      · exact absurd ⟨j, h1, rfl⟩ h
      · exact h1
    simp (disch := first | assumption | omega | (refine inb_n ?_ ?_ <;> omega) | fail) only [ck_t, Option.bind_some, iLeP, iLeN, iLtP, iLtN, iEqP, iEqN, nI_1, pk_mul, nI_add, cl_n, zI0, zI1, zI8, bI_z, if_true_eq, if_false_eq, if_true, if_false, h6]
theorem isSlot9_p {k : Nat} (h : k < 6) : f_X9_isSlot (nI k) = some (nI 1) := isSlot_p h
theorem isSlot9_n {i : Int32} (h : ¬ ∃ k, k < 6 ∧ i = nI k) : f_X9_isSlot i = some (nI 0) := isSlot_n h
def ud (g : Nat → Nat) (t v : Nat) : Nat → Nat := fun s => if s = t then v else g s
def ud3 (g : Nat → Nat → Nat → Nat) (t : Nat) (v : Nat → Nat → Nat) : Nat → Nat → Nat → Nat := fun s => if s = t then v else g s
def swp (p : Nat → Nat) (t : Nat) : Nat → Nat := fun s => if s = t then p 6 else if s = 6 then p t else p s
theorem swp_pm {p : Nat → Nat} {t : Nat} (h : pm p) (ht : t < 6) : pm (swp p t) := by
  obtain ⟨h1, h2⟩ := h
  refine ⟨fun s hs => ?_, fun s u hs hu e => ?_⟩
  · unfold swp
    split
    · exact h1 6 (by omega)
    · split
      · exact h1 t (by omega)
      · exact h1 s hs
  · unfold swp at e
    by_cases a1 : s = t
    · rw [if_pos a1] at e
      by_cases b1 : u = t
      · omega
      · rw [if_neg b1] at e
        by_cases b2 : u = 6
        · rw [if_pos b2] at e
          have := h2 6 t (by omega) (by omega) e
          omega
        · rw [if_neg b2] at e
          have := h2 6 u (by omega) (by omega) e
          omega
    · rw [if_neg a1] at e
      by_cases a2 : s = 6
      · rw [if_pos a2] at e
        by_cases b1 : u = t
        · rw [if_pos b1] at e
          have := h2 t 6 (by omega) (by omega) e
          omega
        · rw [if_neg b1] at e
          by_cases b2 : u = 6
          · omega
          · rw [if_neg b2] at e
            have := h2 t u (by omega) (by omega) e
            omega
      · rw [if_neg a2] at e
        by_cases b1 : u = t
        · rw [if_pos b1] at e
          have := h2 s 6 (by omega) (by omega) e
          omega
        · rw [if_neg b1] at e
          by_cases b2 : u = 6
          · rw [if_pos b2] at e
            have := h2 s t (by omega) (by omega) e
            omega
          · rw [if_neg b2] at e
            exact h2 s u (by omega) (by omega) e
theorem sN_div {D : Nat} {f : Nat → Nat} (hD : 0 < D) : ∀ {n : Nat}, (∀ j, j < n → D ∣ f j) → sN (fun j => f j / D) n = sN f n / D
  | 0, _ => (Nat.zero_div D).symm
  | n + 1, h => by
    rw [sN_succ, sN_succ, sN_div hD (fun j hj => h j (by omega))]
    obtain ⟨k, hk⟩ := h n (by omega)
    rw [hk, Nat.mul_div_cancel_left _ hD, Nat.add_mul_div_left _ _ hD]
theorem mwP_g {M : Mm} {a k b j : Nat} {x : Option Nat} : (mwP M a k x).2.2 b j = if b = a ∧ j = k then x else M.2.2 b j := by
  by_cases hb : b = a
  · subst hb
    rw [mwP_1]
    by_cases hj : j = k
    · subst hj
      rw [va_up_self, if_pos ⟨rfl, rfl⟩]
    · rw [va_up_ne _ _ hj, if_neg (fun h => hj h.2)]
  · rw [if_neg (fun h => hb h.1)]
    exact congrFun (va_up_ne _ _ hb) j
section
variable {G : Gg} {M : Mm} {A p : Nat → Nat} {tl : Nat} {tv : Nat → Nat} {ol : Nat} {ov ns qs : Nat → Nat} {cs : Nat → Nat → Nat → Nat}
theorem chainIn_p (h : kCI G M A p tl tv ol ov ns qs cs) {s : Nat} (hs : s < 6) (hn : 0 < ns s) : f_X8_chainIn G M (A 0) (nI s) = some (some (A (18 + 5 * p s))) := by
  obtain ⟨hS, hr, hp, ht, ho, hw, hc⟩ := h
  have k0 : isK G (A 0) 8 := hS.2.1 0 (by decide)
  have k4 : isK G (A 4) 12 := hS.2.1 4 (by decide)
  have l4 : G.2.2 (A 4) = 6 := hS.2.2 4 (by decide) (by decide)
  have kc := (sh_ch hS (hp.1 s (by omega))).1
  have r3 := hr.1.2.2.1
  have r4 := hr.2.2.2.2.2.2.2 s hs
  have e1 := isSlot_p hs
  rcases hc s hs with ⟨z1, z2⟩ | ⟨z1, z2, z3⟩
  · omega
  · have h5 := z2.1.2.2.2.2.1
    have h6 := z2.1.2.2.2.2.2.1
    unfold f_X8_chainIn
    simp (disch := first | assumption | omega | (refine inb_n ?_ ?_ <;> omega) | fail) only [ck_t, Option.bind_some, iLeP, iLeN, iLtP, iLtN, iEqP, iEqN, nI_1, pk_mul, nI_add, cl_n, zI0, zI1, zI8, bI_z, if_true_eq, if_false_eq, if_true, if_false, e1, r3, l4, r4, h5]
theorem chainIn_n (h : kCI G M A p tl tv ol ov ns qs cs) {i : Int32} (hi : ¬ slo ns i) : f_X8_chainIn G M (A 0) i = some none := by
  obtain ⟨hS, hr, hp, ht, ho, hw, hc⟩ := h
  by_cases hk : ∃ k, k < 6 ∧ i = nI k
  · obtain ⟨s, hs, rfl⟩ := hk
    have hn : ns s = 0 := by
      rcases Nat.eq_zero_or_pos (ns s) with h1 | h1
      · exact h1
      · exact absurd ⟨s, hs, rfl, h1⟩ hi
    have k0 : isK G (A 0) 8 := hS.2.1 0 (by decide)
    have k4 : isK G (A 4) 12 := hS.2.1 4 (by decide)
    have l4 : G.2.2 (A 4) = 6 := hS.2.2 4 (by decide) (by decide)
    have kc := (sh_ch hS (hp.1 s (by omega))).1
    have r3 := hr.1.2.2.1
    have r4 := hr.2.2.2.2.2.2.2 s hs
    have e1 := isSlot_p hs
    rcases hc s hs with ⟨z1, z2⟩ | ⟨z1, z2, z3⟩
    · unfold f_X8_chainIn
      simp (disch := first | assumption | omega | (refine inb_n ?_ ?_ <;> omega) | fail) only [ck_t, Option.bind_some, iLeP, iLeN, iLtP, iLtN, iEqP, iEqN, nI_1, pk_mul, nI_add, cl_n, zI0, zI1, zI8, bI_z, if_true_eq, if_false_eq, if_true, if_false, e1, r3, l4, r4, z2]
    · have := z1.1
      omega
  · have e1 := isSlot_n hk
    unfold f_X8_chainIn
    simp (disch := first | assumption | omega | (refine inb_n ?_ ?_ <;> omega) | fail) only [ck_t, Option.bind_some, iLeP, iLeN, iLtP, iLtN, iEqP, iEqN, nI_1, pk_mul, nI_add, cl_n, zI0, zI1, zI8, bI_z, if_true_eq, if_false_eq, if_true, if_false, e1]
theorem place_n (h : kCI G M A p tl tv ol ov ns qs cs) {t n q : Nat} {f : Nat → Nat → Nat} (ht : t < 6) (hd : dfC G M (A (18 + 5 * p 6)) (A (19 + 5 * p 6)) n q f) (hq : 0 < q) (hq2 : q < 2 ^ 20) (hs : 60 < q / gcS q (fun k => f (k / 8) (k % 8)) 64) : f_X8_place G M (A 0) (nI t) = some ((-1), M) := by
  have e1 := settle_n hd hq hq2 hs
  have e2 := isSlot_p ht
  obtain ⟨hS, hr, hp, h4⟩ := h
  have k0 : isK G (A 0) 8 := hS.2.1 0 (by decide)
  have kd6 := hd.1
  have r4 := hr.1.2.2.2.1
  unfold f_X8_place
  rw [zI0] at *
  simp (disch := first | assumption | omega | (refine inb_n ?_ ?_ <;> omega) | fail) only [ck_t, Option.bind_some, iLeP, iLeN, iLtP, iLtN, iEqP, iEqN, nI_1, pk_mul, nI_add, cl_n, zI0, zI1, zI8, bI_z, if_true_eq, if_false_eq, if_true, if_false, e2, r4, e1]
set_option maxHeartbeats 1000000 in
theorem place_ok (h : kCI G M A p tl tv ol ov ns qs cs) {t n q : Nat} {f : Nat → Nat → Nat} (ht : t < 6) (hd : dfC G M (A (18 + 5 * p 6)) (A (19 + 5 * p 6)) n q f) (hn : 1 ≤ n) (hq : 0 < q) (hq2 : q < 2 ^ 20) (hrow : ∀ i, i < n → sN (f i) n = q) (hz : ∀ i j, n ≤ i ∨ n ≤ j → f i j = 0) (hs : q / gcS q (fun k => f (k / 8) (k % 8)) 64 ≤ 60) : OK (f_X8_place G M (A 0) (nI t)) (fun r => r.1 = nI (q / gcS q (fun k => f (k / 8) (k % 8)) 64) ∧ kCI G r.2 A (swp p t) tl tv ol ov (ud ns t n) (ud qs t (q / gcS q (fun k => f (k / 8) (k % 8)) 64)) (ud3 cs t (fun i j => f i j / gcS q (fun k => f (k / 8) (k % 8)) 64)) ∧ unt M r.2 A 53) := by
  have hp6 : p 6 < 7 := h.2.2.1.1 6 (by decide)
  have hisG := isG_64 (q := q) hd.2.2.2.2.2.1 hz
  have hD := Nat.pos_of_dvd_of_pos (gcS_d q (fun k => f (k / 8) (k % 8)) 64) hq
  have hD2 := gcS_le (g := fun k => f (k / 8) (k % 8)) hq 64
  obtain ⟨⟨v1, M1⟩, a1, a2, a3, a4, a5, a6⟩ := settle_ok (kCI_ch h hp6) hd hq hq2 hs
  generalize gcS q (fun k => f (k / 8) (k % 8)) 64 = D at *
  dsimp only at a2 a3 a4 a5 a6
  subst a2
  have hq1 : 1 ≤ q / D := Nat.div_pos hD2 hD
  have hg : gch n (q / D) (fun i j => f i j / D) := ⟨hn, hd.2.2.2.2.2.1, hq1, hs, fun i hi => by
    rw [sN_div hD (fun j hj => hisG.2.1 i j hi hj), hrow i hi], fun i j hij => by show f i j / D = 0; rw [hz i j hij]; exact Nat.zero_div D⟩
  have hI1 : kCI G M1 A p tl tv ol ov ns qs cs := kCI_fr h a6 (fun x hx => by
    simp at hx
    rcases hx with rfl | rfl | rfl | rfl
    · exact ⟨_, by simp, rfl⟩
    · exact ⟨_, by simp, rfl⟩
    · exact ⟨_, by simp, rfl⟩
    · exact ⟨_, by simp, rfl⟩) (fun x hx => by simp at hx)
  have u1 : unt M M1 A 53 := unt_fr a6 (fun x hx => by
    simp at hx
    rcases hx with rfl | rfl | rfl | rfl
    · exact ⟨_, by omega, rfl⟩
    · exact ⟨_, by omega, rfl⟩
    · exact ⟨_, by omega, rfl⟩
    · exact ⟨_, by omega, rfl⟩) (fun x hx => by simp at hx)
  obtain ⟨hS, hr, hp, htp, ho, hw, hc⟩ := id hI1
  obtain ⟨d1, d2, d3, d4, d5, d6, d7, d8, d9⟩ := a3
  obtain ⟨b0, ⟨b1, b1l⟩, ⟨b2, b2l⟩, ⟨b3, b3l⟩, ⟨b4, b4l⟩⟩ := sh_ch hS hp6
  obtain ⟨r2, r3, r4, r5⟩ := hr.2.2.2.2.2.2.1 (p 6) hp6
  obtain ⟨w, w1, w2⟩ := hw (p 6) hp6
  have hCS : chS G M1 (A (18 + 5 * p 6)) (A (19 + 5 * p 6)) (A (20 + 5 * p 6)) (A (21 + 5 * p 6)) (A (22 + 5 * p 6)) n (q / D) (fun i j => f i j / D) (cN (fun i j => f i j / D) n) (cL (fun i j => f i j / D) n) w := ⟨⟨d1, d2, d3, d4, d5, d6, fun i j hi hj => d8 i j (by omega) (by omega), d9⟩, d7, hq1, hs, ⟨r3, b2, b2l⟩, ⟨r4, b3, b3l⟩, ⟨r5, b4, b4l⟩, a4, a5, fun i hi => w1 i (by omega), fun i => mkS_lt _ _, fun i => mkS_lt _ _, w2⟩
  obtain ⟨M2, f1, f2, f3, f4, f5⟩ := fill_ok (kCI_min hI1) hCS hg (sA_ne hS (by omega) (by omega) (by omega)) (sA_ne hS (by omega) (by omega) (by omega))
  have hpt : p t < 7 := hp.1 t (by omega)
  have hpne : p t ≠ p 6 := fun e => by have := hp.2 t 6 (by omega) (by omega) e; omega
  have k0 : isK G (A 0) 8 := hS.2.1 0 (by decide)
  have k4 : isK G (A 4) 12 := hS.2.1 4 (by decide)
  have l4 : G.2.2 (A 4) = 6 := hS.2.2 4 (by decide) (by decide)
  have k11 : isK G (A 11) 2 := hS.2.1 11 (by decide)
  have k12 : isK G (A 12) 3 := hS.2.1 12 (by decide)
  have q4 := h.2.1.1.2.2.2.1
  have q4' := hr.1.2.2.2.1
  have q7 := hr.1.2.2.2.2.2.2.1
  have q11 := hr.2.2.2.2.1.1
  have p2 : M2.2.2 = M1.2.2 := f2.2.2
  have t3 : M2.2.2 (A 0) 3 = some (A 4) := by rw [p2]; exact hr.1.2.2.1
  have t4 : M2.2.2 (A 0) 4 = some (A (18 + 5 * p 6)) := by rw [p2]; exact q4'
  have ts : M2.2.2 (A 4) t = some (A (18 + 5 * p t)) := by rw [p2]; exact hr.2.2.2.2.2.2.2 t ht
  have n04 : A 0 ≠ A 4 := sA_ne hS (by omega) (by omega) (by omega)
  have e2 := isSlot_p ht
  have g1 : (mwP (mwP M2 (A 4) t (some (A (18 + 5 * p 6)))) (A 0) 4 (some (A (18 + 5 * p t)))).2.2 (A 0) 3 = some (A 4) := by
    rw [mwP_g, if_neg (by omega), mwP_g, if_neg (fun z => n04 z.1)]; exact t3
  have g2 : (mwP (mwP M2 (A 4) t (some (A (18 + 5 * p 6)))) (A 0) 4 (some (A (18 + 5 * p t)))).2.2 (A 4) t = some (A (18 + 5 * p 6)) := by
    rw [mwP_g, if_neg (fun z => n04 z.1.symm), mwP_g, if_pos ⟨rfl, rfl⟩]
  have i2 : ∀ i, i < 53 → i ≠ 12 → M2.1 (A i) = M1.1 (A i) := fun i hi hne => f2.1 _ (ne_in (sA_ne hS hi (by omega) hne))
  have j2 : ∀ i, i < 53 → i ≠ 13 → i ≠ 14 → i ≠ 22 + 5 * p 6 → i ≠ 18 + 5 * p 6 → M2.2.1 (A i) = M1.2.1 (A i) := fun i hi n1 n2 n3 n4 => f2.2.1 _ (fun z => by
    simp at z
    rcases z with z | z | z | z
    · exact n1 (hS.1 _ _ hi (by omega) z)
    · exact n2 (hS.1 _ _ hi (by omega) z)
    · exact n3 (hS.1 _ _ hi (by omega) z)
    · exact n4 (hS.1 _ _ hi (by omega) z))
  have g3 : M2.1 (A (18 + 5 * p 6)) 1 = nI (q / D) := by rw [i2 _ (by omega) (by omega)]; exact d7
  refine ⟨(nI (q / D), mwP (mwP M2 (A 4) t (some (A (18 + 5 * p 6)))) (A 0) 4 (some (A (18 + 5 * p t)))), ?_, rfl, ⟨hS, ?_, swp_pm hp ht, ?_, ?_, fun k hk => ?_, fun s hs6 => ?_⟩, ?_⟩
  · unfold f_X8_place
    have g3' : (mwP (mwP M2 (A 4) t (some (A (18 + 5 * p 6)))) (A 0) 4 (some (A (18 + 5 * p t)))).1 (A (18 + 5 * p 6)) 1 = nI (q / D) := g3
    have h10 : (1 : Int32) = nI 0 ↔ False := by decide
    simp only [zI1] at a1
    simp (disch := first | assumption | omega | (refine inb_n ?_ ?_ <;> omega) | fail) only [ck_t, Option.bind_some, iLeP, iLeN, iLtP, iLtN, iEqP, iEqN, nI_1, pk_mul, nI_add, cl_n, zI0, zI1, zI8, bI_z, if_true_eq, if_false_eq, if_true, if_false, e2, q4, a1, q7, q11, q4', f1, t3, l4, ts, t4, g1, g2, g3']
  · have pp : ∀ b j, (mwP (mwP M2 (A 4) t (some (A (18 + 5 * p 6)))) (A 0) 4 (some (A (18 + 5 * p t)))).2.2 b j = if b = A 0 ∧ j = 4 then some (A (18 + 5 * p t)) else if b = A 4 ∧ j = t then some (A (18 + 5 * p 6)) else M1.2.2 b j := fun b j => by
      rw [mwP_g, mwP_g, p2]
    have keep : ∀ i j x, i < 53 → (i = 0 → j ≠ 4) → i ≠ 4 → M1.2.2 (A i) j = x → (mwP (mwP M2 (A 4) t (some (A (18 + 5 * p 6)))) (A 0) 4 (some (A (18 + 5 * p t)))).2.2 (A i) j = x := fun i j x hi h0 h4 hx => by
      rw [pp, if_neg (fun z => h0 (hS.1 i 0 hi (by omega) z.1) z.2), if_neg (fun z => h4 (hS.1 i 4 hi (by omega) z.1))]
      exact hx
    obtain ⟨⟨c0, c1, c3, c4, c5, c6, c7, c8, c9⟩, y1, ⟨y2, y3⟩, ⟨y4, y5⟩, ⟨y6, y7⟩, ⟨y8, y9⟩, y10, y11⟩ := hr
    have sw6 : swp p t 6 = p t := by unfold swp; rw [if_neg (by omega), if_pos rfl]
    refine ⟨⟨keep 0 0 _ (by omega) (by omega) (by omega) c0, keep 0 1 _ (by omega) (by omega) (by omega) c1, keep 0 3 _ (by omega) (by omega) (by omega) c3, ?_, keep 0 5 _ (by omega) (by omega) (by omega) c5, keep 0 6 _ (by omega) (by omega) (by omega) c6, keep 0 7 _ (by omega) (by omega) (by omega) c7, keep 0 8 _ (by omega) (by omega) (by omega) c8, keep 0 9 _ (by omega) (by omega) (by omega) c9⟩, keep 1 0 _ (by omega) (by omega) (by omega) y1, ⟨keep 5 0 _ (by omega) (by omega) (by omega) y2, keep 5 1 _ (by omega) (by omega) (by omega) y3⟩, ⟨keep 8 0 _ (by omega) (by omega) (by omega) y4, keep 8 1 _ (by omega) (by omega) (by omega) y5⟩, ⟨keep 11 0 _ (by omega) (by omega) (by omega) y6, keep 11 1 _ (by omega) (by omega) (by omega) y7⟩, ⟨keep 12 0 _ (by omega) (by omega) (by omega) y8, keep 12 1 _ (by omega) (by omega) (by omega) y9⟩, fun k hk => ?_, fun s hs6 => ?_⟩
    · rw [pp, if_pos ⟨rfl, rfl⟩, sw6]
    · obtain ⟨z1, z2, z3, z4⟩ := y10 k hk
      exact ⟨keep _ 2 _ (by omega) (by omega) (by omega) z1, keep _ 3 _ (by omega) (by omega) (by omega) z2, keep _ 4 _ (by omega) (by omega) (by omega) z3, keep _ 5 _ (by omega) (by omega) (by omega) z4⟩
    · rw [pp, if_neg (fun z => n04 z.1.symm)]
      unfold swp
      by_cases hst : s = t
      · rw [if_pos ⟨rfl, hst⟩, if_pos hst]
      · rw [if_neg (fun z => hst z.2), if_neg hst, if_neg (by omega)]
        exact y11 s hs6
  · show M2.1 (A 1) 1 = nI tl ∧ tl ≤ 80 ∧ (∀ k, k < tl → M2.1 (A 2) k = nI (tv k)) ∧ ∀ k, tv k < 256
    rw [i2 1 (by omega) (by omega), i2 2 (by omega) (by omega)]
    exact htp
  · show M2.1 (A 0) 2 = nI ol ∧ ol ≤ 8 ∧ ∀ k, k < ol → M2.1 (A 3) k = nI (ov k)
    rw [i2 0 (by omega) (by omega), i2 3 (by omega) (by omega)]
    exact ho
  · show ∃ w : Nat → Nat, (∀ i, i < 8 → M2.2.1 (A (22 + 5 * k)) i = lN (w i)) ∧ ∀ i, w i < 2 ^ 49
    by_cases hk6 : k = p 6
    · subst hk6
      refine ⟨fun i => if i < n then cW n (q / D) (fun i j => f i j / D) i else w i, fun i hi => ?_, fun i => ?_⟩
      · dsimp only
        by_cases hin : i < n
        · rw [if_pos hin]; exact f3 i hin
        · rw [if_neg hin, f5 i (by omega)]; exact w1 i hi
      · dsimp only
        split
        · exact cW_lt hg i
        · exact w2 i
    · rw [j2 _ (by omega) (by omega) (by omega) (by omega) (by omega)]
      exact hw k hk
  · by_cases hst : s = t
    · subst hst
      right
      have e1 : ud ns s n s = n := if_pos rfl
      have e2 : ud qs s (q / D) s = q / D := if_pos rfl
      have e3 : ud3 cs s (fun i j => f i j / D) s = fun i j => f i j / D := if_pos rfl
      have e4 : swp p s s = p 6 := if_pos rfl
      rw [e1, e2, e3, e4]
      refine ⟨hg, ?_, f4⟩
      obtain ⟨x1, x2, x3, x4, x5, x6, x7, x8, x9, x10, x11, x12, x13⟩ := hCS
      obtain ⟨w1', w2', w3', w4', w5', w6', w7', w8'⟩ := x1
      have ii : ∀ i, i < 53 → i ≠ 12 → (mwP (mwP M2 (A 4) s (some (A (18 + 5 * p 6)))) (A 0) 4 (some (A (18 + 5 * p s)))).1 (A i) = M1.1 (A i) := i2
      have rr : ∀ j, (mwP (mwP M2 (A 4) s (some (A (18 + 5 * p 6)))) (A 0) 4 (some (A (18 + 5 * p s)))).2.2 (A (18 + 5 * p 6)) j = M1.2.2 (A (18 + 5 * p 6)) j := fun j => by
        rw [mwP_g, if_neg (fun z => by have := hS.1 _ _ (by omega) (by omega) z.1; omega), mwP_g, if_neg (fun z => by have := hS.1 _ _ (by omega) (by omega) z.1; omega), p2]
      exact ⟨⟨w1', by rw [rr]; exact w2', w3', w4', by rw [ii _ (by omega) (by omega)]; exact w5', w6', by rw [ii _ (by omega) (by omega)]; exact w7', w8'⟩, by rw [ii _ (by omega) (by omega)]; exact x2, x3, x4, by rw [rr]; exact x5, by rw [rr]; exact x6, by rw [rr]; exact x7, by rw [ii _ (by omega) (by omega)]; exact x8, by rw [ii _ (by omega) (by omega)]; exact x9, f3, x11, x12, fun i => cW_lt hg i⟩
    · have e1 : ud ns t n s = ns s := if_neg hst
      have e2 : ud qs t (q / D) s = qs s := if_neg hst
      have e3 : ud3 cs t (fun i j => f i j / D) s = cs s := if_neg hst
      have e4 : swp p t s = p s := by unfold swp; rw [if_neg hst, if_neg (by omega)]
      rw [e1, e2, e3, e4]
      have hps : p s < 7 := hp.1 s (by omega)
      have hps6 : p s ≠ p 6 := fun e => by have := hp.2 s 6 (by omega) (by omega) e; omega
      have ii : ∀ i, i < 53 → i ≠ 12 → (mwP (mwP M2 (A 4) t (some (A (18 + 5 * p 6)))) (A 0) 4 (some (A (18 + 5 * p t)))).1 (A i) = M1.1 (A i) := i2
      have rr : (mwP (mwP M2 (A 4) t (some (A (18 + 5 * p 6)))) (A 0) 4 (some (A (18 + 5 * p t)))).2.2 (A (18 + 5 * p s)) = M1.2.2 (A (18 + 5 * p s)) := funext fun j => by
        rw [mwP_g, if_neg (fun z => by have := hS.1 _ _ (by omega) (by omega) z.1; omega), mwP_g, if_neg (fun z => by have := hS.1 _ _ (by omega) (by omega) z.1; omega), p2]
      have jj : ∀ i, i < 53 → i ≠ 13 → i ≠ 14 → i ≠ 22 + 5 * p 6 → i ≠ 18 + 5 * p 6 → (mwP (mwP M2 (A 4) t (some (A (18 + 5 * p 6)))) (A 0) 4 (some (A (18 + 5 * p t)))).2.1 (A i) = M1.2.1 (A i) := j2
      rcases hc s hs6 with ⟨z1, z2⟩ | ⟨z1, z2, z3⟩
      · exact Or.inl ⟨z1, by rw [ii _ (by omega) (by omega)]; exact z2⟩
      · exact Or.inr ⟨z1, chS_fr z2 (ii _ (by omega) (by omega)) (ii _ (by omega) (by omega)) (ii _ (by omega) (by omega)) (ii _ (by omega) (by omega)) (jj _ (by omega) (by omega) (by omega) (by omega) (by omega)) rr, by rw [jj _ (by omega) (by omega) (by omega) (by omega) (by omega)]; exact z3⟩
  · refine unt_tr u1 (unt_tr (unt_fr f2 (fun x hx => ⟨12, by omega, by simpa using hx⟩) (fun x hx => ?_)) (unt_tr (unt_P (by omega)) (unt_P (by omega))))
    simp at hx
    rcases hx with rfl | rfl | rfl | rfl
    · exact ⟨_, by omega, rfl⟩
    · exact ⟨_, by omega, rfl⟩
    · exact ⟨_, by omega, rfl⟩
    · exact ⟨_, by omega, rfl⟩
end
