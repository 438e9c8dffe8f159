/-! the class's objects and what they hold -/
def kd (i : Nat) : Nat := if i < 18 then [8, 6, 10, 10, 12, 5, 10, 10, 7, 11, 11, 2, 3, 11, 11, 11, 4, 1].getD i 0 else if (i - 18) % 5 = 0 then 0 else if (i - 18) % 5 = 4 then 11 else 10
def ln (i : Nat) : Nat := if i < 18 then [0, 0, 80, 8, 6, 0, 8, 8, 0, 64, 8, 0, 0, 64, 256, 8, 0, 0].getD i 0 else if (i - 18) % 5 = 1 then 64 else 8
def shC (G : Gg) (A : Nat → Nat) : Prop := (∀ i j, i < 53 → j < 53 → A i = A j → i = j) ∧ (∀ i, i < 53 → isK G (A i) (kd i)) ∧ ∀ i, i < 53 → 10 ≤ kd i → G.2.2 (A i) = ln i
theorem sA_ne {G : Gg} {A : Nat → Nat} (h : shC G A) {i j : Nat} (hi : i < 53) (hj : j < 53) (hne : i ≠ j) : A i ≠ A j := fun e => hne (h.1 i j hi hj e)
theorem kd_c (k : Nat) : kd (18 + 5 * k) = 0 ∧ kd (19 + 5 * k) = 10 ∧ kd (20 + 5 * k) = 10 ∧ kd (21 + 5 * k) = 10 ∧ kd (22 + 5 * k) = 11 := by
  unfold kd
  refine ⟨?_, ?_, ?_, ?_, ?_⟩
  · rw [if_neg (by omega), if_pos (by omega)]
  · rw [if_neg (by omega), if_neg (by omega), if_neg (by omega)]
  · rw [if_neg (by omega), if_neg (by omega), if_neg (by omega)]
  · rw [if_neg (by omega), if_neg (by omega), if_neg (by omega)]
  · rw [if_neg (by omega), if_neg (by omega), if_pos (by omega)]
theorem ln_c (k : Nat) : ln (19 + 5 * k) = 64 ∧ ln (20 + 5 * k) = 8 ∧ ln (21 + 5 * k) = 8 ∧ ln (22 + 5 * k) = 8 := by
  unfold ln
  refine ⟨?_, ?_, ?_, ?_⟩
  · rw [if_neg (by omega), if_pos (by omega)]
  · rw [if_neg (by omega), if_neg (by omega)]
  · rw [if_neg (by omega), if_neg (by omega)]
  · rw [if_neg (by omega), if_neg (by omega)]
theorem sh_ch {G : Gg} {A : Nat → Nat} (h : shC G A) {k : Nat} (hk : k < 7) : isK G (A (18 + 5 * k)) 0 ∧ (isK G (A (19 + 5 * k)) 10 ∧ G.2.2 (A (19 + 5 * k)) = 64) ∧ (isK G (A (20 + 5 * k)) 10 ∧ G.2.2 (A (20 + 5 * k)) = 8) ∧ (isK G (A (21 + 5 * k)) 10 ∧ G.2.2 (A (21 + 5 * k)) = 8) ∧ (isK G (A (22 + 5 * k)) 11 ∧ G.2.2 (A (22 + 5 * k)) = 8) := by
  obtain ⟨k0, k1, k2, k3, k4⟩ := kd_c k
  obtain ⟨l1, l2, l3, l4⟩ := ln_c k
  obtain ⟨h1, h2, h3⟩ := h
  have a0 := h2 (18 + 5 * k) (by omega)
  have a1 := h2 (19 + 5 * k) (by omega)
  have a2 := h2 (20 + 5 * k) (by omega)
  have a3 := h2 (21 + 5 * k) (by omega)
  have a4 := h2 (22 + 5 * k) (by omega)
  have b1 := h3 (19 + 5 * k) (by omega) (by omega)
  have b2 := h3 (20 + 5 * k) (by omega) (by omega)
  have b3 := h3 (21 + 5 * k) (by omega) (by omega)
  have b4 := h3 (22 + 5 * k) (by omega) (by omega)
  rw [k0] at a0
  rw [k1] at a1
  rw [k2] at a2
  rw [k3] at a3
  rw [k4] at a4
  rw [l1] at b1
  rw [l2] at b2
  rw [l3] at b3
  rw [l4] at b4
  exact ⟨a0, ⟨a1, b1⟩, ⟨a2, b2⟩, ⟨a3, b3⟩, ⟨a4, b4⟩⟩
/-- which object holds which -/
def rfC (M : Mm) (A : Nat → Nat) (p : Nat → Nat) : Prop := (M.2.2 (A 0) 0 = some (A 1) ∧ M.2.2 (A 0) 1 = some (A 3) ∧ M.2.2 (A 0) 3 = some (A 4) ∧ M.2.2 (A 0) 4 = some (A (18 + 5 * p 6)) ∧ M.2.2 (A 0) 5 = some (A 5) ∧ M.2.2 (A 0) 6 = some (A 8) ∧ M.2.2 (A 0) 7 = some (A 11) ∧ M.2.2 (A 0) 8 = some (A 16) ∧ M.2.2 (A 0) 9 = some (A 17)) ∧ M.2.2 (A 1) 0 = some (A 2) ∧ (M.2.2 (A 5) 0 = some (A 6) ∧ M.2.2 (A 5) 1 = some (A 7)) ∧ (M.2.2 (A 8) 0 = some (A 9) ∧ M.2.2 (A 8) 1 = some (A 10)) ∧ (M.2.2 (A 11) 0 = some (A 12) ∧ M.2.2 (A 11) 1 = some (A 15)) ∧ (M.2.2 (A 12) 0 = some (A 13) ∧ M.2.2 (A 12) 1 = some (A 14)) ∧ (∀ k, k < 7 → M.2.2 (A (18 + 5 * k)) 2 = some (A (19 + 5 * k)) ∧ M.2.2 (A (18 + 5 * k)) 3 = some (A (20 + 5 * k)) ∧ M.2.2 (A (18 + 5 * k)) 4 = some (A (21 + 5 * k)) ∧ M.2.2 (A (18 + 5 * k)) 5 = some (A (22 + 5 * k))) ∧ ∀ s, s < 6 → M.2.2 (A 4) s = some (A (18 + 5 * p s))
def pm (p : Nat → Nat) : Prop := (∀ s, s < 7 → p s < 7) ∧ ∀ s t, s < 7 → t < 7 → p s = p t → s = t
/-- the tape -/
def tpC (G : Gg) (M : Mm) (o b tl : Nat) (tv : Nat → Nat) : Prop := isK G o 6 ∧ M.2.2 o 0 = some b ∧ isK G b 10 ∧ G.2.2 b = 80 ∧ M.1 o 1 = nI tl ∧ tl ≤ 80 ∧ (∀ k, k < tl → M.1 b k = nI (tv k)) ∧ ∀ k, tv k < 256
/-- a settled chain -/
def chZ (G : Gg) (M : Mm) (A : Nat → Nat) (k n q : Nat) (c : Nat → Nat → Nat) : Prop := chS G M (A (18 + 5 * k)) (A (19 + 5 * k)) (A (20 + 5 * k)) (A (21 + 5 * k)) (A (22 + 5 * k)) n q c (cN c n) (cL c n) (cW n q c) ∧ M.2.1 (A (18 + 5 * k)) 6 = lN (sN (cW n q c) n)
def shW (M : Mm) (A : Nat → Nat) (k : Nat) : Prop := ∃ w : Nat → Nat, (∀ i, i < 8 → M.2.1 (A (22 + 5 * k)) i = lN (w i)) ∧ ∀ i, w i < 2 ^ 49
/-- the class, in the state that the lists tell -/
def kCI (G : Gg) (M : Mm) (A p : Nat → Nat) (tl : Nat) (tv : Nat → Nat) (ol : Nat) (ov ns qs : Nat → Nat) (cs : Nat → Nat → Nat → Nat) : Prop := shC G A ∧ rfC M A p ∧ pm p ∧ (M.1 (A 1) 1 = nI tl ∧ tl ≤ 80 ∧ (∀ k, k < tl → M.1 (A 2) k = nI (tv k)) ∧ ∀ k, tv k < 256) ∧ (M.1 (A 0) 2 = nI ol ∧ ol ≤ 8 ∧ ∀ k, k < ol → M.1 (A 3) k = nI (ov k)) ∧ (∀ k, k < 7 → shW M A k) ∧ ∀ s, s < 6 → (ns s = 0 ∧ M.1 (A (18 + 5 * p s)) 0 = nI 0) ∨ (gch (ns s) (qs s) (cs s) ∧ chZ G M A (p s) (ns s) (qs s) (cs s))
/-- what may change freely -/
def scI (A p : Nat → Nat) (x : Nat) : Prop := ∃ i, i ∈ [5, 6, 7, 12, 16, 18 + 5 * p 6, 19 + 5 * p 6, 20 + 5 * p 6, 21 + 5 * p 6] ∧ x = A i
def scL (A : Nat → Nat) (x : Nat) : Prop := ∃ i, i ∈ [8, 9, 10, 13, 14, 15, 16, 17] ∧ x = A i
theorem chS_fr {G : Gg} {M M' : Mm} {a cl nx ld sh n q : Nat} {c : Nat → Nat → Nat} {N L W : Nat → Nat} (h : chS G M a cl nx ld sh n q c N L W) (e1 : M'.1 a = M.1 a) (e2 : M'.1 cl = M.1 cl) (e3 : M'.1 nx = M.1 nx) (e4 : M'.1 ld = M.1 ld) (e5 : M'.2.1 sh = M.2.1 sh) (e6 : M'.2.2 a = M.2.2 a) : chS G M' a cl nx ld sh n q c N L W := by
  obtain ⟨⟨h1, h2, h3, h4, h5, h6, h7, h8⟩, q1, q2, q3, g1, g2, g3, hN, hL, hW, bN, bL, bW⟩ := h
  exact ⟨⟨h1, by rw [e6]; exact h2, h3, h4, by rw [e1]; exact h5, h6, by rw [e2]; exact h7, h8⟩, by rw [e1]; exact q1, q2, q3, by rw [e6]; exact g1, by rw [e6]; exact g2, by rw [e6]; exact g3, by rw [e3]; exact hN, by rw [e4]; exact hL, by rw [e5]; exact hW, bN, bL, bW⟩
section
variable {G : Gg} {M M' : Mm} {A p : Nat → Nat} {tl : Nat} {tv : Nat → Nat} {ol : Nat} {ov ns qs : Nat → Nat} {cs : Nat → Nat → Nat → Nat}
theorem nsI (hs : shC G A) (hp : pm p) {i : Nat} (hi : i < 53) (h1 : i ∉ [5, 6, 7, 12, 16]) (h2 : i < 18 + 5 * p 6 ∨ 22 + 5 * p 6 ≤ i) : ¬ scI A p (A i) := by
  intro ⟨j, hj, e⟩
  have hp6 := hp.1 6 (by decide)
  have : i = j := hs.1 i j hi (by simp at hj; omega) e
  subst this
  simp at hj h1
  omega
theorem nsL (hs : shC G A) {i : Nat} (hi : i < 53) (h1 : i ∉ [8, 9, 10, 13, 14, 15, 16, 17]) : ¬ scL A (A i) := by
  intro ⟨j, hj, e⟩
  have : i = j := hs.1 i j hi (by simp at hj; omega) e
  subst this
  exact h1 hj
theorem kCI_sc (h : kCI G M A p tl tv ol ov ns qs cs) (hI : ∀ b, ¬ scI A p b → M'.1 b = M.1 b) (hL : ∀ b, ¬ scL A b → M'.2.1 b = M.2.1 b) (hP : M'.2.2 = M.2.2) : kCI G M' A p tl tv ol ov ns qs cs := by
  obtain ⟨hs, hr, hp, ht, ho, hw, hc⟩ := h
  have i0 := hI (A 0) (nsI hs hp (by decide) (by decide) (by omega))
  have i1 := hI (A 1) (nsI hs hp (by decide) (by decide) (by omega))
  have i2 := hI (A 2) (nsI hs hp (by decide) (by decide) (by omega))
  have i3 := hI (A 3) (nsI hs hp (by decide) (by decide) (by omega))
  refine ⟨hs, ?_, hp, ?_, ?_, fun k hk => ?_, fun s hs6 => ?_⟩
  · unfold rfC
    rw [hP]
    exact hr
  · rw [i1, i2]; exact ht
  · rw [i0, i3]; exact ho
  · unfold shW
    rw [hL _ (nsL hs (by omega) (by simp; omega))]
    exact hw k hk
  · have hk := hp.1 s (by omega)
    have hk6 := hp.1 6 (by decide)
    have hne : p s ≠ p 6 := fun e => by have := hp.2 s 6 (by omega) (by omega) e; omega
    have c0 := hI (A (18 + 5 * p s)) (nsI hs hp (by omega) (by simp; omega) (by omega))
    have c1 := hI (A (19 + 5 * p s)) (nsI hs hp (by omega) (by simp; omega) (by omega))
    have c2 := hI (A (20 + 5 * p s)) (nsI hs hp (by omega) (by simp; omega) (by omega))
    have c3 := hI (A (21 + 5 * p s)) (nsI hs hp (by omega) (by simp; omega) (by omega))
    have c4 := hL (A (22 + 5 * p s)) (nsL hs (by omega) (by simp; omega))
    have c5 := hL (A (18 + 5 * p s)) (nsL hs (by omega) (by simp; omega))
    rcases hc s hs6 with ⟨z1, z2⟩ | ⟨z1, z2, z3⟩
    · exact Or.inl ⟨z1, by rw [c0]; exact z2⟩
    · exact Or.inr ⟨z1, chS_fr z2 c0 c1 c2 c3 c4 (by rw [hP]), by rw [c5]; exact z3⟩
theorem kCI_fr {ai al : List Nat} (h : kCI G M A p tl tv ol ov ns qs cs) (hf : fr M M' ai al) (h1 : ∀ x, x ∈ ai → scI A p x) (h2 : ∀ x, x ∈ al → scL A x) : kCI G M' A p tl tv ol ov ns qs cs := kCI_sc h (fun b hb => hf.1 b (fun z => hb (h1 b z))) (fun b hb => hf.2.1 b (fun z => hb (h2 b z))) hf.2.2
theorem kCI_ch (h : kCI G M A p tl tv ol ov ns qs cs) {k : Nat} (hk : k < 7) : chT G M (A (18 + 5 * k)) (A (19 + 5 * k)) (A (20 + 5 * k)) (A (21 + 5 * k)) (A (22 + 5 * k)) := by
  obtain ⟨hs, hr, hp, ht, ho, hw, hc⟩ := h
  obtain ⟨a0, ⟨a1, b1⟩, ⟨a2, b2⟩, ⟨a3, b3⟩, ⟨a4, b4⟩⟩ := sh_ch hs hk
  obtain ⟨r1, r2, r3, r4⟩ := hr.2.2.2.2.2.2.1 k hk
  exact ⟨a0, ⟨r1, a1, b1⟩, ⟨r2, a2, b2⟩, ⟨r3, a3, b3⟩, ⟨r4, a4, b4⟩, sA_ne hs (by omega) (by omega) (by omega), sA_ne hs (by omega) (by omega) (by omega), sA_ne hs (by omega) (by omega) (by omega), hw k hk⟩
theorem kCI_tp (h : kCI G M A p tl tv ol ov ns qs cs) : tpC G M (A 1) (A 2) tl tv := by
  obtain ⟨hs, hr, hp, ⟨t1, t2, t3, t4⟩, ho, hw, hc⟩ := h
  exact ⟨hs.2.1 1 (by decide), hr.2.1, hs.2.1 2 (by decide), hs.2.2 2 (by decide) (by decide), t1, t2, t3, t4⟩
theorem kCI_min (h : kCI G M A p tl tv ol ov ns qs cs) : minT G M (A 12) (A 13) (A 14) := by
  obtain ⟨hs, hr, hp, ht, ho, hw, hc⟩ := h
  exact ⟨hs.2.1 12 (by decide), hr.2.2.2.2.2.1.1, hr.2.2.2.2.2.1.2, hs.2.1 13 (by decide), hs.2.1 14 (by decide), hs.2.2 13 (by decide) (by decide), hs.2.2 14 (by decide) (by decide), sA_ne hs (by decide) (by decide) (by decide)⟩
/-- nothing but the class's own has changed -/
def unt (M M' : Mm) (A : Nat → Nat) (N : Nat) : Prop := ∀ b, (∀ i, i < N → b ≠ A i) → sameM M M' b
theorem unt_rf (M : Mm) (A : Nat → Nat) (N : Nat) : unt M M A N := fun _ _ => ⟨rfl, rfl, rfl⟩
theorem unt_tr {M1 M2 M3 : Mm} {A : Nat → Nat} {N : Nat} (h : unt M1 M2 A N) (h2 : unt M2 M3 A N) : unt M1 M3 A N := fun b hb => ⟨(h2 b hb).1.trans (h b hb).1, (h2 b hb).2.1.trans (h b hb).2.1, (h2 b hb).2.2.trans (h b hb).2.2⟩
theorem unt_fr {A : Nat → Nat} {N : Nat} {ai al : List Nat} (hf : fr M M' ai al) (h1 : ∀ x, x ∈ ai → ∃ i, i < N ∧ x = A i) (h2 : ∀ x, x ∈ al → ∃ i, i < N ∧ x = A i) : unt M M' A N := fun b hb => ⟨hf.1 b (fun z => by obtain ⟨i, h3, h4⟩ := h1 b z; exact hb i h3 h4), hf.2.1 b (fun z => by obtain ⟨i, h3, h4⟩ := h2 b z; exact hb i h3 h4), by rw [hf.2.2]⟩
theorem unt_I {M : Mm} {A : Nat → Nat} {N i k : Nat} {x : Int32} (hi : i < N) : unt M (mwI M (A i) k x) A N := unt_fr (fr_I (in_1)) (fun y hy => ⟨i, hi, by simpa using hy⟩) (al := []) (fun y hy => by simp at hy)
theorem unt_J {M : Mm} {A : Nat → Nat} {N i k : Nat} {x : Int64} (hi : i < N) : unt M (mwJ M (A i) k x) A N := unt_fr (fr_J (in_1)) (ai := []) (fun y hy => by simp at hy) (fun y hy => ⟨i, hi, by simpa using hy⟩)
theorem unt_P {M : Mm} {A : Nat → Nat} {N i k : Nat} {x : Option Nat} (hi : i < N) : unt M (mwP M (A i) k x) A N := fun b hb => ⟨rfl, rfl, va_up_ne _ _ (hb i hi)⟩
end
