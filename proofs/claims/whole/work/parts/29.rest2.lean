/-! the reference's elimination: one row, all rows, all columns; two remainders put together -/
def wOK (g : Nat → Int64) (w : Nat → Nat → Nat) (n p : Nat) : Prop := ∀ i c, i < n → c < n → g (8 * i + c) = lN (w i c) ∧ w i c < p
theorem pp_lt {p : Nat} (h : p < 2 ^ 31) : p * p < 2 ^ 62 := by
  have := Nat.mul_lt_mul'' h h
  exact this
theorem er_loop {G : Gg} {M : Mm} {r0 tb rt wk n k i p f : Nat} {w : Nat → Nat → Nat} {l5 l9 : Int64} (h : refO G M r0 tb rt wk) (hn : n ≤ 8) (hk : k < n) (hi : i < n) (hik : i ≠ k) (hp : 1 < p) (hp2 : p < 2 ^ 31) (hf : f < p) (hw : ∀ a c, a < n → c < n → w a c < p) :
    ∀ (m j fu : Nat) (g : Nat → Int64), j + m = n → m < fu → (∀ a c, a < n → c < n → (a ≠ i ∨ j ≤ c) → g (8 * a + c) = lN (w a c)) → ∃ g', lp_X9_rest_310 G r0 (nI n) (lN p) l5 (nI k) l9 (nI i) (lN f) fu (nI j) (setJ M wk g) = some (setJ M wk g') ∧ ∀ a c, a < n → c < n → g' (8 * a + c) = if a = i ∧ j ≤ c then lN ((w i c + (p - f) * w k c) % p) else g (8 * a + c)
  | 0, j, fu, g, hj, hfu, hg => by
    obtain ⟨q, rfl⟩ : ∃ q, fu = q + 1 := ⟨fu - 1, by omega⟩
    refine ⟨g, ?_, fun a c ha hc => by rw [if_neg (by omega)]⟩
    show bd_X9_rest_310 _ _ _ _ _ _ _ _ _ _ _ _ = _
    unfold bd_X9_rest_310
    rw [if_pos (nI_le (by omega) (by omega))]
  | m + 1, j, fu, g, hj, hfu, hg => by
    obtain ⟨q, rfl⟩ : ∃ q, fu = q + 1 := ⟨fu - 1, by omega⟩
    obtain ⟨h1, h2, h3, h4, h5, h6, h7, h8, h9, h10, h11, h12⟩ := id h
    by_cases hf0 : f = 0
    · refine ⟨g, ?_, fun a c ha hc => ?_⟩
      · show bd_X9_rest_310 _ _ _ _ _ _ _ _ _ _ _ _ = _
        unfold bd_X9_rest_310
        rw [if_neg (nI_ge (by omega) (by omega)), if_pos (show lg_cmp (lN f) 0 = 0 from (lcmp0 _ _).mpr ((lN_0 (by omega)).mpr hf0))]
      · split
        · rename_i hac
          obtain ⟨rfl, hjc⟩ := hac
          rw [hg a c ha hc (Or.inr hjc), hf0, Nat.sub_zero, Nat.add_mul_mod_self_left, Nat.mod_eq_of_lt (hw a c ha hc)]
        · rfl
    · have hwi := hw i j hi (by omega)
      have hwk := hw k j hk (by omega)
      have hpp := pp_lt hp2
      have hm : (p - f) * w k j ≤ p * p := Nat.mul_le_mul (by omega) (by omega)
      have hjn : j < n := by omega
      have hu : ∀ a c, c < n → (a ≠ i ∨ j + 1 ≤ c ∨ c < j) → 8 * a + c ≠ 8 * i + j := fun a c h1 h2 => by omega
      obtain ⟨g', e1, e2⟩ := er_loop (l5 := l5) (l9 := l9) h hn hk hi hik hp hp2 hf hw m (j + 1) q (vp_updL g (8 * i + j) (lN ((w i j + (p - f) * w k j) % p))) (by omega) (by omega) (fun a c ha hc hac => by
        rw [upd_o (hu a c hc (by omega))]
        exact hg a c ha hc (by omega))
      refine ⟨g', ?_, fun a c ha hc => ?_⟩
      · rw [← e1]
        show bd_X9_rest_310 _ _ _ _ _ _ _ _ _ _ _ _ = _
        unfold bd_X9_rest_310
        rw [if_neg (nI_ge (by omega) (by omega)), if_neg (fun e => hf0 ((lN_0 (by omega)).mp ((lcmp0 _ _).mp e))), ck_t h1, show (setJ M wk g).2.2 r0 11 = some wk from h4, Option.bind_some, ck_t h7, nI_ix8, nI_ix8, h10, ck_t (inb_n (by omega) (by decide)), ck_t (inb_n (by omega) (by decide)), ck_nz (by omega) (by omega), cl_n (by omega), cl_n (by omega), setJ_s, hg i j hi hjn (by omega), hg k j hk hjn (by omega), lN_sub (by omega), lN_mul, lN_add, pk_lRem (by omega) (by omega) (by omega), setJ_w, nI_1]
      · rw [e2 a c ha hc]
        by_cases hai : a = i
        · subst hai
          by_cases hcj : c = j
          · subst hcj
            rw [if_neg (by omega), if_pos ⟨rfl, Nat.le_refl c⟩, upd_s]
          · by_cases hjc : j ≤ c
            · rw [if_pos ⟨rfl, by omega⟩, if_pos ⟨rfl, hjc⟩]
            · rw [if_neg (by omega), if_neg (by omega), upd_o (by omega)]
        · rw [if_neg (fun z => hai z.1), if_neg (fun z => hai z.1), upd_o (hu a c hc (Or.inl hai))]
def elw (w : Nat → Nat → Nat) (k i t p : Nat) : Nat → Nat → Nat := fun a c => if i ≤ a ∧ k ≤ c then (w a c + (p - w a k * t % p) * w k c) % p else w a c
theorem ea_loop {G : Gg} {M : Mm} {r0 tb rt wk n k p t : Nat} {l5 : Int64} (h : refO G M r0 tb rt wk) (hn : n ≤ 8) (hk : k < n) (hp : 1 < p) (hp2 : p < 2 ^ 31) (ht : t < p) :
    ∀ (m i fu : Nat) (g : Nat → Int64) (w : Nat → Nat → Nat), i + m = n → m < fu → k < i → wOK g w n p → ∃ g', lp_X9_rest_280 G r0 (nI n) (lN p) l5 (nI k) (lN t) fu (nI i) (setJ M wk g) = some (setJ M wk g') ∧ wOK g' (elw w k i t p) n p
  | 0, i, fu, g, w, hi, hfu, hki, hg => by
    obtain ⟨q, rfl⟩ : ∃ q, fu = q + 1 := ⟨fu - 1, by omega⟩
    refine ⟨g, ?_, fun a c ha hc => ?_⟩
    · show bd_X9_rest_280 _ _ _ _ _ _ _ _ _ _ = _
      unfold bd_X9_rest_280
      rw [if_pos (nI_le (by omega) (by omega))]
    · have e : elw w k i t p a c = w a c := if_neg (by omega)
      rw [e]
      exact hg a c ha hc
  | m + 1, i, fu, g, w, hi, hfu, hki, hg => by
    obtain ⟨q, rfl⟩ : ∃ q, fu = q + 1 := ⟨fu - 1, by omega⟩
    obtain ⟨h1, h2, h3, h4, h5, h6, h7, h8, h9, h10, h11, h12⟩ := id h
    have hin : i < n := by omega
    have hwik := (hg i k hin hk).2
    have hpp := pp_lt hp2
    have hm : w i k * t ≤ p * p := Nat.mul_le_mul (by omega) (by omega)
    have hfp : w i k * t % p < p := Nat.mod_lt _ (by omega)
    obtain ⟨g1, a1, a2⟩ := er_loop (l5 := l5) (l9 := lN t) h hn hk hin (by omega) hp hp2 hfp (fun a c ha hc => (hg a c ha hc).2) (n - k) k FU g (by omega) (by rw [FU_big]; omega) (fun a c ha hc _ => (hg a c ha hc).1)
    obtain ⟨g2, b1, b2⟩ := ea_loop (l5 := l5) h hn hk hp hp2 ht m (i + 1) q g1 (fun a c => if a = i ∧ k ≤ c then (w i c + (p - w i k * t % p) * w k c) % p else w a c) (by omega) (by omega) (by omega) (fun a c ha hc => by
      rw [a2 a c ha hc]
      dsimp only
      by_cases hac : a = i ∧ k ≤ c
      · rw [if_pos hac, if_pos hac]
        exact ⟨rfl, Nat.mod_lt _ (by omega)⟩
      · rw [if_neg hac, if_neg hac]
        exact hg a c ha hc)
    refine ⟨g2, ?_, fun a c ha hc => ?_⟩
    · rw [← b1]
      show bd_X9_rest_280 _ _ _ _ _ _ _ _ _ _ = _
      unfold bd_X9_rest_280
      rw [if_neg (nI_ge (by omega) (by omega)), ck_t h1, show (setJ M wk g).2.2 r0 11 = some wk from h4, Option.bind_some, ck_t h7, nI_ix8, h10, ck_t (inb_n (by omega) (by decide)), ck_nz (by omega) (by omega), cl_n (by omega), setJ_s, (hg i k hin hk).1, lN_mul, pk_lRem (by omega) (by omega) (by omega), a1, Option.bind_some, nI_1]
    · have e : elw w k i t p a c = elw (fun a c => if a = i ∧ k ≤ c then (w i c + (p - w i k * t % p) * w k c) % p else w a c) k (i + 1) t p a c := by
        unfold elw
        dsimp only
        rw [if_neg (show ¬ (k = i ∧ k ≤ c) by omega)]
        by_cases hai : a = i
        · subst hai
          rw [if_neg (show ¬ (a + 1 ≤ a ∧ k ≤ c) by omega)]
          by_cases hkc : k ≤ c
          · rw [if_pos ⟨Nat.le_refl a, hkc⟩, if_pos ⟨rfl, hkc⟩]
          · rw [if_neg (by omega), if_neg (by omega)]
        · by_cases hac : i + 1 ≤ a ∧ k ≤ c
          · rw [if_pos (by omega), if_pos hac, if_neg (by omega), if_neg (by omega)]
          · rw [if_neg (by omega), if_neg hac, if_neg (by omega)]
      rw [e]
      exact b2 a c ha hc
theorem det_elim {n k : Nat} (hk : k < n) (W : Nat → Nat → Int) (f : Nat → Int) : ∀ m, m ≤ n → det n (fun a c => if k < a ∧ a < m then W a c + f a * W k c else W a c) = det n W
  | 0, _ => det_congr (fun a c _ _ => if_neg (by omega))
  | m + 1, h => by
    rw [← det_elim hk W f m (by omega)]
    by_cases hkm : k < m
    · rw [← det_rowop (n := n) (A := fun a c => if k < a ∧ a < m then W a c + f a * W k c else W a c) (i := m) (k := k) (by omega) hk (by omega) (f m)]
      apply det_congr
      intro a c ha hc
      unfold sro
      dsimp only
      by_cases ham : a = m
      · subst ham
        rw [if_pos rfl, if_pos (by omega), if_neg (by omega), if_neg (by omega)]
      · rw [if_neg ham]
        by_cases h3 : k < a ∧ a < m
        · rw [if_pos (by omega), if_pos h3]
        · rw [if_neg (by omega), if_neg h3]
    · apply det_congr
      intro a c ha hc
      rw [if_neg (by omega), if_neg (by omega)]
theorem dprod_congr {A B : Nat → Nat → Int} : ∀ {n : Nat}, (∀ i, i < n → A i i = B i i) → dprod A n = dprod B n
  | 0, _ => rfl
  | n + 1, h => by
    show A n n * dprod A n = B n n * dprod B n
    rw [dprod_congr (fun i hi => h i (by omega)), h n (by omega)]
theorem dv_eq {p a b : Int} (e : a = b) (h : p ∣ b) : p ∣ a := e ▸ h
theorem nmod_dvd (a p : Nat) : (p : Int) ∣ ((a % p : Nat) : Int) - (a : Int) := by
  refine ⟨-((a / p : Nat) : Int), ?_⟩
  have h := Nat.div_add_mod a p
  have h2 : (a : Int) = (p : Int) * ((a / p : Nat) : Int) + ((a % p : Nat) : Int) := by
    rw [← Int.natCast_mul, ← Int.natCast_add, h]
  rw [Int.mul_neg]
  omega
