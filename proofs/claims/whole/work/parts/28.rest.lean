/-! the reference's elimination, row by row, over one array of longs -/
def setJ (M : Mm) (a : Nat) (g : Nat → Int64) : Mm := (M.1, va_up M.2.1 a g, M.2.2)
theorem setJ_w (M : Mm) (a : Nat) (g : Nat → Int64) (k : Nat) (x : Int64) : mwJ (setJ M a g) a k x = setJ M a (vp_updL g k x) := by
  unfold mwJ setJ
  dsimp only
  rw [va_up_self, bx_uu]
theorem setJ_s (M : Mm) (a : Nat) (g : Nat → Int64) : (setJ M a g).2.1 a = g := va_up_self _ _ _
theorem setJ_o {M : Mm} {a b : Nat} {g : Nat → Int64} (h : b ≠ a) : (setJ M a g).2.1 b = M.2.1 b := va_up_ne _ _ h
theorem setJ_id (M : Mm) (a : Nat) : setJ M a (M.2.1 a) = M := by
  unfold setJ
  have : va_up M.2.1 a (M.2.1 a) = M.2.1 := by
    funext b
    by_cases hb : b = a
    · subst hb; rw [va_up_self]
    · rw [va_up_ne _ _ hb]
  rw [this]
theorem nI_ix8 (a b : Nat) : (8 : Int32) * nI a + nI b = nI (8 * a + b) := by
  rw [show (8 : Int32) = nI 8 from rfl, pk_mul, nI_add]
def refO (G : Gg) (M : Mm) (r0 tb rt wk : Nat) : Prop := isK G r0 9 ∧ M.2.2 r0 9 = some tb ∧ M.2.2 r0 10 = some rt ∧ M.2.2 r0 11 = some wk ∧ isK G tb 11 ∧ isK G rt 11 ∧ isK G wk 11 ∧ G.2.2 tb = 64 ∧ G.2.2 rt = 8 ∧ G.2.2 wk = 64 ∧ tb ≠ wk ∧ rt ≠ wk
def resN (z : Int) (p : Nat) : Nat := (z % (p : Int)).toNat
theorem upd_s (g : Nat → Int64) (k : Nat) (x : Int64) : vp_updL g k x k = x := by unfold vp_updL; rw [if_pos rfl]
theorem upd_o {g : Nat → Int64} {k j : Nat} {x : Int64} (h : j ≠ k) : vp_updL g k x j = g j := by unfold vp_updL; rw [if_neg h]
theorem fl_loop {G : Gg} {M : Mm} {r0 tb rt wk n p cc : Nat} {B : Nat → Nat → Int} {i2 : Int32} (h : refO G M r0 tb rt wk) (hn : n ≤ 8) (hp : 0 < p) (hp2 : p < 2 ^ 31) (hcol : ∀ j, j < n → (nI j = i2 ↔ j = cc)) {i : Nat} (hi : i < n) (hB : ∀ c, c < n → -(2 ^ 62) < B i c ∧ B i c < 2 ^ 62) (hT : ∀ c, c < n → c ≠ cc → M.2.1 tb (8 * i + c) = Int64.ofInt (B i c)) (hR : cc < n → M.2.1 rt i = Int64.ofInt (B i cc)) :
    ∀ (m j f : Nat) (g : Nat → Int64), j + m = n → m < f → ∃ g', lp_X9_rest_12 G r0 (nI n) i2 (lN p) (nI i) f (nI j) (setJ M wk g) = some (setJ M wk g') ∧ (∀ k, k < 8 * i + j ∨ 8 * i + n ≤ k → g' k = g k) ∧ ∀ c, j ≤ c → c < n → g' (8 * i + c) = lN (resN (B i c) p)
  | 0, j, f, g, hj, hf => by
    obtain ⟨q, rfl⟩ : ∃ q, f = q + 1 := ⟨f - 1, by omega⟩
    refine ⟨g, ?_, fun _ _ => rfl, fun c h1 h2 => absurd h2 (by omega)⟩
    show bd_X9_rest_12 _ _ _ _ _ _ _ _ _ = _
    unfold bd_X9_rest_12
    rw [if_pos (nI_le (by omega) (by omega))]
  | m + 1, j, f, g, hj, hf => by
    obtain ⟨q, rfl⟩ : ∃ q, f = q + 1 := ⟨f - 1, by omega⟩
    obtain ⟨h1, h2, h3, h4, h5, h6, h7, h8, h9, h10, h11, h12⟩ := id h
    have hjn : j < n := by omega
    obtain ⟨g', e1, e2, e3⟩ := fl_loop h hn hp hp2 hcol hi hB hT hR m (j + 1) q (vp_updL g (8 * i + j) (lN (resN (B i j) p))) (by omega) (by omega)
    refine ⟨g', ?_, fun k hk => ?_, fun c hc1 hc2 => ?_⟩
    · rw [← e1]
      have hjoin : jn_X9_rest_47 G (setJ M wk g) (lp_X9_rest_12 G r0 (nI n) i2 (lN p) (nI i) q) r0 (nI n) i2 (lN p) (nI i) (nI j) (Int64.ofInt (B i j)) = lp_X9_rest_12 G r0 (nI n) i2 (lN p) (nI i) q (nI (j + 1)) (setJ M wk (vp_updL g (8 * i + j) (lN (resN (B i j) p)))) := by
        have hv := rem_z (hB j hjn).1 (hB j hjn).2 hp hp2
        unfold jn_X9_rest_47
        rw [ck_nz (by omega) hp, ck_t h1, show (setJ M wk g).2.2 r0 11 = some wk from h4, Option.bind_some]
        by_cases hc : 0 ≤ lg_cmp (Int64.ofInt (B i j) - Int64.ofInt (B i j) / lN p * lN p) (0 : Int64)
        · rw [if_pos hc] at hv
          rw [if_pos hc, ck_t h7, nI_ix8, h10, ck_t (inb_n (by omega) (by decide)), cl_n (by omega), hv, setJ_w, nI_1]
          rfl
        · rw [if_neg hc] at hv
          rw [if_neg hc, ck_t h7, nI_ix8, h10, ck_t (inb_n (by omega) (by decide)), cl_n (by omega), hv, setJ_w, nI_1]
          rfl
      show bd_X9_rest_12 _ _ _ _ _ _ _ _ _ = _
      unfold bd_X9_rest_12
      rw [if_neg (nI_ge (by omega) (by omega))]
      by_cases hcc : j = cc
      · rw [if_pos ((hcol j hjn).mpr hcc), ck_t h1, show (setJ M wk g).2.2 r0 10 = some rt from h3, Option.bind_some, ck_t h6, h9, ck_t (inb_n (by omega) (by decide)), cl_n (by omega), setJ_o h12, hR (by omega), ← hcc, hjoin]
      · rw [if_neg (fun e => hcc ((hcol j hjn).mp e)), ck_t h1, show (setJ M wk g).2.2 r0 9 = some tb from h2, Option.bind_some, ck_t h5, nI_ix8, h8, ck_t (inb_n (by omega) (by decide)), cl_n (by omega), setJ_o h11, hT j hjn hcc, hjoin]
    · rw [e2 k (by omega), upd_o (by omega)]
    · by_cases hcj : c = j
      · subst hcj
        rw [e2 _ (by omega), upd_s]
      · exact e3 c (by omega) hc2
theorem fa_loop {G : Gg} {M : Mm} {r0 tb rt wk n p cc : Nat} {B : Nat → Nat → Int} {i2 : Int32} (h : refO G M r0 tb rt wk) (hn : n ≤ 8) (hp : 0 < p) (hp2 : p < 2 ^ 31) (hcol : ∀ j, j < n → (nI j = i2 ↔ j = cc)) (hB : ∀ i c, i < n → c < n → -(2 ^ 62) < B i c ∧ B i c < 2 ^ 62) (hT : ∀ i c, i < n → c < n → c ≠ cc → M.2.1 tb (8 * i + c) = Int64.ofInt (B i c)) (hR : ∀ i, i < n → cc < n → M.2.1 rt i = Int64.ofInt (B i cc)) :
    ∀ (m i f : Nat) (g : Nat → Int64), i + m = n → m < f → (∀ r c, r < i → c < n → g (8 * r + c) = lN (resN (B r c) p)) → ∃ g', lp_X9_rest_3 G r0 (nI n) i2 (lN p) f (nI i) (setJ M wk g) = some (setJ M wk g') ∧ ∀ r c, r < n → c < n → g' (8 * r + c) = lN (resN (B r c) p)
  | 0, i, f, g, hi, hf, hg => by
    obtain ⟨q, rfl⟩ : ∃ q, f = q + 1 := ⟨f - 1, by omega⟩
    refine ⟨g, ?_, fun r c hr hc => hg r c (by omega) hc⟩
    show bd_X9_rest_3 _ _ _ _ _ _ _ _ = _
    unfold bd_X9_rest_3
    rw [if_pos (nI_le (by omega) (by omega))]
  | m + 1, i, f, g, hi, hf, hg => by
    obtain ⟨q, rfl⟩ : ∃ q, f = q + 1 := ⟨f - 1, by omega⟩
    have hin : i < n := by omega
    obtain ⟨g1, e1, e2, e3⟩ := fl_loop h hn hp hp2 hcol hin (fun c hc => hB i c hin hc) (fun c hc => hT i c hin hc) (hR i hin) n 0 FU g (by omega) (by rw [FU_big]; omega)
    obtain ⟨g2, a1, a2⟩ := fa_loop h hn hp hp2 hcol hB hT hR m (i + 1) q g1 (by omega) (by omega) (fun r c hr hc => by
      by_cases hri : r = i
      · subst hri
        exact e3 c (by omega) hc
      · rw [e2 _ (by omega)]
        exact hg r c (by omega) hc)
    refine ⟨g2, ?_, a2⟩
    rw [← a1]
    show bd_X9_rest_3 _ _ _ _ _ _ _ _ = _
    unfold bd_X9_rest_3
    rw [if_neg (nI_ge (by omega) (by omega)), show (0 : Int32) = nI 0 from rfl, e1, Option.bind_some, nI_1]
/-- the first row from r on whose place in column k isn't 0 -/
theorem pv_loop {G : Gg} {M : Mm} {r0 tb rt wk n k p : Nat} {w : Nat → Nat → Nat} {l5 : Int64} (h : refO G M r0 tb rt wk) (hn : n ≤ 8) (hk : k < n) (hw : ∀ i j, i < n → j < n → M.2.1 wk (8 * i + j) = lN (w i j) ∧ w i j < 2 ^ 31) :
    ∀ (m r f : Nat), r + m = n → m < f → ∃ r', lp_X9_rest_108 G M r0 (nI n) (lN p) l5 (nI k) f (nI r) = some (nI r') ∧ r ≤ r' ∧ r' ≤ n ∧ (∀ i, r ≤ i → i < r' → w i k = 0) ∧ (r' < n → w r' k ≠ 0)
  | 0, r, f, hr, hf => by
    obtain ⟨q, rfl⟩ : ∃ q, f = q + 1 := ⟨f - 1, by omega⟩
    refine ⟨r, ?_, by omega, by omega, fun i h1 h2 => absurd h2 (by omega), fun hh => absurd hh (by omega)⟩
    show bd_X9_rest_108 _ _ _ _ _ _ _ _ _ = _
    unfold bd_X9_rest_108
    rw [if_pos (nI_le (by omega) (by omega))]
  | m + 1, r, f, hr, hf => by
    obtain ⟨q, rfl⟩ : ∃ q, f = q + 1 := ⟨f - 1, by omega⟩
    obtain ⟨h1, h2, h3, h4, h5, h6, h7, h8, h9, h10, h11, h12⟩ := id h
    obtain ⟨hw1, hw2⟩ := hw r k (by omega) hk
    have hstep : lp_X9_rest_108 G M r0 (nI n) (lN p) l5 (nI k) (q + 1) (nI r) = if lg_cmp (lN (w r k)) (0 : Int64) = 0 then lp_X9_rest_108 G M r0 (nI n) (lN p) l5 (nI k) q (nI (r + 1)) else some (nI r) := by
      show bd_X9_rest_108 _ _ _ _ _ _ _ _ _ = _
      unfold bd_X9_rest_108
      rw [if_neg (nI_ge (by omega) (by omega)), ck_t h1, h4, Option.bind_some, ck_t h7, nI_ix8, h10, ck_t (inb_n (by omega) (by decide)), cl_n (by omega), hw1, nI_1]
    by_cases hz : w r k = 0
    · obtain ⟨r', e1, e2, e3, e4, e5⟩ := pv_loop (p := p) (l5 := l5) h hn hk hw m (r + 1) q (by omega) (by omega)
      refine ⟨r', ?_, by omega, e3, fun i hi1 hi2 => ?_, e5⟩
      · rw [hstep, if_pos ((lcmp0 _ _).mpr ((lN_0 (by omega)).mpr hz)), e1]
      · by_cases hir : i = r
        · subst hir; exact hz
        · exact e4 i (by omega) hi2
    · refine ⟨r, ?_, by omega, by omega, fun i h1 h2 => absurd h2 (by omega), fun _ => hz⟩
      rw [hstep, if_neg (fun e => hz ((lN_0 (by omega)).mp ((lcmp0 _ _).mp e)))]
/-- two rows change places -/
theorem sw_loop {G : Gg} {M : Mm} {r0 tb rt wk n k r p : Nat} {l5 : Int64} (h : refO G M r0 tb rt wk) (hn : n ≤ 8) (hk : k < n) (hr : r < n) (hkr : k < r) :
    ∀ (m j f : Nat) (g : Nat → Int64), j + m = n → m < f → ∃ g', lp_X9_rest_156 G r0 (nI n) (lN p) l5 (nI k) (nI r) f (nI j) (setJ M wk g) = some (setJ M wk g') ∧ ∀ i c, i < n → c < n → g' (8 * i + c) = if c < j then g (8 * i + c) else if i = k then g (8 * r + c) else if i = r then g (8 * k + c) else g (8 * i + c)
  | 0, j, f, g, hj, hf => by
    obtain ⟨q, rfl⟩ : ∃ q, f = q + 1 := ⟨f - 1, by omega⟩
    refine ⟨g, ?_, fun i c hi hc => by rw [if_pos (by omega)]⟩
    show bd_X9_rest_156 _ _ _ _ _ _ _ _ _ _ = _
    unfold bd_X9_rest_156
    rw [if_pos (nI_le (by omega) (by omega))]
  | m + 1, j, f, g, hj, hf => by
    obtain ⟨q, rfl⟩ : ∃ q, f = q + 1 := ⟨f - 1, by omega⟩
    obtain ⟨h1, h2, h3, h4, h5, h6, h7, h8, h9, h10, h11, h12⟩ := id h
    obtain ⟨g', e1, e2⟩ := sw_loop (p := p) (l5 := l5) h hn hk hr hkr m (j + 1) q (vp_updL (vp_updL g (8 * r + j) (g (8 * k + j))) (8 * k + j) (g (8 * r + j))) (by omega) (by omega)
    refine ⟨g', ?_, fun i c hi hc => ?_⟩
    · rw [← e1]
      show bd_X9_rest_156 _ _ _ _ _ _ _ _ _ _ = _
      unfold bd_X9_rest_156
      rw [if_neg (nI_ge (by omega) (by omega)), ck_t h1, show (setJ M wk g).2.2 r0 11 = some wk from h4, Option.bind_some, ck_t h7, nI_ix8, nI_ix8, h10, ck_t (inb_n (by omega) (by decide)), ck_t (inb_n (by omega) (by decide)), cl_n (by omega), cl_n (by omega), setJ_s, setJ_w, setJ_w, nI_1]
    · rw [e2 i c hi hc]
      have hu : ∀ x, x ≠ 8 * r + j → x ≠ 8 * k + j → vp_updL (vp_updL g (8 * r + j) (g (8 * k + j))) (8 * k + j) (g (8 * r + j)) x = g x := fun x a b => by rw [upd_o b, upd_o a]
      have hu1 : vp_updL (vp_updL g (8 * r + j) (g (8 * k + j))) (8 * k + j) (g (8 * r + j)) (8 * k + j) = g (8 * r + j) := upd_s _ _ _
      have hu2 : vp_updL (vp_updL g (8 * r + j) (g (8 * k + j))) (8 * k + j) (g (8 * r + j)) (8 * r + j) = g (8 * k + j) := by rw [upd_o (by omega), upd_s]
      by_cases hcj : c = j
      · subst hcj
        rw [if_pos (show c < c + 1 by omega), if_neg (show ¬ c < c by omega)]
        by_cases hik : i = k
        · subst hik; rw [if_pos rfl, hu1]
        · rw [if_neg hik]
          by_cases hir : i = r
          · subst hir; rw [if_pos rfl, hu2]
          · rw [if_neg hir, hu _ (by omega) (by omega)]
      · by_cases hlt : c < j
        · rw [if_pos (show c < j + 1 by omega), if_pos hlt, hu _ (by omega) (by omega)]
        · rw [if_neg (show ¬ c < j + 1 by omega), if_neg hlt, hu _ (by omega) (by omega), hu _ (by omega) (by omega), hu _ (by omega) (by omega)]
