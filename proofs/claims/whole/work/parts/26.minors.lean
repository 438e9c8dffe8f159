/-! the class's determinants -/
theorem ck_t {α : Type} {c : Prop} [Decidable c] {k : Option α} (h : c) : ck c k = k := if_pos h
theorem inb_n {k N : Nat} (h : k < N) (hN : N < 2 ^ 31) : inb (nI k) N := nI_in h hN
theorem cl_n {k : Nat} (h : k < 2 ^ 31) : Int32.toNatClampNeg (nI k) = k := nI_clamp h
theorem nI_xor (a b : Nat) : nI a ^^^ nI b = nI (a ^^^ b) := by
  apply Int32.toBitVec_inj.1
  show BitVec.ofNat 32 a ^^^ BitVec.ofNat 32 b = BitVec.ofNat 32 (a ^^^ b)
  apply BitVec.eq_of_getLsbD_eq
  intro i hi
  simp [hi]
theorem nI_dn (c : Nat) : nI c + (-1) = nI c - 1 := by rw [Int32.sub_eq_add_neg]
theorem nI_ix (a b : Nat) : nI a * (8 : Int32) + nI b = nI (a * 8 + b) := by
  rw [show (8 : Int32) = nI 8 from rfl, pk_mul, nI_add]
theorem cnt_le (S : Nat) : ∀ n, cnt S n ≤ n
  | 0 => Nat.le_refl _
  | n + 1 => by
    have := cnt_le S n
    rw [cnt_s]
    split <;> omega
theorem xor_lt {S c n : Nat} (hS : S < 2 ^ n) (hc : c < n) : S ^^^ 2 ^ c < 2 ^ n := Nat.xor_lt_two_pow hS (Nat.pow_lt_pow_of_lt (by decide) hc)
theorem p2_31 {n : Nat} (h : n ≤ 8) : 2 ^ n ≤ 256 := by
  have := Nat.pow_le_pow_right (show 0 < 2 by decide) h
  exact this
def minO (G : Gg) (M : Mm) (mi mc mo n : Nat) (A : Nat → Nat → Int) : Prop := isK G mi 3 ∧ M.2.2 mi 0 = some mc ∧ M.2.2 mi 1 = some mo ∧ isK G mc 11 ∧ isK G mo 11 ∧ G.2.2 mc = 64 ∧ G.2.2 mo = 256 ∧ mc ≠ mo ∧ M.1 mi 2 = nI n ∧ n ≤ 8 ∧ ∀ i j, i < n → j < n → M.2.1 mc (i * 8 + j) = Int64.ofInt (A i j)
def tmS (A : Nat → Nat → Int) (n S k : Nat) : Nat → Int := fun p => sgn k p * A k (el S p n) * dS A n (S ^^^ 2 ^ (el S p n))
theorem lr_loop {G : Gg} {M : Mm} {mi mc mo n : Nat} {A : Nat → Nat → Int} (h : minO G M mi mc mo n A) {S k : Nat} (hS : S < 2 ^ n) (hk : cnt S n = k + 1) (hO : ∀ c, c < n → S.testBit c = true → M.2.1 mo (S ^^^ 2 ^ c) = Int64.ofInt (dS A n (S ^^^ 2 ^ c))) :
    ∀ c f, c ≤ n → c < f → lp_X3_byLastRow_13 G M mi (nI k) (nI S) f (Int64.ofInt (sI (tmS A n S k) (k + 1) - sI (tmS A n S k) (cnt S c))) (if (k + 1 - cnt S c) % 2 = 0 then 1 else 0) (nI c - 1) = some (Int64.ofInt (sI (tmS A n S k) (k + 1))) := by
  obtain ⟨h1, h2, h3, h4, h5, h6, h7, h8, h9, h10, h11⟩ := h
  have hkn := cnt_le S n
  have hS2 := p2_31 h10
  intro c
  induction c with
  | zero =>
    intro f _ hf
    obtain ⟨g, rfl⟩ : ∃ g, f = g + 1 := ⟨f - 1, by omega⟩
    show bd_X3_byLastRow_13 _ _ _ _ _ _ _ _ _ = _
    unfold bd_X3_byLastRow_13
    rw [if_pos (by decide)]
    show some (Int64.ofInt (_ - 0)) = _
    rw [Int.sub_zero]
  | succ c ih =>
    intro f hc hf
    obtain ⟨g, rfl⟩ : ∃ g, f = g + 1 := ⟨f - 1, by omega⟩
    have ih := ih g (by omega) (by omega)
    show bd_X3_byLastRow_13 _ _ _ _ _ _ _ _ _ = _
    unfold bd_X3_byLastRow_13
    rw [nI_pred, if_neg (nI_pos (by omega)), has_s (by omega) (by omega), Option.bind_some, nI_dn]
    by_cases hb : S.testBit c = true
    · have hcs : cnt S (c + 1) = cnt S c + 1 := by rw [cnt_s, if_pos hb]
      have hlt := cnt_mono S (show c + 1 ≤ n by omega)
      have hel : el S (cnt S c) n = c := el_un (by omega) hb
      have htm : tmS A n S k (cnt S c) = sgn k (cnt S c) * (A k c * dS A n (S ^^^ 2 ^ c)) := by
        unfold tmS
        rw [hel, Int.mul_assoc]
      have hx := xor_lt hS (show c < n by omega)
      rw [if_pos hb, if_neg (show ¬ (1 : Int32) = 0 by decide), ck_t h1, h2, Option.bind_some, ck_t h4, nI_ix, h6, ck_t (inb_n (by omega) (by decide)), h3, Option.bind_some, ck_t h5, sh_1 (by omega), nI_xor, h7, ck_t (inb_n (by omega) (by decide)), cl_n (by omega), cl_n (by omega), h11 k c (by omega) (by omega), hO c (by omega) hb]
      have hacc : sI (tmS A n S k) (cnt S (c + 1)) = sI (tmS A n S k) (cnt S c) + tmS A n S k (cnt S c) := by rw [hcs, sI_succ]
      by_cases hp : (k + 1 - cnt S (c + 1)) % 2 = 0
      · have hp2 : ¬ (k + 1 - cnt S c) % 2 = 0 := by omega
        have hsg : sgn k (cnt S c) = 1 := by unfold sgn; rw [if_pos (by omega)]
        rw [if_pos hp, if_neg (show ¬ (1 : Int32) = 0 by decide), if_neg (show ¬ (1 : Int32) = 0 by decide)]
        rw [if_neg hp2] at ih
        rw [← ih, hacc, htm, hsg, ← Int64.ofInt_mul, ← Int64.ofInt_add]
        congr 2
        omega
      · have hp2 : (k + 1 - cnt S c) % 2 = 0 := by omega
        have hsg : sgn k (cnt S c) = -1 := by unfold sgn; rw [if_neg (by omega)]
        rw [if_neg hp, if_pos rfl, if_pos rfl]
        rw [if_pos hp2] at ih
        rw [← ih, hacc, htm, hsg, ← Int64.ofInt_mul, ← Int64.ofInt_neg, ← Int64.ofInt_add]
        congr 2
        omega
    · have hcs : cnt S (c + 1) = cnt S c := by rw [cnt_s, if_neg hb]; omega
      rw [if_neg hb, if_pos rfl, hcs]
      exact ih
theorem lr_eq {G : Gg} {M : Mm} {mi mc mo n : Nat} {A : Nat → Nat → Int} (h : minO G M mi mc mo n A) {S k : Nat} (hS : S < 2 ^ n) (hk : cnt S n = k + 1) (hO : ∀ c, c < n → S.testBit c = true → M.2.1 mo (S ^^^ 2 ^ c) = Int64.ofInt (dS A n (S ^^^ 2 ^ c))) : f_X3_byLastRow G M mi (nI k) (nI S) = some (Int64.ofInt (dS A n S)) := by
  have hl := lr_loop h hS hk hO n FU (Nat.le_refl n) (by have := h.2.2.2.2.2.2.2.2.2.1; rw [FU_big]; omega)
  rw [hk, Nat.sub_self, if_pos rfl, Int.sub_self] at hl
  unfold f_X3_byLastRow
  rw [ck_t h.1, h.2.2.2.2.2.2.2.2.1, show (0 : Int64) = Int64.ofInt 0 from rfl, hl, Option.bind_some, dS_step hk]
  rfl
theorem mwJ_g {M : Mm} {a k b j : Nat} {x : Int64} : (mwJ M a k x).2.1 b j = if b = a ∧ j = k then x else M.2.1 b j := by
  by_cases hb : b = a
  · subst hb
    rw [mwJ_1]
    unfold vp_updL
    by_cases hj : j = k
    · rw [if_pos hj, if_pos ⟨rfl, hj⟩]
    · rw [if_neg hj, if_neg (fun h => hj h.2)]
  · rw [if_neg (fun h => hb h.1)]
    exact congrFun (va_up_ne _ _ hb) j
theorem minO_w {G : Gg} {M : Mm} {mi mc mo n : Nat} {A : Nat → Nat → Int} (h : minO G M mi mc mo n A) (S : Nat) (x : Int64) : minO G (mwJ M mo S x) mi mc mo n A := by
  obtain ⟨h1, h2, h3, h4, h5, h6, h7, h8, h9, h10, h11⟩ := h
  exact ⟨h1, h2, h3, h4, h5, h6, h7, h8, h9, h10, fun i j hi hj => by rw [mwJ_g, if_neg (fun e => h8 e.1)]; exact h11 i j hi hj⟩
theorem flip_lt : ∀ S, S < 256 → ∀ c, c < 8 → S.testBit c = true → S ^^^ 2 ^ c < S := by decide +kernel
theorem cnt_pos {S n : Nat} (h0 : 0 < S) (hS : S < 2 ^ n) : 0 < cnt S n := by
  obtain ⟨c, hc⟩ : ∃ c, S.testBit c = true := by
    rcases Nat.exists_testBit_of_ne_zero (show S ≠ 0 by omega) with ⟨c, hc⟩
    exact ⟨c, hc⟩
  have hcn : c < n := by
    rcases Nat.lt_or_ge c n with h | h
    · exact h
    · have h1 : S < 2 ^ c := Nat.lt_of_lt_of_le hS (Nat.pow_le_pow_right (by decide) h)
      rw [Nat.testBit_lt_two_pow h1] at hc
      cases hc
  have := cnt_lt S hcn hc
  omega
theorem cnt_cap {S n : Nat} (hS : S < 2 ^ n) : ∀ {N : Nat}, n ≤ N → cnt S N = cnt S n
  | 0, h => by have : n = 0 := by omega
               subst this; rfl
  | N + 1, h => by
    rcases Nat.lt_or_ge n (N + 1) with h1 | h1
    · have h2 : S < 2 ^ N := Nat.lt_of_lt_of_le hS (Nat.pow_le_pow_right (by decide) (by omega))
      rw [cnt_s, cnt_cap hS (show n ≤ N by omega), Nat.testBit_lt_two_pow h2]
      rfl
    · have : n = N + 1 := by omega
      subst this; rfl
/-- the sets up to S are done -/
theorem dt_loop {G : Gg} {mi mc mo n : Nat} {A : Nat → Nat → Int} : ∀ (m f S : Nat) (M : Mm), minO G M mi mc mo n A → S + m = 2 ^ n → 0 < S → m < f → (∀ T, T < S → M.2.1 mo T = Int64.ofInt (dS A n T)) → ∃ M', lp_X3_determinant_18 G mi (nI (2 ^ n - 1)) f (nI S) M = some M' ∧ minO G M' mi mc mo n A ∧ (∀ T, T < 2 ^ n → M'.2.1 mo T = Int64.ofInt (dS A n T)) ∧ M'.1 = M.1 ∧ M'.2.2 = M.2.2 ∧ ∀ b, b ≠ mo → M'.2.1 b = M.2.1 b
  | 0, f, S, M, h, hS, h0, hf, hT => by
    have hn := p2_31 h.2.2.2.2.2.2.2.2.2.1
    obtain ⟨g, rfl⟩ : ∃ g, f = g + 1 := ⟨f - 1, by omega⟩
    refine ⟨M, ?_, h, fun T hh => hT T (by omega), rfl, rfl, fun _ _ => rfl⟩
    show bd_X3_determinant_18 _ _ _ _ _ _ = _
    unfold bd_X3_determinant_18
    rw [if_pos (nI_lt (by omega) (by omega))]
  | m + 1, f, S, M, h, hS, h0, hf, hT => by
    have hn8 := h.2.2.2.2.2.2.2.2.2.1
    have hn := p2_31 hn8
    obtain ⟨g, rfl⟩ : ∃ g, f = g + 1 := ⟨f - 1, by omega⟩
    have hpos := cnt_pos h0 (show S < 2 ^ n by omega)
    obtain ⟨k, hk⟩ : ∃ k, cnt S n = k + 1 := ⟨cnt S n - 1, by omega⟩
    have hk8 : cnt S 8 = k + 1 := by rw [cnt_cap (show S < 2 ^ n by omega) hn8, hk]
    have hr := lr_eq h (show S < 2 ^ n by omega) hk (fun c hc hb => hT _ (flip_lt S (by omega) c (by omega) hb))
    obtain ⟨M', e1, e2, e3, e4, e5, e6⟩ := dt_loop m g (S + 1) (mwJ M mo S (Int64.ofInt (dS A n S))) (minO_w h S _) (by omega) (by omega) (by omega) (fun T hh => by
      rw [mwJ_g]
      by_cases e : T = S
      · rw [if_pos ⟨rfl, e⟩, e]
      · rw [if_neg (fun z => e z.2)]
        exact hT T (by omega))
    refine ⟨M', ?_, e2, e3, e4, e5, fun b hb => (e6 b hb).trans (funext fun j => by rw [mwJ_g, if_neg (fun z => hb z.1)])⟩
    rw [← e1]
    show bd_X3_determinant_18 _ _ _ _ _ _ = _
    unfold bd_X3_determinant_18
    rw [if_neg (nI_nlt (by omega) (by omega)), ck_t h.1, h.2.2.1, Option.bind_some, bitc S (by omega), Option.bind_some, hk8, nI_pred, hr, Option.bind_some, ck_t h.2.2.2.2.1, h.2.2.2.2.2.2.1, ck_t (inb_n (by omega) (by decide)), cl_n (by omega), nI_1]
/-- the class's determinant is the determinant, up to the long's own wrap-around -/
theorem dt_eq {G : Gg} {M : Mm} {mi mc mo n : Nat} {A : Nat → Nat → Int} (h : minO G M mi mc mo n A) : ∃ M', f_X3_determinant G M mi = some (Int64.ofInt (det n A), M') ∧ minO G M' mi mc mo n A ∧ M'.1 = M.1 ∧ M'.2.2 = M.2.2 ∧ ∀ b, b ≠ mo → M'.2.1 b = M.2.1 b := by
  have hn8 := h.2.2.2.2.2.2.2.2.2.1
  have hn := p2_31 hn8
  have hp : 0 < 2 ^ n := Nat.pow_pos (by decide)
  obtain ⟨M', e1, e2, e3, e4, e5, e6⟩ := dt_loop (2 ^ n - 1) FU 1 (mwJ M mo 0 1) (minO_w h 0 1) (by omega) (by decide) (by rw [FU_big]; omega) (fun T hh => by
    have : T = 0 := by omega
    subst this
    rw [mwJ_g, if_pos ⟨rfl, rfl⟩, dS_0]
    rfl)
  refine ⟨M', ?_, e2, e4, e5, fun b hb => (e6 b hb).trans (funext fun j => by rw [mwJ_g, if_neg (fun z => hb z.1)])⟩
  have hz : (1 : Int32) <<< (nI n &&& 31) - (1 : Int32) = nI (2 ^ n - 1) := by
    rw [sh_1 (by omega), show (1 : Int32) = nI 1 from rfl, pk_sub hp]
  unfold f_X3_determinant
  rw [ck_t h.1, h.2.2.1, Option.bind_some, ck_t h.2.2.2.2.1, h.2.2.2.2.2.2.1, ck_t (by decide), show (mwJ M mo (Int32.toNatClampNeg (0 : Int32)) (1 : Int64)).1 mi 2 = nI n from h.2.2.2.2.2.2.2.2.1, hz, show Int32.toNatClampNeg (0 : Int32) = 0 from rfl, show (1 : Int32) = nI 1 from rfl, e1, Option.bind_some, e5, show (mwJ M mo 0 1).2.2 mi 1 = some mo from h.2.2.1, Option.bind_some, ck_t h.2.2.2.2.1, h.2.2.2.2.2.2.1, ck_t (inb_n (by omega) (by decide)), cl_n (by omega), e3 _ (by omega), dS_all]
