/-! numbers of the mirrors: bits, Euclid -/
theorem bs_l : ∀ n, n < 32 → ((nI n &&& 31).toBitVec.smod 32).toNat = n := by decide +kernel
theorem sh_r {s i : Nat} (hs : s < 2 ^ 31) (hi : i < 32) : nI s >>> (nI i &&& 31) = nI (s / 2 ^ i) := pk_shrN hs _ i (bs_l i hi)
theorem an_1 {n : Nat} (h : n < 2 ^ 32) : nI n &&& (1 : Int32) = nI (n % 2) := pk_andN h 1 (by decide)
theorem sh_1 {i : Nat} (hi : i < 31) : (1 : Int32) <<< (nI i &&& 31) = nI (2 ^ i) := by
  have h := pk_shlN (n := 1) (nI i &&& 31) i (bs_l i (by omega)) (by
    rw [Nat.one_mul]
    exact Nat.pow_lt_pow_of_lt (by decide) (by omega))
  rw [Nat.one_mul] at h
  exact h
theorem bit_n {s i : Nat} : s / 2 ^ i % 2 = 0 ↔ s.testBit i = false := by
  rw [Nat.testBit_eq_decide_div_mod_eq]
  simp only [decide_eq_false_iff_not]
  omega
/-- the bit i of s, as the code looks at it -/
theorem bit_0 {s i : Nat} (hs : s < 2 ^ 31) (hi : i < 32) : (nI s >>> (nI i &&& 31)) &&& (1 : Int32) = 0 ↔ s.testBit i = false := by
  rw [sh_r hs hi, an_1 (Nat.lt_of_le_of_lt (Nat.div_le_self _ _) (by omega)), show (0 : Int32) = nI 0 from rfl, nI_eq (by omega) (by decide), bit_n]
theorem bit_1 {s i : Nat} (hs : s < 2 ^ 31) (hi : i < 32) : (nI s >>> (nI i &&& 31)) &&& (1 : Int32) = 1 ↔ s.testBit i = true := by
  rw [sh_r hs hi, an_1 (Nat.lt_of_le_of_lt (Nat.div_le_self _ _) (by omega)), show (1 : Int32) = nI 1 from rfl, nI_eq (by omega) (by decide), Nat.testBit_eq_decide_div_mod_eq]
  simp
theorem has_s {s i : Nat} (hs : s < 2 ^ 31) (hi : i < 32) : f_X8_has (nI s) (nI i) = some (if s.testBit i then 1 else 0) := by
  unfold f_X8_has
  by_cases h : s.testBit i = true
  · rw [if_neg (fun e => by rw [(bit_0 hs hi).mp e] at h; cases h), if_pos h]
  · have h' : s.testBit i = false := by simpa using h
    rw [if_pos ((bit_0 hs hi).mpr h'), if_neg h]
theorem lcmp0 (x y : Int64) : lg_cmp x y = 0 ↔ x = y := by
  unfold lg_cmp
  split
  · rename_i h
    constructor
    · intro e; cases e
    · intro e; subst e; exact absurd h (by simp [Int64.lt_irrefl])
  · split
    · rename_i h; exact ⟨fun _ => h, fun _ => rfl⟩
    · rename_i h
      constructor
      · intro e; cases e
      · intro e; exact absurd e h
theorem lN0 : (0 : Int64) = lN 0 := rfl
theorem lN_0 {a : Nat} (h : a < 2 ^ 63) : lN a = 0 ↔ a = 0 := by rw [lN0, pk_lEQ h (by decide)]
theorem mod_half {a b : Nat} (hb : 0 < b) (h : 0 < a % b) : 2 * (b % (a % b)) < b := by
  have h1 := Nat.mod_lt a hb
  have h2 := Nat.mod_lt b h
  rcases Nat.lt_or_ge b (2 * (a % b)) with h3 | h3
  · have e : b % (a % b) = b - a % b := by
      rw [Nat.mod_eq_sub_mod (by omega), Nat.mod_eq_of_lt (by omega)]
    omega
  · omega
theorem cd_stop {f a k : Nat} : lp_X8_commonDivisor_9 (f + 1) (lN a) (lN 0) (nI k) = some (lN a) := by
  show bd_X8_commonDivisor_9 _ _ _ _ = _
  unfold bd_X8_commonDivisor_9
  split
  · rfl
  · rw [if_pos (show lg_cmp (lN 0) 0 = 0 from (lcmp0 _ _).mpr rfl)]
theorem cd_step {f a b k : Nat} (ha : a < 2 ^ 63) (hb : b < 2 ^ 63) (h0 : 0 < b) (hk : k < 200) : lp_X8_commonDivisor_9 (f + 1) (lN a) (lN b) (nI k) = lp_X8_commonDivisor_9 f (lN b) (lN (a % b)) (nI (k + 1)) := by
  show bd_X8_commonDivisor_9 _ _ _ _ = _
  unfold bd_X8_commonDivisor_9
  have hne : ¬ lN b = 0 := fun e => by rw [lN_0 hb] at e; omega
  rw [if_neg (show ¬ (200 : Int32) ≤ nI k from nI_ge hk (by decide)), if_neg (fun e => hne ((lcmp0 _ _).mp e))]
  unfold ck
  rw [if_pos hne, pk_lRem ha h0 hb, nI_1]
theorem cd_loop : ∀ (j a b k f : Nat), a < 2 ^ 63 → b < 2 ^ 63 → b < 2 ^ j → k + 2 * j ≤ 200 → 2 * j < f → lp_X8_commonDivisor_9 f (lN a) (lN b) (nI k) = some (lN (Nat.gcd a b))
  | 0, a, b, k, f, ha, _, hb, hk, hf => by
    have : b = 0 := by omega
    subst this
    obtain ⟨f, rfl⟩ : ∃ g, f = g + 1 := ⟨f - 1, by omega⟩
    rw [cd_stop, Nat.gcd_zero_right]
  | j + 1, a, b, k, f, ha, hb6, hb, hk, hf => by
    rcases Nat.eq_zero_or_pos b with h0 | h0
    · subst h0
      obtain ⟨f, rfl⟩ : ∃ g, f = g + 1 := ⟨f - 1, by omega⟩
      rw [cd_stop, Nat.gcd_zero_right]
    · obtain ⟨f, rfl⟩ : ∃ g, f = g + 2 := ⟨f - 2, by omega⟩
      have hm := Nat.mod_lt a h0
      rw [cd_step ha hb6 h0 (by omega), Nat.gcd_comm, Nat.gcd_rec, Nat.gcd_comm]
      rcases Nat.eq_zero_or_pos (a % b) with h1 | h1
      · rw [h1, cd_stop, Nat.gcd_zero_right]
      · have hh := mod_half h0 h1
        rw [cd_step hb6 (by omega) h1 (by omega), cd_loop j (a % b) (b % (a % b)) (k + 2) f (by omega) (by omega) (by rw [Nat.pow_succ] at hb; omega) (by omega) (by omega)]
        congr 2
        rw [Nat.gcd_comm b, Nat.gcd_rec (a % b) b, Nat.gcd_comm]
theorem FU_big : FU = 1000 := rfl
/-- the class's Euclid is the greatest common divisor -/
theorem cd_eq {a b : Nat} (ha : a < 2 ^ 63) (hb : b < 2 ^ 63) : f_X8_commonDivisor (lN a) (lN b) = some (lN (Nat.gcd a b)) := by
  unfold f_X8_commonDivisor
  rw [show (0 : Int32) = nI 0 from rfl, cd_loop 63 a b 0 FU ha hb hb (by omega) (by rw [FU_big]; omega)]
  rfl
theorem cm_stop {f a : Nat} : lp_X9_common_28 (f + 1) (lN a) (lN 0) = some (lN a) := by
  show bd_X9_common_28 _ _ _ = _
  unfold bd_X9_common_28
  rw [if_pos (show lg_cmp (lN 0) 0 = 0 from (lcmp0 _ _).mpr rfl)]
theorem cm_step {f a b : Nat} (ha : a < 2 ^ 63) (hb : b < 2 ^ 63) (h0 : 0 < b) : lp_X9_common_28 (f + 1) (lN a) (lN b) = lp_X9_common_28 f (lN b) (lN (a % b)) := by
  show bd_X9_common_28 _ _ _ = _
  unfold bd_X9_common_28
  have hne : ¬ lN b = 0 := fun e => by rw [lN_0 hb] at e; omega
  rw [if_neg (fun e => hne ((lcmp0 _ _).mp e))]
  unfold ck
  rw [if_pos hne, pk_lRem ha h0 hb]
theorem cm_loop : ∀ (j a b f : Nat), a < 2 ^ 63 → b < 2 ^ 63 → b < 2 ^ j → 2 * j < f → lp_X9_common_28 f (lN a) (lN b) = some (lN (Nat.gcd a b))
  | 0, a, b, f, ha, _, hb, hf => by
    have : b = 0 := by omega
    subst this
    obtain ⟨f, rfl⟩ : ∃ g, f = g + 1 := ⟨f - 1, by omega⟩
    rw [cm_stop, Nat.gcd_zero_right]
  | j + 1, a, b, f, ha, hb6, hb, hf => by
    rcases Nat.eq_zero_or_pos b with h0 | h0
    · subst h0
      obtain ⟨f, rfl⟩ : ∃ g, f = g + 1 := ⟨f - 1, by omega⟩
      rw [cm_stop, Nat.gcd_zero_right]
    · obtain ⟨f, rfl⟩ : ∃ g, f = g + 2 := ⟨f - 2, by omega⟩
      have hm := Nat.mod_lt a h0
      rw [cm_step ha hb6 h0, Nat.gcd_comm, Nat.gcd_rec, Nat.gcd_comm]
      rcases Nat.eq_zero_or_pos (a % b) with h1 | h1
      · rw [h1, cm_stop, Nat.gcd_zero_right]
      · have hh := mod_half h0 h1
        rw [cm_step hb6 (by omega) h1, cm_loop j (a % b) (b % (a % b)) f (by omega) (by omega) (by rw [Nat.pow_succ] at hb; omega) (by omega)]
        congr 2
        rw [Nat.gcd_comm b, Nat.gcd_rec (a % b) b, Nat.gcd_comm]
/-- the reference's, of numbers that aren't negative -/
theorem cmn_eq {a b : Nat} (ha : a < 2 ^ 63) (hb : b < 2 ^ 63) : f_X9_common (lN a) (lN b) = some (lN (Nat.gcd a b)) := by
  unfold f_X9_common
  rw [if_pos ((lg_cmp_ge _ _).mpr (by rw [lN0, pk_lLE (by decide) ha]; omega)), if_pos ((lg_cmp_ge _ _).mpr (by rw [lN0, pk_lLE (by decide) hb]; omega)), cm_loop 63 a b FU ha hb hb (by rw [FU_big]; omega)]
  rfl
