/-! loops whose state is known at each turn; sets as bits -/
theorem lpFj {α β : Type} (lp : Nat → α → Int32 → Option β) (enc : Nat → α) (n : Nat) (r : β) (hs : ∀ q j, j < n → lp (q + 1) (enc j) (nI j) = lp q (enc (j + 1)) (nI (j + 1))) (he : ∀ q, lp (q + 1) (enc n) (nI n) = some r) : ∀ (m j f : Nat), j + m = n → m < f → lp f (enc j) (nI j) = some r
  | 0, j, f, hj, hf => by
    obtain ⟨q, rfl⟩ : ∃ q, f = q + 1 := ⟨f - 1, by omega⟩
    have : j = n := by omega
    subst this
    exact he q
  | m + 1, j, f, hj, hf => by
    obtain ⟨q, rfl⟩ : ∃ q, f = q + 1 := ⟨f - 1, by omega⟩
    rw [hs q j (by omega)]
    exact lpFj lp enc n r hs he m (j + 1) q (by omega) (by omega)
/-- a loop from 0 to n; its state before turn j is enc j -/
theorem lpF {α β : Type} (lp : Nat → α → Int32 → Option β) (enc : Nat → α) (n : Nat) (r : β) (hn : n < 1000) (hs : ∀ q j, j < n → lp (q + 1) (enc j) (nI j) = lp q (enc (j + 1)) (nI (j + 1))) (he : ∀ q, lp (q + 1) (enc n) (nI n) = some r) : lp FU (enc 0) (nI 0) = some r := lpFj lp enc n r hs he n 0 FU (by omega) (by rw [FU_big]; exact hn)
theorem lpIj {α β : Type} (lp : Nat → Int32 → α → Option β) (Inv : Nat → α → Prop) (n : Nat) (R : β → Prop) (hs : ∀ q j x, j < n → Inv j x → (∃ x', Inv (j + 1) x' ∧ lp (q + 1) (nI j) x = lp q (nI (j + 1)) x') ∨ OK (lp (q + 1) (nI j) x) R) (he : ∀ q x, Inv n x → OK (lp (q + 1) (nI n) x) R) : ∀ (m j f : Nat) (x : α), j + m = n → m < f → Inv j x → OK (lp f (nI j) x) R
  | 0, j, f, x, hj, hf, hI => by
    obtain ⟨q, rfl⟩ : ∃ q, f = q + 1 := ⟨f - 1, by omega⟩
    have : j = n := by omega
    subst this
    exact he q x hI
  | m + 1, j, f, x, hj, hf, hI => by
    obtain ⟨q, rfl⟩ : ∃ q, f = q + 1 := ⟨f - 1, by omega⟩
    rcases hs q j x (by omega) hI with ⟨x', h1, h2⟩ | h
    · rw [h2]
      exact lpIj lp Inv n R hs he m (j + 1) q x' (by omega) (by omega) h1
    · exact h
/-- a loop from j0 to n; before turn j its state keeps Inv j; it may end early -/
theorem lpI {α β : Type} (lp : Nat → Int32 → α → Option β) (Inv : Nat → α → Prop) (n : Nat) (R : β → Prop) (hn : n < 1000) (hs : ∀ q j x, j < n → Inv j x → (∃ x', Inv (j + 1) x' ∧ lp (q + 1) (nI j) x = lp q (nI (j + 1)) x') ∨ OK (lp (q + 1) (nI j) x) R) (he : ∀ q x, Inv n x → OK (lp (q + 1) (nI n) x) R) {j0 : Nat} {x : α} (hj : j0 ≤ n) (h0 : Inv j0 x) : OK (lp FU (nI j0) x) R := lpIj lp Inv n R hs he (n - j0) j0 FU x (by omega) (by rw [FU_big]; omega) h0
theorem nI_or (a b : Nat) : nI a ||| nI b = nI (a ||| b) := by
  apply Int32.toBitVec_inj.1
  show BitVec.ofNat 32 a ||| BitVec.ofNat 32 b = BitVec.ofNat 32 (a ||| b)
  apply BitVec.eq_of_getLsbD_eq
  intro i hi
  simp [hi]
theorem nI_and (a b : Nat) : nI a &&& nI b = nI (a &&& b) := by
  apply Int32.toBitVec_inj.1
  show BitVec.ofNat 32 a &&& BitVec.ofNat 32 b = BitVec.ofNat 32 (a &&& b)
  apply BitVec.eq_of_getLsbD_eq
  intro i hi
  simp [hi]
theorem nI_com (b : Nat) : nI b ^^^ (-1) = nI (b ^^^ 4294967295) := by
  rw [show (-1 : Int32) = nI 4294967295 from rfl, nI_xor]
/-- a set without another -/
def sdf (a b : Nat) : Nat := a &&& (b ^^^ 4294967295)
theorem sdf_t {a b i : Nat} (hi : i < 32) : (sdf a b).testBit i = (a.testBit i && !b.testBit i) := by
  unfold sdf
  rw [Nat.testBit_and, Nat.testBit_xor, show (4294967295 : Nat) = 2 ^ 32 - 1 from rfl, Nat.testBit_two_pow_sub_one, decide_eq_true hi]
  simp
theorem sdf_le (a b : Nat) : sdf a b ≤ a := Nat.and_le_left
theorem nI_sdf (a b : Nat) : nI a &&& nI (b ^^^ 4294967295) = nI (sdf a b) := nI_and _ _
/-- the set of the first n whose mark is set -/
def mkS (p : Nat → Bool) : Nat → Nat
  | 0 => 0
  | n + 1 => mkS p n ||| (if p n then 2 ^ n else 0)
theorem mkS_s (p : Nat → Bool) (n : Nat) : mkS p (n + 1) = mkS p n ||| (if p n then 2 ^ n else 0) := rfl
theorem mkS_t (p : Nat → Bool) : ∀ n i, (mkS p n).testBit i = (decide (i < n) && p i)
  | 0, i => by
    show (0 : Nat).testBit i = _
    simp
  | n + 1, i => by
    rw [mkS_s, Nat.testBit_or, mkS_t p n i]
    by_cases h : p n = true
    · rw [if_pos h, Nat.testBit_two_pow]
      by_cases e : n = i
      · subst e; simp [h]
      · simp [e]
        by_cases h2 : i < n
        · simp [h2, show i < n + 1 by omega]
        · simp [h2, show ¬ i < n + 1 by omega]
    · rw [if_neg h, Nat.zero_testBit, Bool.or_false]
      have h' : p n = false := by simpa using h
      by_cases e : i = n
      · subst e; simp [h']
      · by_cases h2 : i < n
        · simp [h2, show i < n + 1 by omega]
        · simp [h2, show ¬ i < n + 1 by omega]
theorem p2m {a b : Nat} (h : a ≤ b) : 2 ^ a ≤ 2 ^ b := Nat.pow_le_pow_right (by decide) h
theorem p2l {a b : Nat} (h : a < b) : 2 ^ a < 2 ^ b := Nat.pow_lt_pow_of_lt (by decide) h
theorem mkS_lt (p : Nat → Bool) : ∀ n, mkS p n < 2 ^ n
  | 0 => Nat.zero_lt_one
  | n + 1 => by
    rw [mkS_s]
    have h1 := mkS_lt p n
    have h2 := p2l (show n < n + 1 by omega)
    apply Nat.or_lt_two_pow
    · omega
    · split
      · exact h2
      · exact Nat.pow_pos (by decide)
theorem mkS_8 (p : Nat → Bool) {n : Nat} (h : n ≤ 8) : mkS p n < 256 := Nat.lt_of_lt_of_le (mkS_lt p n) (p2m h)
theorem tb_ge {S n i : Nat} (h : S < 2 ^ n) (hi : n ≤ i) : S.testBit i = false := Nat.testBit_lt_two_pow (Nat.lt_of_lt_of_le h (p2m hi))
/-- two sets of the first n with the same members are the same -/
theorem set_ext {S T n : Nat} (hS : S < 2 ^ n) (hT : T < 2 ^ n) (h : ∀ i, i < n → S.testBit i = T.testBit i) : S = T := by
  apply Nat.eq_of_testBit_eq
  intro i
  by_cases hi : i < n
  · exact h i hi
  · rw [tb_ge hS (by omega), tb_ge hT (by omega)]
theorem set_0 {S n : Nat} (hS : S < 2 ^ n) : S = 0 ↔ ∀ i, i < n → S.testBit i = false := by
  constructor
  · intro h i _
    rw [h, Nat.zero_testBit]
  · intro h
    apply set_ext hS (Nat.pow_pos (by decide))
    intro i hi
    rw [h i hi, Nat.zero_testBit]
theorem mkS_congr {p r : Nat → Bool} {n : Nat} (h : ∀ i, i < n → p i = r i) : mkS p n = mkS r n := by
  apply set_ext (mkS_lt p n) (mkS_lt r n)
  intro i hi
  rw [mkS_t, mkS_t, h i hi]
theorem low_t {i j : Nat} : (2 ^ i - 1).testBit j = decide (j < i) := Nat.testBit_two_pow_sub_one i j
theorem sh_m1 {i : Nat} (hi : i < 31) : (nI (2 ^ i)) - nI 1 = nI (2 ^ i - 1) := pk_sub (Nat.pow_pos (by decide))
theorem p2_lt {i : Nat} (h : i < 31) : 2 ^ i < 2 ^ 31 := p2l h
theorem has_b {s i : Nat} (hs : s < 2 ^ 31) (hi : i < 32) : f_X8_has (nI s) (nI i) = some (bI (s.testBit i)) := by
  rw [has_s hs hi]
  rfl
/-- how many of the first n have their mark set -/
def ct (p : Nat → Bool) : Nat → Nat
  | 0 => 0
  | n + 1 => ct p n + (if p n then 1 else 0)
theorem ct_s (p : Nat → Bool) (n : Nat) : ct p (n + 1) = ct p n + (if p n then 1 else 0) := rfl
theorem ct_le (p : Nat → Bool) : ∀ n, ct p n ≤ n
  | 0 => Nat.le_refl _
  | n + 1 => by
    have := ct_le p n
    rw [ct_s]
    split <;> omega
theorem ct_mono (p : Nat → Bool) {a b : Nat} (h : a ≤ b) : ct p a ≤ ct p b := by
  induction b with
  | zero => have : a = 0 := by omega
            subst this; exact Nat.le_refl _
  | succ b ih =>
    rcases Nat.lt_or_ge a (b + 1) with h1 | h1
    · have := ih (by omega)
      rw [ct_s]
      omega
    · have : a = b + 1 := by omega
      subst this; exact Nat.le_refl _
theorem ct_lt (p : Nat → Bool) {a b : Nat} (h : a < b) (ha : p a = true) : ct p a < ct p b := by
  have h1 := ct_mono p (show a + 1 ≤ b by omega)
  rw [ct_s, if_pos ha] at h1
  omega
