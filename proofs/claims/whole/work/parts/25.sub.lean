/-! sets of columns as bits: how many lie below a column, which is the j-th; a determinant by its last row over sets -/
def cnt (S : Nat) : Nat → Nat
  | 0 => 0
  | c + 1 => cnt S c + (if S.testBit c then 1 else 0)
theorem cnt_s (S c : Nat) : cnt S (c + 1) = cnt S c + (if S.testBit c then 1 else 0) := rfl
theorem cnt_mono (S : Nat) {a b : Nat} (h : a ≤ b) : cnt S a ≤ cnt S b := by
  induction b with
  | zero => have : a = 0 := by omega
            subst this; exact Nat.le_refl _
  | succ b ih =>
    rcases Nat.lt_or_ge a (b + 1) with h1 | h1
    · have := ih (by omega)
      rw [cnt_s]
      omega
    · have : a = b + 1 := by omega
      subst this; exact Nat.le_refl _
theorem cnt_lt (S : Nat) {a b : Nat} (h : a < b) (ha : S.testBit a = true) : cnt S a < cnt S b := by
  have h1 := cnt_mono S (show a + 1 ≤ b by omega)
  rw [cnt_s, if_pos ha] at h1
  omega
def el (S j : Nat) : Nat → Nat
  | 0 => 0
  | n + 1 => if S.testBit n ∧ cnt S n = j then n else el S j n
theorem el_ok (S j : Nat) : ∀ {n : Nat}, j < cnt S n → el S j n < n ∧ S.testBit (el S j n) = true ∧ cnt S (el S j n) = j
  | 0, h => absurd h (by show ¬ j < 0; omega)
  | n + 1, h => by
    unfold el
    split
    · rename_i hc
      exact ⟨by omega, hc.1, hc.2⟩
    · rename_i hc
      have h1 : j < cnt S n := by
        rw [cnt_s] at h
        by_cases hb : S.testBit n = true
        · rw [if_pos hb] at h
          have : cnt S n ≠ j := fun e => hc ⟨hb, e⟩
          omega
        · rw [if_neg hb] at h
          omega
      obtain ⟨a, b, c⟩ := el_ok S j h1
      exact ⟨by omega, b, c⟩
theorem el_un {S c n : Nat} (hc : c < n) (hb : S.testBit c = true) : el S (cnt S c) n = c := by
  have h := el_ok S (cnt S c) (n := n) (Nat.lt_of_lt_of_le (cnt_lt S (Nat.lt_succ_self c) hb) (cnt_mono S hc))
  obtain ⟨h1, h2, h3⟩ := h
  rcases Nat.lt_trichotomy (el S (cnt S c) n) c with h4 | h4 | h4
  · have := cnt_lt S h4 h2
    omega
  · exact h4
  · have := cnt_lt S h4 hb
    omega
theorem tb_flip (S c i : Nat) : (S ^^^ 2 ^ c).testBit i = (S.testBit i ^^ decide (c = i)) := by
  rw [Nat.testBit_xor, Nat.testBit_two_pow]
theorem cnt_flip {S c : Nat} (hb : S.testBit c = true) : ∀ x, cnt (S ^^^ 2 ^ c) x + (if c < x then 1 else 0) = cnt S x
  | 0 => by rw [if_neg (by omega)]; rfl
  | x + 1 => by
    have ih := cnt_flip hb x
    rw [cnt_s, cnt_s, tb_flip]
    by_cases h1 : c = x
    · subst h1
      rw [if_neg (show ¬ c < c by omega)] at ih
      rw [hb, if_pos (show c < c + 1 by omega)]
      simp
      omega
    · have h2 : (S.testBit x ^^ decide (c = x)) = S.testBit x := by simp [h1]
      rw [h2]
      by_cases h3 : c < x
      · rw [if_pos h3] at ih
        rw [if_pos (show c < x + 1 by omega)]
        omega
      · rw [if_neg h3] at ih
        rw [if_neg (show ¬ c < x + 1 by omega)]
        omega
/-- the columns of a set without its p-th -/
theorem el_flip {S n p j : Nat} (hp : p < cnt S n) (hj : j + 1 < cnt S n) : el (S ^^^ 2 ^ (el S p n)) j n = el S (rmc p j) n := by
  obtain ⟨a1, a2, a3⟩ := el_ok S p hp
  have hr : rmc p j < cnt S n := by unfold rmc; split <;> omega
  obtain ⟨b1, b2, b3⟩ := el_ok S (rmc p j) hr
  have hpj : rmc p j ≠ p := by unfold rmc; split <;> omega
  have hne : el S p n ≠ el S (rmc p j) n := fun e => by
    apply hpj
    rw [← b3, ← e, a3]
  have hb : (S ^^^ 2 ^ (el S p n)).testBit (el S (rmc p j) n) = true := by
    rw [tb_flip, b2]
    simp [hne]
  have hc := cnt_flip a2 (el S (rmc p j) n)
  rw [b3] at hc
  have hcj : cnt (S ^^^ 2 ^ (el S p n)) (el S (rmc p j) n) = j := by
    have hrv : (j < p ∧ rmc p j = j) ∨ (p ≤ j ∧ rmc p j = j + 1) := by
      unfold rmc
      split
      · exact Or.inl ⟨by assumption, rfl⟩
      · exact Or.inr ⟨by omega, rfl⟩
    rcases Nat.lt_trichotomy (el S p n) (el S (rmc p j) n) with h | h | h
    · rw [if_pos h] at hc
      have h2 := cnt_lt S h a2
      omega
    · exact absurd h hne
    · rw [if_neg (show ¬ el S p n < el S (rmc p j) n by omega)] at hc
      have h2 := cnt_lt S h b2
      omega
  have := el_un (n := n) b1 hb
  rw [hcj] at this
  exact this
/-- the determinant of the first rows and the columns of a set -/
def dS (A : Nat → Nat → Int) (n S : Nat) : Int := det (cnt S n) (fun i j => A i (el S j n))
theorem dS_step {A : Nat → Nat → Int} {n S k : Nat} (hk : cnt S n = k + 1) : dS A n S = sI (fun p => sgn k p * A k (el S p n) * dS A n (S ^^^ 2 ^ (el S p n))) (k + 1) := by
  unfold dS
  rw [hk, det_succ]
  apply sI_congr
  intro p hp
  obtain ⟨a1, a2, a3⟩ := el_ok S p (n := n) (by omega)
  have hc := cnt_flip a2 n
  rw [if_pos a1, hk] at hc
  have hc' : cnt (S ^^^ 2 ^ (el S p n)) n = k := by omega
  rw [hc']
  congr 1
  exact det_congr (fun i j hi hj => by rw [el_flip (by omega) (by omega)])
theorem cnt_all : ∀ n N, N ≤ n → cnt (2 ^ n - 1) N = N
  | _, 0, _ => rfl
  | n, N + 1, h => by
    rw [cnt_s, cnt_all n N (by omega), Nat.testBit_two_pow_sub_one, if_pos (by simp; omega)]
/-- all columns: the determinant itself -/
theorem dS_all (A : Nat → Nat → Int) (n : Nat) : dS A n (2 ^ n - 1) = det n A := by
  unfold dS
  rw [cnt_all n n (Nat.le_refl n)]
  apply det_congr
  intro i j hi hj
  have h := el_un (S := 2 ^ n - 1) (c := j) (n := n) hj (by rw [Nat.testBit_two_pow_sub_one]; simp; omega)
  rw [cnt_all n j (by omega)] at h
  rw [h]
theorem dS_0 (A : Nat → Nat → Int) (n : Nat) : dS A n 0 = 1 := by
  have h : ∀ N, cnt 0 N = 0 := by
    intro N
    induction N with
    | zero => rfl
    | succ N ih => rw [cnt_s, ih, Nat.zero_testBit]; rfl
  unfold dS
  rw [h n]
  rfl
theorem bitc : ∀ s, s < 256 → f_J6_bitCount_0f7a4 (nI s) = some (nI (cnt s 8)) := by decide +kernel
