/-! Fermat's little theorem, and the two primes of the reference -/
def chs : Nat → Nat → Nat
  | _, 0 => 1
  | 0, _ + 1 => 0
  | n + 1, k + 1 => chs n k + chs n (k + 1)
theorem chs_0 (n : Nat) : chs n 0 = 1 := by cases n <;> rfl
theorem chs_s (n k : Nat) : chs (n + 1) (k + 1) = chs n k + chs n (k + 1) := rfl
theorem chs_big : ∀ (n k : Nat), n < k → chs n k = 0
  | 0, k + 1, _ => rfl
  | n + 1, k + 1, h => by rw [chs_s, chs_big n k (by omega), chs_big n (k + 1) (by omega)]
theorem chs_self : ∀ n, chs n n = 1
  | 0 => rfl
  | n + 1 => by rw [chs_s, chs_self n, chs_big n (n + 1) (by omega)]
theorem chs_abs : ∀ n k, (k + 1) * chs (n + 1) (k + 1) = (n + 1) * chs n k
  | 0, 0 => rfl
  | 0, k + 1 => by rw [chs_s, chs_big 0 (k + 1) (by omega), chs_big 0 (k + 1 + 1) (by omega)]; simp
  | n + 1, 0 => by
    have h := chs_abs n 0
    rw [chs_0] at h
    rw [chs_s, chs_0, Nat.mul_add, h]
    omega
  | n + 1, k + 1 => by
    have h1 := chs_abs n k
    have h2 := chs_abs n (k + 1)
    rw [chs_s (n + 1) (k + 1), Nat.mul_add, h2, Nat.succ_mul (k + 1) (chs (n + 1) (k + 1)), h1]
    have h3 : (n + 1) * chs (n + 1) (k + 1) = (n + 1) * chs n k + (n + 1) * chs n (k + 1) := by rw [chs_s, Nat.mul_add]
    rw [Nat.succ_mul (n + 1)]
    omega
def sN (f : Nat → Nat) : Nat → Nat
  | 0 => 0
  | n + 1 => sN f n + f n
theorem sN_succ (f : Nat → Nat) (n : Nat) : sN f (n + 1) = sN f n + f n := rfl
theorem sN_shift (f : Nat → Nat) : ∀ n, sN f (n + 1) = f 0 + sN (fun k => f (k + 1)) n
  | 0 => by show 0 + f 0 = f 0 + 0; omega
  | n + 1 => by rw [sN_succ, sN_shift f n, sN_succ (fun k => f (k + 1)) n]; omega
theorem sN_congr {f g : Nat → Nat} : ∀ {n : Nat}, (∀ k, k < n → f k = g k) → sN f n = sN g n
  | 0, _ => rfl
  | n + 1, h => by rw [sN_succ, sN_succ, sN_congr (fun k hk => h k (by omega)), h n (by omega)]
theorem sN_add (f g : Nat → Nat) : ∀ n, sN (fun k => f k + g k) n = sN f n + sN g n
  | 0 => rfl
  | n + 1 => by rw [sN_succ, sN_succ, sN_succ, sN_add f g n]; omega
theorem sN_mul (c : Nat) (f : Nat → Nat) : ∀ n, sN (fun k => c * f k) n = c * sN f n
  | 0 => rfl
  | n + 1 => by rw [sN_succ, sN_succ, sN_mul c f n, Nat.mul_add]
theorem sN_dvd {p : Nat} {f : Nat → Nat} : ∀ {n : Nat}, (∀ k, k < n → p ∣ f k) → p ∣ sN f n
  | 0, _ => ⟨0, rfl⟩
  | n + 1, h => Nat.dvd_add (sN_dvd (fun k hk => h k (by omega))) (h n (by omega))
theorem binom (x : Nat) : ∀ n, (x + 1) ^ n = sN (fun k => chs n k * x ^ k) (n + 1)
  | 0 => rfl
  | n + 1 => by
    have e1 : sN (fun k => chs (n + 1) k * x ^ k) (n + 1 + 1) = 1 + sN (fun k => x * (chs n k * x ^ k) + chs n (k + 1) * x ^ (k + 1)) (n + 1) := by
      rw [sN_shift, chs_0]
      congr 1
      apply sN_congr
      intro k hk
      show chs (n + 1) (k + 1) * x ^ (k + 1) = _
      rw [chs_s, Nat.add_mul, Nat.pow_succ]
      congr 1
      rw [Nat.mul_comm (x ^ k) x, ← Nat.mul_assoc, Nat.mul_comm (chs n k) x, Nat.mul_assoc]
    have e2 : 1 + sN (fun k => chs n (k + 1) * x ^ (k + 1)) (n + 1) = sN (fun k => chs n k * x ^ k) (n + 1) := by
      have h := sN_shift (fun k => chs n k * x ^ k) (n + 1)
      rw [sN_succ, chs_big n (n + 1) (by omega)] at h
      have h0 : chs n 0 * x ^ 0 = 1 := by rw [chs_0]; rfl
      simp only [h0] at h
      omega
    rw [e1, sN_add, sN_mul, Nat.pow_succ, binom x n, Nat.mul_add, Nat.mul_one, Nat.mul_comm _ x]
    omega
def isP (p : Nat) : Prop := 2 ≤ p ∧ ∀ d, d ∣ p → d = 1 ∨ d = p
theorem isP_co {p k : Nat} (hp : isP p) (h : ¬ p ∣ k) : Nat.Coprime p k := by
  rcases hp.2 (Nat.gcd p k) (Nat.gcd_dvd_left p k) with h1 | h1
  · exact h1
  · exact absurd (h1 ▸ Nat.gcd_dvd_right p k) h
theorem fermat {p : Nat} (hp : isP p) : ∀ x, x ^ p % p = x % p
  | 0 => by
    have := hp.1
    rw [Nat.zero_pow (by omega)]
  | x + 1 => by
    have h2 := hp.1
    obtain ⟨m, rfl⟩ : ∃ m, p = m + 1 := ⟨p - 1, by omega⟩
    have ih := fermat hp x
    rw [binom, sN_shift, sN_succ]
    have hd : (m + 1) ∣ sN (fun k => chs (m + 1) (k + 1) * x ^ (k + 1)) m := sN_dvd (fun k hk => by
      have h3 : (m + 1) ∣ (k + 1) * chs (m + 1) (k + 1) := ⟨chs m k, chs_abs m k⟩
      have h4 : Nat.Coprime (m + 1) (k + 1) := isP_co hp (fun h => by have := Nat.le_of_dvd (by omega) h; omega)
      exact Nat.dvd_trans (Nat.Coprime.dvd_of_dvd_mul_left h4 h3) (Nat.dvd_mul_right _ _))
    obtain ⟨z, hz⟩ := hd
    rw [hz, chs_0, chs_self]
    have e : 1 * x ^ 0 + ((m + 1) * z + 1 * x ^ (m + 1)) = (1 + x ^ (m + 1)) + (m + 1) * z := by
      rw [Nat.pow_zero]; omega
    rw [e, Nat.add_mul_mod_self_left, Nat.add_mod, ih, ← Nat.add_mod, Nat.add_comm]
theorem inverse {p x : Nat} (hp : isP p) (h : ¬ p ∣ x) : x ^ (p - 2) * x % p = 1 := by
  have h2 := hp.1
  have hx : 0 < x := Nat.pos_of_ne_zero (fun e => h (e ▸ Nat.dvd_zero p))
  have h3 := fermat hp x
  have e1 : x ^ p = x * x ^ (p - 1) := by
    rw [Nat.mul_comm, ← Nat.pow_succ]; congr 1; omega
  have e2 : x ^ (p - 2) * x = x ^ (p - 1) := by
    rw [← Nat.pow_succ]; congr 1; omega
  rw [e2]
  have hpos : 0 < x ^ (p - 1) := Nat.pow_pos hx
  have h4 : p ∣ x * (x ^ (p - 1) - 1) := by
    rw [Nat.mul_sub, Nat.mul_one, ← e1]
    exact Nat.dvd_of_mod_eq_zero (Nat.sub_mod_eq_zero_of_mod_eq h3)
  have h5 := Nat.Coprime.dvd_of_dvd_mul_left (isP_co hp h) h4
  obtain ⟨z, hz⟩ := h5
  have e3 : x ^ (p - 1) = 1 + p * z := by omega
  rw [e3, Nat.add_mul_mod_self_left, Nat.mod_eq_of_lt (by omega)]
def noDiv (p : Nat) : Nat → Bool
  | 0 => true
  | n + 1 => (p % (n + 2) != 0) && noDiv p n
theorem noDiv_at {p : Nat} : ∀ {n d : Nat}, noDiv p n = true → 2 ≤ d → d < n + 2 → ¬ d ∣ p
  | 0, d, _, h1, h2 => absurd h2 (by omega)
  | n + 1, d, h, h1, h2 => by
    simp only [noDiv, Bool.and_eq_true, bne_iff_ne, ne_eq] at h
    by_cases hd : d = n + 2
    · subst hd
      intro hv
      exact h.1 (Nat.mod_eq_zero_of_dvd hv)
    · exact noDiv_at h.2 h1 (by omega)
theorem isP_of {p n : Nat} (h2 : 2 ≤ p) (h : noDiv p n = true) (hn : p < (n + 2) * (n + 2)) : isP p := by
  refine ⟨h2, fun d hd => ?_⟩
  obtain ⟨e, he⟩ := hd
  rcases Nat.lt_or_ge d (n + 2) with h3 | h3
  · rcases Nat.lt_or_ge d 2 with h4 | h4
    · have : d ≠ 0 := fun z => by rw [z, Nat.zero_mul] at he; omega
      exact Or.inl (by omega)
    · exact absurd ⟨e, he⟩ (noDiv_at h h4 h3)
  · rcases Nat.lt_or_ge e (n + 2) with h5 | h5
    · rcases Nat.lt_or_ge e 2 with h4 | h4
      · have h0 : e ≠ 0 := fun z => by rw [z, Nat.mul_zero] at he; omega
        have : e = 1 := by omega
        exact Or.inr (by rw [he, this, Nat.mul_one])
      · exact absurd ⟨d, by rw [he, Nat.mul_comm]⟩ (noDiv_at h h4 h5)
    · have := Nat.mul_le_mul h3 h5
      omega
theorem prime1 : isP 998244353 := isP_of (n := 31600) (by decide) (by decide +kernel) (by decide)
theorem prime2 : isP 1000000007 := isP_of (n := 31625) (by decide) (by decide +kernel) (by decide)
