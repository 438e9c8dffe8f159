/-! the reference's powers and remainders -/
theorem lN1 : (1 : Int64) = lN 1 := rfl
theorem lN2 : (2 : Int64) = lN 2 := rfl
theorem ck_nz {α : Type} {a : Nat} {k : Option α} (h : a < 2 ^ 63) (h0 : 0 < a) : ck (¬ lN a = 0) k = k := ck_t (fun e => by rw [lN_0 h] at e; omega)
theorem pow_half (x e p : Nat) : (x * x % p) ^ (e / 2) * x ^ (e % 2) % p = x ^ e % p := by
  have h1 : x ^ e = (x * x) ^ (e / 2) * x ^ (e % 2) := by
    rw [← Nat.pow_two, ← Nat.pow_mul, ← Nat.pow_add]
    congr 1
    omega
  rw [h1, Nat.mul_mod, ← Nat.pow_mod, ← Nat.mul_mod]
theorem pw_loop {p : Nat} (hp : 1 < p) (hp2 : p < 2 ^ 31) : ∀ (j f r x e : Nat), r < p → x < p → e < 2 ^ j → j ≤ 62 → j < f → lp_X9_power_9 (lN p) f (lN r) (lN x) (lN e) = some (lN (r * x ^ e % p))
  | 0, f, r, x, e, hr, hx, he, _, hf => by
    have : e = 0 := by omega
    subst this
    obtain ⟨g, rfl⟩ : ∃ g, f = g + 1 := ⟨f - 1, by omega⟩
    show bd_X9_power_9 _ _ _ _ _ = _
    unfold bd_X9_power_9
    rw [if_pos (by decide), Nat.pow_zero, Nat.mul_one, Nat.mod_eq_of_lt hr]
  | j + 1, f, r, x, e, hr, hx, he, hj, hf => by
    obtain ⟨g, rfl⟩ : ∃ g, f = g + 1 := ⟨f - 1, by omega⟩
    have h62 : 2 ^ (j + 1) ≤ 2 ^ 62 := Nat.pow_le_pow_right (by decide) hj
    have hrx : r * x < 2 ^ 62 := by
      have := Nat.mul_lt_mul'' (show r < 2 ^ 31 by omega) (show x < 2 ^ 31 by omega)
      omega
    have hxx : x * x < 2 ^ 62 := by
      have := Nat.mul_lt_mul'' (show x < 2 ^ 31 by omega) (show x < 2 ^ 31 by omega)
      omega
    show bd_X9_power_9 _ _ _ _ _ = _
    unfold bd_X9_power_9
    rcases Nat.eq_zero_or_pos e with h0 | h0
    · subst h0
      rw [if_pos (by decide), Nat.pow_zero, Nat.mul_one, Nat.mod_eq_of_lt hr]
    · have hle : ¬ lg_cmp (lN e) (0 : Int64) ≤ 0 := by
        rw [lg_cmp_le, lN0, pk_lLE (by omega) (by decide)]
        omega
      have hd : lN e / (2 : Int64) = lN (e / 2) := by rw [lN2, pk_lDiv (by omega) (by decide) (by decide)]
      have hm : lN e - lN e / (2 : Int64) * (2 : Int64) = lN (e % 2) := by rw [lN2, pk_lRem (by omega) (by decide) (by decide)]
      have hjn : ∀ r', r' < p → jn_X9_power_37 (lp_X9_power_9 (lN p) g) (lN p) (lN r') (lN x) (lN e) = some (lN (r' * (x * x % p) ^ (e / 2) % p)) := by
        intro r' hr'
        unfold jn_X9_power_37
        rw [ck_nz (by omega) (by omega), ck_t (by decide), lN_mul, pk_lRem (by omega) (by omega) (by omega), hd]
        exact pw_loop hp hp2 j g r' (x * x % p) (e / 2) hr' (Nat.mod_lt _ (by omega)) (by rw [Nat.pow_succ] at he; omega) (by omega) (by omega)
      rw [if_neg hle, ck_t (by decide), hm]
      have hph := pow_half x e p
      by_cases ho : e % 2 = 1
      · rw [ho, if_pos (show lg_cmp (lN 1) (1 : Int64) = 0 from (lcmp0 _ _).mpr rfl), ck_nz (by omega) (by omega), lN_mul, pk_lRem (by omega) (by omega) (by omega), hjn _ (Nat.mod_lt _ (by omega))]
        congr 2
        rw [ho, Nat.pow_one] at hph
        rw [Nat.mul_mod (r * x % p), Nat.mod_mod, ← Nat.mul_mod, Nat.mul_mod r (x ^ e), ← hph, ← Nat.mul_mod, Nat.mul_assoc, Nat.mul_comm x]
      · have ho2 : e % 2 = 0 := by omega
        rw [ho2, if_neg (fun h => by rw [lcmp0, lN1, pk_lEQ (by decide) (by decide)] at h; omega), hjn _ hr]
        congr 2
        rw [ho2, Nat.pow_zero, Nat.mul_one] at hph
        rw [Nat.mul_mod, hph, ← Nat.mul_mod]
/-- the reference's power -/
theorem pw_eq {p x e : Nat} (hp : 1 < p) (hp2 : p < 2 ^ 31) (hx : x < p) (he : e < 2 ^ 62) : f_X9_power (lN x) (lN e) (lN p) = some (lN (x ^ e % p)) := by
  unfold f_X9_power
  rw [lN1, pw_loop hp hp2 62 FU 1 x e hp hx he (by decide) (by rw [FU_big]; decide), Option.bind_some, Nat.one_mul]
/-- the remainder that isn't negative -/
theorem fb_bm {z : Int} (h1 : -9223372036854775808 ≤ z) (h2 : z < 9223372036854775808) : z.bmod (2 ^ 64) = z := by
  rw [Int.bmod_def]
  split <;> omega
theorem rem_z {z : Int} {p : Nat} (h1 : -(2 ^ 62) < z) (h2 : z < 2 ^ 62) (hp : 0 < p) (hp2 : p < 2 ^ 31) : (if 0 ≤ lg_cmp (Int64.ofInt z - Int64.ofInt z / lN p * lN p) (0 : Int64) then Int64.ofInt z - Int64.ofInt z / lN p * lN p else Int64.ofInt z - Int64.ofInt z / lN p * lN p + lN p) = lN (z % p).toNat := by
  have hpI : (lN p).toInt = (p : Int) := pk_lT (by omega)
  have hem := Int.emod_nonneg z (show (p : Int) ≠ 0 by omega)
  have hel := Int.emod_lt_of_pos z (show (0 : Int) < p by omega)
  rcases Int.le_total 0 z with h | h
  · obtain ⟨k, rfl⟩ := Int.eq_ofNat_of_zero_le h
    have e : Int64.ofInt (k : Int) = lN k := rfl
    have hk : k < 2 ^ 62 := by omega
    rw [e, pk_lRem (by omega) hp (by omega), if_pos ((lg_cmp_ge _ _).mpr (by rw [lN0, pk_lLE (by decide) (by have := Nat.mod_lt k hp; omega)]; omega))]
    congr 1
  · obtain ⟨k, hk⟩ := Int.eq_ofNat_of_zero_le (show 0 ≤ -z by omega)
    have hz : z = -(k : Int) := by omega
    subst hz
    have hk : k < 2 ^ 62 := by omega
    have e : Int64.ofInt (-(k : Int)) = - lN k := by rw [Int64.ofInt_neg]; rfl
    have hkp : k / p ≤ k := Nat.div_le_self k p
    have e2 : - lN k / lN p = - (lN k / lN p) := by
      rw [pk_lDiv (by omega) hp (by omega)]
      apply Int64.toInt_inj.mp
      have ab : ∀ d : Nat, d ≤ k → (-(d : Int)).bmod (2 ^ 64) = -(d : Int) := fun d hd => fb_bm (by omega) (by omega)
      have aa : ∀ d : Nat, d ≤ k → (- lN d).toInt = -(d : Int) := fun d hd => by
        rw [Int64.toInt_neg, pk_lT (by omega)]
        exact ab d hd
      have a1 := aa k (Nat.le_refl k)
      have a2 := aa (k / p) hkp
      rw [Int64.toInt_div, a1, a2, hpI, Int.neg_tdiv, ← Int.ofNat_tdiv]
      exact ab _ hkp
    have e3 : - lN k - - lN k / lN p * lN p = - (lN k - lN k / lN p * lN p) := by
      rw [e2, Int64.neg_mul, Int64.sub_neg, Int64.neg_sub, Int64.add_comm, ← Int64.sub_eq_add_neg]
    rw [e, e3, pk_lRem (by omega) hp (by omega)]
    have hml := Nat.mod_lt k hp
    have hti : (lN (k % p)).toInt = ((k % p : Nat) : Int) := pk_lT (by omega)
    have hnt : (- lN (k % p)).toInt = - ((k % p : Nat) : Int) := by
      rw [Int64.toInt_neg, hti]
      exact fb_bm (by omega) (by omega)
    by_cases h0 : k % p = 0
    · rw [h0, if_pos (by decide)]
      have : (-(k : Int)) % (p : Int) = 0 := by
        rw [Int.emod_eq_zero_of_dvd]
        exact Int.dvd_neg.mpr (Int.natCast_dvd_natCast.mpr (Nat.dvd_of_mod_eq_zero h0))
      rw [this]
      rfl
    · rw [if_neg (fun hh => by
        rw [lg_cmp_ge, Int64.le_iff_toInt_le, hnt] at hh
        simp at hh
        omega)]
      have hr : (-(k : Int)) % (p : Int) = (p : Int) - ((k % p : Nat) : Int) := by
        have hdm := Nat.div_add_mod k p
        have : -(k : Int) = ((p : Int) - ((k % p : Nat) : Int)) + (p : Int) * (-((k / p : Nat) : Int) - 1) := by
          rw [Int.mul_sub, Int.mul_neg, ← Int.natCast_mul]
          omega
        rw [this, Int.add_mul_emod_self_left]
        exact Int.emod_eq_of_lt (by omega) (by omega)
      rw [hr, Int64.add_comm, ← Int64.sub_eq_add_neg, lN_sub (by omega)]
      congr 1
      omega
