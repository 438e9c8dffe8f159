/-! determinants: triangles, blocks of zeros, remainders, bounds, a step of elimination -/
theorem sI_last {f : Nat → Int} {n : Nat} (h : ∀ k, k < n → f k = 0) : sI f (n + 1) = f n := by
  rw [sI_succ, sI_0 h]
  omega
theorem sgn_self (n : Nat) : sgn n n = 1 := by
  unfold sgn
  rw [if_pos (by omega)]
/-- the last row has its last place alone -/
theorem det_lastrow {n : Nat} {A : Nat → Nat → Int} (h : ∀ j, j < n → A n j = 0) : det (n + 1) A = A n n * det n A := by
  rw [det_succ, sI_last (fun k hk => by rw [h k hk]; grind), sgn_self]
  rw [det_congr (A := fun i j => A i (rmc n j)) (B := A) (fun i j hi hj => by show A i (rmc n j) = A i j; unfold rmc; rw [if_pos hj])]
  grind
def dprod (A : Nat → Nat → Int) : Nat → Int
  | 0 => 1
  | n + 1 => A n n * dprod A n
theorem det_tri : ∀ {n : Nat} {A : Nat → Nat → Int}, (∀ i j, i < n → j < i → A i j = 0) → det n A = dprod A n
  | 0, _, _ => rfl
  | n + 1, A, h => by
    rw [det_lastrow (fun j hj => h n j (by omega) hj), det_tri (fun i j hi hj => h i j (by omega) hj)]
    rfl
theorem det_block : ∀ {n : Nat} {A : Nat → Nat → Int} {k : Nat}, k < n → (∀ i j, k ≤ i → i < n → j ≤ k → A i j = 0) → det n A = 0
  | 0, _, k, h, _ => absurd h (by omega)
  | n + 1, A, k, h, hz => by
    rw [det_succ]
    apply sI_0
    intro c hc
    by_cases hck : c ≤ k
    · rw [hz n c (by omega) (by omega) hck]
      grind
    · have e : det n (fun i j => A i (rmc c j)) = 0 := det_block (k := k) (by omega) (fun i j hi hin hj => by
        show A i (rmc c j) = 0
        unfold rmc
        rw [if_pos (by omega)]
        exact hz i j hi (by omega) hj)
      rw [e]
      grind
theorem sI_dvd {p : Int} {f g : Nat → Int} : ∀ {n : Nat}, (∀ k, k < n → p ∣ f k - g k) → p ∣ sI f n - sI g n
  | 0, _ => ⟨0, by simp [sI]⟩
  | n + 1, h => by
    have h1 := sI_dvd (fun k hk => h k (Nat.lt_succ_of_lt hk))
    have h2 := h n (Nat.lt_succ_self n)
    obtain ⟨a, ha⟩ := h1
    obtain ⟨b, hb⟩ := h2
    refine ⟨a + b, ?_⟩
    rw [sI_succ, sI_succ, Int.mul_add, ← ha, ← hb]
    omega
theorem mul_dvd_sub {p a b a' b' : Int} (h1 : p ∣ a - a') (h2 : p ∣ b - b') : p ∣ a * b - a' * b' := by
  obtain ⟨x, hx⟩ := h1
  obtain ⟨y, hy⟩ := h2
  refine ⟨x * b + a' * y, ?_⟩
  have e : a * b - a' * b' = (a - a') * b + a' * (b - b') := by grind
  rw [e, hx, hy]
  grind
/-- equal up to multiples of p, place by place: so are the determinants -/
theorem det_mod {p : Int} : ∀ {n : Nat} {A B : Nat → Nat → Int}, (∀ i j, i < n → j < n → p ∣ A i j - B i j) → p ∣ det n A - det n B
  | 0, _, _, _ => ⟨0, by simp [det]⟩
  | n + 1, A, B, h => by
    rw [det_succ, det_succ]
    apply sI_dvd
    intro c hc
    refine mul_dvd_sub ?_ (det_mod (A := fun i j => A i (rmc c j)) (B := fun i j => B i (rmc c j)) (fun i j hi hj => h i (rmc c j) (by omega) (rmc_lt hj)))
    exact mul_dvd_sub ⟨0, by omega⟩ (h n c (by omega) hc)
theorem sI_rmc (f : Nat → Int) : ∀ (n c : Nat), c ≤ n → sI f (n + 1) = sI (fun j => f (rmc c j)) n + f c
  | 0, c, h => by
    have : c = 0 := by omega
    subst this
    rfl
  | n + 1, c, h => by
    by_cases hc : c = n + 1
    · subst hc
      rw [sI_succ, sI_congr (f := f) (g := fun j => f (rmc (n + 1) j)) (fun k hk => by show f k = f (rmc (n + 1) k); unfold rmc; rw [if_pos (by omega)])]
    · rw [sI_succ, sI_rmc f n c (by omega), sI_succ]
      have e : rmc c n = n + 1 := by unfold rmc; rw [if_neg (by omega)]
      rw [e]
      omega
theorem sI_mono {f g : Nat → Int} : ∀ {n : Nat}, (∀ k, k < n → f k ≤ g k) → sI f n ≤ sI g n
  | 0, _ => Int.le_refl _
  | n + 1, h => by
    have h1 := sI_mono (fun k hk => h k (Nat.lt_succ_of_lt hk))
    have h2 := h n (Nat.lt_succ_self n)
    rw [sI_succ, sI_succ]
    omega
theorem sI_nonneg {f : Nat → Int} {n : Nat} (h : ∀ k, k < n → 0 ≤ f k) : 0 ≤ sI f n := by
  have := sI_mono (f := fun _ => 0) (g := f) h
  rw [sI_zero] at this
  exact this
theorem sI_abs (f : Nat → Int) : ∀ n, (sI f n).natAbs ≤ sI (fun k => ((f k).natAbs : Int)) n
  | 0 => Int.le_refl _
  | n + 1 => by
    have h := sI_abs f n
    rw [sI_succ, sI_succ]
    omega
theorem sgn_abs (n c : Nat) : (sgn n c).natAbs = 1 := by
  unfold sgn
  split <;> rfl
theorem det_bound (b : Int) (hb : 0 ≤ b) : ∀ {n : Nat} {A : Nat → Nat → Int}, (∀ i, i < n → sI (fun j => ((A i j).natAbs : Int)) n ≤ b) → ((det n A).natAbs : Int) ≤ b ^ n
  | 0, _, _ => by simp [det]
  | n + 1, A, h => by
    rw [det_succ]
    refine Int.le_trans (sI_abs _ _) ?_
    have e : sI (fun k => ((sgn n k * A n k * det n (fun i j => A i (rmc k j))).natAbs : Int)) (n + 1) ≤ sI (fun k => b ^ n * ((A n k).natAbs : Int)) (n + 1) := by
      apply sI_mono
      intro c hc
      rw [Int.natAbs_mul, Int.natAbs_mul, sgn_abs, Nat.one_mul]
      have hd := det_bound b hb (n := n) (A := fun i j => A i (rmc c j)) (fun i hi => by
        have h1 := h i (by omega)
        rw [sI_rmc _ n c (by omega)] at h1
        have h2 : (0 : Int) ≤ ((A i c).natAbs : Int) := Int.natCast_nonneg _
        show sI (fun j => ((A i (rmc c j)).natAbs : Int)) n ≤ b
        omega)
      rw [Int.natCast_mul, Int.mul_comm]
      exact Int.mul_le_mul_of_nonneg_right hd (Int.natCast_nonneg _)
    refine Int.le_trans e ?_
    rw [sI_mul]
    have h3 := h n (by omega)
    rw [Int.pow_succ]
    exact Int.mul_le_mul_of_nonneg_left h3 (Int.pow_nonneg hb)
