/-! columns; Cramer's rule; shares that a step leaves as they are -/
theorem rmc_ne {c j : Nat} : rmc c j ≠ c := by
  unfold rmc
  split <;> omega
theorem sco_c {A : Nat → Nat → Int} {i : Nat} {b : Nat → Int} {r : Nat} : sco A i b r i = b r := if_pos rfl
theorem sco_n {A : Nat → Nat → Int} {i : Nat} {b : Nat → Int} {r j : Nat} (h : j ≠ i) : sco A i b r j = A r j := if_neg h
/-- a column left out of a matrix with a column put in -/
def cix (i c : Nat) : Nat := if i < c then i else i - 1
theorem sco_rm {A : Nat → Nat → Int} {i c : Nat} {b : Nat → Int} (h : c ≠ i) : (fun r j => sco A i b r (rmc c j)) = sco (fun r j => A r (rmc c j)) (cix i c) b := by
  funext r j
  unfold sco rmc cix
  dsimp only
  repeat' split
  all_goals first | rfl | omega
theorem sco_rs {A : Nat → Nat → Int} {i : Nat} {b : Nat → Int} : (fun r j => sco A i b r (rmc i j)) = fun r j => A r (rmc i j) := by
  funext r j
  exact sco_n rmc_ne
theorem det_col : ∀ (n : Nat) (A : Nat → Nat → Int) (i : Nat) (u v : Nat → Int) (f : Int), i < n → det n (sco A i (fun r => u r + f * v r)) = det n (sco A i u) + f * det n (sco A i v)
  | 0, _, i, _, _, _, h => absurd h (Nat.not_lt_zero i)
  | n + 1, A, i, u, v, f, h => by
    rw [det_succ, det_succ, det_succ, ← sI_mul, ← sI_add]
    apply sI_congr
    intro c hc
    by_cases hi : c = i
    · subst hi
      rw [sco_rs, sco_rs, sco_rs, sco_c, sco_c, sco_c]
      grind
    · have ih := det_col n (fun r j => A r (rmc c j)) (cix i c) u v f (by unfold cix; split <;> omega)
      rw [sco_rm hi, sco_rm hi, sco_rm hi, sco_n hi, sco_n hi, sco_n hi, ih]
      grind
theorem det_col0 {n : Nat} {A : Nat → Nat → Int} {i : Nat} (hi : i < n) : det n (sco A i (fun _ => 0)) = 0 := det_zcol hi (fun r _ => sco_c)
theorem det_cscale {n : Nat} {A : Nat → Nat → Int} {i : Nat} (hi : i < n) (f : Int) (x : Nat → Int) : det n (sco A i (fun r => f * x r)) = f * det n (sco A i x) := by
  have h := det_col n A i (fun _ => 0) x f hi
  have e : (fun r : Nat => (0 : Int) + f * x r) = fun r => f * x r := by funext r; omega
  rw [e, det_col0 hi] at h
  omega
theorem det_csum {n : Nat} {A : Nat → Nat → Int} {i : Nat} (hi : i < n) (x : Nat → Nat → Int) (y : Nat → Int) : ∀ m, det n (sco A i (fun r => sI (fun k => x k r * y k) m)) = sI (fun k => y k * det n (sco A i (x k))) m
  | 0 => det_col0 hi
  | m + 1 => by
    have h := det_col n A i (fun r => sI (fun k => x k r * y k) m) (x m) (y m) hi
    rw [det_csum hi x y m] at h
    rw [sI_succ, ← h]
    congr 2
    funext r
    rw [sI_succ, Int.mul_comm]
theorem det_eqc : ∀ (d n : Nat) (A : Nat → Nat → Int) (i : Nat), i + d + 1 < n → (∀ r, r < n → A r i = A r (i + d + 1)) → det n A = 0
  | 0, n, A, i, h, e => by
    have h1 := det_col_adj n A i h
    have h2 : det n (fun r j => A r (swn i j)) = det n A := det_congr (fun r j hr hj => by
      unfold swn
      by_cases h1 : j = i
      · rw [if_pos h1, h1]; exact (e r hr).symm
      · rw [if_neg h1]
        by_cases h2 : j = i + 1
        · rw [if_pos h2, h2]; exact e r hr
        · rw [if_neg h2])
    omega
  | d + 1, n, A, i, h, e => by
    have h1 := det_col_adj n A (i + d + 1) h
    have h2 := det_eqc d n (fun r j => A r (swn (i + d + 1) j)) i (by omega) (fun r hr => by
      have e1 : swn (i + d + 1) i = i := by unfold swn; rw [if_neg (by omega), if_neg (by omega)]
      have e2 : swn (i + d + 1) (i + d + 1) = i + d + 1 + 1 := by unfold swn; rw [if_pos rfl]
      rw [e1, e2]
      exact e r hr)
    omega
theorem det_eq_cols {n : Nat} {A : Nat → Nat → Int} {i k : Nat} (hi : i < n) (hk : k < n) (hne : i ≠ k) (e : ∀ r, r < n → A r i = A r k) : det n A = 0 := by
  rcases Nat.lt_or_gt_of_ne hne with h | h
  · exact det_eqc (k - i - 1) n A i (by omega) (fun r hr => by rw [show i + (k - i - 1) + 1 = k by omega]; exact e r hr)
  · exact det_eqc (i - k - 1) n A k (by omega) (fun r hr => by rw [show k + (i - k - 1) + 1 = i by omega]; exact (e r hr).symm)
theorem sI_one {n i : Nat} {f : Nat → Int} (hi : i < n) (h : ∀ k, k < n → k ≠ i → f k = 0) : sI f n = f i := by
  induction n with
  | zero => omega
  | succ n ih =>
    rw [sI_succ]
    by_cases e : i = n
    · subst e
      rw [sI_0 (fun k hk => h k (by omega) (by omega))]
      omega
    · rw [ih (by omega) (fun k hk => h k (by omega)), h n (by omega) (fun z => e z.symm)]
      omega
theorem sco_self {A : Nat → Nat → Int} {i : Nat} : sco A i (fun r => A r i) = A := by
  funext r j
  unfold sco
  split
  · rename_i h; rw [h]
  · rfl
/-- the matrix times y put into column i -/
theorem det_Ay {n : Nat} {A : Nat → Nat → Int} {i : Nat} (hi : i < n) (y : Nat → Int) : det n (sco A i (fun r => sI (fun k => A r k * y k) n)) = y i * det n A := by
  rw [det_csum hi (fun k r => A r k) y n, sI_one hi (fun k hk hki => by
    rw [det_eq_cols (i := i) (k := k) hi hk (fun z => hki z.symm) (fun r hr => by rw [sco_c, sco_n hki])]
    omega), sco_self]
/-- b at the place m, the columns from c on one to the left till there -/
def yc (A : Nat → Nat → Int) (b : Nat → Int) (c m : Nat) : Nat → Nat → Int := fun r j => if j = m then b r else if j < c then A r j else if j < m then A r (j + 1) else A r j
theorem yc_det {n : Nat} (A : Nat → Nat → Int) (b : Nat → Int) (c : Nat) : ∀ d, c + d < n → det n (yc A b c (c + d)) = (if d % 2 = 0 then 1 else -1) * det n (sco A c b)
  | 0, h => by
    rw [if_pos rfl, Int.one_mul]
    apply det_congr
    intro r j hr hj
    unfold yc sco
    by_cases h1 : j = c
    · rw [if_pos (by omega), if_pos h1]
    · rw [if_neg (by omega), if_neg h1]
      by_cases h2 : j < c
      · rw [if_pos h2]
      · rw [if_neg h2, if_neg (by omega)]
  | d + 1, h => by
    have ih := yc_det (n := n) A b c d (by omega)
    have h1 := det_col_adj n (yc A b c (c + d)) (c + d) (by omega)
    have e : (fun i j => yc A b c (c + d) i (swn (c + d) j)) = yc A b c (c + (d + 1)) := by
      funext r j
      unfold yc swn
      repeat' split
      all_goals first | rfl | omega | (congr 1 <;> omega)
    rw [e, ih] at h1
    rw [h1]
    by_cases hd : d % 2 = 0
    · rw [if_pos hd, if_neg (by omega)]
      omega
    · rw [if_neg hd, if_pos (by omega)]
      omega
/-- Cramer's rule -/
theorem cramer {n : Nat} (A : Nat → Nat → Int) (b : Nat → Int) {r : Nat} (hr : r < n) : sI (fun c => A r c * det n (sco A c b)) n = det n A * b r := by
  let E : Nat → Nat → Int := fun i j => if i = n then (if j = n then b r else A r j) else (if j = n then b i else A i j)
  have hz : det (n + 1) E = 0 := det_eq_rows (r := r) (s := n) hr (by omega) (fun j _ => by
    show (if r = n then _ else _) = if n = n then _ else _
    rw [if_neg (by omega), if_pos rfl])
  rw [det_succ, sI_succ] at hz
  have e1 : E n n = b r := by show (if n = n then _ else _) = _; rw [if_pos rfl, if_pos rfl]
  have e2 : det n (fun i j => E i (rmc n j)) = det n A := det_congr (fun i j hi hj => by
    show (if i = n then _ else _) = _
    have : rmc n j = j := by unfold rmc; rw [if_pos hj]
    rw [if_neg (by omega), this, if_neg (by omega)])
  have e3 : sI (fun c => sgn n c * E n c * det n (fun i j => E i (rmc c j))) n = sI (fun c => - (A r c * det n (sco A c b))) n := by
    apply sI_congr
    intro c hc
    have a1 : E n c = A r c := by show (if n = n then _ else _) = _; rw [if_pos rfl, if_neg (by omega)]
    have a2 : det n (fun i j => E i (rmc c j)) = det n (yc A b c (c + (n - 1 - c))) := det_congr (fun i j hi hj => by
      show (if i = n then _ else if rmc c j = n then b i else A i (rmc c j)) = _
      rw [if_neg (by omega)]
      unfold yc rmc
      by_cases h1 : j < c
      · rw [if_pos h1, if_neg (by omega), if_neg (by omega), if_pos h1]
      · rw [if_neg h1]
        by_cases h2 : j = n - 1
        · rw [if_pos (by omega), if_pos (by omega)]
        · rw [if_neg (by omega), if_neg (by omega), if_neg h1, if_pos (by omega)])
    rw [a1, a2, yc_det A b c (n - 1 - c) (by omega)]
    have a3 : sgn n c * (if (n - 1 - c) % 2 = 0 then 1 else -1) = -1 := by
      unfold sgn
      by_cases h1 : (n + c) % 2 = 0
      · rw [if_pos h1, if_neg (by omega)]; rfl
      · rw [if_neg h1, if_pos (by omega)]; rfl
    generalize det n (sco A c b) = z
    generalize (if (n - 1 - c) % 2 = 0 then (1 : Int) else -1) = w at *
    have : sgn n c * A r c * (w * z) = (sgn n c * w) * (A r c * z) := by grind
    rw [this, a3]
    omega
  rw [e3, sI_neg, e1, e2, sgn_self, Int.one_mul] at hz
  rw [Int.mul_comm (det n A)]
  omega
def eu (r : Nat) : Nat → Int := fun k => if k = r then 1 else 0
theorem sco_comm {A : Nat → Nat → Int} {c k : Nat} {u v : Nat → Int} (h : c ≠ k) : sco (sco A c u) k v = sco (sco A k v) c u := by
  funext r j
  unfold sco
  by_cases h1 : j = k
  · rw [if_pos h1, if_neg (by omega), if_pos h1]
  · rw [if_neg h1]
    by_cases h2 : j = c
    · rw [if_pos h2, if_pos h2]
    · rw [if_neg h2, if_neg h2, if_neg h1]
theorem det_cpol {n : Nat} {A : Nat → Nat → Int} {c k : Nat} (hc : c < n) (hk : k < n) (h : c ≠ k) (u v : Nat → Int) : det n (sco (sco A c u) k v) = - det n (sco (sco A c v) k u) := by
  have z : ∀ w : Nat → Int, det n (sco (sco A c w) k w) = 0 := fun w => det_eq_cols hc hk h (fun r hr => by rw [sco_n h, sco_c, sco_c])
  have hz := z (fun j => u j + 1 * v j)
  rw [det_col _ _ _ _ _ _ hk, sco_comm h, sco_comm h, det_col _ _ _ _ _ _ hc, det_col _ _ _ _ _ _ hc, ← sco_comm h, ← sco_comm h, ← sco_comm h, ← sco_comm h, z u, z v] at hz
  omega
/-- rows of sum 0: the minors don't depend on the column -/
theorem cof_col {n : Nat} {A : Nat → Nat → Int} (h0 : ∀ r, r < n → sI (A r) n = 0) {c k r : Nat} (hc : c < n) (hk : k < n) : det n (sco A c (eu r)) = det n (sco A k (eu r)) := by
  by_cases h : c = k
  · rw [h]
  · have h1 := det_Ay (A := sco A c (eu r)) (i := k) hk (fun j => if j = c then 0 else 1)
    rw [if_neg (fun z => h z.symm), Int.one_mul] at h1
    rw [← h1]
    have e : ∀ s, s < n → sI (fun j => sco A c (eu r) s j * (if j = c then 0 else 1)) n = - A s c := fun s hs => by
      have e1 : sI (fun j => sco A c (eu r) s j * (if j = c then 0 else 1)) n = sI (fun j => A s j - (if j = c then A s c else 0)) n := sI_congr (fun j hj => by
        unfold sco
        by_cases hjc : j = c
        · rw [if_pos hjc, if_pos hjc, if_pos hjc, hjc]; omega
        · rw [if_neg hjc, if_neg hjc, if_neg hjc]; omega)
      rw [e1, sI_sub, sI_one (f := fun j => if j = c then A s c else 0) hc (fun j _ hj => if_neg hj), if_pos rfl]
      have := h0 s hs
      omega
    have e2 : det n (sco (sco A c (eu r)) k (fun s => sI (fun j => sco A c (eu r) s j * (if j = c then 0 else 1)) n)) = det n (sco (sco A c (eu r)) k (fun s => (-1) * A s c)) := det_congr (fun s j hs hj => by
      unfold sco
      by_cases hjk : j = k
      · rw [if_pos hjk, if_pos hjk]
        have := e s hs
        unfold sco at this
        dsimp only
        rw [this]
        omega
      · rw [if_neg hjk, if_neg hjk])
    rw [e2, det_cscale hk, det_cpol hc hk h, sco_self]
    omega
/-- the minor without a state -/
theorem det_prin : ∀ (d n : Nat) (A : Nat → Nat → Int) (r : Nat), r + d + 1 = n → det n (sco A r (eu r)) = det (n - 1) (fun i j => A (rmc r i) (rmc r j))
  | 0, n, A, r, h => by
    obtain ⟨m, rfl⟩ : ∃ m, n = m + 1 := ⟨n - 1, by omega⟩
    have hr : r = m := by omega
    subst hr
    rw [det_succ, sI_last (fun c hc => by
      have : det r (fun i j => sco A r (eu r) i (rmc c j)) = 0 := det_zcol (k := r - 1) (by omega) (fun i hi => by
        have e : rmc c (r - 1) = r := by unfold rmc; rw [if_neg (by omega)]; omega
        rw [e, sco_c]
        exact if_neg (by omega))
      rw [this]
      omega), sgn_self, sco_c, show eu r r = 1 from if_pos rfl, Int.one_mul, Int.one_mul]
    apply det_congr
    intro i j hi hj
    have a1 : rmc r i = i := by unfold rmc; rw [if_pos (by omega)]
    have a2 : rmc r j = j := by unfold rmc; rw [if_pos (by omega)]
    rw [a1, a2, sco_n (by omega)]
  | d + 1, n, A, r, h => by
    rw [← det_swst (sco A r (eu r)) (c := r) (by omega)]
    have ih := det_prin d n (fun i j => A (swn r i) (swn r j)) (r + 1) (by omega)
    have e : det n (fun i j => sco A r (eu r) (swn r i) (swn r j)) = det n (sco (fun i j => A (swn r i) (swn r j)) (r + 1) (eu (r + 1))) := det_congr (fun i j hi hj => by
      unfold sco eu swn
      by_cases h1 : j = r + 1
      · rw [if_neg (show ¬ j = r by omega), if_pos h1, if_pos rfl, if_pos h1]
        by_cases h2 : i = r
        · rw [if_pos h2, if_neg (by omega), if_neg (by omega)]
        · rw [if_neg h2]
          by_cases h3 : i = r + 1
          · rw [if_pos h3, if_pos rfl, if_pos h3]
          · rw [if_neg h3, if_neg h2, if_neg h3]
      · rw [if_neg h1, if_neg h1]
        by_cases h2 : j = r
        · rw [if_pos h2, if_neg (by omega)]
          dsimp only
          rw [if_pos h2]
        · rw [if_neg h2, if_neg h2]
          dsimp only
          rw [if_neg h2, if_neg h1])
    rw [e, ih]
    apply det_congr
    intro i j hi hj
    have a : ∀ x, swn r (rmc (r + 1) x) = rmc r x := fun x => by
      unfold swn rmc
      repeat' split
      all_goals omega
    rw [a, a]
/-- the minors are shares that a step leaves as they are -/
theorem stat {n : Nat} {A : Nat → Nat → Int} (h0 : ∀ r, r < n → sI (A r) n = 0) {i : Nat} (hi : i < n) : sI (fun r => A r i * det (n - 1) (fun a b => A (rmc r a) (rmc r b))) n = 0 := by
  have hdet : det n A = 0 := by
    have h1 := det_Ay (A := A) hi (fun _ => 1)
    rw [Int.one_mul] at h1
    rw [← h1]
    refine det_zcol hi (fun r hr => ?_)
    rw [sco_c, ← h0 r hr]
    exact sI_congr (fun k _ => by omega)
  have e : sI (fun r => A r i * det (n - 1) (fun a b => A (rmc r a) (rmc r b))) n = sI (fun r => A r i * det n (sco A i (eu r))) n := sI_congr (fun r hr => by
    rw [← det_prin (n - 1 - r) n A r (by omega), cof_col h0 (c := i) (k := r) hi hr])
  rw [e, ← det_csum hi (fun k => eu k) (fun k => A k i) n]
  have e2 : det n (sco A i (fun r => sI (fun k => eu k r * A k i) n)) = det n A := det_congr (fun r j hr hj => by
    unfold sco
    by_cases hji : j = i
    · rw [if_pos hji]
      dsimp only
      rw [sI_one (f := fun k => eu k r * A k i) hr (fun k _ hk => by unfold eu; rw [if_neg (fun z => hk z.symm)]; omega), show eu r r = 1 from if_pos rfl, hji]
      omega
    · rw [if_neg hji])
  rw [e2, hdet]
