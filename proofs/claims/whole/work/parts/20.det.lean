/-! sums and determinants of whole numbers -/
def sI (f : Nat → Int) : Nat → Int
  | 0 => 0
  | n + 1 => sI f n + f n
theorem sI_succ (f : Nat → Int) (n : Nat) : sI f (n + 1) = sI f n + f n := rfl
theorem sI_congr {f g : Nat → Int} : ∀ {n : Nat}, (∀ k, k < n → f k = g k) → sI f n = sI g n
  | 0, _ => rfl
  | n + 1, h => by
    rw [sI_succ, sI_succ, sI_congr (fun k hk => h k (Nat.lt_succ_of_lt hk)), h n (Nat.lt_succ_self n)]
theorem sI_add (f g : Nat → Int) : ∀ n, sI (fun k => f k + g k) n = sI f n + sI g n
  | 0 => rfl
  | n + 1 => by rw [sI_succ, sI_succ, sI_succ, sI_add f g n]; omega
theorem sI_sub (f g : Nat → Int) : ∀ n, sI (fun k => f k - g k) n = sI f n - sI g n
  | 0 => rfl
  | n + 1 => by rw [sI_succ, sI_succ, sI_succ, sI_sub f g n]; omega
theorem sI_mul (c : Int) (f : Nat → Int) : ∀ n, sI (fun k => c * f k) n = c * sI f n
  | 0 => (Int.mul_zero c).symm
  | n + 1 => by rw [sI_succ, sI_succ, sI_mul c f n, Int.mul_add]
theorem sI_neg (f : Nat → Int) : ∀ n, sI (fun k => - f k) n = - sI f n
  | 0 => rfl
  | n + 1 => by rw [sI_succ, sI_succ, sI_neg f n]; omega
theorem sI_zero : ∀ n, sI (fun _ => 0) n = 0
  | 0 => rfl
  | n + 1 => by rw [sI_succ, sI_zero n]; rfl
theorem sI_0 {f : Nat → Int} {n : Nat} (h : ∀ k, k < n → f k = 0) : sI f n = 0 := by
  rw [sI_congr h, sI_zero]
/-- a column left out -/
def rmc (c j : Nat) : Nat := if j < c then j else j + 1
def sgn (n c : Nat) : Int := if (n + c) % 2 = 0 then 1 else -1
def det : Nat → (Nat → Nat → Int) → Int
  | 0, _ => 1
  | n + 1, A => sI (fun c => sgn n c * A n c * det n (fun i j => A i (rmc c j))) (n + 1)
theorem det_succ (n : Nat) (A : Nat → Nat → Int) : det (n + 1) A = sI (fun c => sgn n c * A n c * det n (fun i j => A i (rmc c j))) (n + 1) := rfl
theorem rmc_lt {c j n : Nat} (h : j < n) : rmc c j < n + 1 := by
  unfold rmc
  split <;> omega
theorem det_congr : ∀ {n : Nat} {A B : Nat → Nat → Int}, (∀ i j, i < n → j < n → A i j = B i j) → det n A = det n B
  | 0, _, _, _ => rfl
  | n + 1, A, B, h => by
    rw [det_succ, det_succ]
    apply sI_congr
    intro c hc
    rw [h n c (by omega) hc, det_congr (A := fun i j => A i (rmc c j)) (B := fun i j => B i (rmc c j)) (fun i j hi hj => h i (rmc c j) (by omega) (rmc_lt hj))]
/-- a row put in -/
def sro (A : Nat → Nat → Int) (r : Nat) (x : Nat → Int) : Nat → Nat → Int := fun i j => if i = r then x j else A i j
theorem sro_rm {A : Nat → Nat → Int} {r : Nat} {x : Nat → Int} {c : Nat} : (fun i j => sro A r x i (rmc c j)) = sro (fun i j => A i (rmc c j)) r (fun j => x (rmc c j)) := by
  funext i j
  unfold sro
  split <;> rfl
theorem det_row : ∀ (n : Nat) (A : Nat → Nat → Int) (r : Nat) (x y : Nat → Int) (f : Int), r < n → det n (sro A r (fun j => x j + f * y j)) = det n (sro A r x) + f * det n (sro A r y)
  | 0, _, r, _, _, _, h => absurd h (Nat.not_lt_zero r)
  | n + 1, A, r, x, y, f, h => by
    rw [det_succ, det_succ, det_succ, ← sI_mul, ← sI_add]
    apply sI_congr
    intro c hc
    rw [sro_rm, sro_rm, sro_rm]
    by_cases hr : r = n
    · subst hr
      have e : ∀ z : Nat → Int, det r (sro (fun i j => A i (rmc c j)) r (fun j => z (rmc c j))) = det r (fun i j => A i (rmc c j)) := fun z => det_congr (fun i j hi hj => by unfold sro; rw [if_neg (by omega)])
      rw [e (fun j => x j + f * y j), e x, e y]
      have e2 : ∀ z : Nat → Int, sro A r z r c = z c := fun z => by unfold sro; rw [if_pos rfl]
      rw [e2, e2, e2]
      grind
    · have ih := det_row n (fun i j => A i (rmc c j)) r (fun j => x (rmc c j)) (fun j => y (rmc c j)) f (by omega)
      have e2 : ∀ z : Nat → Int, sro A r z n c = A n c := fun z => by unfold sro; rw [if_neg (by omega)]
      rw [e2, e2, e2, ih]
      grind
/-- a triangle of pairs, summed two ways -/
theorem sI_tri (t : Nat → Nat → Int) : ∀ n, sI (fun c => sI (fun d => t c d) n) (n + 1) = sI (fun d => sI (fun c => t c d + t (d + 1) c) (d + 1)) n
  | 0 => rfl
  | n + 1 => by
    show sI (fun c => sI (fun d => t c d) (n + 1)) (n + 1) + sI (fun d => t (n + 1) d) (n + 1) = sI (fun d => sI (fun c => t c d + t (d + 1) c) (d + 1)) n + sI (fun c => t c n + t (n + 1) c) (n + 1)
    have e : sI (fun c => sI (fun d => t c d) (n + 1)) (n + 1) = sI (fun c => sI (fun d => t c d) n + t c n) (n + 1) := sI_congr (fun c _ => rfl)
    have e2 : sI (fun d => t (n + 1) d) (n + 1) = sI (t (n + 1)) (n + 1) := rfl
    rw [← sI_tri t n, e, sI_add, sI_add, e2]
    omega
theorem rmc_rmc {c d j : Nat} (h : c ≤ d) : rmc c (rmc d j) = rmc (d + 1) (rmc c j) := by
  unfold rmc
  repeat' split
  all_goals omega
theorem det_last_two (n : Nat) (A : Nat → Nat → Int) (h : ∀ j, j < n + 2 → A (n + 1) j = A n j) : det (n + 2) A = 0 := by
  rw [det_succ]
  have e : sI (fun c => sgn (n + 1) c * A (n + 1) c * det (n + 1) (fun i j => A i (rmc c j))) (n + 1 + 1) = sI (fun c => sI (fun d => (sgn (n + 1) c * A (n + 1) c) * (sgn n d * A n (rmc c d) * det n (fun i j => A i (rmc c (rmc d j))))) (n + 1)) (n + 1 + 1) := by
    apply sI_congr
    intro c hc
    rw [det_succ, ← sI_mul]
  rw [e, sI_tri]
  apply sI_0
  intro d hd
  apply sI_0
  intro c hc
  have e1 : rmc c d = d + 1 := by unfold rmc; rw [if_neg (by omega)]
  have e2 : rmc (d + 1) c = c := by unfold rmc; rw [if_pos (by omega)]
  rw [e1, e2]
  have e3 : det n (fun i j => A i (rmc c (rmc d j))) = det n (fun i j => A i (rmc (d + 1) (rmc c j))) := by
    congr 1
    funext i j
    rw [rmc_rmc (by omega)]
  rw [e3, h c (by omega), h (d + 1) (by omega)]
  have e4 : sgn (n + 1) (d + 1) * sgn n c = - (sgn (n + 1) c * sgn n d) := by
    unfold sgn
    repeat' split
    all_goals omega
  generalize det n (fun i j => A i (rmc (d + 1) (rmc c j))) = z
  generalize A n c = x
  generalize A n (d + 1) = y
  have e5 : sgn (n + 1) (d + 1) * y * (sgn n c * x * z) = (sgn (n + 1) (d + 1) * sgn n c) * (x * y * z) := by grind
  have e6 : sgn (n + 1) c * x * (sgn n d * y * z) = (sgn (n + 1) c * sgn n d) * (x * y * z) := by grind
  rw [e5, e6, e4]
  grind
theorem sro_self {A : Nat → Nat → Int} {r : Nat} : sro A r (A r) = A := by
  funext i j
  unfold sro
  split
  · rename_i h; rw [h]
  · rfl
def swr (A : Nat → Nat → Int) (r s : Nat) : Nat → Nat → Int := fun i j => if i = r then A s j else if i = s then A r j else A i j
theorem det_adj_last (n : Nat) (A : Nat → Nat → Int) : det (n + 2) (swr A n (n + 1)) = - det (n + 2) A := by
  have key : ∀ u v : Nat → Int, det (n + 2) (sro (sro A n u) (n + 1) v) = - det (n + 2) (sro (sro A n v) (n + 1) u) := by
    intro u v
    have z : ∀ w : Nat → Int, det (n + 2) (sro (sro A n w) (n + 1) w) = 0 := fun w => det_last_two n _ (fun j _ => by unfold sro; rw [if_pos rfl, if_neg (by omega), if_pos rfl])
    have hz := z (fun j => u j + 1 * v j)
    have comm : ∀ a b : Nat → Int, sro (sro A n a) (n + 1) b = sro (sro A (n + 1) b) n a := by
      intro a b
      funext i j
      unfold sro
      split
      · rename_i h; rw [if_neg (by omega)]
      · rfl
    rw [det_row _ _ _ _ _ _ (by omega), comm, comm, det_row _ _ _ _ _ _ (by omega), det_row _ _ _ _ _ _ (by omega), ← comm, ← comm, ← comm, ← comm, z u, z v] at hz
    omega
  have h := key (A (n + 1)) (A n)
  have e1 : sro (sro A n (A (n + 1))) (n + 1) (A n) = swr A n (n + 1) := by
    funext i j
    unfold sro swr
    by_cases h1 : i = n + 1
    · rw [if_pos h1, if_neg (by omega), if_pos h1]
    · rw [if_neg h1, if_neg h1]
  have e2 : sro (sro A n (A n)) (n + 1) (A (n + 1)) = A := by
    rw [sro_self]
    exact sro_self
  rw [e1, e2] at h
  exact h
theorem det_adj : ∀ (n : Nat) (A : Nat → Nat → Int) (r : Nat), r + 1 < n → det n (swr A r (r + 1)) = - det n A
  | 0, _, r, h => absurd h (by omega)
  | n + 1, A, r, h => by
    by_cases hr : r + 1 = n
    · subst hr
      exact det_adj_last r A
    · rw [det_succ, det_succ, ← sI_neg]
      apply sI_congr
      intro c hc
      have e : (fun i j => swr A r (r + 1) i (rmc c j)) = swr (fun i j => A i (rmc c j)) r (r + 1) := by
        funext i j
        unfold swr
        rfl
      rw [e, det_adj n _ r (by omega)]
      have e2 : swr A r (r + 1) n c = A n c := by unfold swr; rw [if_neg (by omega), if_neg (by omega)]
      rw [e2]
      grind
theorem det_swap : ∀ (d n : Nat) (A : Nat → Nat → Int) (r : Nat), r + d + 1 < n → det n (swr A r (r + d + 1)) = - det n A
  | 0, n, A, r, h => det_adj n A r h
  | d + 1, n, A, r, h => by
    have e : swr A r (r + (d + 1) + 1) = swr (swr (swr A (r + d + 1) (r + d + 1 + 1)) r (r + d + 1)) (r + d + 1) (r + d + 1 + 1) := by
      funext i j
      unfold swr
      repeat' split
      all_goals first | rfl | omega | (congr 1 <;> omega)
    rw [e, det_adj _ _ _ (by omega), det_swap d n _ r (by omega), det_adj _ _ _ (by omega)]
    omega
theorem det_swr {n : Nat} {A : Nat → Nat → Int} {r s : Nat} (h : r < s) (hs : s < n) : det n (swr A r s) = - det n A := by
  have h2 := det_swap (s - r - 1) n A r (by omega)
  have e : r + (s - r - 1) + 1 = s := by omega
  rw [e] at h2
  exact h2
theorem det_eq_rows {n : Nat} {A : Nat → Nat → Int} {r s : Nat} (h : r < s) (hs : s < n) (e : ∀ j, j < n → A r j = A s j) : det n A = 0 := by
  have h1 := det_swr (A := A) h hs
  have h2 : det n (swr A r s) = det n A := det_congr (fun i j hi hj => by
    unfold swr
    split
    · rename_i h; rw [h, e j hj]
    · split
      · rename_i h; rw [h, e j hj]
      · rfl)
  omega
theorem det_rowop {n : Nat} {A : Nat → Nat → Int} {i k : Nat} (hi : i < n) (hk : k < n) (hne : i ≠ k) (f : Int) : det n (sro A i (fun j => A i j + f * A k j)) = det n A := by
  rw [det_row n A i (A i) (A k) f hi, sro_self]
  have z : det n (sro A i (A k)) = 0 := by
    rcases Nat.lt_or_gt_of_ne hne with h | h
    · exact det_eq_rows h hk (fun j _ => by unfold sro; rw [if_pos rfl, if_neg (by omega)])
    · exact det_eq_rows h hi (fun j _ => by unfold sro; rw [if_pos rfl, if_neg (by omega)])
  rw [z]
  omega
theorem det_row0 {n : Nat} {A : Nat → Nat → Int} {r : Nat} (hr : r < n) : det n (sro A r (fun _ => 0)) = 0 := by
  have h := det_row n A r (fun _ => 0) (fun _ => 0) 1 hr
  have e : (fun _ : Nat => (0 : Int) + 1 * 0) = fun _ => 0 := by funext j; rfl
  rw [e] at h
  omega
theorem det_scale {n : Nat} {A : Nat → Nat → Int} {r : Nat} (hr : r < n) (f : Int) (x : Nat → Int) : det n (sro A r (fun j => f * x j)) = f * det n (sro A r x) := by
  have h := det_row n A r (fun _ => 0) x f hr
  have e : (fun j : Nat => (0 : Int) + f * x j) = fun j => f * x j := by funext j; omega
  rw [e, det_row0 hr] at h
  omega
/-- columns -/
def swn (c j : Nat) : Nat := if j = c then c + 1 else if j = c + 1 then c else j
theorem sI_sw {f g : Nat → Int} {c : Nat} (h1 : f c = g (c + 1)) (h2 : f (c + 1) = g c) : ∀ n, (∀ d, d < n → d ≠ c → d ≠ c + 1 → f d = g d) → c + 1 < n → sI f n = sI g n
  | 0, _, h => absurd h (by omega)
  | n + 1, h3, h => by
    by_cases hn : c + 1 = n
    · subst hn
      rw [sI_succ, sI_succ, sI_succ, sI_succ, h1, h2, sI_congr (g := g) (fun k hk => h3 k (by omega) (by omega) (by omega))]
      omega
    · rw [sI_succ, sI_succ, sI_sw h1 h2 n (fun d hd => h3 d (by omega)) (by omega), h3 n (by omega) (by omega) (by omega)]
theorem det_col_adj : ∀ (n : Nat) (A : Nat → Nat → Int) (c : Nat), c + 1 < n → det n (fun i j => A i (swn c j)) = - det n A
  | 0, _, c, h => absurd h (by omega)
  | n + 1, A, c, h => by
    rw [det_succ, det_succ, ← sI_neg]
    refine sI_sw (c := c) ?_ ?_ (n + 1) ?_ h
    · have e : (fun i j => A i (swn c (rmc c j))) = fun i j => A i (rmc (c + 1) j) := by
        funext i j
        congr 1
        unfold swn rmc
        repeat' split
        all_goals omega
      have e2 : swn c c = c + 1 := by unfold swn; rw [if_pos rfl]
      have e3 : sgn n (c + 1) = - sgn n c := by
        unfold sgn
        repeat' split
        all_goals omega
      rw [e, e2, e3]
      grind
    · have e : (fun i j => A i (swn c (rmc (c + 1) j))) = fun i j => A i (rmc c j) := by
        funext i j
        congr 1
        unfold swn rmc
        repeat' split
        all_goals omega
      have e2 : swn c (c + 1) = c := by unfold swn; rw [if_neg (by omega), if_pos rfl]
      have e3 : sgn n (c + 1) = - sgn n c := by
        unfold sgn
        repeat' split
        all_goals omega
      rw [e, e2, e3]
      grind
    · intro d hdn hd1 hd2
      have e2 : swn c d = d := by unfold swn; rw [if_neg hd1, if_neg hd2]
      rw [e2]
      by_cases hd : d < c
      · have e : (fun i j => A i (swn c (rmc d j))) = fun i j => (fun i j => A i (rmc d j)) i (swn (c - 1) j) := by
          funext i j
          show A i _ = A i _
          congr 1
          unfold swn rmc
          repeat' split
          all_goals omega
        rw [e, det_col_adj n (fun i j => A i (rmc d j)) (c - 1) (by omega)]
        grind
      · have e : (fun i j => A i (swn c (rmc d j))) = fun i j => (fun i j => A i (rmc d j)) i (swn c j) := by
          funext i j
          show A i _ = A i _
          congr 1
          unfold swn rmc
          repeat' split
          all_goals omega
        rw [e, det_col_adj n (fun i j => A i (rmc d j)) c (by omega)]
        grind
