/-! matrices 'Q on the diagonal less the chances': their determinants are above 0 where every set of states leads on -/
theorem npp {x y : Int} (hx : x ≤ 0) (hy : y ≤ 0) : 0 ≤ x * y := by
  have h := Int.mul_nonneg (a := -x) (b := -y) (by omega) (by omega)
  rwa [Int.neg_mul_neg] at h
theorem npp' {x y : Int} (hx : x < 0) (hy : y < 0) : 0 < x * y := by
  have h := Int.mul_pos (a := -x) (b := -y) (by omega) (by omega)
  rwa [Int.neg_mul_neg] at h
theorem pnp {x y : Int} (hx : 0 ≤ x) (hy : y ≤ 0) : x * y ≤ 0 := by
  have h := Int.mul_nonneg (a := x) (b := -y) hx (by omega)
  rw [Int.mul_neg] at h
  omega
theorem pnp' {x y : Int} (hx : 0 < x) (hy : y < 0) : x * y < 0 := by
  have h := Int.mul_pos (a := x) (b := -y) hx (by omega)
  rw [Int.mul_neg] at h
  omega
theorem npn {x y : Int} (hx : x ≤ 0) (hy : 0 ≤ y) : x * y ≤ 0 := by rw [Int.mul_comm]; exact pnp hy hx
theorem det_zcol : ∀ {n : Nat} {A : Nat → Nat → Int} {k : Nat}, k < n → (∀ i, i < n → A i k = 0) → det n A = 0
  | 0, _, k, h, _ => absurd h (by omega)
  | n + 1, A, k, h, hz => by
    rw [det_succ]
    apply sI_0
    intro c hc
    by_cases hck : c = k
    · subst hck
      rw [hz n (by omega)]
      grind
    · have e : det n (fun i j => A i (rmc c j)) = 0 := by
        by_cases hlt : k < c
        · exact det_zcol (k := k) (by omega) (fun i hi => by
            show A i (rmc c k) = 0
            unfold rmc
            rw [if_pos hlt]
            exact hz i (by omega))
        · exact det_zcol (k := k - 1) (by omega) (fun i hi => by
            show A i (rmc c (k - 1)) = 0
            unfold rmc
            rw [if_neg (by omega), show k - 1 + 1 = k by omega]
            exact hz i (by omega))
      rw [e]
      grind
/-- the last state taken out -/
def sch (A : Nat → Nat → Int) (n : Nat) : Nat → Nat → Int := fun i j => A n n * A i j - A i n * A n j
def schm (A : Nat → Nat → Int) (n m : Nat) : Nat → Nat → Int := fun i j => if i < m then sch A n i j else A i j
theorem schm_det (A : Nat → Nat → Int) (n : Nat) : ∀ m, m ≤ n → det (n + 1) (schm A n m) = A n n ^ m * det (n + 1) A
  | 0, _ => by
    have e : schm A n 0 = A := by funext i j; unfold schm; rw [if_neg (by omega)]
    rw [e, Int.pow_zero, Int.one_mul]
  | m + 1, h => by
    have ih := schm_det A n m (by omega)
    have e : schm A n (m + 1) = sro (schm A n m) m (fun j => A n n * A m j + (-(A m n)) * A n j) := by
      funext i j
      unfold schm sro sch
      dsimp only
      by_cases h1 : i = m
      · subst h1
        rw [if_pos (by omega), if_pos rfl]
        grind
      · rw [if_neg h1]
        by_cases h2 : i < m
        · rw [if_pos (by omega), if_pos h2]
        · rw [if_neg (by omega), if_neg h2]
    rw [e, det_row _ _ _ _ _ _ (by omega), det_scale (by omega)]
    have e1 : sro (schm A n m) m (A m) = schm A n m := by
      funext i j
      unfold sro schm
      by_cases h1 : i = m
      · subst h1
        rw [if_pos rfl, if_neg (by omega)]
      · rw [if_neg h1]
    have e2 : det (n + 1) (sro (schm A n m) m (A n)) = 0 := det_eq_rows (r := m) (s := n) (by omega) (by omega) (fun j _ => by
      unfold sro schm
      rw [if_pos rfl, if_neg (by omega), if_neg (by omega)])
    rw [e1, e2, ih, Int.pow_succ]
    grind
theorem sch_det (A : Nat → Nat → Int) (n : Nat) : A n n ^ n * det (n + 1) A = A n n * det n (sch A n) := by
  rw [← schm_det A n n (Nat.le_refl n), det_succ, sI_last (fun c hc => ?_)]
  · have e : det n (fun i j => schm A n n i (rmc n j)) = det n (sch A n) := det_congr (fun i j hi hj => by
      unfold schm rmc
      rw [if_pos hj, if_pos hi])
    have e2 : schm A n n n n = A n n := by unfold schm; rw [if_neg (by omega)]
    rw [e, e2, sgn_self]
    grind
  · have e : det n (fun i j => schm A n n i (rmc c j)) = 0 := det_zcol (k := n - 1) (by omega) (fun i hi => by
      show schm A n n i (rmc c (n - 1)) = 0
      have e3 : rmc c (n - 1) = n := by unfold rmc; rw [if_neg (by omega)]; omega
      rw [e3]
      unfold schm sch
      rw [if_pos hi]
      grind)
    rw [e]
    grind
def Mt (n : Nat) (A : Nat → Nat → Int) : Prop := (∀ i j, i < n → j < n → i ≠ j → A i j ≤ 0) ∧ ∀ i, i < n → 0 ≤ sI (A i) n
/-- no set of states keeps to itself -/
def Cn (n : Nat) (A : Nat → Nat → Int) : Prop := ∀ S : Nat → Prop, (∃ i, i < n ∧ S i) → ∃ i, i < n ∧ S i ∧ (0 < sI (A i) n ∨ ∃ j, j < n ∧ ¬ S j ∧ A i j < 0)
theorem sI_le0 {f : Nat → Int} {n : Nat} (h : ∀ k, k < n → f k ≤ 0) : sI f n ≤ 0 := by
  have := sI_mono (g := fun _ => 0) h
  rw [sI_zero] at this
  exact this
theorem sI_lt0 {f : Nat → Int} : ∀ {n : Nat}, (∀ k, k < n → f k ≤ 0) → ∀ j, j < n → f j < 0 → sI f n < 0
  | 0, _, j, hj, _ => absurd hj (by omega)
  | n + 1, h, j, hj, hf => by
    rw [sI_succ]
    have h1 := h n (by omega)
    by_cases e : j = n
    · subst e
      have := sI_le0 (f := f) (n := j) (fun k hk => h k (by omega))
      omega
    · have := sI_lt0 (f := f) (n := n) (fun k hk => h k (by omega)) j (by omega) hf
      omega
theorem diag_pos {n : Nat} {A : Nat → Nat → Int} (hM : Mt (n + 1) A) (hC : Cn (n + 1) A) : 0 < A n n := by
  obtain ⟨i, hi, hS, h⟩ := hC (fun j => j = n) ⟨n, by omega, rfl⟩
  subst hS
  have hoff : ∀ k, k < i → A i k ≤ 0 := fun k hk => hM.1 i k (by omega) (by omega) (by omega)
  have hr := hM.2 i (by omega)
  rw [sI_succ] at hr h
  rcases h with h | ⟨j, hj, hne, h⟩
  · have := sI_le0 (f := A i) hoff
    omega
  · have := sI_lt0 (f := A i) hoff j (by omega) h
    omega
theorem sch_row (A : Nat → Nat → Int) (n i : Nat) : sI (sch A n i) n = A n n * sI (A i) (n + 1) - A i n * sI (A n) (n + 1) := by
  have e : sI (sch A n i) n = A n n * sI (A i) n - A i n * sI (A n) n := by
    rw [← sI_mul, ← sI_mul, ← sI_sub]
    rfl
  rw [e, sI_succ, sI_succ]
  grind
theorem sch_Mt {n : Nat} {A : Nat → Nat → Int} (hM : Mt (n + 1) A) (ha : 0 < A n n) : Mt n (sch A n) := by
  refine ⟨fun i j hi hj hne => ?_, fun i hi => ?_⟩
  · have h1 := pnp (x := A n n) (Int.le_of_lt ha) (hM.1 i j (by omega) (by omega) hne)
    have h2 := npp (hM.1 i n (by omega) (by omega) (by omega)) (hM.1 n j (by omega) (by omega) (by omega))
    unfold sch
    omega
  · rw [sch_row]
    have h1 := Int.mul_nonneg (Int.le_of_lt ha) (hM.2 i (by omega))
    have h2 := npn (hM.1 i n (by omega) (by omega) (by omega)) (hM.2 n (by omega))
    omega
theorem sch_Cn {n : Nat} {A : Nat → Nat → Int} (hM : Mt (n + 1) A) (hC : Cn (n + 1) A) (ha : 0 < A n n) : Cn n (sch A n) := by
  intro S hS
  obtain ⟨i0, hi0, hS0⟩ := hS
  obtain ⟨i, hi, hSi, h⟩ := hC (fun j => (j < n ∧ S j) ∨ (j = n ∧ ∃ k, k < n ∧ S k ∧ A k n < 0)) ⟨i0, by omega, Or.inl ⟨hi0, hS0⟩⟩
  have hRn := hM.2 n (by omega)
  rcases hSi with ⟨hin, hSi⟩ | ⟨rfl, k, hk, hSk, hkn⟩
  · have h2 := npn (hM.1 i n (by omega) (by omega) (by omega)) hRn
    rcases h with h | ⟨j, hj, hnS, h⟩
    · refine ⟨i, hin, hSi, Or.inl ?_⟩
      rw [sch_row]
      have := Int.mul_pos ha h
      omega
    · by_cases hjn : j = n
      · subst hjn
        exact absurd (Or.inr ⟨rfl, i, hin, hSi, h⟩) hnS
      · have hnSj : ¬ S j := fun hs => hnS (Or.inl ⟨by omega, hs⟩)
        refine ⟨i, hin, hSi, Or.inr ⟨j, by omega, hnSj, ?_⟩⟩
        have h3 := pnp' ha h
        have h4 := npp (hM.1 i n (by omega) (by omega) (by omega)) (hM.1 n j (by omega) (by omega) (by omega))
        unfold sch
        omega
  · have hRk := hM.2 k (by omega)
    rcases h with h | ⟨j, hj, hnS, h⟩
    · refine ⟨k, hk, hSk, Or.inl ?_⟩
      rw [sch_row]
      have h5 := Int.mul_nonneg (Int.le_of_lt ha) hRk
      have h6 := pnp' h hkn
      rw [Int.mul_comm] at h6
      omega
    · have hjn : j ≠ i := fun e => by subst e; omega
      have hnSj : ¬ S j := fun hs => hnS (Or.inl ⟨by omega, hs⟩)
      refine ⟨k, hk, hSk, Or.inr ⟨j, by omega, hnSj, ?_⟩⟩
      have hkj : k ≠ j := fun e => hnSj (e ▸ hSk)
      have h3 := pnp (Int.le_of_lt ha) (hM.1 k j (by omega) (by omega) hkj)
      have h4 := npp' hkn h
      unfold sch
      omega
theorem det_pos : ∀ {n : Nat} {A : Nat → Nat → Int}, Mt n A → Cn n A → 0 < det n A
  | 0, A, _, _ => by show (0 : Int) < 1; decide
  | n + 1, A, hM, hC => by
    have ha := diag_pos hM hC
    have ih := det_pos (sch_Mt hM ha) (sch_Cn hM hC ha)
    have h := sch_det A n
    have h1 := Int.mul_pos ha ih
    have h2 : 0 < A n n ^ n := Int.pow_pos ha
    rw [← h] at h1
    exact Int.pos_of_mul_pos_right h1 h2
/-- a column put in -/
def sco (A : Nat → Nat → Int) (i : Nat) (b : Nat → Int) : Nat → Nat → Int := fun r j => if j = i then b r else A r j
theorem num_low {n : Nat} {A : Nat → Nat → Int} {b : Nat → Int} {i : Nat} (ih : ∀ {A : Nat → Nat → Int} {b : Nat → Int} {i : Nat}, Mt n A → Cn n A → (∀ r, r < n → 0 ≤ b r) → i < n → 0 ≤ det n (sco A i b)) (hM : Mt (n + 1) A) (hC : Cn (n + 1) A) (hb : ∀ r, r < n + 1 → 0 ≤ b r) (hi : i < n) : 0 ≤ det (n + 1) (sco A i b) := by
  have ha := diag_pos hM hC
  have e0 : sco A i b n n = A n n := by unfold sco; rw [if_neg (by omega)]
  have h := sch_det (sco A i b) n
  rw [e0] at h
  have e : det n (sch (sco A i b) n) = det n (sco (sch A n) i (fun r => A n n * b r - A r n * b n)) := det_congr (fun r j hr hj => by
    have hni : ¬ n = i := by omega
    unfold sch sco
    dsimp only
    by_cases hj2 : j = i
    · simp only [if_neg hni, if_pos hj2]
    · simp only [if_neg hni, if_neg hj2])
  have h1 := ih (sch_Mt hM ha) (sch_Cn hM hC ha) (b := fun r => A n n * b r - A r n * b n) (i := i) (fun r hr => by
    have h2 := Int.mul_nonneg (Int.le_of_lt ha) (hb r (by omega))
    have h3 := npn (hM.1 r n (by omega) (by omega) (by omega)) (hb n (by omega))
    show 0 ≤ A n n * b r - A r n * b n
    omega) hi
  rw [← e] at h1
  have h4 := Int.mul_nonneg (Int.le_of_lt ha) h1
  rw [← h] at h4
  have h5 : 0 < A n n ^ n := Int.pow_pos ha
  exact Int.nonneg_of_mul_nonneg_right h4 h5
theorem swn_swn (c j : Nat) : swn c (swn c j) = j := by
  unfold swn
  repeat' split
  all_goals omega
theorem swn_lt {c j n : Nat} (hc : c + 1 < n) (hj : j < n) : swn c j < n := by
  unfold swn
  repeat' split
  all_goals omega
theorem swr_adj (A : Nat → Nat → Int) (c : Nat) : swr A c (c + 1) = fun i j => A (swn c i) j := by
  funext i j
  unfold swr swn
  by_cases h1 : i = c
  · rw [if_pos h1, if_pos h1]
  · rw [if_neg h1, if_neg h1]
    by_cases h2 : i = c + 1
    · rw [if_pos h2, if_pos h2]
    · rw [if_neg h2, if_neg h2]
/-- two neighbours change places -/
theorem det_swst {n : Nat} (A : Nat → Nat → Int) {c : Nat} (h : c + 1 < n) : det n (fun i j => A (swn c i) (swn c j)) = det n A := by
  have h1 := det_col_adj n (fun i j => A (swn c i) j) c h
  have h2 := det_adj n A c h
  rw [swr_adj] at h2
  rw [h1, h2]
  omega
theorem sI_swst {f : Nat → Int} {c n : Nat} (h : c + 1 < n) : sI (fun j => f (swn c j)) n = sI f n := by
  refine sI_sw (c := c) ?_ ?_ n (fun d _ h1 h2 => ?_) h
  · show f (swn c c) = _
    unfold swn
    rw [if_pos rfl]
  · show f (swn c (c + 1)) = _
    unfold swn
    rw [if_neg (by omega), if_pos rfl]
  · show f (swn c d) = _
    unfold swn
    rw [if_neg h1, if_neg h2]
theorem swst_Mt {n c : Nat} {A : Nat → Nat → Int} (h : c + 1 < n) (hM : Mt n A) : Mt n (fun i j => A (swn c i) (swn c j)) := by
  refine ⟨fun i j hi hj hne => hM.1 _ _ (swn_lt h hi) (swn_lt h hj) (fun e => hne ?_), fun i hi => ?_⟩
  · rw [← swn_swn c i, e, swn_swn]
  · show 0 ≤ sI (fun j => A (swn c i) (swn c j)) n
    rw [sI_swst (f := A (swn c i)) h]
    exact hM.2 _ (swn_lt h hi)
theorem swst_Cn {n c : Nat} {A : Nat → Nat → Int} (h : c + 1 < n) (hC : Cn n A) : Cn n (fun i j => A (swn c i) (swn c j)) := by
  intro S ⟨i0, hi0, hS0⟩
  obtain ⟨i, hi, hS, hh⟩ := hC (fun j => S (swn c j)) ⟨swn c i0, swn_lt h hi0, by show S (swn c (swn c i0)); rw [swn_swn]; exact hS0⟩
  refine ⟨swn c i, swn_lt h hi, hS, ?_⟩
  rcases hh with hh | ⟨j, hj, hn, hh⟩
  · refine Or.inl ?_
    show 0 < sI (fun j => A (swn c (swn c i)) (swn c j)) n
    rw [sI_swst (f := A (swn c (swn c i))) h, swn_swn]
    exact hh
  · refine Or.inr ⟨swn c j, swn_lt h hj, hn, ?_⟩
    show A (swn c (swn c i)) (swn c (swn c j)) < 0
    rw [swn_swn, swn_swn]
    exact hh
theorem num_nonneg : ∀ {n : Nat} {A : Nat → Nat → Int} {b : Nat → Int} {i : Nat}, Mt n A → Cn n A → (∀ r, r < n → 0 ≤ b r) → i < n → 0 ≤ det n (sco A i b)
  | 0, _, _, i, _, _, _, hi => absurd hi (by omega)
  | n + 1, A, b, i, hM, hC, hb, hi => by
    by_cases hin : i < n
    · exact num_low (fun h1 h2 h3 h4 => num_nonneg h1 h2 h3 h4) hM hC hb hin
    · have e : i = n := by omega
      subst e
      rcases Nat.eq_zero_or_pos i with h0 | h0
      · subst h0
        rw [det_lastrow (fun j hj => absurd hj (by omega))]
        have := hb 0 (by omega)
        show 0 ≤ sco A 0 b 0 0 * 1
        unfold sco
        rw [if_pos rfl]
        omega
      · have hc : (i - 1) + 1 < i + 1 := by omega
        rw [← det_swst (sco A i b) hc]
        have e2 : det (i + 1) (fun r j => sco A i b (swn (i - 1) r) (swn (i - 1) j)) = det (i + 1) (sco (fun r j => A (swn (i - 1) r) (swn (i - 1) j)) (i - 1) (fun r => b (swn (i - 1) r))) := det_congr (fun r j hr hj => by
          unfold sco
          by_cases hj2 : j = i - 1
          · have e3 : swn (i - 1) j = i := by unfold swn; rw [if_pos hj2]; omega
            rw [if_pos e3, if_pos hj2]
          · have e3 : swn (i - 1) j ≠ i := by
              unfold swn
              rw [if_neg hj2]
              split <;> omega
            rw [if_neg e3, if_neg hj2])
        rw [e2]
        exact num_low (fun h1 h2 h3 h4 => num_nonneg h1 h2 h3 h4) (swst_Mt hc hM) (swst_Cn hc hC) (fun r hr => hb _ (swn_lt hc hr)) (by omega)
