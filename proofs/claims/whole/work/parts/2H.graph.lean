/-! ways between states: the closure, heaps and their numbers, closed heaps -/
def fw (b : Nat → Nat → Bool) : Nat → Nat → Nat → Bool
  | 0, i, j => b i j
  | k + 1, i, j => fw b k i j || (fw b k i k && fw b k k j)
theorem fw_s (b : Nat → Nat → Bool) (k i j : Nat) : fw b (k + 1) i j = (fw b k i j || (fw b k i k && fw b k k j)) := rfl
theorem fw_up {b : Nat → Nat → Bool} {k i j : Nat} (h : fw b k i j = true) : ∀ m, k ≤ m → fw b m i j = true
  | 0, hm => by
    have : k = 0 := by omega
    subst this; exact h
  | m + 1, hm => by
    by_cases e : k = m + 1
    · subst e; exact h
    · rw [fw_s, fw_up h m (by omega)]
      rfl
theorem fw_tr {b : Nat → Nat → Bool} : ∀ (k m i j : Nat), m < k → fw b k i m = true → fw b k m j = true → fw b k i j = true
  | 0, m, _, _, hm, _, _ => absurd hm (by omega)
  | k + 1, m, i, j, hm, h1, h2 => by
    rw [fw_s, Bool.or_eq_true, Bool.and_eq_true] at *
    by_cases hmk : m = k
    · subst hmk
      right
      constructor
      · rcases h1 with h | h
        · exact h
        · exact h.1
      · rcases h2 with h | h
        · exact h
        · exact h.2
    · have hm' : m < k := by omega
      rcases h1 with h1 | ⟨h1, h1b⟩
      · rcases h2 with h2 | ⟨h2, h2b⟩
        · left; exact fw_tr k m i j hm' h1 h2
        · right; exact ⟨fw_tr k m i k hm' h1 h2, h2b⟩
      · rcases h2 with h2 | ⟨h2, h2b⟩
        · right; exact ⟨h1, fw_tr k m k j hm' h1b h2⟩
        · right; exact ⟨h1, h2b⟩
theorem fw_snd {b : Nat → Nat → Bool} {P : Nat → Prop} (hP : ∀ x y, P x → b x y = true → P y) : ∀ k i j, fw b k i j = true → P i → P j
  | 0, i, j, h, hi => hP i j hi h
  | k + 1, i, j, h, hi => by
    rw [fw_s, Bool.or_eq_true, Bool.and_eq_true] at h
    rcases h with h | ⟨h1, h2⟩
    · exact fw_snd hP k i j h hi
    · exact fw_snd hP k k j h2 (fw_snd hP k i k h1 hi)
theorem fw_kk (b : Nat → Nat → Bool) (k j : Nat) : fw b (k + 1) k j = fw b k k j := by
  rw [fw_s]
  cases fw b k k j <;> cases fw b k k k <;> rfl
theorem fw_rf {b b' : Nat → Nat → Bool} (h : ∀ i j, b' i j = (b i j || decide (i = j))) : ∀ k i j, fw b' k i j = (fw b k i j || decide (i = j))
  | 0, i, j => h i j
  | k + 1, i, j => by
    rw [fw_s, fw_s, fw_rf h k i j, fw_rf h k i k, fw_rf h k k j]
    by_cases h1 : i = k
    · subst h1
      by_cases h2 : i = j
      · subst h2; simp
      · simp [h2]
    · by_cases h2 : k = j
      · subst h2
        simp [h1]
        cases fw b k i k <;> simp
      · simp [h1, h2]
        cases fw b k i j <;> cases fw b k i k <;> cases fw b k k j <;> simp
theorem or_bits {a b n : Nat} (ha : a < 2 ^ n) (hb : b < 2 ^ n) : a ||| b < 2 ^ n := Nat.or_lt_two_pow ha hb
theorem fw_row (b : Nat → Nat → Bool) (n k i : Nat) : mkS (fw b k i) n ||| (if fw b k i k then mkS (fw b k k) n else 0) = mkS (fw b (k + 1) i) n := by
  apply set_ext (n := n)
  · apply or_bits (mkS_lt _ _)
    split
    · exact mkS_lt _ _
    · exact Nat.pow_pos (by decide)
  · exact mkS_lt _ _
  · intro j hj
    rw [Nat.testBit_or, mkS_t, mkS_t, fw_s]
    by_cases h : fw b k i k = true
    · rw [if_pos h, mkS_t, h]
      simp [hj]
    · rw [if_neg h, Nat.zero_testBit]
      rw [Bool.not_eq_true] at h
      rw [h]
      simp [hj]
/-- the first place with a mark -/
def fst1 (p : Nat → Bool) : Nat → Nat
  | 0 => 0
  | n + 1 => if fst1 p n < n then fst1 p n else if p n then n else n + 1
theorem fst1_le (p : Nat → Bool) : ∀ n, fst1 p n ≤ n
  | 0 => Nat.le_refl _
  | n + 1 => by
    have := fst1_le p n
    unfold fst1
    split
    · omega
    · split <;> omega
theorem fst1_lt {p : Nat → Bool} : ∀ {n j : Nat}, j < fst1 p n → p j = false
  | 0, j, h => absurd h (by show ¬ j < 0; omega)
  | n + 1, j, h => by
    have hl := fst1_le p n
    unfold fst1 at h
    by_cases h1 : fst1 p n < n
    · rw [if_pos h1] at h
      exact fst1_lt h
    · rw [if_neg h1] at h
      by_cases h2 : p n = true
      · rw [if_pos h2] at h
        exact fst1_lt (n := n) (by omega)
      · rw [if_neg h2] at h
        by_cases e : j = n
        · subst e; simpa using h2
        · exact fst1_lt (n := n) (by omega)
theorem fst1_at {p : Nat → Bool} : ∀ {n : Nat}, fst1 p n < n → p (fst1 p n) = true
  | 0, h => absurd h (by show ¬ 0 < 0; omega)
  | n + 1, h => by
    unfold fst1 at *
    by_cases h1 : fst1 p n < n
    · rw [if_pos h1] at *
      exact fst1_at h1
    · rw [if_neg h1] at *
      by_cases h2 : p n = true
      · rw [if_pos h2] at *
        exact h2
      · rw [if_neg h2] at h
        omega
theorem fst1_ex {p : Nat → Bool} {n j : Nat} (hj : j < n) (h : p j = true) : fst1 p n ≤ j ∧ fst1 p n < n := by
  have : ¬ j < fst1 p n := fun z => by rw [fst1_lt z] at h; cases h
  omega
/-- chances above 0 -/
def cB (c : Nat → Nat → Nat) : Nat → Nat → Bool := fun i j => decide (0 < c i j)
def cR (c : Nat → Nat → Nat) : Nat → Nat → Bool := fun i j => decide (0 < c i j) || decide (i = j)
/-- i leads to j -/
abbrev lB (c : Nat → Nat → Nat) (n : Nat) : Nat → Nat → Bool := fw (cR c) n
def cN (c : Nat → Nat → Nat) (n i : Nat) : Nat := mkS (cB c i) n
def cL (c : Nat → Nat → Nat) (n i : Nat) : Nat := mkS (lB c n i) n
/-- the reference's leads -/
def rL (c : Nat → Nat → Nat) (n i : Nat) : Nat := mkS (fw (cB c) n i) n
theorem lB_rf (c : Nat → Nat → Nat) (n i : Nat) : lB c n i i = true := fw_up (k := 0) (by show (_ || _) = true; simp) n (by omega)
theorem lB_st {c : Nat → Nat → Nat} {n i j : Nat} (h : 0 < c i j) : lB c n i j = true := fw_up (k := 0) (by show (_ || _) = true; simp [h]) n (by omega)
theorem lB_tr {c : Nat → Nat → Nat} {n i j k : Nat} (hj : j < n) (h1 : lB c n i j = true) (h2 : lB c n j k = true) : lB c n i k = true := fw_tr n j i k hj h1 h2
theorem lB_rl (c : Nat → Nat → Nat) (n i j : Nat) : lB c n i j = (fw (cB c) n i j || decide (i = j)) := fw_rf (fun _ _ => rfl) n i j
theorem lB_snd {c : Nat → Nat → Nat} {n i j : Nat} {P : Nat → Prop} (hP : ∀ x y, P x → 0 < c x y → P y) (h : lB c n i j = true) (hi : P i) : P j := fw_snd (P := P) (fun x y hx hb => by
  have hb' : (decide (0 < c x y) || decide (x = y)) = true := hb
  rw [Bool.or_eq_true, decide_eq_true_eq, decide_eq_true_eq] at hb'
  rcases hb' with h | h
  · exact hP x y hx h
  · subst h; exact hx) n i j h hi
theorem cL_t {c : Nat → Nat → Nat} {n i j : Nat} (hj : j < n) : (cL c n i).testBit j = lB c n i j := by
  unfold cL
  rw [mkS_t, decide_eq_true hj, Bool.true_and]
theorem rL_t {c : Nat → Nat → Nat} {n i j : Nat} (hj : j < n) : (rL c n i).testBit j = fw (cB c) n i j := by
  unfold rL
  rw [mkS_t, decide_eq_true hj, Bool.true_and]
theorem cN_t {c : Nat → Nat → Nat} {n i j : Nat} (hj : j < n) : (cN c n i).testBit j = decide (0 < c i j) := by
  unfold cN cB
  rw [mkS_t, decide_eq_true hj, Bool.true_and]
/-- they lead to each other -/
def mB (c : Nat → Nat → Nat) (n i j : Nat) : Bool := lB c n i j && lB c n j i
theorem mB_i {c : Nat → Nat → Nat} {n i j : Nat} : mB c n i j = true ↔ lB c n i j = true ∧ lB c n j i = true := by
  unfold mB
  rw [Bool.and_eq_true]
theorem mB_rf (c : Nat → Nat → Nat) (n i : Nat) : mB c n i i = true := mB_i.mpr ⟨lB_rf c n i, lB_rf c n i⟩
theorem mB_sy {c : Nat → Nat → Nat} {n i j : Nat} (h : mB c n i j = true) : mB c n j i = true := mB_i.mpr ⟨(mB_i.mp h).2, (mB_i.mp h).1⟩
theorem mB_tr {c : Nat → Nat → Nat} {n i j k : Nat} (hj : j < n) (h1 : mB c n i j = true) (h2 : mB c n j k = true) : mB c n i k = true := mB_i.mpr ⟨lB_tr hj (mB_i.mp h1).1 (mB_i.mp h2).1, lB_tr hj (mB_i.mp h2).2 (mB_i.mp h1).2⟩
theorem hp_t {c : Nat → Nat → Nat} {n i j : Nat} (hi : i < n) (hj : j < n) : (hpS (cL c n) n i).testBit j = mB c n i j := by
  unfold hpS mB
  rw [mkS_t, decide_eq_true hj, Bool.true_and, cL_t hj, cL_t hi]
/-- the least of its heap -/
def lst (c : Nat → Nat → Nat) (n i : Nat) : Nat := fst1 (mB c n i) n
theorem lst_ok {c : Nat → Nat → Nat} {n i : Nat} (hi : i < n) : lst c n i ≤ i ∧ lst c n i < n ∧ mB c n i (lst c n i) = true ∧ ∀ j, j < lst c n i → mB c n i j = false := by
  have h := fst1_ex hi (mB_rf c n i)
  exact ⟨h.1, h.2, fst1_at h.2, fun j hj => fst1_lt hj⟩
theorem lst_eq {c : Nat → Nat → Nat} {n i j : Nat} (hi : i < n) (hj : j < n) (h : mB c n i j = true) : lst c n i = lst c n j := by
  obtain ⟨a1, a2, a3, a4⟩ := lst_ok (c := c) hi
  obtain ⟨b1, b2, b3, b4⟩ := lst_ok (c := c) hj
  rcases Nat.lt_trichotomy (lst c n i) (lst c n j) with h1 | h1 | h1
  · have := b4 _ h1
    rw [mB_tr hi (mB_sy h) a3] at this
    cases this
  · exact h1
  · have := a4 _ h1
    rw [mB_tr hj h b3] at this
    cases this
theorem ls_i {c : Nat → Nat → Nat} {n i : Nat} (hi : i < n) : lsB (cL c n) n i = true ↔ lst c n i = i := by
  obtain ⟨a1, a2, a3, a4⟩ := lst_ok (c := c) hi
  unfold lsB
  rw [decide_eq_true_eq]
  have hl : hpS (cL c n) n i &&& (2 ^ i - 1) < 2 ^ n := Nat.lt_of_le_of_lt Nat.and_le_left (hpS_lt _ _ _)
  rw [set_0 hl]
  constructor
  · intro h
    rcases Nat.lt_or_ge (lst c n i) i with h1 | h1
    · have := h _ a2
      rw [Nat.testBit_and, hp_t hi a2, a3, low_t] at this
      simp at this
      omega
    · omega
  · intro h j hj
    rw [Nat.testBit_and, hp_t hi hj, low_t]
    by_cases hji : j < i
    · rw [a4 j (by omega)]
      rfl
    · simp [hji]
theorem ls_lst {c : Nat → Nat → Nat} {n i : Nat} (hi : i < n) : lsB (cL c n) n (lst c n i) = true := by
  obtain ⟨a1, a2, a3, a4⟩ := lst_ok (c := c) hi
  rw [ls_i a2]
  exact (lst_eq hi a2 a3).symm
/-- the number of its heap -/
def hnm (c : Nat → Nat → Nat) (n i : Nat) : Nat := ct (lsB (cL c n) n) (lst c n i)
theorem hnm_eq {c : Nat → Nat → Nat} {n i j : Nat} (hi : i < n) (hj : j < n) : hnm c n i = hnm c n j ↔ mB c n i j = true := by
  obtain ⟨a1, a2, a3, a4⟩ := lst_ok (c := c) hi
  obtain ⟨b1, b2, b3, b4⟩ := lst_ok (c := c) hj
  constructor
  · intro h
    unfold hnm at h
    rcases Nat.lt_trichotomy (lst c n i) (lst c n j) with h1 | h1 | h1
    · have := ct_lt (lsB (cL c n) n) h1 (ls_lst hi)
      omega
    · rw [h1] at a3
      exact mB_tr b2 a3 (mB_sy b3)
    · have := ct_lt (lsB (cL c n) n) h1 (ls_lst hj)
      omega
  · intro h
    unfold hnm
    rw [lst_eq hi hj h]
theorem hnm_lt {c : Nat → Nat → Nat} {n i : Nat} (hi : i < n) : hnm c n i < ct (lsB (cL c n) n) n := by
  obtain ⟨a1, a2, a3, a4⟩ := lst_ok (c := c) hi
  exact ct_lt _ a2 (ls_lst hi)
theorem hnm_ls {c : Nat → Nat → Nat} {n i : Nat} (hi : i < n) (h : lsB (cL c n) n i = true) : hnm c n i = ct (lsB (cL c n) n) i := by
  unfold hnm
  rw [(ls_i hi).mp h]
theorem hps_pos {c : Nat → Nat → Nat} {n : Nat} (h : 0 < n) : 1 ≤ ct (lsB (cL c n) n) n := by
  have := hnm_lt (c := c) h
  omega
/-- closed: whoever is led to leads back -/
theorem cl_i {c : Nat → Nat → Nat} {n i : Nat} (hi : i < n) : clB (cL c n) n i = true ↔ ∀ j, j < n → lB c n i j = true → lB c n j i = true := by
  unfold clB
  rw [decide_eq_true_eq]
  constructor
  · intro h j hj hl
    have : (cL c n i).testBit j = (hpS (cL c n) n i).testBit j := by rw [← h]
    rw [cL_t hj, hp_t hi hj, hl] at this
    exact (mB_i.mp this.symm).2
  · intro h
    apply set_ext (n := n) (show cL c n i < 2 ^ n from mkS_lt _ _) (hpS_lt _ _ _)
    intro j hj
    rw [cL_t hj, hp_t hi hj]
    by_cases hl : lB c n i j = true
    · rw [hl, (mB_i.mpr ⟨hl, h j hj hl⟩)]
    · rw [Bool.not_eq_true] at hl
      unfold mB
      rw [hl]
      rfl
theorem cl_mB {c : Nat → Nat → Nat} {n i j : Nat} (hi : i < n) (hj : j < n) (h : mB c n i j = true) (hc : clB (cL c n) n i = true) : clB (cL c n) n j = true := by
  rw [cl_i hj]
  rw [cl_i hi] at hc
  intro k hk hl
  exact lB_tr hi (hc k hk (lB_tr hj (mB_i.mp h).1 hl)) (mB_i.mp h).1
/-- the reference's look at a heap by its number -/
def clh (c : Nat → Nat → Nat) (n h : Nat) : Bool := alB (fun i => !(decide (hnm c n i = h)) || decide (sdf (rL c n i) (mkS (fun j => decide (hnm c n j = h)) n) = 0)) n
theorem rL_lt (c : Nat → Nat → Nat) (n i : Nat) : rL c n i < 2 ^ n := mkS_lt _ _
theorem clh_eq {c : Nat → Nat → Nat} {n i : Nat} (hn : n ≤ 8) (hi : i < n) : clh c n (hnm c n i) = clB (cL c n) n i := by
  rw [Bool.eq_iff_iff]
  unfold clh
  rw [alB_t, cl_i hi]
  have hb : ∀ j k, j < n → k < n → (sdf (rL c n j) (mkS (fun j => decide (hnm c n j = hnm c n i)) n)).testBit k = (fw (cB c) n j k && !(mB c n k i)) := fun j k hj hk => by
    rw [sdf_t (by omega), rL_t hk, mkS_t, decide_eq_true hk, Bool.true_and]
    congr 2
    rw [Bool.eq_iff_iff, decide_eq_true_eq, hnm_eq hk hi]
  constructor
  · intro h j hj hl
    have := h i hi
    rw [decide_eq_true (show hnm c n i = hnm c n i from rfl)] at this
    simp only [Bool.not_true, Bool.false_or, decide_eq_true_eq] at this
    by_cases hij : i = j
    · subst hij; exact hl
    · rw [set_0 (Nat.lt_of_le_of_lt (sdf_le _ _) (rL_lt c n i))] at this
      have h2 := this j hj
      rw [hb i j hi hj] at h2
      rw [lB_rl] at hl
      simp [hij] at hl
      rw [hl] at h2
      simp at h2
      exact (mB_i.mp h2).1
  · intro h j hj
    by_cases hm : hnm c n j = hnm c n i
    · have hm2 := (hnm_eq hj hi).mp hm
      rw [decide_eq_true hm]
      simp only [Bool.not_true, Bool.false_or, decide_eq_true_eq]
      rw [set_0 (Nat.lt_of_le_of_lt (sdf_le _ _) (rL_lt c n j))]
      intro k hk
      rw [hb j k hj hk]
      by_cases hf : fw (cB c) n j k = true
      · have hl : lB c n j k = true := by rw [lB_rl, hf]; rfl
        have h1 : lB c n i k = true := lB_tr hj (mB_i.mp hm2).2 hl
        have h2 := h k hk h1
        rw [mB_i.mpr ⟨h2, h1⟩]
        simp
      · rw [Bool.not_eq_true] at hf
        rw [hf]
        rfl
    · rw [decide_eq_false hm]
      rfl
/-- as many closed heaps by numbers as by least states -/
theorem cls_ct {c : Nat → Nat → Nat} {n : Nat} (hn : n ≤ 8) : ∀ i, i ≤ n → ct (clh c n) (ct (lsB (cL c n) n) i) = ct (fun i => lsB (cL c n) n i && clB (cL c n) n i) i
  | 0, _ => rfl
  | i + 1, h => by
    have ih := cls_ct (c := c) hn i (by omega)
    rw [ct_s, ct_s]
    by_cases hl : lsB (cL c n) n i = true
    · rw [if_pos hl, ct_s, ih, hl, ← hnm_ls (by omega) hl, clh_eq hn (by omega), Bool.true_and]
    · rw [if_neg hl]
      rw [Bool.not_eq_true] at hl
      rw [hl, Bool.false_and, if_neg (by decide)]
      omega
theorem hps_ct {c : Nat → Nat → Nat} {n : Nat} (hn : n ≤ 8) : ct (clh c n) (ct (lsB (cL c n) n) n) = ct (fun i => lsB (cL c n) n i && clB (cL c n) n i) n := cls_ct hn n (Nat.le_refl n)
/-- each number below the number of heaps is that of a state -/
theorem hnm_on {c : Nat → Nat → Nat} {n : Nat} : ∀ i h, i ≤ n → h < ct (lsB (cL c n) n) i → ∃ j, j < i ∧ hnm c n j = h
  | 0, h, _, hh => absurd hh (by show ¬ h < 0; omega)
  | i + 1, h, hi, hh => by
    rw [ct_s] at hh
    by_cases hl : lsB (cL c n) n i = true
    · rw [if_pos hl] at hh
      by_cases e : h = ct (lsB (cL c n) n) i
      · exact ⟨i, by omega, by rw [hnm_ls (by omega) hl, e]⟩
      · obtain ⟨j, h1, h2⟩ := hnm_on (c := c) (n := n) i h (by omega) (by omega)
        exact ⟨j, by omega, h2⟩
    · rw [if_neg hl] at hh
      obtain ⟨j, h1, h2⟩ := hnm_on (c := c) (n := n) i h (by omega) (by omega)
      exact ⟨j, by omega, h2⟩
theorem ct_ex {p : Nat → Bool} : ∀ {n : Nat}, 0 < ct p n → ∃ j, j < n ∧ p j = true
  | 0, h => absurd h (by show ¬ 0 < 0; omega)
  | n + 1, h => by
    rw [ct_s] at h
    by_cases hp : p n = true
    · exact ⟨n, by omega, hp⟩
    · rw [if_neg hp] at h
      obtain ⟨j, h1, h2⟩ := ct_ex (n := n) (by omega)
      exact ⟨j, by omega, h2⟩
theorem ct_one {p : Nat → Bool} {n i j : Nat} (h : ct p n = 1) (hi : i < n) (hj : j < n) (h1 : p i = true) (h2 : p j = true) : i = j := by
  rcases Nat.lt_trichotomy i j with e | e | e
  · have a := ct_lt p e h1
    have b := ct_lt p hj h2
    omega
  · exact e
  · have a := ct_lt p e h2
    have b := ct_lt p hi h1
    omega
/-- one closed heap: its states are the closed ones, and they lead to each other -/
theorem one_cl {c : Nat → Nat → Nat} {n : Nat} (h1 : ct (fun i => lsB (cL c n) n i && clB (cL c n) n i) n = 1) {i j : Nat} (hi : i < n) (hj : j < n) (ci : clB (cL c n) n i = true) (cj : clB (cL c n) n j = true) : mB c n i j = true := by
  obtain ⟨a1, a2, a3, a4⟩ := lst_ok (c := c) hi
  obtain ⟨b1, b2, b3, b4⟩ := lst_ok (c := c) hj
  have := ct_one h1 a2 b2 (by rw [ls_lst hi, cl_mB hi a2 a3 ci]; rfl) (by rw [ls_lst hj, cl_mB hj b2 b3 cj]; rfl)
  rw [this] at a3
  exact mB_tr b2 a3 (mB_sy b3)
/-- a whole chain -/
theorem wh_mB {c : Nat → Nat → Nat} {n : Nat} (h1 : ct (lsB (cL c n) n) n = 1) {i j : Nat} (hi : i < n) (hj : j < n) : mB c n i j = true := by
  rw [← hnm_eq hi hj]
  have a := hnm_lt (c := c) hi
  have b := hnm_lt (c := c) hj
  omega
theorem wh_cl {c : Nat → Nat → Nat} {n : Nat} (h1 : ct (lsB (cL c n) n) n = 1) {i : Nat} (hi : i < n) : clB (cL c n) n i = true := by
  rw [cl_i hi]
  intro j hj _
  exact (mB_i.mp (wh_mB h1 hj hi)).1
theorem ct_congr {p r : Nat → Bool} : ∀ {n : Nat}, (∀ i, i < n → p i = r i) → ct p n = ct r n
  | 0, _ => rfl
  | n + 1, h => by rw [ct_s, ct_s, ct_congr (fun i hi => h i (by omega)), h n (by omega)]
theorem wh_one {c : Nat → Nat → Nat} {n : Nat} (h1 : ct (lsB (cL c n) n) n = 1) : ct (fun i => lsB (cL c n) n i && clB (cL c n) n i) n = 1 := by
  rw [← h1]
  apply ct_congr
  intro i hi
  rw [wh_cl h1 hi, Bool.and_true]
theorem wh_set {c : Nat → Nat → Nat} {n : Nat} (h1 : ct (lsB (cL c n) n) n = 1) : mkS (clB (cL c n) n) n = 2 ^ n - 1 := by
  apply set_ext (n := n) (mkS_lt _ _) (by have : 0 < 2 ^ n := Nat.pow_pos (by decide); omega)
  intro i hi
  rw [mkS_t, wh_cl h1 hi, low_t, Bool.and_true]
