/-! chains: rows of one sum; minors above 0; shares -/
def gch (n q : Nat) (c : Nat → Nat → Nat) : Prop := 1 ≤ n ∧ n ≤ 8 ∧ 1 ≤ q ∧ q ≤ 60 ∧ (∀ i, i < n → sN (c i) n = q) ∧ ∀ i j, n ≤ i ∨ n ≤ j → c i j = 0
theorem sN_ge {f : Nat → Nat} : ∀ {n j : Nat}, j < n → f j ≤ sN f n
  | 0, j, h => absurd h (by omega)
  | n + 1, j, h => by
    rw [sN_succ]
    by_cases e : j = n
    · subst e; omega
    · have := sN_ge (f := f) (n := n) (j := j) (by omega)
      omega
theorem gch_le {n q : Nat} {c : Nat → Nat → Nat} (h : gch n q c) (i j : Nat) : c i j ≤ q := by
  obtain ⟨h1, h2, h3, h4, h5, h6⟩ := h
  by_cases hi : i < n
  · by_cases hj : j < n
    · have := sN_ge (f := c i) hj
      rw [h5 i hi] at this
      exact this
    · rw [h6 i j (by omega)]
      omega
  · rw [h6 i j (by omega)]
    omega
theorem gch_in {n q : Nat} {c : Nat → Nat → Nat} (h : gch n q c) {i j : Nat} (hc : 0 < c i j) : i < n ∧ j < n := by
  obtain ⟨h1, h2, h3, h4, h5, h6⟩ := h
  by_cases hi : i < n
  · by_cases hj : j < n
    · exact ⟨hi, hj⟩
    · rw [h6 i j (by omega)] at hc
      omega
  · rw [h6 i j (by omega)] at hc
    omega
theorem sB_sN (S : Nat) (f : Nat → Nat) : ∀ n, sB S f n ≤ sN f n
  | 0 => Nat.le_refl _
  | n + 1 => by
    have := sB_sN S f n
    rw [sB_s, sN_succ]
    split <;> omega
theorem sB_out {S : Nat} {f : Nat → Nat} : ∀ {n z : Nat}, z < n → S.testBit z = false → sB S f n + f z ≤ sN f n
  | 0, z, h, _ => absurd h (by omega)
  | n + 1, z, h, hz => by
    rw [sB_s, sN_succ]
    by_cases e : z = n
    · subst e
      have := sB_sN S f z
      rw [hz, if_neg (by decide)]
      omega
    · have := sB_out (f := f) (n := n) (by omega) hz
      split <;> omega
theorem sB_all {f : Nat → Nat} {S : Nat} : ∀ {n : Nat}, (∀ i, i < n → S.testBit i = true) → sB S f n = sN f n
  | 0, _ => rfl
  | n + 1, h => by rw [sB_s, sN_succ, sB_all (fun i hi => h i (by omega)), h n (by omega), if_pos rfl]
theorem el_s {T k n : Nat} (h : k < cnt T n) : el T k (n + 1) = el T k n := by
  show (if T.testBit n ∧ cnt T n = k then n else el T k n) = _
  rw [if_neg (by omega)]
theorem el_inj {T r k n : Nat} (hr : r < cnt T n) (hk : k < cnt T n) (h : el T r n = el T k n) : r = k := by
  obtain ⟨a1, a2, a3⟩ := el_ok T r hr
  obtain ⟨b1, b2, b3⟩ := el_ok T k hk
  rw [← a3, ← b3, h]
theorem sI_el (T : Nat) (f : Nat → Nat) : ∀ n, sI (fun k => ((f (el T k n) : Nat) : Int)) (cnt T n) = ((sB T f n : Nat) : Int)
  | 0 => rfl
  | n + 1 => by
    have ih := sI_el T f n
    rw [sB_s, cnt_s]
    by_cases hb : T.testBit n = true
    · rw [if_pos hb, if_pos hb, sI_succ]
      have e1 : sI (fun k => ((f (el T k (n + 1)) : Nat) : Int)) (cnt T n) = sI (fun k => ((f (el T k n) : Nat) : Int)) (cnt T n) := sI_congr (fun k hk => by rw [el_s hk])
      have e2 : el T (cnt T n) (n + 1) = n := by
        show (if T.testBit n ∧ cnt T n = cnt T n then n else el T (cnt T n) n) = n
        rw [if_pos ⟨hb, rfl⟩]
      rw [e1, ih, e2]
      omega
    · rw [if_neg hb, if_neg hb]
      have e1 : sI (fun k => ((f (el T k (n + 1)) : Nat) : Int)) (cnt T n) = sI (fun k => ((f (el T k n) : Nat) : Int)) (cnt T n) := sI_congr (fun k hk => by rw [el_s hk])
      show sI (fun k => ((f (el T k (n + 1)) : Nat) : Int)) (cnt T n) = ((sB T f n : Nat) : Int)
      rw [e1, ih]
theorem diag_sum {T n q r : Nat} (hr : r < cnt T n) : sI (fun k => ((if el T r n = el T k n then q else 0 : Nat) : Int)) (cnt T n) = (q : Int) := by
  rw [sI_one hr (fun k hk hkr => by
    rw [if_neg (fun e => hkr (el_inj hr hk e).symm)]
    rfl), if_pos rfl]
section
variable {n q T : Nat} {c : Nat → Nat → Nat}
theorem mtx_row {r : Nat} (hr : r < cnt T n) : sI (mtx q c n T r) (cnt T n) = (q : Int) - ((sB T (c (el T r n)) n : Nat) : Int) := by
  have e : sI (mtx q c n T r) (cnt T n) = sI (fun k => ((if el T r n = el T k n then q else 0 : Nat) : Int) - ((c (el T r n) (el T k n) : Nat) : Int)) (cnt T n) := rfl
  rw [e, sI_sub, diag_sum hr, sI_el T (c (el T r n))]
theorem mtx_abs {r : Nat} (hr : r < cnt T n) : sI (fun k => ((mtx q c n T r k).natAbs : Int)) (cnt T n) ≤ (q : Int) + ((sB T (c (el T r n)) n : Nat) : Int) := by
  rw [← diag_sum (q := q) hr, ← sI_el T (c (el T r n)), ← sI_add]
  apply sI_mono
  intro k hk
  unfold mtx
  omega
theorem mtx_Mt (hg : gch n q c) : Mt (cnt T n) (mtx q c n T) := by
  refine ⟨fun i j hi hj hne => ?_, fun i hi => ?_⟩
  · unfold mtx
    rw [if_neg (fun e => hne (el_inj hi hj e))]
    omega
  · rw [mtx_row hi]
    have h1 := sB_sN T (c (el T i n)) n
    have h2 := hg.2.2.2.2.1 (el T i n) (el_ok T i hi).1
    omega
/-- from each state of the set there is a way out of it -/
def lvT (c : Nat → Nat → Nat) (n T : Nat) : Prop := ∀ x, x < n → T.testBit x = true → ∀ P : Nat → Prop, P x → (∀ y z, P y → 0 < c y z → P z) → ∃ y, y < n ∧ P y ∧ T.testBit y = false
theorem mtx_Cn (hg : gch n q c) (hl : lvT c n T) : Cn (cnt T n) (mtx q c n T) := by
  intro S ⟨r0, hr0, hS0⟩
  apply Classical.byContradiction
  intro hno
  obtain ⟨a1, a2, a3⟩ := el_ok T r0 hr0
  obtain ⟨y, hy, ⟨r, hr, _, hre⟩, hyT⟩ := hl (el T r0 n) a1 a2 (fun y => ∃ r, r < cnt T n ∧ S r ∧ el T r n = y) ⟨r0, hr0, hS0, rfl⟩ (fun y z hy hc => by
    obtain ⟨r, hr, hS, rfl⟩ := hy
    have hin := gch_in hg hc
    have hrow : ¬ 0 < sI (mtx q c n T r) (cnt T n) := fun h => hno ⟨r, hr, hS, Or.inl h⟩
    rw [mtx_row hr] at hrow
    have hsum := hg.2.2.2.2.1 _ hin.1
    have hzT : T.testBit z = true := by
      apply Classical.byContradiction
      intro hz
      rw [Bool.not_eq_true] at hz
      have := sB_out (f := c (el T r n)) hin.2 hz
      omega
    have hk := cnt_lt T hin.2 hzT
    have hez : el T (cnt T z) n = z := el_un hin.2 hzT
    refine ⟨cnt T z, hk, ?_, hez⟩
    apply Classical.byContradiction
    intro hSk
    refine hno ⟨r, hr, hS, Or.inr ⟨cnt T z, hk, hSk, ?_⟩⟩
    have hne : el T r n ≠ el T (cnt T z) n := fun e => by
      have := el_inj hr hk e
      rw [← this] at hSk
      exact hSk hS
    unfold mtx
    rw [if_neg hne, hez]
    omega)
  rw [← hre, (el_ok T r hr).2.1] at hyT
  cases hyT
theorem mtx_pos (hg : gch n q c) (hl : lvT c n T) : 0 < det (cnt T n) (mtx q c n T) := det_pos (mtx_Mt hg) (mtx_Cn hg hl)
theorem mtx_num (hg : gch n q c) (hl : lvT c n T) {b : Nat → Int} {i : Nat} (hb : ∀ r, r < cnt T n → 0 ≤ b r) (hi : i < cnt T n) : 0 ≤ det (cnt T n) (sco (mtx q c n T) i b) := num_nonneg (mtx_Mt hg) (mtx_Cn hg hl) hb hi
theorem mtx_bd (hg : gch n q c) : ((det (cnt T n) (mtx q c n T)).natAbs : Int) ≤ 120 ^ (cnt T n) := by
  apply det_bound 120 (by decide)
  intro r hr
  have h1 := mtx_abs (q := q) (c := c) hr
  have h2 := sB_sN T (c (el T r n)) n
  have h3 := hg.2.2.2.2.1 (el T r n) (el_ok T r hr).1
  have h4 := hg.2.2.2.1
  omega
theorem sco_bd (hg : gch n q c) {b : Nat → Int} {i : Nat} (hi : i < cnt T n) (hb : ∀ r, r < cnt T n → 0 ≤ b r ∧ b r ≤ 60) : ((det (cnt T n) (sco (mtx q c n T) i b)).natAbs : Int) ≤ 180 ^ (cnt T n) := by
  apply det_bound 180 (by decide)
  intro r hr
  have h1 := mtx_abs (q := q) (c := c) hr
  have h2 := sB_sN T (c (el T r n)) n
  have h3 := hg.2.2.2.2.1 (el T r n) (el_ok T r hr).1
  have h4 := hg.2.2.2.1
  have h5 : sI (fun k => ((sco (mtx q c n T) i b r k).natAbs : Int)) (cnt T n) ≤ sI (fun k => ((mtx q c n T r k).natAbs : Int) + (if k = i then 60 else 0)) (cnt T n) := sI_mono (fun k hk => by
    unfold sco
    have := hb r hr
    by_cases hki : k = i
    · rw [if_pos hki, if_pos hki]; omega
    · rw [if_neg hki, if_neg hki]; omega)
  rw [sI_add, sI_one (f := fun k => if k = i then (60 : Int) else 0) hi (fun k _ hk => if_neg hk), if_pos rfl] at h5
  omega
end
def cS (c : Nat → Nat → Nat) (n : Nat) : Nat := mkS (clB (cL c n) n) n
/-- just one closed heap -/
def oneC (c : Nat → Nat → Nat) (n : Nat) : Prop := ct (fun i => lsB (cL c n) n i && clB (cL c n) n i) n = 1
def cD (n q : Nat) (c : Nat → Nat → Nat) (S i : Nat) : Int := det (cnt (sdf S (2 ^ i)) n) (mtx q c n (sdf S (2 ^ i)))
def cW (n q : Nat) (c : Nat → Nat → Nat) (i : Nat) : Nat := if ct (fun i => lsB (cL c n) n i && clB (cL c n) n i) n = 1 ∧ (cS c n).testBit i = true then (cD n q c (cS c n) i).toNat else 0
section
variable {n q : Nat} {c : Nat → Nat → Nat}
theorem cS_lt : cS c n < 2 ^ n := mkS_lt _ _
theorem cS_t {i : Nat} (hi : i < n) : (cS c n).testBit i = clB (cL c n) n i := by
  unfold cS
  rw [mkS_t, decide_eq_true hi, Bool.true_and]
theorem sdf1_t {S i j : Nat} (hj : j < 32) : (sdf S (2 ^ i)).testBit j = (S.testBit j && !decide (i = j)) := by
  rw [sdf_t hj, Nat.testBit_two_pow]
theorem cW_lv (hg : gch n q c) (h1 : oneC c n) {i : Nat} (hi : i < n) (hc : (cS c n).testBit i = true) : lvT c n (sdf (cS c n) (2 ^ i)) := by
  intro x hx hb P hP hcl
  have hn := hg.2.1
  rw [sdf1_t (by omega), Bool.and_eq_true, cS_t hx] at hb
  rw [cS_t hi] at hc
  have hm := one_cl h1 hx hi hb.1 hc
  refine ⟨i, hi, lB_snd hcl (mB_i.mp hm).1 hP, ?_⟩
  rw [sdf1_t (by omega)]
  simp
theorem cD_pos (hg : gch n q c) (h1 : oneC c n) {i : Nat} (hi : i < n) (hc : (cS c n).testBit i = true) : 0 < cD n q c (cS c n) i := mtx_pos hg (cW_lv hg h1 hi hc)
theorem cnt_sub {S i : Nat} (hn : n ≤ 8) (hS : S < 2 ^ n) (hi : i < n) : cnt (sdf S (2 ^ i)) n ≤ n - 1 := by
  have hle := sdf_le S (2 ^ i)
  have h8 := p2m hn
  have hc : ∀ x, x ≤ n → cnt (sdf S (2 ^ i)) x + (if i < x then 1 else 0) ≤ x := by
    intro x
    induction x with
    | zero => intro _; rw [if_neg (by omega)]; exact Nat.le_refl _
    | succ x ih =>
      intro hx
      have ih := ih (by omega)
      rw [cnt_s, sdf1_t (by omega)]
      by_cases e : i = x
      · subst e
        rw [if_neg (show ¬ i < i by omega)] at ih
        rw [if_pos (show i < i + 1 by omega)]
        simp
        omega
      · simp [e]
        by_cases hix : i < x
        · rw [if_pos hix] at ih
          rw [if_pos (show i < x + 1 by omega)]
          split <;> omega
        · rw [if_neg hix] at ih
          rw [if_neg (show ¬ i < x + 1 by omega)]
          split <;> omega
  have := hc n (Nat.le_refl n)
  rw [if_pos hi] at this
  omega
theorem p120 {m : Nat} (h : m ≤ 7) : (120 : Int) ^ m < 2 ^ 49 := by
  have h1 : (120 : Nat) ^ m ≤ 120 ^ 7 := Nat.pow_le_pow_right (by decide) h
  have h2 : ((120 : Nat) ^ m : Int) = (120 : Int) ^ m := by norm_cast
  have h3 : (120 : Nat) ^ 7 < 2 ^ 49 := by decide
  have h4 : ((120 ^ m : Nat) : Int) < ((2 ^ 49 : Nat) : Int) := by omega
  rw [Int.natCast_pow] at h4
  exact h4
theorem p180 {m : Nat} (h : m ≤ 7) : (180 : Int) ^ m < 2 ^ 53 := by
  have h1 : (180 : Nat) ^ m ≤ 180 ^ 7 := Nat.pow_le_pow_right (by decide) h
  have h3 : (180 : Nat) ^ 7 < 2 ^ 53 := by decide
  have h4 : ((180 ^ m : Nat) : Int) < ((2 ^ 53 : Nat) : Int) := by omega
  rw [Int.natCast_pow] at h4
  exact h4
theorem cD_bd (hg : gch n q c) {S i : Nat} (hS : S < 2 ^ n) (hi : i < n) : ((cD n q c S i).natAbs : Int) < 2 ^ 49 := by
  have h1 := mtx_bd (T := sdf S (2 ^ i)) hg
  have h2 := cnt_sub hg.2.1 hS hi
  have h3 := p120 (m := cnt (sdf S (2 ^ i)) n) (by have := hg.2.1; omega)
  unfold cD
  omega
theorem cW_1 (hg : gch n q c) (h1 : oneC c n) {i : Nat} (hi : i < n) (hc : (cS c n).testBit i = true) : ((cW n q c i : Nat) : Int) = cD n q c (cS c n) i ∧ 0 < cW n q c i := by
  have hp := cD_pos hg h1 hi hc
  have e : cW n q c i = (cD n q c (cS c n) i).toNat := if_pos ⟨h1, hc⟩
  rw [e]
  omega
theorem cW_0 {i : Nat} (h : (cS c n).testBit i = false) : cW n q c i = 0 := if_neg (fun z => by rw [h] at z; cases z.2)
theorem cW_n {i : Nat} (h : ¬ oneC c n) : cW n q c i = 0 := if_neg (fun z => h z.1)
theorem cW_lt (hg : gch n q c) (i : Nat) : cW n q c i < 2 ^ 49 := by
  unfold cW
  split
  · rename_i h
    have hi : i < n := by
      rcases Nat.lt_or_ge i n with h1 | h1
      · exact h1
      · rw [tb_ge cS_lt h1] at h
        cases h.2
    have := cD_bd hg (S := cS c n) cS_lt hi
    omega
  · decide
/-- one closed heap: some share is above 0 -/
theorem cW_tot (hg : gch n q c) (h1 : oneC c n) : 0 < sN (cW n q c) n := by
  obtain ⟨j, hj, hb⟩ := ct_ex (p := fun i => lsB (cL c n) n i && clB (cL c n) n i) (n := n) (by unfold oneC at h1; omega)
  rw [Bool.and_eq_true] at hb
  have := (cW_1 hg h1 hj (by rw [cS_t hj]; exact hb.2)).2
  have := sN_ge (f := cW n q c) hj
  omega
theorem sN_0 {f : Nat → Nat} : ∀ {n : Nat}, (∀ k, k < n → f k = 0) → sN f n = 0
  | 0, _ => rfl
  | n + 1, h => by rw [sN_succ, sN_0 (fun k hk => h k (by omega)), h n (by omega)]
theorem cW_tn (h1 : ¬ oneC c n) : sN (cW n q c) n = 0 := sN_0 (fun k _ => cW_n h1)
theorem sN_le {f : Nat → Nat} {b : Nat} : ∀ {n : Nat}, (∀ k, k < n → f k ≤ b) → sN f n ≤ n * b
  | 0, _ => by rw [Nat.zero_mul]; exact Nat.le_refl _
  | n + 1, h => by
    have h1 := sN_le (f := f) (b := b) (n := n) (fun k hk => h k (by omega))
    have h2 := h n (by omega)
    rw [sN_succ, Nat.succ_mul]
    omega
theorem cW_tb (hg : gch n q c) : sN (cW n q c) n ≤ 2 ^ 52 := by
  have h := sN_le (f := cW n q c) (b := 2 ^ 49) (n := n) (fun k _ => Nat.le_of_lt (cW_lt hg k))
  have h2 : n * 2 ^ 49 ≤ 8 * 2 ^ 49 := Nat.mul_le_mul_right _ hg.2.1
  omega
theorem sdf_all {r : Nat} (hn : n ≤ 8) (hr : r < n) : sdf (2 ^ n - 1) (2 ^ r) = (2 ^ n - 1) ^^^ 2 ^ r := by
  have hp : 0 < 2 ^ n := Nat.pow_pos (by decide)
  apply set_ext (n := n)
  · exact Nat.lt_of_le_of_lt (sdf_le _ _) (by omega)
  · exact xor_lt (by omega) hr
  · intro i hi
    rw [sdf1_t (by omega), tb_flip, low_t, decide_eq_true hi]
    simp
theorem el_all {k : Nat} (hk : k < n) : el (2 ^ n - 1) k n = k := by
  have h := el_un (S := 2 ^ n - 1) (c := k) (n := n) hk (by rw [low_t]; simp; omega)
  rw [cnt_all n k (by omega)] at h
  exact h
theorem cnt_all1 {r : Nat} (hn : n ≤ 8) (hr : r < n) : cnt (sdf (2 ^ n - 1) (2 ^ r)) n = n - 1 := by
  rw [sdf_all hn hr]
  have h := cnt_flip (S := 2 ^ n - 1) (c := r) (by rw [low_t]; simp; omega) n
  rw [if_pos hr, cnt_all n n (Nat.le_refl n)] at h
  omega
theorem el_all1 {r k : Nat} (hn : n ≤ 8) (hr : r < n) (hk : k + 1 < n) : el (sdf (2 ^ n - 1) (2 ^ r)) k n = rmc r k := by
  rw [sdf_all hn hr]
  have h := el_flip (S := 2 ^ n - 1) (n := n) (p := r) (j := k) (by rw [cnt_all n n (Nat.le_refl n)]; exact hr) (by rw [cnt_all n n (Nat.le_refl n)]; exact hk)
  rw [el_all hr] at h
  rw [h]
  exact el_all (by unfold rmc; split <;> omega)
/-- the shares of a whole chain, one step on -/
theorem cW_st (hg : gch n q c) (h1 : ct (lsB (cL c n) n) n = 1) {i : Nat} (hi : i < n) : sN (fun r => cW n q c r * c r i) n = cW n q c i * q := by
  have hn := hg.2.1
  have hone : oneC c n := wh_one h1
  have hS : cS c n = 2 ^ n - 1 := wh_set h1
  let A : Nat → Nat → Int := fun r k => ((if r = k then q else 0 : Nat) : Int) - ((c r k : Nat) : Int)
  have h0 : ∀ r, r < n → sI (A r) n = 0 := fun r hr => by
    have e : sI (A r) n = sI (fun k => ((if r = k then q else 0 : Nat) : Int)) n - sI (fun k => ((c r k : Nat) : Int)) n := sI_sub _ _ _
    have e2 : ∀ m, sI (fun k => ((c r k : Nat) : Int)) m = ((sN (c r) m : Nat) : Int) := fun m => by
      induction m with
      | zero => rfl
      | succ m ih => rw [sI_succ, sN_succ, ih]; omega
    rw [e, sI_one hr (fun k _ hk => by rw [if_neg (fun z => hk z.symm)]; rfl), if_pos rfl, e2, hg.2.2.2.2.1 r hr]
    omega
  have hW : ∀ r, r < n → ((cW n q c r : Nat) : Int) = det (n - 1) (fun a b => A (rmc r a) (rmc r b)) := fun r hr => by
    rw [(cW_1 hg hone hr (by rw [hS, low_t]; simp; omega)).1]
    unfold cD
    rw [hS, cnt_all1 hn hr]
    apply det_congr
    intro a b ha hb
    unfold mtx
    rw [el_all1 hn hr (by omega), el_all1 hn hr (by omega)]
  have hs := stat h0 hi
  have e1 : sI (fun r => A r i * det (n - 1) (fun a b => A (rmc r a) (rmc r b))) n = sI (fun r => ((if r = i then cW n q c i * q else 0 : Nat) : Int) - ((cW n q c r * c r i : Nat) : Int)) n := sI_congr (fun r hr => by
    rw [← hW r hr]
    show (((if r = i then q else 0 : Nat) : Int) - ((c r i : Nat) : Int)) * _ = _
    by_cases hri : r = i
    · subst hri
      rw [if_pos rfl, if_pos rfl, Int.natCast_mul, Int.natCast_mul]
      grind
    · rw [if_neg hri, if_neg hri, Int.natCast_mul]
      grind)
  have e3 : ∀ m, sI (fun k => ((cW n q c k * c k i : Nat) : Int)) m = ((sN (fun r => cW n q c r * c r i) m : Nat) : Int) := fun m => by
    induction m with
    | zero => rfl
    | succ m ih => rw [sI_succ, sN_succ, ih]; omega
  rw [e1, sI_sub, sI_one (f := fun r => ((if r = i then cW n q c i * q else 0 : Nat) : Int)) hi (fun k _ hk => by rw [if_neg hk]; rfl), if_pos rfl, e3] at hs
  omega
theorem cW_wp (hg : gch n q c) (h1 : ct (lsB (cL c n) n) n = 1) {i : Nat} (hi : i < n) : 0 < cW n q c i := (cW_1 hg (wh_one h1) hi (by rw [show cS c n = 2 ^ n - 1 from wh_set h1, low_t]; simp; omega)).2
end
