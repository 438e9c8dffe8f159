/-! a chain of the class, as its methods read it -/
def bI (b : Bool) : Int32 := if b then 1 else 0
theorem zI0 : (0 : Int32) = nI 0 := rfl
theorem zI1 : (1 : Int32) = nI 1 := rfl
theorem zI8 : (8 : Int32) = nI 8 := rfl
theorem iLeP {α : Type} {a b : Nat} {x y : α} (h : a ≤ b) (hb : b < 2 ^ 31) : (if nI a ≤ nI b then x else y) = x := if_pos (nI_le h hb)
theorem iLeN {α : Type} {a b : Nat} {x y : α} (h : b < a) (hb : a < 2 ^ 31) : (if nI a ≤ nI b then x else y) = y := if_neg (nI_ge h hb)
theorem iLtP {α : Type} {a b : Nat} {x y : α} (h : a < b) (hb : b < 2 ^ 31) : (if nI a < nI b then x else y) = x := if_pos (nI_lt h hb)
theorem iLtN {α : Type} {a b : Nat} {x y : α} (h : b ≤ a) (hb : a < 2 ^ 31) : (if nI a < nI b then x else y) = y := if_neg (nI_nlt h hb)
theorem iEqP {α : Type} {a b : Nat} {x y : α} (h : a = b) : (if nI a = nI b then x else y) = x := if_pos (by rw [h])
theorem iEqN {α : Type} {a b : Nat} {x y : α} (h : a ≠ b) (ha : a < 2 ^ 31) (hb : b < 2 ^ 31) : (if nI a = nI b then x else y) = y := if_neg (fun e => h ((nI_eq ha hb).mp e))
theorem bI_z (b : Bool) : (bI b = nI 0) = (b = false) := by cases b <;> decide
theorem if_true_eq {α : Type} {x y : α} : (if true = false then x else y) = y := if_neg (by decide)
theorem if_false_eq {α : Type} {x y : α} : (if false = false then x else y) = x := if_pos rfl
/-- the object a with its cells cl: n states, the chances c -/
def chC (G : Gg) (M : Mm) (a cl n : Nat) (c : Nat → Nat → Nat) : Prop := isK G a 0 ∧ M.2.2 a 2 = some cl ∧ isK G cl 10 ∧ G.2.2 cl = 64 ∧ M.1 a 0 = nI n ∧ n ≤ 8 ∧ (∀ i j, i < n → j < n → M.1 cl (i * 8 + j) = nI (c i j)) ∧ ∀ i j, c i j < 2 ^ 10
theorem isState_eq {G : Gg} {M : Mm} {a n i : Nat} (h1 : isK G a 0) (h2 : M.1 a 0 = nI n) (hn : n ≤ 8) (hi : i < 2 ^ 31) : f_X0_isState G M a (nI i) = some (bI (decide (i < n))) := by
  unfold f_X0_isState
  by_cases h : i < n
  · simp (disch := first | assumption | omega | (refine inb_n ?_ ?_ <;> omega) | fail) only [ck_t, Option.bind_some, iLeP, iLeN, iLtP, iLtN, iEqP, iEqN, nI_1, pk_mul, nI_add, cl_n, zI0, zI1, zI8, bI_z, if_true_eq, if_false_eq, if_true, if_false, h2]
    rw [decide_eq_true h]
    rfl
  · simp (disch := first | assumption | omega | (refine inb_n ?_ ?_ <;> omega) | fail) only [ck_t, Option.bind_some, iLeP, iLeN, iLtP, iLtN, iEqP, iEqN, nI_1, pk_mul, nI_add, cl_n, zI0, zI1, zI8, bI_z, if_true_eq, if_false_eq, if_true, if_false, h2]
    rw [decide_eq_false h]
    rfl
theorem at_eq {G : Gg} {M : Mm} {a cl n i j : Nat} {c : Nat → Nat → Nat} (h : chC G M a cl n c) (hi : i < n) (hj : j < n) : f_X0_at G M a (nI i) (nI j) = some (nI (c i j)) := by
  obtain ⟨h1, h2, h3, h4, h5, h6, h7, h8⟩ := h
  have e1 := isState_eq h1 h5 h6 (show i < 2 ^ 31 by omega)
  have e2 := isState_eq h1 h5 h6 (show j < 2 ^ 31 by omega)
  rw [decide_eq_true hi] at e1
  rw [decide_eq_true hj] at e2
  unfold f_X0_at
  simp (disch := first | assumption | omega | (refine inb_n ?_ ?_ <;> omega) | fail) only [ck_t, Option.bind_some, iLeP, iLeN, iLtP, iLtN, iEqP, iEqN, nI_1, pk_mul, nI_add, cl_n, zI0, zI1, zI8, bI_z, if_true_eq, if_false_eq, if_true, if_false, e1, e2, h2, h4, h7]
def sB (S : Nat) (f : Nat → Nat) : Nat → Nat
  | 0 => 0
  | n + 1 => sB S f n + (if S.testBit n then f n else 0)
theorem sB_s (S : Nat) (f : Nat → Nat) (n : Nat) : sB S f (n + 1) = sB S f n + (if S.testBit n then f n else 0) := rfl
theorem sB_le (S : Nat) {f : Nat → Nat} {b : Nat} (h : ∀ i, f i ≤ b) : ∀ n, sB S f n ≤ n * b
  | 0 => by rw [Nat.zero_mul]; exact Nat.le_refl _
  | n + 1 => by
    have := sB_le S h n
    have := h n
    rw [sB_s, Nat.succ_mul]
    split <;> omega
theorem into_loop {G : Gg} {M : Mm} {a cl n i S : Nat} {c : Nat → Nat → Nat} (h : chC G M a cl n c) (hi : i < n) (hS : S < 2 ^ 31) : ∀ (m j f : Nat), j + m = n → m < f → lp_X0_into_12 G M a (nI i) (nI S) (bI true) f (nI (sB S (c i) j)) (nI j) = some (nI (sB S (c i) n))
  | 0, j, f, hj, hf => by
    obtain ⟨q, rfl⟩ : ∃ q, f = q + 1 := ⟨f - 1, by omega⟩
    obtain ⟨h1, h2, h3, h4, h5, h6, h7, h8⟩ := id h
    have : j = n := by omega
    subst this
    rw [lp_X0_into_12, bd_X0_into_12]
    simp (disch := first | assumption | omega | (refine inb_n ?_ ?_ <;> omega) | fail) only [ck_t, Option.bind_some, iLeP, iLeN, iLtP, iLtN, iEqP, iEqN, nI_1, pk_mul, nI_add, cl_n, zI0, zI1, zI8, bI_z, if_true_eq, if_false_eq, if_true, if_false, h5]
  | m + 1, j, f, hj, hf => by
    obtain ⟨q, rfl⟩ : ∃ q, f = q + 1 := ⟨f - 1, by omega⟩
    obtain ⟨h1, h2, h3, h4, h5, h6, h7, h8⟩ := id h
    have ih := into_loop h hi hS m (j + 1) q (by omega) (by omega)
    rw [sB_s] at ih
    have eh := has_s hS (show j < 32 by omega)
    rw [lp_X0_into_12, bd_X0_into_12]
    by_cases hb : S.testBit j = true
    · rw [if_pos hb] at ih eh
      simp (disch := first | assumption | omega | (refine inb_n ?_ ?_ <;> omega) | fail) only [ck_t, Option.bind_some, iLeP, iLeN, iLtP, iLtN, iEqP, iEqN, nI_1, pk_mul, nI_add, cl_n, zI0, zI1, zI8, bI_z, if_true_eq, if_false_eq, if_true, if_false, h5, h2, h4, h7, eh, ih]
    · rw [if_neg hb] at ih eh
      simp (disch := first | assumption | omega | (refine inb_n ?_ ?_ <;> omega) | fail) only [ck_t, Option.bind_some, iLeP, iLeN, iLtP, iLtN, iEqP, iEqN, nI_1, pk_mul, nI_add, cl_n, zI0, zI1, zI8, bI_z, if_true_eq, if_false_eq, if_true, if_false, h5, h2, h4, h7, eh]
      exact ih
theorem into_eq {G : Gg} {M : Mm} {a cl n i S : Nat} {c : Nat → Nat → Nat} (h : chC G M a cl n c) (hi : i < n) (hS : S < 2 ^ 31) : f_X0_into G M a (nI i) (nI S) = some (nI (sB S (c i) n)) := by
  obtain ⟨h1, h2, h3, h4, h5, h6, h7, h8⟩ := id h
  have e1 := isState_eq h1 h5 h6 (show i < 2 ^ 31 by omega)
  rw [decide_eq_true hi] at e1
  have e2 := into_loop h hi hS n 0 FU (by omega) (by rw [FU_big]; omega)
  unfold f_X0_into
  simp (disch := first | assumption | omega | (refine inb_n ?_ ?_ <;> omega) | fail) only [ck_t, Option.bind_some, iLeP, iLeN, iLtP, iLtN, iEqP, iEqN, nI_1, pk_mul, nI_add, cl_n, zI0, zI1, zI8, bI_z, if_true_eq, if_false_eq, if_true, if_false, e1]
  exact congrArg (Option.bind · _) e2
