/-! the start: the fresh objects, made in their order -/
abbrev Op := (Nat × Nat × Nat) ⊕ (Nat × Nat × Nat) ⊕ (Nat × Nat × Int32) ⊕ (Nat × Nat × Int64)
def run_ (B : Nat → Nat) : List Op → Gg × Mm
  | [] => (G00, M00)
  | .inl (q, k, n) :: l => (gN (run_ B l).1 (B q) k n, mz (run_ B l).2 (B q))
  | .inr (.inl (a, k, x)) :: l => ((run_ B l).1, mwP (run_ B l).2 (B a) k (some (B x)))
  | .inr (.inr (.inl (a, k, v))) :: l => ((run_ B l).1, mwI (run_ B l).2 (B a) k v)
  | .inr (.inr (.inr (a, k, v))) :: l => ((run_ B l).1, mwJ (run_ B l).2 (B a) k v)
def aP : List Op → Nat → Nat → Option Nat
  | [], _, _ => none
  | .inl (q, _, _) :: l, i, j => if i = q then none else aP l i j
  | .inr (.inl (a, k, x)) :: l, i, j => if i = a ∧ j = k then some x else aP l i j
  | .inr (.inr (.inl (_, _, _))) :: l, i, j => aP l i j
  | .inr (.inr (.inr (_, _, _))) :: l, i, j => aP l i j
def aI : List Op → Nat → Nat → Int32
  | [], _, _ => 0
  | .inl (q, _, _) :: l, i, j => if i = q then 0 else aI l i j
  | .inr (.inl (_, _, _)) :: l, i, j => aI l i j
  | .inr (.inr (.inl (a, k, v))) :: l, i, j => if i = a ∧ j = k then v else aI l i j
  | .inr (.inr (.inr (_, _, _))) :: l, i, j => aI l i j
def aJ : List Op → Nat → Nat → Int64
  | [], _, _ => 0
  | .inl (q, _, _) :: l, i, j => if i = q then 0 else aJ l i j
  | .inr (.inl (_, _, _)) :: l, i, j => aJ l i j
  | .inr (.inr (.inl (_, _, _))) :: l, i, j => aJ l i j
  | .inr (.inr (.inr (a, k, v))) :: l, i, j => if i = a ∧ j = k then v else aJ l i j
def aK : List Op → Nat → Option (Nat × Nat)
  | [], _ => none
  | .inl (q, k, n) :: l, i => if i = q then some (k, n) else aK l i
  | .inr (.inl (_, _, _)) :: l, i => aK l i
  | .inr (.inr (.inl (_, _, _))) :: l, i => aK l i
  | .inr (.inr (.inr (_, _, _))) :: l, i => aK l i
def okO (N : Nat) : List Op → Bool
  | [] => true
  | .inl (q, _, _) :: l => decide (q < N) && okO N l
  | .inr (.inl (a, _, x)) :: l => decide (a < N) && (decide (x < N) && okO N l)
  | .inr (.inr (.inl (a, _, _))) :: l => decide (a < N) && okO N l
  | .inr (.inr (.inr (a, _, _))) :: l => decide (a < N) && okO N l
section
variable {B : Nat → Nat} {N : Nat}
theorem mz_P {M : Mm} {q b j : Nat} : (mz M q).2.2 b j = if b = q then none else M.2.2 b j := by
  by_cases h : b = q
  · rw [if_pos h, h]
    show va_up M.2.2 q _ q j = _
    rw [va_up_self]
  · rw [if_neg h]
    show va_up M.2.2 q _ b j = _
    rw [va_up_ne _ _ h]
theorem mz_I {M : Mm} {q b j : Nat} : (mz M q).1 b j = if b = q then 0 else M.1 b j := by
  by_cases h : b = q
  · rw [if_pos h, h]
    show va_up M.1 q _ q j = _
    rw [va_up_self]
  · rw [if_neg h]
    show va_up M.1 q _ b j = _
    rw [va_up_ne _ _ h]
theorem mz_J {M : Mm} {q b j : Nat} : (mz M q).2.1 b j = if b = q then 0 else M.2.1 b j := by
  by_cases h : b = q
  · rw [if_pos h, h]
    show va_up M.2.1 q _ q j = _
    rw [va_up_self]
  · rw [if_neg h]
    show va_up M.2.1 q _ b j = _
    rw [va_up_ne _ _ h]
theorem run_P (hB : ∀ i j, i < N → j < N → B i = B j → i = j) : ∀ (l : List Op), okO N l = true → ∀ i j, i < N → (run_ B l).2.2.2 (B i) j = (aP l i j).map B
  | [], _, i, j, _ => rfl
  | .inl (q, k, n) :: l, h, i, j, hi => by
    have h := (Bool.and_eq_true _ _).mp h
    have hq := of_decide_eq_true h.1
    show (mz (run_ B l).2 (B q)).2.2 (B i) j = _
    rw [mz_P]
    show _ = (if i = q then none else aP l i j).map B
    by_cases e : i = q
    · rw [if_pos e, if_pos (by rw [e])]; rfl
    · rw [if_neg e, if_neg (fun z => e (hB i q hi hq z))]
      exact run_P hB l h.2 i j hi
  | .inr (.inl (a, k, x)) :: l, h, i, j, hi => by
    have h := (Bool.and_eq_true _ _).mp h
    have ha := of_decide_eq_true h.1
    have h2 := (Bool.and_eq_true _ _).mp h.2
    show (mwP (run_ B l).2 (B a) k (some (B x))).2.2 (B i) j = _
    rw [mwP_g]
    show _ = (if i = a ∧ j = k then some x else aP l i j).map B
    by_cases e : i = a ∧ j = k
    · rw [if_pos e, if_pos (by rw [e.1]; exact ⟨rfl, e.2⟩)]; rfl
    · rw [if_neg e, if_neg (fun z => e ⟨hB i a hi ha z.1, z.2⟩)]
      exact run_P hB l h2.2 i j hi
  | .inr (.inr (.inl (a, k, v))) :: l, h, i, j, hi => run_P hB l ((Bool.and_eq_true _ _).mp h).2 i j hi
  | .inr (.inr (.inr (a, k, v))) :: l, h, i, j, hi => run_P hB l ((Bool.and_eq_true _ _).mp h).2 i j hi
theorem run_I (hB : ∀ i j, i < N → j < N → B i = B j → i = j) : ∀ (l : List Op), okO N l = true → ∀ i j, i < N → (run_ B l).2.1 (B i) j = aI l i j
  | [], _, i, j, _ => rfl
  | .inl (q, k, n) :: l, h, i, j, hi => by
    have h := (Bool.and_eq_true _ _).mp h
    have hq := of_decide_eq_true h.1
    show (mz (run_ B l).2 (B q)).1 (B i) j = _
    rw [mz_I]
    show _ = (if i = q then 0 else aI l i j)
    by_cases e : i = q
    · rw [if_pos e, if_pos (by rw [e])]
    · rw [if_neg e, if_neg (fun z => e (hB i q hi hq z))]
      exact run_I hB l h.2 i j hi
  | .inr (.inr (.inl (a, k, v))) :: l, h, i, j, hi => by
    have h := (Bool.and_eq_true _ _).mp h
    have ha := of_decide_eq_true h.1
    show (mwI (run_ B l).2 (B a) k v).1 (B i) j = _
    rw [mwI_g]
    show _ = (if i = a ∧ j = k then v else aI l i j)
    by_cases e : i = a ∧ j = k
    · rw [if_pos e, if_pos (by rw [e.1]; exact ⟨rfl, e.2⟩)]
    · rw [if_neg e, if_neg (fun z => e ⟨hB i a hi ha z.1, z.2⟩)]
      exact run_I hB l h.2 i j hi
  | .inr (.inl (a, k, x)) :: l, h, i, j, hi => run_I hB l ((Bool.and_eq_true _ _).mp ((Bool.and_eq_true _ _).mp h).2).2 i j hi
  | .inr (.inr (.inr (a, k, v))) :: l, h, i, j, hi => run_I hB l ((Bool.and_eq_true _ _).mp h).2 i j hi
theorem run_J (hB : ∀ i j, i < N → j < N → B i = B j → i = j) : ∀ (l : List Op), okO N l = true → ∀ i j, i < N → (run_ B l).2.2.1 (B i) j = aJ l i j
  | [], _, i, j, _ => rfl
  | .inl (q, k, n) :: l, h, i, j, hi => by
    have h := (Bool.and_eq_true _ _).mp h
    have hq := of_decide_eq_true h.1
    show (mz (run_ B l).2 (B q)).2.1 (B i) j = _
    rw [mz_J]
    show _ = (if i = q then 0 else aJ l i j)
    by_cases e : i = q
    · rw [if_pos e, if_pos (by rw [e])]
    · rw [if_neg e, if_neg (fun z => e (hB i q hi hq z))]
      exact run_J hB l h.2 i j hi
  | .inr (.inr (.inr (a, k, v))) :: l, h, i, j, hi => by
    have h := (Bool.and_eq_true _ _).mp h
    have ha := of_decide_eq_true h.1
    show (mwJ (run_ B l).2 (B a) k v).2.1 (B i) j = _
    rw [mwJ_g]
    show _ = (if i = a ∧ j = k then v else aJ l i j)
    by_cases e : i = a ∧ j = k
    · rw [if_pos e, if_pos (by rw [e.1]; exact ⟨rfl, e.2⟩)]
    · rw [if_neg e, if_neg (fun z => e ⟨hB i a hi ha z.1, z.2⟩)]
      exact run_J hB l h.2 i j hi
  | .inr (.inl (a, k, x)) :: l, h, i, j, hi => run_J hB l ((Bool.and_eq_true _ _).mp ((Bool.and_eq_true _ _).mp h).2).2 i j hi
  | .inr (.inr (.inl (a, k, v))) :: l, h, i, j, hi => run_J hB l ((Bool.and_eq_true _ _).mp h).2 i j hi
theorem run_K (hB : ∀ i j, i < N → j < N → B i = B j → i = j) : ∀ (l : List Op), okO N l = true → ∀ i, i < N → ∀ k n, aK l i = some (k, n) → isK (run_ B l).1 (B i) k ∧ (run_ B l).1.2.2 (B i) = n
  | [], _, i, _, k, n, e => by cases e
  | .inl (q, k, n) :: l, h, i, hi, k', n', e => by
    have h := (Bool.and_eq_true _ _).mp h
    have hq := of_decide_eq_true h.1
    have e' : (if i = q then some (k, n) else aK l i) = some (k', n') := e
    show isK (gN (run_ B l).1 (B q) k n) (B i) k' ∧ (gN (run_ B l).1 (B q) k n).2.2 (B i) = n'
    by_cases c : i = q
    · rw [if_pos c] at e'
      cases e'
      subst c
      exact ⟨isK_N, va_up_self _ _ _⟩
    · rw [if_neg c] at e'
      obtain ⟨h1, h2⟩ := run_K hB l h.2 i hi k' n' e'
      have hne : B i ≠ B q := fun z => c (hB i q hi hq z)
      exact ⟨⟨List.mem_append_left _ h1.1, (va_up_ne _ _ hne).trans h1.2⟩, (va_up_ne _ _ hne).trans h2⟩
  | .inr (.inl (a, k, x)) :: l, h, i, hi, k', n', e => run_K hB l ((Bool.and_eq_true _ _).mp ((Bool.and_eq_true _ _).mp h).2).2 i hi k' n' e
  | .inr (.inr (.inl (a, k, v))) :: l, h, i, hi, k', n', e => run_K hB l ((Bool.and_eq_true _ _).mp h).2 i hi k' n' e
  | .inr (.inr (.inr (a, k, v))) :: l, h, i, hi, k', n', e => run_K hB l ((Bool.and_eq_true _ _).mp h).2 i hi k' n' e
end
/-- how both are made, the last first -/
def ops_ : List Op := [.inl (70, 11, 1), .inr (.inl (53, 19, 69)), .inl (69, 11, 64), .inr (.inl (53, 18, 68)), .inl (68, 11, 64), .inr (.inl (53, 16, 67)), .inl (67, 10, 8), .inr (.inl (53, 15, 66)), .inl (66, 10, 8), .inr (.inl (53, 14, 65)), .inl (65, 10, 8), .inr (.inl (53, 13, 64)), .inl (64, 10, 8), .inr (.inl (53, 12, 63)), .inl (63, 11, 8), .inr (.inl (53, 11, 62)), .inl (62, 11, 64), .inr (.inl (53, 10, 61)), .inl (61, 11, 8), .inr (.inl (53, 9, 60)), .inl (60, 11, 64), .inr (.inl (53, 7, 59)), .inl (59, 10, 8), .inr (.inl (53, 6, 58)), .inl (58, 10, 8), .inr (.inl (53, 5, 57)), .inl (57, 10, 448), .inr (.inl (53, 4, 56)), .inl (56, 10, 7), .inr (.inl (53, 3, 55)), .inl (55, 10, 7), .inr (.inl (53, 1, 54)), .inl (54, 10, 80), .inl (53, 9, 0), .inr (.inl (0, 9, 52)), .inr (.inr (.inr (52, 1, 1))), .inr (.inr (.inr (52, 0, 0))), .inl (52, 1, 0), .inr (.inl (0, 8, 51)), .inr (.inr (.inr (51, 2, 1))), .inr (.inr (.inr (51, 1, 0))), .inr (.inr (.inl (51, 0, 0))), .inl (51, 4, 0), .inr (.inl (0, 7, 46)), .inr (.inl (46, 1, 50)), .inl (50, 11, 8), .inr (.inl (46, 0, 47)), .inr (.inr (.inl (47, 2, 0))), .inr (.inl (47, 1, 49)), .inl (49, 11, 256), .inr (.inl (47, 0, 48)), .inl (48, 11, 64), .inl (47, 3, 0), .inl (46, 2, 0), .inr (.inl (0, 6, 43)), .inr (.inr (.inr (43, 2, 1))), .inr (.inl (43, 1, 45)), .inl (45, 11, 8), .inr (.inl (43, 0, 44)), .inl (44, 11, 64), .inl (43, 7, 0), .inr (.inl (0, 5, 40)), .inr (.inr (.inl (40, 3, 0))), .inr (.inr (.inl (40, 2, 0))), .inr (.inl (40, 1, 42)), .inl (42, 10, 8), .inr (.inl (40, 0, 41)), .inl (41, 10, 8), .inl (40, 5, 0), .inr (.inl (0, 4, 35)), .inr (.inr (.inr (35, 6, 0))), .inr (.inl (35, 5, 39)), .inl (39, 11, 8), .inr (.inl (35, 4, 38)), .inl (38, 10, 8), .inr (.inl (35, 3, 37)), .inl (37, 10, 8), .inr (.inl (35, 2, 36)), .inl (36, 10, 64), .inr (.inr (.inl (35, 1, 1))), .inr (.inr (.inl (35, 0, 0))), .inl (35, 0, 0), .inr (.inl (4, 5, 30)), .inr (.inr (.inr (30, 6, 0))), .inr (.inl (30, 5, 34)), .inl (34, 11, 8), .inr (.inl (30, 4, 33)), .inl (33, 10, 8), .inr (.inl (30, 3, 32)), .inl (32, 10, 8), .inr (.inl (30, 2, 31)), .inl (31, 10, 64), .inr (.inr (.inl (30, 1, 1))), .inr (.inr (.inl (30, 0, 0))), .inl (30, 0, 0), .inr (.inl (4, 4, 25)), .inr (.inr (.inr (25, 6, 0))), .inr (.inl (25, 5, 29)), .inl (29, 11, 8), .inr (.inl (25, 4, 28)), .inl (28, 10, 8), .inr (.inl (25, 3, 27)), .inl (27, 10, 8), .inr (.inl (25, 2, 26)), .inl (26, 10, 64), .inr (.inr (.inl (25, 1, 1))), .inr (.inr (.inl (25, 0, 0))), .inl (25, 0, 0), .inr (.inl (4, 3, 20)), .inr (.inr (.inr (20, 6, 0))), .inr (.inl (20, 5, 24)), .inl (24, 11, 8), .inr (.inl (20, 4, 23)), .inl (23, 10, 8), .inr (.inl (20, 3, 22)), .inl (22, 10, 8), .inr (.inl (20, 2, 21)), .inl (21, 10, 64), .inr (.inr (.inl (20, 1, 1))), .inr (.inr (.inl (20, 0, 0))), .inl (20, 0, 0), .inr (.inl (4, 2, 15)), .inr (.inr (.inr (15, 6, 0))), .inr (.inl (15, 5, 19)), .inl (19, 11, 8), .inr (.inl (15, 4, 18)), .inl (18, 10, 8), .inr (.inl (15, 3, 17)), .inl (17, 10, 8), .inr (.inl (15, 2, 16)), .inl (16, 10, 64), .inr (.inr (.inl (15, 1, 1))), .inr (.inr (.inl (15, 0, 0))), .inl (15, 0, 0), .inr (.inl (4, 1, 10)), .inr (.inr (.inr (10, 6, 0))), .inr (.inl (10, 5, 14)), .inl (14, 11, 8), .inr (.inl (10, 4, 13)), .inl (13, 10, 8), .inr (.inl (10, 3, 12)), .inl (12, 10, 8), .inr (.inl (10, 2, 11)), .inl (11, 10, 64), .inr (.inr (.inl (10, 1, 1))), .inr (.inr (.inl (10, 0, 0))), .inl (10, 0, 0), .inr (.inl (4, 0, 5)), .inr (.inr (.inr (5, 6, 0))), .inr (.inl (5, 5, 9)), .inl (9, 11, 8), .inr (.inl (5, 4, 8)), .inl (8, 10, 8), .inr (.inl (5, 3, 7)), .inl (7, 10, 8), .inr (.inl (5, 2, 6)), .inl (6, 10, 64), .inr (.inr (.inl (5, 1, 1))), .inr (.inr (.inl (5, 0, 0))), .inl (5, 0, 0), .inr (.inl (0, 3, 4)), .inl (4, 12, 6), .inr (.inr (.inl (0, 2, 0))), .inr (.inl (0, 1, 3)), .inl (3, 10, 8), .inr (.inl (0, 0, 1)), .inr (.inr (.inl (1, 1, 0))), .inr (.inl (1, 0, 2)), .inl (2, 10, 80), .inl (1, 6, 0), .inl (0, 8, 0)]
def sA_ (i : Nat) : Nat := if i < 5 then i else if i < 18 then i + 35 else i - 13
theorem ops_ok : okO 71 ops_ = true := by decide +kernel
theorem ops_kA : ∀ i, i < 53 → aK ops_ (sA_ i) = some (kd i, if 10 ≤ kd i then ln i else 0) := by decide +kernel
theorem ops_kR : ∀ i, i < 17 → aK ops_ (53 + i) = some (kr i, lr i) := by decide +kernel
theorem ops_k2 : aK ops_ 70 = some (11, 1) := by decide +kernel
def ptA : List (Nat × Nat × Nat) := [(0, 0, 1), (0, 1, 3), (0, 3, 4), (0, 4, 48), (0, 5, 5), (0, 6, 8), (0, 7, 11), (0, 8, 16), (0, 9, 17), (1, 0, 2), (5, 0, 6), (5, 1, 7), (8, 0, 9), (8, 1, 10), (11, 0, 12), (11, 1, 15), (12, 0, 13), (12, 1, 14)]
theorem ops_pA : ∀ t ∈ ptA, aP ops_ (sA_ t.1) t.2.1 = some (sA_ t.2.2) := by decide +kernel
theorem ops_pC : ∀ k, k < 7 → ∀ r, r < 4 → aP ops_ (sA_ (18 + 5 * k)) (2 + r) = some (sA_ (19 + 5 * k + r)) := by decide +kernel
theorem ops_pS : ∀ s, s < 6 → aP ops_ (sA_ 4) s = some (sA_ (18 + 5 * s)) := by decide +kernel
def ptR_ : List (Nat × Nat) := [(1, 1), (3, 2), (4, 3), (5, 4), (6, 5), (7, 6), (9, 7), (10, 8), (11, 9), (12, 10), (13, 11), (14, 12), (15, 13), (16, 14), (18, 15), (19, 16)]
theorem ops_pR : ∀ t ∈ ptR_, aP ops_ 53 t.1 = some (53 + t.2) := by decide +kernel
theorem ops_i : aI ops_ (sA_ 1) 1 = 0 ∧ aI ops_ (sA_ 0) 2 = 0 ∧ aI ops_ 53 2 = 0 ∧ aI ops_ 53 17 = 0 := by decide +kernel
theorem ops_iS : ∀ s, s < 6 → aI ops_ (sA_ (18 + 5 * s)) 0 = 0 ∧ aI ops_ 55 s = 0 := by decide +kernel
theorem ops_j : ∀ k, k < 7 → ∀ i, i < 8 → aJ ops_ (sA_ (22 + 5 * k)) i = 0 := by decide +kernel
theorem sA_lt : ∀ i, i < 53 → sA_ i < 53 := by decide +kernel
theorem sA_inj : ∀ i j, i < 53 → j < 53 → sA_ i = sA_ j → i = j := fun i j hi hj e => by
  unfold sA_ at e
  split at e <;> split at e <;> (try split at e) <;> (try split at e) <;> omega
section
variable {B : Nat → Nat}
theorem fresh_d (hB : ∀ i j, i < 71 → j < 71 → B i = B j → i = j) : dj (run_ B ops_).1 (fun i => B (sA_ i)) (fun j => B (53 + j)) (B 70) := by
  refine ⟨fun i j hi hj e => ?_, fun i hi e => ?_, fun j hj e => ?_, (run_K hB ops_ ops_ok 70 (by decide) _ _ ops_k2).1, (run_K hB ops_ ops_ok 70 (by decide) _ _ ops_k2).2⟩
  · have h1 := sA_lt i hi
    have := hB _ _ (by omega) (by omega) e
    omega
  · have h1 := sA_lt i hi
    have := hB _ _ (by omega) (by omega) e
    omega
  · have := hB _ _ (by omega) (by omega) e
    omega
theorem fresh_k (hB : ∀ i j, i < 71 → j < 71 → B i = B j → i = j) : kCI (run_ B ops_).1 (run_ B ops_).2 (fun i => B (sA_ i)) id 0 (fun _ => 0) 0 (fun _ => 0) (fun _ => 0) (fun _ => 0) (fun _ _ _ => 0) := by
  have hP : ∀ i j x, i < 53 → aP ops_ (sA_ i) j = some (sA_ x) → (run_ B ops_).2.2.2 (B (sA_ i)) j = some (B (sA_ x)) := fun i j x hi e => by
    have h1 := sA_lt i hi
    rw [run_P hB ops_ ops_ok _ _ (by omega), e]
    rfl
  have hT : ∀ t ∈ ptA, t.1 < 53 → (run_ B ops_).2.2.2 (B (sA_ t.1)) t.2.1 = some (B (sA_ t.2.2)) := fun t ht hi => hP _ _ _ hi (ops_pA t ht)
  have hI : ∀ i j, i < 53 → (run_ B ops_).2.1 (B (sA_ i)) j = aI ops_ (sA_ i) j := fun i j hi => by
    have h1 := sA_lt i hi
    exact run_I hB ops_ ops_ok _ _ (by omega)
  have hJ : ∀ i j, i < 53 → (run_ B ops_).2.2.1 (B (sA_ i)) j = aJ ops_ (sA_ i) j := fun i j hi => by
    have h1 := sA_lt i hi
    exact run_J hB ops_ ops_ok _ _ (by omega)
  refine ⟨⟨fun i j hi hj e => ?_, fun i hi => ?_, fun i hi h10 => ?_⟩, ⟨⟨hT (0, 0, 1) (by decide) (by decide), hT (0, 1, 3) (by decide) (by decide), hT (0, 3, 4) (by decide) (by decide), hT (0, 4, 48) (by decide) (by decide), hT (0, 5, 5) (by decide) (by decide), hT (0, 6, 8) (by decide) (by decide), hT (0, 7, 11) (by decide) (by decide), hT (0, 8, 16) (by decide) (by decide), hT (0, 9, 17) (by decide) (by decide)⟩, hT (1, 0, 2) (by decide) (by decide), ⟨hT (5, 0, 6) (by decide) (by decide), hT (5, 1, 7) (by decide) (by decide)⟩, ⟨hT (8, 0, 9) (by decide) (by decide), hT (8, 1, 10) (by decide) (by decide)⟩, ⟨hT (11, 0, 12) (by decide) (by decide), hT (11, 1, 15) (by decide) (by decide)⟩, ⟨hT (12, 0, 13) (by decide) (by decide), hT (12, 1, 14) (by decide) (by decide)⟩, fun k hk => ?_, fun s hs => ?_⟩, ⟨fun s hs => hs, fun s t _ _ e => e⟩, ⟨?_, by decide, fun k hk => absurd hk (Nat.not_lt_zero k), fun k => (by decide : (0 : Nat) < 256)⟩, ⟨?_, by decide, fun k hk => absurd hk (Nat.not_lt_zero k)⟩, fun k hk => ⟨fun _ => 0, fun i hi => ?_, fun _ => (by decide : (0 : Nat) < 2 ^ 49)⟩, fun s hs => Or.inl ⟨rfl, ?_⟩⟩
  · have h1 := sA_lt i hi
    have h2 := sA_lt j hj
    exact sA_inj i j hi hj (hB _ _ (by omega) (by omega) e)
  · have h1 := sA_lt i hi
    exact (run_K hB ops_ ops_ok _ (by omega) _ _ (ops_kA i hi)).1
  · have h1 := sA_lt i hi
    have h2 := (run_K hB ops_ ops_ok _ (by omega) _ _ (ops_kA i hi)).2
    rw [if_pos h10] at h2
    exact h2
  · exact ⟨hP _ _ _ (by omega) (ops_pC k hk 0 (by decide)), hP _ _ _ (by omega) (by have := ops_pC k hk 1 (by decide); rw [show 19 + 5 * k + 1 = 20 + 5 * k by omega] at this; exact this), hP _ _ _ (by omega) (by have := ops_pC k hk 2 (by decide); rw [show 19 + 5 * k + 2 = 21 + 5 * k by omega] at this; exact this), hP _ _ _ (by omega) (by have := ops_pC k hk 3 (by decide); rw [show 19 + 5 * k + 3 = 22 + 5 * k by omega] at this; exact this)⟩
  · exact hP _ _ _ (by decide) (ops_pS s hs)
  · exact (hI 1 1 (by decide)).trans ops_i.1
  · exact (hI 0 2 (by decide)).trans ops_i.2.1
  · exact (hJ _ i (by omega)).trans (ops_j k hk i hi)
  · exact (hI (18 + 5 * s) 0 (by omega)).trans (ops_iS s hs).1
theorem fresh_r (hB : ∀ i j, i < 71 → j < 71 → B i = B j → i = j) : rRI (run_ B ops_).1 (run_ B ops_).2 (fun j => B (53 + j)) 0 (fun _ => 0) 0 (fun _ => 0) (fun _ => 0) (fun _ => 0) (fun _ _ _ => 0) := by
  have hT : ∀ t ∈ ptR_, (run_ B ops_).2.2.2 (B 53) t.1 = some (B (53 + t.2)) := fun t ht => by
    rw [run_P hB ops_ ops_ok _ _ (by decide), ops_pR t ht]
    rfl
  refine ⟨⟨fun i j hi hj e => ?_, fun i hi => ?_, fun i hi h10 => ?_⟩, ⟨hT (1, 1) (by decide), hT (3, 2) (by decide), hT (4, 3) (by decide), hT (5, 4) (by decide), hT (6, 5) (by decide), hT (7, 6) (by decide), hT (9, 7) (by decide), hT (10, 8) (by decide), hT (11, 9) (by decide), hT (12, 10) (by decide), hT (13, 11) (by decide), hT (14, 12) (by decide), hT (15, 13) (by decide), hT (16, 14) (by decide), hT (18, 15) (by decide), hT (19, 16) (by decide)⟩, ⟨?_, by decide, fun k hk => absurd hk (Nat.not_lt_zero k), fun k => (by decide : (0 : Nat) < 256)⟩, ⟨?_, by decide, fun k hk => absurd hk (Nat.not_lt_zero k)⟩, fun s hs => ⟨?_, Or.inl rfl⟩⟩
  · have := hB _ _ (by omega) (by omega) e
    omega
  · exact (run_K hB ops_ ops_ok _ (by omega) _ _ (ops_kR i hi)).1
  · exact (run_K hB ops_ ops_ok _ (by omega) _ _ (ops_kR i hi)).2
  · exact (run_I hB ops_ ops_ok 53 2 (by decide)).trans ops_i.2.2.1
  · exact (run_I hB ops_ ops_ok 53 17 (by decide)).trans ops_i.2.2.2
  · exact (run_I hB ops_ ops_ok 55 s (by decide)).trans (ops_iS s hs).2
end
theorem nd {G : Gg} {q k n : Nat} (h : G.1.Nodup) (hq : q ∉ G.1) : (gN G q k n).1.Nodup := by
  show (G.1 ++ [q]).Nodup
  rw [List.nodup_append]
  exact ⟨h, by simp, fun a ha b hb e => hq (by simp at hb; rw [← hb, ← e]; exact ha)⟩
theorem nd_inj {l : List Nat} (h : l.Nodup) : ∀ i j, i < l.length → j < l.length → l.getD i 0 = l.getD j 0 → i = j := fun i j hi hj e => by
  rw [List.getD_eq_getElem?_getD, List.getD_eq_getElem?_getD, List.getElem?_eq_getElem hi, List.getElem?_eq_getElem hj] at e
  exact (List.getElem_inj h).mp e
