/-! the start, step by step: what is made out of what -/
def at7 (G : Gg) (i q : Nat) : Prop := G.1[i]? = some q
def mo7 (G G' : Gg) : Prop := ∀ i q, at7 G i q → at7 G' i q
def St7 (G : Gg) (M : Mm) (n : Nat) (l : List Op) : Prop := G.1.length = n ∧ G.1.Nodup ∧ ∀ B : Nat → Nat, (∀ i q, at7 G i q → B i = q) → run_ B l = (G, M)
theorem e0_ : Int32.toNatClampNeg (0 : Int32) = 0 := by decide
theorem e1_ : Int32.toNatClampNeg ((0 : Int32) + 1) = 1 := by decide
theorem e2_ : Int32.toNatClampNeg (((0 : Int32) + 1) + 1) = 2 := by decide
theorem e3_ : Int32.toNatClampNeg ((((0 : Int32) + 1) + 1) + 1) = 3 := by decide
theorem e4_ : Int32.toNatClampNeg (((((0 : Int32) + 1) + 1) + 1) + 1) = 4 := by decide
theorem e5_ : Int32.toNatClampNeg ((((((0 : Int32) + 1) + 1) + 1) + 1) + 1) = 5 := by decide
section
variable {G : Gg} {M : Mm} {u : Gg × Mm} {n i a x p y q q' k m : Nat} {l : List Op}
theorem aO7 (h : at7 G i q) : at7 (gN G q' k m) i q := by
  unfold at7 at h
  obtain ⟨hi, e⟩ := List.getElem?_eq_some_iff.mp h
  show (G.1 ++ [q'])[i]? = some q
  rw [List.getElem?_append_left hi]
  exact h
theorem aN7 (S : St7 G M n l) : at7 (gN G q k m) n q := by
  show (G.1 ++ [q])[n]? = some q
  rw [← S.1]
  simp
theorem sN7 (S : St7 G M n l) (hq : q ∉ G.1) : St7 (gN G q k m) (mz M q) (n + 1) (.inl (n, k, m) :: l) := by
  refine ⟨?_, nd S.2.1 hq, fun B hB => ?_⟩
  · show (G.1 ++ [q]).length = n + 1
    rw [List.length_append, S.1]
    rfl
  · have e := S.2.2 B (fun i q h => hB i q (aO7 h))
    have e2 : B n = q := hB n q (aN7 S)
    show (gN (run_ B l).1 (B n) k m, mz (run_ B l).2 (B n)) = _
    rw [e, e2]
theorem sP7 (S : St7 G M n l) (ha : at7 G a p) (hx : at7 G x y) : St7 G (mwP M p k (some y)) n (.inr (.inl (a, k, x)) :: l) := by
  refine ⟨S.1, S.2.1, fun B hB => ?_⟩
  have e := S.2.2 B hB
  have e1 : B a = p := hB a p ha
  have e2 : B x = y := hB x y hx
  show ((run_ B l).1, mwP (run_ B l).2 (B a) k (some (B x))) = _
  rw [e, e1, e2]
theorem sI7 {v : Int32} (S : St7 G M n l) (ha : at7 G a p) : St7 G (mwI M p k v) n (.inr (.inr (.inl (a, k, v))) :: l) := by
  refine ⟨S.1, S.2.1, fun B hB => ?_⟩
  have e := S.2.2 B hB
  have e1 : B a = p := hB a p ha
  show ((run_ B l).1, mwI (run_ B l).2 (B a) k v) = _
  rw [e, e1]
theorem sJ7 {v : Int64} (S : St7 G M n l) (ha : at7 G a p) : St7 G (mwJ M p k v) n (.inr (.inr (.inr (a, k, v))) :: l) := by
  refine ⟨S.1, S.2.1, fun B hB => ?_⟩
  have e := S.2.2 B hB
  have e1 : B a = p := hB a p ha
  show ((run_ B l).1, mwJ (run_ B l).2 (B a) k v) = _
  rw [e, e1]
def o6_ (n : Nat) (l : List Op) : List Op := .inr (.inr (.inl (n, 1, 0))) :: .inr (.inl (n, 0, n + 1)) :: .inl (n + 1, 10, 80) :: .inl (n, 6, 0) :: l
theorem s6_ (S : St7 G M n l) (hq : q ∉ G.1) (h : ri_X6 (gN G q 6 0) (mz M q) q u) : St7 u.1 u.2 (n + 2) (o6_ n l) ∧ mo7 G u.1 ∧ at7 u.1 n q := by
  unfold ri_X6 at h
  obtain ⟨q1, n1, rfl⟩ := h
  have t0 := sN7 (k := 6) (m := 0) S hq
  have a0 := aN7 (q := q) (k := 6) (m := 0) S
  have m0 : mo7 G _ := fun _ _ h => aO7 (q' := q) (k := 6) (m := 0) h
  have a1 := aO7 (q' := q1) (k := 10) (m := 80) a0
  have m1 : mo7 G _ := fun i p h => aO7 (q' := q1) (k := 10) (m := 80) (m0 i p h)
  have t1 := sP7 (k := 0) (sN7 (k := 10) (m := 80) t0 n1) a1 (aN7 t0)
  have t2 := sI7 (k := 1) (v := 0) t1 a1
  exact ⟨t2, m1, a1⟩
def o1_ (n : Nat) (l : List Op) : List Op := .inr (.inr (.inr (n, 1, 1))) :: .inr (.inr (.inr (n, 0, 0))) :: .inl (n, 1, 0) :: l
theorem s1_ (S : St7 G M n l) (hq : q ∉ G.1) (h : ri_X1 (gN G q 1 0) (mz M q) q u) : St7 u.1 u.2 (n + 1) (o1_ n l) ∧ mo7 G u.1 ∧ at7 u.1 n q := by
  unfold ri_X1 at h
  subst h
  have t0 := sN7 (k := 1) (m := 0) S hq
  have a0 := aN7 (q := q) (k := 1) (m := 0) S
  have m0 : mo7 G _ := fun _ _ h => aO7 (q' := q) (k := 1) (m := 0) h
  have t1 := sJ7 (k := 0) (v := 0) t0 a0
  have t2 := sJ7 (k := 1) (v := 1) t1 a0
  exact ⟨t2, m0, a0⟩
def o0_ (n : Nat) (l : List Op) : List Op := .inr (.inr (.inr (n, 6, 0))) :: .inr (.inl (n, 5, n + 4)) :: .inl (n + 4, 11, 8) :: .inr (.inl (n, 4, n + 3)) :: .inl (n + 3, 10, 8) :: .inr (.inl (n, 3, n + 2)) :: .inl (n + 2, 10, 8) :: .inr (.inl (n, 2, n + 1)) :: .inl (n + 1, 10, 64) :: .inr (.inr (.inl (n, 1, 1))) :: .inr (.inr (.inl (n, 0, 0))) :: .inl (n, 0, 0) :: l
theorem s0_ (S : St7 G M n l) (hq : q ∉ G.1) (h : ri_X0 (gN G q 0 0) (mz M q) q u) : St7 u.1 u.2 (n + 5) (o0_ n l) ∧ mo7 G u.1 ∧ at7 u.1 n q := by
  unfold ri_X0 at h
  obtain ⟨q1, n1, q2, n2, q3, n3, q4, n4, rfl⟩ := h
  have t0 := sN7 (k := 0) (m := 0) S hq
  have a0 := aN7 (q := q) (k := 0) (m := 0) S
  have m0 : mo7 G _ := fun _ _ h => aO7 (q' := q) (k := 0) (m := 0) h
  have t1 := sI7 (k := 0) (v := 0) t0 a0
  have t2 := sI7 (k := 1) (v := 1) t1 a0
  have a1 := aO7 (q' := q1) (k := 10) (m := 64) a0
  have m1 : mo7 G _ := fun i p h => aO7 (q' := q1) (k := 10) (m := 64) (m0 i p h)
  have t3 := sP7 (k := 2) (sN7 (k := 10) (m := 64) t2 n1) a1 (aN7 t2)
  have a2 := aO7 (q' := q2) (k := 10) (m := 8) a1
  have m2 : mo7 G _ := fun i p h => aO7 (q' := q2) (k := 10) (m := 8) (m1 i p h)
  have t4 := sP7 (k := 3) (sN7 (k := 10) (m := 8) t3 n2) a2 (aN7 t3)
  have a3 := aO7 (q' := q3) (k := 10) (m := 8) a2
  have m3 : mo7 G _ := fun i p h => aO7 (q' := q3) (k := 10) (m := 8) (m2 i p h)
  have t5 := sP7 (k := 4) (sN7 (k := 10) (m := 8) t4 n3) a3 (aN7 t4)
  have a4 := aO7 (q' := q4) (k := 11) (m := 8) a3
  have m4 : mo7 G _ := fun i p h => aO7 (q' := q4) (k := 11) (m := 8) (m3 i p h)
  have t6 := sP7 (k := 5) (sN7 (k := 11) (m := 8) t5 n4) a4 (aN7 t5)
  have t7 := sJ7 (k := 6) (v := 0) t6 a4
  exact ⟨t7, m4, a4⟩
def o5_ (n : Nat) (l : List Op) : List Op := .inr (.inr (.inl (n, 3, 0))) :: .inr (.inr (.inl (n, 2, 0))) :: .inr (.inl (n, 1, n + 2)) :: .inl (n + 2, 10, 8) :: .inr (.inl (n, 0, n + 1)) :: .inl (n + 1, 10, 8) :: .inl (n, 5, 0) :: l
theorem s5_ (S : St7 G M n l) (hq : q ∉ G.1) (h : ri_X5 (gN G q 5 0) (mz M q) q u) : St7 u.1 u.2 (n + 3) (o5_ n l) ∧ mo7 G u.1 ∧ at7 u.1 n q := by
  unfold ri_X5 at h
  obtain ⟨q1, n1, q2, n2, rfl⟩ := h
  have t0 := sN7 (k := 5) (m := 0) S hq
  have a0 := aN7 (q := q) (k := 5) (m := 0) S
  have m0 : mo7 G _ := fun _ _ h => aO7 (q' := q) (k := 5) (m := 0) h
  have a1 := aO7 (q' := q1) (k := 10) (m := 8) a0
  have m1 : mo7 G _ := fun i p h => aO7 (q' := q1) (k := 10) (m := 8) (m0 i p h)
  have t1 := sP7 (k := 0) (sN7 (k := 10) (m := 8) t0 n1) a1 (aN7 t0)
  have a2 := aO7 (q' := q2) (k := 10) (m := 8) a1
  have m2 : mo7 G _ := fun i p h => aO7 (q' := q2) (k := 10) (m := 8) (m1 i p h)
  have t2 := sP7 (k := 1) (sN7 (k := 10) (m := 8) t1 n2) a2 (aN7 t1)
  have t3 := sI7 (k := 2) (v := 0) t2 a2
  have t4 := sI7 (k := 3) (v := 0) t3 a2
  exact ⟨t4, m2, a2⟩
def o7_ (n : Nat) (l : List Op) : List Op := .inr (.inr (.inr (n, 2, 1))) :: .inr (.inl (n, 1, n + 2)) :: .inl (n + 2, 11, 8) :: .inr (.inl (n, 0, n + 1)) :: .inl (n + 1, 11, 64) :: .inl (n, 7, 0) :: l
theorem s7_ (S : St7 G M n l) (hq : q ∉ G.1) (h : ri_X7 (gN G q 7 0) (mz M q) q u) : St7 u.1 u.2 (n + 3) (o7_ n l) ∧ mo7 G u.1 ∧ at7 u.1 n q := by
  unfold ri_X7 at h
  obtain ⟨q1, n1, q2, n2, rfl⟩ := h
  have t0 := sN7 (k := 7) (m := 0) S hq
  have a0 := aN7 (q := q) (k := 7) (m := 0) S
  have m0 : mo7 G _ := fun _ _ h => aO7 (q' := q) (k := 7) (m := 0) h
  have a1 := aO7 (q' := q1) (k := 11) (m := 64) a0
  have m1 : mo7 G _ := fun i p h => aO7 (q' := q1) (k := 11) (m := 64) (m0 i p h)
  have t1 := sP7 (k := 0) (sN7 (k := 11) (m := 64) t0 n1) a1 (aN7 t0)
  have a2 := aO7 (q' := q2) (k := 11) (m := 8) a1
  have m2 : mo7 G _ := fun i p h => aO7 (q' := q2) (k := 11) (m := 8) (m1 i p h)
  have t2 := sP7 (k := 1) (sN7 (k := 11) (m := 8) t1 n2) a2 (aN7 t1)
  have t3 := sJ7 (k := 2) (v := 1) t2 a2
  exact ⟨t3, m2, a2⟩
def o3_ (n : Nat) (l : List Op) : List Op := .inr (.inr (.inl (n, 2, 0))) :: .inr (.inl (n, 1, n + 2)) :: .inl (n + 2, 11, 256) :: .inr (.inl (n, 0, n + 1)) :: .inl (n + 1, 11, 64) :: .inl (n, 3, 0) :: l
theorem s3_ (S : St7 G M n l) (hq : q ∉ G.1) (h : ri_X3 (gN G q 3 0) (mz M q) q u) : St7 u.1 u.2 (n + 3) (o3_ n l) ∧ mo7 G u.1 ∧ at7 u.1 n q := by
  unfold ri_X3 at h
  obtain ⟨q1, n1, q2, n2, rfl⟩ := h
  have t0 := sN7 (k := 3) (m := 0) S hq
  have a0 := aN7 (q := q) (k := 3) (m := 0) S
  have m0 : mo7 G _ := fun _ _ h => aO7 (q' := q) (k := 3) (m := 0) h
  have a1 := aO7 (q' := q1) (k := 11) (m := 64) a0
  have m1 : mo7 G _ := fun i p h => aO7 (q' := q1) (k := 11) (m := 64) (m0 i p h)
  have t1 := sP7 (k := 0) (sN7 (k := 11) (m := 64) t0 n1) a1 (aN7 t0)
  have a2 := aO7 (q' := q2) (k := 11) (m := 256) a1
  have m2 : mo7 G _ := fun i p h => aO7 (q' := q2) (k := 11) (m := 256) (m1 i p h)
  have t2 := sP7 (k := 1) (sN7 (k := 11) (m := 256) t1 n2) a2 (aN7 t1)
  have t3 := sI7 (k := 2) (v := 0) t2 a2
  exact ⟨t3, m2, a2⟩
def o4_ (n : Nat) (l : List Op) : List Op := .inr (.inr (.inr (n, 2, 1))) :: .inr (.inr (.inr (n, 1, 0))) :: .inr (.inr (.inl (n, 0, 0))) :: .inl (n, 4, 0) :: l
theorem s4_ (S : St7 G M n l) (hq : q ∉ G.1) (h : ri_X4 (gN G q 4 0) (mz M q) q u) : St7 u.1 u.2 (n + 1) (o4_ n l) ∧ mo7 G u.1 ∧ at7 u.1 n q := by
  unfold ri_X4 at h
  subst h
  have t0 := sN7 (k := 4) (m := 0) S hq
  have a0 := aN7 (q := q) (k := 4) (m := 0) S
  have m0 : mo7 G _ := fun _ _ h => aO7 (q' := q) (k := 4) (m := 0) h
  have t1 := sI7 (k := 0) (v := 0) t0 a0
  have t2 := sJ7 (k := 1) (v := 0) t1 a0
  have t3 := sJ7 (k := 2) (v := 1) t2 a0
  exact ⟨t3, m0, a0⟩
def o9_ (n : Nat) (l : List Op) : List Op := .inr (.inl (n, 19, n + 16)) :: .inl (n + 16, 11, 64) :: .inr (.inl (n, 18, n + 15)) :: .inl (n + 15, 11, 64) :: .inr (.inl (n, 16, n + 14)) :: .inl (n + 14, 10, 8) :: .inr (.inl (n, 15, n + 13)) :: .inl (n + 13, 10, 8) :: .inr (.inl (n, 14, n + 12)) :: .inl (n + 12, 10, 8) :: .inr (.inl (n, 13, n + 11)) :: .inl (n + 11, 10, 8) :: .inr (.inl (n, 12, n + 10)) :: .inl (n + 10, 11, 8) :: .inr (.inl (n, 11, n + 9)) :: .inl (n + 9, 11, 64) :: .inr (.inl (n, 10, n + 8)) :: .inl (n + 8, 11, 8) :: .inr (.inl (n, 9, n + 7)) :: .inl (n + 7, 11, 64) :: .inr (.inl (n, 7, n + 6)) :: .inl (n + 6, 10, 8) :: .inr (.inl (n, 6, n + 5)) :: .inl (n + 5, 10, 8) :: .inr (.inl (n, 5, n + 4)) :: .inl (n + 4, 10, 448) :: .inr (.inl (n, 4, n + 3)) :: .inl (n + 3, 10, 7) :: .inr (.inl (n, 3, n + 2)) :: .inl (n + 2, 10, 7) :: .inr (.inl (n, 1, n + 1)) :: .inl (n + 1, 10, 80) :: .inl (n, 9, 0) :: l
theorem s9_ (S : St7 G M n l) (hq : q ∉ G.1) (h : ri_X9 (gN G q 9 0) (mz M q) q u) : St7 u.1 u.2 (n + 17) (o9_ n l) ∧ mo7 G u.1 ∧ at7 u.1 n q := by
  unfold ri_X9 at h
  obtain ⟨q1, n1, q2, n2, q3, n3, q4, n4, q5, n5, q6, n6, q7, n7, q8, n8, q9, n9, q10, n10, q11, n11, q12, n12, q13, n13, q14, n14, q15, n15, q16, n16, rfl⟩ := h
  have t0 := sN7 (k := 9) (m := 0) S hq
  have a0 := aN7 (q := q) (k := 9) (m := 0) S
  have m0 : mo7 G _ := fun _ _ h => aO7 (q' := q) (k := 9) (m := 0) h
  have a1 := aO7 (q' := q1) (k := 10) (m := 80) a0
  have m1 : mo7 G _ := fun i p h => aO7 (q' := q1) (k := 10) (m := 80) (m0 i p h)
  have t1 := sP7 (k := 1) (sN7 (k := 10) (m := 80) t0 n1) a1 (aN7 t0)
  have a2 := aO7 (q' := q2) (k := 10) (m := 7) a1
  have m2 : mo7 G _ := fun i p h => aO7 (q' := q2) (k := 10) (m := 7) (m1 i p h)
  have t2 := sP7 (k := 3) (sN7 (k := 10) (m := 7) t1 n2) a2 (aN7 t1)
  have a3 := aO7 (q' := q3) (k := 10) (m := 7) a2
  have m3 : mo7 G _ := fun i p h => aO7 (q' := q3) (k := 10) (m := 7) (m2 i p h)
  have t3 := sP7 (k := 4) (sN7 (k := 10) (m := 7) t2 n3) a3 (aN7 t2)
  have a4 := aO7 (q' := q4) (k := 10) (m := 448) a3
  have m4 : mo7 G _ := fun i p h => aO7 (q' := q4) (k := 10) (m := 448) (m3 i p h)
  have t4 := sP7 (k := 5) (sN7 (k := 10) (m := 448) t3 n4) a4 (aN7 t3)
  have a5 := aO7 (q' := q5) (k := 10) (m := 8) a4
  have m5 : mo7 G _ := fun i p h => aO7 (q' := q5) (k := 10) (m := 8) (m4 i p h)
  have t5 := sP7 (k := 6) (sN7 (k := 10) (m := 8) t4 n5) a5 (aN7 t4)
  have a6 := aO7 (q' := q6) (k := 10) (m := 8) a5
  have m6 : mo7 G _ := fun i p h => aO7 (q' := q6) (k := 10) (m := 8) (m5 i p h)
  have t6 := sP7 (k := 7) (sN7 (k := 10) (m := 8) t5 n6) a6 (aN7 t5)
  have a7 := aO7 (q' := q7) (k := 11) (m := 64) a6
  have m7 : mo7 G _ := fun i p h => aO7 (q' := q7) (k := 11) (m := 64) (m6 i p h)
  have t7 := sP7 (k := 9) (sN7 (k := 11) (m := 64) t6 n7) a7 (aN7 t6)
  have a8 := aO7 (q' := q8) (k := 11) (m := 8) a7
  have m8 : mo7 G _ := fun i p h => aO7 (q' := q8) (k := 11) (m := 8) (m7 i p h)
  have t8 := sP7 (k := 10) (sN7 (k := 11) (m := 8) t7 n8) a8 (aN7 t7)
  have a9 := aO7 (q' := q9) (k := 11) (m := 64) a8
  have m9 : mo7 G _ := fun i p h => aO7 (q' := q9) (k := 11) (m := 64) (m8 i p h)
  have t9 := sP7 (k := 11) (sN7 (k := 11) (m := 64) t8 n9) a9 (aN7 t8)
  have a10 := aO7 (q' := q10) (k := 11) (m := 8) a9
  have m10 : mo7 G _ := fun i p h => aO7 (q' := q10) (k := 11) (m := 8) (m9 i p h)
  have t10 := sP7 (k := 12) (sN7 (k := 11) (m := 8) t9 n10) a10 (aN7 t9)
  have a11 := aO7 (q' := q11) (k := 10) (m := 8) a10
  have m11 : mo7 G _ := fun i p h => aO7 (q' := q11) (k := 10) (m := 8) (m10 i p h)
  have t11 := sP7 (k := 13) (sN7 (k := 10) (m := 8) t10 n11) a11 (aN7 t10)
  have a12 := aO7 (q' := q12) (k := 10) (m := 8) a11
  have m12 : mo7 G _ := fun i p h => aO7 (q' := q12) (k := 10) (m := 8) (m11 i p h)
  have t12 := sP7 (k := 14) (sN7 (k := 10) (m := 8) t11 n12) a12 (aN7 t11)
  have a13 := aO7 (q' := q13) (k := 10) (m := 8) a12
  have m13 : mo7 G _ := fun i p h => aO7 (q' := q13) (k := 10) (m := 8) (m12 i p h)
  have t13 := sP7 (k := 15) (sN7 (k := 10) (m := 8) t12 n13) a13 (aN7 t12)
  have a14 := aO7 (q' := q14) (k := 10) (m := 8) a13
  have m14 : mo7 G _ := fun i p h => aO7 (q' := q14) (k := 10) (m := 8) (m13 i p h)
  have t14 := sP7 (k := 16) (sN7 (k := 10) (m := 8) t13 n14) a14 (aN7 t13)
  have a15 := aO7 (q' := q15) (k := 11) (m := 64) a14
  have m15 : mo7 G _ := fun i p h => aO7 (q' := q15) (k := 11) (m := 64) (m14 i p h)
  have t15 := sP7 (k := 18) (sN7 (k := 11) (m := 64) t14 n15) a15 (aN7 t14)
  have a16 := aO7 (q' := q16) (k := 11) (m := 64) a15
  have m16 : mo7 G _ := fun i p h => aO7 (q' := q16) (k := 11) (m := 64) (m15 i p h)
  have t16 := sP7 (k := 19) (sN7 (k := 11) (m := 64) t15 n16) a16 (aN7 t15)
  exact ⟨t16, m16, a16⟩
def o2_ (n : Nat) (l : List Op) : List Op := .inr (.inl (n, 1, n + 4)) :: .inl (n + 4, 11, 8) :: .inr (.inl (n, 0, n + 1)) :: o3_ (n + 1) (.inl (n, 2, 0) :: l)
theorem s2_ (S : St7 G M n l) (hq : q ∉ G.1) (h : ri_X2 (gN G q 2 0) (mz M q) q u) : St7 u.1 u.2 (n + 5) (o2_ n l) ∧ mo7 G u.1 ∧ at7 u.1 n q := by
  unfold ri_X2 at h
  obtain ⟨q1, n1, u2, h2, q3, n3, rfl⟩ := h
  have t0 := sN7 (k := 2) (m := 0) S hq
  have a0 := aN7 (q := q) (k := 2) (m := 0) S
  obtain ⟨S2, m2, p2⟩ := s3_ t0 n1 h2
  have a2 := m2 _ _ a0
  have t3 := sP7 (k := 0) S2 a2 p2
  have t4 := sN7 (k := 11) (m := 8) t3 n3
  have t5 := sP7 (k := 1) t4 (aO7 a2) (aN7 t3)
  exact ⟨t5, fun i p h => aO7 (m2 i p (aO7 h)), aO7 a2⟩
def o8_ (n : Nat) (l : List Op) : List Op := .inr (.inl (n, 9, n + 52)) :: o1_ (n + 52) (.inr (.inl (n, 8, n + 51)) :: o4_ (n + 51) (.inr (.inl (n, 7, n + 46)) :: o2_ (n + 46) (.inr (.inl (n, 6, n + 43)) :: o7_ (n + 43) (.inr (.inl (n, 5, n + 40)) :: o5_ (n + 40) (.inr (.inl (n, 4, n + 35)) :: o0_ (n + 35) (.inr (.inl (n + 4, 5, n + 30)) :: o0_ (n + 30) (.inr (.inl (n + 4, 4, n + 25)) :: o0_ (n + 25) (.inr (.inl (n + 4, 3, n + 20)) :: o0_ (n + 20) (.inr (.inl (n + 4, 2, n + 15)) :: o0_ (n + 15) (.inr (.inl (n + 4, 1, n + 10)) :: o0_ (n + 10) (.inr (.inl (n + 4, 0, n + 5)) :: o0_ (n + 5) (.inr (.inl (n, 3, n + 4)) :: .inl (n + 4, 12, 6) :: .inr (.inr (.inl (n, 2, 0))) :: .inr (.inl (n, 1, n + 3)) :: .inl (n + 3, 10, 8) :: .inr (.inl (n, 0, n + 1)) :: o6_ (n + 1) (.inl (n, 8, 0) :: l)))))))))))))
theorem s8_ (S : St7 G M n l) (hq : q ∉ G.1) (h : ri_X8 (gN G q 8 0) (mz M q) q u) : ∃ n' l', St7 u.1 u.2 n' l' ∧ at7 u.1 n q ∧ n' = n + 53 ∧ l' = o8_ n l := by
  unfold ri_X8 at h
  obtain ⟨q1, n1, u2, h2, q3, n3, q4, n4, q5, n5, u6, h6, q9, n9, u10, h10, q13, n13, u14, h14, q17, n17, u18, h18, q21, n21, u22, h22, q25, n25, u26, h26, q29, n29, u30, h30, q32, n32, u33, h33, q35, n35, u36, h36, q38, n38, u39, h39, q41, n41, u42, h42, q44, n44, u45, h45, rfl⟩ := h
  have t0 := sN7 (k := 8) (m := 0) S hq
  have a0 := aN7 (q := q) (k := 8) (m := 0) S
  obtain ⟨S2, m2, p2⟩ := s6_ t0 n1 h2
  have r2 := m2 _ _ a0
  have t3 := sP7 (k := 0) S2 r2 p2
  have t4 := sI7 (k := 2) (v := 0) (sP7 (k := 1) (sN7 (k := 10) (m := 8) t3 n3) (aO7 r2) (aN7 t3)) (aO7 r2)
  have t5 := sP7 (k := 3) (sN7 (k := 12) (m := 6) t4 n4) (aO7 (aO7 r2)) (aN7 t4)
  have r5 := aO7 (q' := q4) (k := 12) (m := 6) (aO7 (q' := q3) (k := 10) (m := 8) r2)
  have c5 := aN7 (q := q4) (k := 12) (m := 6) t4
  obtain ⟨S6, m6, p6⟩ := s0_ t5 n5 h6
  have r6 := m6 _ _ r5
  have c6 := m6 _ _ c5
  obtain ⟨S10, m10, p10⟩ := s0_ (sP7 S6 c6 p6) n9 h10
  have r10 := m10 _ _ r6
  have c10 := m10 _ _ c6
  obtain ⟨S14, m14, p14⟩ := s0_ (sP7 S10 c10 p10) n13 h14
  have r14 := m14 _ _ r10
  have c14 := m14 _ _ c10
  obtain ⟨S18, m18, p18⟩ := s0_ (sP7 S14 c14 p14) n17 h18
  have r18 := m18 _ _ r14
  have c18 := m18 _ _ c14
  obtain ⟨S22, m22, p22⟩ := s0_ (sP7 S18 c18 p18) n21 h22
  have r22 := m22 _ _ r18
  have c22 := m22 _ _ c18
  obtain ⟨S26, m26, p26⟩ := s0_ (sP7 S22 c22 p22) n25 h26
  have r26 := m26 _ _ r22
  have c26 := m26 _ _ c22
  obtain ⟨S30, m30, p30⟩ := s0_ (sP7 S26 c26 p26) n29 h30
  have r30 := m30 _ _ r26
  have c30 := m30 _ _ c26
  obtain ⟨S33, m33, p33⟩ := s5_ (sP7 S30 r30 p30) n32 h33
  have r33 := m33 _ _ r30
  obtain ⟨S36, m36, p36⟩ := s7_ (sP7 S33 r33 p33) n35 h36
  have r36 := m36 _ _ r33
  obtain ⟨S39, m39, p39⟩ := s2_ (sP7 S36 r36 p36) n38 h39
  have r39 := m39 _ _ r36
  obtain ⟨S42, m42, p42⟩ := s4_ (sP7 S39 r39 p39) n41 h42
  have r42 := m42 _ _ r39
  obtain ⟨S45, m45, p45⟩ := s1_ (sP7 S42 r42 p42) n44 h45
  have r45 := m45 _ _ r42
  have t := sP7 (k := 9) S45 r45 p45
  exact ⟨_, _, t, r45, by simp only [Nat.add_assoc, Nat.reduceAdd], by simp only [Nat.add_assoc, Nat.reduceAdd, e0_, e1_, e2_, e3_, e4_, e5_]; rfl⟩
end
set_option maxRecDepth 100000 in
theorem pure_law : PureLaw := by
  intro L xs hL q0 u8 h8 _ q1 n1 u9 h9 _ q2 n2
  have S0 : St7 G00 M00 0 [] := ⟨rfl, List.nodup_nil, fun B _ => rfl⟩
  obtain ⟨n', l', S8, r8, rfl, rfl⟩ := s8_ S0 (by simp [G00]) h8
  obtain ⟨S9, m9, p9⟩ := s9_ S8 n1 h9
  have S := sN7 (k := 11) (m := 1) S9 n2
  have r0 := aO7 (q' := q2) (k := 11) (m := 1) (m9 _ _ r8)
  have r1 := aO7 (q' := q2) (k := 11) (m := 1) p9
  have r2 := aN7 (q := q2) (k := 11) (m := 1) S9
  generalize hG : gN u9.1 q2 11 1 = G at S r0 r1 r2 ⊢
  generalize hM : mz u9.2 q2 = M at S ⊢
  rw [show (.inl (0 + 53 + 17, 11, 1) :: o9_ (0 + 53) (o8_ 0 []) : List Op) = ops_ from rfl] at S
  obtain ⟨e1, e2, e3⟩ := S
  have e4 : ∀ i q, at7 G i q → (fun i => G.1.getD i 0) i = q := fun i q h => by
    show G.1.getD i 0 = q
    rw [List.getD_eq_getElem?_getD, h]
    rfl
  have hB : ∀ i j, i < 71 → j < 71 → (fun i => G.1.getD i 0) i = (fun i => G.1.getD i 0) j → i = j := fun i j hi hj e => nd_inj e2 i j (by omega) (by omega) e
  have e0 := e4 0 q0 r0
  have e53 := e4 53 q1 r1
  have e70 := e4 70 q2 r2
  have er := e3 _ e4
  generalize (fun i => G.1.getD i 0) = B at hB e0 e53 e70 er
  have fd := fresh_d hB
  have fk := fresh_k hB
  have fr := fresh_r hB
  rw [er] at fd fk fr
  have hJ := law_ok (xs := xs) fd hL ⟨id, 0, _, 0, _, _, _, _, fk, fr⟩
  rw [show B (sA_ 0) = q0 from e0, show B (53 + 0) = q1 from e53, e70] at hJ
  exact hJ
