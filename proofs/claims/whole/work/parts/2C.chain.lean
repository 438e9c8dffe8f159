/-! what the class reads off a settled chain -/
/-- leads as sets: L; the shares W -/
def chS (G : Gg) (M : Mm) (a cl nx ld sh n q : Nat) (c : Nat → Nat → Nat) (N L W : Nat → Nat) : Prop := chC G M a cl n c ∧ M.1 a 1 = nI q ∧ 1 ≤ q ∧ q ≤ 60 ∧ (M.2.2 a 3 = some nx ∧ isK G nx 10 ∧ G.2.2 nx = 8) ∧ (M.2.2 a 4 = some ld ∧ isK G ld 10 ∧ G.2.2 ld = 8) ∧ (M.2.2 a 5 = some sh ∧ isK G sh 11 ∧ G.2.2 sh = 8) ∧ (∀ i, i < n → M.1 nx i = nI (N i)) ∧ (∀ i, i < n → M.1 ld i = nI (L i)) ∧ (∀ i, i < n → M.2.1 sh i = lN (W i)) ∧ (∀ i, N i < 2 ^ n) ∧ (∀ i, L i < 2 ^ n) ∧ ∀ i, W i < 2 ^ 49
/-- what one step reaches from a set -/
def unS (N : Nat → Nat) (S : Nat) : Nat → Nat
  | 0 => 0
  | j + 1 => unS N S j ||| (if S.testBit j then N j else 0)
theorem unS_s (N : Nat → Nat) (S j : Nat) : unS N S (j + 1) = unS N S j ||| (if S.testBit j then N j else 0) := rfl
theorem unS_lt {N : Nat → Nat} {n : Nat} (h : ∀ i, N i < 2 ^ n) (S : Nat) : ∀ j, unS N S j < 2 ^ n
  | 0 => Nat.pow_pos (by decide)
  | j + 1 => by
    rw [unS_s]
    apply Nat.or_lt_two_pow (unS_lt h S j)
    split
    · exact h j
    · exact Nat.pow_pos (by decide)
theorem or_0 (x : Nat) : x ||| 0 = x := Nat.or_zero x
def hpS (L : Nat → Nat) (n i : Nat) : Nat := mkS (fun j => (L i).testBit j && (L j).testBit i) n
def lsB (L : Nat → Nat) (n i : Nat) : Bool := decide (hpS L n i &&& (2 ^ i - 1) = 0)
def clB (L : Nat → Nat) (n i : Nat) : Bool := decide (L i = hpS L n i)
theorem allStates_eq {G : Gg} {M : Mm} {a n : Nat} (h1 : isK G a 0) (h2 : M.1 a 0 = nI n) (hn : n ≤ 8) : f_X0_allStates G M a = some (nI (2 ^ n - 1)) := by
  unfold f_X0_allStates
  rw [ck_t h1, h2, sh_1 (by omega), zI1, sh_m1 (by omega)]
section
variable {G : Gg} {M : Mm} {a cl nx ld sh n q : Nat} {c : Nat → Nat → Nat} {N L W : Nat → Nat}
theorem nextsOf_eq (h : chS G M a cl nx ld sh n q c N L W) {S : Nat} (hS : S < 2 ^ 31) : f_X0_nextsOf G M a (nI S) = some (nI (unS N S n)) := by
  obtain ⟨⟨h1, h2, h3, h4, h5, h6, h7, h8⟩, q1, q2, q3, ⟨n1, n2, n3⟩, ⟨l1, l2, l3⟩, ⟨s1, s2, s3⟩, hN, hL, hW, bN, bL, bW⟩ := h
  have e := lpF (fun f (x : Int32) i => lp_X0_nextsOf_4 G M a (nI S) f x i) (fun j => nI (unS N S j)) n (nI (unS N S n)) (by omega) (fun f j hj => by
    have eh := has_b hS (show j < 32 by omega)
    rw [lp_X0_nextsOf_4, bd_X0_nextsOf_4]
    rw [unS_s]
    by_cases hb : S.testBit j = true
    · rw [hb] at eh
      simp (disch := first | assumption | omega | (refine inb_n ?_ ?_ <;> omega) | fail) only [ck_t, Option.bind_some, iLeP, iLeN, iLtP, iLtN, iEqP, iEqN, nI_1, pk_mul, nI_add, cl_n, zI0, zI1, zI8, bI_z, if_true_eq, if_false_eq, if_true, if_false, h5, n1, n3, eh, hN, hb, nI_or]
      try rfl
    · rw [Bool.not_eq_true] at hb
      rw [hb] at eh
      simp (disch := first | assumption | omega | (refine inb_n ?_ ?_ <;> omega) | fail) only [ck_t, Option.bind_some, iLeP, iLeN, iLtP, iLtN, iEqP, iEqN, nI_1, pk_mul, nI_add, cl_n, zI0, zI1, zI8, bI_z, if_true_eq, if_false_eq, if_true, if_false, h5, eh, hb, nI_or]
      try rfl) (fun f => by
    rw [lp_X0_nextsOf_4, bd_X0_nextsOf_4]
    simp (disch := first | assumption | omega | (refine inb_n ?_ ?_ <;> omega) | fail) only [ck_t, Option.bind_some, iLeP, iLeN, iLtP, iLtN, iEqP, iEqN, nI_1, pk_mul, nI_add, cl_n, zI0, zI1, zI8, bI_z, if_true_eq, if_false_eq, if_true, if_false, h5])
  unfold f_X0_nextsOf
  rw [zI0]
  exact (congrArg (Option.bind · _) e)
theorem heapOf_eq (h : chS G M a cl nx ld sh n q c N L W) {i : Nat} (hi : i < n) : f_X0_heapOf G M a (nI i) = some (nI (hpS L n i)) := by
  obtain ⟨⟨h1, h2, h3, h4, h5, h6, h7, h8⟩, q1, q2, q3, ⟨n1, n2, n3⟩, ⟨l1, l2, l3⟩, ⟨s1, s2, s3⟩, hN, hL, hW, bN, bL, bW⟩ := h
  have e1 := isState_eq h1 h5 h6 (show i < 2 ^ 31 by omega)
  rw [decide_eq_true hi] at e1
  have b8 := p2_31 h6
  have e := lpF (fun f (x : Int32) i3 => lp_X0_heapOf_4 G M a (nI i) f x i3) (fun j => nI (mkS (fun j => (L i).testBit j && (L j).testBit i) j)) n (nI (hpS L n i)) (by omega) (fun f j hj => by
    have k1 := bL i
    have k2 := bL j
    have eh := has_b (show L i < 2 ^ 31 by omega) (show j < 32 by omega)
    have eg := has_b (show L j < 2 ^ 31 by omega) (show i < 32 by omega)
    have es := sh_1 (show j < 31 by omega)
    rw [lp_X0_heapOf_4, bd_X0_heapOf_4]
    rw [mkS_s]
    by_cases hb : (L i).testBit j = true
    · rw [hb] at eh
      by_cases hg : (L j).testBit i = true
      · rw [hg] at eg
        have es' := es
        rw [zI1] at es'
        simp (disch := first | assumption | omega | (refine inb_n ?_ ?_ <;> omega) | fail) only [ck_t, Option.bind_some, iLeP, iLeN, iLtP, iLtN, iEqP, iEqN, nI_1, pk_mul, nI_add, cl_n, zI0, zI1, zI8, bI_z, if_true_eq, if_false_eq, if_true, if_false, h5, e1, l1, l3, eh, eg, hL, hb, hg, es', nI_or]
        try rfl
      · rw [Bool.not_eq_true] at hg
        rw [hg] at eg
        simp (disch := first | assumption | omega | (refine inb_n ?_ ?_ <;> omega) | fail) only [ck_t, Option.bind_some, iLeP, iLeN, iLtP, iLtN, iEqP, iEqN, nI_1, pk_mul, nI_add, cl_n, zI0, zI1, zI8, bI_z, if_true_eq, if_false_eq, if_true, if_false, h5, e1, l1, l3, eh, eg, hL, hb, hg, or_0]
        try simp
    · rw [Bool.not_eq_true] at hb
      rw [hb] at eh
      simp (disch := first | assumption | omega | (refine inb_n ?_ ?_ <;> omega) | fail) only [ck_t, Option.bind_some, iLeP, iLeN, iLtP, iLtN, iEqP, iEqN, nI_1, pk_mul, nI_add, cl_n, zI0, zI1, zI8, bI_z, if_true_eq, if_false_eq, if_true, if_false, h5, e1, l1, l3, eh, hL, hb, or_0]
      try simp) (fun f => by
    rw [lp_X0_heapOf_4, bd_X0_heapOf_4]
    simp (disch := first | assumption | omega | (refine inb_n ?_ ?_ <;> omega) | fail) only [ck_t, Option.bind_some, iLeP, iLeN, iLtP, iLtN, iEqP, iEqN, nI_1, pk_mul, nI_add, cl_n, zI0, zI1, zI8, bI_z, if_true_eq, if_false_eq, if_true, if_false, h5]
    try rfl)
  unfold f_X0_heapOf
  rw [zI0]
  exact (congrArg (Option.bind · _) e)
theorem hpS_lt (L : Nat → Nat) (n i : Nat) : hpS L n i < 2 ^ n := mkS_lt _ _
theorem isLeast_eq (h : chS G M a cl nx ld sh n q c N L W) {i : Nat} (hi : i < n) : f_X0_isLeastOfHeap G M a (nI i) = some (bI (lsB L n i)) := by
  have e1 := heapOf_eq h hi
  have hn := h.1.2.2.2.2.2.1
  have k1 := hpS_lt L n i
  have b8 := p2_31 hn
  have k2 : hpS L n i &&& (2 ^ i - 1) ≤ hpS L n i := Nat.and_le_left
  unfold f_X0_isLeastOfHeap
  rw [ck_t h.1.1, e1, Option.bind_some, sh_1 (by omega), zI1, sh_m1 (by omega), nI_and, zI0]
  by_cases hc : hpS L n i &&& (2 ^ i - 1) = 0
  · rw [iEqP hc, show lsB L n i = true from decide_eq_true hc]
    rfl
  · rw [iEqN hc (by omega) (by omega), show lsB L n i = false from decide_eq_false hc]
    rfl
theorem isClosed_eq (h : chS G M a cl nx ld sh n q c N L W) {i : Nat} (hi : i < n) : f_X0_isClosed G M a (nI i) = some (bI (clB L n i)) := by
  have e2 := heapOf_eq h hi
  obtain ⟨⟨h1, h2, h3, h4, h5, h6, h7, h8⟩, q1, q2, q3, ⟨n1, n2, n3⟩, ⟨l1, l2, l3⟩, ⟨s1, s2, s3⟩, hN, hL, hW, bN, bL, bW⟩ := h
  have e1 := isState_eq h1 h5 h6 (show i < 2 ^ 31 by omega)
  rw [decide_eq_true hi] at e1
  have b8 := p2_31 h6
  have k1 := hpS_lt L n i
  have k2 := bL i
  unfold f_X0_isClosed
  by_cases hc : L i = hpS L n i
  · simp (disch := first | assumption | omega | (refine inb_n ?_ ?_ <;> omega) | fail) only [ck_t, Option.bind_some, iLeP, iLeN, iLtP, iLtN, iEqP, iEqN, nI_1, pk_mul, nI_add, cl_n, zI0, zI1, zI8, bI_z, if_true_eq, if_false_eq, if_true, if_false, e1, l1, l3, e2, hL]
    rw [show clB L n i = true from decide_eq_true hc]
    rfl
  · simp (disch := first | assumption | omega | (refine inb_n ?_ ?_ <;> omega) | fail) only [ck_t, Option.bind_some, iLeP, iLeN, iLtP, iLtN, iEqP, iEqN, nI_1, pk_mul, nI_add, cl_n, zI0, zI1, zI8, bI_z, if_true_eq, if_false_eq, if_true, if_false, e1, l1, l3, e2, hL]
    rw [show clB L n i = false from decide_eq_false hc]
    rfl
theorem heaps_eq (h : chS G M a cl nx ld sh n q c N L W) : f_X0_heaps G M a = some (nI (ct (lsB L n) n)) := by
  obtain ⟨h1, h2, h3, h4, h5, h6, h7, h8⟩ := h.1
  have e := lpF (fun f (x : Int32) i3 => lp_X0_heaps_4 G M a f x i3) (fun j => nI (ct (lsB L n) j)) n (nI (ct (lsB L n) n)) (by omega) (fun f j hj => by
    have el := isLeast_eq h hj
    rw [lp_X0_heaps_4, bd_X0_heaps_4]
    rw [ct_s]
    by_cases hb : lsB L n j = true
    · rw [hb] at el
      simp (disch := first | assumption | omega | (refine inb_n ?_ ?_ <;> omega) | fail) only [ck_t, Option.bind_some, iLeP, iLeN, iLtP, iLtN, iEqP, iEqN, nI_1, pk_mul, nI_add, cl_n, zI0, zI1, zI8, bI_z, if_true_eq, if_false_eq, if_true, if_false, h5, el, hb]
      try rfl
    · rw [Bool.not_eq_true] at hb
      rw [hb] at el
      simp (disch := first | assumption | omega | (refine inb_n ?_ ?_ <;> omega) | fail) only [ck_t, Option.bind_some, iLeP, iLeN, iLtP, iLtN, iEqP, iEqN, nI_1, pk_mul, nI_add, cl_n, zI0, zI1, zI8, bI_z, if_true_eq, if_false_eq, if_true, if_false, h5, el, hb]
      try rfl) (fun f => by
    rw [lp_X0_heaps_4, bd_X0_heaps_4]
    simp (disch := first | assumption | omega | (refine inb_n ?_ ?_ <;> omega) | fail) only [ck_t, Option.bind_some, iLeP, iLeN, iLtP, iLtN, iEqP, iEqN, nI_1, pk_mul, nI_add, cl_n, zI0, zI1, zI8, bI_z, if_true_eq, if_false_eq, if_true, if_false, h5])
  unfold f_X0_heaps
  rw [zI0]
  exact (congrArg (Option.bind · _) e)
theorem closedHeaps_eq (h : chS G M a cl nx ld sh n q c N L W) : f_X0_closedHeaps G M a = some (nI (ct (fun i => lsB L n i && clB L n i) n)) := by
  obtain ⟨h1, h2, h3, h4, h5, h6, h7, h8⟩ := h.1
  have e := lpF (fun f (x : Int32) i3 => lp_X0_closedHeaps_4 G M a f x i3) (fun j => nI (ct (fun i => lsB L n i && clB L n i) j)) n (nI (ct (fun i => lsB L n i && clB L n i) n)) (by omega) (fun f j hj => by
    have el := isLeast_eq h hj
    have ec := isClosed_eq h hj
    rw [lp_X0_closedHeaps_4, bd_X0_closedHeaps_4]
    rw [ct_s]
    by_cases hb : lsB L n j = true
    · rw [hb] at el
      by_cases hd : clB L n j = true
      · rw [hd] at ec
        simp (disch := first | assumption | omega | (refine inb_n ?_ ?_ <;> omega) | fail) only [ck_t, Option.bind_some, iLeP, iLeN, iLtP, iLtN, iEqP, iEqN, nI_1, pk_mul, nI_add, cl_n, zI0, zI1, zI8, bI_z, if_true_eq, if_false_eq, if_true, if_false, h5, el, ec, hb, hd]
        try rfl
      · rw [Bool.not_eq_true] at hd
        rw [hd] at ec
        simp (disch := first | assumption | omega | (refine inb_n ?_ ?_ <;> omega) | fail) only [ck_t, Option.bind_some, iLeP, iLeN, iLtP, iLtN, iEqP, iEqN, nI_1, pk_mul, nI_add, cl_n, zI0, zI1, zI8, bI_z, if_true_eq, if_false_eq, if_true, if_false, h5, el, ec, hb, hd]
        try rfl
    · rw [Bool.not_eq_true] at hb
      rw [hb] at el
      simp (disch := first | assumption | omega | (refine inb_n ?_ ?_ <;> omega) | fail) only [ck_t, Option.bind_some, iLeP, iLeN, iLtP, iLtN, iEqP, iEqN, nI_1, pk_mul, nI_add, cl_n, zI0, zI1, zI8, bI_z, if_true_eq, if_false_eq, if_true, if_false, h5, el, hb]
      try rfl) (fun f => by
    rw [lp_X0_closedHeaps_4, bd_X0_closedHeaps_4]
    simp (disch := first | assumption | omega | (refine inb_n ?_ ?_ <;> omega) | fail) only [ck_t, Option.bind_some, iLeP, iLeN, iLtP, iLtN, iEqP, iEqN, nI_1, pk_mul, nI_add, cl_n, zI0, zI1, zI8, bI_z, if_true_eq, if_false_eq, if_true, if_false, h5])
  unfold f_X0_closedHeaps
  rw [zI0]
  exact (congrArg (Option.bind · _) e)
theorem closedStates_eq (h : chS G M a cl nx ld sh n q c N L W) : f_X0_closedStates G M a = some (nI (mkS (clB L n) n)) := by
  obtain ⟨h1, h2, h3, h4, h5, h6, h7, h8⟩ := h.1
  have e := lpF (fun f (x : Int32) i3 => lp_X0_closedStates_4 G M a f x i3) (fun j => nI (mkS (clB L n) j)) n (nI (mkS (clB L n) n)) (by omega) (fun f j hj => by
    have ec := isClosed_eq h hj
    have es := sh_1 (show j < 31 by omega)
    rw [zI1] at es
    rw [lp_X0_closedStates_4, bd_X0_closedStates_4]
    rw [mkS_s]
    by_cases hd : clB L n j = true
    · rw [hd] at ec
      simp (disch := first | assumption | omega | (refine inb_n ?_ ?_ <;> omega) | fail) only [ck_t, Option.bind_some, iLeP, iLeN, iLtP, iLtN, iEqP, iEqN, nI_1, pk_mul, nI_add, cl_n, zI0, zI1, zI8, bI_z, if_true_eq, if_false_eq, if_true, if_false, h5, ec, hd, es, nI_or]
      try rfl
    · rw [Bool.not_eq_true] at hd
      rw [hd] at ec
      simp (disch := first | assumption | omega | (refine inb_n ?_ ?_ <;> omega) | fail) only [ck_t, Option.bind_some, iLeP, iLeN, iLtP, iLtN, iEqP, iEqN, nI_1, pk_mul, nI_add, cl_n, zI0, zI1, zI8, bI_z, if_true_eq, if_false_eq, if_true, if_false, h5, ec, hd, nI_or]
      try rfl) (fun f => by
    rw [lp_X0_closedStates_4, bd_X0_closedStates_4]
    simp (disch := first | assumption | omega | (refine inb_n ?_ ?_ <;> omega) | fail) only [ck_t, Option.bind_some, iLeP, iLeN, iLtP, iLtN, iEqP, iEqN, nI_1, pk_mul, nI_add, cl_n, zI0, zI1, zI8, bI_z, if_true_eq, if_false_eq, if_true, if_false, h5])
  unfold f_X0_closedStates
  rw [zI0]
  exact (congrArg (Option.bind · _) e)
/-- the heap's number: the least ones below its own least one -/
theorem heapNumber_eq (h : chS G M a cl nx ld sh n q c N L W) {i t : Nat} (hi : i < n) (ht : t ≤ i) (ht1 : ∀ j, j < t → (hpS L n i).testBit j = false) (ht2 : (hpS L n i).testBit t = true) : f_X0_heapNumber G M a (nI i) = some (nI (ct (lsB L n) t)) := by
  have e2 := heapOf_eq h hi
  obtain ⟨h1, h2, h3, h4, h5, h6, h7, h8⟩ := h.1
  have k1 := hpS_lt L n i
  have b8 := p2_31 h6
  have e := lpF (fun f (x : Int32) i3 => lp_X0_heapNumber_11 G M a (nI (hpS L n i)) f x i3) (fun j => nI (ct (lsB L n) j)) t (nI (ct (lsB L n) t)) (by omega) (fun f j hj => by
    have el := isLeast_eq h (show j < n by omega)
    have eh := has_b (show hpS L n i < 2 ^ 31 by omega) (show j < 32 by omega)
    rw [ht1 j hj] at eh
    rw [lp_X0_heapNumber_11, bd_X0_heapNumber_11]
    rw [ct_s]
    by_cases hb : lsB L n j = true
    · rw [hb] at el
      simp (disch := first | assumption | omega | (refine inb_n ?_ ?_ <;> omega) | fail) only [ck_t, Option.bind_some, iLeP, iLeN, iLtP, iLtN, iEqP, iEqN, nI_1, pk_mul, nI_add, cl_n, zI0, zI1, zI8, bI_z, if_true_eq, if_false_eq, if_true, if_false, h5, el, hb, eh]
      try rfl
    · rw [Bool.not_eq_true] at hb
      rw [hb] at el
      simp (disch := first | assumption | omega | (refine inb_n ?_ ?_ <;> omega) | fail) only [ck_t, Option.bind_some, iLeP, iLeN, iLtP, iLtN, iEqP, iEqN, nI_1, pk_mul, nI_add, cl_n, zI0, zI1, zI8, bI_z, if_true_eq, if_false_eq, if_true, if_false, h5, el, hb, eh]
      try rfl) (fun f => by
    have eh := has_b (show hpS L n i < 2 ^ 31 by omega) (show t < 32 by omega)
    rw [ht2] at eh
    rw [lp_X0_heapNumber_11, bd_X0_heapNumber_11]
    simp (disch := first | assumption | omega | (refine inb_n ?_ ?_ <;> omega) | fail) only [ck_t, Option.bind_some, iLeP, iLeN, iLtP, iLtN, iEqP, iEqN, nI_1, pk_mul, nI_add, cl_n, zI0, zI1, zI8, bI_z, if_true_eq, if_false_eq, if_true, if_false, h5, eh])
  unfold f_X0_heapNumber
  rw [ck_t h1, e2, Option.bind_some, zI0]
  exact (congrArg (Option.bind · _) e)
end
