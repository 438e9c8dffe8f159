/-! both ways; sets of states; what is reached and what leads on -/
def bwP (W : Nat → Nat) (c : Nat → Nat → Nat) (i j : Nat) : Bool := decide (W i * c i j = W j * c j i)
def alB (p : Nat → Bool) : Nat → Bool
  | 0 => true
  | n + 1 => alB p n && p n
theorem alB_s (p : Nat → Bool) (n : Nat) : alB p (n + 1) = (alB p n && p n) := rfl
theorem alB_t {p : Nat → Bool} : ∀ {n : Nat}, alB p n = true ↔ ∀ i, i < n → p i = true
  | 0 => ⟨fun _ i hi => absurd hi (by omega), fun _ => rfl⟩
  | n + 1 => by
    rw [alB_s, Bool.and_eq_true, alB_t]
    constructor
    · intro ⟨h1, h2⟩ i hi
      by_cases e : i = n
      · subst e; exact h2
      · exact h1 i (by omega)
    · intro h
      exact ⟨fun i hi => h i (by omega), h n (by omega)⟩
theorem bI_1 {b : Bool} : bI b &&& 1 = bI b := by cases b <;> decide
theorem isSet_eq {G : Gg} {M : Mm} {a n S : Nat} (h1 : isK G a 0) (h2 : M.1 a 0 = nI n) (hn : n ≤ 8) (hS : S < 2 ^ 31) : f_X0_isSet G M a (nI S) = some (bI (decide (0 < S ∧ S < 2 ^ n))) := by
  have ea := allStates_eq h1 h2 hn
  have b8 := p2_31 hn
  have hp : 0 < 2 ^ n := Nat.pow_pos (by decide)
  unfold f_X0_isSet
  by_cases h : 0 < S
  · by_cases h' : S < 2 ^ n
    · simp (disch := first | assumption | omega | (refine inb_n ?_ ?_ <;> omega) | fail) only [ck_t, Option.bind_some, iLeP, iLeN, iLtP, iLtN, iEqP, iEqN, nI_1, pk_mul, nI_add, cl_n, zI0, zI1, zI8, bI_z, if_true_eq, if_false_eq, if_true, if_false, ea]
      rw [decide_eq_true ⟨h, h'⟩]
      rfl
    · simp (disch := first | assumption | omega | (refine inb_n ?_ ?_ <;> omega) | fail) only [ck_t, Option.bind_some, iLeP, iLeN, iLtP, iLtN, iEqP, iEqN, nI_1, pk_mul, nI_add, cl_n, zI0, zI1, zI8, bI_z, if_true_eq, if_false_eq, if_true, if_false, ea]
      rw [decide_eq_false (fun z => h' z.2)]
      rfl
  · simp (disch := first | assumption | omega | (refine inb_n ?_ ?_ <;> omega) | fail) only [ck_t, Option.bind_some, iLeP, iLeN, iLtP, iLtN, iEqP, iEqN, nI_1, pk_mul, nI_add, cl_n, zI0, zI1, zI8, bI_z, if_true_eq, if_false_eq, if_true, if_false, ea]
    rw [decide_eq_false (fun z => h z.1)]
    rfl
theorem isTime_eq {G : Gg} {M : Mm} {a q t T : Nat} (h1 : isK G a 0) (h2 : M.1 a 1 = nI q) (hq : 1 ≤ q) (hq2 : q ≤ 60) (hT : isLT q T) (ht : t < 2 ^ 31) : f_X0_isTime G M a (nI t) = some (bI (decide (t ≤ T))) := by
  obtain ⟨r, e1, s, rfl, e2⟩ := lastTime_ok h1 h2 hq hq2
  have : s = T := isLT_un hq e2 hT
  subst this
  have hs := e2.1
  unfold f_X0_isTime
  by_cases h : t ≤ s
  · simp (disch := first | assumption | omega | (refine inb_n ?_ ?_ <;> omega) | fail) only [ck_t, Option.bind_some, iLeP, iLeN, iLtP, iLtN, iEqP, iEqN, nI_1, pk_mul, nI_add, cl_n, zI0, zI1, zI8, bI_z, if_true_eq, if_false_eq, if_true, if_false, e1]
    rw [decide_eq_true h]
    rfl
  · simp (disch := first | assumption | omega | (refine inb_n ?_ ?_ <;> omega) | fail) only [ck_t, Option.bind_some, iLeP, iLeN, iLtP, iLtN, iEqP, iEqN, nI_1, pk_mul, nI_add, cl_n, zI0, zI1, zI8, bI_z, if_true_eq, if_false_eq, if_true, if_false, e1]
    rw [decide_eq_false h]
    rfl
section
variable {G : Gg} {M : Mm} {a cl nx ld sh n q : Nat} {c : Nat → Nat → Nat} {N L W : Nat → Nat}
theorem bw_row (h : chS G M a cl nx ld sh n q c N L W) {i : Nat} (hi : i < n) (b : Bool) : lp_X0_isBothWays_17 G M a (nI i) FU (bI b) (nI 0) = some (bI (b && alB (bwP W c i) i)) := by
  have hC := h.1
  obtain ⟨⟨h1, h2, h3, h4, h5, h6, h7, h8⟩, q1, q2, q3, ⟨n1, n2, n3⟩, ⟨l1, l2, l3⟩, ⟨s1, s2, s3⟩, hN, hL, hW, bN, bL, bW⟩ := h
  have e := lpF (fun f (x : Int32) i3 => lp_X0_isBothWays_17 G M a (nI i) f x i3) (fun j => bI (b && alB (bwP W c i) j)) i (bI (b && alB (bwP W c i) i)) (by omega) (fun f j hj => by
    have e1 := at_eq hC hi (show j < n by omega)
    have e2 := at_eq hC (show j < n by omega) hi
    have w1 := hW i hi
    have w2 := hW j (by omega)
    have k1 : W i * c i j ≤ 2 ^ 49 * 2 ^ 10 := Nat.mul_le_mul (Nat.le_of_lt (bW i)) (Nat.le_of_lt (h8 i j))
    have k2 : W j * c j i ≤ 2 ^ 49 * 2 ^ 10 := Nat.mul_le_mul (Nat.le_of_lt (bW j)) (Nat.le_of_lt (h8 j i))
    have k3 := h8 i j
    have k4 := h8 j i
    rw [lp_X0_isBothWays_17, bd_X0_isBothWays_17]
    rw [alB_s]
    by_cases hb : (b && alB (bwP W c i) j) = true
    · rw [← Bool.and_assoc, hb]
      by_cases hw : W i * c i j = W j * c j i
      · rw [show bwP W c i j = true from decide_eq_true hw]
        simp (disch := first | assumption | omega | (refine inb_n ?_ ?_ <;> omega) | fail) only [ck_t, Option.bind_some, iLeP, iLeN, iLtP, iLtN, iEqP, iEqN, nI_1, pk_mul, nI_add, cl_n, zI0, zI1, zI8, bI_z, if_true_eq, if_false_eq, if_true, if_false, lEqP, lEqN, lGtP, lGtN, lLeP, lLeN, lGeP, lGeN, lLtP, lLtN, lN_mul, lN_add, nI_l, pk_lDiv, pk_lRem, ckl, zL0, zL1, s1, s3, e1, e2, w1, w2]
        try rfl
      · rw [show bwP W c i j = false from decide_eq_false hw]
        simp (disch := first | assumption | omega | (refine inb_n ?_ ?_ <;> omega) | fail) only [ck_t, Option.bind_some, iLeP, iLeN, iLtP, iLtN, iEqP, iEqN, nI_1, pk_mul, nI_add, cl_n, zI0, zI1, zI8, bI_z, if_true_eq, if_false_eq, if_true, if_false, lEqP, lEqN, lGtP, lGtN, lLeP, lLeN, lGeP, lGeN, lLtP, lLtN, lN_mul, lN_add, nI_l, pk_lDiv, pk_lRem, ckl, zL0, zL1, s1, s3, e1, e2, w1, w2]
        try rfl
    · rw [Bool.not_eq_true] at hb
      rw [← Bool.and_assoc, hb]
      simp (disch := first | assumption | omega | (refine inb_n ?_ ?_ <;> omega) | fail) only [ck_t, Option.bind_some, iLeP, iLeN, iLtP, iLtN, iEqP, iEqN, nI_1, pk_mul, nI_add, cl_n, zI0, zI1, zI8, bI_z, if_true_eq, if_false_eq, if_true, if_false]
      try rfl) (fun f => by
    rw [lp_X0_isBothWays_17, bd_X0_isBothWays_17]
    simp (disch := first | assumption | omega | (refine inb_n ?_ ?_ <;> omega) | fail) only [ck_t, Option.bind_some, iLeP, iLeN, iLtP, iLtN, iEqP, iEqN, nI_1, pk_mul, nI_add, cl_n, zI0, zI1, zI8, bI_z, if_true_eq, if_false_eq, if_true, if_false])
  rw [show (b && alB (bwP W c i) 0) = b by cases b <;> rfl] at e
  exact e
theorem isBothWays_eq (h : chS G M a cl nx ld sh n q c N L W) : f_X0_isBothWays G M a = some (bI (decide (ct (lsB L n) n = 1) && alB (fun i => alB (bwP W c i) i) n)) := by
  have ew := isWhole_eq h
  obtain ⟨h1, h2, h3, h4, h5, h6, h7, h8⟩ := h.1
  have e := lpF (fun f (x : Int32) i3 => lp_X0_isBothWays_7 G M a f x i3) (fun j => bI (decide (ct (lsB L n) n = 1) && alB (fun i => alB (bwP W c i) i) j)) n (bI (decide (ct (lsB L n) n = 1) && alB (fun i => alB (bwP W c i) i) n)) (by omega) (fun f j hj => by
    have er := bw_row h hj (decide (ct (lsB L n) n = 1) && alB (fun i => alB (bwP W c i) i) j)
    rw [lp_X0_isBothWays_7, bd_X0_isBothWays_7]
    rw [alB_s, ← Bool.and_assoc]
    simp (disch := first | assumption | omega | (refine inb_n ?_ ?_ <;> omega) | fail) only [ck_t, Option.bind_some, iLeP, iLeN, iLtP, iLtN, iEqP, iEqN, nI_1, pk_mul, nI_add, cl_n, zI0, zI1, zI8, bI_z, if_true_eq, if_false_eq, if_true, if_false, h5, er]) (fun f => by
    rw [lp_X0_isBothWays_7, bd_X0_isBothWays_7]
    simp (disch := first | assumption | omega | (refine inb_n ?_ ?_ <;> omega) | fail) only [ck_t, Option.bind_some, iLeP, iLeN, iLtP, iLtN, iEqP, iEqN, nI_1, pk_mul, nI_add, cl_n, zI0, zI1, zI8, bI_z, if_true_eq, if_false_eq, if_true, if_false, h5])
  rw [show (decide (ct (lsB L n) n = 1) && alB (fun i => alB (bwP W c i) i) 0) = decide (ct (lsB L n) n = 1) from Bool.and_true _] at e
  unfold f_X0_isBothWays
  rw [ck_t h1, ew, Option.bind_some, zI0, e, Option.bind_some, ck_t bI_1]
/-- what is reached from i without stepping into S, after so many rounds -/
def roS (N : Nat → Nat) (n i S : Nat) : Nat → Nat
  | 0 => 2 ^ i
  | t + 1 => roS N n i S t ||| sdf (unS N (roS N n i S t) n) S
theorem roS_lt {N : Nat → Nat} {n i S : Nat} (hN : ∀ i, N i < 2 ^ n) (hi : i < n) : ∀ t, roS N n i S t < 2 ^ n
  | 0 => p2l hi
  | t + 1 => Nat.or_lt_two_pow (roS_lt hN hi t) (Nat.lt_of_le_of_lt (sdf_le _ _) (unS_lt hN _ _))
theorem reachedOutside_eq (h : chS G M a cl nx ld sh n q c N L W) {i S : Nat} (hi : i < n) : f_X2_reachedOutside G M a (nI i) (nI S) = some (nI (roS N n i S 8)) := by
  obtain ⟨h1, h2, h3, h4, h5, h6, h7, h8⟩ := h.1
  have bN := h.2.2.2.2.2.2.2.2.2.2.1
  have b8 := p2_31 h6
  have e := lpF (fun f (x : Int32) i3 => lp_X2_reachedOutside_7 G M a (nI S) f x i3) (fun t => nI (roS N n i S t)) 8 (nI (roS N n i S 8)) (by omega) (fun f j hj => by
    have k1 := roS_lt (S := S) bN hi j
    have en := nextsOf_eq h (show roS N n i S j < 2 ^ 31 by omega)
    rw [lp_X2_reachedOutside_7, bd_X2_reachedOutside_7]
    simp (disch := first | assumption | omega | (refine inb_n ?_ ?_ <;> omega) | fail) only [ck_t, Option.bind_some, iLeP, iLeN, iLtP, iLtN, iEqP, iEqN, nI_1, pk_mul, nI_add, cl_n, zI0, zI1, zI8, bI_z, if_true_eq, if_false_eq, if_true, if_false, en, nI_com', nI_sdf, nI_or]
    try rfl) (fun f => by
    rw [lp_X2_reachedOutside_7, bd_X2_reachedOutside_7]
    simp (disch := first | assumption | omega | (refine inb_n ?_ ?_ <;> omega) | fail) only [ck_t, Option.bind_some, iLeP, iLeN, iLtP, iLtN, iEqP, iEqN, nI_1, pk_mul, nI_add, cl_n, zI0, zI1, zI8, bI_z, if_true_eq, if_false_eq, if_true, if_false])
  unfold f_X2_reachedOutside
  rw [sh_1 (by omega), zI0]
  exact (congrArg (Option.bind · _) e)
theorem allLeadInto_eq (h : chS G M a cl nx ld sh n q c N L W) {I S : Nat} (hI : I < 2 ^ n) (hS : S < 2 ^ n) : f_X2_allLeadInto G M a (nI I) (nI S) = some (bI (alB (fun j => !I.testBit j || decide (L j &&& S ≠ 0)) n)) := by
  obtain ⟨⟨h1, h2, h3, h4, h5, h6, h7, h8⟩, q1, q2, q3, ⟨n1, n2, n3⟩, ⟨l1, l2, l3⟩, ⟨s1, s2, s3⟩, hN, hL, hW, bN, bL, bW⟩ := h
  have b8 := p2_31 h6
  have e := lpI (fun f i3 (x : Unit) => lp_X2_allLeadInto_2 G M a (nI I) (nI S) f i3) (fun j _ => alB (fun j => !I.testBit j || decide (L j &&& S ≠ 0)) j = true) n (fun r => (r = .inl (0 : Int32) ∧ alB (fun j => !I.testBit j || decide (L j &&& S ≠ 0)) n = false) ∨ (r = .inr () ∧ alB (fun j => !I.testBit j || decide (L j &&& S ≠ 0)) n = true)) (by omega) (fun f j x hj hx => by
    have eh := has_b (show I < 2 ^ 31 by omega) (show j < 32 by omega)
    have k1 : L j &&& S ≤ L j := Nat.and_le_left
    have k2 := bL j
    by_cases hb : I.testBit j = true
    · by_cases hz : L j &&& S = 0
      · right
        refine ⟨.inl (0 : Int32), ?_, Or.inl ⟨rfl, ?_⟩⟩
        · rw [hb] at eh
          rw [lp_X2_allLeadInto_2, bd_X2_allLeadInto_2]
          simp (disch := first | assumption | omega | (refine inb_n ?_ ?_ <;> omega) | fail) only [ck_t, Option.bind_some, iLeP, iLeN, iLtP, iLtN, iEqP, iEqN, nI_1, pk_mul, nI_add, cl_n, zI0, zI1, zI8, bI_z, if_true_eq, if_false_eq, if_true, if_false, h5, eh, l1, l3, hL, nI_and, hz]
        · rw [← Bool.not_eq_true, alB_t]
          intro hh
          have := hh j hj
          rw [hb, hz] at this
          simp at this
      · left
        refine ⟨(), ?_, ?_⟩
        · show alB _ (j + 1) = true
          rw [alB_s, hx, hb]
          simp [hz]
        · rw [hb] at eh
          rw [lp_X2_allLeadInto_2, bd_X2_allLeadInto_2]
          simp (disch := first | assumption | omega | (refine inb_n ?_ ?_ <;> omega) | fail) only [ck_t, Option.bind_some, iLeP, iLeN, iLtP, iLtN, iEqP, iEqN, nI_1, pk_mul, nI_add, cl_n, zI0, zI1, zI8, bI_z, if_true_eq, if_false_eq, if_true, if_false, h5, eh, l1, l3, hL, nI_and]
    · rw [Bool.not_eq_true] at hb
      left
      refine ⟨(), ?_, ?_⟩
      · show alB _ (j + 1) = true
        rw [alB_s, hx, hb]
        rfl
      · rw [hb] at eh
        rw [lp_X2_allLeadInto_2, bd_X2_allLeadInto_2]
        simp (disch := first | assumption | omega | (refine inb_n ?_ ?_ <;> omega) | fail) only [ck_t, Option.bind_some, iLeP, iLeN, iLtP, iLtN, iEqP, iEqN, nI_1, pk_mul, nI_add, cl_n, zI0, zI1, zI8, bI_z, if_true_eq, if_false_eq, if_true, if_false, h5, eh]) (fun f x hx => by
    refine ⟨.inr (), ?_, Or.inr ⟨rfl, hx⟩⟩
    rw [lp_X2_allLeadInto_2, bd_X2_allLeadInto_2]
    simp (disch := first | assumption | omega | (refine inb_n ?_ ?_ <;> omega) | fail) only [ck_t, Option.bind_some, iLeP, iLeN, iLtP, iLtN, iEqP, iEqN, nI_1, pk_mul, nI_add, cl_n, zI0, zI1, zI8, bI_z, if_true_eq, if_false_eq, if_true, if_false, h5]) (j0 := 0) (x := ()) (by omega) rfl
  obtain ⟨r, e1, e2⟩ := e
  unfold f_X2_allLeadInto
  rw [zI0, e1, Option.bind_some]
  rcases e2 with ⟨rfl, e2⟩ | ⟨rfl, e2⟩
  · rw [e2]; rfl
  · rw [e2]; rfl
/-- the states outside that lead on into a set: one round, state after state -/
def liS (N : Nat → Nat) (A B I : Nat) : Nat → Nat
  | 0 => I
  | j + 1 => if (A ||| B).testBit j = false ∧ N j &&& (A ||| liS N A B I j) ≠ 0 then liS N A B I j ||| 2 ^ j else liS N A B I j
theorem liS_lt {N : Nat → Nat} {n A B I : Nat} (hI : I < 2 ^ n) : ∀ j, j ≤ n → liS N A B I j < 2 ^ n
  | 0, _ => hI
  | j + 1, h => by
    have := liS_lt (N := N) (A := A) (B := B) hI j (by omega)
    show (if _ then _ else _) < 2 ^ n
    split
    · exact Nat.or_lt_two_pow this (p2l h)
    · exact this
def lrS (N : Nat → Nat) (n A B : Nat) : Nat → Nat
  | 0 => 0
  | t + 1 => liS N A B (lrS N n A B t) n
theorem lrS_lt {N : Nat → Nat} {n A B : Nat} : ∀ t, lrS N n A B t < 2 ^ n
  | 0 => Nat.pow_pos (by decide)
  | t + 1 => liS_lt (lrS_lt t) n (Nat.le_refl n)
theorem leadingInto_eq (h : chS G M a cl nx ld sh n q c N L W) {A B : Nat} (hA : A < 2 ^ n) (hB : B < 2 ^ n) : f_X2_leadingInto G M a (nI A) (nI B) = some (nI (lrS N n A B 8)) := by
  obtain ⟨⟨h1, h2, h3, h4, h5, h6, h7, h8⟩, q1, q2, q3, ⟨n1, n2, n3⟩, ⟨l1, l2, l3⟩, ⟨s1, s2, s3⟩, hN, hL, hW, bN, bL, bW⟩ := h
  have b8 := p2_31 h6
  have hAB := Nat.or_lt_two_pow hA hB
  have er : ∀ I i4, I < 2 ^ n → lp_X2_leadingInto_15 G M a (nI A) (nI B) i4 FU (nI I) (nI 0) = some (nI (liS N A B I n)) := fun I i4 hI => by
    refine lpF (fun f (x : Int32) i3 => lp_X2_leadingInto_15 G M a (nI A) (nI B) i4 f x i3) (fun t => nI (liS N A B I t)) n (nI (liS N A B I n)) (by omega) (fun f j hj => ?_) (fun f => ?_)
    · have k1 := liS_lt (N := N) (A := A) (B := B) hI j (by omega)
      have eh := has_b (show A ||| B < 2 ^ 31 by omega) (show j < 32 by omega)
      have es := sh_1 (show j < 31 by omega)
      rw [zI1] at es
      have k2 : N j &&& (A ||| liS N A B I j) ≤ N j := Nat.and_le_left
      have k3 := bN j
      rw [lp_X2_leadingInto_15, bd_X2_leadingInto_15]
      by_cases hb : (A ||| B).testBit j = false
      · rw [hb] at eh
        by_cases hz : N j &&& (A ||| liS N A B I j) = 0
        · rw [show liS N A B I (j + 1) = liS N A B I j from if_neg (fun z => z.2 hz)]
          simp (disch := first | assumption | omega | (refine inb_n ?_ ?_ <;> omega) | fail) only [ck_t, Option.bind_some, iLeP, iLeN, iLtP, iLtN, iEqP, iEqN, nI_1, pk_mul, nI_add, cl_n, zI0, zI1, zI8, bI_z, if_true_eq, if_false_eq, if_true, if_false, h5, eh, n1, n3, hN, nI_or, nI_and, hz]
        · rw [show liS N A B I (j + 1) = liS N A B I j ||| 2 ^ j from if_pos ⟨hb, hz⟩]
          simp (disch := first | assumption | omega | (refine inb_n ?_ ?_ <;> omega) | fail) only [ck_t, Option.bind_some, iLeP, iLeN, iLtP, iLtN, iEqP, iEqN, nI_1, pk_mul, nI_add, cl_n, zI0, zI1, zI8, bI_z, if_true_eq, if_false_eq, if_true, if_false, h5, eh, n1, n3, hN, nI_or, nI_and, es]
      · rw [show liS N A B I (j + 1) = liS N A B I j from if_neg (fun z => hb z.1)]
        rw [Bool.not_eq_false] at hb
        rw [hb] at eh
        simp (disch := first | assumption | omega | (refine inb_n ?_ ?_ <;> omega) | fail) only [ck_t, Option.bind_some, iLeP, iLeN, iLtP, iLtN, iEqP, iEqN, nI_1, pk_mul, nI_add, cl_n, zI0, zI1, zI8, bI_z, if_true_eq, if_false_eq, if_true, if_false, h5, eh, nI_or]
    · rw [lp_X2_leadingInto_15, bd_X2_leadingInto_15]
      simp (disch := first | assumption | omega | (refine inb_n ?_ ?_ <;> omega) | fail) only [ck_t, Option.bind_some, iLeP, iLeN, iLtP, iLtN, iEqP, iEqN, nI_1, pk_mul, nI_add, cl_n, zI0, zI1, zI8, bI_z, if_true_eq, if_false_eq, if_true, if_false, h5]
  have e := lpF (fun f (x : Int32) i3 => lp_X2_leadingInto_5 G M a (nI A) (nI B) f x i3) (fun t => nI (lrS N n A B t)) 8 (nI (lrS N n A B 8)) (by omega) (fun f j hj => by
    have e1 := er (lrS N n A B j) (nI j) (lrS_lt j)
    rw [lp_X2_leadingInto_5, bd_X2_leadingInto_5]
    simp (disch := first | assumption | omega | (refine inb_n ?_ ?_ <;> omega) | fail) only [ck_t, Option.bind_some, iLeP, iLeN, iLtP, iLtN, iEqP, iEqN, nI_1, pk_mul, nI_add, cl_n, zI0, zI1, zI8, bI_z, if_true_eq, if_false_eq, if_true, if_false, e1]
    try rfl) (fun f => by
    rw [lp_X2_leadingInto_5, bd_X2_leadingInto_5]
    simp (disch := first | assumption | omega | (refine inb_n ?_ ?_ <;> omega) | fail) only [ck_t, Option.bind_some, iLeP, iLeN, iLtP, iLtN, iEqP, iEqN, nI_1, pk_mul, nI_add, cl_n, zI0, zI1, zI8, bI_z, if_true_eq, if_false_eq, if_true, if_false])
  unfold f_X2_leadingInto
  rw [zI0]
  exact (congrArg (Option.bind · _) e)
end
/-- a fraction brought to its least -/
theorem put_eq {G : Gg} {M : Mm} {a u l : Nat} (h1 : isK G a 1) (hu : u < 2 ^ 63) (hl : l < 2 ^ 63) (h0 : 0 < l) : f_X1_put G M a (lN u) (lN l) = some (mwJ (mwJ M a 0 (lN (u / Nat.gcd u l))) a 1 (lN (l / Nat.gcd u l))) := by
  have hg : 0 < Nat.gcd u l := Nat.gcd_pos_of_pos_right _ h0
  have hg2 : Nat.gcd u l ≤ l := Nat.gcd_le_right _ h0
  have ec := cd_eq hu hl
  unfold f_X1_put
  simp (disch := first | assumption | omega | (refine inb_n ?_ ?_ <;> omega) | fail) only [ck_t, Option.bind_some, iLeP, iLeN, iLtP, iLtN, iEqP, iEqN, nI_1, pk_mul, nI_add, cl_n, zI0, zI1, zI8, bI_z, if_true_eq, if_false_eq, if_true, if_false, lEqP, lEqN, lGtP, lGtN, lLeP, lLeN, lGeP, lGeN, lLtP, lLtN, lN_mul, lN_add, nI_l, pk_lDiv, pk_lRem, ckl, zL0, zL1, ec]
