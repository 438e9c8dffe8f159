/-! what is reached without stepping into a set; what leads into one ahead of another -/
theorem cnt_sb {S T : Nat} : ∀ {n : Nat}, (∀ i, i < n → S.testBit i = true → T.testBit i = true) → cnt S n ≤ cnt T n
  | 0, _ => Nat.le_refl _
  | n + 1, h => by
    have ih := cnt_sb (S := S) (T := T) (n := n) (fun i hi => h i (by omega))
    rw [cnt_s, cnt_s]
    by_cases hs : S.testBit n = true
    · rw [if_pos hs, if_pos (h n (by omega) hs)]
      omega
    · rw [if_neg hs]
      split <;> omega
theorem cnt_ss {S T : Nat} : ∀ {n z : Nat}, (∀ i, i < n → S.testBit i = true → T.testBit i = true) → z < n → S.testBit z = false → T.testBit z = true → cnt S n < cnt T n
  | 0, z, _, hz, _, _ => absurd hz (by omega)
  | n + 1, z, h, hz, h1, h2 => by
    rw [cnt_s, cnt_s]
    by_cases e : z = n
    · subst e
      have := cnt_sb (S := S) (T := T) (n := z) (fun i hi => h i (by omega))
      rw [h1, h2]
      simp
      omega
    · have ih := cnt_ss (S := S) (T := T) (n := n) (z := z) (fun i hi => h i (by omega)) (by omega) h1 h2
      by_cases hs : S.testBit n = true
      · rw [if_pos hs, if_pos (h n (by omega) hs)]
        omega
      · rw [if_neg hs]
        split <;> omega
theorem set_ne {S T n : Nat} (hS : S < 2 ^ n) (hT : T < 2 ^ n) (hsub : ∀ i, i < n → S.testBit i = true → T.testBit i = true) (h : S ≠ T) : ∃ z, z < n ∧ S.testBit z = false ∧ T.testBit z = true := by
  apply Classical.byContradiction
  intro hno
  apply h
  apply set_ext hS hT
  intro i hi
  by_cases hs : S.testBit i = true
  · rw [hs, hsub i hi hs]
  · rw [Bool.not_eq_true] at hs
    by_cases ht : T.testBit i = true
    · exact absurd ⟨i, hi, hs, ht⟩ hno
    · rw [Bool.not_eq_true] at ht
      rw [hs, ht]
/-- a growing row of sets of eight states stands still after eight turns -/
theorem grow_fix {F : Nat → Nat} {n : Nat} (hn : n ≤ 8) (g : Nat → Nat) (h0 : ∀ t, g t < 2 ^ n) (hs : ∀ t, g (t + 1) = F (g t)) (hm : ∀ t i, i < n → (g t).testBit i = true → (g (t + 1)).testBit i = true) : g 9 = g 8 := by
  apply Classical.byContradiction
  intro hne
  have hstay : ∀ t, g (t + 1) = g t → ∀ k, g (t + k) = g t := fun t e k => by
    induction k with
    | zero => rfl
    | succ k ih => rw [show t + (k + 1) = (t + k) + 1 by omega, hs, ih, ← hs, e]
  have key : ∀ t, t ≤ 9 → t ≤ cnt (g t) n := by
    intro t
    induction t with
    | zero => intro _; exact Nat.zero_le _
    | succ t ih =>
      intro ht
      have ih := ih (by omega)
      have hneq : g t ≠ g (t + 1) := fun e => hne (by
        have h1 := hstay t e.symm (8 - t)
        have h2 := hstay t e.symm (9 - t)
        rw [show t + (8 - t) = 8 by omega] at h1
        rw [show t + (9 - t) = 9 by omega] at h2
        rw [h1, h2])
      obtain ⟨z, hz, z1, z2⟩ := set_ne (h0 t) (h0 (t + 1)) (hm t) hneq
      have := cnt_ss (hm t) hz z1 z2
      omega
  have h9 := key 9 (Nat.le_refl 9)
  have := cnt_le (g 9) n
  omega
theorem unS_t {N : Nat → Nat} {S j : Nat} : ∀ {m : Nat}, (unS N S m).testBit j = true ↔ ∃ k, k < m ∧ S.testBit k = true ∧ (N k).testBit j = true
  | 0 => by
    constructor
    · intro h
      rw [show unS N S 0 = 0 from rfl, Nat.zero_testBit] at h
      cases h
    · intro ⟨k, hk, _⟩
      omega
  | m + 1 => by
    rw [unS_s, Nat.testBit_or, Bool.or_eq_true, unS_t]
    constructor
    · intro h
      rcases h with ⟨k, hk, h1, h2⟩ | h
      · exact ⟨k, by omega, h1, h2⟩
      · by_cases hb : S.testBit m = true
        · rw [if_pos hb] at h
          exact ⟨m, by omega, hb, h⟩
        · rw [if_neg hb, Nat.zero_testBit] at h
          cases h
    · intro ⟨k, hk, h1, h2⟩
      by_cases e : k = m
      · subst e
        right
        rw [if_pos h1]
        exact h2
      · exact Or.inl ⟨k, by omega, h1, h2⟩
def clS (c : Nat → Nat → Nat) (n S Z : Nat) : Prop := ∀ k j, k < n → j < n → Z.testBit k = true → 0 < c k j → S.testBit j = false → Z.testBit j = true
def isCl (c : Nat → Nat → Nat) (n S i Z : Nat) : Prop := Z < 2 ^ n ∧ Z.testBit i = true ∧ clS c n S Z ∧ ∀ Q : Nat → Prop, Q i → (∀ k j, k < n → j < n → Q k → 0 < c k j → S.testBit j = false → Q j) → ∀ j, j < n → Z.testBit j = true → Q j
theorem isCl_un {c : Nat → Nat → Nat} {n S i Z Y : Nat} (h : isCl c n S i Z) (h2 : isCl c n S i Y) : Z = Y := by
  apply set_ext h.1 h2.1
  intro j hj
  rw [Bool.eq_iff_iff]
  exact ⟨fun hz => h.2.2.2 (fun j => Y.testBit j = true) h2.2.1 h2.2.2.1 j hj hz, fun hz => h2.2.2.2 (fun j => Z.testBit j = true) h.2.1 h.2.2.1 j hj hz⟩
theorem isCl_out {c : Nat → Nat → Nat} {n S i Z : Nat} (h : isCl c n S i Z) (hi : S.testBit i = false) {j : Nat} (hj : j < n) (hz : Z.testBit j = true) : S.testBit j = false := h.2.2.2 (fun j => S.testBit j = false) hi (fun _ _ _ _ _ _ hs => hs) j hj hz
section
variable {c : Nat → Nat → Nat} {n : Nat}
theorem cN_b (c : Nat → Nat → Nat) (n : Nat) : ∀ i, cN c n i < 2 ^ n := fun _ => mkS_lt _ _
theorem ro_t {i S t j : Nat} (hn : n ≤ 8) (hj : j < n) : (roS (cN c n) n i S (t + 1)).testBit j = true ↔ (roS (cN c n) n i S t).testBit j = true ∨ (∃ k, k < n ∧ (roS (cN c n) n i S t).testBit k = true ∧ 0 < c k j) ∧ S.testBit j = false := by
  show (roS (cN c n) n i S t ||| sdf (unS (cN c n) (roS (cN c n) n i S t) n) S).testBit j = true ↔ _
  rw [Nat.testBit_or, Bool.or_eq_true, sdf_t (by omega), Bool.and_eq_true, unS_t]
  constructor
  · intro h
    rcases h with h | ⟨⟨k, hk, h1, h2⟩, h3⟩
    · exact Or.inl h
    · rw [cN_t hj, decide_eq_true_eq] at h2
      exact Or.inr ⟨⟨k, hk, h1, h2⟩, by simpa using h3⟩
  · intro h
    rcases h with h | ⟨⟨k, hk, h1, h2⟩, h3⟩
    · exact Or.inl h
    · exact Or.inr ⟨⟨k, hk, h1, by rw [cN_t hj]; exact decide_eq_true h2⟩, by simp [h3]⟩
theorem roS_cl {i S : Nat} (hn : n ≤ 8) (hi : i < n) : isCl c n S i (roS (cN c n) n i S 8) := by
  have hfix : roS (cN c n) n i S 9 = roS (cN c n) n i S 8 := grow_fix (F := fun Z => Z ||| sdf (unS (cN c n) Z n) S) hn (roS (cN c n) n i S) (fun t => roS_lt (cN_b c n) hi t) (fun _ => rfl) (fun t j hj h => (ro_t hn hj).mpr (Or.inl h))
  have h0 : ∀ t, (roS (cN c n) n i S t).testBit i = true := by
    intro t
    induction t with
    | zero => show (2 ^ i).testBit i = true; rw [Nat.testBit_two_pow]; simp
    | succ t ih => exact (ro_t hn hi).mpr (Or.inl ih)
  refine ⟨roS_lt (cN_b c n) hi 8, h0 8, fun k j hk hj hz hc hs => ?_, fun Q hQ hcl j hj hz => ?_⟩
  · rw [← hfix]
    exact (ro_t hn hj).mpr (Or.inr ⟨⟨k, hk, hz, hc⟩, hs⟩)
  · have key : ∀ t j, j < n → (roS (cN c n) n i S t).testBit j = true → Q j := by
      intro t
      induction t with
      | zero =>
        intro j hj h
        have h' : (2 ^ i).testBit j = true := h
        rw [Nat.testBit_two_pow, decide_eq_true_eq] at h'
        subst h'
        exact hQ
      | succ t ih =>
        intro j hj h
        rcases (ro_t hn hj).mp h with h | ⟨⟨k, hk, h1, h2⟩, h3⟩
        · exact ih j hj h
        · exact hcl k j hk hj (ih k hk h1) h2 h3
    exact key 8 j hj hz
/-- the states outside of both that lead into the first -/
def isLd (c : Nat → Nat → Nat) (n A B X : Nat) : Prop := X < 2 ^ n ∧ (∀ j k, j < n → k < n → (A ||| B).testBit j = false → 0 < c j k → (A.testBit k = true ∨ X.testBit k = true) → X.testBit j = true) ∧ ∀ Q : Nat → Prop, (∀ j k, j < n → k < n → (A ||| B).testBit j = false → 0 < c j k → (A.testBit k = true ∨ Q k) → Q j) → ∀ j, j < n → X.testBit j = true → Q j
theorem li_mono {A B I j : Nat} {N : Nat → Nat} : ∀ {m : Nat}, j ≤ m → ∀ x, (liS N A B I j).testBit x = true → (liS N A B I m).testBit x = true
  | 0, h, x, hx => by
    have : j = 0 := by omega
    subst this; exact hx
  | m + 1, h, x, hx => by
    by_cases e : j = m + 1
    · subst e; exact hx
    · have ih := li_mono (A := A) (B := B) (I := I) (N := N) (m := m) (show j ≤ m by omega) x hx
      show (if _ then _ else _ : Nat).testBit x = true
      split
      · rw [Nat.testBit_or, ih]; rfl
      · exact ih
theorem and_ne {a b k : Nat} (h1 : a.testBit k = true) (h2 : b.testBit k = true) : a &&& b ≠ 0 := fun e => by
  have : (a &&& b).testBit k = true := by rw [Nat.testBit_and, h1, h2]; rfl
  rw [e, Nat.zero_testBit] at this
  cases this
theorem and_ex {a b n : Nat} (ha : a < 2 ^ n) (h : a &&& b ≠ 0) : ∃ k, k < n ∧ a.testBit k = true ∧ b.testBit k = true := by
  apply Classical.byContradiction
  intro hno
  apply h
  rw [set_0 (Nat.lt_of_le_of_lt Nat.and_le_left ha)]
  intro i hi
  rw [Nat.testBit_and]
  by_cases h1 : a.testBit i = true
  · by_cases h2 : b.testBit i = true
    · exact absurd ⟨i, hi, h1, h2⟩ hno
    · rw [Bool.not_eq_true] at h2
      rw [h2, Bool.and_false]
  · rw [Bool.not_eq_true] at h1
    rw [h1]
    rfl
theorem lrS_ld {A B : Nat} (hn : n ≤ 8) : isLd c n A B (lrS (cN c n) n A B 8) := by
  have hfix : lrS (cN c n) n A B 9 = lrS (cN c n) n A B 8 := grow_fix (F := fun I => liS (cN c n) A B I n) hn (lrS (cN c n) n A B) (fun t => lrS_lt t) (fun _ => rfl) (fun t j hj h => li_mono (j := 0) (by omega) j h)
  refine ⟨lrS_lt 8, fun j k hj hk hab hc hx => ?_, fun Q hQ j hj hz => ?_⟩
  · rw [← hfix]
    refine li_mono (show j + 1 ≤ n by omega) j ?_
    show (if _ then _ else _ : Nat).testBit j = true
    have hb : (cN c n j).testBit k = true := by rw [cN_t hk]; exact decide_eq_true hc
    have hb2 : (A ||| liS (cN c n) A B (lrS (cN c n) n A B 8) j).testBit k = true := by
      rw [Nat.testBit_or]
      rcases hx with hx | hx
      · rw [hx]; rfl
      · rw [li_mono (j := 0) (I := lrS (cN c n) n A B 8) (N := cN c n) (A := A) (B := B) (m := j) (by omega) k hx, Bool.or_true]
    rw [if_pos ⟨hab, and_ne hb hb2⟩, Nat.testBit_or, Nat.testBit_two_pow]
    simp
  · have row : ∀ I, (∀ x, x < n → I.testBit x = true → Q x) → ∀ m, m ≤ n → ∀ x, x < n → (liS (cN c n) A B I m).testBit x = true → Q x := by
      intro I hI m
      induction m with
      | zero => intro _ x hx h; exact hI x hx h
      | succ m ih =>
        intro hm x hx h
        have ih := ih (by omega)
        have h' : (if (A ||| B).testBit m = false ∧ cN c n m &&& (A ||| liS (cN c n) A B I m) ≠ 0 then liS (cN c n) A B I m ||| 2 ^ m else liS (cN c n) A B I m).testBit x = true := h
        split at h'
        · rename_i hc
          rw [Nat.testBit_or, Bool.or_eq_true, Nat.testBit_two_pow, decide_eq_true_eq] at h'
          rcases h' with h' | rfl
          · exact ih x hx h'
          · obtain ⟨k, hk, k1, k2⟩ := and_ex (cN_b c n m) hc.2
            rw [cN_t hk, decide_eq_true_eq] at k1
            rw [Nat.testBit_or, Bool.or_eq_true] at k2
            exact hQ m k (by omega) hk hc.1 k1 (k2.imp id (fun z => ih k hk z))
        · exact ih x hx h'
    have all : ∀ t x, x < n → (lrS (cN c n) n A B t).testBit x = true → Q x := by
      intro t
      induction t with
      | zero =>
        intro x _ h
        rw [show lrS (cN c n) n A B 0 = 0 from rfl, Nat.zero_testBit] at h
        cases h
      | succ t ih => exact fun x hx h => row _ ih n (Nat.le_refl n) x hx h
    exact all 8 j hj hz
theorem ld_out {A B X j : Nat} (h : isLd c n A B X) (hj : j < n) (hx : X.testBit j = true) : (A ||| B).testBit j = false := h.2.2 (fun j => (A ||| B).testBit j = false) (fun _ _ _ _ hab _ _ => hab) j hj hx
theorem ld_lv {A B X : Nat} (h : isLd c n A B X) : lvT c n X := by
  intro x hx hb P hP hcl
  apply Classical.byContradiction
  intro hno
  have hin : ∀ y, y < n → P y → X.testBit y = true := fun y hy hp => by
    apply Classical.byContradiction
    intro hz
    rw [Bool.not_eq_true] at hz
    exact hno ⟨y, hy, hp, hz⟩
  refine h.2.2 (fun j => ¬ P j) (fun j k hj hk hab hc hx hp => ?_) x hx hb hP
  have hpk := hcl j k hp hc
  rcases hx with hx | hx
  · have := ld_out h hk (hin k hk hpk)
    rw [Nat.testBit_or, hx] at this
    cases this
  · exact hx hpk
theorem sub_lv {X Y : Nat} (h : lvT c n X) (hs : ∀ i, i < n → Y.testBit i = true → X.testBit i = true) : lvT c n Y := by
  intro x hx hb P hP hcl
  obtain ⟨y, hy, h1, h2⟩ := h x hx (hs x hx hb) P hP hcl
  refine ⟨y, hy, h1, ?_⟩
  apply Classical.byContradiction
  intro hz
  rw [Bool.not_eq_false] at hz
  rw [hs y hy hz] at h2
  cases h2
/-- some of Z steps into A -/
def coB (c : Nat → Nat → Nat) (n Z A : Nat) : Prop := ∃ x y, x < n ∧ y < n ∧ Z.testBit x = true ∧ A.testBit y = true ∧ 0 < c x y
theorem co_iff {A B X k Z : Nat} (hn : n ≤ 8) (h : isLd c n A B X) (hk : k < n) (hab : (A ||| B).testBit k = false) (hz : isCl c n (A ||| B) k Z) : coB c n Z A ↔ X.testBit k = true := by
  constructor
  · intro ⟨x, y, hx, hy, h1, h2, h3⟩
    apply Classical.byContradiction
    intro hkx
    rw [Bool.not_eq_true] at hkx
    have := hz.2.2.2 (fun j => X.testBit j = false ∧ (A ||| B).testBit j = false) ⟨hkx, hab⟩ (fun a j ha hj hq hc hs => And.intro (Classical.byContradiction (fun hj2 => by
      rw [Bool.not_eq_false] at hj2
      have := h.2.1 a j ha hj hq.2 hc (Or.inr hj2)
      rw [hq.1] at this
      cases this)) hs) x hx h1
    have h4 := h.2.1 x y hx hy this.2 h3 (Or.inl h2)
    rw [this.1] at h4
    cases h4
  · intro hkx
    have key := h.2.2 (fun j => (A ||| B).testBit j = false ∧ ∀ W, isCl c n (A ||| B) j W → coB c n W A) (fun j m hj hm hjab hc hx => ⟨hjab, fun W hW => by
      rcases hx with hx | ⟨hma, hx⟩
      · exact ⟨j, m, hj, hm, hW.2.1, hx, hc⟩
      · have hcl := roS_cl (c := c) (S := A ||| B) hn hm
        obtain ⟨x, y, hx1, hy1, h1, h2, h3⟩ := hx _ hcl
        have hmW := hW.2.2.1 j m hj hm hW.2.1 hc hma
        exact ⟨x, y, hx1, hy1, hcl.2.2.2 (fun z => W.testBit z = true) hmW hW.2.2.1 x hx1 h1, h2, h3⟩⟩) k hk hkx
    exact key.2 Z hz
end
