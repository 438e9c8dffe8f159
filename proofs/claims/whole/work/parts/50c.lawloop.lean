/-! the law's loop never answers false -/
theorem L6_p {L k : Nat} (hL : L ≤ 3072) (hk : k ≤ 3078) (h : L < k + 6) : Int32.ofNat L - (6 : Int32) < nI k := by
  by_cases h6 : 6 ≤ L
  · obtain ⟨m, rfl⟩ : ∃ m, L = m + 6 := ⟨L - 6, by omega⟩
    have e : Int32.ofNat (m + 6) - (6 : Int32) = nI m := by
      show nI (m + 6) - nI 6 = nI m
      rw [← nI_add, Int32.add_sub_cancel]
    rw [e]
    exact nI_lt (by omega) (by omega)
  · have h0 : Int32.ofNat L - (6 : Int32) < nI 0 := by
      match L, h6 with
      | 0, _ => decide
      | 1, _ => decide
      | 2, _ => decide
      | 3, _ => decide
      | 4, _ => decide
      | 5, _ => decide
      | n + 6, h => exact absurd (by omega) h
    by_cases hk0 : k = 0
    · subst hk0; exact h0
    · exact Int32.lt_trans h0 (nI_lt (by omega) (by omega))
theorem L6_n {L k : Nat} (hL : L ≤ 3072) (h : k + 6 ≤ L) : ¬ Int32.ofNat L - (6 : Int32) < nI k := by
  obtain ⟨m, rfl⟩ : ∃ m, L = m + 6 := ⟨L - 6, by omega⟩
  have e : Int32.ofNat (m + 6) - (6 : Int32) = nI m := by
    show nI (m + 6) - nI 6 = nI m
    rw [← nI_add, Int32.add_sub_cancel]
  rw [e]
  exact nI_nlt (by omega) (by omega)
section
variable {G : Gg} {A R : Nat → Nat} {q2 : Nat}
theorem L_chance (d : dj G A R q2) (k0 : isK G (A 0) 8) {M : Mm} (a b c e f : Int32) : f_L_chance G M (A 0) a b c e f q2 = lT_ G q2 (f_X8_chance G M (A 0) a b c e f) := by
  unfold f_L_chance
  rw [ck_t d.2.2.2.1, ck_t k0]
  rfl
theorem L_apart (d : dj G A R q2) (k0 : isK G (A 0) 8) {M : Mm} (a b c e f : Int32) : f_L_apart G M (A 0) a b c e f q2 = lT_ G q2 (f_X8_apart G M (A 0) a b c e f) := by
  unfold f_L_apart
  rw [ck_t d.2.2.2.1, ck_t k0]
  rfl
theorem L_stay (d : dj G A R q2) (k0 : isK G (A 0) 8) {M : Mm} (a b c : Int32) : f_L_stay G M (A 0) a b c q2 = lT_ G q2 (f_X8_stay G M (A 0) a b c) := by
  unfold f_L_stay
  rw [ck_t d.2.2.2.1, ck_t k0]
  rfl
theorem L_steps (d : dj G A R q2) (k0 : isK G (A 0) 8) {M : Mm} (a b c e : Int32) : f_L_steps G M (A 0) a b c e q2 = lT_ G q2 (f_X8_steps G M (A 0) a b c e) := by
  unfold f_L_steps
  rw [ck_t d.2.2.2.1, ck_t k0]
  rfl
theorem L_ahead (d : dj G A R q2) (k0 : isK G (A 0) 8) {M : Mm} (a b c e f : Int32) : f_L_ahead G M (A 0) a b c e f q2 = lT_ G q2 (f_X8_ahead G M (A 0) a b c e f) := by
  unfold f_L_ahead
  rw [ck_t d.2.2.2.1, ck_t k0]
  rfl
theorem L_narrow (d : dj G A R q2) (k0 : isK G (A 0) 8) {M : Mm} (a b : Int32) : f_L_narrow G M (A 0) a b q2 = lT_ G q2 (f_X8_narrow G M (A 0) a b) := by
  unfold f_L_narrow
  rw [ck_t d.2.2.2.1, ck_t k0]
  rfl
/-- what a call of two answers does in the law -/
theorem go_I {kf rf : Mm → Option (Int32 × Mm)} {rec : Mm → Option (Int32 ⊕ Mm)} {M : Mm} (hp : prI G A R kf rf) (hJ : bJ G A R M) : ∃ M2, bJ G A R M2 ∧ (Option.bind (kf M) fun q => Option.bind (rf q.2) fun r => if q.1 = r.1 then rec r.2 else some (.inl (0 : Int32))) = rec M2 := by
  obtain ⟨v, M1, M2, a1, a2, a3⟩ := hp M hJ
  refine ⟨M2, a3, ?_⟩
  rw [a1, Option.bind_some]
  dsimp only
  rw [a2, Option.bind_some]
  exact if_pos rfl
theorem go_Q {kf : Mm → Option Int32} {rf : Mm → Option (Int32 × Mm)} {rec : Mm → Option (Int32 ⊕ Mm)} {M : Mm} (hp : prQ G A R kf rf) (hJ : bJ G A R M) : ∃ M2, bJ G A R M2 ∧ (Option.bind (kf M) fun q => Option.bind (rf M) fun r => if q = r.1 then rec r.2 else some (.inl (0 : Int32))) = rec M2 := by
  obtain ⟨v, M2, a1, a2, a3⟩ := hp M hJ
  refine ⟨M2, a3, ?_⟩
  rw [a1, Option.bind_some, a2, Option.bind_some]
  exact if_pos rfl
theorem go_T (d : dj G A R q2) (k9 : isK G (R 0) 9) {lf : Mm → Option (Int32 × Mm)} {rf : Mm → Option (Int64 × Mm)} {rec : Mm → Option (Int32 ⊕ Mm)} {M : Mm} (hp : prT G A R q2 lf rf) (hJ : bJ G A R M) : ∃ M2, bJ G A R M2 ∧ (Option.bind (lf M) fun q => Option.bind (rf q.2) fun r => Option.bind (f_X9_thrown G r.2 (R 0)) fun t => if t = q.1 then (if q.1 = 0 then (ck (isK G q2 11) <| ck (inb (0 : Int32) (G.2.2 q2)) <| if (lg_cmp (r.2.2.1 q2 (Int32.toNatClampNeg (0 : Int32))) r.1) = 0 then rec r.2 else some (.inl (0 : Int32))) else rec r.2) else some (.inl (0 : Int32))) = rec M2 := by
  obtain ⟨M1, v, M2, a1, a2, a3⟩ := hp M hJ
  refine ⟨M2, a2, ?_⟩
  rcases a3 with ⟨b1, b2, b3⟩ | ⟨b1, b2⟩
  · rw [b1, Option.bind_some]
    dsimp only
    rw [a1, Option.bind_some]
    dsimp only
    unfold f_X9_thrown
    rw [ck_t k9, Option.bind_some, b2, if_pos rfl, if_pos rfl, ck_t d.2.2.2.1, ck_t (in_0 d)]
    have e : M2.2.1 q2 (Int32.toNatClampNeg (0 : Int32)) = v := b3
    rw [e, cmp_s]
    exact if_pos rfl
  · rw [b1, Option.bind_some]
    dsimp only
    rw [a1, Option.bind_some]
    dsimp only
    unfold f_X9_thrown
    rw [ck_t k9, Option.bind_some, b2, if_pos rfl, if_neg (by decide)]
theorem go_O (d : dj G A R q2) (k9 : isK G (R 0) 9) (a : Int32) {rec : Mm → Option (Int32 ⊕ Mm)} {M : Mm} (hJ : bJ G A R M) : ∃ M2, bJ G A R M2 ∧ (Option.bind (f_L_octet G M (A 0) a q2) fun q => Option.bind (f_X9_octet G q.2 (R 0) a) fun r => Option.bind (f_X9_thrown G r.2 (R 0)) fun t => if t = q.1 then (if q.1 = 0 then (ck (isK G q2 11) <| ck (inb (0 : Int32) (G.2.2 q2)) <| if (lg_cmp (r.2.2.1 q2 (Int32.toNatClampNeg (0 : Int32))) (Int32.toInt64 r.1)) = 0 then rec r.2 else some (.inl (0 : Int32))) else rec r.2) else some (.inl (0 : Int32))) = rec M2 := by
  obtain ⟨M1, v, M2, a1, a2, a3⟩ := P_octet d a M hJ
  refine ⟨M2, a2, ?_⟩
  rcases a3 with ⟨b1, b2, b3⟩ | ⟨b1, b2⟩
  · rw [b1, Option.bind_some]
    dsimp only
    rw [a1, Option.bind_some]
    dsimp only
    unfold f_X9_thrown
    rw [ck_t k9, Option.bind_some, b2, if_pos rfl, if_pos rfl, ck_t d.2.2.2.1, ck_t (in_0 d)]
    have e : M2.2.1 q2 (Int32.toNatClampNeg (0 : Int32)) = Int32.toInt64 v := b3
    rw [e, cmp_s]
    exact if_pos rfl
  · rw [b1, Option.bind_some]
    dsimp only
    rw [a1, Option.bind_some]
    dsimp only
    unfold f_X9_thrown
    rw [ck_t k9, Option.bind_some, b2, if_pos rfl, if_neg (by decide)]
theorem law_1 (d : dj G A R q2) {L k : Nat} {xs : Nat → Int32} {rec : Int32 → Mm → Option (Int32 ⊕ Mm)} {M : Mm} (hL : L ≤ 3072) (hk : k + 6 ≤ L) (hJ : bJ G A R M) : ∃ M2, bJ G A R M2 ∧ bd_law G L xs (A 0) (R 0) q2 rec (nI k) M = rec (nI k + 6) M2 := by
  have k8 : isK G (A 0) 8 := by
    obtain ⟨p, tl, tv, ol, ov, ns, qs, cs, h, hr⟩ := hJ
    exact h.1.2.1 0 (by decide)
  have k9 : isK G (R 0) 9 := by
    obtain ⟨p, tl, tv, ol, ov, ns, qs, cs, h, hr⟩ := hJ
    exact hr.1.2.1 0 (by decide)
  have i0 : inb (nI k) L := inb_n (by omega) (by omega)
  have ib : ∀ j, j < 6 → inb (nI k + nI j) L := fun j hj => by
    rw [nI_add]
    exact inb_n (by omega) (by omega)
  have i1 : inb (nI k + (1 : Int32)) L := ib 1 (by decide)
  have i2 : inb (nI k + (2 : Int32)) L := ib 2 (by decide)
  have i3 : inb (nI k + (3 : Int32)) L := ib 3 (by decide)
  have i4 : inb (nI k + (4 : Int32)) L := ib 4 (by decide)
  have i5 : inb (nI k + (5 : Int32)) L := ib 5 (by decide)
  unfold bd_law
  rw [if_neg (L6_n hL hk), ck_t i0]
  generalize xs (Int32.toNatClampNeg (nI k)) &&& (31 : Int32) = w
  generalize xs (Int32.toNatClampNeg (nI k + (1 : Int32))) = x1
  generalize xs (Int32.toNatClampNeg (nI k + (2 : Int32))) = x2
  generalize xs (Int32.toNatClampNeg (nI k + (3 : Int32))) = x3
  generalize xs (Int32.toNatClampNeg (nI k + (4 : Int32))) = x4
  generalize xs (Int32.toNatClampNeg (nI k + (5 : Int32))) = x5
  simp only [ck_t i1, ck_t i2, ck_t i3, ck_t i4, ck_t i5, ck_t k8, ck_t k9, L_chance d k8, L_apart d k8, L_stay d k8, L_steps d k8, L_ahead d k8, L_narrow d k8]
  by_cases c0 : w = 0
  · rw [if_pos c0]
    exact go_I (rec := rec (nI k + 6)) (P_feed d x1 x2 x3 x4 x5) hJ
  rw [if_neg c0]
  by_cases c1 : w = 1
  · rw [if_pos c1]
    exact go_I (rec := rec (nI k + 6)) (P_end d x1) hJ
  rw [if_neg c1]
  by_cases c2 : w = 2
  · rw [if_pos c2]
    exact go_I (rec := rec (nI k + 6)) (P_sheet d x1 x2 x3) hJ
  rw [if_neg c2]
  by_cases c3 : w = 3
  · rw [if_pos c3]
    exact go_I (rec := rec (nI k + 6)) (P_lazy d x1 x2) hJ
  rw [if_neg c3]
  by_cases c4 : w = 4
  · rw [if_pos c4]
    exact go_I (rec := rec (nI k + 6)) (P_back d x1 x2) hJ
  rw [if_neg c4]
  by_cases c5 : w = 5
  · rw [if_pos c5]
    exact go_I (rec := rec (nI k + 6)) (P_melt d x1 x2) hJ
  rw [if_neg c5]
  by_cases c6 : w = 6
  · rw [if_pos c6]
    exact go_O (rec := rec (nI k + 6)) d k9 x1 hJ
  rw [if_neg c6]
  by_cases c7 : w = 7
  · rw [if_pos c7]
    exact go_Q (rec := rec (nI k + 6)) (P_about d x1 x2) hJ
  rw [if_neg c7]
  by_cases c8 : w = 8
  · rw [if_pos c8]
    exact go_Q (rec := rec (nI k + 6)) (P_state d x1 x2 x3) hJ
  rw [if_neg c8]
  by_cases c9 : w = 9
  · rw [if_pos c9]
    exact go_T (rec := rec (nI k + 6)) d k9 (P_chance d x1 x2 x3 x4 x5) hJ
  rw [if_neg c9]
  by_cases c10 : w = 10
  · rw [if_pos c10]
    exact go_T (rec := rec (nI k + 6)) d k9 (P_apart d x1 x2 x3 x4 x5) hJ
  rw [if_neg c10]
  by_cases c11 : w = 11
  · rw [if_pos c11]
    exact go_I (rec := rec (nI k + 6)) (P_when d x1 x2 x3) hJ
  rw [if_neg c11]
  by_cases c12 : w = 12
  · rw [if_pos c12]
    exact go_T (rec := rec (nI k + 6)) d k9 (P_stay d x1 x2 x3) hJ
  rw [if_neg c12]
  by_cases c13 : w = 13
  · rw [if_pos c13]
    exact go_T (rec := rec (nI k + 6)) d k9 (P_steps d x1 x2 x3 x4) hJ
  rw [if_neg c13]
  by_cases c14 : w = 14
  · rw [if_pos c14]
    exact go_T (rec := rec (nI k + 6)) d k9 (P_ahead d x1 x2 x3 x4 x5) hJ
  rw [if_neg c14]
  by_cases c15 : w = 15
  · rw [if_pos c15]
    exact go_T (rec := rec (nI k + 6)) d k9 (P_narrow d x1 x2) hJ
  rw [if_neg c15]
  by_cases c16 : w = 16
  · rw [if_pos c16]
    exact go_I (rec := rec (nI k + 6)) (P_cut d x1) hJ
  rw [if_neg c16]
  by_cases c17 : w = 17
  · rw [if_pos c17]
    exact go_Q (rec := rec (nI k + 6)) (P_count d x1) hJ
  rw [if_neg c17]
  exact ⟨M, hJ, rfl⟩
theorem law_ok (d : dj G A R q2) {L : Nat} {xs : Nat → Int32} {M : Mm} (hL : L ≤ 3072) (hJ : bJ G A R M) : OK (lp_law G L xs (A 0) (R 0) q2 FU (0 : Int32) M) (fun o => ∃ M, o = .inr M) := by
  have e := lpI (fun f (_ : Int32) (x : Int32 × Mm) => lp_law G L xs (A 0) (R 0) q2 f x.1 x.2) (fun j x => x.1 = nI (6 * j) ∧ bJ G A R x.2) 513 (fun o => ∃ M, o = .inr M) (by decide) (fun f j x hj hx => by
    obtain ⟨x1, x2⟩ := x
    obtain ⟨e1, e2⟩ := hx
    dsimp only at e1 e2 ⊢
    subst e1
    by_cases hc : 6 * j + 6 ≤ L
    · left
      obtain ⟨M2, a1, a2⟩ := law_1 (xs := xs) (rec := lp_law G L xs (A 0) (R 0) q2 f) d hL hc e2
      refine ⟨(nI (6 * (j + 1)), M2), ⟨rfl, a1⟩, ?_⟩
      show bd_law G L xs (A 0) (R 0) q2 (lp_law G L xs (A 0) (R 0) q2 f) (nI (6 * j)) x2 = _
      rw [a2]
      have : nI (6 * j) + (6 : Int32) = nI (6 * (j + 1)) := by
        show nI (6 * j) + nI 6 = _
        rw [nI_add]
        congr 1
      rw [this]
    · right
      refine ⟨.inr x2, ?_, x2, rfl⟩
      show bd_law G L xs (A 0) (R 0) q2 (lp_law G L xs (A 0) (R 0) q2 f) (nI (6 * j)) x2 = _
      unfold bd_law
      rw [if_pos (L6_p hL (by omega) (by omega))]) (fun f x hx => by
    obtain ⟨x1, x2⟩ := x
    obtain ⟨e1, e2⟩ := hx
    dsimp only at e1 e2 ⊢
    subst e1
    refine ⟨.inr x2, ?_, x2, rfl⟩
    show bd_law G L xs (A 0) (R 0) q2 (lp_law G L xs (A 0) (R 0) q2 f) (nI (6 * 513)) x2 = _
    unfold bd_law
    rw [if_pos (L6_p hL (by omega) (by omega))]) (j0 := 0) (x := (nI 0, M)) (by decide) ⟨rfl, hJ⟩
  exact e
end
