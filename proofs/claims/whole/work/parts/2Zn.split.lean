/-! the class's partition -/
def pC (G : Gg) (M : Mm) (o b t n : Nat) (P : Nat → Nat) : Prop := isK G o 5 ∧ M.2.2 o 0 = some b ∧ M.2.2 o 1 = some t ∧ (isK G b 10 ∧ G.2.2 b = 8) ∧ (isK G t 10 ∧ G.2.2 t = 8) ∧ b ≠ t ∧ n ≤ 8 ∧ M.1 o 2 = nI n ∧ (∀ k, k < n → M.1 b k = nI (P k)) ∧ ∀ k, k < n → P k < 2 ^ 31
theorem alB_f {p : Nat → Bool} {k n : Nat} (h : alB p k = false) (hk : k ≤ n) : alB p n = false := by
  rw [← Bool.not_eq_true] at h ⊢
  exact fun z => h (alB_t.mpr (fun i hi => alB_t.mp z i (by omega)))
theorem sB_gS {n : Nat} {P : Nat → Nat} {x : Nat} {f : Nat → Nat} : ∀ m, m ≤ n → sB (mkS (fun l => decide (P l = x)) n) f m = sN (fun l => if P l = x then f l else 0) m
  | 0, _ => rfl
  | m + 1, hm => by
    rw [sB_s, sN_succ, sB_gS m (by omega), mkS_t, decide_eq_true (show m < n by omega), Bool.true_and]
    congr 1
    by_cases e : P m = x
    · rw [if_pos e, if_pos (decide_eq_true e)]
    · rw [if_neg e, if_neg (by rw [decide_eq_false e]; decide)]
section
variable {G : Gg} {M : Mm} {o b t n a cl : Nat} {P : Nat → Nat} {c : Nat → Nat → Nat}
theorem memW_eq (h : pC G M o b t n P) {k : Nat} (hk : k < n) : f_X5_membersWith G M o (nI k) = some (nI (mkS (fun l => decide (P l = P k)) n)) := by
  obtain ⟨h1, h2, h3, ⟨h4, h5⟩, ⟨h6, h7⟩, h8, h9, h10, h11, h12⟩ := h
  have e := lpF (fun f (x : Int32) i3 => lp_X5_membersWith_4 G M o (nI k) f x i3) (fun j => nI (mkS (fun l => decide (P l = P k)) j)) n (nI (mkS (fun l => decide (P l = P k)) n)) (by omega) (fun f j hj => by
    have es := sh_1 (show j < 31 by omega)
    rw [zI1] at es
    have pj := h11 j hj
    have pk := h11 k hk
    have bj := h12 j hj
    have bk := h12 k hk
    rw [mkS_s]
    rw [lp_X5_membersWith_4, bd_X5_membersWith_4]
    by_cases hp : P j = P k
    · rw [if_pos (decide_eq_true hp)]
      simp (disch := first | assumption | omega | (refine inb_n ?_ ?_ <;> omega) | fail) only [ck_t, Option.bind_some, iLeP, iLeN, iLtP, iLtN, iEqP, iEqN, nI_1, pk_mul, nI_add, cl_n, zI0, zI1, zI8, bI_z, if_true_eq, if_false_eq, if_true, if_false, h10, h2, h5, pj, pk, es, nI_or]
    · rw [if_neg (show ¬ decide (P j = P k) = true by rw [decide_eq_false hp]; decide)]
      simp (disch := first | assumption | omega | (refine inb_n ?_ ?_ <;> omega) | fail) only [ck_t, Option.bind_some, iLeP, iLeN, iLtP, iLtN, iEqP, iEqN, nI_1, pk_mul, nI_add, cl_n, zI0, zI1, zI8, bI_z, if_true_eq, if_false_eq, if_true, if_false, h10, h2, h5, pj, pk, es, nI_or]) (fun f => by
    rw [lp_X5_membersWith_4, bd_X5_membersWith_4]
    simp (disch := first | assumption | omega | (refine inb_n ?_ ?_ <;> omega) | fail) only [ck_t, Option.bind_some, iLeP, iLeN, iLtP, iLtN, iEqP, iEqN, nI_1, pk_mul, nI_add, cl_n, zI0, zI1, zI8, bI_z, if_true_eq, if_false_eq, if_true, if_false, h10])
  have e' : lp_X5_membersWith_4 G M o (nI k) FU (nI 0) (nI 0) = some (nI (mkS (fun l => decide (P l = P k)) n)) := e
  unfold f_X5_membersWith
  simp (disch := first | assumption | omega | (refine inb_n ?_ ?_ <;> omega) | fail) only [ck_t, Option.bind_some, iLeP, iLeN, iLtP, iLtN, iEqP, iEqN, nI_1, pk_mul, nI_add, cl_n, zI0, zI1, zI8, bI_z, if_true_eq, if_false_eq, if_true, if_false, e']
theorem areL_1 (hp : pC G M o b t n P) (hc : chC G M a cl n c) (hb : ∀ i x, gS c n P i x ≤ 60) {i j : Nat} (hi : i < n) (hj : j < n) (b0 : Bool) : lp_X5_areLike_25 G M o a (nI i) (nI j) FU (bI b0) (nI 0) = some (bI (b0 && alB (fun k => decide (gS c n P i (P k) = gS c n P j (P k))) n)) := by
  obtain ⟨h1, h2, h3, ⟨h4, h5⟩, ⟨h6, h7⟩, h8, h9, h10, h11, h12⟩ := id hp
  have k0 := hc.1
  have b8 := p2_31 h9
  have e := lpI (fun f i5 (x : Int32) => lp_X5_areLike_25 G M o a (nI i) (nI j) f x i5) (fun k x => x = bI (b0 && alB (fun k => decide (gS c n P i (P k) = gS c n P j (P k))) k)) n (fun r => r = bI (b0 && alB (fun k => decide (gS c n P i (P k) = gS c n P j (P k))) n)) (by omega) (fun f k x hk hx => by
    cases hv : (b0 && alB (fun k => decide (gS c n P i (P k) = gS c n P j (P k))) k) with
    | false =>
      right
      rw [hv] at hx
      have hx' : x = nI 0 := hx
      refine ⟨nI 0, ?_, ?_⟩
      · rw [hx']
        rw [lp_X5_areLike_25, bd_X5_areLike_25]
        simp (disch := first | assumption | omega | (refine inb_n ?_ ?_ <;> omega) | fail) only [ck_t, Option.bind_some, iLeP, iLeN, iLtP, iLtN, iEqP, iEqN, nI_1, pk_mul, nI_add, cl_n, zI0, zI1, zI8, bI_z, if_true_eq, if_false_eq, if_true, if_false, h10]
      · cases hb0 : b0 with
        | false => rfl
        | true =>
          rw [hb0, Bool.true_and] at hv
          rw [alB_f hv (by omega)]
          rfl
    | true =>
      left
      rw [hv] at hx
      have hx' : x = nI 1 := hx
      have hm := memW_eq hp hk
      have hS : mkS (fun l => decide (P l = P k)) n < 2 ^ 31 := Nat.lt_of_lt_of_le (mkS_lt _ _) (Nat.pow_le_pow_right (by decide) (by omega))
      have ei := into_eq hc hi hS
      have ej := into_eq hc hj hS
      rw [sB_gS n (Nat.le_refl n)] at ei ej
      have ei' : f_X0_into G M a (nI i) (nI (mkS (fun l => decide (P l = P k)) n)) = some (nI (gS c n P i (P k))) := ei
      have ej' : f_X0_into G M a (nI j) (nI (mkS (fun l => decide (P l = P k)) n)) = some (nI (gS c n P j (P k))) := ej
      have u1 := hb i (P k)
      have u2 := hb j (P k)
      refine ⟨bI (b0 && alB (fun k => decide (gS c n P i (P k) = gS c n P j (P k))) (k + 1)), rfl, ?_⟩
      rw [alB_s, ← Bool.and_assoc, hv, Bool.true_and, hx']
      by_cases hq : gS c n P i (P k) = gS c n P j (P k)
      · rw [decide_eq_true hq]
        show _ = lp_X5_areLike_25 G M o a (nI i) (nI j) f (nI 1) (nI (k + 1))
        rw [lp_X5_areLike_25, bd_X5_areLike_25]
        simp (disch := first | assumption | omega | (refine inb_n ?_ ?_ <;> omega) | fail) only [ck_t, Option.bind_some, iLeP, iLeN, iLtP, iLtN, iEqP, iEqN, nI_1, pk_mul, nI_add, cl_n, zI0, zI1, zI8, bI_z, if_true_eq, if_false_eq, if_true, if_false, h10, hm, ei', ej']
      · rw [decide_eq_false hq]
        show _ = lp_X5_areLike_25 G M o a (nI i) (nI j) f (nI 0) (nI (k + 1))
        rw [lp_X5_areLike_25, bd_X5_areLike_25]
        simp (disch := first | assumption | omega | (refine inb_n ?_ ?_ <;> omega) | fail) only [ck_t, Option.bind_some, iLeP, iLeN, iLtP, iLtN, iEqP, iEqN, nI_1, pk_mul, nI_add, cl_n, zI0, zI1, zI8, bI_z, if_true_eq, if_false_eq, if_true, if_false, h10, hm, ei', ej']) (fun f x hx => by
    refine ⟨x, ?_, hx⟩
    rw [lp_X5_areLike_25, bd_X5_areLike_25]
    simp (disch := first | assumption | omega | (refine inb_n ?_ ?_ <;> omega) | fail) only [ck_t, Option.bind_some, iLeP, iLeN, iLtP, iLtN, iEqP, iEqN, nI_1, pk_mul, nI_add, cl_n, zI0, zI1, zI8, bI_z, if_true_eq, if_false_eq, if_true, if_false, h10]) (j0 := 0) (x := bI b0) (by omega) (by show bI b0 = bI (b0 && true); rw [Bool.and_true])
  obtain ⟨r, e1, rfl⟩ := e
  exact e1
theorem areL_eq (hp : pC G M o b t n P) (hc : chC G M a cl n c) (hb : ∀ i x, gS c n P i x ≤ 60) {i j : Nat} (hi : i < n) (hj : j < n) : f_X5_areLike G M o a (nI i) (nI j) = some (bI (lkB c n P i j)) := by
  have e1 := areL_1 hp hc hb hi hj true
  have e0 := areL_1 hp hc hb hi hj false
  obtain ⟨h1, h2, h3, ⟨h4, h5⟩, ⟨h6, h7⟩, h8, h9, h10, h11, h12⟩ := hp
  have pi := h11 i hi
  have pj := h11 j hj
  have bi := h12 i hi
  have bj := h12 j hj
  have e1' : lp_X5_areLike_25 G M o a (nI i) (nI j) FU (nI 1) (nI 0) = some (bI (true && alB (fun k => decide (gS c n P i (P k) = gS c n P j (P k))) n)) := e1
  have e0' : lp_X5_areLike_25 G M o a (nI i) (nI j) FU (nI 0) (nI 0) = some (bI (false && alB (fun k => decide (gS c n P i (P k) = gS c n P j (P k))) n)) := e0
  have b1 : ∀ b : Bool, bI b &&& nI 1 = bI b := fun b => bI_1
  unfold f_X5_areLike lkB
  by_cases hq : P i = P j
  · rw [decide_eq_true hq]
    simp (disch := first | assumption | omega | (refine inb_n ?_ ?_ <;> omega) | fail) only [ck_t, Option.bind_some, iLeP, iLeN, iLtP, iLtN, iEqP, iEqN, nI_1, pk_mul, nI_add, cl_n, zI0, zI1, zI8, bI_z, if_true_eq, if_false_eq, if_true, if_false, h2, h5, pi, pj, e1', b1]
    exact ck_t trivial
  · rw [decide_eq_false hq]
    simp (disch := first | assumption | omega | (refine inb_n ?_ ?_ <;> omega) | fail) only [ck_t, Option.bind_some, iLeP, iLeN, iLtP, iLtN, iEqP, iEqN, nI_1, pk_mul, nI_add, cl_n, zI0, zI1, zI8, bI_z, if_true_eq, if_false_eq, if_true, if_false, h2, h5, pi, pj, e0', b1]
    exact ck_t trivial
theorem fsL_eq (hp : pC G M o b t n P) (hc : chC G M a cl n c) (hb : ∀ i x, gS c n P i x ≤ 60) {i : Nat} (hi : i < n) : f_X5_firstLike G M o a (nI i) = some (nI (hdE (lkB c n P) i)) := by
  have h1 := hp.1
  have h9 := hp.2.2.2.2.2.2.1
  have e := lpI (fun f i3 (x : Unit) => lp_X5_firstLike_2 G M o a (nI i) f i3) (fun j _ => ∀ k, k < j → lkB c n P i k = false) i (fun r => r = .inl (nI (hdE (lkB c n P) i)) ∨ (r = .inr () ∧ hdE (lkB c n P) i = i)) (by omega) (fun f j x hj hx => by
    have ea := areL_eq hp hc hb hi (show j < n by omega)
    cases hv : lkB c n P i j with
    | false =>
      left
      rw [hv] at ea
      have ea' : f_X5_areLike G M o a (nI i) (nI j) = some (nI 0) := ea
      refine ⟨(), fun k hk => ?_, ?_⟩
      · by_cases e : k = j
        · subst e; exact hv
        · exact hx k (by omega)
      · rw [lp_X5_firstLike_2, bd_X5_firstLike_2]
        simp (disch := first | assumption | omega | (refine inb_n ?_ ?_ <;> omega) | fail) only [ck_t, Option.bind_some, iLeP, iLeN, iLtP, iLtN, iEqP, iEqN, nI_1, pk_mul, nI_add, cl_n, zI0, zI1, zI8, bI_z, if_true_eq, if_false_eq, if_true, if_false, ea']
    | true =>
      right
      rw [hv] at ea
      have ea' : f_X5_areLike G M o a (nI i) (nI j) = some (nI 1) := ea
      refine ⟨.inl (nI j), ?_, Or.inl ?_⟩
      · rw [lp_X5_firstLike_2, bd_X5_firstLike_2]
        simp (disch := first | assumption | omega | (refine inb_n ?_ ?_ <;> omega) | fail) only [ck_t, Option.bind_some, iLeP, iLeN, iLtP, iLtN, iEqP, iEqN, nI_1, pk_mul, nI_add, cl_n, zI0, zI1, zI8, bI_z, if_true_eq, if_false_eq, if_true, if_false, ea']
      · have : hdE (lkB c n P) i = j := fst_at hj hx hv
        rw [this]) (fun f x hx => by
    refine ⟨.inr (), ?_, Or.inr ⟨rfl, fst_no hx⟩⟩
    rw [lp_X5_firstLike_2, bd_X5_firstLike_2]
    simp (disch := first | assumption | omega | (refine inb_n ?_ ?_ <;> omega) | fail) only [ck_t, Option.bind_some, iLeP, iLeN, iLtP, iLtN, iEqP, iEqN, nI_1, pk_mul, nI_add, cl_n, zI0, zI1, zI8, bI_z, if_true_eq, if_false_eq, if_true, if_false]) (j0 := 0) (x := ()) (by omega) (fun k hk => absurd hk (Nat.not_lt_zero k))
  obtain ⟨r, e1, e2⟩ := e
  have e1' : lp_X5_firstLike_2 G M o a (nI i) FU (nI 0) = some r := e1
  unfold f_X5_firstLike
  rcases e2 with rfl | ⟨rfl, e2⟩
  · simp (disch := first | assumption | omega | (refine inb_n ?_ ?_ <;> omega) | fail) only [ck_t, Option.bind_some, iLeP, iLeN, iLtP, iLtN, iEqP, iEqN, nI_1, pk_mul, nI_add, cl_n, zI0, zI1, zI8, bI_z, if_true_eq, if_false_eq, if_true, if_false, e1', onS]
  · simp (disch := first | assumption | omega | (refine inb_n ?_ ?_ <;> omega) | fail) only [ck_t, Option.bind_some, iLeP, iLeN, iLtP, iLtN, iEqP, iEqN, nI_1, pk_mul, nI_add, cl_n, zI0, zI1, zI8, bI_z, if_true_eq, if_false_eq, if_true, if_false, e1', onS]
    rw [e2]
theorem pC_fr {x : Mm} (h : pC G M o b t n P) (hf : fr M x [o, t] []) (h2 : x.1 o 2 = nI n) : pC G x o b t n P := by
  obtain ⟨h1, h2', h3, ⟨h4, h5⟩, ⟨h6, h7⟩, h8, h9, h10, h11, h12⟩ := h
  have hb : x.1 b = M.1 b := hf.1 b (ne_in2 (kne h4 h1 (by decide)) h8)
  exact ⟨h1, by rw [hf.2.2]; exact h2', by rw [hf.2.2]; exact h3, ⟨h4, h5⟩, ⟨h6, h7⟩, h8, h9, h2, by rw [hb]; exact h11, h12⟩
theorem pC_cg {T : Nat → Nat} (h : pC G M o b t n P) (he : ∀ k, k < n → P k = T k) : pC G M o b t n T := by
  obtain ⟨h1, h2, h3, h4, h6, h8, h9, h10, h11, h12⟩ := h
  exact ⟨h1, h2, h3, h4, h6, h8, h9, h10, fun k hk => by rw [← he k hk]; exact h11 k hk, fun k hk => by rw [← he k hk]; exact h12 k hk⟩
theorem spl_7 (hp : pC G M o b t n P) (hc : chC G M a cl n c) (hb : ∀ i x, gS c n P i x ≤ 60) (ho : M.1 o 3 = nI 0) (nc : cl ∉ [o, t]) : OK (lp_X5_splitOnce_7 G o a FU (nI 0) M) (fun x => fr M x [o, t] [] ∧ x.1 o 2 = nI n ∧ x.1 o 3 = nI (ncE (lkB c n P) n) ∧ ∀ k, k < n → x.1 t k = nI (lbE (lkB c n P) k)) := by
  obtain ⟨h1, h2, h3, ⟨h4, h5⟩, ⟨h6, h7⟩, h8, h9, h10, h11, h12⟩ := id hp
  have nto : t ≠ o := kne h6 h1 (by decide)
  have na : a ∉ [o, t] := ne_in2 (kne hc.1 h1 (by decide)) (kne hc.1 h6 (by decide))
  have hE := lk_eqv (c := c) (n := n) P
  refine lpI (fun f i2 (x : Mm) => lp_X5_splitOnce_7 G o a f i2 x) (fun j x => fr M x [o, t] [] ∧ x.1 o 2 = nI n ∧ x.1 o 3 = nI (ct (rpE (lkB c n P)) j) ∧ ∀ k, k < j → x.1 t k = nI (lbE (lkB c n P) k)) n _ (by omega) (fun f i x hi hx => ?_) (fun f x hx => ?_) (j0 := 0) (x := M) (by omega) ⟨fr_rf, h10, ho, fun k hk => absurd hk (Nat.not_lt_zero k)⟩
  · obtain ⟨e1, e2, e3, e4⟩ := hx
    left
    have hpx := pC_fr hp e1 e2
    have hcx := chC_fr hc e1 na nc
    have ef := fsL_eq hpx hcx hb hi
    have hle := hd_le (lkB c n P) i
    have hcl := ct_le (rpE (lkB c n P)) i
    have x1 : x.2.2 o 1 = some t := hpx.2.2.1
    by_cases hh : hdE (lkB c n P) i = i
    · have hr : rpE (lkB c n P) i = true := decide_eq_true hh
      have hl : lbE (lkB c n P) i = ct (rpE (lkB c n P)) i := by unfold lbE; rw [hh]
      rw [hh] at ef
      have e3' : (mwI x t i (nI (ct (rpE (lkB c n P)) i))).1 o 3 = nI (ct (rpE (lkB c n P)) i) := by rw [mwI_n (Or.inl (Ne.symm nto))]; exact e3
      refine ⟨mwI (mwI x t i (nI (ct (rpE (lkB c n P)) i))) o 3 (nI (ct (rpE (lkB c n P)) i + 1)), ⟨fr_tr e1 (fr_tr (fr_I (by simp)) (fr_I (by simp))), ?_, ?_, fun k hk => ?_⟩, ?_⟩
      · rw [mwI_n (by omega), mwI_n (Or.inl (Ne.symm nto))]; exact e2
      · rw [mwI_s, ct_s, if_pos hr]
      · rw [mwI_n (Or.inl nto)]
        by_cases e : k = i
        · subst e; rw [mwI_s, hl]
        · rw [mwI_n (by omega)]; exact e4 k (by omega)
      · rw [lp_X5_splitOnce_7, bd_X5_splitOnce_7]
        simp (disch := first | assumption | omega | (refine inb_n ?_ ?_ <;> omega) | fail) only [ck_t, Option.bind_some, iLeP, iLeN, iLtP, iLtN, iEqP, iEqN, nI_1, pk_mul, nI_add, cl_n, zI0, zI1, zI8, bI_z, if_true_eq, if_false_eq, if_true, if_false, e2, ef, x1, h7, e3, e3']
    · have hr : rpE (lkB c n P) i = false := decide_eq_false hh
      have hl : lbE (lkB c n P) (hdE (lkB c n P) i) = lbE (lkB c n P) i := by unfold lbE; rw [hd_hd hE]
      have e5 := e4 (hdE (lkB c n P) i) (by omega)
      rw [hl] at e5
      refine ⟨mwI x t i (nI (lbE (lkB c n P) i)), ⟨fr_tr e1 (fr_I (by simp)), ?_, ?_, fun k hk => ?_⟩, ?_⟩
      · rw [mwI_n (Or.inl (Ne.symm nto))]; exact e2
      · rw [mwI_n (Or.inl (Ne.symm nto)), ct_s, hr]; exact e3
      · by_cases e : k = i
        · subst e; rw [mwI_s]
        · rw [mwI_n (by omega)]; exact e4 k (by omega)
      · rw [lp_X5_splitOnce_7, bd_X5_splitOnce_7]
        simp (disch := first | assumption | omega | (refine inb_n ?_ ?_ <;> omega) | fail) only [ck_t, Option.bind_some, iLeP, iLeN, iLtP, iLtN, iEqP, iEqN, nI_1, pk_mul, nI_add, cl_n, zI0, zI1, zI8, bI_z, if_true_eq, if_false_eq, if_true, if_false, e2, ef, x1, h7, e5]
  · obtain ⟨e1, e2, e3, e4⟩ := hx
    refine ⟨x, ?_, e1, e2, e3, e4⟩
    rw [lp_X5_splitOnce_7, bd_X5_splitOnce_7]
    simp (disch := first | assumption | omega | (refine inb_n ?_ ?_ <;> omega) | fail) only [ck_t, Option.bind_some, iLeP, iLeN, iLtP, iLtN, iEqP, iEqN, nI_1, pk_mul, nI_add, cl_n, zI0, zI1, zI8, bI_z, if_true_eq, if_false_eq, if_true, if_false, e2]
theorem spl_1 (hp : pC G M o b t n P) (hc : chC G M a cl n c) (hb : ∀ i x, gS c n P i x ≤ 60) (nc : cl ∉ [o, t]) : OK (f_X5_splitOnce G M o a) (fun x => fr M x [o, b, t] [] ∧ pC G x o b t n (nxP c n P) ∧ x.1 o 3 = nI (ncE (lkB c n P) n)) := by
  obtain ⟨h1, h2, h3, ⟨h4, h5⟩, ⟨h6, h7⟩, h8, h9, h10, h11, h12⟩ := id hp
  have nbo : b ≠ o := kne h4 h1 (by decide)
  have w0 : fr M (mwI M o 3 (nI 0)) [o, t] [] := fr_I (by simp)
  have na : a ∉ [o, t] := ne_in2 (kne hc.1 h1 (by decide)) (kne hc.1 h6 (by decide))
  obtain ⟨x, a1, a2, a3, a4, a5⟩ := spl_7 (pC_fr hp w0 (by rw [mwI_n (by omega)]; exact h10)) (chC_fr hc w0 na nc) hb mwI_s nc
  have x0 : x.2.2 o 0 = some b := by rw [a2.2.2, w0.2.2]; exact h2
  have x1 : x.2.2 o 1 = some t := by rw [a2.2.2, w0.2.2]; exact h3
  have hE := lk_eqv (c := c) (n := n) P
  refine ⟨mwC x b (va_cpy (x.1 t) (x.1 b) 0 0 n), ?_, ?_, ⟨h1, x0, x1, ⟨h4, h5⟩, ⟨h6, h7⟩, h8, h9, ?_, fun k hk => ?_, fun k hk => ?_⟩, ?_⟩
  · unfold f_X5_splitOnce
    simp (disch := first | assumption | omega | (refine inb_n ?_ ?_ <;> omega) | fail) only [ck_t, Option.bind_some, iLeP, iLeN, iLtP, iLtN, iEqP, iEqN, nI_1, pk_mul, nI_add, cl_n, zI0, zI1, zI8, bI_z, if_true_eq, if_false_eq, if_true, if_false, a1, x0, x1, a3, h5, h7]
    rw [ck_t (by decide), ck_t (nI_nlt (Nat.zero_le n) (by omega))]
  · refine fr_tr (fr_sub w0 (fun x hx => by simp at hx; simp; omega) (fun x hx => hx)) (fr_tr (fr_sub a2 (fun x hx => by simp at hx; simp; omega) (fun x hx => hx)) ⟨fun d hd => (mwC_o d (fun e => hd (by simp [e]))).1, fun _ _ => rfl, rfl⟩)
  · rw [(mwC_o o (Ne.symm nbo)).1]; exact a3
  · rw [mwC_1]
    unfold va_cpy
    rw [if_pos (by omega), show 0 + (k - 0) = k by omega]
    exact a5 k hk
  · have h1 := lb_lt hE hk
    have h2 : ncE (lkB c n P) n ≤ n := ct_le _ n
    show lbE (lkB c n P) k < _
    omega
  · rw [(mwC_o o (Ne.symm nbo)).1]; exact a4
end
