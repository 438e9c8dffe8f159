/-! the class's minors: filled out of a chain, a column changed, both determinants -/
/-- nothing but these ints and these longs has changed -/
def fr (M M' : Mm) (ai al : List Nat) : Prop := (∀ b, b ∉ ai → M'.1 b = M.1 b) ∧ (∀ b, b ∉ al → M'.2.1 b = M.2.1 b) ∧ M'.2.2 = M.2.2
theorem fr_rf {M : Mm} {ai al : List Nat} : fr M M ai al := ⟨fun _ _ => rfl, fun _ _ => rfl, rfl⟩
theorem fr_tr {M M1 M2 : Mm} {ai al : List Nat} (h : fr M M1 ai al) (h2 : fr M1 M2 ai al) : fr M M2 ai al := ⟨fun b hb => (h2.1 b hb).trans (h.1 b hb), fun b hb => (h2.2.1 b hb).trans (h.2.1 b hb), h2.2.2.trans h.2.2⟩
theorem fr_sub {M M' : Mm} {ai al bi bl : List Nat} (h : fr M M' ai al) (h1 : ∀ x, x ∈ ai → x ∈ bi) (h2 : ∀ x, x ∈ al → x ∈ bl) : fr M M' bi bl := ⟨fun b hb => h.1 b (fun z => hb (h1 b z)), fun b hb => h.2.1 b (fun z => hb (h2 b z)), h.2.2⟩
theorem fr_I {M : Mm} {a k : Nat} {x : Int32} {ai al : List Nat} (h : a ∈ ai) : fr M (mwI M a k x) ai al := ⟨fun b hb => va_up_ne _ _ (fun e => hb (e ▸ h)), fun _ _ => rfl, rfl⟩
theorem fr_J {M : Mm} {a k : Nat} {x : Int64} {ai al : List Nat} (h : a ∈ al) : fr M (mwJ M a k x) ai al := ⟨fun _ _ => rfl, fun b hb => va_up_ne _ _ (fun e => hb (e ▸ h)), rfl⟩
theorem kne {G : Gg} {a b k l : Nat} (h1 : isK G a k) (h2 : isK G b l) (h : k ≠ l) : a ≠ b := fun e => h (h1.2.symm.trans (e ▸ h2.2))
theorem ne_in {a b : Nat} (h : a ≠ b) : a ∉ [b] := fun z => h (List.mem_singleton.mp z)
theorem ne_in2 {a b c : Nat} (h : a ≠ b) (h2 : a ≠ c) : a ∉ [b, c] := fun z => (List.mem_cons.mp z).elim h (fun z => h2 (List.mem_singleton.mp z))
theorem in_1 {a : Nat} : a ∈ [a] := List.mem_singleton.mpr rfl
theorem mwI_g {M : Mm} {a k b j : Nat} {x : Int32} : (mwI M a k x).1 b j = if b = a ∧ j = k then x else M.1 b j := by
  by_cases hb : b = a
  · subst hb
    rw [mwI_1]
    unfold upd
    by_cases hj : j = k
    · rw [if_pos hj, if_pos ⟨rfl, hj⟩]
    · rw [if_neg hj, if_neg (fun h => hj h.2)]
  · rw [if_neg (fun h => hb h.1)]
    exact congrFun (va_up_ne _ _ hb) j
theorem mwI_s {M : Mm} {a k : Nat} {x : Int32} : (mwI M a k x).1 a k = x := by rw [mwI_g, if_pos ⟨rfl, rfl⟩]
theorem mwJ_s {M : Mm} {a k : Nat} {x : Int64} : (mwJ M a k x).2.1 a k = x := by rw [mwJ_g, if_pos ⟨rfl, rfl⟩]
theorem mwI_n {M : Mm} {a k b j : Nat} {x : Int32} (h : b ≠ a ∨ j ≠ k) : (mwI M a k x).1 b j = M.1 b j := by rw [mwI_g, if_neg (by omega)]
theorem mwJ_n {M : Mm} {a k b j : Nat} {x : Int64} (h : b ≠ a ∨ j ≠ k) : (mwJ M a k x).2.1 b j = M.2.1 b j := by rw [mwJ_g, if_neg (by omega)]
theorem chC_fr {G : Gg} {M M' : Mm} {a cl n : Nat} {c : Nat → Nat → Nat} {ai al : List Nat} (h : chC G M a cl n c) (hf : fr M M' ai al) (ha : a ∉ ai) (hc : cl ∉ ai) : chC G M' a cl n c := by
  obtain ⟨h1, h2, h3, h4, h5, h6, h7, h8⟩ := h
  obtain ⟨f1, f2, f3⟩ := hf
  exact ⟨h1, by rw [f3]; exact h2, h3, h4, by rw [f1 a ha]; exact h5, h6, fun i j hi hj => by rw [f1 cl hc]; exact h7 i j hi hj, h8⟩
theorem toL_sub {a b : Nat} (ha : a < 2 ^ 30) (hb : b < 2 ^ 30) : Int32.toInt64 (nI a - nI b) = Int64.ofInt ((a : Int) - (b : Int)) := by
  apply Int64.toInt_inj.mp
  rw [Int32.toInt_toInt64, pk_sub_toInt ha hb, Int64.toInt_ofInt]
  exact (fb_bm (by omega) (by omega)).symm
/-- Q on the diagonal less the chances, for the states of a set -/
def mtx (q : Nat) (c : Nat → Nat → Nat) (n S : Nat) (r k : Nat) : Int := ((if el S r n = el S k n then q else 0 : Nat) : Int) - ((c (el S r n) (el S k n) : Nat) : Int)
def minT (G : Gg) (M : Mm) (mi mc mo : Nat) : Prop := isK G mi 3 ∧ M.2.2 mi 0 = some mc ∧ M.2.2 mi 1 = some mo ∧ isK G mc 11 ∧ isK G mo 11 ∧ G.2.2 mc = 64 ∧ G.2.2 mo = 256 ∧ mc ≠ mo
theorem minT_fr {G : Gg} {M M' : Mm} {mi mc mo : Nat} {ai al : List Nat} (h : minT G M mi mc mo) (hf : fr M M' ai al) : minT G M' mi mc mo := by
  obtain ⟨h1, h2, h3, h4⟩ := h
  exact ⟨h1, by rw [hf.2.2]; exact h2, by rw [hf.2.2]; exact h3, h4⟩
section
variable {G : Gg} {M : Mm} {mi mc mo a cl n q : Nat} {c : Nat → Nat → Nat}
theorem loadRow_ok (hm : minT G M mi mc mo) (hC : chC G M a cl n c) (hq : M.1 a 1 = nI q) (hq2 : q < 2 ^ 20) {S r i : Nat} (hS : S < 2 ^ n) (hr : r < 8) (hi : i < n) (hz : M.1 mi 2 = nI r) :
    OK (f_X3_loadRow G M mi a (nI S) (nI i)) (fun M' => fr M M' [] [mc] ∧ (∀ k, k < cnt S n → M'.2.1 mc (r * 8 + k) = Int64.ofInt (((if i = el S k n then q else 0 : Nat) : Int) - ((c i (el S k n) : Nat) : Int))) ∧ ∀ p, p < r * 8 → M'.2.1 mc p = M.2.1 mc p) := by
  obtain ⟨m1, m2, m3, m4, m5, m6, m7, m8⟩ := hm
  have hn := hC.2.2.2.2.2.1
  have b8 := p2_31 hn
  have e := lpI (fun f i5 (x : Int32 × Mm) => lp_X3_loadRow_12 G mi a (nI S) (nI i) f x.1 i5 x.2) (fun j x => x.1 = nI (r * 8 + cnt S j) ∧ fr M x.2 [] [mc] ∧ (∀ k, k < cnt S j → x.2.2.1 mc (r * 8 + k) = Int64.ofInt (((if i = el S k n then q else 0 : Nat) : Int) - ((c i (el S k n) : Nat) : Int))) ∧ ∀ p, p < r * 8 → x.2.2.1 mc p = M.2.1 mc p) n (fun M' => fr M M' [] [mc] ∧ (∀ k, k < cnt S n → M'.2.1 mc (r * 8 + k) = Int64.ofInt (((if i = el S k n then q else 0 : Nat) : Int) - ((c i (el S k n) : Nat) : Int))) ∧ ∀ p, p < r * 8 → M'.2.1 mc p = M.2.1 mc p) (by omega) (fun f j x hj hx => by
    obtain ⟨x1, x2⟩ := x
    obtain ⟨e1, e2, e3, e4⟩ := hx
    dsimp only at e1 e2 e3 e4
    left
    have hC' := chC_fr hC e2 (by simp) (by simp)
    have h1 := hC'.1
    have h5 := hC'.2.2.2.2.1
    have eh := has_b (show S < 2 ^ 31 by omega) (show j < 32 by omega)
    have ea := at_eq hC' hi hj
    have hcj := cnt_le S j
    have hn2 : x2.2.2 mi 0 = some mc := by rw [e2.2.2]; exact m2
    have hq3 : x2.1 a 1 = nI q := by rw [e2.1 a (by simp)]; exact hq
    have hc8 := hC.2.2.2.2.2.2.2 i j
    by_cases hb : S.testBit j = true
    · rw [hb] at eh
      have hcs : cnt S (j + 1) = cnt S j + 1 := by rw [cnt_s, if_pos hb]
      have hel : el S (cnt S j) n = j := el_un hj hb
      refine ⟨(nI (r * 8 + cnt S (j + 1)), mwJ x2 mc (r * 8 + cnt S j) (Int64.ofInt (((if i = j then q else 0 : Nat) : Int) - ((c i j : Nat) : Int)))), ⟨rfl, fr_tr e2 (fr_J in_1), fun k hk => ?_, fun p hp => ?_⟩, ?_⟩
      · dsimp only
        by_cases hkj : k = cnt S j
        · subst hkj
          rw [mwJ_s, hel]
        · rw [mwJ_n (by omega)]
          exact e3 k (by omega)
      · dsimp only
        rw [mwJ_n (by omega)]
        exact e4 p hp
      · dsimp only
        rw [e1]
        rw [lp_X3_loadRow_12, bd_X3_loadRow_12]
        by_cases hij : i = j
        · subst hij
          have et := toL_sub (show q < 2 ^ 30 by omega) (show c i i < 2 ^ 30 by omega)
          rw [if_pos rfl, hcs]
          simp (disch := first | assumption | omega | (refine inb_n ?_ ?_ <;> omega) | fail) only [ck_t, Option.bind_some, iLeP, iLeN, iLtP, iLtN, iEqP, iEqN, nI_1, pk_mul, nI_add, cl_n, zI0, zI1, zI8, bI_z, if_true_eq, if_false_eq, if_true, if_false, lEqP, lEqN, lGtP, lGtN, lLeP, lLeN, lGeP, lGeN, lLtP, lLtN, lN_mul, lN_add, nI_l, pk_lDiv, pk_lRem, ckl, zL0, zL1, h5, eh, hn2, m6, ea, hq3, et]
          rfl
        · have et := toL_sub (show 0 < 2 ^ 30 by omega) (show c i j < 2 ^ 30 by omega)
          rw [if_neg hij, hcs]
          simp (disch := first | assumption | omega | (refine inb_n ?_ ?_ <;> omega) | fail) only [ck_t, Option.bind_some, iLeP, iLeN, iLtP, iLtN, iEqP, iEqN, nI_1, pk_mul, nI_add, cl_n, zI0, zI1, zI8, bI_z, if_true_eq, if_false_eq, if_true, if_false, lEqP, lEqN, lGtP, lGtN, lLeP, lLeN, lGeP, lGeN, lLtP, lLtN, lN_mul, lN_add, nI_l, pk_lDiv, pk_lRem, ckl, zL0, zL1, h5, eh, hn2, m6, ea, hq3, et]
          rfl
    · rw [Bool.not_eq_true] at hb
      rw [hb] at eh
      have hcs : cnt S (j + 1) = cnt S j := by rw [cnt_s, hb]; rfl
      refine ⟨(x1, x2), ⟨by rw [hcs]; exact e1, e2, by rw [hcs]; exact e3, e4⟩, ?_⟩
      dsimp only
      rw [lp_X3_loadRow_12, bd_X3_loadRow_12]
      simp (disch := first | assumption | omega | (refine inb_n ?_ ?_ <;> omega) | fail) only [ck_t, Option.bind_some, iLeP, iLeN, iLtP, iLtN, iEqP, iEqN, nI_1, pk_mul, nI_add, cl_n, zI0, zI1, zI8, bI_z, if_true_eq, if_false_eq, if_true, if_false, h5, eh]) (fun f x hx => by
    obtain ⟨x1, x2⟩ := x
    obtain ⟨e1, e2, e3, e4⟩ := hx
    have hC' := chC_fr hC e2 (by simp) (by simp)
    have h1 := hC'.1
    have h5 := hC'.2.2.2.2.1
    refine ⟨x2, ?_, e2, e3, e4⟩
    dsimp only at h5 ⊢
    rw [lp_X3_loadRow_12, bd_X3_loadRow_12]
    simp (disch := first | assumption | omega | (refine inb_n ?_ ?_ <;> omega) | fail) only [ck_t, Option.bind_some, iLeP, iLeN, iLtP, iLtN, iEqP, iEqN, nI_1, pk_mul, nI_add, cl_n, zI0, zI1, zI8, bI_z, if_true_eq, if_false_eq, if_true, if_false, h5]) (j0 := 0) (x := (nI (r * 8), M)) (by omega) ⟨rfl, fr_rf, fun k hk => absurd hk (by show ¬ k < 0; omega), fun _ _ => rfl⟩
  obtain ⟨M', e1, e2⟩ := e
  refine ⟨M', ?_, e2⟩
  unfold f_X3_loadRow
  rw [ck_t m1, hz, zI8, pk_mul, zI0]
  exact congrArg (Option.bind · _) e1
theorem load_ok (hm : minT G M mi mc mo) (hC : chC G M a cl n c) (hq : M.1 a 1 = nI q) (hq2 : q < 2 ^ 20) {S : Nat} (hS : S < 2 ^ n) :
    OK (f_X3_load G M mi a (nI S)) (fun M' => minO G M' mi mc mo (cnt S n) (mtx q c n S) ∧ fr M M' [mi] [mc]) := by
  obtain ⟨m1, m2, m3, m4, m5, m6, m7, m8⟩ := id hm
  have hn := hC.2.2.2.2.2.1
  have b8 := p2_31 hn
  have na : a ∉ [mi] := ne_in (kne hC.1 m1 (by decide))
  have nc : cl ∉ [mi] := ne_in (kne hC.2.2.1 m1 (by decide))
  have hcn := cnt_le S n
  have e := lpI (fun f i3 (x : Mm) => lp_X3_load_7 G mi a (nI S) f i3 x) (fun j x => fr M x [mi] [mc] ∧ x.1 mi 2 = nI (cnt S j) ∧ ∀ r k, r < cnt S j → k < cnt S n → x.2.1 mc (r * 8 + k) = Int64.ofInt (mtx q c n S r k)) n (fun M' => minO G M' mi mc mo (cnt S n) (mtx q c n S) ∧ fr M M' [mi] [mc]) (by omega) (fun f j x hj hx => by
    obtain ⟨e1, e2, e3⟩ := hx
    left
    have hC' := chC_fr hC e1 na nc
    have h1 := hC'.1
    have h5 := hC'.2.2.2.2.1
    have eh := has_b (show S < 2 ^ 31 by omega) (show j < 32 by omega)
    have hcj := cnt_le S j
    by_cases hb : S.testBit j = true
    · rw [hb] at eh
      have hcs : cnt S (j + 1) = cnt S j + 1 := by rw [cnt_s, if_pos hb]
      have hel : el S (cnt S j) n = j := el_un hj hb
      obtain ⟨y, f1, f2, f3, f4⟩ := loadRow_ok (minT_fr hm e1) hC' (by rw [e1.1 a na]; exact hq) hq2 hS (show cnt S j < 8 by omega) hj e2
      have hy : y.1 mi 2 = nI (cnt S j) := by rw [f2.1 mi (by simp)]; exact e2
      refine ⟨mwI y mi 2 (nI (cnt S (j + 1))), ⟨fr_tr e1 (fr_tr (fr_sub f2 (by simp) (by simp)) (fr_I in_1)), mwI_s, fun r k hr hk => ?_⟩, ?_⟩
      · show y.2.1 mc (r * 8 + k) = _
        by_cases hrj : r = cnt S j
        · subst hrj
          rw [f3 k hk]
          unfold mtx
          rw [hel]
        · rw [f4 _ (by omega)]
          exact e3 r k (by omega) hk
      · rw [lp_X3_load_7, bd_X3_load_7]
        simp (disch := first | assumption | omega | (refine inb_n ?_ ?_ <;> omega) | fail) only [ck_t, Option.bind_some, iLeP, iLeN, iLtP, iLtN, iEqP, iEqN, nI_1, pk_mul, nI_add, cl_n, zI0, zI1, zI8, bI_z, if_true_eq, if_false_eq, if_true, if_false, h5, eh, f1, hy, hcs]
    · rw [Bool.not_eq_true] at hb
      rw [hb] at eh
      have hcs : cnt S (j + 1) = cnt S j := by rw [cnt_s, hb]; rfl
      refine ⟨x, ⟨e1, by rw [hcs]; exact e2, by rw [hcs]; exact e3⟩, ?_⟩
      rw [lp_X3_load_7, bd_X3_load_7]
      simp (disch := first | assumption | omega | (refine inb_n ?_ ?_ <;> omega) | fail) only [ck_t, Option.bind_some, iLeP, iLeN, iLtP, iLtN, iEqP, iEqN, nI_1, pk_mul, nI_add, cl_n, zI0, zI1, zI8, bI_z, if_true_eq, if_false_eq, if_true, if_false, h5, eh]) (fun f x hx => by
    obtain ⟨e1, e2, e3⟩ := hx
    have hC' := chC_fr hC e1 na nc
    have h1 := hC'.1
    have h5 := hC'.2.2.2.2.1
    refine ⟨x, ?_, ⟨m1, by rw [e1.2.2]; exact m2, by rw [e1.2.2]; exact m3, m4, m5, m6, m7, m8, e2, by omega, e3⟩, e1⟩
    rw [lp_X3_load_7, bd_X3_load_7]
    simp (disch := first | assumption | omega | (refine inb_n ?_ ?_ <;> omega) | fail) only [ck_t, Option.bind_some, iLeP, iLeN, iLtP, iLtN, iEqP, iEqN, nI_1, pk_mul, nI_add, cl_n, zI0, zI1, zI8, bI_z, if_true_eq, if_false_eq, if_true, if_false, h5]) (j0 := 0) (x := mwI M mi 2 (nI 0)) (by omega) ⟨fr_I in_1, mwI_s, fun r k hr => absurd hr (by show ¬ r < 0; omega)⟩
  obtain ⟨M', e1, e2⟩ := e
  refine ⟨M', ?_, e2⟩
  unfold f_X3_load
  rw [ck_t m1, zI0]
  exact congrArg (Option.bind · _) e1
theorem replaceColumn_ok {A : Nat → Nat → Int} {b : Nat → Int} {m k rt : Nat} (hm : minO G M mi mc mo m A) (hk : k < m) (h1 : isK G rt 11) (h2 : G.2.2 rt = 8) (hne : rt ≠ mc) (hb : ∀ r, r < m → M.2.1 rt r = Int64.ofInt (b r)) :
    OK (f_X3_replaceColumn G M mi (nI k) rt) (fun M' => minO G M' mi mc mo m (sco A k b) ∧ fr M M' [] [mc]) := by
  obtain ⟨m1, m2, m3, m4, m5, m6, m7, m8, m9, m10, m11⟩ := hm
  have e := lpI (fun f i3 (x : Mm) => lp_X3_replaceColumn_2 G mi (nI k) rt f i3 x) (fun j x => fr M x [] [mc] ∧ ∀ r i, r < m → i < m → x.2.1 mc (r * 8 + i) = Int64.ofInt (if r < j then sco A k b r i else A r i)) m (fun M' => minO G M' mi mc mo m (sco A k b) ∧ fr M M' [] [mc]) (by omega) (fun f j x hj hx => by
    obtain ⟨e1, e2⟩ := hx
    left
    have h9 : x.1 mi 2 = nI m := by rw [e1.1 mi (by simp)]; exact m9
    have h0 : x.2.2 mi 0 = some mc := by rw [e1.2.2]; exact m2
    have hr : x.2.1 rt j = Int64.ofInt (b j) := by rw [e1.2.1 rt (ne_in hne)]; exact hb j hj
    have h8' : Int32.ofNat 8 = nI 8 := rfl
    refine ⟨mwJ x mc (j * 8 + k) (Int64.ofInt (b j)), ⟨fr_tr e1 (fr_J in_1), fun r i hr hi => ?_⟩, ?_⟩
    · by_cases hh : r = j ∧ i = k
      · obtain ⟨rfl, rfl⟩ := hh
        rw [mwJ_s, if_pos (by omega)]
        unfold sco
        rw [if_pos rfl]
      · rw [mwJ_n (by omega), e2 r i hr hi]
        by_cases hrj : r = j
        · subst hrj
          rw [if_neg (by omega), if_pos (by omega)]
          unfold sco
          rw [if_neg (by omega)]
        · by_cases hlt : r < j
          · rw [if_pos hlt, if_pos (by omega)]
          · rw [if_neg hlt, if_neg (by omega)]
    · rw [lp_X3_replaceColumn_2, bd_X3_replaceColumn_2]
      simp (disch := first | assumption | omega | (refine inb_n ?_ ?_ <;> omega) | fail) only [ck_t, Option.bind_some, iLeP, iLeN, iLtP, iLtN, iEqP, iEqN, nI_1, pk_mul, nI_add, cl_n, zI0, zI1, zI8, bI_z, if_true_eq, if_false_eq, if_true, if_false, h9, h0, h2, h8', m6, hr]) (fun f x hx => by
    obtain ⟨e1, e2⟩ := hx
    have h9 : x.1 mi 2 = nI m := by rw [e1.1 mi (by simp)]; exact m9
    refine ⟨x, ?_, ⟨m1, by rw [e1.2.2]; exact m2, by rw [e1.2.2]; exact m3, m4, m5, m6, m7, m8, h9, m10, fun i j hi hj => by rw [e2 i j hi hj, if_pos hi]⟩, e1⟩
    rw [lp_X3_replaceColumn_2, bd_X3_replaceColumn_2]
    simp (disch := first | assumption | omega | (refine inb_n ?_ ?_ <;> omega) | fail) only [ck_t, Option.bind_some, iLeP, iLeN, iLtP, iLtN, iEqP, iEqN, nI_1, pk_mul, nI_add, cl_n, zI0, zI1, zI8, bI_z, if_true_eq, if_false_eq, if_true, if_false, h9]) (j0 := 0) (x := M) (by omega) ⟨fr_rf, fun r i hr hi => by rw [if_neg (by omega)]; exact m11 r i hr hi⟩
  obtain ⟨M', e1, e2⟩ := e
  refine ⟨M', ?_, e2⟩
  unfold f_X3_replaceColumn
  rw [zI0]
  exact congrArg (Option.bind · _) e1
theorem det_ok {A : Nat → Nat → Int} {m : Nat} (hm : minO G M mi mc mo m A) : OK (f_X3_determinant G M mi) (fun r => r.1 = Int64.ofInt (det m A) ∧ minO G r.2 mi mc mo m A ∧ fr M r.2 [] [mo]) := by
  obtain ⟨M', e1, e2, e3, e4, e5⟩ := dt_eq hm
  exact ⟨_, e1, rfl, e2, fun b _ => by rw [e3], fun b hb => e5 b (fun e => hb (e ▸ in_1)), e4⟩
end
