/-! the reference's objects and what they hold -/
def kr (i : Nat) : Nat := [9, 10, 10, 10, 10, 10, 10, 11, 11, 11, 11, 10, 10, 10, 10, 11, 11].getD i 0
def lr (i : Nat) : Nat := [0, 80, 7, 7, 448, 8, 8, 64, 8, 64, 8, 8, 8, 8, 8, 64, 64].getD i 0
def shR (G : Gg) (R : Nat → Nat) : Prop := (∀ i j, i < 17 → j < 17 → R i = R j → i = j) ∧ (∀ i, i < 17 → isK G (R i) (kr i)) ∧ ∀ i, i < 17 → 10 ≤ kr i → G.2.2 (R i) = lr i
theorem sR_ne {G : Gg} {R : Nat → Nat} (h : shR G R) {i j : Nat} (hi : i < 17) (hj : j < 17) (hne : i ≠ j) : R i ≠ R j := fun e => hne (h.1 i j hi hj e)
def rfR (M : Mm) (R : Nat → Nat) : Prop := M.2.2 (R 0) 1 = some (R 1) ∧ M.2.2 (R 0) 3 = some (R 2) ∧ M.2.2 (R 0) 4 = some (R 3) ∧ M.2.2 (R 0) 5 = some (R 4) ∧ M.2.2 (R 0) 6 = some (R 5) ∧ M.2.2 (R 0) 7 = some (R 6) ∧ M.2.2 (R 0) 9 = some (R 7) ∧ M.2.2 (R 0) 10 = some (R 8) ∧ M.2.2 (R 0) 11 = some (R 9) ∧ M.2.2 (R 0) 12 = some (R 10) ∧ M.2.2 (R 0) 13 = some (R 11) ∧ M.2.2 (R 0) 14 = some (R 12) ∧ M.2.2 (R 0) 15 = some (R 13) ∧ M.2.2 (R 0) 16 = some (R 14) ∧ M.2.2 (R 0) 18 = some (R 15) ∧ M.2.2 (R 0) 19 = some (R 16)
/-- the reference, in the state that the lists tell -/
def rRI (G : Gg) (M : Mm) (R : Nat → Nat) (tl : Nat) (tv : Nat → Nat) (ol : Nat) (ov ns qs : Nat → Nat) (cs : Nat → Nat → Nat → Nat) : Prop := shR G R ∧ rfR M R ∧ (M.1 (R 0) 2 = nI tl ∧ tl ≤ 80 ∧ (∀ k, k < tl → M.1 (R 1) k = nI (tv k)) ∧ ∀ k, tv k < 256) ∧ (M.1 (R 0) 17 = nI ol ∧ ol ≤ 8 ∧ ∀ k, k < ol → M.1 (R 14) k = nI (ov k)) ∧ ∀ s, s < 6 → M.1 (R 2) s = nI (ns s) ∧ (ns s = 0 ∨ (gch (ns s) (qs s) (cs s) ∧ M.1 (R 3) s = nI (qs s) ∧ ∀ i j, i < ns s → j < ns s → M.1 (R 4) (64 * s + 8 * i + j) = nI (cs s i j)))
/-- only what the reference works with has changed -/
def rfr (M M' : Mm) (R : Nat → Nat) : Prop := (∀ b, b ∉ [R 0, R 4, R 5, R 6, R 11, R 12, R 13] → M'.1 b = M.1 b) ∧ (M'.1 (R 0) 2 = M.1 (R 0) 2 ∧ M'.1 (R 0) 17 = M.1 (R 0) 17) ∧ (∀ k, k < 384 → M'.1 (R 4) k = M.1 (R 4) k) ∧ (∀ b, (∀ i, i < 17 → b ≠ R i) → M'.2.1 b = M.2.1 b) ∧ M'.2.2 = M.2.2
theorem rfr_rf (M : Mm) (R : Nat → Nat) : rfr M M R := ⟨fun _ _ => rfl, ⟨rfl, rfl⟩, fun _ _ => rfl, fun _ _ => rfl, rfl⟩
theorem rfr_tr {M M1 M2 : Mm} {R : Nat → Nat} (h : rfr M M1 R) (h2 : rfr M1 M2 R) : rfr M M2 R := ⟨fun b hb => (h2.1 b hb).trans (h.1 b hb), ⟨h2.2.1.1.trans h.2.1.1, h2.2.1.2.trans h.2.1.2⟩, fun k hk => (h2.2.2.1 k hk).trans (h.2.2.1 k hk), fun b hb => (h2.2.2.2.1 b hb).trans (h.2.2.2.1 b hb), h2.2.2.2.2.trans h.2.2.2.2⟩
section
variable {G : Gg} {M M' : Mm} {R : Nat → Nat} {tl : Nat} {tv : Nat → Nat} {ol : Nat} {ov ns qs : Nat → Nat} {cs : Nat → Nat → Nat → Nat}
theorem rfr_J {i k : Nat} {x : Int64} (hi : i < 17) : rfr M (mwJ M (R i) k x) R := ⟨fun _ _ => rfl, ⟨rfl, rfl⟩, fun _ _ => rfl, fun b hb => va_up_ne _ _ (hb i hi), rfl⟩
theorem rfr_0 {k : Nat} {x : Int32} (hs : shR G R) (h2 : k ≠ 2) (h3 : k ≠ 17) : rfr M (mwI M (R 0) k x) R := ⟨fun b hb => va_up_ne _ _ (fun e => hb (by simp [e])), ⟨by rw [mwI_n (by omega)], by rw [mwI_n (by omega)]⟩, fun j _ => by rw [mwI_n (Or.inl (sR_ne hs (by decide) (by decide) (by decide)))], fun _ _ => rfl, rfl⟩
theorem rfr_I {i k : Nat} {x : Int32} (hs : shR G R) (hi : i = 5 ∨ i = 6 ∨ i = 11 ∨ i = 12 ∨ i = 13) : rfr M (mwI M (R i) k x) R := by
  have hi17 : i < 17 := by omega
  refine ⟨fun b hb => va_up_ne _ _ (fun e => hb ?_), ⟨?_, ?_⟩, fun j _ => ?_, fun _ _ => rfl, rfl⟩
  · rcases hi with rfl | rfl | rfl | rfl | rfl <;> simp [e]
  · rw [mwI_n (Or.inl (sR_ne hs (by decide) hi17 (by omega)))]
  · rw [mwI_n (Or.inl (sR_ne hs (by decide) hi17 (by omega)))]
  · rw [mwI_n (Or.inl (sR_ne hs (by decide) hi17 (by omega)))]
theorem rfr_4 {k : Nat} {x : Int32} (hs : shR G R) (hk : 384 ≤ k) : rfr M (mwI M (R 4) k x) R := ⟨fun b hb => va_up_ne _ _ (fun e => hb (by simp [e])), ⟨by rw [mwI_n (Or.inl (sR_ne hs (by decide) (by decide) (by decide)))], by rw [mwI_n (Or.inl (sR_ne hs (by decide) (by decide) (by decide)))]⟩, fun j hj => by rw [mwI_n (by omega)], fun _ _ => rfl, rfl⟩
theorem rfr_fr {ai al : List Nat} (hs : shR G R) (hf : fr M M' ai al) (h1 : ∀ x, x ∈ ai → ∃ i, (i = 5 ∨ i = 6 ∨ i = 11 ∨ i = 12 ∨ i = 13) ∧ x = R i) (h2 : ∀ x, x ∈ al → ∃ i, i < 17 ∧ x = R i) : rfr M M' R := by
  have key : ∀ i, i < 17 → i ≠ 5 → i ≠ 6 → i ≠ 11 → i ≠ 12 → i ≠ 13 → R i ∉ ai := fun i hi a b c d e z => by
    obtain ⟨j, hj, h3⟩ := h1 _ z
    have := hs.1 i j hi (by omega) h3
    omega
  refine ⟨fun b hb => hf.1 b (fun z => ?_), ⟨?_, ?_⟩, fun k _ => ?_, fun b hb => hf.2.1 b (fun z => ?_), hf.2.2⟩
  · obtain ⟨j, hj, h3⟩ := h1 _ z
    subst h3
    rcases hj with rfl | rfl | rfl | rfl | rfl <;> simp at hb
  · rw [hf.1 _ (key 0 (by decide) (by decide) (by decide) (by decide) (by decide) (by decide))]
  · rw [hf.1 _ (key 0 (by decide) (by decide) (by decide) (by decide) (by decide) (by decide))]
  · rw [hf.1 _ (key 4 (by decide) (by decide) (by decide) (by decide) (by decide) (by decide))]
  · obtain ⟨j, hj, h3⟩ := h2 _ z
    exact hb j hj h3
theorem rRI_r (h : rRI G M R tl tv ol ov ns qs cs) (hf : rfr M M' R) : rRI G M' R tl tv ol ov ns qs cs := by
  obtain ⟨hs, hr, ⟨t1, t2, t3, t4⟩, ⟨o1, o2, o3⟩, hc⟩ := h
  obtain ⟨f1, ⟨f2, f3⟩, f4, f5, f6⟩ := hf
  have nin : ∀ i, i < 17 → i ∉ [0, 4, 5, 6, 11, 12, 13] → R i ∉ [R 0, R 4, R 5, R 6, R 11, R 12, R 13] := fun i hi hn z => by
    simp at z
    rcases z with z | z | z | z | z | z | z
    · have := hs.1 i 0 hi (by decide) z; simp [this] at hn
    · have := hs.1 i 4 hi (by decide) z; simp [this] at hn
    · have := hs.1 i 5 hi (by decide) z; simp [this] at hn
    · have := hs.1 i 6 hi (by decide) z; simp [this] at hn
    · have := hs.1 i 11 hi (by decide) z; simp [this] at hn
    · have := hs.1 i 12 hi (by decide) z; simp [this] at hn
    · have := hs.1 i 13 hi (by decide) z; simp [this] at hn
  refine ⟨hs, ?_, ⟨by rw [f2]; exact t1, t2, ?_, t4⟩, ⟨by rw [f3]; exact o1, o2, ?_⟩, fun s hs6 => ?_⟩
  · unfold rfR; rw [f6]; exact hr
  · rw [f1 _ (nin 1 (by decide) (by decide))]; exact t3
  · rw [f1 _ (nin 14 (by decide) (by decide))]; exact o3
  · obtain ⟨c1, c2⟩ := hc s hs6
    rw [f1 _ (nin 2 (by decide) (by decide)), f1 _ (nin 3 (by decide) (by decide))]
    refine ⟨c1, c2.imp id (fun ⟨g1, g2, g3⟩ => ⟨g1, g2, fun i j hi hj => ?_⟩)⟩
    have := g1.2.1
    rw [f4 _ (by omega)]
    exact g3 i j hi hj
theorem unt_r (hf : rfr M M' R) : unt M M' R 17 := fun b hb => ⟨hf.1 b (fun z => by
    simp at z
    rcases z with z | z | z | z | z | z | z
    · exact hb 0 (by decide) z
    · exact hb 4 (by decide) z
    · exact hb 5 (by decide) z
    · exact hb 6 (by decide) z
    · exact hb 11 (by decide) z
    · exact hb 12 (by decide) z
    · exact hb 13 (by decide) z), hf.2.2.2.1 b hb, by rw [hf.2.2.2.2]⟩
theorem rRI_u {A : Nat → Nat} {N : Nat} (h : rRI G M R tl tv ol ov ns qs cs) (hu : unt M M' A N) (hd : ∀ i j, i < 17 → j < N → R i ≠ A j) : rRI G M' R tl tv ol ov ns qs cs := by
  obtain ⟨hs, hr, ⟨t1, t2, t3, t4⟩, ⟨o1, o2, o3⟩, hc⟩ := h
  have k : ∀ i, i < 17 → sameM M M' (R i) := fun i hi => hu _ (fun j hj => hd i j hi hj)
  refine ⟨hs, ?_, ⟨by rw [(k 0 (by decide)).1]; exact t1, t2, ?_, t4⟩, ⟨by rw [(k 0 (by decide)).1]; exact o1, o2, ?_⟩, fun s hs6 => ?_⟩
  · unfold rfR; rw [(k 0 (by decide)).2.2]; exact hr
  · rw [(k 1 (by decide)).1]; exact t3
  · rw [(k 14 (by decide)).1]; exact o3
  · rw [(k 2 (by decide)).1, (k 3 (by decide)).1, (k 4 (by decide)).1]; exact hc s hs6
end
theorem kCI_u {G : Gg} {M M' : Mm} {A p : Nat → Nat} {tl : Nat} {tv : Nat → Nat} {ol : Nat} {ov ns qs : Nat → Nat} {cs : Nat → Nat → Nat → Nat} {R : Nat → Nat} {N : Nat} (h : kCI G M A p tl tv ol ov ns qs cs) (hu : unt M M' R N) (hd : ∀ i j, i < 53 → j < N → A i ≠ R j) : kCI G M' A p tl tv ol ov ns qs cs := by
  obtain ⟨hs, hr, hp, ht, ho, hw, hc⟩ := h
  have k : ∀ i, i < 53 → sameM M M' (A i) := fun i hi => hu _ (fun j hj => hd i j hi hj)
  refine ⟨hs, ?_, hp, by rw [(k 1 (by decide)).1, (k 2 (by decide)).1]; exact ht, by rw [(k 0 (by decide)).1, (k 3 (by decide)).1]; exact ho, fun x hx => ?_, fun s hs6 => ?_⟩
  · obtain ⟨c0, y1, y2, y4, y6, y8, y10, y11⟩ := hr
    refine ⟨by rw [(k 0 (by decide)).2.2]; exact c0, by rw [(k 1 (by decide)).2.2]; exact y1, by rw [(k 5 (by decide)).2.2]; exact y2, by rw [(k 8 (by decide)).2.2]; exact y4, by rw [(k 11 (by decide)).2.2]; exact y6, by rw [(k 12 (by decide)).2.2]; exact y8, fun x hx => by rw [(k (18 + 5 * x) (by omega)).2.2]; exact y10 x hx, by rw [(k 4 (by decide)).2.2]; exact y11⟩
  · unfold shW
    rw [(k (22 + 5 * x) (by omega)).2.1]
    exact hw x hx
  · have hk := hp.1 s (by omega)
    have k0 := k (18 + 5 * p s) (by omega)
    rw [k0.1]
    rcases hc s hs6 with z | ⟨z1, z2, z3⟩
    · exact Or.inl z
    · exact Or.inr ⟨z1, chS_fr z2 k0.1 (k _ (by omega)).1 (k _ (by omega)).1 (k _ (by omega)).1 (k _ (by omega)).2.1 k0.2.2, by rw [k0.2.1]; exact z3⟩
/-! bytes -/
def by8 (x : Int32) (i : Int32) : Nat := ((((Int32.toUInt32 x >>> (Int32.toUInt32 i &&& Int32.toUInt32 31)).toInt32) &&& (255 : Int32)).toBitVec).toNat
theorem by8_eq (x i : Int32) : (((Int32.toUInt32 x >>> (Int32.toUInt32 i &&& Int32.toUInt32 31)).toInt32) &&& (255 : Int32)) = nI (by8 x i) := by
  unfold by8
  generalize (((Int32.toUInt32 x >>> (Int32.toUInt32 i &&& Int32.toUInt32 31)).toInt32) &&& (255 : Int32)) = y
  apply Int32.toBitVec_inj.1
  show y.toBitVec = BitVec.ofNat 32 y.toBitVec.toNat
  rw [BitVec.ofNat_toNat, BitVec.setWidth_eq]
theorem by8_lt (x i : Int32) : by8 x i < 256 := by
  unfold by8
  rw [Int32.toBitVec_and, BitVec.toNat_and]
  exact Nat.lt_of_le_of_lt Nat.and_le_right (by decide)
/-- four bytes behind tl -/
def ap4 (tv : Nat → Nat) (tl : Nat) (x : Int32) : Nat → Nat := fun k => if k < tl then tv k else if k = tl then by8 x 24 else if k = tl + 1 then by8 x 16 else if k = tl + 2 then by8 x 8 else by8 x 0
theorem ap4_lt {tv : Nat → Nat} {tl : Nat} {x : Int32} (h : ∀ k, tv k < 256) (k : Nat) : ap4 tv tl x k < 256 := by
  unfold ap4
  repeat' split
  all_goals first | exact h k | exact by8_lt _ _
section
variable {G : Gg} {M : Mm}
theorem app_step {o b tl f : Nat} {x i : Int32} (h1 : isK G o 6) (h2 : M.2.2 o 0 = some b) (h3 : isK G b 10) (h4 : G.2.2 b = 80) (h5 : M.1 o 1 = nI tl) (h6 : tl < 80) (hi : ¬ i < 0) : lp_X6_append_3 G o x (f + 1) i M = lp_X6_append_3 G o x f (i + (-8)) (mwI (mwI M b tl (nI (by8 x i))) o 1 (nI (tl + 1))) := by
  have hne : o ≠ b := kne h1 h3 (by decide)
  have h80 : (80 : Int32) = nI 80 := rfl
  have h7 : (mwI M b tl (nI (by8 x i))).1 o 1 = nI tl := by rw [mwI_n (Or.inl hne)]; exact h5
  rw [lp_X6_append_3, bd_X6_append_3, if_neg hi, ck_t h1, h5, h80, iLeN h6 (by decide), h2, Option.bind_some, ck_t h3, h4, ck_t (inb_n h6 (by decide)), cl_n (by omega), by8_eq, h7, zI1, nI_add]
theorem app_stop {o f : Nat} {x : Int32} : lp_X6_append_3 G o x (f + 1) (-8) M = some M := by
  rw [lp_X6_append_3, bd_X6_append_3, if_pos (by decide)]
theorem come_step {R : Nat → Nat} {tl f : Nat} {x i : Int32} (hs : shR G R) (h2 : M.2.2 (R 0) 1 = some (R 1)) (h5 : M.1 (R 0) 2 = nI tl) (h6 : tl < 80) (hi : ¬ i < 0) : lp_X9_come_3 G (R 0) x (f + 1) i M = lp_X9_come_3 G (R 0) x f (i + (-8)) (mwI (mwI M (R 1) tl (nI (by8 x i))) (R 0) 2 (nI (tl + 1))) := by
  have h1 : isK G (R 0) 9 := hs.2.1 0 (by decide)
  have h3 : isK G (R 1) 10 := hs.2.1 1 (by decide)
  have h4 : G.2.2 (R 1) = 80 := hs.2.2 1 (by decide) (by decide)
  have hne : R 0 ≠ R 1 := sR_ne hs (by decide) (by decide) (by decide)
  have h7 : (mwI M (R 1) tl (nI (by8 x i))).1 (R 0) 2 = nI tl := by rw [mwI_n (Or.inl hne)]; exact h5
  rw [lp_X9_come_3, bd_X9_come_3, if_neg hi, ck_t h1, h2, Option.bind_some, ck_t h3, h5, h4, ck_t (inb_n h6 (by decide)), cl_n (by omega), by8_eq, h7, zI1, nI_add]
theorem come_stop {o f : Nat} {x : Int32} : lp_X9_come_3 G o x (f + 1) (-8) M = some M := by
  rw [lp_X9_come_3, bd_X9_come_3, if_pos (by decide)]
/-- four bytes written, the length raised -/
def w4 (M : Mm) (o b l tl : Nat) (x : Int32) : Mm := mwI (mwI (mwI (mwI (mwI (mwI (mwI (mwI M b tl (nI (by8 x 24))) o l (nI (tl + 1))) b (tl + 1) (nI (by8 x 16))) o l (nI (tl + 1 + 1))) b (tl + 1 + 1) (nI (by8 x 8))) o l (nI (tl + 1 + 1 + 1))) b (tl + 1 + 1 + 1) (nI (by8 x 0))) o l (nI (tl + 1 + 1 + 1 + 1))
theorem w4_ok {o b l tl : Nat} {x : Int32} {tv : Nat → Nat} (hne : o ≠ b) (ht : ∀ k, k < tl → M.1 b k = nI (tv k)) : (w4 M o b l tl x).1 o l = nI (tl + 4) ∧ (∀ k, k < tl + 4 → (w4 M o b l tl x).1 b k = nI (ap4 tv tl x k)) ∧ fr M (w4 M o b l tl x) [o, b] [] ∧ ∀ j, j ≠ l → (w4 M o b l tl x).1 o j = M.1 o j := by
  have hb : b ≠ o := fun e => hne e.symm
  refine ⟨mwI_s, fun k hk => ?_, ?_, fun j hj => ?_⟩
  · unfold w4 ap4
    rw [mwI_n (Or.inl hb)]
    by_cases h3 : k = tl + 1 + 1 + 1
    · subst h3
      rw [mwI_s, if_neg (by omega), if_neg (by omega), if_neg (by omega), if_neg (by omega)]
    · rw [mwI_n (Or.inr h3), mwI_n (Or.inl hb)]
      by_cases h2 : k = tl + 1 + 1
      · subst h2
        rw [mwI_s, if_neg (by omega), if_neg (by omega), if_neg (by omega), if_pos rfl]
      · rw [mwI_n (Or.inr h2), mwI_n (Or.inl hb)]
        by_cases h1 : k = tl + 1
        · subst h1
          rw [mwI_s, if_neg (by omega), if_neg (by omega), if_pos rfl]
        · rw [mwI_n (Or.inr h1), mwI_n (Or.inl hb)]
          by_cases h0 : k = tl
          · subst h0
            rw [mwI_s, if_neg (by omega), if_pos rfl]
          · rw [mwI_n (Or.inr h0), ht k (by omega), if_pos (by omega)]
  · unfold w4
    exact fr_tr (fr_tr (fr_tr (fr_tr (fr_tr (fr_tr (fr_tr (fr_I (by simp)) (fr_I (by simp))) (fr_I (by simp))) (fr_I (by simp))) (fr_I (by simp))) (fr_I (by simp))) (fr_I (by simp))) (fr_I (by simp))
  · unfold w4
    rw [mwI_n (Or.inr hj), mwI_n (Or.inl hne), mwI_n (Or.inr hj), mwI_n (Or.inl hne), mwI_n (Or.inr hj), mwI_n (Or.inl hne), mwI_n (Or.inr hj), mwI_n (Or.inl hne)]
theorem append_eq {o b tl : Nat} {x : Int32} (h1 : isK G o 6) (h2 : M.2.2 o 0 = some b) (h3 : isK G b 10) (h4 : G.2.2 b = 80) (h5 : M.1 o 1 = nI tl) (h6 : tl + 4 ≤ 80) : f_X6_append G M o x = some (w4 M o b 1 tl x) := by
  unfold f_X6_append
  rw [show FU = 995 + 1 + 1 + 1 + 1 + 1 from rfl, app_step h1 h2 h3 h4 h5 (by omega) (by decide), show (24 : Int32) + (-8) = 16 by decide, app_step h1 (by exact h2) h3 h4 mwI_s (by omega) (by decide), show (16 : Int32) + (-8) = 8 by decide, app_step h1 (by exact h2) h3 h4 mwI_s (by omega) (by decide), show (8 : Int32) + (-8) = 0 by decide, app_step h1 (by exact h2) h3 h4 mwI_s (by omega) (by decide), show (0 : Int32) + (-8) = -8 by decide, app_stop]
  rfl
theorem come_eq {R : Nat → Nat} {tl : Nat} {x : Int32} (hs : shR G R) (h2 : M.2.2 (R 0) 1 = some (R 1)) (h5 : M.1 (R 0) 2 = nI tl) (h6 : tl + 4 ≤ 80) : f_X9_come G M (R 0) x = some (w4 M (R 0) (R 1) 2 tl x) := by
  unfold f_X9_come
  rw [show FU = 995 + 1 + 1 + 1 + 1 + 1 from rfl, come_step hs h2 h5 (by omega) (by decide), show (24 : Int32) + (-8) = 16 by decide, come_step hs (by exact h2) mwI_s (by omega) (by decide), show (16 : Int32) + (-8) = 8 by decide, come_step hs (by exact h2) mwI_s (by omega) (by decide), show (8 : Int32) + (-8) = 0 by decide, come_step hs (by exact h2) mwI_s (by omega) (by decide), show (0 : Int32) + (-8) = -8 by decide, come_stop]
  rfl
end
