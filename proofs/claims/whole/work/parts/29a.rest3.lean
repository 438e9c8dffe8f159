/-! all columns of the reference's elimination -/
abbrev wI (w : Nat → Nat → Nat) : Nat → Nat → Int := fun a c => ((w a c : Nat) : Int)
theorem piv_1 {p x : Nat} (hP : isP p) (h0 : x ≠ 0) (hx : x < p) : x ^ (p - 2) % p * x % p = 1 := by
  have h := inverse hP (x := x) (fun hd => by have := Nat.le_of_dvd (by omega) hd; omega)
  rw [Nat.mod_mul_mod]
  exact h
theorem elw_0 {p n k : Nat} {w : Nat → Nat → Nat} (hP : isP p) (hk : k < n) (hpv : w k k ≠ 0) (hlt : w k k < p) (hz : ∀ a c, c < k → c < a → a < n → w a c = 0) : ∀ a c, c < k + 1 → c < a → a < n → elw w k (k + 1) (w k k ^ (p - 2) % p) p a c = 0 := by
  intro a c hc hca han
  unfold elw
  by_cases hck : c < k
  · rw [if_neg (by omega)]
    exact hz a c hck hca han
  · have : c = k := by omega
    subst this
    rw [if_pos (by omega)]
    have h1 := piv_1 hP hpv hlt
    generalize w c c ^ (p - 2) % p = t at h1
    have h2 := Nat.div_add_mod (t * w c c) p
    have h3 := Nat.div_add_mod (w a c * t) p
    have h4 : w a c * t % p < p := Nat.mod_lt _ (by have := hP.1; omega)
    rw [h1] at h2
    apply Nat.mod_eq_zero_of_dvd
    apply Int.natCast_dvd_natCast.mp
    refine ⟨(w c c : Int) + ((w a c * t / p : Nat) : Int) * (w c c : Int) - (w a c : Int) * ((t * w c c / p : Nat) : Int), ?_⟩
    generalize w a c * t % p = F at *
    generalize w a c * t / p = v at *
    generalize t * w c c / p = u at *
    have h5 : ((p - F : Nat) : Int) = (p : Int) - (F : Int) := by omega
    have h2' : (p : Int) * (u : Int) + 1 = (t : Int) * (w c c : Int) := by exact_mod_cast h2
    have h3' : (p : Int) * (v : Int) + (F : Int) = (w a c : Int) * (t : Int) := by exact_mod_cast h3
    rw [Int.natCast_add, Int.natCast_mul, h5]
    grind
theorem elw_det {p n k t : Nat} {w : Nat → Nat → Nat} (hp : 0 < p) (hk : k < n) (hz : ∀ a c, c < k → c < a → a < n → w a c = 0) : (p : Int) ∣ det n (wI w) - det n (wI (elw w k (k + 1) t p)) := by
  rw [← det_elim hk (wI w) (fun a => -((w a k * t % p : Nat) : Int)) n (Nat.le_refl n)]
  apply det_mod
  intro a c ha hc
  dsimp only [wI]
  unfold elw
  by_cases hka : k < a
  · rw [if_pos ⟨hka, ha⟩]
    by_cases hkc : k ≤ c
    · rw [if_pos ⟨hka, hkc⟩]
      have h4 : w a k * t % p < p := Nat.mod_lt _ hp
      generalize w a k * t % p = F at *
      have h1 := nmod_dvd (w a c + (p - F) * w k c) p
      obtain ⟨u, hu⟩ := h1
      have h5 : ((p - F : Nat) : Int) = (p : Int) - (F : Int) := by omega
      rw [Int.natCast_add, Int.natCast_mul, h5] at hu
      refine ⟨-(w k c : Int) - u, ?_⟩
      grind
    · rw [if_neg (by omega), hz a c (by omega) (by omega) ha, hz k c (by omega) (by omega) hk]
      simp
  · rw [if_neg (by omega), if_neg (by omega), Int.sub_self]
    exact Int.dvd_zero _
theorem st_step {G : Gg} {M : Mm} {r0 tb rt wk n k p d : Nat} {g : Nat → Int64} {w : Nat → Nat → Nat} (h : refO G M r0 tb rt wk) (hn : n ≤ 8) (hk : k < n) (hP : isP p) (hp2 : p < 2 ^ 31) (hg : wOK g w n p) (hd : d ≤ p) (rec : Int64 → Int32 → Mm → Option ((Int64 × Mm) ⊕ (Int64 × Mm))) : ∃ g', jn_X9_rest_230 G (setJ M wk g) rec r0 (nI n) (lN p) (lN d) (nI k) = rec (lN (d * w k k % p)) (nI (k + 1)) (setJ M wk g') ∧ wOK g' (elw w k (k + 1) (w k k ^ (p - 2) % p) p) n p := by
  obtain ⟨h1, h2, h3, h4, h5, h6, h7, h8, h9, h10, h11, h12⟩ := id h
  have hp := hP.1
  have hwk := (hg k k hk hk).2
  have hpp := pp_lt hp2
  have hm : d * w k k ≤ p * p := Nat.mul_le_mul hd (by omega)
  obtain ⟨g', e1, e2⟩ := ea_loop (l5 := lN (d * w k k % p)) (t := w k k ^ (p - 2) % p) h hn hk (by omega) hp2 (Nat.mod_lt _ (by omega)) (n - (k + 1)) (k + 1) FU g w (by omega) (by rw [FU_big]; omega) (by omega) hg
  refine ⟨g', ?_, e2⟩
  unfold jn_X9_rest_230
  rw [ck_t h1, show (setJ M wk g).2.2 r0 11 = some wk from h4, Option.bind_some, ck_t h7, nI_ix8, h10, ck_t (inb_n (by omega) (by decide)), ck_nz (by omega) (by omega), cl_n (by omega), setJ_s, (hg k k hk hk).1, lN2, lN_sub (by omega), pw_eq (by omega) hp2 hwk (by omega), Option.bind_some, lN_mul, pk_lRem (by omega) (by omega) (by omega), nI_1, e1, Option.bind_some]
theorem dv_tr {p a b c : Int} (h1 : p ∣ a - b) (h2 : p ∣ b - c) : p ∣ a - c := by
  have := Int.dvd_add h1 h2
  rw [show a - b + (b - c) = a - c by omega] at this
  exact this
theorem dv_ml {p a b : Int} (c : Int) (h : p ∣ a - b) : p ∣ c * a - c * b := by
  rw [← Int.mul_sub]
  exact Int.dvd_trans h (Int.dvd_mul_left _ _)
theorem mn_loop {G : Gg} {M : Mm} {r0 tb rt wk n p : Nat} {D : Int} (h : refO G M r0 tb rt wk) (hn : n ≤ 8) (hP : isP p) (hp2 : p < 2 ^ 31) :
    ∀ (m k fu : Nat) (g : Nat → Int64) (w : Nat → Nat → Nat) (d : Nat), k + m = n → m < fu → wOK g w n p → d ≤ p → (∀ a c, c < k → c < a → a < n → w a c = 0) → (∃ s : Int, (p : Int) ∣ D - s * det n (wI w) ∧ (p : Int) ∣ (d : Int) - s * dprod (wI w) k) → ∃ g', (lp_X9_rest_98 G r0 (nI n) (lN p) fu (lN d) (nI k) (setJ M wk g) = some (.inl ((0 : Int64), setJ M wk g')) ∧ (p : Int) ∣ D) ∨ ∃ d', lp_X9_rest_98 G r0 (nI n) (lN p) fu (lN d) (nI k) (setJ M wk g) = some (.inr (lN d', setJ M wk g')) ∧ d' ≤ p ∧ (p : Int) ∣ D - (d' : Int)
  | 0, k, fu, g, w, d, hk, hfu, hg, hd, hz, hs => by
    obtain ⟨q, rfl⟩ : ∃ q, fu = q + 1 := ⟨fu - 1, by omega⟩
    obtain ⟨s, s1, s2⟩ := hs
    have : k = n := by omega
    subst this
    refine ⟨g, Or.inr ⟨d, ?_, hd, ?_⟩⟩
    · show bd_X9_rest_98 _ _ _ _ _ _ _ _ = _
      unfold bd_X9_rest_98
      rw [if_pos (nI_le (by omega) (by omega))]
    · rw [det_tri (fun i j hi hj => by show ((w i j : Nat) : Int) = 0; rw [hz i j (by omega) hj hi]; rfl)] at s1
      have s3 : (p : Int) ∣ s * dprod (wI w) k - (d : Int) := by
        rw [show s * dprod (wI w) k - (d : Int) = -((d : Int) - s * dprod (wI w) k) by omega]
        exact Int.dvd_neg.mpr s2
      exact dv_tr s1 s3
  | m + 1, k, fu, g, w, d, hk, hfu, hg, hd, hz, hs => by
    obtain ⟨q, rfl⟩ : ∃ q, fu = q + 1 := ⟨fu - 1, by omega⟩
    obtain ⟨s, s1, s2⟩ := hs
    have hp := hP.1
    have hkn : k < n := by omega
    obtain ⟨r, p1, p2, p3, p4, p5⟩ := pv_loop (p := p) (l5 := lN d) (M := setJ M wk g) h hn hkn (fun i j hi hj => by
      rw [setJ_s]
      exact ⟨(hg i j hi hj).1, by have := (hg i j hi hj).2; omega⟩) (n - k) k FU (by omega) (by rw [FU_big]; omega)
    have hopen : lp_X9_rest_98 G r0 (nI n) (lN p) (q + 1) (lN d) (nI k) (setJ M wk g) = jn_X9_rest_138 G (setJ M wk g) (lp_X9_rest_98 G r0 (nI n) (lN p) q) r0 (nI n) (lN p) (lN d) (nI k) (nI r) := by
      show bd_X9_rest_98 _ _ _ _ _ _ _ _ = _
      unfold bd_X9_rest_98
      rw [if_neg (nI_ge (by omega) (by omega)), p1, Option.bind_some]
    rw [hopen]
    unfold jn_X9_rest_138
    by_cases hrn : r = n
    · refine ⟨g, Or.inl ⟨by rw [if_pos (by rw [hrn])], ?_⟩⟩
      rw [det_block hkn (fun i j h1 h2 h3 => by
        show ((w i j : Nat) : Int) = 0
        by_cases hjk : j = k
        · subst hjk; rw [p4 i h1 (by omega)]; rfl
        · rw [hz i j (by omega) (by omega) h2]; rfl), Int.mul_zero, Int.sub_zero] at s1
      exact s1
    · have hr : r < n := by omega
      rw [if_neg (fun e => hrn ((nI_eq (by omega) (by omega)).mp e))]
      by_cases hrk : r = k
      · subst hrk
        rw [if_pos (nI_le (by omega) (by omega))]
        obtain ⟨g1, e1, e2⟩ := st_step h hn hkn hP hp2 hg hd (lp_X9_rest_98 G r0 (nI n) (lN p) q)
        rw [e1]
        have hpv := p5 hr
        have hlt := (hg r r hr hr).2
        refine mn_loop h hn hP hp2 m (r + 1) q g1 (elw w r (r + 1) (w r r ^ (p - 2) % p) p) (d * w r r % p) (by omega) (by omega) e2 (Nat.le_of_lt (Nat.mod_lt _ (by omega))) (elw_0 hP hr hpv hlt hz) ⟨s, ?_, ?_⟩
        · exact dv_tr s1 (dv_ml s (elw_det (by omega) hr hz))
        · have hdp : dprod (wI (elw w r (r + 1) (w r r ^ (p - 2) % p) p)) (r + 1) = ((w r r : Nat) : Int) * dprod (wI w) r := by
            show wI _ r r * dprod _ r = _
            have ee : ∀ i, i ≤ r → wI (elw w r (r + 1) (w r r ^ (p - 2) % p) p) i i = wI w i i := fun i hi => by
              show ((elw w r (r + 1) (w r r ^ (p - 2) % p) p i i : Nat) : Int) = _
              unfold elw
              rw [if_neg (by omega)]
            rw [ee r (Nat.le_refl r), dprod_congr (fun i hi => ee i (by omega))]
          rw [hdp]
          have h1 := nmod_dvd (d * w r r) p
          refine dv_tr h1 ?_
          rw [Int.natCast_mul]
          have h2 := dv_ml ((w r r : Nat) : Int) s2
          rw [Int.mul_comm (d : Int), show s * (((w r r : Nat) : Int) * dprod (wI w) r) = ((w r r : Nat) : Int) * (s * dprod (wI w) r) by rw [← Int.mul_assoc, ← Int.mul_assoc, Int.mul_comm s]]
          exact h2
      · have hkr : k < r := by omega
        rw [if_neg (nI_ge (by omega) (by omega))]
        obtain ⟨g0, c1, c2⟩ := sw_loop (p := p) (l5 := lN d) h hn hkn hr hkr n 0 FU g (by omega) (by rw [FU_big]; omega)
        rw [show (0 : Int32) = nI 0 from rfl, c1, Option.bind_some, lN_sub hd]
        have hg0 : wOK g0 (fun i c => if i = k then w r c else if i = r then w k c else w i c) n p := fun i c hi hc => by
          rw [c2 i c hi hc, if_neg (by omega)]
          dsimp only
          by_cases hik : i = k
          · rw [if_pos hik, if_pos hik]; exact hg r c hr hc
          · rw [if_neg hik, if_neg hik]
            by_cases hir : i = r
            · rw [if_pos hir, if_pos hir]; exact hg k c hkn hc
            · rw [if_neg hir, if_neg hir]; exact hg i c hi hc
        have hz0 : ∀ a c, c < k → c < a → a < n → (fun i c => if i = k then w r c else if i = r then w k c else w i c) a c = 0 := fun a c hc hca han => by
          dsimp only
          by_cases hik : a = k
          · rw [if_pos hik]; exact hz r c hc (by omega) hr
          · rw [if_neg hik]
            by_cases hir : a = r
            · rw [if_pos hir]; exact hz k c hc hc hkn
            · rw [if_neg hir]; exact hz a c hc hca han
        have hdet : det n (wI (fun i c => if i = k then w r c else if i = r then w k c else w i c)) = - det n (wI w) := by
          rw [← det_swr hkr hr]
          apply det_congr
          intro a c ha hc
          unfold swr
          dsimp only [wI]
          by_cases hik : a = k
          · rw [if_pos hik, if_pos hik]
          · rw [if_neg hik, if_neg hik]
            by_cases hir : a = r
            · rw [if_pos hir, if_pos hir]
            · rw [if_neg hir, if_neg hir]
        have hdp0 : dprod (wI (fun i c => if i = k then w r c else if i = r then w k c else w i c)) k = dprod (wI w) k := dprod_congr (fun i hi => by
          dsimp only [wI]
          rw [if_neg (by omega), if_neg (by omega)])
        have hpv0 : (fun i c => if i = k then w r c else if i = r then w k c else w i c) k k = w r k := by
          dsimp only
          rw [if_pos rfl]
        generalize (fun i c => if i = k then w r c else if i = r then w k c else w i c) = w0 at *
        have hpv : w0 k k ≠ 0 := by rw [hpv0]; exact p5 hr
        obtain ⟨g1, e1, e2⟩ := st_step h hn hkn hP hp2 hg0 (show p - d ≤ p by omega) (lp_X9_rest_98 G r0 (nI n) (lN p) q)
        rw [e1]
        have hlt := (hg0 k k hkn hkn).2
        have t1 : (p : Int) ∣ D - (-s) * det n (wI w0) := by
          rw [hdet, Int.neg_mul_neg]
          exact s1
        have t2 : (p : Int) ∣ ((p - d : Nat) : Int) - (-s) * dprod (wI w0) k := by
          rw [hdp0, show ((p - d : Nat) : Int) - (-s) * dprod (wI w) k = (p : Int) - ((d : Int) - s * dprod (wI w) k) by rw [Int.neg_mul]; omega]
          exact Int.dvd_sub (Int.dvd_refl _) s2
        refine mn_loop h hn hP hp2 m (k + 1) q g1 (elw w0 k (k + 1) (w0 k k ^ (p - 2) % p) p) ((p - d) * w0 k k % p) (by omega) (by omega) e2 (Nat.le_of_lt (Nat.mod_lt _ (by omega))) (elw_0 hP hkn hpv hlt hz0) ⟨-s, ?_, ?_⟩
        · exact dv_tr t1 (dv_ml (-s) (elw_det (by omega) hkn hz0))
        · have hdp : dprod (wI (elw w0 k (k + 1) (w0 k k ^ (p - 2) % p) p)) (k + 1) = ((w0 k k : Nat) : Int) * dprod (wI w0) k := by
            show wI _ k k * dprod _ k = _
            have ee : ∀ i, i ≤ k → wI (elw w0 k (k + 1) (w0 k k ^ (p - 2) % p) p) i i = wI w0 i i := fun i hi => by
              show ((elw w0 k (k + 1) (w0 k k ^ (p - 2) % p) p i i : Nat) : Int) = _
              unfold elw
              rw [if_neg (by omega)]
            rw [ee k (Nat.le_refl k), dprod_congr (fun i hi => ee i (by omega))]
          rw [hdp]
          have h1 := nmod_dvd ((p - d) * w0 k k) p
          refine dv_tr h1 ?_
          rw [Int.natCast_mul]
          have h2 := dv_ml ((w0 k k : Nat) : Int) t2
          rw [Int.mul_comm ((p - d : Nat) : Int), show (-s) * (((w0 k k : Nat) : Int) * dprod (wI w0) k) = ((w0 k k : Nat) : Int) * ((-s) * dprod (wI w0) k) by rw [← Int.mul_assoc, ← Int.mul_assoc, Int.mul_comm (-s)]]
          exact h2
/-- the remainder of the determinant -/
theorem rs_eq {G : Gg} {M : Mm} {r0 tb rt wk n p cc : Nat} {B : Nat → Nat → Int} {i2 : Int32} (h : refO G M r0 tb rt wk) (hn : n ≤ 8) (hP : isP p) (hp2 : p < 2 ^ 31) (hcol : ∀ j, j < n → (nI j = i2 ↔ j = cc)) (hB : ∀ i c, i < n → c < n → -(2 ^ 62) < B i c ∧ B i c < 2 ^ 62) (hT : ∀ i c, i < n → c < n → c ≠ cc → M.2.1 tb (8 * i + c) = Int64.ofInt (B i c)) (hR : ∀ i, i < n → cc < n → M.2.1 rt i = Int64.ofInt (B i cc)) : ∃ g', f_X9_rest G M r0 (nI n) i2 (lN p) = some (lN (resN (det n B) p), setJ M wk g') := by
  have hp := hP.1
  obtain ⟨g1, e1, e2⟩ := fa_loop h hn (by omega) hp2 hcol hB hT hR n 0 FU (M.2.1 wk) (by omega) (by rw [FU_big]; omega) (fun r c hr hc => absurd hr (by omega))
  rw [setJ_id] at e1
  have hpz : (0 : Int) < (p : Int) := by omega
  have hres : ∀ z : Int, (resN z p : Int) = z % (p : Int) ∧ resN z p < p := fun z => by
    have h1 := Int.emod_nonneg z (show (p : Int) ≠ 0 by omega)
    have h2 := Int.emod_lt_of_pos z hpz
    unfold resN
    omega
  have hdB : (p : Int) ∣ det n B - 1 * det n (wI (fun r c => resN (B r c) p)) := by
    rw [Int.one_mul]
    apply det_mod
    intro r c hr hc
    show (p : Int) ∣ B r c - ((resN (B r c) p : Nat) : Int)
    rw [(hres _).1]
    refine ⟨B r c / p, ?_⟩
    have := Int.mul_ediv_add_emod (B r c) p
    omega
  obtain ⟨g2, hh⟩ := mn_loop (D := det n B) h hn hP hp2 n 0 FU g1 (fun r c => resN (B r c) p) 1 (by omega) (by rw [FU_big]; omega) (fun r c hr hc => ⟨e2 r c hr hc, (hres _).2⟩) (by omega) (fun a c hc => absurd hc (by omega)) ⟨1, hdB, by show (p : Int) ∣ (1 : Int) - 1 * 1; simp⟩
  have key : ∀ d : Nat, d < p → (p : Int) ∣ det n B - (d : Int) → resN (det n B) p = d := fun d hd hv => by
    have h1 := Int.emod_emod_of_dvd
    have h2 : (det n B) % (p : Int) = (d : Int) % (p : Int) := Int.emod_eq_emod_iff_emod_sub_eq_zero.mpr (Int.emod_eq_zero_of_dvd hv)
    rw [Int.emod_eq_of_lt (a := (d : Int)) (by omega) (by omega)] at h2
    have h3 := (hres (det n B)).1
    omega
  refine ⟨g2, ?_⟩
  unfold f_X9_rest
  rw [show (0 : Int32) = nI 0 from rfl, e1, Option.bind_some, lN1]
  rcases hh with ⟨h1, h2⟩ | ⟨d, h1, h2, h3⟩
  · rw [h1, Option.bind_some, key 0 (by omega) (by simpa using h2)]
    rfl
  · rw [h1, Option.bind_some]
    show ck (¬ lN p = 0) (some (lN d - lN d / lN p * lN p, setJ M wk g2)) = _
    rw [ck_nz (by omega) (by omega), pk_lRem (by omega) (by omega) (by omega)]
    rw [key (d % p) (Nat.mod_lt _ (by omega))]
    refine dv_tr h3 ?_
    have := nmod_dvd d p
    rw [show (d : Int) - ((d % p : Nat) : Int) = -(((d % p : Nat) : Int) - (d : Int)) by omega]
    exact Int.dvd_neg.mpr this
/-- two remainders tell a number of at most half the product -/
theorem crt {D : Int} {a b t v : Nat} (hD1 : -499122179993855235 ≤ D) (hD2 : D ≤ 499122179993855235) (ha : (998244353 : Int) ∣ D - (a : Int)) (hb : (1000000007 : Int) ∣ D - (b : Int)) (hv : v = a + 998244353 * t) (ht : t < 1000000007) (haa : a < 998244353) (hvb : (1000000007 : Int) ∣ (v : Int) - (b : Int)) : (v : Int) = if v ≤ 499122179993855235 then D else D + 998244359987710471 := by
  have h1 : (998244353 : Int) ∣ D - (v : Int) := by
    rw [hv, show D - ((a + 998244353 * t : Nat) : Int) = (D - (a : Int)) - 998244353 * (t : Int) by omega]
    exact Int.dvd_sub ha (Int.dvd_mul_right _ _)
  have h2 : (1000000007 : Int) ∣ D - (v : Int) := by
    rw [show D - (v : Int) = (D - (b : Int)) - ((v : Int) - (b : Int)) by omega]
    exact Int.dvd_sub hb hvb
  have h3 : 998244359987710471 ∣ (D - (v : Int)).natAbs := by
    have c : Nat.Coprime 998244353 1000000007 := by decide +kernel
    have := Nat.Coprime.mul_dvd_of_dvd_of_dvd c (show 998244353 ∣ (D - (v : Int)).natAbs from Int.natAbs_dvd_natAbs.mpr h1) (show 1000000007 ∣ (D - (v : Int)).natAbs from Int.natAbs_dvd_natAbs.mpr h2)
    exact this
  obtain ⟨x, hx⟩ := h3
  have hv2 : v < 998244359987710471 := by omega
  split
  · omega
  · omega
theorem c_set {M : Mm} {a : Nat} {g g' : Nat → Int64} : setJ (setJ M a g) a g' = setJ M a g' := by
  unfold setJ
  dsimp only
  congr 2
  funext b
  by_cases hb : b = a
  · subst hb; rw [va_up_self, va_up_self]
  · rw [va_up_ne _ _ hb, va_up_ne _ _ hb, va_up_ne _ _ hb]
theorem refO_s {G : Gg} {M : Mm} {r0 tb rt wk : Nat} {g : Nat → Int64} (h : refO G M r0 tb rt wk) : refO G (setJ M wk g) r0 tb rt wk := h
theorem inv_p {p x e : Nat} (hP : isP p) (hp2 : p < 2 ^ 31) (h0 : x ≠ 0) (hx : x < p) (he : p = e + 2) : ∃ iv, f_X9_power (lN x) (lN e) (lN p) = some (lN iv) ∧ iv * x % p = 1 ∧ iv < p := by
  have h1 := piv_1 hP h0 hx
  have hp := hP.1
  refine ⟨x ^ e % p, pw_eq (by omega) hp2 hx (by omega), ?_, Nat.mod_lt _ (by omega)⟩
  rw [show p - 2 = e by omega] at h1
  exact h1
theorem crt_v {p1 p2 a b iv : Nat} (hinv : iv * p1 % p2 = 1) (hab : a ≤ b + p2) : (p2 : Int) ∣ ((a + p1 * ((b + p2 - a) % p2 * iv % p2) : Nat) : Int) - (b : Int) := by
  have k1 := Nat.div_add_mod ((b + p2 - a) % p2 * iv) p2
  have k2 := Nat.div_add_mod (b + p2 - a) p2
  have k3 := Nat.div_add_mod (iv * p1) p2
  rw [hinv] at k3
  generalize (b + p2 - a) % p2 * iv % p2 = T at *
  generalize (b + p2 - a) % p2 * iv / p2 = T1 at *
  generalize (b + p2 - a) % p2 = U at *
  generalize hU : (b + p2 - a) / p2 = U1 at *
  generalize iv * p1 / p2 = V1 at *
  have k1' : (p2 : Int) * (T1 : Int) + (T : Int) = (U : Int) * (iv : Int) := by exact_mod_cast k1
  have k2' : (p2 : Int) * (U1 : Int) + (U : Int) = (b : Int) + (p2 : Int) - (a : Int) := by
    have : ((p2 * U1 + U : Nat) : Int) = ((b + p2 - a : Nat) : Int) := by rw [k2]
    rw [Int.natCast_add, Int.natCast_mul] at this
    omega
  have k3' : (p2 : Int) * (V1 : Int) + 1 = (iv : Int) * (p1 : Int) := by exact_mod_cast k3
  rw [Int.natCast_add, Int.natCast_mul]
  refine ⟨1 - (U1 : Int) + (U : Int) * (V1 : Int) - (p1 : Int) * (T1 : Int), ?_⟩
  have : (p1 : Int) * (T : Int) = (U : Int) * ((p2 : Int) * (V1 : Int) + 1) - (p1 : Int) * ((p2 : Int) * (T1 : Int)) := by
    rw [k3']
    grind
  grind
theorem crt_x {p1 p2 a b iv : Nat} (hp2 : p2 < 2 ^ 31) (hp1 : p1 < 2 ^ 31) (h0 : 0 < p2) (ha : a < p2) (hb : b < p2) (hi : iv < p2) : lN a + lN p1 * (((lN b - (lN a - lN a / lN p2 * lN p2) + lN p2) - (lN b - (lN a - lN a / lN p2 * lN p2) + lN p2) / lN p2 * lN p2) * lN iv - ((lN b - (lN a - lN a / lN p2 * lN p2) + lN p2) - (lN b - (lN a - lN a / lN p2 * lN p2) + lN p2) / lN p2 * lN p2) * lN iv / lN p2 * lN p2) = lN (a + p1 * ((b + p2 - a) % p2 * iv % p2)) := by
  have hca : a % p2 = a := Nat.mod_eq_of_lt ha
  have hsub : lN b - lN a + lN p2 = lN (b + p2 - a) := by
    rw [← lN_sub (by omega), ← lN_add]
    rw [Int64.sub_eq_add_neg, Int64.sub_eq_add_neg, Int64.add_assoc, Int64.add_assoc, Int64.add_comm (-lN a)]
  have hml : (b + p2 - a) % p2 < p2 := Nat.mod_lt _ h0
  have hmm : (b + p2 - a) % p2 * iv ≤ p2 * p2 := Nat.mul_le_mul (by omega) (by omega)
  have hpp := pp_lt hp2
  rw [pk_lRem (by omega) (by omega) (by omega), hca, hsub, pk_lRem (by omega) (by omega) (by omega), lN_mul, pk_lRem (by omega) (by omega) (by omega), lN_mul, lN_add]
theorem big_1 : (998244359987710471 : Int64) = Int64.ofInt 998244359987710471 := by decide +kernel
theorem big_2 : (499122179993855235 : Int64) = lN 499122179993855235 := by decide +kernel
theorem big_3 : (998244353 : Int64) = lN 998244353 := by decide +kernel
theorem big_4 : (1000000007 : Int64) = lN 1000000007 := by decide +kernel
theorem big_5 : (1000000005 : Int64) = lN 1000000005 := by decide +kernel
theorem inv_2 : ∃ iv, f_X9_power (lN 998244353) (lN 1000000005) (lN 1000000007) = some (lN iv) ∧ iv * 998244353 % 1000000007 = 1 ∧ iv < 1000000007 := inv_p prime2 (by decide) (by decide) (by decide) (by decide)
theorem res_ok (D : Int) {p : Nat} (hp : 0 < p) : resN D p < p ∧ (p : Int) ∣ D - ((resN D p : Nat) : Int) := by
  have q1 := Int.emod_nonneg D (show (p : Int) ≠ 0 by omega)
  have q2 := Int.emod_lt_of_pos D (show (0 : Int) < p by omega)
  have q3 : ((resN D p : Nat) : Int) = D % (p : Int) := by unfold resN; omega
  refine ⟨by omega, ?_⟩
  rw [q3]
  refine ⟨D / p, ?_⟩
  have := Int.mul_ediv_add_emod D p
  omega
theorem crt_w {D : Int} {a b iv v : Nat} (hD1 : -499122179993855235 ≤ D) (hD2 : D ≤ 499122179993855235) (ha : (998244353 : Int) ∣ D - (a : Int)) (hb : (1000000007 : Int) ∣ D - (b : Int)) (haa : a < 998244353) (hbb : b < 1000000007) (hinv : iv * 998244353 % 1000000007 = 1) (hv : v = a + 998244353 * ((b + 1000000007 - a) % 1000000007 * iv % 1000000007)) : v < 998244359987710471 ∧ (v : Int) = if v ≤ 499122179993855235 then D else D + 998244359987710471 := by
  have htl : (b + 1000000007 - a) % 1000000007 * iv % 1000000007 < 1000000007 := Nat.mod_lt _ (by decide)
  have hvb := crt_v (p1 := 998244353) (p2 := 1000000007) (a := a) (b := b) hinv (by omega)
  rw [← hv] at hvb
  refine ⟨by omega, crt hD1 hD2 ha hb hv htl haa hvb⟩
theorem ofI_n (v : Nat) : Int64.ofInt (v : Int) = lN v := rfl
theorem rd_end {v : Nat} {D : Int} {M2 : Mm} (hv2 : v < 998244359987710471) (hcrt : (v : Int) = if v ≤ 499122179993855235 then D else D + 998244359987710471) : (if lg_cmp (lN v) (lN 499122179993855235) ≤ 0 then some (lN v, M2) else some (lN v - Int64.ofInt 998244359987710471, M2)) = some (Int64.ofInt D, M2) := by
  by_cases hc : v ≤ 499122179993855235
  · rw [if_pos hc] at hcrt
    rw [if_pos ((lg_cmp_le _ _).mpr ((pk_lLE (by omega) (by decide)).mpr hc)), ← hcrt, ofI_n]
  · rw [if_neg hc] at hcrt
    rw [if_neg (fun e => hc ((pk_lLE (by omega) (by decide)).mp ((lg_cmp_le _ _).mp e)))]
    have : D = (v : Int) - 998244359987710471 := by omega
    rw [this, Int64.ofInt_sub, ofI_n]
theorem rd_tail {G : Gg} {M M1 M2 : Mm} {r0 a b : Nat} {i1 i2 : Int32} {D : Int} (h1 : isK G r0 9) (e1 : f_X9_rest G M r0 i1 i2 (lN 998244353) = some (lN a, M1)) (e2 : f_X9_rest G M1 r0 i1 i2 (lN 1000000007) = some (lN b, M2)) (ra : a < 998244353) (sa : b < 1000000007) (hv2 : ∀ iv v : Nat, iv * 998244353 % 1000000007 = 1 → v = a + 998244353 * ((b + 1000000007 - a) % 1000000007 * iv % 1000000007) → v < 998244359987710471 ∧ (v : Int) = if v ≤ 499122179993855235 then D else D + 998244359987710471) : f_X9_determinant G M r0 i1 i2 = some (Int64.ofInt D, M2) := by
  obtain ⟨iv, hpw, hinv, hil⟩ := inv_2
  have hx := crt_x (p1 := 998244353) (p2 := 1000000007) (a := a) (b := b) (iv := iv) (by decide) (by decide) (by decide) (Nat.lt_trans ra (by decide)) sa hil
  have hv3 := hv2 iv _ hinv rfl
  clear hv2 hinv hil ra sa
  generalize a + 998244353 * ((b + 1000000007 - a) % 1000000007 * iv % 1000000007) = v at hx hv3
  obtain ⟨hv2, hcrt⟩ := hv3
  unfold f_X9_determinant
  rw [ck_t h1, big_3, big_4, big_5, e1, Option.bind_some, e2, Option.bind_some, ck_nz (by decide) (by decide), hpw, Option.bind_some, hx, big_1, big_2]
  exact rd_end hv2 hcrt
/-- the reference's determinant, where it is small -/
theorem rd_eq {G : Gg} {M : Mm} {r0 tb rt wk n cc : Nat} {B : Nat → Nat → Int} {i2 : Int32} (h : refO G M r0 tb rt wk) (hn : n ≤ 8) (hcol : ∀ j, j < n → (nI j = i2 ↔ j = cc)) (hB : ∀ i c, i < n → c < n → -(2 ^ 62) < B i c ∧ B i c < 2 ^ 62) (hT : ∀ i c, i < n → c < n → c ≠ cc → M.2.1 tb (8 * i + c) = Int64.ofInt (B i c)) (hR : ∀ i, i < n → cc < n → M.2.1 rt i = Int64.ofInt (B i cc)) (hD1 : -499122179993855235 ≤ det n B) (hD2 : det n B ≤ 499122179993855235) : ∃ g', f_X9_determinant G M r0 (nI n) i2 = some (Int64.ofInt (det n B), setJ M wk g') := by
  obtain ⟨h1, h2, h3, h4, h5, h6, h7, h8, h9, h10, h11, h12⟩ := id h
  obtain ⟨g1, e1⟩ := rs_eq (p := 998244353) h hn prime1 (by decide) hcol hB hT hR
  obtain ⟨g2, e2⟩ := rs_eq (p := 1000000007) (M := setJ M wk g1) (refO_s h) hn prime2 (by decide) hcol hB (fun i c hi hc hcc => by rw [setJ_o h11]; exact hT i c hi hc hcc) (fun i hi hc => by rw [setJ_o h12]; exact hR i hi hc)
  rw [c_set] at e2
  obtain ⟨ra, rb⟩ := res_ok (det n B) (p := 998244353) (by decide)
  obtain ⟨sa, sb⟩ := res_ok (det n B) (p := 1000000007) (by decide)
  exact ⟨g2, rd_tail h1 e1 e2 ra sa (fun iv v hi hv => crt_w hD1 hD2 rb sb ra sa hi hv)⟩
