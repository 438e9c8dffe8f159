/-! partitions, split until they stay -/
def fst_ (e : Nat → Bool) : Nat → Nat
  | 0 => 0
  | i + 1 => if fst_ e i < i then fst_ e i else if e i then i else i + 1
theorem fst_s (e : Nat → Bool) (i : Nat) : fst_ e (i + 1) = if fst_ e i < i then fst_ e i else if e i then i else i + 1 := rfl
theorem fst_ok (e : Nat → Bool) : ∀ i, fst_ e i ≤ i ∧ (∀ j, j < fst_ e i → e j = false) ∧ (fst_ e i < i → e (fst_ e i) = true)
  | 0 => ⟨Nat.le_refl 0, fun j hj => absurd hj (Nat.not_lt_zero j), fun z => absurd z (Nat.lt_irrefl 0)⟩
  | i + 1 => by
    obtain ⟨h1, h2, h3⟩ := fst_ok e i
    rw [fst_s]
    by_cases hc : fst_ e i < i
    · rw [if_pos hc]; exact ⟨by omega, h2, fun _ => h3 hc⟩
    · rw [if_neg hc]
      have : fst_ e i = i := by omega
      rw [this] at h2
      by_cases he : e i = true
      · rw [if_pos he]; exact ⟨by omega, h2, fun _ => he⟩
      · rw [if_neg he]
        refine ⟨Nat.le_refl _, fun j hj => ?_, fun z => absurd z (by omega)⟩
        by_cases e1 : j = i
        · subst e1; simpa using he
        · exact h2 j (by omega)
theorem fst_at {e : Nat → Bool} {i j : Nat} (hj : j < i) (h1 : ∀ k, k < j → e k = false) (h2 : e j = true) : fst_ e i = j := by
  obtain ⟨a, b, c⟩ := fst_ok e i
  rcases Nat.lt_trichotomy (fst_ e i) j with h | h | h
  · have := c (by omega)
    rw [h1 _ h] at this; cases this
  · exact h
  · have := b j h
    rw [h2] at this; cases this
theorem fst_no {e : Nat → Bool} {i : Nat} (h : ∀ k, k < i → e k = false) : fst_ e i = i := by
  obtain ⟨a, b, c⟩ := fst_ok e i
  by_cases h1 : fst_ e i < i
  · have := c h1
    rw [h _ h1] at this; cases this
  · omega
theorem fst_cg {e r : Nat → Bool} : ∀ {i : Nat}, (∀ j, j < i → e j = r j) → fst_ e i = fst_ r i
  | 0, _ => rfl
  | i + 1, h => by rw [fst_s, fst_s, fst_cg (fun j hj => h j (by omega)), h i (by omega)]
def eqv (E : Nat → Nat → Bool) : Prop := (∀ i, E i i = true) ∧ (∀ i j, E i j = true → E j i = true) ∧ ∀ i j k, E i j = true → E j k = true → E i k = true
def hdE (E : Nat → Nat → Bool) (i : Nat) : Nat := fst_ (E i) i
def rpE (E : Nat → Nat → Bool) : Nat → Bool := fun k => decide (hdE E k = k)
def lbE (E : Nat → Nat → Bool) (i : Nat) : Nat := ct (rpE E) (hdE E i)
def ncE (E : Nat → Nat → Bool) (n : Nat) : Nat := ct (rpE E) n
theorem hd_le (E : Nat → Nat → Bool) (i : Nat) : hdE E i ≤ i := (fst_ok _ _).1
theorem hd_E {E : Nat → Nat → Bool} (hE : eqv E) (i : Nat) : E i (hdE E i) = true := by
  obtain ⟨a, b, c⟩ := fst_ok (E i) i
  by_cases h : fst_ (E i) i < i
  · exact c h
  · have : hdE E i = i := by unfold hdE; omega
    rw [this]; exact hE.1 i
theorem hd_eq {E : Nat → Nat → Bool} (hE : eqv E) {i j : Nat} (h : E i j = true) : hdE E i = hdE E j := by
  have key : ∀ i j, E i j = true → hdE E j ≤ hdE E i := fun i j h => by
    apply Nat.le_of_not_lt
    intro z
    have h1 := (fst_ok (E j) j).2.1 (hdE E i) z
    have h2 := hE.2.2 j i _ (hE.2.1 i j h) (hd_E hE i)
    rw [h2] at h1; cases h1
  exact Nat.le_antisymm (key j i (hE.2.1 i j h)) (key i j h)
theorem hd_iff {E : Nat → Nat → Bool} (hE : eqv E) {i j : Nat} : hdE E i = hdE E j ↔ E i j = true := ⟨fun e => by
  have h1 := hd_E hE i
  have h2 := hd_E hE j
  rw [← e] at h2
  exact hE.2.2 i _ j h1 (hE.2.1 _ _ h2), hd_eq hE⟩
theorem hd_hd {E : Nat → Nat → Bool} (hE : eqv E) (i : Nat) : hdE E (hdE E i) = hdE E i := (hd_eq hE (hd_E hE i)).symm
theorem lb_iff {E : Nat → Nat → Bool} (hE : eqv E) {i j : Nat} : lbE E i = lbE E j ↔ E i j = true := by
  rw [← hd_iff hE]
  have rp : ∀ i, rpE E (hdE E i) = true := fun i => decide_eq_true (hd_hd hE i)
  constructor
  · intro e
    unfold lbE at e
    rcases Nat.lt_trichotomy (hdE E i) (hdE E j) with h | h | h
    · have := ct_lt (rpE E) h (rp i); omega
    · exact h
    · have := ct_lt (rpE E) h (rp j); omega
  · intro e; unfold lbE; rw [e]
theorem lb_lt {E : Nat → Nat → Bool} (hE : eqv E) {i n : Nat} (hi : i < n) : lbE E i < ncE E n := ct_lt _ (show hdE E i < n from Nat.lt_of_le_of_lt (hd_le E i) hi) (decide_eq_true (hd_hd hE i))
theorem ct_at {p : Nat → Bool} : ∀ {n a : Nat}, a < ct p n → ∃ k, k < n ∧ p k = true ∧ ct p k = a
  | 0, a, h => absurd h (Nat.not_lt_zero a)
  | n + 1, a, h => by
    by_cases h1 : a < ct p n
    · obtain ⟨k, k1, k2, k3⟩ := ct_at h1
      exact ⟨k, by omega, k2, k3⟩
    · rw [ct_s] at h
      cases hp : p n with
      | false => rw [hp] at h; simp at h; omega
      | true =>
        rw [hp] at h; simp at h
        exact ⟨n, by omega, hp, by omega⟩
theorem lb_sj {E : Nat → Nat → Bool} {n a : Nat} (h : a < ncE E n) : ∃ k, k < n ∧ lbE E k = a := by
  obtain ⟨k, k1, k2, k3⟩ := ct_at h
  refine ⟨k, k1, ?_⟩
  have : hdE E k = k := of_decide_eq_true k2
  unfold lbE
  rw [this]; exact k3
def relP (P : Nat → Nat) : Nat → Nat → Bool := fun i j => decide (P i = P j)
theorem rel_i {P : Nat → Nat} {i j : Nat} : relP P i j = true ↔ P i = P j := decide_eq_true_iff
theorem rel_eqv (P : Nat → Nat) : eqv (relP P) := ⟨fun i => rel_i.mpr rfl, fun i j h => rel_i.mpr (rel_i.mp h).symm, fun i j k h1 h2 => rel_i.mpr ((rel_i.mp h1).trans (rel_i.mp h2))⟩
theorem rel_lb {E : Nat → Nat → Bool} (hE : eqv E) : relP (lbE E) = E := funext fun i => funext fun j => by
  rw [Bool.eq_iff_iff, rel_i, lb_iff hE]
theorem hd_cg {E F : Nat → Nat → Bool} {n : Nat} (h : ∀ i j, i < n → j < n → E i j = F i j) {i : Nat} (hi : i < n) : hdE E i = hdE F i := fst_cg (fun j hj => h i j hi (by omega))
theorem rp_cg {E F : Nat → Nat → Bool} {n : Nat} (h : ∀ i, i < n → hdE E i = hdE F i) {i : Nat} (hi : i < n) : rpE E i = rpE F i := by
  unfold rpE
  rw [h i hi]
theorem lb_cg {E F : Nat → Nat → Bool} {n : Nat} (h : ∀ i, i < n → hdE E i = hdE F i) {i : Nat} (hi : i < n) : lbE E i = lbE F i := by
  unfold lbE
  rw [h i hi]
  have := hd_le F i
  exact ct_congr (fun k hk => rp_cg h (by omega))
theorem nc_cg {E F : Nat → Nat → Bool} {n : Nat} (h : ∀ i, i < n → hdE E i = hdE F i) : ncE E n = ncE F n := ct_congr (fun k hk => rp_cg h hk)
theorem ct_sle {p r : Nat → Bool} : ∀ {n : Nat}, (∀ i, i < n → p i = true → r i = true) → ct p n ≤ ct r n
  | 0, _ => Nat.le_refl _
  | n + 1, h => by
    have ih := ct_sle (p := p) (r := r) (n := n) (fun i hi => h i (by omega))
    rw [ct_s, ct_s]
    cases hp : p n with
    | false =>
      simp
      omega
    | true =>
      rw [h n (by omega) hp]
      simp
      omega
theorem ct_sub {p r : Nat → Bool} : ∀ {n : Nat}, (∀ i, i < n → p i = true → r i = true) → ct r n ≤ ct p n → ∀ i, i < n → p i = r i
  | 0, _, _, i, hi => absurd hi (Nat.not_lt_zero i)
  | n + 1, h, hc, i, hi => by
    have hs : ∀ i, i < n → p i = true → r i = true := fun i hi => h i (by omega)
    have ih := ct_sle hs
    rw [ct_s, ct_s] at hc
    have key : p n = r n ∧ ct r n ≤ ct p n := by
      cases hp : p n with
      | false =>
        cases hr : r n with
        | false => rw [hp, hr] at hc; exact ⟨rfl, by simpa using hc⟩
        | true => rw [hp, hr] at hc; simp at hc; omega
      | true =>
        have hr := h n (by omega) hp
        rw [hp, hr] at hc
        exact ⟨hr.symm, by omega⟩
    by_cases e : i = n
    · subst e; exact key.1
    · exact ct_sub hs key.2 i (by omega)
theorem rp_ref {E F : Nat → Nat → Bool} (hF : eqv F) (hs : ∀ i j, F i j = true → E i j = true) (i : Nat) (h : rpE E i = true) : rpE F i = true := by
  have h0 : hdE E i = i := of_decide_eq_true h
  refine decide_eq_true ?_
  have h1 := hd_le F i
  apply Classical.byContradiction
  intro z
  have h2 := hs _ _ (hd_E hF i)
  have h3 := (fst_ok (E i) i).2.1 (hdE F i) (show hdE F i < hdE E i by omega)
  rw [h2] at h3; cases h3
theorem nc_ref {E F : Nat → Nat → Bool} (hF : eqv F) (hs : ∀ i j, F i j = true → E i j = true) (n : Nat) : ncE E n ≤ ncE F n := ct_sle (fun i _ h => rp_ref hF hs i h)
theorem hd_ref {E F : Nat → Nat → Bool} (hE : eqv E) (hF : eqv F) (hs : ∀ i j, F i j = true → E i j = true) {n : Nat} (hc : ncE F n ≤ ncE E n) : ∀ i, i < n → hdE F i = hdE E i := fun i hi => by
  have hr : ∀ i, i < n → rpE E i = rpE F i := ct_sub (fun i _ h => rp_ref hF hs i h) hc
  have h1 := hd_E hF i
  have h2 := hs _ _ h1
  have h3 : hdE E i = hdE E (hdE F i) := hd_eq hE h2
  have h4 : rpE F (hdE F i) = true := decide_eq_true (hd_hd hF i)
  have h5 := hd_le F i
  rw [← hr _ (by omega)] at h4
  have h6 : hdE E (hdE F i) = hdE F i := of_decide_eq_true h4
  rw [h3, h6]
/-- what a state gives to a part -/
def gS (c : Nat → Nat → Nat) (n : Nat) (P : Nat → Nat) (i x : Nat) : Nat := sN (fun l => if P l = x then c i l else 0) n
def lkB (c : Nat → Nat → Nat) (n : Nat) (P : Nat → Nat) : Nat → Nat → Bool := fun i j => decide (P i = P j) && alB (fun k => decide (gS c n P i (P k) = gS c n P j (P k))) n
section
variable {c : Nat → Nat → Nat} {n : Nat}
theorem lk_iff {P : Nat → Nat} {i j : Nat} : lkB c n P i j = true ↔ P i = P j ∧ ∀ k, k < n → gS c n P i (P k) = gS c n P j (P k) := by
  unfold lkB
  rw [Bool.and_eq_true, decide_eq_true_iff, alB_t]
  exact and_congr_right (fun _ => ⟨fun h k hk => of_decide_eq_true (h k hk), fun h k hk => decide_eq_true (h k hk)⟩)
theorem lk_eqv (P : Nat → Nat) : eqv (lkB c n P) := ⟨fun i => lk_iff.mpr ⟨rfl, fun _ _ => rfl⟩, fun i j h => by
  have h := lk_iff.mp h
  exact lk_iff.mpr ⟨h.1.symm, fun k hk => (h.2 k hk).symm⟩, fun i j k h1 h2 => by
  have h1 := lk_iff.mp h1
  have h2 := lk_iff.mp h2
  exact lk_iff.mpr ⟨h1.1.trans h2.1, fun k hk => (h1.2 k hk).trans (h2.2 k hk)⟩⟩
def samP (n : Nat) (P T : Nat → Nat) : Prop := ∀ i j, i < n → j < n → (P i = P j ↔ T i = T j)
theorem gS_cg {P T : Nat → Nat} (h : samP n P T) (i : Nat) {k : Nat} (hk : k < n) : gS c n P i (P k) = gS c n T i (T k) := sN_congr (fun l hl => by
  by_cases e : P l = P k
  · rw [if_pos e, if_pos ((h l k hl hk).mp e)]
  · rw [if_neg e, if_neg (fun z => e ((h l k hl hk).mpr z))])
theorem lk_cg {P T : Nat → Nat} (h : samP n P T) {i j : Nat} (hi : i < n) (hj : j < n) : lkB c n P i j = lkB c n T i j := by
  rw [Bool.eq_iff_iff, lk_iff, lk_iff, h i j hi hj]
  refine and_congr_right (fun _ => ⟨fun z k hk => ?_, fun z k hk => ?_⟩)
  · rw [← gS_cg h i hk, ← gS_cg h j hk]; exact z k hk
  · rw [gS_cg h i hk, gS_cg h j hk]; exact z k hk
def nxP (c : Nat → Nat → Nat) (n : Nat) (P : Nat → Nat) : Nat → Nat := lbE (lkB c n P)
theorem nx_cg {P T : Nat → Nat} (h : samP n P T) {i : Nat} (hi : i < n) : nxP c n P i = nxP c n T i := lb_cg (fun k hk => hd_cg (fun a b ha hb => lk_cg h ha hb) hk) hi
theorem nc_lk {P T : Nat → Nat} (h : samP n P T) : ncE (lkB c n P) n = ncE (lkB c n T) n := nc_cg (fun k hk => hd_cg (fun a b ha hb => lk_cg h ha hb) hk)
def ptN (c : Nat → Nat → Nat) (n : Nat) (tv : Nat → Nat) : Nat → Nat → Nat
  | 0 => tv
  | r + 1 => nxP c n (ptN c n tv r)
def nmN (c : Nat → Nat → Nat) (n : Nat) (tv : Nat → Nat) (r : Nat) : Nat := ncE (relP (ptN c n tv r)) n
theorem pt_s (tv : Nat → Nat) (r : Nat) : ptN c n tv (r + 1) = nxP c n (ptN c n tv r) := rfl
theorem pt_rel (tv : Nat → Nat) (r : Nat) : relP (ptN c n tv (r + 1)) = lkB c n (ptN c n tv r) := rel_lb (lk_eqv _)
theorem nm_s (tv : Nat → Nat) (r : Nat) : nmN c n tv (r + 1) = ncE (lkB c n (ptN c n tv r)) n := by unfold nmN; rw [pt_rel]
theorem lk_sub {P : Nat → Nat} (i j : Nat) (h : lkB c n P i j = true) : relP P i j = true := rel_i.mpr (lk_iff.mp h).1
theorem nm_le (tv : Nat → Nat) (r : Nat) : nmN c n tv r ≤ nmN c n tv (r + 1) := by
  rw [nm_s]
  exact nc_ref (lk_eqv _) lk_sub n
theorem pt_sam {tv : Nat → Nat} {r : Nat} (h : nmN c n tv (r + 1) ≤ nmN c n tv r) : samP n (ptN c n tv (r + 1)) (ptN c n tv r) := fun i j hi hj => by
  rw [nm_s] at h
  have e := hd_ref (rel_eqv (ptN c n tv r)) (lk_eqv _) lk_sub h
  rw [← rel_i, ← rel_i, pt_rel, ← hd_iff (lk_eqv _), ← hd_iff (rel_eqv _), e i hi, e j hj]
theorem sam_of {P T : Nat → Nat} (h : ∀ i, i < n → P i = T i) : samP n P T := fun i j hi hj => by rw [h i hi, h j hj]
theorem pt_all {tv : Nat → Nat} {r : Nat} (h : nmN c n tv (r + 1) ≤ nmN c n tv r) : ∀ k i, i < n → ptN c n tv (r + 1 + k) i = ptN c n tv (r + 1) i
  | 0, i, _ => rfl
  | k + 1, i, hi => by
    have ih := pt_all h k
    show nxP c n (ptN c n tv (r + 1 + k)) i = _
    rw [nx_cg (sam_of ih) hi, nx_cg (pt_sam h) hi]
    rfl
theorem nm_all {tv : Nat → Nat} {r : Nat} (h : nmN c n tv (r + 1) ≤ nmN c n tv r) (k : Nat) : nmN c n tv (r + 1 + k) = nmN c n tv (r + 1) := nc_cg (fun i hi => hd_cg (fun a b ha hb => by
  unfold relP
  rw [pt_all h k a ha, pt_all h k b hb]) hi)
theorem nm_pos (tv : Nat → Nat) (r : Nat) (hn : 0 < n) : 0 < nmN c n tv r := Nat.lt_of_le_of_lt (Nat.zero_le _) (lb_lt (rel_eqv _) hn)
theorem nm_n (tv : Nat → Nat) (r : Nat) : nmN c n tv r ≤ n := ct_le _ n
theorem pt_lt {tv : Nat → Nat} {r i : Nat} (hi : i < n) : ptN c n tv (r + 1) i < nmN c n tv (r + 1) := by
  rw [nm_s]
  exact lb_lt (lk_eqv _) hi
theorem pt_sj {tv : Nat → Nat} {r a : Nat} (h : a < nmN c n tv (r + 1)) : ∃ k, k < n ∧ ptN c n tv (r + 1) k = a := by
  rw [nm_s] at h
  exact lb_sj h
theorem sN_pt {x v : Nat} : ∀ {N : Nat}, x < N → sN (fun b => if x = b then v else 0) N = v
  | 0, h => absurd h (Nat.not_lt_zero x)
  | N + 1, h => by
    rw [sN_succ]
    by_cases e : x = N
    · subst e
      rw [if_pos rfl, sN_0 (fun k hk => if_neg (by omega))]
      omega
    · rw [if_neg e, sN_pt (show x < N by omega), Nat.add_zero]
theorem gS_row {P : Nat → Nat} {N : Nat} (h : ∀ l, l < n → P l < N) (i : Nat) : sN (fun b => gS c n P i b) N = sN (c i) n := by
  unfold gS
  rw [sN_swap]
  exact sN_congr (fun l hl => sN_pt (h l hl))
/-- the first state of a part -/
def foP (P : Nat → Nat) (n a : Nat) : Nat := fst_ (fun j => decide (P j = a)) n
theorem fo_lt {P : Nat → Nat} {a : Nat} (h : ∃ k, k < n ∧ P k = a) : foP P n a < n ∧ P (foP P n a) = a ∧ ∀ j, j < foP P n a → P j ≠ a := by
  obtain ⟨a1, a2, a3⟩ := fst_ok (fun j => decide (P j = a)) n
  obtain ⟨k, k1, k2⟩ := h
  have h1 : foP P n a < n := by
    apply Classical.byContradiction
    intro z
    have h2 : foP P n a = n := Nat.le_antisymm a1 (by omega)
    have h3 := a2 k (show k < foP P n a by omega)
    rw [decide_eq_true k2] at h3
    cases h3
  exact ⟨h1, of_decide_eq_true (a3 h1), fun j hj e => by
    have := a2 j hj
    rw [decide_eq_true e] at this
    cases this⟩
/-- the cells of the melted chain -/
def mfc (c : Nat → Nat → Nat) (n : Nat) (P : Nat → Nat) (N : Nat) : Nat → Nat → Nat := fun a b => if a < N ∧ b < N then gS c n P (foP P n a) b else 0
theorem mfc_row {P : Nat → Nat} {N q : Nat} (hg : gch n q c) (h : ∀ l, l < n → P l < N) (hj : ∀ a, a < N → ∃ k, k < n ∧ P k = a) : rowQ N q (mfc c n P N) := fun a ha => by
  have e : sN (mfc c n P N a) N = sN (fun b => gS c n P (foP P n a) b) N := sN_congr (fun b hb => if_pos ⟨ha, hb⟩)
  rw [e, gS_row h]
  exact hg.2.2.2.2.1 _ (fo_lt (hj a ha)).1
theorem mfc_z {P : Nat → Nat} {N a b : Nat} (h : N ≤ a ∨ N ≤ b) : mfc c n P N a b = 0 := if_neg (by omega)
theorem gS_le {P : Nat → Nat} {q : Nat} (hg : gch n q c) (i : Nat) : ∀ (m : Nat), m ≤ n → ∀ x, gS c m P i x ≤ 60
  | m, hm, x => by
    by_cases hi : i < n
    · have h1 := hg.2.2.2.2.1 i hi
      have h2 := hg.2.2.2.1
      have h3 : gS c m P i x ≤ sN (c i) n := by
        have : ∀ m, sN (fun l => if P l = x then c i l else 0) m ≤ sN (c i) m := fun m => by
          induction m with
          | zero => exact Nat.le_refl _
          | succ m ih =>
            rw [sN_succ, sN_succ]
            split <;> omega
        refine Nat.le_trans (this m) ?_
        have mono : ∀ d, sN (c i) m ≤ sN (c i) (m + d) := fun d => by
          induction d with
          | zero => exact Nat.le_refl _
          | succ d ih =>
            rw [← Nat.add_assoc, sN_succ]
            omega
        have := mono (n - m)
        rw [show m + (n - m) = n by omega] at this
        exact this
      omega
    · have : gS c m P i x = 0 := sN_0 (fun k _ => by
        rw [hg.2.2.2.2.2 i k (Or.inl (by omega))]
        split <;> rfl)
      omega
end
