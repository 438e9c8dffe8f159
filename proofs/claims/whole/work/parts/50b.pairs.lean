/-! the two of them, call by call -/
theorem cmp_s (v : Int64) : lg_cmp v v = 0 := by
  have h := (lg_cmp_eq (x := v) (y := v)).mpr rfl
  exact h
def dj (G : Gg) (A R : Nat → Nat) (q2 : Nat) : Prop := (∀ i j, i < 53 → j < 17 → A i ≠ R j) ∧ (∀ i, i < 53 → A i ≠ q2) ∧ (∀ j, j < 17 → R j ≠ q2) ∧ isK G q2 11 ∧ G.2.2 q2 = 1
def bJ (G : Gg) (A R : Nat → Nat) (M : Mm) : Prop := ∃ p tl tv ol ov ns qs cs, kCI G M A p tl tv ol ov ns qs cs ∧ rRI G M R tl tv ol ov ns qs cs
def prI (G : Gg) (A R : Nat → Nat) (kf rf : Mm → Option (Int32 × Mm)) : Prop := ∀ M, bJ G A R M → ∃ v M1 M2, kf M = some (v, M1) ∧ rf M1 = some (v, M2) ∧ bJ G A R M2
def prQ (G : Gg) (A R : Nat → Nat) (kf : Mm → Option Int32) (rf : Mm → Option (Int32 × Mm)) : Prop := ∀ M, bJ G A R M → ∃ v M2, kf M = some v ∧ rf M = some (v, M2) ∧ bJ G A R M2
section
variable {G : Gg} {M : Mm} {A R p p' : Nat → Nat} {q2 tl tl' : Nat} {tv tv' : Nat → Nat} {ol ol' : Nat} {ov ov' ns ns' qs qs' : Nat → Nat} {cs cs' : Nat → Nat → Nat → Nat}
theorem jn_I (d : dj G A R q2) {kf rf : Mm → Option (Int32 × Mm)} {v : Int32} (hr : rRI G M R tl tv ol ov ns qs cs) (hk : OK (kf M) (fun r => r.1 = v ∧ kCI G r.2 A p' tl' tv' ol' ov' ns' qs' cs' ∧ unt M r.2 A 53)) (hf : ∀ M1, rRI G M1 R tl tv ol ov ns qs cs → OK (rf M1) (fun r => r.1 = v ∧ rRI G r.2 R tl' tv' ol' ov' ns' qs' cs' ∧ unt M1 r.2 R 17)) : ∃ v M1 M2, kf M = some (v, M1) ∧ rf M1 = some (v, M2) ∧ bJ G A R M2 := by
  obtain ⟨⟨v1, M1⟩, a1, a2, a3, a4⟩ := hk
  dsimp only at a2 a3 a4
  have hr1 := rRI_u hr a4 (fun i j hi hj => (d.1 j i hj hi).symm)
  obtain ⟨⟨v2, M2⟩, b1, b2, b3, b4⟩ := hf M1 hr1
  dsimp only at b2 b3 b4
  subst a2
  subst b2
  exact ⟨v2, M1, M2, a1, b1, p', tl', tv', ol', ov', ns', qs', cs', kCI_u a3 b4 d.1, b3⟩
theorem jn_Q (d : dj G A R q2) {kf : Mm → Option Int32} {rf : Mm → Option (Int32 × Mm)} {v : Int32} (h : kCI G M A p tl tv ol ov ns qs cs) (hk : kf M = some v) (hf : OK (rf M) (fun r => r.1 = v ∧ rRI G r.2 R tl tv ol ov ns qs cs ∧ unt M r.2 R 17)) : ∃ v M2, kf M = some v ∧ rf M = some (v, M2) ∧ bJ G A R M2 := by
  obtain ⟨⟨v2, M2⟩, b1, b2, b3, b4⟩ := hf
  dsimp only at b2 b3 b4
  subst b2
  exact ⟨v2, M2, hk, b1, p, tl, tv, ol, ov, ns, qs, cs, kCI_u h b4 d.1, b3⟩
theorem okk_ {f : Option (Int32 × Mm)} {v : Int32} (h : kCI G M A p tl tv ol ov ns qs cs) (e : f = some (v, M)) : OK f (fun r => r.1 = v ∧ kCI G r.2 A p tl tv ol ov ns qs cs ∧ unt M r.2 A 53) := ⟨(v, M), e, rfl, h, unt_rf _ _ _⟩
theorem okr_ {f : Option (Int32 × Mm)} {v : Int32} (h : rRI G M R tl tv ol ov ns qs cs) (e : f = some (v, mwI M (R 0) 0 (nI 0))) : OK f (fun r => r.1 = v ∧ rRI G r.2 R tl tv ol ov ns qs cs ∧ unt M r.2 R 17) := ⟨(v, mwI M (R 0) 0 (nI 0)), e, rfl, thr_0 h (nI 0)⟩
end
section
variable {G : Gg} {A R : Nat → Nat} {q2 : Nat}
theorem P_feed (d : dj G A R q2) (a b c e f : Int32) : prI G A R (fun M => f_X8_feed G M (A 0) a b c e f) (fun M => f_X9_feed G M (R 0) a b c e f) := fun M ⟨p, tl, tv, ol, ov, ns, qs, cs, h, hr⟩ => by
  by_cases h4 : tl + 20 ≤ 80
  · exact jn_I (kf := fun M => f_X8_feed G M (A 0) a b c e f) (rf := fun M => f_X9_feed G M (R 0) a b c e f) d hr (kfeed_p h h4 a b c e f) (fun M1 h1 => rfeed_p h1 h4 a b c e f)
  · exact jn_I (kf := fun M => f_X8_feed G M (A 0) a b c e f) (rf := fun M => f_X9_feed G M (R 0) a b c e f) d hr (okk_ h (kfeed_n h (by omega) a b c e f)) (fun M1 h1 => okr_ h1 (rfeed_n h1 (by omega) a b c e f))
theorem P_end (d : dj G A R q2) (a : Int32) : prI G A R (fun M => f_X8_end G M (A 0) a) (fun M => f_X9_end G M (R 0) a) := fun M ⟨p, tl, tv, ol, ov, ns, qs, cs, h, hr⟩ => by
  by_cases h4 : ∃ n, n ≤ tl ∧ a = nI n
  · obtain ⟨n, hn, rfl⟩ := h4
    exact jn_I (kf := fun M => f_X8_end G M (A 0) (nI n)) (rf := fun M => f_X9_end G M (R 0) (nI n)) d hr (kend_p h hn) (fun M1 h1 => rend_p h1 hn)
  · have hi : ∀ n, n ≤ tl → a ≠ nI n := fun n hn e => h4 ⟨n, hn, e⟩
    exact jn_I (kf := fun M => f_X8_end G M (A 0) a) (rf := fun M => f_X9_end G M (R 0) a) d hr (okk_ h (kend_n h hi)) (fun M1 h1 => okr_ h1 (rend_n h1 hi))
theorem P_sheet (d : dj G A R q2) (a b c : Int32) : prI G A R (fun M => f_X8_sheet G M (A 0) a b c) (fun M => f_X9_sheet G M (R 0) a b c) := fun M ⟨p, tl, tv, ol, ov, ns, qs, cs, h, hr⟩ => by
  by_cases h4 : ∃ s n q, shOK tl tv a b c s n q
  · obtain ⟨s, n, q, ho⟩ := h4
    exact jn_I (kf := fun M => f_X8_sheet G M (A 0) a b c) (rf := fun M => f_X9_sheet G M (R 0) a b c) d hr (ksheet_p h ho) (fun M1 h1 => rsheet_p h1 ho)
  · exact jn_I (kf := fun M => f_X8_sheet G M (A 0) a b c) (rf := fun M => f_X9_sheet G M (R 0) a b c) d hr (ksheet_n h h4) (fun M1 h1 => rsheet_n h1 h4)
theorem P_lazy (d : dj G A R q2) (a b : Int32) : prI G A R (fun M => f_X8_lazy G M (A 0) a b) (fun M => f_X9_lazy G M (R 0) a b) := fun M ⟨p, tl, tv, ol, ov, ns, qs, cs, h, hr⟩ => by
  by_cases h4 : slo ns a ∧ isl b
  · obtain ⟨⟨s, hs, rfl, hn⟩, ⟨t, ht, rfl⟩⟩ := h4
    by_cases hle : 2 * qs s / gD (2 * qs s) (lzf (ns s) (qs s) (cs s)) ≤ 60
    · exact jn_I (kf := fun M => f_X8_lazy G M (A 0) (nI s) (nI t)) (rf := fun M => f_X9_lazy G M (R 0) (nI s) (nI t)) d hr (klazy_p h hs hn ht hle) (fun M1 h1 => rlazy_p h1 hs hn ht hle)
    · exact jn_I (kf := fun M => f_X8_lazy G M (A 0) (nI s) (nI t)) (rf := fun M => f_X9_lazy G M (R 0) (nI s) (nI t)) d hr (klazy_b h hs hn ht (by omega)) (fun M1 h1 => rlazy_b h1 hs hn ht (by omega))
  · exact jn_I (kf := fun M => f_X8_lazy G M (A 0) a b) (rf := fun M => f_X9_lazy G M (R 0) a b) d hr (okk_ h (klazy_n h h4)) (fun M1 h1 => okr_ h1 (rlazy_n h1 h4))
theorem P_back (d : dj G A R q2) (a b : Int32) : prI G A R (fun M => f_X8_back G M (A 0) a b) (fun M => f_X9_back G M (R 0) a b) := fun M ⟨p, tl, tv, ol, ov, ns, qs, cs, h, hr⟩ => by
  by_cases h4 : ∃ s t Q, bkOK ns qs cs a b s t Q
  · obtain ⟨s, t, Q, ho⟩ := h4
    exact jn_I (kf := fun M => f_X8_back G M (A 0) a b) (rf := fun M => f_X9_back G M (R 0) a b) d hr (kback_p h ho) (fun M1 h1 => rback_p h1 ho)
  · exact jn_I (kf := fun M => f_X8_back G M (A 0) a b) (rf := fun M => f_X9_back G M (R 0) a b) d hr (kback_n h h4) (fun M1 h1 => rback_n h1 h4)
theorem P_melt (d : dj G A R q2) (a b : Int32) : prI G A R (fun M => f_X8_melt G M (A 0) a b) (fun M => f_X9_melt G M (R 0) a b) := fun M ⟨p, tl, tv, ol, ov, ns, qs, cs, h, hr⟩ => by
  by_cases h4 : ∃ s t, mtOK ns tl a b s t
  · obtain ⟨s, t, ho⟩ := h4
    exact jn_I (kf := fun M => f_X8_melt G M (A 0) a b) (rf := fun M => f_X9_melt G M (R 0) a b) d hr (kmelt_p h ho) (fun M1 h1 => rmelt_p h1 ho)
  · exact jn_I (kf := fun M => f_X8_melt G M (A 0) a b) (rf := fun M => f_X9_melt G M (R 0) a b) d hr (kmelt_n h h4) (fun M1 h1 => rmelt_n h1 h4)
theorem P_about (d : dj G A R q2) (a b : Int32) : prQ G A R (fun M => f_X8_about G M (A 0) a b) (fun M => f_X9_about G M (R 0) a b) := fun M ⟨p, tl, tv, ol, ov, ns, qs, cs, h, hr⟩ => by
  by_cases h4 : slo ns a
  · obtain ⟨s, hs, rfl, hn⟩ := h4
    exact jn_Q (kf := fun M => f_X8_about G M (A 0) (nI s) b) (rf := fun M => f_X9_about G M (R 0) (nI s) b) d h (kabout_p h hs hn b) (rabout_p hr hs hn b)
  · exact jn_Q (kf := fun M => f_X8_about G M (A 0) a b) (rf := fun M => f_X9_about G M (R 0) a b) d h (kabout_n h h4 b) (okr_ hr (rabout_n hr h4 b))
theorem P_state (d : dj G A R q2) (a b c : Int32) : prQ G A R (fun M => f_X8_state G M (A 0) a b c) (fun M => f_X9_state G M (R 0) a b c) := fun M ⟨p, tl, tv, ol, ov, ns, qs, cs, h, hr⟩ => by
  by_cases h4 : ∃ s, s < 6 ∧ a = nI s ∧ 0 < ns s ∧ stt (ns s) b
  · obtain ⟨s, hs, rfl, hn, j, hj, rfl⟩ := h4
    exact jn_Q (kf := fun M => f_X8_state G M (A 0) (nI s) (nI j) c) (rf := fun M => f_X9_state G M (R 0) (nI s) (nI j) c) d h (kstate_p h hs hn hj c) (rstate_p hr hs hn hj c)
  · exact jn_Q (kf := fun M => f_X8_state G M (A 0) a b c) (rf := fun M => f_X9_state G M (R 0) a b c) d h (kstate_n h h4 c) (okr_ hr (rstate_n hr h4 c))
theorem P_count (d : dj G A R q2) (a : Int32) : prQ G A R (fun M => f_X8_count G M (A 0) a) (fun M => f_X9_count G M (R 0) a) := fun M ⟨p, tl, tv, ol, ov, ns, qs, cs, h, hr⟩ => jn_Q (kf := fun M => f_X8_count G M (A 0) a) (rf := fun M => f_X9_count G M (R 0) a) d h (kcount_eq h a) (okr_ hr (rcount_eq hr a))
theorem P_when (d : dj G A R q2) (a b c : Int32) : prI G A R (fun M => f_X8_when G M (A 0) a b c) (fun M => f_X9_when G M (R 0) a b c) := fun M ⟨p, tl, tv, ol, ov, ns, qs, cs, h, hr⟩ => by
  by_cases h4 : ∃ s x y, whOK ns a b c s x y
  · obtain ⟨s, x, y, ho⟩ := h4
    exact jn_I (kf := fun M => f_X8_when G M (A 0) a b c) (rf := fun M => f_X9_when G M (R 0) a b c) d hr (kwhen_p h ho) (fun M1 h1 => rwhen_p h1 ho)
  · exact jn_I (kf := fun M => f_X8_when G M (A 0) a b c) (rf := fun M => f_X9_when G M (R 0) a b c) d hr (okk_ h (kwhen_n h h4)) (fun M1 h1 => okr_ h1 (rwhen_n h1 h4))
theorem P_cut (d : dj G A R q2) (a : Int32) : prI G A R (fun M => f_X8_cut G M (A 0) a) (fun M => f_X9_cut G M (R 0) a) := fun M ⟨p, tl, tv, ol, ov, ns, qs, cs, h, hr⟩ => by
  by_cases h4 : ∃ s, nwOK_ ns cs a s
  · obtain ⟨s, ho⟩ := h4
    exact jn_I (kf := fun M => f_X8_cut G M (A 0) a) (rf := fun M => f_X9_cut G M (R 0) a) d hr (kcut_p h ho) (fun M1 h1 => rcut_p h1 ho)
  · exact jn_I (kf := fun M => f_X8_cut G M (A 0) a) (rf := fun M => f_X9_cut G M (R 0) a) d hr (kcut_n h h4) (fun M1 h1 => rcut_n h1 h4)
end
/-- a call of the class that may refuse, as the law takes it -/
def lT_ (G : Gg) (q2 : Nat) (q : Option (Option Int64 × Mm)) : Option (Int32 × Mm) := Option.bind q fun q => onO q.1 (some (1, q.2)) fun r => ck (inb (0 : Int32) (G.2.2 q2)) <| some (0, mwJ q.2 q2 (Int32.toNatClampNeg (0 : Int32)) r)
def prT (G : Gg) (A R : Nat → Nat) (q2 : Nat) (lf : Mm → Option (Int32 × Mm)) (rf : Mm → Option (Int64 × Mm)) : Prop := ∀ M, bJ G A R M → ∃ M1 v M2, rf M1 = some (v, M2) ∧ bJ G A R M2 ∧ ((lf M = some (0, M1) ∧ M2.1 (R 0) 0 = 0 ∧ M2.2.1 q2 0 = v) ∨ (lf M = some (1, M1) ∧ M2.1 (R 0) 0 = 1))
section
variable {G : Gg} {M : Mm} {A R p : Nat → Nat} {q2 tl : Nat} {tv : Nat → Nat} {ol : Nat} {ov ns qs : Nat → Nat} {cs : Nat → Nat → Nat → Nat}
theorem unt_q {x : Int64} : unt M (mwJ M q2 0 x) (fun _ => q2) 1 := unt_J (A := fun _ => q2) (i := 0) (by decide)
theorem in_0 (d : dj G A R q2) : inb (0 : Int32) (G.2.2 q2) := by
  rw [d.2.2.2.2]
  exact inb_n (by decide) (by decide)
theorem jn_p (d : dj G A R q2) {kf : Mm → Option (Option Int64 × Mm)} {rf : Mm → Option (Int64 × Mm)} {v : Int64} (hr : rRI G M R tl tv ol ov ns qs cs) (hk : OK (kf M) (fun r => r.1 = some v ∧ kCI G r.2 A p tl tv ol ov ns qs cs ∧ unt M r.2 A 53)) (hf : ∀ M1, rRI G M1 R tl tv ol ov ns qs cs → OK (rf M1) (fun r => r.1 = v ∧ ans G M1 R tl tv ol ov ns qs cs r.2)) : ∃ M1 v M2, rf M1 = some (v, M2) ∧ bJ G A R M2 ∧ ((lT_ G q2 (kf M) = some (0, M1) ∧ M2.1 (R 0) 0 = 0 ∧ M2.2.1 q2 0 = v) ∨ (lT_ G q2 (kf M) = some (1, M1) ∧ M2.1 (R 0) 0 = 1)) := by
  obtain ⟨⟨v1, M1⟩, a1, a2, a3, a4⟩ := hk
  dsimp only at a2 a3 a4
  subst a2
  have hr1 := rRI_u (rRI_u hr a4 (fun i j hi hj => (d.1 j i hj hi).symm)) (unt_q (x := v) (q2 := q2)) (fun i j hi _ => d.2.2.1 i hi)
  have hk1 := kCI_u a3 (unt_q (x := v) (q2 := q2)) (fun i j hi _ => d.2.1 i hi)
  obtain ⟨⟨v2, M2⟩, b1, b2, b3, b4, b5⟩ := hf _ hr1
  dsimp only at b2 b3 b4 b5
  subst b2
  refine ⟨mwJ M1 q2 0 v2, v2, M2, b1, ⟨p, tl, tv, ol, ov, ns, qs, cs, kCI_u hk1 b5 d.1, b4⟩, Or.inl ⟨?_, b3, ?_⟩⟩
  · unfold lT_
    rw [a1, Option.bind_some]
    show ck _ _ = _
    rw [ck_t (in_0 d)]
    rfl
  · rw [(b5 q2 (fun i hi => (d.2.2.1 i hi).symm)).2.1, mwJ_s]
theorem jn_n (d : dj G A R q2) {kf : Mm → Option (Option Int64 × Mm)} {rf : Mm → Option (Int64 × Mm)} (hr : rRI G M R tl tv ol ov ns qs cs) (hk : OK (kf M) (fun r => r.1 = none ∧ kCI G r.2 A p tl tv ol ov ns qs cs ∧ unt M r.2 A 53)) (hf : ∀ M1, rRI G M1 R tl tv ol ov ns qs cs → OK (rf M1) (fun r => rfd G M1 R tl tv ol ov ns qs cs r.2)) : ∃ M1 v M2, rf M1 = some (v, M2) ∧ bJ G A R M2 ∧ ((lT_ G q2 (kf M) = some (0, M1) ∧ M2.1 (R 0) 0 = 0 ∧ M2.2.1 q2 0 = v) ∨ (lT_ G q2 (kf M) = some (1, M1) ∧ M2.1 (R 0) 0 = 1)) := by
  obtain ⟨⟨v1, M1⟩, a1, a2, a3, a4⟩ := hk
  dsimp only at a2 a3 a4
  subst a2
  have hr1 := rRI_u hr a4 (fun i j hi hj => (d.1 j i hj hi).symm)
  obtain ⟨⟨v2, M2⟩, b1, b3, b4, b5⟩ := hf _ hr1
  dsimp only at b3 b4 b5
  refine ⟨M1, v2, M2, b1, ⟨p, tl, tv, ol, ov, ns, qs, cs, kCI_u a3 b5 d.1, b4⟩, Or.inr ⟨?_, b3⟩⟩
  unfold lT_
  rw [a1, Option.bind_some]
  rfl
theorem okn_ {f : Option (Option Int64 × Mm)} (h : kCI G M A p tl tv ol ov ns qs cs) (e : f = some (none, M)) : OK f (fun r => r.1 = none ∧ kCI G r.2 A p tl tv ol ov ns qs cs ∧ unt M r.2 A 53) := ⟨(none, M), e, rfl, h, unt_rf _ _ _⟩
end
section
variable {G : Gg} {A R : Nat → Nat} {q2 : Nat}
theorem P_chance (d : dj G A R q2) (a b c e f : Int32) : prT G A R q2 (fun M => lT_ G q2 (f_X8_chance G M (A 0) a b c e f)) (fun M => f_X9_chance G M (R 0) a b c e f) := fun M ⟨p, tl, tv, ol, ov, ns, qs, cs, h, hr⟩ => by
  by_cases h4 : ∃ s i j t, chOK ns qs a b c e f s i j t
  · obtain ⟨s, i, j, t, ho⟩ := h4
    exact jn_p (kf := fun M => f_X8_chance G M (A 0) a b c e f) (rf := fun M => f_X9_chance G M (R 0) a b c e f) d hr (kchance_p h ho) (fun M1 h1 => rchance_p h1 ho)
  · exact jn_n (kf := fun M => f_X8_chance G M (A 0) a b c e f) (rf := fun M => f_X9_chance G M (R 0) a b c e f) d hr (okn_ h (kchance_n h h4)) (fun M1 h1 => rchance_n h1 h4)
theorem P_apart (d : dj G A R q2) (a b c e f : Int32) : prT G A R q2 (fun M => lT_ G q2 (f_X8_apart G M (A 0) a b c e f)) (fun M => f_X9_apart G M (R 0) a b c e f) := fun M ⟨p, tl, tv, ol, ov, ns, qs, cs, h, hr⟩ => by
  by_cases h4 : ∃ s t g, apOK ns qs cs a b c e f s t g
  · obtain ⟨s, t, g, ho⟩ := h4
    exact jn_p (kf := fun M => f_X8_apart G M (A 0) a b c e f) (rf := fun M => f_X9_apart G M (R 0) a b c e f) d hr (kapart_p h ho) (fun M1 h1 => rapart_p h1 ho)
  · exact jn_n (kf := fun M => f_X8_apart G M (A 0) a b c e f) (rf := fun M => f_X9_apart G M (R 0) a b c e f) d hr (okn_ h (kapart_n h h4)) (fun M1 h1 => rapart_n h1 h4)
theorem P_stay (d : dj G A R q2) (a b c : Int32) : prT G A R q2 (fun M => lT_ G q2 (f_X8_stay G M (A 0) a b c)) (fun M => f_X9_stay G M (R 0) a b c) := fun M ⟨p, tl, tv, ol, ov, ns, qs, cs, h, hr⟩ => by
  by_cases h4 : ∃ s i, s < 6 ∧ a = nI s ∧ 0 < ns s ∧ i < ns s ∧ b = nI i ∧ wht c ∧ oneC (cs s) (ns s)
  · obtain ⟨s, i, hs, rfl, hn, hi, rfl, hw, h1⟩ := h4
    exact jn_p (kf := fun M => f_X8_stay G M (A 0) (nI s) (nI i) c) (rf := fun M => f_X9_stay G M (R 0) (nI s) (nI i) c) d hr (kstay_p h hs hn hi hw h1) (fun M1 hr1 => rstay_p hr1 hs hn hi hw h1)
  · exact jn_n (kf := fun M => f_X8_stay G M (A 0) a b c) (rf := fun M => f_X9_stay G M (R 0) a b c) d hr (okn_ h (kstay_n h h4)) (fun M1 h1 => rstay_n h1 h4)
theorem P_steps (d : dj G A R q2) (a b c e : Int32) : prT G A R q2 (fun M => lT_ G q2 (f_X8_steps G M (A 0) a b c e)) (fun M => f_X9_steps G M (R 0) a b c e) := fun M ⟨p, tl, tv, ol, ov, ns, qs, cs, h, hr⟩ => by
  by_cases h4 : ∃ s i S, spOK ns a b c e s i S ∧ (S.testBit i = true ∨ stL (cs s) (ns s) i S)
  · obtain ⟨s, i, S, ho, h5⟩ := h4
    cases hb : S.testBit i with
    | true => exact jn_p (kf := fun M => f_X8_steps G M (A 0) a b c e) (rf := fun M => f_X9_steps G M (R 0) a b c e) d hr (ksteps_0 h ho hb) (fun M1 h1 => rsteps_0 h1 ho hb)
    | false =>
      have hl : stL (cs s) (ns s) i S := h5.elim (fun z => by rw [hb] at z; cases z) id
      exact jn_p (kf := fun M => f_X8_steps G M (A 0) a b c e) (rf := fun M => f_X9_steps G M (R 0) a b c e) d hr (ksteps_p h ho hb hl) (fun M1 h1 => rsteps_p h1 ho hb hl)
  · exact jn_n (kf := fun M => f_X8_steps G M (A 0) a b c e) (rf := fun M => f_X9_steps G M (R 0) a b c e) d hr (okn_ h (ksteps_n h h4)) (fun M1 h1 => rsteps_n h1 h4)
theorem P_ahead (d : dj G A R q2) (a b c e f : Int32) : prT G A R q2 (fun M => lT_ G q2 (f_X8_ahead G M (A 0) a b c e f)) (fun M => f_X9_ahead G M (R 0) a b c e f) := fun M ⟨p, tl, tv, ol, ov, ns, qs, cs, h, hr⟩ => by
  by_cases h4 : ∃ s i S T, adOK ns a b c e f s i S T
  · obtain ⟨s, i, S, T, ho⟩ := h4
    exact jn_p (kf := fun M => f_X8_ahead G M (A 0) a b c e f) (rf := fun M => f_X9_ahead G M (R 0) a b c e f) d hr (kahead_p h ho) (fun M1 h1 => rahead_p h1 ho)
  · exact jn_n (kf := fun M => f_X8_ahead G M (A 0) a b c e f) (rf := fun M => f_X9_ahead G M (R 0) a b c e f) d hr (okn_ h (kahead_n h h4)) (fun M1 h1 => rahead_n h1 h4)
theorem P_narrow (d : dj G A R q2) (a b : Int32) : prT G A R q2 (fun M => lT_ G q2 (f_X8_narrow G M (A 0) a b)) (fun M => f_X9_narrow G M (R 0) a b) := fun M ⟨p, tl, tv, ol, ov, ns, qs, cs, h, hr⟩ => by
  by_cases h4 : ∃ s, nwOK_ ns cs a s ∧ wht b ∧ nset (ns s) (qs s) (cs s) ≠ 0
  · obtain ⟨s, ho, hw, h0⟩ := h4
    exact jn_p (kf := fun M => f_X8_narrow G M (A 0) a b) (rf := fun M => f_X9_narrow G M (R 0) a b) d hr (knarrow_p h ho hw h0) (fun M1 h1 => rnarrow_p h1 ho hw h0)
  · exact jn_n (kf := fun M => f_X8_narrow G M (A 0) a b) (rf := fun M => f_X9_narrow G M (R 0) a b) d hr (knarrow_n h h4) (fun M1 h1 => rnarrow_n h1 h4)
theorem P_octet (d : dj G A R q2) (a : Int32) : ∀ M, bJ G A R M → ∃ M1 v M2, f_X9_octet G M1 (R 0) a = some (v, M2) ∧ bJ G A R M2 ∧ ((f_L_octet G M (A 0) a q2 = some (0, M1) ∧ M2.1 (R 0) 0 = 0 ∧ M2.2.1 q2 0 = Int32.toInt64 v) ∨ (f_L_octet G M (A 0) a q2 = some (1, M1) ∧ M2.1 (R 0) 0 = 1)) := fun M ⟨p, tl, tv, ol, ov, ns, qs, cs, h, hr⟩ => by
  have k0 : isK G (A 0) 8 := h.1.2.1 0 (by decide)
  by_cases h4 : ∃ n, n < ol ∧ a = nI n
  · obtain ⟨n, hn, rfl⟩ := h4
    have e1 := koct_p h hn
    have hr1 := rRI_u hr (unt_q (x := Int32.toInt64 (nI (ov n))) (q2 := q2)) (fun i j hi _ => d.2.2.1 i hi)
    have hk1 := kCI_u h (unt_q (x := Int32.toInt64 (nI (ov n))) (q2 := q2)) (fun i j hi _ => d.2.1 i hi)
    have e2 := roct_p hr1 hn
    obtain ⟨z1, z2⟩ := thr_0 hr1 (nI 0)
    refine ⟨_, _, _, e2, ⟨p, tl, tv, ol, ov, ns, qs, cs, kCI_u hk1 z2 d.1, z1⟩, Or.inl ⟨?_, mwI_s, ?_⟩⟩
    · unfold f_L_octet
      rw [ck_t d.2.2.2.1, ck_t k0, e1, Option.bind_some]
      show ck _ _ = _
      rw [ck_t (in_0 d)]
      rfl
    · exact mwJ_s
  · have hi : ∀ n, n < ol → a ≠ nI n := fun n hn e => h4 ⟨n, hn, e⟩
    have e1 := koct_n h hi
    have e2 := roct_n hr hi
    obtain ⟨z1, z2⟩ := thr_0 hr (nI 1)
    refine ⟨M, _, _, e2, ⟨p, tl, tv, ol, ov, ns, qs, cs, kCI_u h z2 d.1, z1⟩, Or.inr ⟨?_, mwI_s⟩⟩
    unfold f_L_octet
    rw [ck_t d.2.2.2.1, ck_t k0, e1, Option.bind_some]
    rfl
end
