abbrev rm_X7_widestGap : Room := { frames := 2, cells := 0, slots := 0, locals := 66 }
set_option maxHeartbeats 4000000 in
set_option maxRecDepth 100000 in
theorem wb_X7_widestGap_17 {p : Program} {l : Launch} {e : Env} {s : State} {m : MethodId} {args : Array Value} {below : List Frame} {meth : Method} {c : Code} {D : va_G} {cy : Cyy} {A : Nat → Prop} {G : Gg} (X : Cx p m c cX7_widestGap 6 s args wz_X7_widestGap RX7 D cy) {Q : State → Prop} (M : Mm) (r0 : Nat) (r1 : Nat) (i4 : Int32) (Qo : Int64 → Prop)  (hE : ∀ (y : Int64), Qo (y) → ∀ (H : Heap) (locs : List Loc) (ls : Array Slot), Wo s D cy A G M H locs → lv_has ls 6 [(0, .ref r0), (1, .ref r1), (2, .long y), (4, .int i4)] → W p l e rm_X7_widestGap s m args below meth c H locs 0 0 Q (F0 m 44 ls [])) (rec : Int64 → Int32 → Option (Int64)) (hrec : ∀ (l2 : Int64) (i5 : Int32) (H : Heap) (locs : List Loc) (ls : Array Slot), Wo s D cy A G M H locs → lv_has ls 6 [(0, .ref r0), (1, .ref r1), (2, .long l2), (4, .int i4), (5, .int i5)] → OK (rec l2 i5) Qo → W p l e rm_X7_widestGap s m args below meth c H locs 0 0 Q (F0 m 17 ls [])) (l2 : Int64) (i5 : Int32) (H : Heap) (locs : List Loc) (ls : Array Slot) (w : Wo s D cy A G M H locs) (hl : lv_has ls 6 [(0, .ref r0), (1, .ref r1), (2, .long l2), (4, .int i4), (5, .int i5)]) (hk : OK (bd_X7_widestGap_17 G M r0 r1 i4 rec l2 i5) Qo) : W p l e rm_X7_widestGap s m args below meth c H locs 0 0 Q (F0 m 17 ls []) := by
    have hx := X.1.1
    have hb := X.1.2.1
    unfold bd_X7_widestGap_17 at hk
    refine lv_iload hx hb dX7_widestGap_17 (lv_at hl 4 rfl) ?_
    refine lv_iload hx hb dX7_widestGap_19 (lv_at hl 3 rfl) ?_
    refine lv_icmp_ge (tgt := 44) hx hb dX7_widestGap_21 (by decide) (fun c3 => ?_) (fun c3 => ?_)
    · have hk := ok_p c3 hk
      exact hE l2 (ok_s hk) _ _ _ w (lv_sub hl [0, 1, 2, 3] rfl)
    · have hk := ok_n c3 hk
      refine lv_lload_n hx hb dX7_widestGap_24 rfl (lv_at hl 2 rfl) ?_
      refine lv_aload_n hx hb dX7_widestGap_25 rfl (lv_at hl 0 rfl) ?_
      refine lv_aload_n hx hb dX7_widestGap_26 rfl (lv_at hl 1 rfl) ?_
      refine lv_iload hx hb dX7_widestGap_27 (lv_at hl 3 rfl) ?_
      refine lv_iload hx hb dX7_widestGap_29 (lv_at hl 4 rfl) ?_
      obtain ⟨c6, hk⟩ := ok_c hk
      obtain ⟨q4, e5, hk⟩ := ok_b hk
      refine zVl X w (n := 3) (As := [.ref r1, .int i4, .int i5]) (rest := [.long l2]) (ci := 7) (C := RX7) (T := TX7) (N := 3) (c_X7_gap l D cy G M r0 r1 i4 i5 e5) (gzV wm_X7_59 wi_X7_gap ws_X7_gap wn_X7 wc_X7_gap) rfl rfl rfl (by decide +kernel) (by decide) rfl c6 rfl rfl hl.1 (Nat.le_of_ble_eq_true rfl) dX7_widestGap_31 ⟨Nat.zero_le _, Nat.zero_le _⟩ (fun H locs w => ?_)
      refine zmax X hl.1 (tb wm_X7_63) (tb wt_max) (tb wn_Math) (tb wc_max) (by decide) (Nat.le_of_ble_eq_true rfl) (Nat.zero_le _) (Nat.zero_le _) dX7_widestGap_34 ?_
      refine lv_lstore_n (lv' := [(2, .long (if q4 < l2 then l2 else q4)), (0, .ref r0), (1, .ref r1), (4, .int i4), (5, .int i5)]) hx hb dX7_widestGap_37 rfl hl (by decide) rfl (fun ls hl => ?_)
      refine lv_iinc (v := (i5 + 1)) (lv' := [(5, .int (i5 + 1)), (2, .long (if q4 < l2 then l2 else q4)), (0, .ref r0), (1, .ref r1), (4, .int i4)]) hx hb dX7_widestGap_38 hl (k := 4) rfl rfl (by decide) rfl (fun ls hl => ?_)
      refine lv_goto (tgt := 17) hx hb dX7_widestGap_41 (by decide) ?_
      exact hrec (if q4 < l2 then l2 else q4) (i5 + 1) _ _ _ w (lv_sub hl [2, 3, 1, 4, 0] rfl) hk
theorem wl_X7_widestGap_17 {p : Program} {l : Launch} {e : Env} {s : State} {m : MethodId} {args : Array Value} {below : List Frame} {meth : Method} {c : Code} {D : va_G} {cy : Cyy} {A : Nat → Prop} {G : Gg} (X : Cx p m c cX7_widestGap 6 s args wz_X7_widestGap RX7 D cy) {Q : State → Prop} (M : Mm) (r0 : Nat) (r1 : Nat) (i4 : Int32) (Qo : Int64 → Prop)  (hE : ∀ (y : Int64), Qo (y) → ∀ (H : Heap) (locs : List Loc) (ls : Array Slot), Wo s D cy A G M H locs → lv_has ls 6 [(0, .ref r0), (1, .ref r1), (2, .long y), (4, .int i4)] → W p l e rm_X7_widestGap s m args below meth c H locs 0 0 Q (F0 m 44 ls [])) : ∀ (n : Nat) (l2 : Int64) (i5 : Int32) (H : Heap) (locs : List Loc) (ls : Array Slot), Wo s D cy A G M H locs → lv_has ls 6 [(0, .ref r0), (1, .ref r1), (2, .long l2), (4, .int i4), (5, .int i5)] → OK (lp_X7_widestGap_17 G M r0 r1 i4 n l2 i5) Qo → W p l e rm_X7_widestGap s m args below meth c H locs 0 0 Q (F0 m 17 ls []) := by
  intro n
  induction n with
  | zero => intro l2 i5 H locs ls w hl hk; exact ok_0 hk
  | succ n ih => intro l2 i5 H locs ls w hl hk; exact wb_X7_widestGap_17 X M r0 r1 i4 Qo hE  (lp_X7_widestGap_17 G M r0 r1 i4 n) ih l2 i5 H locs ls w hl hk
set_option maxHeartbeats 4000000 in
set_option maxRecDepth 100000 in
theorem wb_X7_widestGap_5 {p : Program} {l : Launch} {e : Env} {s : State} {m : MethodId} {args : Array Value} {below : List Frame} {meth : Method} {c : Code} {D : va_G} {cy : Cyy} {A : Nat → Prop} {G : Gg} (X : Cx p m c cX7_widestGap 6 s args wz_X7_widestGap RX7 D cy) {Q : State → Prop} (M : Mm) (r0 : Nat) (r1 : Nat) (Qo : Int64 → Prop)  (hE : ∀ (y : Int64), Qo (y) → ∀ (H : Heap) (locs : List Loc) (ls : Array Slot), Wo s D cy A G M H locs → lv_has ls 6 [(2, .long y)] → W p l e rm_X7_widestGap s m args below meth c H locs 0 0 Q (F0 m 50 ls [])) (rec : Int64 → Int32 → Option (Int64)) (hrec : ∀ (l2 : Int64) (i4 : Int32) (H : Heap) (locs : List Loc) (ls : Array Slot), Wo s D cy A G M H locs → lv_has ls 6 [(0, .ref r0), (1, .ref r1), (2, .long l2), (4, .int i4)] → OK (rec l2 i4) Qo → W p l e rm_X7_widestGap s m args below meth c H locs 0 0 Q (F0 m 5 ls [])) (l2 : Int64) (i4 : Int32) (H : Heap) (locs : List Loc) (ls : Array Slot) (w : Wo s D cy A G M H locs) (hl : lv_has ls 6 [(0, .ref r0), (1, .ref r1), (2, .long l2), (4, .int i4)]) (hk : OK (bd_X7_widestGap_5 G M r0 r1 rec l2 i4) Qo) : W p l e rm_X7_widestGap s m args below meth c H locs 0 0 Q (F0 m 5 ls []) := by
    have hx := X.1.1
    have hb := X.1.2.1
    unfold bd_X7_widestGap_5 at hk
    refine lv_iload hx hb dX7_widestGap_5 (lv_at hl 3 rfl) ?_
    refine lv_aload_n hx hb dX7_widestGap_7 rfl (lv_at hl 1 rfl) ?_
    obtain ⟨c1, hk⟩ := ok_c hk
    refine zgNi X w 0 0 29 "BlendBench" (C := RX0) (T := TX0) (N := 7) rfl ui_X0 (by decide) rfl (by decide +kernel) dX7_widestGap_8 c1 ?_
    refine lv_icmp_ge (tgt := 50) hx hb dX7_widestGap_11 (by decide) (fun c2 => ?_) (fun c2 => ?_)
    · have hk := ok_p c2 hk
      exact hE l2 (ok_s hk) _ _ _ w (lv_sub hl [2] rfl)
    · have hk := ok_n c2 hk
      refine lv_iconst (v := 0) hx hb dX7_widestGap_14 (by decide) ?_
      refine lv_istore (lv' := [(5, .int (0 : Int32)), (0, .ref r0), (1, .ref r1), (2, .long l2), (4, .int i4)]) hx hb dX7_widestGap_15 hl (by decide) rfl (fun ls hl => ?_)
      refine wl_X7_widestGap_17 X M r0 r1 i4 (Qo := _) (fun q7 hk H locs ls w hl => ?_) FU l2 (0 : Int32) _ _ _ w (lv_sub hl [1, 2, 3, 4, 0] rfl) (ok_b hk)
      refine lv_iinc (v := (i4 + 1)) (lv' := [(4, .int (i4 + 1)), (0, .ref r0), (1, .ref r1), (2, .long q7)]) hx hb dX7_widestGap_44 hl (k := 3) rfl rfl (by decide) rfl (fun ls hl => ?_)
      refine lv_goto (tgt := 5) hx hb dX7_widestGap_47 (by decide) ?_
      exact hrec q7 (i4 + 1) _ _ _ w (lv_sub hl [1, 2, 3, 0] rfl) hk
theorem wl_X7_widestGap_5 {p : Program} {l : Launch} {e : Env} {s : State} {m : MethodId} {args : Array Value} {below : List Frame} {meth : Method} {c : Code} {D : va_G} {cy : Cyy} {A : Nat → Prop} {G : Gg} (X : Cx p m c cX7_widestGap 6 s args wz_X7_widestGap RX7 D cy) {Q : State → Prop} (M : Mm) (r0 : Nat) (r1 : Nat) (Qo : Int64 → Prop)  (hE : ∀ (y : Int64), Qo (y) → ∀ (H : Heap) (locs : List Loc) (ls : Array Slot), Wo s D cy A G M H locs → lv_has ls 6 [(2, .long y)] → W p l e rm_X7_widestGap s m args below meth c H locs 0 0 Q (F0 m 50 ls [])) : ∀ (n : Nat) (l2 : Int64) (i4 : Int32) (H : Heap) (locs : List Loc) (ls : Array Slot), Wo s D cy A G M H locs → lv_has ls 6 [(0, .ref r0), (1, .ref r1), (2, .long l2), (4, .int i4)] → OK (lp_X7_widestGap_5 G M r0 r1 n l2 i4) Qo → W p l e rm_X7_widestGap s m args below meth c H locs 0 0 Q (F0 m 5 ls []) := by
  intro n
  induction n with
  | zero => intro l2 i4 H locs ls w hl hk; exact ok_0 hk
  | succ n ih => intro l2 i4 H locs ls w hl hk; exact wb_X7_widestGap_5 X M r0 r1 Qo hE  (lp_X7_widestGap_5 G M r0 r1 n) ih l2 i4 H locs ls w hl hk
set_option maxHeartbeats 4000000 in
set_option maxRecDepth 100000 in
theorem c_X7_widestGap (l : Launch) (D : va_G) (cy : Cyy) (G : Gg) (M : Mm) (r0 : Nat) (r1 : Nat) {q : Int64} (hm : f_X7_widestGap G M r0 r1 = some q) : CL l yX7_widestGap wz_X7_widestGap rm_X7_widestGap D cy G M [.ref r0, .ref r1] q M := by
  refine Met_of (Qf := fun A => QL D cy G A q M) (cc := cX7_widestGap) (nL := 6) (ret := (some .long)) (own := RX7) (lv := [(0, .ref r0), (1, .ref r1)]) (by decide) rfl rfl (Nat.le_of_ble_eq_true rfl) rfl ?_
  intro p e s m args below meth c A ls X hr hlk w hl
  have hx := X.1.1
  have hb := X.1.2.1
  obtain ⟨Qo, hR, hk⟩ : ∃ Qo : Int64 → Prop, (∀ x, Qo x → x = q) ∧ OK (f_X7_widestGap G M r0 r1) Qo := ⟨fun x => x = q, fun _ h => h, q, hm, rfl⟩
  unfold f_X7_widestGap at hk
  refine lv_lconst (v := 0) hx hb dX7_widestGap_0 (by decide) ?_
  refine lv_lstore_n (lv' := [(2, .long (0 : Int64)), (0, .ref r0), (1, .ref r1)]) hx hb dX7_widestGap_1 rfl hl (by decide) rfl (fun ls hl => ?_)
  refine lv_iconst (v := 0) hx hb dX7_widestGap_2 (by decide) ?_
  refine lv_istore (lv' := [(4, .int (0 : Int32)), (2, .long (0 : Int64)), (0, .ref r0), (1, .ref r1)]) hx hb dX7_widestGap_3 hl (by decide) rfl (fun ls hl => ?_)
  refine wl_X7_widestGap_5 X M r0 r1 (Qo := _) (fun q8 hk H locs ls w hl => ?_) FU (0 : Int64) (0 : Int32) _ _ _ w (lv_sub hl [2, 3, 1, 0] rfl) (ok_b hk)
  refine lv_lload_n hx hb dX7_widestGap_50 rfl (lv_at hl 0 rfl) ?_
  have hk := hR _ (ok_s hk)
  exact zrl X hr hlk w dX7_widestGap_51 hk rfl
abbrev rm_X7_firstNear : Room := { frames := 3, cells := 0, slots := 0, locals := 91 }
set_option maxHeartbeats 4000000 in
set_option maxRecDepth 100000 in
theorem wb_X7_firstNear_13 {p : Program} {l : Launch} {e : Env} {s : State} {m : MethodId} {args : Array Value} {below : List Frame} {meth : Method} {c : Code} {D : va_G} {cy : Cyy} {A : Nat → Prop} {G : Gg} (X : Cx p m c cX7_firstNear 6 s args wz_X7_firstNear RX7 D cy) (r0 : Nat) (r1 : Nat) (i2 : Int32) (i3 : Int32) (i4 : Int32) (Qo : (Int32 × Mm) ⊕ (Mm) → Prop) (hr : meth.sig.returnType = (some .int)) (hlk : meth.locks = false) {x0 : Int32 × Mm} (hR : ∀ x, Qo (.inl x) → x = x0) (hE : ∀ (y : Mm), Qo (.inr y) → ∀ (H : Heap) (locs : List Loc) (ls : Array Slot), Wo s D cy A G y H locs → lv_has ls 6 [] → W p l e rm_X7_firstNear s m args below meth c H locs 0 0 (MQ below (QI D cy G A x0.1 x0.2) args s 0 0 A) (F0 m 61 ls [])) (rec : Int32 → Mm → Option ((Int32 × Mm) ⊕ (Mm))) (hrec : ∀ (i5 : Int32) (M : Mm) (H : Heap) (locs : List Loc) (ls : Array Slot), Wo s D cy A G M H locs → lv_has ls 6 [(0, .ref r0), (1, .ref r1), (2, .int i2), (3, .int i3), (4, .int i4), (5, .int i5)] → OK (rec i5 M) Qo → W p l e rm_X7_firstNear s m args below meth c H locs 0 0 (MQ below (QI D cy G A x0.1 x0.2) args s 0 0 A) (F0 m 13 ls [])) (i5 : Int32) (M : Mm) (H : Heap) (locs : List Loc) (ls : Array Slot) (w : Wo s D cy A G M H locs) (hl : lv_has ls 6 [(0, .ref r0), (1, .ref r1), (2, .int i2), (3, .int i3), (4, .int i4), (5, .int i5)]) (hk : OK (bd_X7_firstNear_13 G r0 r1 i2 i3 i4 rec i5 M) Qo) : W p l e rm_X7_firstNear s m args below meth c H locs 0 0 (MQ below (QI D cy G A x0.1 x0.2) args s 0 0 A) (F0 m 13 ls []) := by
    have hx := X.1.1
    have hb := X.1.2.1
    unfold bd_X7_firstNear_13 at hk
    refine lv_iload hx hb dX7_firstNear_13 (lv_at hl 5 rfl) ?_
    refine lv_iload hx hb dX7_firstNear_15 (lv_at hl 4 rfl) ?_
    refine lv_icmp_gt (tgt := 61) hx hb dX7_firstNear_17 (by decide) (fun c7 => ?_) (fun c7 => ?_)
    · have hk := ok_p c7 hk
      exact hE M (ok_s hk) _ _ _ w (lv_sub hl [] rfl)
    · have hk := ok_n c7 hk
      refine lv_aload_n hx hb dX7_firstNear_20 rfl (lv_at hl 0 rfl) ?_
      refine lv_aload_n hx hb dX7_firstNear_21 rfl (lv_at hl 1 rfl) ?_
      obtain ⟨c10, hk⟩ := ok_c hk
      obtain ⟨q8, e9, hk⟩ := ok_b hk
      refine zVl X w (n := 1) (As := [.ref r1]) (rest := []) (ci := 7) (C := RX7) (T := TX7) (N := 3) (c_X7_widestGap l D cy G M r0 r1 e9) (gzV wm_X7_71 wi_X7_widestGap ws_X7_widestGap wn_X7 wc_X7_widestGap) rfl rfl rfl (by decide +kernel) (by decide) rfl c10 rfl rfl hl.1 (Nat.le_of_ble_eq_true rfl) dX7_firstNear_22 ⟨Nat.zero_le _, Nat.zero_le _⟩ (fun H locs w => ?_)
      refine lv_iload_n hx hb dX7_firstNear_25 rfl (lv_at hl 3 rfl) ?_
      refine lv_i2l hx hb dX7_firstNear_26 rfl ?_
      refine lv_lmul hx hb dX7_firstNear_27 ?_
      refine zldc2 X (v := 2) (tb wk_X7_75) dX7_firstNear_28 ?_
      refine lv_aload_n hx hb dX7_firstNear_31 rfl (lv_at hl 0 rfl) ?_
      refine zgl X w 7 2 18 (C := RX7) (T := TX7) (N := 3) rfl ui_X7 (by decide) rfl (tb wf_X7_18) dX7_firstNear_32 c10 ?_
      refine lv_lmul hx hb dX7_firstNear_35 ?_
      refine lv_iload_n hx hb dX7_firstNear_36 rfl (lv_at hl 2 rfl) ?_
      refine lv_i2l hx hb dX7_firstNear_37 rfl ?_
      refine lv_lmul hx hb dX7_firstNear_38 ?_
      refine W.lcmp hx hb dX7_firstNear_39 ?_
      refine lv_if_gt (tgt := 46) hx hb dX7_firstNear_40 (by decide) (fun c11 => ?_) (fun c11 => ?_)
      · have hk := ok_p c11 hk
        refine lv_aload_n hx hb dX7_firstNear_46 rfl (lv_at hl 0 rfl) ?_
        refine lv_aload_n hx hb dX7_firstNear_47 rfl (lv_at hl 1 rfl) ?_
        refine lv_aload_n hx hb dX7_firstNear_48 rfl (lv_at hl 1 rfl) ?_
        obtain ⟨c14, hk⟩ := ok_c hk
        obtain ⟨q12, e13, hk⟩ := ok_b hk
        refine zVi X w (n := 0) (As := []) (rest := [.ref r1, .ref r0]) (ci := 0) (C := RX0) (T := TX0) (N := 7) (c_X0_allStates l D cy G M r1 e13) (gzV wm_X7_77 wi_X0_allStates ws_X0_allStates wn_X0 wc_X0_allStates) rfl rfl rfl (by decide +kernel) (by decide) rfl c14 rfl rfl hl.1 (Nat.le_of_ble_eq_true rfl) dX7_firstNear_49 ⟨Nat.zero_le _, Nat.zero_le _⟩ (fun H locs w => ?_)
        obtain ⟨q15, e16, hk⟩ := ok_b hk
        refine zVv X w (n := 2) (As := [.ref r1, .int q12]) (rest := []) (ci := 7) (C := RX7) (T := TX7) (N := 3) (c_X7_goOnce l D cy G M r0 r1 q12 e16) (gzV wm_X7_25 wi_X7_goOnce ws_X7_goOnce wn_X7 wc_X7_goOnce) rfl rfl rfl (by decide +kernel) (by decide) rfl c10 rfl rfl hl.1 (Nat.le_of_ble_eq_true rfl) dX7_firstNear_52 ⟨Nat.zero_le _, Nat.zero_le _⟩ (fun H locs w => ?_)
        refine lv_iinc (v := (i5 + 1)) (lv' := [(5, .int (i5 + 1)), (0, .ref r0), (1, .ref r1), (2, .int i2), (3, .int i3), (4, .int i4)]) hx hb dX7_firstNear_55 hl (k := 5) rfl rfl (by decide) rfl (fun ls hl => ?_)
        refine lv_goto (tgt := 13) hx hb dX7_firstNear_58 (by decide) ?_
        exact hrec (i5 + 1) q15 _ _ _ w (lv_sub hl [1, 2, 3, 4, 5, 0] rfl) hk
      · have hk := ok_n c11 hk
        refine lv_iload hx hb dX7_firstNear_43 (lv_at hl 5 rfl) ?_
        have hk := hR _ (ok_s hk)
        exact zri X hr hlk w dX7_firstNear_45 (pr1 hk) (pr2 hk)
theorem wl_X7_firstNear_13 {p : Program} {l : Launch} {e : Env} {s : State} {m : MethodId} {args : Array Value} {below : List Frame} {meth : Method} {c : Code} {D : va_G} {cy : Cyy} {A : Nat → Prop} {G : Gg} (X : Cx p m c cX7_firstNear 6 s args wz_X7_firstNear RX7 D cy) (r0 : Nat) (r1 : Nat) (i2 : Int32) (i3 : Int32) (i4 : Int32) (Qo : (Int32 × Mm) ⊕ (Mm) → Prop) (hr : meth.sig.returnType = (some .int)) (hlk : meth.locks = false) {x0 : Int32 × Mm} (hR : ∀ x, Qo (.inl x) → x = x0) (hE : ∀ (y : Mm), Qo (.inr y) → ∀ (H : Heap) (locs : List Loc) (ls : Array Slot), Wo s D cy A G y H locs → lv_has ls 6 [] → W p l e rm_X7_firstNear s m args below meth c H locs 0 0 (MQ below (QI D cy G A x0.1 x0.2) args s 0 0 A) (F0 m 61 ls [])) : ∀ (n : Nat) (i5 : Int32) (M : Mm) (H : Heap) (locs : List Loc) (ls : Array Slot), Wo s D cy A G M H locs → lv_has ls 6 [(0, .ref r0), (1, .ref r1), (2, .int i2), (3, .int i3), (4, .int i4), (5, .int i5)] → OK (lp_X7_firstNear_13 G r0 r1 i2 i3 i4 n i5 M) Qo → W p l e rm_X7_firstNear s m args below meth c H locs 0 0 (MQ below (QI D cy G A x0.1 x0.2) args s 0 0 A) (F0 m 13 ls []) := by
  intro n
  induction n with
  | zero => intro i5 M H locs ls w hl hk; exact ok_0 hk
  | succ n ih => intro i5 M H locs ls w hl hk; exact wb_X7_firstNear_13 X r0 r1 i2 i3 i4 Qo hr hlk hR hE  (lp_X7_firstNear_13 G r0 r1 i2 i3 i4 n) ih i5 M H locs ls w hl hk
set_option maxHeartbeats 4000000 in
set_option maxRecDepth 100000 in
theorem c_X7_firstNear (l : Launch) (D : va_G) (cy : Cyy) (G : Gg) (M : Mm) (r0 : Nat) (r1 : Nat) (i2 : Int32) (i3 : Int32) {q : Int32 × Mm} (hm : f_X7_firstNear G M r0 r1 i2 i3 = some q) : CI l yX7_firstNear wz_X7_firstNear rm_X7_firstNear D cy G M [.ref r0, .ref r1, .int i2, .int i3] q.1 q.2 := by
  refine Met_of (Qf := fun A => QI D cy G A q.1 q.2) (cc := cX7_firstNear) (nL := 6) (ret := (some .int)) (own := RX7) (lv := [(0, .ref r0), (1, .ref r1), (2, .int i2), (3, .int i3)]) (by decide) rfl rfl (Nat.le_of_ble_eq_true rfl) rfl ?_
  intro p e s m args below meth c A ls X hr hlk w hl
  have hx := X.1.1
  have hb := X.1.2.1
  obtain ⟨Qo, hR, hk⟩ : ∃ Qo : Int32 × Mm → Prop, (∀ x, Qo x → x = q) ∧ OK (f_X7_firstNear G M r0 r1 i2 i3) Qo := ⟨fun x => x = q, fun _ h => h, q, hm, rfl⟩
  unfold f_X7_firstNear at hk
  refine lv_aload_n hx hb dX7_firstNear_0 rfl (lv_at hl 1 rfl) ?_
  obtain ⟨c3, hk⟩ := ok_c hk
  obtain ⟨q1, e2, hk⟩ := ok_b hk
  refine zVi X w (n := 0) (As := []) (rest := []) (ci := 0) (C := RX0) (T := TX0) (N := 7) (c_X0_lastTime l D cy G M r1 e2) (gzV wm_X7_67 wi_X0_lastTime ws_X0_lastTime wn_X0 wc_X0_lastTime) rfl rfl rfl (by decide +kernel) (by decide) rfl c3 rfl rfl hl.1 (Nat.le_of_ble_eq_true rfl) dX7_firstNear_1 ⟨Nat.zero_le _, Nat.zero_le _⟩ (fun H locs w => ?_)
  refine lv_istore (lv' := [(4, .int q1), (0, .ref r0), (1, .ref r1), (2, .int i2), (3, .int i3)]) hx hb dX7_firstNear_4 hl (by decide) rfl (fun ls hl => ?_)
  refine lv_aload_n hx hb dX7_firstNear_6 rfl (lv_at hl 1 rfl) ?_
  obtain ⟨c6, hk⟩ := ok_c hk
  obtain ⟨q4, e5, hk⟩ := ok_b hk
  refine zVv X w (n := 0) (As := []) (rest := []) (ci := 7) (C := RX7) (T := TX7) (N := 3) (c_X7_begin l D cy G M r0 e5) (gzV wm_X7_22 wi_X7_begin ws_X7_begin wn_X7 wc_X7_begin) rfl rfl rfl (by decide +kernel) (by decide) rfl c6 rfl rfl hl.1 (Nat.le_of_ble_eq_true rfl) dX7_firstNear_7 ⟨Nat.zero_le _, Nat.zero_le _⟩ (fun H locs w => ?_)
  refine lv_iconst (v := 0) hx hb dX7_firstNear_10 (by decide) ?_
  refine lv_istore (lv' := [(5, .int (0 : Int32)), (4, .int q1), (0, .ref r0), (1, .ref r1), (2, .int i2), (3, .int i3)]) hx hb dX7_firstNear_11 hl (by decide) rfl (fun ls hl => ?_)
  refine wl_X7_firstNear_13 X r0 r1 i2 i3 q1 (Qo := _) hr hlk (fun x h => hR x (ok_s (show OK (some x) Qo from h))) (fun y18 hk H locs ls w hl => ?_) FU (0 : Int32) q4 _ _ _ w (lv_sub hl [2, 3, 4, 5, 1, 0] rfl) (ok_b hk)
  have hk := ok_r hk
  refine lv_iconst (v := (-1)) hx hb dX7_firstNear_61 (by decide) ?_
  have hk := hR _ (ok_s hk)
  exact zri X hr hlk w dX7_firstNear_62 (pr1 hk) (pr2 hk)
abbrev rm_X8_feed : Room := { frames := 1, cells := 0, slots := 0, locals := 22 }
set_option maxHeartbeats 4000000 in
set_option maxRecDepth 100000 in
theorem c_X8_feed (l : Launch) (D : va_G) (cy : Cyy) (G : Gg) (M : Mm) (r0 : Nat) (i1 : Int32) (i2 : Int32) (i3 : Int32) (i4 : Int32) (i5 : Int32) {q : Int32 × Mm} (hm : f_X8_feed G M r0 i1 i2 i3 i4 i5 = some q) : CI l yX8_feed wz_X8_feed rm_X8_feed D cy G M [.ref r0, .int i1, .int i2, .int i3, .int i4, .int i5] q.1 q.2 := by
  refine Met_of (Qf := fun A => QI D cy G A q.1 q.2) (cc := cX8_feed) (nL := 6) (ret := (some .int)) (own := RX8) (lv := [(0, .ref r0), (1, .int i1), (2, .int i2), (3, .int i3), (4, .int i4), (5, .int i5)]) (by decide) rfl rfl (Nat.le_of_ble_eq_true rfl) rfl ?_
  intro p e s m args below meth c A ls X hr hlk w hl
  have hx := X.1.1
  have hb := X.1.2.1
  obtain ⟨Qo, hR, hk⟩ : ∃ Qo : Int32 × Mm → Prop, (∀ x, Qo x → x = q) ∧ OK (f_X8_feed G M r0 i1 i2 i3 i4 i5) Qo := ⟨fun x => x = q, fun _ h => h, q, hm, rfl⟩
  unfold f_X8_feed at hk
  refine lv_aload_n hx hb dX8_feed_0 rfl (lv_at hl 0 rfl) ?_
  obtain ⟨c1, hk⟩ := ok_c hk
  obtain ⟨r2, e3, hk⟩ := ok_b hk
  refine zgr X w 8 0 10 (C := RX8) (T := TX8) (N := 10) rfl ui_X8 (by decide) rfl (tb wf_X8_10) dX8_feed_1 c1 e3 ?_
  refine lv_iconst (v := 5) hx hb dX8_feed_4 (by decide) ?_
  obtain ⟨c6, hk⟩ := ok_c hk
  obtain ⟨q4, e5, hk⟩ := ok_b hk
  refine zVi X w (n := 1) (As := [.int (5 : Int32)]) (rest := []) (ci := 6) (C := RX6) (T := TX6) (N := 2) (c_X6_hasRoomFor l D cy G M r2 (5 : Int32) e5) (gzV wm_X8_70 wi_X6_hasRoomFor ws_X6_hasRoomFor wn_X6 wc_X6_hasRoomFor) rfl rfl rfl (by decide +kernel) (by decide) rfl c6 rfl rfl hl.1 (Nat.le_of_ble_eq_true rfl) dX8_feed_5 ⟨Nat.zero_le _, Nat.zero_le _⟩ (fun H locs w => ?_)
  refine lv_if_ne (tgt := 13) hx hb dX8_feed_8 (by decide) (fun c7 => ?_) (fun c7 => ?_)
  · have hk := ok_n c7 hk
    refine lv_aload_n hx hb dX8_feed_13 rfl (lv_at hl 0 rfl) ?_
    refine zgr X w 8 0 10 (C := RX8) (T := TX8) (N := 10) rfl ui_X8 (by decide) rfl (tb wf_X8_10) dX8_feed_14 c1 e3 ?_
    refine lv_iload_n hx hb dX8_feed_17 rfl (lv_at hl 1 rfl) ?_
    obtain ⟨q8, e9, hk⟩ := ok_b hk
    refine zVv X w (n := 1) (As := [.int i1]) (rest := []) (ci := 6) (C := RX6) (T := TX6) (N := 2) (c_X6_append l D cy G M r2 i1 e9) (gzV wm_X8_74 wi_X6_append ws_X6_append wn_X6 wc_X6_append) rfl rfl rfl (by decide +kernel) (by decide) rfl c6 rfl rfl hl.1 (Nat.le_of_ble_eq_true rfl) dX8_feed_18 ⟨Nat.zero_le _, Nat.zero_le _⟩ (fun H locs w => ?_)
    refine lv_aload_n hx hb dX8_feed_21 rfl (lv_at hl 0 rfl) ?_
    obtain ⟨r10, e11, hk⟩ := ok_b hk
    refine zgr X w 8 0 10 (C := RX8) (T := TX8) (N := 10) rfl ui_X8 (by decide) rfl (tb wf_X8_10) dX8_feed_22 c1 e11 ?_
    refine lv_iload_n hx hb dX8_feed_25 rfl (lv_at hl 2 rfl) ?_
    obtain ⟨c14, hk⟩ := ok_c hk
    obtain ⟨q12, e13, hk⟩ := ok_b hk
    refine zVv X w (n := 1) (As := [.int i2]) (rest := []) (ci := 6) (C := RX6) (T := TX6) (N := 2) (c_X6_append l D cy G q8 r10 i2 e13) (gzV wm_X8_74 wi_X6_append ws_X6_append wn_X6 wc_X6_append) rfl rfl rfl (by decide +kernel) (by decide) rfl c14 rfl rfl hl.1 (Nat.le_of_ble_eq_true rfl) dX8_feed_26 ⟨Nat.zero_le _, Nat.zero_le _⟩ (fun H locs w => ?_)
    refine lv_aload_n hx hb dX8_feed_29 rfl (lv_at hl 0 rfl) ?_
    obtain ⟨r15, e16, hk⟩ := ok_b hk
    refine zgr X w 8 0 10 (C := RX8) (T := TX8) (N := 10) rfl ui_X8 (by decide) rfl (tb wf_X8_10) dX8_feed_30 c1 e16 ?_
    refine lv_iload_n hx hb dX8_feed_33 rfl (lv_at hl 3 rfl) ?_
    obtain ⟨c19, hk⟩ := ok_c hk
    obtain ⟨q17, e18, hk⟩ := ok_b hk
    refine zVv X w (n := 1) (As := [.int i3]) (rest := []) (ci := 6) (C := RX6) (T := TX6) (N := 2) (c_X6_append l D cy G q12 r15 i3 e18) (gzV wm_X8_74 wi_X6_append ws_X6_append wn_X6 wc_X6_append) rfl rfl rfl (by decide +kernel) (by decide) rfl c19 rfl rfl hl.1 (Nat.le_of_ble_eq_true rfl) dX8_feed_34 ⟨Nat.zero_le _, Nat.zero_le _⟩ (fun H locs w => ?_)
    refine lv_aload_n hx hb dX8_feed_37 rfl (lv_at hl 0 rfl) ?_
    obtain ⟨r20, e21, hk⟩ := ok_b hk
    refine zgr X w 8 0 10 (C := RX8) (T := TX8) (N := 10) rfl ui_X8 (by decide) rfl (tb wf_X8_10) dX8_feed_38 c1 e21 ?_
    refine lv_iload hx hb dX8_feed_41 (lv_at hl 4 rfl) ?_
    obtain ⟨c24, hk⟩ := ok_c hk
    obtain ⟨q22, e23, hk⟩ := ok_b hk
    refine zVv X w (n := 1) (As := [.int i4]) (rest := []) (ci := 6) (C := RX6) (T := TX6) (N := 2) (c_X6_append l D cy G q17 r20 i4 e23) (gzV wm_X8_74 wi_X6_append ws_X6_append wn_X6 wc_X6_append) rfl rfl rfl (by decide +kernel) (by decide) rfl c24 rfl rfl hl.1 (Nat.le_of_ble_eq_true rfl) dX8_feed_43 ⟨Nat.zero_le _, Nat.zero_le _⟩ (fun H locs w => ?_)
    refine lv_aload_n hx hb dX8_feed_46 rfl (lv_at hl 0 rfl) ?_
    obtain ⟨r25, e26, hk⟩ := ok_b hk
    refine zgr X w 8 0 10 (C := RX8) (T := TX8) (N := 10) rfl ui_X8 (by decide) rfl (tb wf_X8_10) dX8_feed_47 c1 e26 ?_
    refine lv_iload hx hb dX8_feed_50 (lv_at hl 5 rfl) ?_
    obtain ⟨c29, hk⟩ := ok_c hk
    obtain ⟨q27, e28, hk⟩ := ok_b hk
    refine zVv X w (n := 1) (As := [.int i5]) (rest := []) (ci := 6) (C := RX6) (T := TX6) (N := 2) (c_X6_append l D cy G q22 r25 i5 e28) (gzV wm_X8_74 wi_X6_append ws_X6_append wn_X6 wc_X6_append) rfl rfl rfl (by decide +kernel) (by decide) rfl c29 rfl rfl hl.1 (Nat.le_of_ble_eq_true rfl) dX8_feed_52 ⟨Nat.zero_le _, Nat.zero_le _⟩ (fun H locs w => ?_)
    refine lv_aload_n hx hb dX8_feed_55 rfl (lv_at hl 0 rfl) ?_
    obtain ⟨r30, e31, hk⟩ := ok_b hk
    refine zgr X w 8 0 10 (C := RX8) (T := TX8) (N := 10) rfl ui_X8 (by decide) rfl (tb wf_X8_10) dX8_feed_56 c1 e31 ?_
    obtain ⟨c32, hk⟩ := ok_c hk
    refine zgNi X w 6 1 78 "BlendBench" (C := RX6) (T := TX6) (N := 2) rfl ui_X6 (by decide) rfl (by decide +kernel) dX8_feed_59 c32 ?_
    have hk := hR _ (ok_s hk)
    exact zri X hr hlk w dX8_feed_62 (pr1 hk) (pr2 hk)
  · have hk := ok_p c7 hk
    refine lv_iconst (v := (-1)) hx hb dX8_feed_11 (by decide) ?_
    have hk := hR _ (ok_s hk)
    exact zri X hr hlk w dX8_feed_12 (pr1 hk) (pr2 hk)
abbrev rm_X8_end : Room := { frames := 1, cells := 0, slots := 0, locals := 21 }
set_option maxHeartbeats 4000000 in
set_option maxRecDepth 100000 in
theorem c_X8_end (l : Launch) (D : va_G) (cy : Cyy) (G : Gg) (M : Mm) (r0 : Nat) (i1 : Int32) {q : Int32 × Mm} (hm : f_X8_end G M r0 i1 = some q) : CI l yX8_end wz_X8_end rm_X8_end D cy G M [.ref r0, .int i1] q.1 q.2 := by
  refine Met_of (Qf := fun A => QI D cy G A q.1 q.2) (cc := cX8_end) (nL := 2) (ret := (some .boolean)) (own := RX8) (lv := [(0, .ref r0), (1, .int i1)]) (by decide) rfl rfl (Nat.le_of_ble_eq_true rfl) rfl ?_
  intro p e s m args below meth c A ls X hr hlk w hl
  have hx := X.1.1
  have hb := X.1.2.1
  obtain ⟨Qo, hR, hk⟩ : ∃ Qo : Int32 × Mm → Prop, (∀ x, Qo x → x = q) ∧ OK (f_X8_end G M r0 i1) Qo := ⟨fun x => x = q, fun _ h => h, q, hm, rfl⟩
  unfold f_X8_end at hk
  refine lv_aload_n hx hb dX8_end_0 rfl (lv_at hl 0 rfl) ?_
  obtain ⟨c1, hk⟩ := ok_c hk
  obtain ⟨r2, e3, hk⟩ := ok_b hk
  refine zgr X w 8 0 10 (C := RX8) (T := TX8) (N := 10) rfl ui_X8 (by decide) rfl (tb wf_X8_10) dX8_end_1 c1 e3 ?_
  refine lv_iload_n hx hb dX8_end_4 rfl (lv_at hl 1 rfl) ?_
  obtain ⟨c6, hk⟩ := ok_c hk
  obtain ⟨q4, e5, hk⟩ := ok_b hk
  refine zVi X w (n := 1) (As := [.int i1]) (rest := []) (ci := 6) (C := RX6) (T := TX6) (N := 2) (c_X6_shorten l D cy G M r2 i1 e5) (gzV wm_X8_81 wi_X6_shorten ws_X6_shorten wn_X6 wc_X6_shorten) rfl rfl rfl (by decide +kernel) (by decide) rfl c6 rfl rfl hl.1 (Nat.le_of_ble_eq_true rfl) dX8_end_5 ⟨Nat.zero_le _, Nat.zero_le _⟩ (fun H locs w => ?_)
  obtain ⟨c7, hk⟩ := ok_c hk
  have hk := hR _ (ok_s hk)
  exact zrz X hr hlk w dX8_end_8 c7 (pr1 hk) (pr2 hk)
abbrev rm_X8_isSlot : Room := { frames := 0, cells := 0, slots := 0, locals := 0 }
set_option maxHeartbeats 4000000 in
set_option maxRecDepth 100000 in
theorem c_X8_isSlot (l : Launch) (D : va_G) (cy : Cyy) (G : Gg) (M : Mm) (i0 : Int32) {q : Int32} (hm : f_X8_isSlot i0 = some q) : CI l yX8_isSlot wz_X8_isSlot rm_X8_isSlot D cy G M [.int i0] q M := by
  refine Met_of (Qf := fun A => QI D cy G A q M) (cc := cX8_isSlot) (nL := 1) (ret := (some .boolean)) (own := RX8) (lv := [(0, .int i0)]) (by decide) rfl rfl (Nat.le_of_ble_eq_true rfl) rfl ?_
  intro p e s m args below meth c A ls X hr hlk w hl
  have hx := X.1.1
  have hb := X.1.2.1
  obtain ⟨Qo, hR, hk⟩ : ∃ Qo : Int32 → Prop, (∀ x, Qo x → x = q) ∧ OK (f_X8_isSlot i0) Qo := ⟨fun x => x = q, fun _ h => h, q, hm, rfl⟩
  unfold f_X8_isSlot at hk
  refine lv_iload_n hx hb dX8_isSlot_0 rfl (lv_at hl 0 rfl) ?_
  refine lv_if_lt (tgt := 14) hx hb dX8_isSlot_1 (by decide) (fun c1 => ?_) (fun c1 => ?_)
  · have hk := ok_p c1 hk
    refine lv_iconst (v := 0) hx hb dX8_isSlot_14 (by decide) ?_
    have hk := hR _ (ok_s hk)
    exact zrz X hr hlk w dX8_isSlot_15 (by decide) hk rfl
  · have hk := ok_n c1 hk
    refine lv_iload_n hx hb dX8_isSlot_4 rfl (lv_at hl 0 rfl) ?_
    refine lv_bipush (v := 6) hx hb dX8_isSlot_5 (by decide) ?_
    refine lv_icmp_ge (tgt := 14) hx hb dX8_isSlot_7 (by decide) (fun c2 => ?_) (fun c2 => ?_)
    · have hk := ok_p c2 hk
      refine lv_iconst (v := 0) hx hb dX8_isSlot_14 (by decide) ?_
      have hk := hR _ (ok_s hk)
      exact zrz X hr hlk w dX8_isSlot_15 (by decide) hk rfl
    · have hk := ok_n c2 hk
      refine lv_iconst (v := 1) hx hb dX8_isSlot_10 (by decide) ?_
      refine lv_goto (tgt := 15) hx hb dX8_isSlot_11 (by decide) ?_
      have hk := hR _ (ok_s hk)
      exact zrz X hr hlk w dX8_isSlot_15 (by decide) hk rfl
abbrev rm_X8_place : Room := { frames := 5, cells := 0, slots := 0, locals := 115 }
set_option maxHeartbeats 4000000 in
set_option maxRecDepth 100000 in
theorem c_X8_place (l : Launch) (D : va_G) (cy : Cyy) (G : Gg) (M : Mm) (r0 : Nat) (i1 : Int32) {q : Int32 × Mm} (hm : f_X8_place G M r0 i1 = some q) : CI l yX8_place wz_X8_place rm_X8_place D cy G M [.ref r0, .int i1] q.1 q.2 := by
  refine Met_of (Qf := fun A => QI D cy G A q.1 q.2) (cc := cX8_place) (nL := 3) (ret := (some .int)) (own := RX8) (lv := [(0, .ref r0), (1, .int i1)]) (by decide) rfl rfl (Nat.le_of_ble_eq_true rfl) rfl ?_
  intro p e s m args below meth c A ls X hr hlk w hl
  have hx := X.1.1
  have hb := X.1.2.1
  obtain ⟨Qo, hR, hk⟩ : ∃ Qo : Int32 × Mm → Prop, (∀ x, Qo x → x = q) ∧ OK (f_X8_place G M r0 i1) Qo := ⟨fun x => x = q, fun _ h => h, q, hm, rfl⟩
  unfold f_X8_place at hk
  refine lv_iload_n hx hb dX8_place_0 rfl (lv_at hl 1 rfl) ?_
  obtain ⟨q1, e2, hk⟩ := ok_b hk
  refine zSi X w (n := 1) (As := [.int i1]) (rest := []) (c_X8_isSlot l D cy G M i1 e2) (gzS wm_X8_84 wt_X8_isSlot wn_X8 wc_X8_isSlot) rfl rfl rfl (by decide +kernel) (by decide) rfl rfl hl.1 (Nat.le_of_ble_eq_true rfl) dX8_place_1 ⟨Nat.zero_le _, Nat.zero_le _⟩ (fun H locs w => ?_)
  refine lv_if_eq (tgt := 17) hx hb dX8_place_4 (by decide) (fun c3 => ?_) (fun c3 => ?_)
  · have hk := ok_p c3 hk
    refine lv_iconst (v := (-1)) hx hb dX8_place_17 (by decide) ?_
    have hk := hR _ (ok_s hk)
    exact zri X hr hlk w dX8_place_18 (pr1 hk) (pr2 hk)
  · have hk := ok_n c3 hk
    refine lv_aload_n hx hb dX8_place_7 rfl (lv_at hl 0 rfl) ?_
    obtain ⟨c4, hk⟩ := ok_c hk
    obtain ⟨r5, e6, hk⟩ := ok_b hk
    refine zgr X w 8 4 31 (C := RX8) (T := TX8) (N := 10) rfl ui_X8 (by decide) rfl (tb wf_X8_31) dX8_place_8 c4 e6 ?_
    obtain ⟨c9, hk⟩ := ok_c hk
    obtain ⟨q7, e8, hk⟩ := ok_b hk
    refine zVi X w (n := 0) (As := []) (rest := []) (ci := 0) (C := RX0) (T := TX0) (N := 7) (c_X0_settle l D cy G M r5 e8) (gzV wm_X8_241 wi_X0_settle ws_X0_settle wn_X0 wc_X0_settle) rfl rfl rfl (by decide +kernel) (by decide) rfl c9 rfl rfl hl.1 (Nat.le_of_ble_eq_true rfl) dX8_place_11 ⟨Nat.zero_le _, Nat.zero_le _⟩ (fun H locs w => ?_)
    refine lv_if_ne (tgt := 19) hx hb dX8_place_14 (by decide) (fun c10 => ?_) (fun c10 => ?_)
    · have hk := ok_n c10 hk
      refine lv_aload_n hx hb dX8_place_19 rfl (lv_at hl 0 rfl) ?_
      obtain ⟨r11, e12, hk⟩ := ok_b hk
      refine zgr X w 8 7 52 (C := RX8) (T := TX8) (N := 10) rfl ui_X8 (by decide) rfl (tb wf_X8_52) dX8_place_20 c4 e12 ?_
      obtain ⟨c13, hk⟩ := ok_c hk
      obtain ⟨r14, e15, hk⟩ := ok_b hk
      refine zgNr X w 2 0 244 "BlendBench" (C := RX2) (T := TX2) (N := 2) rfl ui_X2 (by decide) rfl (by decide +kernel) dX8_place_23 c13 e15 ?_
      refine lv_aload_n hx hb dX8_place_26 rfl (lv_at hl 0 rfl) ?_
      obtain ⟨r16, e17, hk⟩ := ok_b hk
      refine zgr X w 8 4 31 (C := RX8) (T := TX8) (N := 10) rfl ui_X8 (by decide) rfl (tb wf_X8_31) dX8_place_27 c4 e17 ?_
      obtain ⟨c20, hk⟩ := ok_c hk
      obtain ⟨q18, e19, hk⟩ := ok_b hk
      refine zVv X w (n := 1) (As := [.ref r16]) (rest := []) (ci := 3) (C := RX3) (T := TX3) (N := 3) (c_X3_fillShares l D cy G q7.2 r14 r16 e19) (gzV wm_X8_248 wi_X3_fillShares ws_X3_fillShares wn_X3 wc_X3_fillShares) rfl rfl rfl (by decide +kernel) (by decide) rfl c20 rfl rfl hl.1 (Nat.le_of_ble_eq_true rfl) dX8_place_30 ⟨Nat.zero_le _, Nat.zero_le _⟩ (fun H locs w => ?_)
      refine lv_aload_n hx hb dX8_place_33 rfl (lv_at hl 0 rfl) ?_
      obtain ⟨r21, e22, hk⟩ := ok_b hk
      refine zgr X w 8 3 26 (C := RX8) (T := TX8) (N := 10) rfl ui_X8 (by decide) rfl (tb wf_X8_26) dX8_place_34 c4 e22 ?_
      refine lv_iload_n hx hb dX8_place_37 rfl (lv_at hl 1 rfl) ?_
      obtain ⟨c23, hk⟩ := ok_c hk
      obtain ⟨c24, hk⟩ := ok_c hk
      obtain ⟨r25, e26, hk⟩ := ok_b hk
      refine zar X w dX8_place_38 c23 c24 e26 ?_
      refine lv_astore_n (lv' := [(2, .ref r25), (0, .ref r0), (1, .int i1)]) hx hb dX8_place_39 rfl hl (by decide) rfl (fun ls hl => ?_)
      refine lv_aload_n hx hb dX8_place_40 rfl (lv_at hl 1 rfl) ?_
      refine zgr X w 8 3 26 (C := RX8) (T := TX8) (N := 10) rfl ui_X8 (by decide) rfl (tb wf_X8_26) dX8_place_41 c4 e22 ?_
      refine lv_iload_n hx hb dX8_place_44 rfl (lv_at hl 2 rfl) ?_
      refine lv_aload_n hx hb dX8_place_45 rfl (lv_at hl 1 rfl) ?_
      obtain ⟨r27, e28, hk⟩ := ok_b hk
      refine zgr X w 8 4 31 (C := RX8) (T := TX8) (N := 10) rfl ui_X8 (by decide) rfl (tb wf_X8_31) dX8_place_46 c4 e28 ?_
      obtain ⟨c29, hk⟩ := ok_c hk
      refine zsr X w dX8_place_49 c23 c24 c29 (fun H locs w => ?_)
      refine lv_aload_n hx hb dX8_place_50 rfl (lv_at hl 1 rfl) ?_
      refine lv_aload_n hx hb dX8_place_51 rfl (lv_at hl 0 rfl) ?_
      refine zpr X w 8 4 31 tyX8 (C := RX8) (T := TX8) (N := 10) rfl ui_X8 tyX8_ok nmX8 (by decide) rfl (tb wf_X8_31) rfl rfl rfl dX8_place_52 c4 (fun H locs w => ?_)
      refine lv_aload_n hx hb dX8_place_55 rfl (lv_at hl 1 rfl) ?_
      obtain ⟨r30, e31, hk⟩ := ok_b hk
      refine zgr X w 8 3 26 (C := RX8) (T := TX8) (N := 10) rfl ui_X8 (by decide) rfl (tb wf_X8_26) dX8_place_56 c4 e31 ?_
      refine lv_iload_n hx hb dX8_place_59 rfl (lv_at hl 2 rfl) ?_
      obtain ⟨c32, hk⟩ := ok_c hk
      obtain ⟨c33, hk⟩ := ok_c hk
      obtain ⟨r34, e35, hk⟩ := ok_b hk
      refine zar X w dX8_place_60 c32 c33 e35 ?_
      obtain ⟨c36, hk⟩ := ok_c hk
      refine zgNi X w 0 1 132 "BlendBench" (C := RX0) (T := TX0) (N := 7) rfl ui_X0 (by decide) rfl (by decide +kernel) dX8_place_61 c36 ?_
      have hk := hR _ (ok_s hk)
      exact zri X hr hlk w dX8_place_64 (pr1 hk) (pr2 hk)
    · have hk := ok_p c10 hk
      refine lv_iconst (v := (-1)) hx hb dX8_place_17 (by decide) ?_
      have hk := hR _ (ok_s hk)
      exact zri X hr hlk w dX8_place_18 (pr1 hk) (pr2 hk)
abbrev rm_X8_sheet : Room := { frames := 6, cells := 0, slots := 0, locals := 137 }
set_option maxHeartbeats 4000000 in
set_option maxRecDepth 100000 in
theorem wj_X8_sheet_28 {p : Program} {l : Launch} {e : Env} {s : State} {m : MethodId} {args : Array Value} {below : List Frame} {meth : Method} {c : Code} {D : va_G} {cy : Cyy} {A : Nat → Prop} {G : Gg} (X : Cx p m c cX8_sheet 5 s args wz_X8_sheet RX8 D cy) (M0 M : Mm) (Qo : Int32 × Mm → Prop) (hr : meth.sig.returnType = (some .int)) (hlk : meth.locks = false) {x0 : Int32 × Mm} (hR : ∀ x, Qo x → x = x0)  (r0 : Nat) (i1 : Int32) (k0 : Int32) (H : Heap) (locs : List Loc) (ls : Array Slot) (w : Wo s D cy A G M H locs) (hl : lv_has ls 5 [(0, .ref r0), (1, .int i1)]) (hk : OK (jn_X8_sheet_28 G M  r0 i1 k0) Qo) : W p l e rm_X8_sheet s m args below meth c H locs 0 0 (MQ below (QI D cy G A x0.1 x0.2) args s 0 0 A) (F0 m 28 ls [.int k0]) := by
    have hx := X.1.1
    have hb := X.1.2.1
    unfold jn_X8_sheet_28 at hk
    refine lv_istore (lv' := [(4, .int k0), (0, .ref r0), (1, .int i1)]) hx hb dX8_sheet_28 hl (by decide) rfl (fun ls hl => ?_)
    refine lv_aload_n hx hb dX8_sheet_30 rfl (lv_at hl 1 rfl) ?_
    obtain ⟨c4, hk⟩ := ok_c hk
    obtain ⟨r5, e6, hk⟩ := ok_b hk
    refine zgr X w 8 0 10 (C := RX8) (T := TX8) (N := 10) rfl ui_X8 (by decide) rfl (tb wf_X8_10) dX8_sheet_31 c4 e6 ?_
    refine lv_iconst (v := 0) hx hb dX8_sheet_34 (by decide) ?_
    obtain ⟨c9, hk⟩ := ok_c hk
    obtain ⟨q7, e8, hk⟩ := ok_b hk
    refine zVi X w (n := 1) (As := [.int (0 : Int32)]) (rest := []) (ci := 6) (C := RX6) (T := TX6) (N := 2) (c_X6_shorten l D cy G M r5 (0 : Int32) e8) (gzV wm_X8_81 wi_X6_shorten ws_X6_shorten wn_X6 wc_X6_shorten) rfl rfl rfl (by decide +kernel) (by decide) rfl c9 rfl rfl hl.1 (Nat.le_of_ble_eq_true rfl) dX8_sheet_35 ⟨Nat.zero_le _, Nat.zero_le _⟩ (fun H locs w => ?_)
    refine lv_pop hx hb dX8_sheet_38 rfl ?_
    refine lv_iload hx hb dX8_sheet_39 (lv_at hl 0 rfl) ?_
    refine lv_if_eq (tgt := 52) hx hb dX8_sheet_41 (by decide) (fun c10 => ?_) (fun c10 => ?_)
    · have hk := ok_p c10 hk
      refine lv_iconst (v := (-1)) hx hb dX8_sheet_52 (by decide) ?_
      have hk := hR _ (ok_s hk)
      exact zri X hr hlk w dX8_sheet_53 (pr1 hk) (pr2 hk)
    · have hk := ok_n c10 hk
      refine lv_aload_n hx hb dX8_sheet_44 rfl (lv_at hl 1 rfl) ?_
      refine lv_iload_n hx hb dX8_sheet_45 rfl (lv_at hl 2 rfl) ?_
      obtain ⟨q11, e12, hk⟩ := ok_b hk
      refine zVi X w (n := 1) (As := [.int i1]) (rest := []) (ci := 8) (C := RX8) (T := TX8) (N := 10) (c_X8_place l D cy G q7.2 r0 i1 e12) (gzV wm_X8_91 wi_X8_place ws_X8_place wn_X8 wc_X8_place) rfl rfl rfl (by decide +kernel) (by decide) rfl c4 rfl rfl hl.1 (Nat.le_of_ble_eq_true rfl) dX8_sheet_46 ⟨Nat.zero_le _, Nat.zero_le _⟩ (fun H locs w => ?_)
      refine lv_goto (tgt := 53) hx hb dX8_sheet_49 (by decide) ?_
      have hk := hR _ (ok_s hk)
      exact zri X hr hlk w dX8_sheet_53 (pr1 hk) (pr2 hk)
set_option maxHeartbeats 4000000 in
set_option maxRecDepth 100000 in
theorem wj_X8_sheet_27 {p : Program} {l : Launch} {e : Env} {s : State} {m : MethodId} {args : Array Value} {below : List Frame} {meth : Method} {c : Code} {D : va_G} {cy : Cyy} {A : Nat → Prop} {G : Gg} (X : Cx p m c cX8_sheet 5 s args wz_X8_sheet RX8 D cy) (M0 M : Mm) (Qo : Int32 × Mm → Prop) (hr : meth.sig.returnType = (some .int)) (hlk : meth.locks = false) {x0 : Int32 × Mm} (hR : ∀ x, Qo x → x = x0)  (r0 : Nat) (i1 : Int32)  (H : Heap) (locs : List Loc) (ls : Array Slot) (w : Wo s D cy A G M H locs) (hl : lv_has ls 5 [(0, .ref r0), (1, .int i1)]) (hk : OK (jn_X8_sheet_27 G M  r0 i1) Qo) : W p l e rm_X8_sheet s m args below meth c H locs 0 0 (MQ below (QI D cy G A x0.1 x0.2) args s 0 0 A) (F0 m 27 ls []) := by
    have hx := X.1.1
    have hb := X.1.2.1
    unfold jn_X8_sheet_27 at hk
    refine lv_iconst (v := 0) hx hb dX8_sheet_27 (by decide) ?_
    exact wj_X8_sheet_28 X M M _ hr hlk hR r0 i1 (0 : Int32) _ _ _ w (lv_sub hl [0, 1] rfl) hk
set_option maxHeartbeats 4000000 in
set_option maxRecDepth 100000 in
theorem c_X8_sheet (l : Launch) (D : va_G) (cy : Cyy) (G : Gg) (M : Mm) (r0 : Nat) (i1 : Int32) (i2 : Int32) (i3 : Int32) {q : Int32 × Mm} (hm : f_X8_sheet G M r0 i1 i2 i3 = some q) : CI l yX8_sheet wz_X8_sheet rm_X8_sheet D cy G M [.ref r0, .int i1, .int i2, .int i3] q.1 q.2 := by
  refine Met_of (Qf := fun A => QI D cy G A q.1 q.2) (cc := cX8_sheet) (nL := 5) (ret := (some .int)) (own := RX8) (lv := [(0, .ref r0), (1, .int i1), (2, .int i2), (3, .int i3)]) (by decide) rfl rfl (Nat.le_of_ble_eq_true rfl) rfl ?_
  intro p e s m args below meth c A ls X hr hlk w hl
  have hx := X.1.1
  have hb := X.1.2.1
  obtain ⟨Qo, hR, hk⟩ : ∃ Qo : Int32 × Mm → Prop, (∀ x, Qo x → x = q) ∧ OK (f_X8_sheet G M r0 i1 i2 i3) Qo := ⟨fun x => x = q, fun _ h => h, q, hm, rfl⟩
  unfold f_X8_sheet at hk
  refine lv_iload_n hx hb dX8_sheet_0 rfl (lv_at hl 1 rfl) ?_
  obtain ⟨q1, e2, hk⟩ := ok_b hk
  refine zSi X w (n := 1) (As := [.int i1]) (rest := []) (c_X8_isSlot l D cy G M i1 e2) (gzS wm_X8_84 wt_X8_isSlot wn_X8 wc_X8_isSlot) rfl rfl rfl (by decide +kernel) (by decide) rfl rfl hl.1 (Nat.le_of_ble_eq_true rfl) dX8_sheet_1 ⟨Nat.zero_le _, Nat.zero_le _⟩ (fun H locs w => ?_)
  refine lv_if_eq (tgt := 27) hx hb dX8_sheet_4 (by decide) (fun c3 => ?_) (fun c3 => ?_)
  · have hk := ok_p c3 hk
    exact wj_X8_sheet_27 X M M _ hr hlk hR r0 i1 _ _ _ w (lv_sub hl [0, 1] rfl) hk
  · have hk := ok_n c3 hk
    refine lv_aload_n hx hb dX8_sheet_7 rfl (lv_at hl 0 rfl) ?_
    obtain ⟨c13, hk⟩ := ok_c hk
    obtain ⟨r14, e15, hk⟩ := ok_b hk
    refine zgr X w 8 4 31 (C := RX8) (T := TX8) (N := 10) rfl ui_X8 (by decide) rfl (tb wf_X8_31) dX8_sheet_8 c13 e15 ?_
    refine lv_aload_n hx hb dX8_sheet_11 rfl (lv_at hl 0 rfl) ?_
    obtain ⟨r16, e17, hk⟩ := ok_b hk
    refine zgr X w 8 0 10 (C := RX8) (T := TX8) (N := 10) rfl ui_X8 (by decide) rfl (tb wf_X8_10) dX8_sheet_12 c13 e17 ?_
    refine lv_iload_n hx hb dX8_sheet_15 rfl (lv_at hl 2 rfl) ?_
    refine lv_iload_n hx hb dX8_sheet_16 rfl (lv_at hl 3 rfl) ?_
    obtain ⟨c20, hk⟩ := ok_c hk
    obtain ⟨q18, e19, hk⟩ := ok_b hk
    refine zVi X w (n := 3) (As := [.ref r16, .int i2, .int i3]) (rest := []) (ci := 0) (C := RX0) (T := TX0) (N := 7) (c_X0_readTape l D cy G M r14 r16 i2 i3 e19) (gzV wm_X8_87 wi_X0_readTape ws_X0_readTape wn_X0 wc_X0_readTape) rfl rfl rfl (by decide +kernel) (by decide) rfl c20 rfl rfl hl.1 (Nat.le_of_ble_eq_true rfl) dX8_sheet_17 ⟨Nat.zero_le _, Nat.zero_le _⟩ (fun H locs w => ?_)
    refine lv_if_eq (tgt := 27) hx hb dX8_sheet_20 (by decide) (fun c21 => ?_) (fun c21 => ?_)
    · have hk := ok_p c21 hk
      exact wj_X8_sheet_27 X M q18.2 _ hr hlk hR r0 i1 _ _ _ w (lv_sub hl [0, 1] rfl) hk
    · have hk := ok_n c21 hk
      refine lv_iconst (v := 1) hx hb dX8_sheet_23 (by decide) ?_
      refine lv_goto (tgt := 28) hx hb dX8_sheet_24 (by decide) ?_
      exact wj_X8_sheet_28 X M q18.2 _ hr hlk hR r0 i1 (1 : Int32) _ _ _ w (lv_sub hl [0, 1] rfl) hk
abbrev rm_X8_chainIn : Room := { frames := 1, cells := 0, slots := 0, locals := 20 }
set_option maxHeartbeats 4000000 in
set_option maxRecDepth 100000 in
theorem c_X8_chainIn (l : Launch) (D : va_G) (cy : Cyy) (G : Gg) (M : Mm) (r0 : Nat) (i1 : Int32) {q : Option Nat} (hm : f_X8_chainIn G M r0 i1 = some q) : CP l yX8_chainIn wz_X8_chainIn rm_X8_chainIn D cy G M [.ref r0, .int i1] q M := by
  refine Met_of (Qf := fun A => QP D cy G A q M) (cc := cX8_chainIn) (nL := 2) (ret := (some (.object "BlendBench$Chain"))) (own := RX8) (lv := [(0, .ref r0), (1, .int i1)]) (by decide) rfl rfl (Nat.le_of_ble_eq_true rfl) rfl ?_
  intro p e s m args below meth c A ls X hr hlk w hl
  have hx := X.1.1
  have hb := X.1.2.1
  obtain ⟨Qo, hR, hk⟩ : ∃ Qo : Option Nat → Prop, (∀ x, Qo x → x = q) ∧ OK (f_X8_chainIn G M r0 i1) Qo := ⟨fun x => x = q, fun _ h => h, q, hm, rfl⟩
  unfold f_X8_chainIn at hk
  refine lv_iload_n hx hb dX8_chainIn_0 rfl (lv_at hl 1 rfl) ?_
  obtain ⟨q1, e2, hk⟩ := ok_b hk
  refine zSi X w (n := 1) (As := [.int i1]) (rest := []) (c_X8_isSlot l D cy G M i1 e2) (gzS wm_X8_84 wt_X8_isSlot wn_X8 wc_X8_isSlot) rfl rfl rfl (by decide +kernel) (by decide) rfl rfl hl.1 (Nat.le_of_ble_eq_true rfl) dX8_chainIn_1 ⟨Nat.zero_le _, Nat.zero_le _⟩ (fun H locs w => ?_)
  refine lv_if_eq (tgt := 28) hx hb dX8_chainIn_4 (by decide) (fun c3 => ?_) (fun c3 => ?_)
  · have hk := ok_p c3 hk
    refine lv_null hx hb dX8_chainIn_28 ?_
    have hk := hR _ (ok_s hk)
    exact zrp X hr hlk w dX8_chainIn_29 rfl hk rfl
  · have hk := ok_n c3 hk
    refine lv_aload_n hx hb dX8_chainIn_7 rfl (lv_at hl 0 rfl) ?_
    obtain ⟨c4, hk⟩ := ok_c hk
    obtain ⟨r5, e6, hk⟩ := ok_b hk
    refine zgr X w 8 3 26 (C := RX8) (T := TX8) (N := 10) rfl ui_X8 (by decide) rfl (tb wf_X8_26) dX8_chainIn_8 c4 e6 ?_
    refine lv_iload_n hx hb dX8_chainIn_11 rfl (lv_at hl 1 rfl) ?_
    obtain ⟨c7, hk⟩ := ok_c hk
    obtain ⟨c8, hk⟩ := ok_c hk
    obtain ⟨r9, e10, hk⟩ := ok_b hk
    refine zar X w dX8_chainIn_12 c7 c8 e10 ?_
    obtain ⟨c11, hk⟩ := ok_c hk
    refine zgNi X w 0 0 111 "BlendBench" (C := RX0) (T := TX0) (N := 7) rfl ui_X0 (by decide) rfl (by decide +kernel) dX8_chainIn_13 c11 ?_
    refine lv_if_le (tgt := 28) hx hb dX8_chainIn_16 (by decide) (fun c12 => ?_) (fun c12 => ?_)
    · have hk := ok_p c12 hk
      refine lv_null hx hb dX8_chainIn_28 ?_
      have hk := hR _ (ok_s hk)
      exact zrp X hr hlk w dX8_chainIn_29 rfl hk rfl
    · have hk := ok_n c12 hk
      refine lv_aload_n hx hb dX8_chainIn_19 rfl (lv_at hl 0 rfl) ?_
      refine zgr X w 8 3 26 (C := RX8) (T := TX8) (N := 10) rfl ui_X8 (by decide) rfl (tb wf_X8_26) dX8_chainIn_20 c4 e6 ?_
      refine lv_iload_n hx hb dX8_chainIn_23 rfl (lv_at hl 1 rfl) ?_
      obtain ⟨r13, e14, hk⟩ := ok_b hk
      refine zar X w dX8_chainIn_24 c7 c8 e14 ?_
      refine lv_goto (tgt := 29) hx hb dX8_chainIn_25 (by decide) ?_
      have hk := hR _ (ok_s hk)
      exact zrp X hr hlk w dX8_chainIn_29 rfl hk rfl
abbrev rm_X8_lazy : Room := { frames := 6, cells := 0, slots := 0, locals := 137 }
set_option maxHeartbeats 4000000 in
set_option maxRecDepth 100000 in
theorem c_X8_lazy (l : Launch) (D : va_G) (cy : Cyy) (G : Gg) (M : Mm) (r0 : Nat) (i1 : Int32) (i2 : Int32) {q : Int32 × Mm} (hm : f_X8_lazy G M r0 i1 i2 = some q) : CI l yX8_lazy wz_X8_lazy rm_X8_lazy D cy G M [.ref r0, .int i1, .int i2] q.1 q.2 := by
  refine Met_of (Qf := fun A => QI D cy G A q.1 q.2) (cc := cX8_lazy) (nL := 4) (ret := (some .int)) (own := RX8) (lv := [(0, .ref r0), (1, .int i1), (2, .int i2)]) (by decide) rfl rfl (Nat.le_of_ble_eq_true rfl) rfl ?_
  intro p e s m args below meth c A ls X hr hlk w hl
  have hx := X.1.1
  have hb := X.1.2.1
  obtain ⟨Qo, hR, hk⟩ : ∃ Qo : Int32 × Mm → Prop, (∀ x, Qo x → x = q) ∧ OK (f_X8_lazy G M r0 i1 i2) Qo := ⟨fun x => x = q, fun _ h => h, q, hm, rfl⟩
  unfold f_X8_lazy at hk
  refine lv_aload_n hx hb dX8_lazy_0 rfl (lv_at hl 0 rfl) ?_
  refine lv_iload_n hx hb dX8_lazy_1 rfl (lv_at hl 1 rfl) ?_
  obtain ⟨c3, hk⟩ := ok_c hk
  obtain ⟨q1, e2, hk⟩ := ok_b hk
  refine zVp X w (n := 1) (As := [.int i1]) (rest := []) (ci := 8) (C := RX8) (T := TX8) (N := 10) (c_X8_chainIn l D cy G M r0 i1 e2) (gzV wm_X8_95 wi_X8_chainIn ws_X8_chainIn wn_X8 wc_X8_chainIn) rfl rfl rfl (by decide +kernel) (by decide) rfl c3 rfl rfl hl.1 (Nat.le_of_ble_eq_true rfl) dX8_lazy_2 ⟨Nat.zero_le _, Nat.zero_le _⟩ (fun H locs w => ?_)
  rcases q1 with _ | r4
  · have hk := ok_e0 hk
    refine lv_astore_nN (lv' := [(3, .null), (0, .ref r0), (1, .int i1), (2, .int i2)]) hx hb dX8_lazy_5 rfl hl (by decide) rfl (fun ls hl => ?_)
    refine lv_aload_nN hx hb dX8_lazy_6 rfl (lv_at hl 0 rfl) ?_
    refine lv_ifnullN (tgt := 17) hx hb dX8_lazy_7 (by decide) ?_
    refine lv_iconst (v := (-1)) hx hb dX8_lazy_17 (by decide) ?_
    have hk := hR _ (ok_s hk)
    exact zri X hr hlk w dX8_lazy_18 (pr1 hk) (pr2 hk)
  · have hk := ok_e1 hk
    refine lv_astore_n (lv' := [(3, .ref r4), (0, .ref r0), (1, .int i1), (2, .int i2)]) hx hb dX8_lazy_5 rfl hl (by decide) rfl (fun ls hl => ?_)
    refine lv_aload_n hx hb dX8_lazy_6 rfl (lv_at hl 0 rfl) ?_
    refine lv_ifnull hx hb dX8_lazy_7 ?_
    refine lv_iload_n hx hb dX8_lazy_10 rfl (lv_at hl 3 rfl) ?_
    obtain ⟨q5, e6, hk⟩ := ok_b hk
    refine zSi X w (n := 1) (As := [.int i2]) (rest := []) (c_X8_isSlot l D cy G M i2 e6) (gzS wm_X8_84 wt_X8_isSlot wn_X8 wc_X8_isSlot) rfl rfl rfl (by decide +kernel) (by decide) rfl rfl hl.1 (Nat.le_of_ble_eq_true rfl) dX8_lazy_11 ⟨Nat.zero_le _, Nat.zero_le _⟩ (fun H locs w => ?_)
    refine lv_if_ne (tgt := 19) hx hb dX8_lazy_14 (by decide) (fun c7 => ?_) (fun c7 => ?_)
    · have hk := ok_n c7 hk
      refine lv_aload_n hx hb dX8_lazy_19 rfl (lv_at hl 1 rfl) ?_
      obtain ⟨r8, e9, hk⟩ := ok_b hk
      refine zgr X w 8 4 31 (C := RX8) (T := TX8) (N := 10) rfl ui_X8 (by decide) rfl (tb wf_X8_31) dX8_lazy_20 c3 e9 ?_
      refine lv_aload_n hx hb dX8_lazy_23 rfl (lv_at hl 0 rfl) ?_
      obtain ⟨c12, hk⟩ := ok_c hk
      obtain ⟨q10, e11, hk⟩ := ok_b hk
      refine zVv X w (n := 1) (As := [.ref r4]) (rest := []) (ci := 0) (C := RX0) (T := TX0) (N := 7) (c_X0_makeLazyOf l D cy G M r8 r4 e11) (gzV wm_X8_99 wi_X0_makeLazyOf ws_X0_makeLazyOf wn_X0 wc_X0_makeLazyOf) rfl rfl rfl (by decide +kernel) (by decide) rfl c12 rfl rfl hl.1 (Nat.le_of_ble_eq_true rfl) dX8_lazy_24 ⟨Nat.zero_le _, Nat.zero_le _⟩ (fun H locs w => ?_)
      refine lv_aload_n hx hb dX8_lazy_27 rfl (lv_at hl 1 rfl) ?_
      refine lv_iload_n hx hb dX8_lazy_28 rfl (lv_at hl 3 rfl) ?_
      obtain ⟨q13, e14, hk⟩ := ok_b hk
      refine zVi X w (n := 1) (As := [.int i2]) (rest := []) (ci := 8) (C := RX8) (T := TX8) (N := 10) (c_X8_place l D cy G q10 r0 i2 e14) (gzV wm_X8_91 wi_X8_place ws_X8_place wn_X8 wc_X8_place) rfl rfl rfl (by decide +kernel) (by decide) rfl c3 rfl rfl hl.1 (Nat.le_of_ble_eq_true rfl) dX8_lazy_29 ⟨Nat.zero_le _, Nat.zero_le _⟩ (fun H locs w => ?_)
      have hk := hR _ (ok_s hk)
      exact zri X hr hlk w dX8_lazy_32 (pr1 hk) (pr2 hk)
    · have hk := ok_p c7 hk
      refine lv_iconst (v := (-1)) hx hb dX8_lazy_17 (by decide) ?_
      have hk := hR _ (ok_s hk)
      exact zri X hr hlk w dX8_lazy_18 (pr1 hk) (pr2 hk)
abbrev rm_X8_back : Room := { frames := 6, cells := 0, slots := 0, locals := 137 }
set_option maxHeartbeats 4000000 in
set_option maxRecDepth 100000 in
theorem c_X8_back (l : Launch) (D : va_G) (cy : Cyy) (G : Gg) (M : Mm) (r0 : Nat) (i1 : Int32) (i2 : Int32) {q : Int32 × Mm} (hm : f_X8_back G M r0 i1 i2 = some q) : CI l yX8_back wz_X8_back rm_X8_back D cy G M [.ref r0, .int i1, .int i2] q.1 q.2 := by
  refine Met_of (Qf := fun A => QI D cy G A q.1 q.2) (cc := cX8_back) (nL := 4) (ret := (some .int)) (own := RX8) (lv := [(0, .ref r0), (1, .int i1), (2, .int i2)]) (by decide) rfl rfl (Nat.le_of_ble_eq_true rfl) rfl ?_
  intro p e s m args below meth c A ls X hr hlk w hl
  have hx := X.1.1
  have hb := X.1.2.1
  obtain ⟨Qo, hR, hk⟩ : ∃ Qo : Int32 × Mm → Prop, (∀ x, Qo x → x = q) ∧ OK (f_X8_back G M r0 i1 i2) Qo := ⟨fun x => x = q, fun _ h => h, q, hm, rfl⟩
  unfold f_X8_back at hk
  refine lv_aload_n hx hb dX8_back_0 rfl (lv_at hl 0 rfl) ?_
  refine lv_iload_n hx hb dX8_back_1 rfl (lv_at hl 1 rfl) ?_
  obtain ⟨c3, hk⟩ := ok_c hk
  obtain ⟨q1, e2, hk⟩ := ok_b hk
  refine zVp X w (n := 1) (As := [.int i1]) (rest := []) (ci := 8) (C := RX8) (T := TX8) (N := 10) (c_X8_chainIn l D cy G M r0 i1 e2) (gzV wm_X8_95 wi_X8_chainIn ws_X8_chainIn wn_X8 wc_X8_chainIn) rfl rfl rfl (by decide +kernel) (by decide) rfl c3 rfl rfl hl.1 (Nat.le_of_ble_eq_true rfl) dX8_back_2 ⟨Nat.zero_le _, Nat.zero_le _⟩ (fun H locs w => ?_)
  rcases q1 with _ | r4
  · have hk := ok_e0 hk
    refine lv_astore_nN (lv' := [(3, .null), (0, .ref r0), (1, .int i1), (2, .int i2)]) hx hb dX8_back_5 rfl hl (by decide) rfl (fun ls hl => ?_)
    refine lv_aload_nN hx hb dX8_back_6 rfl (lv_at hl 0 rfl) ?_
    refine lv_ifnullN (tgt := 24) hx hb dX8_back_7 (by decide) ?_
    refine lv_iconst (v := (-1)) hx hb dX8_back_24 (by decide) ?_
    have hk := hR _ (ok_s hk)
    exact zri X hr hlk w dX8_back_25 (pr1 hk) (pr2 hk)
  · have hk := ok_e1 hk
    refine lv_astore_n (lv' := [(3, .ref r4), (0, .ref r0), (1, .int i1), (2, .int i2)]) hx hb dX8_back_5 rfl hl (by decide) rfl (fun ls hl => ?_)
    refine lv_aload_n hx hb dX8_back_6 rfl (lv_at hl 0 rfl) ?_
    refine lv_ifnull hx hb dX8_back_7 ?_
    refine lv_iload_n hx hb dX8_back_10 rfl (lv_at hl 3 rfl) ?_
    obtain ⟨q5, e6, hk⟩ := ok_b hk
    refine zSi X w (n := 1) (As := [.int i2]) (rest := []) (c_X8_isSlot l D cy G M i2 e6) (gzS wm_X8_84 wt_X8_isSlot wn_X8 wc_X8_isSlot) rfl rfl rfl (by decide +kernel) (by decide) rfl rfl hl.1 (Nat.le_of_ble_eq_true rfl) dX8_back_11 ⟨Nat.zero_le _, Nat.zero_le _⟩ (fun H locs w => ?_)
    refine lv_if_eq (tgt := 24) hx hb dX8_back_14 (by decide) (fun c7 => ?_) (fun c7 => ?_)
    · have hk := ok_p c7 hk
      refine lv_iconst (v := (-1)) hx hb dX8_back_24 (by decide) ?_
      have hk := hR _ (ok_s hk)
      exact zri X hr hlk w dX8_back_25 (pr1 hk) (pr2 hk)
    · have hk := ok_n c7 hk
      refine lv_aload_n hx hb dX8_back_17 rfl (lv_at hl 0 rfl) ?_
      obtain ⟨c10, hk⟩ := ok_c hk
      obtain ⟨q8, e9, hk⟩ := ok_b hk
      refine zVi X w (n := 0) (As := []) (rest := []) (ci := 0) (C := RX0) (T := TX0) (N := 7) (c_X0_isWhole l D cy G M r4 e9) (gzV wm_X8_103 wi_X0_isWhole ws_X0_isWhole wn_X0 wc_X0_isWhole) rfl rfl rfl (by decide +kernel) (by decide) rfl c10 rfl rfl hl.1 (Nat.le_of_ble_eq_true rfl) dX8_back_18 ⟨Nat.zero_le _, Nat.zero_le _⟩ (fun H locs w => ?_)
      refine lv_if_ne (tgt := 26) hx hb dX8_back_21 (by decide) (fun c11 => ?_) (fun c11 => ?_)
      · have hk := ok_n c11 hk
        refine lv_aload_n hx hb dX8_back_26 rfl (lv_at hl 1 rfl) ?_
        obtain ⟨r12, e13, hk⟩ := ok_b hk
        refine zgr X w 8 4 31 (C := RX8) (T := TX8) (N := 10) rfl ui_X8 (by decide) rfl (tb wf_X8_31) dX8_back_27 c3 e13 ?_
        refine lv_aload_n hx hb dX8_back_30 rfl (lv_at hl 0 rfl) ?_
        refine lv_aload_n hx hb dX8_back_31 rfl (lv_at hl 1 rfl) ?_
        obtain ⟨r14, e15, hk⟩ := ok_b hk
        refine zgr X w 8 9 66 (C := RX8) (T := TX8) (N := 10) rfl ui_X8 (by decide) rfl (tb wf_X8_66) dX8_back_32 c3 e15 ?_
        obtain ⟨c18, hk⟩ := ok_c hk
        obtain ⟨q16, e17, hk⟩ := ok_b hk
        refine zVi X w (n := 2) (As := [.ref r4, .ref r14]) (rest := []) (ci := 0) (C := RX0) (T := TX0) (N := 7) (c_X0_makeBackOf l D cy G M r12 r4 r14 e17) (gzV wm_X8_107 wi_X0_makeBackOf ws_X0_makeBackOf wn_X0 wc_X0_makeBackOf) rfl rfl rfl (by decide +kernel) (by decide) rfl c18 rfl rfl hl.1 (Nat.le_of_ble_eq_true rfl) dX8_back_35 ⟨Nat.zero_le _, Nat.zero_le _⟩ (fun H locs w => ?_)
        refine lv_if_eq (tgt := 49) hx hb dX8_back_38 (by decide) (fun c19 => ?_) (fun c19 => ?_)
        · have hk := ok_p c19 hk
          refine lv_iconst (v := (-1)) hx hb dX8_back_49 (by decide) ?_
          have hk := hR _ (ok_s hk)
          exact zri X hr hlk w dX8_back_50 (pr1 hk) (pr2 hk)
        · have hk := ok_n c19 hk
          refine lv_aload_n hx hb dX8_back_41 rfl (lv_at hl 1 rfl) ?_
          refine lv_iload_n hx hb dX8_back_42 rfl (lv_at hl 3 rfl) ?_
          obtain ⟨q20, e21, hk⟩ := ok_b hk
          refine zVi X w (n := 1) (As := [.int i2]) (rest := []) (ci := 8) (C := RX8) (T := TX8) (N := 10) (c_X8_place l D cy G q16.2 r0 i2 e21) (gzV wm_X8_91 wi_X8_place ws_X8_place wn_X8 wc_X8_place) rfl rfl rfl (by decide +kernel) (by decide) rfl c3 rfl rfl hl.1 (Nat.le_of_ble_eq_true rfl) dX8_back_43 ⟨Nat.zero_le _, Nat.zero_le _⟩ (fun H locs w => ?_)
          refine lv_goto (tgt := 50) hx hb dX8_back_46 (by decide) ?_
          have hk := hR _ (ok_s hk)
          exact zri X hr hlk w dX8_back_50 (pr1 hk) (pr2 hk)
      · have hk := ok_p c11 hk
        refine lv_iconst (v := (-1)) hx hb dX8_back_24 (by decide) ?_
        have hk := hR _ (ok_s hk)
        exact zri X hr hlk w dX8_back_25 (pr1 hk) (pr2 hk)
abbrev rm_X8_melt : Room := { frames := 6, cells := 0, slots := 0, locals := 142 }
set_option maxHeartbeats 4000000 in
set_option maxRecDepth 100000 in
theorem wj_X8_melt_55 {p : Program} {l : Launch} {e : Env} {s : State} {m : MethodId} {args : Array Value} {below : List Frame} {meth : Method} {c : Code} {D : va_G} {cy : Cyy} {A : Nat → Prop} {G : Gg} (X : Cx p m c cX8_melt 5 s args wz_X8_melt RX8 D cy) (M0 M : Mm) (Qo : Int32 × Mm → Prop) (hr : meth.sig.returnType = (some .int)) (hlk : meth.locks = false) {x0 : Int32 × Mm} (hR : ∀ x, Qo x → x = x0)  (r0 : Nat) (i2 : Int32) (i4 : Int32)  (H : Heap) (locs : List Loc) (ls : Array Slot) (w : Wo s D cy A G M H locs) (hl : lv_has ls 5 [(0, .ref r0), (2, .int i2), (3, .null), (4, .int i4)]) (hk : OK (jn_X8_melt_55 G M  r0 i2 i4) Qo) : W p l e rm_X8_melt s m args below meth c H locs 0 0 (MQ below (QI D cy G A x0.1 x0.2) args s 0 0 A) (F0 m 55 ls []) := by
    have hx := X.1.1
    have hb := X.1.2.1
    unfold jn_X8_melt_55 at hk
    refine lv_aload_n hx hb dX8_melt_55 rfl (lv_at hl 0 rfl) ?_
    obtain ⟨c6, hk⟩ := ok_c hk
    obtain ⟨r7, e8, hk⟩ := ok_b hk
    refine zgr X w 8 0 10 (C := RX8) (T := TX8) (N := 10) rfl ui_X8 (by decide) rfl (tb wf_X8_10) dX8_melt_56 c6 e8 ?_
    refine lv_iconst (v := 0) hx hb dX8_melt_59 (by decide) ?_
    obtain ⟨c11, hk⟩ := ok_c hk
    obtain ⟨q9, e10, hk⟩ := ok_b hk
    refine zVi X w (n := 1) (As := [.int (0 : Int32)]) (rest := []) (ci := 6) (C := RX6) (T := TX6) (N := 2) (c_X6_shorten l D cy G M r7 (0 : Int32) e10) (gzV wm_X8_81 wi_X6_shorten ws_X6_shorten wn_X6 wc_X6_shorten) rfl rfl rfl (by decide +kernel) (by decide) rfl c11 rfl rfl hl.1 (Nat.le_of_ble_eq_true rfl) dX8_melt_60 ⟨Nat.zero_le _, Nat.zero_le _⟩ (fun H locs w => ?_)
    refine lv_pop hx hb dX8_melt_63 rfl ?_
    refine lv_iload hx hb dX8_melt_64 (lv_at hl 3 rfl) ?_
    refine lv_if_ne (tgt := 71) hx hb dX8_melt_66 (by decide) (fun c12 => ?_) (fun c12 => ?_)
    · have hk := ok_n c12 hk
      refine lv_aload_n hx hb dX8_melt_71 rfl (lv_at hl 0 rfl) ?_
      obtain ⟨r13, e14, hk⟩ := ok_b hk
      refine zgr X w 8 4 31 (C := RX8) (T := TX8) (N := 10) rfl ui_X8 (by decide) rfl (tb wf_X8_31) dX8_melt_72 c6 e14 ?_
      refine lv_aload_nN hx hb dX8_melt_75 rfl (lv_at hl 2 rfl) ?_
      refine lv_aload_n hx hb dX8_melt_76 rfl (lv_at hl 0 rfl) ?_
      obtain ⟨r15, e16, hk⟩ := ok_b hk
      refine zgr X w 8 5 38 (C := RX8) (T := TX8) (N := 10) rfl ui_X8 (by decide) rfl (tb wf_X8_38) dX8_melt_77 c6 e16 ?_
      exact ok_0 hk
    · have hk := ok_p c12 hk
      refine lv_iconst (v := (-1)) hx hb dX8_melt_69 (by decide) ?_
      have hk := hR _ (ok_s hk)
      exact zri X hr hlk w dX8_melt_70 (pr1 hk) (pr2 hk)
set_option maxHeartbeats 4000000 in
set_option maxRecDepth 100000 in
theorem wj_X8_melt_36 {p : Program} {l : Launch} {e : Env} {s : State} {m : MethodId} {args : Array Value} {below : List Frame} {meth : Method} {c : Code} {D : va_G} {cy : Cyy} {A : Nat → Prop} {G : Gg} (X : Cx p m c cX8_melt 5 s args wz_X8_melt RX8 D cy) (M0 M : Mm) (Qo : Int32 × Mm → Prop) (hr : meth.sig.returnType = (some .int)) (hlk : meth.locks = false) {x0 : Int32 × Mm} (hR : ∀ x, Qo x → x = x0)  (r0 : Nat) (i2 : Int32) (k0 : Int32) (H : Heap) (locs : List Loc) (ls : Array Slot) (w : Wo s D cy A G M H locs) (hl : lv_has ls 5 [(0, .ref r0), (2, .int i2), (3, .null)]) (hk : OK (jn_X8_melt_36 G M  r0 i2 k0) Qo) : W p l e rm_X8_melt s m args below meth c H locs 0 0 (MQ below (QI D cy G A x0.1 x0.2) args s 0 0 A) (F0 m 36 ls [.int k0]) := by
    have hx := X.1.1
    have hb := X.1.2.1
    unfold jn_X8_melt_36 at hk
    refine lv_istore (lv' := [(4, .int k0), (0, .ref r0), (2, .int i2), (3, .null)]) hx hb dX8_melt_36 hl (by decide) rfl (fun ls hl => ?_)
    refine lv_iload hx hb dX8_melt_38 (lv_at hl 0 rfl) ?_
    refine lv_if_eq (tgt := 55) hx hb dX8_melt_40 (by decide) (fun c5 => ?_) (fun c5 => ?_)
    · have hk := ok_p c5 hk
      exact wj_X8_melt_55 X M M _ hr hlk hR r0 i2 k0 _ _ _ w (lv_sub hl [1, 2, 3, 0] rfl) hk
    · have hk := ok_n c5 hk
      refine lv_aload_n hx hb dX8_melt_43 rfl (lv_at hl 1 rfl) ?_
      obtain ⟨c17, hk⟩ := ok_c hk
      obtain ⟨r18, e19, hk⟩ := ok_b hk
      refine zgr X w 8 5 38 (C := RX8) (T := TX8) (N := 10) rfl ui_X8 (by decide) rfl (tb wf_X8_38) dX8_melt_44 c17 e19 ?_
      refine lv_aload_nN hx hb dX8_melt_47 rfl (lv_at hl 3 rfl) ?_
      refine lv_aload_n hx hb dX8_melt_48 rfl (lv_at hl 1 rfl) ?_
      obtain ⟨r20, e21, hk⟩ := ok_b hk
      refine zgr X w 8 0 10 (C := RX8) (T := TX8) (N := 10) rfl ui_X8 (by decide) rfl (tb wf_X8_10) dX8_melt_49 c17 e21 ?_
      exact ok_0 hk
set_option maxHeartbeats 4000000 in
set_option maxRecDepth 100000 in
theorem wj_X8_melt_35 {p : Program} {l : Launch} {e : Env} {s : State} {m : MethodId} {args : Array Value} {below : List Frame} {meth : Method} {c : Code} {D : va_G} {cy : Cyy} {A : Nat → Prop} {G : Gg} (X : Cx p m c cX8_melt 5 s args wz_X8_melt RX8 D cy) (M0 M : Mm) (Qo : Int32 × Mm → Prop) (hr : meth.sig.returnType = (some .int)) (hlk : meth.locks = false) {x0 : Int32 × Mm} (hR : ∀ x, Qo x → x = x0)  (r0 : Nat) (i2 : Int32)  (H : Heap) (locs : List Loc) (ls : Array Slot) (w : Wo s D cy A G M H locs) (hl : lv_has ls 5 [(0, .ref r0), (2, .int i2), (3, .null)]) (hk : OK (jn_X8_melt_35 G M  r0 i2) Qo) : W p l e rm_X8_melt s m args below meth c H locs 0 0 (MQ below (QI D cy G A x0.1 x0.2) args s 0 0 A) (F0 m 35 ls []) := by
    have hx := X.1.1
    have hb := X.1.2.1
    unfold jn_X8_melt_35 at hk
    refine lv_iconst (v := 0) hx hb dX8_melt_35 (by decide) ?_
    exact wj_X8_melt_36 X M M _ hr hlk hR r0 i2 (0 : Int32) _ _ _ w (lv_sub hl [0, 1, 2] rfl) hk
set_option maxHeartbeats 4000000 in
set_option maxRecDepth 100000 in
theorem wj_X8_melt_55v28 {p : Program} {l : Launch} {e : Env} {s : State} {m : MethodId} {args : Array Value} {below : List Frame} {meth : Method} {c : Code} {D : va_G} {cy : Cyy} {A : Nat → Prop} {G : Gg} (X : Cx p m c cX8_melt 5 s args wz_X8_melt RX8 D cy) (M0 M : Mm) (Qo : Int32 × Mm → Prop) (hr : meth.sig.returnType = (some .int)) (hlk : meth.locks = false) {x0 : Int32 × Mm} (hR : ∀ x, Qo x → x = x0)  (r0 : Nat) (i2 : Int32) (r3 : Nat) (i4 : Int32)  (H : Heap) (locs : List Loc) (ls : Array Slot) (w : Wo s D cy A G M H locs) (hl : lv_has ls 5 [(0, .ref r0), (2, .int i2), (3, .ref r3), (4, .int i4)]) (hk : OK (jn_X8_melt_55v28 G M  r0 i2 r3 i4) Qo) : W p l e rm_X8_melt s m args below meth c H locs 0 0 (MQ below (QI D cy G A x0.1 x0.2) args s 0 0 A) (F0 m 55 ls []) := by
    have hx := X.1.1
    have hb := X.1.2.1
    unfold jn_X8_melt_55v28 at hk
    refine lv_aload_n hx hb dX8_melt_55 rfl (lv_at hl 0 rfl) ?_
    obtain ⟨c29, hk⟩ := ok_c hk
    obtain ⟨r30, e31, hk⟩ := ok_b hk
    refine zgr X w 8 0 10 (C := RX8) (T := TX8) (N := 10) rfl ui_X8 (by decide) rfl (tb wf_X8_10) dX8_melt_56 c29 e31 ?_
    refine lv_iconst (v := 0) hx hb dX8_melt_59 (by decide) ?_
    obtain ⟨c34, hk⟩ := ok_c hk
    obtain ⟨q32, e33, hk⟩ := ok_b hk
    refine zVi X w (n := 1) (As := [.int (0 : Int32)]) (rest := []) (ci := 6) (C := RX6) (T := TX6) (N := 2) (c_X6_shorten l D cy G M r30 (0 : Int32) e33) (gzV wm_X8_81 wi_X6_shorten ws_X6_shorten wn_X6 wc_X6_shorten) rfl rfl rfl (by decide +kernel) (by decide) rfl c34 rfl rfl hl.1 (Nat.le_of_ble_eq_true rfl) dX8_melt_60 ⟨Nat.zero_le _, Nat.zero_le _⟩ (fun H locs w => ?_)
    refine lv_pop hx hb dX8_melt_63 rfl ?_
    refine lv_iload hx hb dX8_melt_64 (lv_at hl 3 rfl) ?_
    refine lv_if_ne (tgt := 71) hx hb dX8_melt_66 (by decide) (fun c35 => ?_) (fun c35 => ?_)
    · have hk := ok_n c35 hk
      refine lv_aload_n hx hb dX8_melt_71 rfl (lv_at hl 0 rfl) ?_
      obtain ⟨r36, e37, hk⟩ := ok_b hk
      refine zgr X w 8 4 31 (C := RX8) (T := TX8) (N := 10) rfl ui_X8 (by decide) rfl (tb wf_X8_31) dX8_melt_72 c29 e37 ?_
      refine lv_aload_n hx hb dX8_melt_75 rfl (lv_at hl 2 rfl) ?_
      refine lv_aload_n hx hb dX8_melt_76 rfl (lv_at hl 0 rfl) ?_
      obtain ⟨r38, e39, hk⟩ := ok_b hk
      refine zgr X w 8 5 38 (C := RX8) (T := TX8) (N := 10) rfl ui_X8 (by decide) rfl (tb wf_X8_38) dX8_melt_77 c29 e39 ?_
      obtain ⟨c42, hk⟩ := ok_c hk
      obtain ⟨q40, e41, hk⟩ := ok_b hk
      refine zVv X w (n := 2) (As := [.ref r3, .ref r38]) (rest := []) (ci := 0) (C := RX0) (T := TX0) (N := 7) (c_X0_makeMeltedOf l D cy G q32.2 r36 r3 r38 e41) (gzV wm_X8_118 wi_X0_makeMeltedOf ws_X0_makeMeltedOf wn_X0 wc_X0_makeMeltedOf) rfl rfl rfl (by decide +kernel) (by decide) rfl c42 rfl rfl hl.1 (Nat.le_of_ble_eq_true rfl) dX8_melt_80 ⟨Nat.zero_le _, Nat.zero_le _⟩ (fun H locs w => ?_)
      refine lv_aload_n hx hb dX8_melt_83 rfl (lv_at hl 0 rfl) ?_
      refine lv_iload_n hx hb dX8_melt_84 rfl (lv_at hl 1 rfl) ?_
      obtain ⟨q43, e44, hk⟩ := ok_b hk
      refine zVi X w (n := 1) (As := [.int i2]) (rest := []) (ci := 8) (C := RX8) (T := TX8) (N := 10) (c_X8_place l D cy G q40 r0 i2 e44) (gzV wm_X8_91 wi_X8_place ws_X8_place wn_X8 wc_X8_place) rfl rfl rfl (by decide +kernel) (by decide) rfl c29 rfl rfl hl.1 (Nat.le_of_ble_eq_true rfl) dX8_melt_85 ⟨Nat.zero_le _, Nat.zero_le _⟩ (fun H locs w => ?_)
      refine lv_iconst (v := (-1)) hx hb dX8_melt_88 (by decide) ?_
      refine lv_icmp_ne (tgt := 94) hx hb dX8_melt_89 (by decide) (fun c45 => ?_) (fun c45 => ?_)
      · have hk := ok_n c45 hk
        refine lv_aload_n hx hb dX8_melt_94 rfl (lv_at hl 0 rfl) ?_
        refine lv_aload_n hx hb dX8_melt_95 rfl (lv_at hl 0 rfl) ?_
        obtain ⟨r46, e47, hk⟩ := ok_b hk
        refine zgr X w 8 5 38 (C := RX8) (T := TX8) (N := 10) rfl ui_X8 (by decide) rfl (tb wf_X8_38) dX8_melt_96 c29 e47 ?_
        refine lv_aload_n hx hb dX8_melt_99 rfl (lv_at hl 0 rfl) ?_
        obtain ⟨r48, e49, hk⟩ := ok_b hk
        refine zgr X w 8 1 16 (C := RX8) (T := TX8) (N := 10) rfl ui_X8 (by decide) rfl (tb wf_X8_16) dX8_melt_100 c29 e49 ?_
        obtain ⟨c52, hk⟩ := ok_c hk
        obtain ⟨q50, e51, hk⟩ := ok_b hk
        refine zVi X w (n := 1) (As := [.ref r48]) (rest := [.ref r0]) (ci := 5) (C := RX5) (T := TX5) (N := 4) (c_X5_tellTo l D cy G q43.2 r46 r48 e51) (gzV wm_X8_122 wi_X5_tellTo ws_X5_tellTo wn_X5 wc_X5_tellTo) rfl rfl rfl (by decide +kernel) (by decide) rfl c52 rfl rfl hl.1 (Nat.le_of_ble_eq_true rfl) dX8_melt_103 ⟨Nat.zero_le _, Nat.zero_le _⟩ (fun H locs w => ?_)
        refine zpi X w 8 2 20 tyX8 (C := RX8) (T := TX8) (N := 10) rfl ui_X8 tyX8_ok nmX8 (by decide) rfl (tb wf_X8_20) rfl rfl dX8_melt_106 c29 (fun H locs w => ?_)
        refine lv_aload_n hx hb dX8_melt_109 rfl (lv_at hl 0 rfl) ?_
        obtain ⟨r53, e54, hk⟩ := ok_b hk
        refine zgr X w 8 5 38 (C := RX8) (T := TX8) (N := 10) rfl ui_X8 (by decide) rfl (tb wf_X8_38) dX8_melt_110 c29 e54 ?_
        obtain ⟨c55, hk⟩ := ok_c hk
        refine zgNi X w 5 3 126 "BlendBench" (C := RX5) (T := TX5) (N := 4) rfl ui_X5 (by decide) rfl (by decide +kernel) dX8_melt_113 c55 ?_
        have hk := hR _ (ok_s hk)
        exact zri X hr hlk w dX8_melt_116 (pr1 hk) (pr2 hk)
      · have hk := ok_p c45 hk
        refine lv_iconst (v := (-1)) hx hb dX8_melt_92 (by decide) ?_
        have hk := hR _ (ok_s hk)
        exact zri X hr hlk w dX8_melt_93 (pr1 hk) (pr2 hk)
    · have hk := ok_p c35 hk
      refine lv_iconst (v := (-1)) hx hb dX8_melt_69 (by decide) ?_
      have hk := hR _ (ok_s hk)
      exact zri X hr hlk w dX8_melt_70 (pr1 hk) (pr2 hk)
set_option maxHeartbeats 4000000 in
set_option maxRecDepth 100000 in
theorem wj_X8_melt_36v26 {p : Program} {l : Launch} {e : Env} {s : State} {m : MethodId} {args : Array Value} {below : List Frame} {meth : Method} {c : Code} {D : va_G} {cy : Cyy} {A : Nat → Prop} {G : Gg} (X : Cx p m c cX8_melt 5 s args wz_X8_melt RX8 D cy) (M0 M : Mm) (Qo : Int32 × Mm → Prop) (hr : meth.sig.returnType = (some .int)) (hlk : meth.locks = false) {x0 : Int32 × Mm} (hR : ∀ x, Qo x → x = x0)  (r0 : Nat) (i2 : Int32) (r3 : Nat) (k0 : Int32) (H : Heap) (locs : List Loc) (ls : Array Slot) (w : Wo s D cy A G M H locs) (hl : lv_has ls 5 [(0, .ref r0), (2, .int i2), (3, .ref r3)]) (hk : OK (jn_X8_melt_36v26 G M  r0 i2 r3 k0) Qo) : W p l e rm_X8_melt s m args below meth c H locs 0 0 (MQ below (QI D cy G A x0.1 x0.2) args s 0 0 A) (F0 m 36 ls [.int k0]) := by
    have hx := X.1.1
    have hb := X.1.2.1
    unfold jn_X8_melt_36v26 at hk
    refine lv_istore (lv' := [(4, .int k0), (0, .ref r0), (2, .int i2), (3, .ref r3)]) hx hb dX8_melt_36 hl (by decide) rfl (fun ls hl => ?_)
    refine lv_iload hx hb dX8_melt_38 (lv_at hl 0 rfl) ?_
    refine lv_if_eq (tgt := 55) hx hb dX8_melt_40 (by decide) (fun c27 => ?_) (fun c27 => ?_)
    · have hk := ok_p c27 hk
      exact wj_X8_melt_55v28 X M M _ hr hlk hR r0 i2 r3 k0 _ _ _ w (lv_sub hl [1, 2, 3, 0] rfl) hk
    · have hk := ok_n c27 hk
      refine lv_aload_n hx hb dX8_melt_43 rfl (lv_at hl 1 rfl) ?_
      obtain ⟨c56, hk⟩ := ok_c hk
      obtain ⟨r57, e58, hk⟩ := ok_b hk
      refine zgr X w 8 5 38 (C := RX8) (T := TX8) (N := 10) rfl ui_X8 (by decide) rfl (tb wf_X8_38) dX8_melt_44 c56 e58 ?_
      refine lv_aload_n hx hb dX8_melt_47 rfl (lv_at hl 3 rfl) ?_
      refine lv_aload_n hx hb dX8_melt_48 rfl (lv_at hl 1 rfl) ?_
      obtain ⟨r59, e60, hk⟩ := ok_b hk
      refine zgr X w 8 0 10 (C := RX8) (T := TX8) (N := 10) rfl ui_X8 (by decide) rfl (tb wf_X8_10) dX8_melt_49 c56 e60 ?_
      obtain ⟨c63, hk⟩ := ok_c hk
      obtain ⟨q61, e62, hk⟩ := ok_b hk
      refine zVv X w (n := 2) (As := [.ref r3, .ref r59]) (rest := []) (ci := 5) (C := RX5) (T := TX5) (N := 4) (c_X5_split l D cy G M r57 r3 r59 e62) (gzV wm_X8_114 wi_X5_split ws_X5_split wn_X5 wc_X5_split) rfl rfl rfl (by decide +kernel) (by decide) rfl c63 rfl rfl hl.1 (Nat.le_of_ble_eq_true rfl) dX8_melt_52 ⟨Nat.zero_le _, Nat.zero_le _⟩ (fun H locs w => ?_)
      exact wj_X8_melt_55v28 X M q61 _ hr hlk hR r0 i2 r3 k0 _ _ _ w (lv_sub hl [1, 2, 3, 0] rfl) hk
set_option maxHeartbeats 4000000 in
set_option maxRecDepth 100000 in
theorem wj_X8_melt_35v25 {p : Program} {l : Launch} {e : Env} {s : State} {m : MethodId} {args : Array Value} {below : List Frame} {meth : Method} {c : Code} {D : va_G} {cy : Cyy} {A : Nat → Prop} {G : Gg} (X : Cx p m c cX8_melt 5 s args wz_X8_melt RX8 D cy) (M0 M : Mm) (Qo : Int32 × Mm → Prop) (hr : meth.sig.returnType = (some .int)) (hlk : meth.locks = false) {x0 : Int32 × Mm} (hR : ∀ x, Qo x → x = x0)  (r0 : Nat) (i2 : Int32) (r3 : Nat)  (H : Heap) (locs : List Loc) (ls : Array Slot) (w : Wo s D cy A G M H locs) (hl : lv_has ls 5 [(0, .ref r0), (2, .int i2), (3, .ref r3)]) (hk : OK (jn_X8_melt_35v25 G M  r0 i2 r3) Qo) : W p l e rm_X8_melt s m args below meth c H locs 0 0 (MQ below (QI D cy G A x0.1 x0.2) args s 0 0 A) (F0 m 35 ls []) := by
    have hx := X.1.1
    have hb := X.1.2.1
    unfold jn_X8_melt_35v25 at hk
    refine lv_iconst (v := 0) hx hb dX8_melt_35 (by decide) ?_
    exact wj_X8_melt_36v26 X M M _ hr hlk hR r0 i2 r3 (0 : Int32) _ _ _ w (lv_sub hl [0, 1, 2] rfl) hk
set_option maxHeartbeats 4000000 in
set_option maxRecDepth 100000 in
theorem c_X8_melt (l : Launch) (D : va_G) (cy : Cyy) (G : Gg) (M : Mm) (r0 : Nat) (i1 : Int32) (i2 : Int32) {q : Int32 × Mm} (hm : f_X8_melt G M r0 i1 i2 = some q) : CI l yX8_melt wz_X8_melt rm_X8_melt D cy G M [.ref r0, .int i1, .int i2] q.1 q.2 := by
  refine Met_of (Qf := fun A => QI D cy G A q.1 q.2) (cc := cX8_melt) (nL := 5) (ret := (some .int)) (own := RX8) (lv := [(0, .ref r0), (1, .int i1), (2, .int i2)]) (by decide) rfl rfl (Nat.le_of_ble_eq_true rfl) rfl ?_
  intro p e s m args below meth c A ls X hr hlk w hl
  have hx := X.1.1
  have hb := X.1.2.1
  obtain ⟨Qo, hR, hk⟩ : ∃ Qo : Int32 × Mm → Prop, (∀ x, Qo x → x = q) ∧ OK (f_X8_melt G M r0 i1 i2) Qo := ⟨fun x => x = q, fun _ h => h, q, hm, rfl⟩
  unfold f_X8_melt at hk
  refine lv_aload_n hx hb dX8_melt_0 rfl (lv_at hl 0 rfl) ?_
  refine lv_iload_n hx hb dX8_melt_1 rfl (lv_at hl 1 rfl) ?_
  obtain ⟨c3, hk⟩ := ok_c hk
  obtain ⟨q1, e2, hk⟩ := ok_b hk
  refine zVp X w (n := 1) (As := [.int i1]) (rest := []) (ci := 8) (C := RX8) (T := TX8) (N := 10) (c_X8_chainIn l D cy G M r0 i1 e2) (gzV wm_X8_95 wi_X8_chainIn ws_X8_chainIn wn_X8 wc_X8_chainIn) rfl rfl rfl (by decide +kernel) (by decide) rfl c3 rfl rfl hl.1 (Nat.le_of_ble_eq_true rfl) dX8_melt_2 ⟨Nat.zero_le _, Nat.zero_le _⟩ (fun H locs w => ?_)
  rcases q1 with _ | r4
  · have hk := ok_e0 hk
    refine lv_astore_nN (lv' := [(3, .null), (0, .ref r0), (1, .int i1), (2, .int i2)]) hx hb dX8_melt_5 rfl hl (by decide) rfl (fun ls hl => ?_)
    refine lv_aload_nN hx hb dX8_melt_6 rfl (lv_at hl 0 rfl) ?_
    refine lv_ifnullN (tgt := 35) hx hb dX8_melt_7 (by decide) ?_
    exact wj_X8_melt_35 X M M _ hr hlk hR r0 i2 _ _ _ w (lv_sub hl [1, 3, 0] rfl) hk
  · have hk := ok_e1 hk
    refine lv_astore_n (lv' := [(3, .ref r4), (0, .ref r0), (1, .int i1), (2, .int i2)]) hx hb dX8_melt_5 rfl hl (by decide) rfl (fun ls hl => ?_)
    refine lv_aload_n hx hb dX8_melt_6 rfl (lv_at hl 0 rfl) ?_
    refine lv_ifnull hx hb dX8_melt_7 ?_
    refine lv_iload_n hx hb dX8_melt_10 rfl (lv_at hl 3 rfl) ?_
    obtain ⟨q22, e23, hk⟩ := ok_b hk
    refine zSi X w (n := 1) (As := [.int i2]) (rest := []) (c_X8_isSlot l D cy G M i2 e23) (gzS wm_X8_84 wt_X8_isSlot wn_X8 wc_X8_isSlot) rfl rfl rfl (by decide +kernel) (by decide) rfl rfl hl.1 (Nat.le_of_ble_eq_true rfl) dX8_melt_11 ⟨Nat.zero_le _, Nat.zero_le _⟩ (fun H locs w => ?_)
    refine lv_if_eq (tgt := 35) hx hb dX8_melt_14 (by decide) (fun c24 => ?_) (fun c24 => ?_)
    · have hk := ok_p c24 hk
      exact wj_X8_melt_35v25 X M M _ hr hlk hR r0 i2 r4 _ _ _ w (lv_sub hl [1, 3, 0] rfl) hk
    · have hk := ok_n c24 hk
      refine lv_aload_n hx hb dX8_melt_17 rfl (lv_at hl 1 rfl) ?_
      obtain ⟨r64, e65, hk⟩ := ok_b hk
      refine zgr X w 8 0 10 (C := RX8) (T := TX8) (N := 10) rfl ui_X8 (by decide) rfl (tb wf_X8_10) dX8_melt_18 c3 e65 ?_
      obtain ⟨c66, hk⟩ := ok_c hk
      refine zgNi X w 6 1 78 "BlendBench" (C := RX6) (T := TX6) (N := 2) rfl ui_X6 (by decide) rfl (by decide +kernel) dX8_melt_21 c66 ?_
      refine lv_aload_n hx hb dX8_melt_24 rfl (lv_at hl 0 rfl) ?_
      obtain ⟨c67, hk⟩ := ok_c hk
      refine zgNi X w 0 0 111 "BlendBench" (C := RX0) (T := TX0) (N := 7) rfl ui_X0 (by decide) rfl (by decide +kernel) dX8_melt_25 c67 ?_
      refine lv_icmp_ne (tgt := 35) hx hb dX8_melt_28 (by decide) (fun c68 => ?_) (fun c68 => ?_)
      · have hk := ok_n c68 hk
        exact wj_X8_melt_35v25 X M M _ hr hlk hR r0 i2 r4 _ _ _ w (lv_sub hl [1, 3, 0] rfl) hk
      · have hk := ok_p c68 hk
        refine lv_iconst (v := 1) hx hb dX8_melt_31 (by decide) ?_
        refine lv_goto (tgt := 36) hx hb dX8_melt_32 (by decide) ?_
        exact wj_X8_melt_36v26 X M M _ hr hlk hR r0 i2 r4 (1 : Int32) _ _ _ w (lv_sub hl [1, 3, 0] rfl) hk
abbrev rm_X8_octet : Room := { frames := 6, cells := 0, slots := 0, locals := 81 }
abbrev rx_X8_octet : Room := { frames := 6, cells := 1, slots := 6, locals := 81 }
set_option maxHeartbeats 4000000 in
set_option maxRecDepth 100000 in
theorem c_X8_octet (l : Launch) (D : va_G) (cy : Cyy) (G : Gg) (M : Mm) (r0 : Nat) (i1 : Int32) {q : Option Int32} (hm : f_X8_octet G M r0 i1 = some q) {r : Int32} (hq : q = some r) : CI l yX8_octet wz_X8_octet rm_X8_octet D cy G M [.ref r0, .int i1] r M := by
  refine Met_of (Qf := fun A => QI D cy G A r M) (cc := cX8_octet) (nL := 2) (ret := (some .int)) (own := RX8) (lv := [(0, .ref r0), (1, .int i1)]) (by decide) rfl rfl (Nat.le_of_ble_eq_true rfl) rfl ?_
  intro p e s m args below meth c A ls X hr hlk w hl
  have hx := X.1.1
  have hb := X.1.2.1
  obtain ⟨Qo, hR, hk⟩ : ∃ Qo : Option Int32 → Prop, (∀ x, Qo x → x = q) ∧ OK (f_X8_octet G M r0 i1) Qo := ⟨fun x => x = q, fun _ h => h, q, hm, rfl⟩
  unfold f_X8_octet at hk
  refine lv_iload_n hx hb dX8_octet_0 rfl (lv_at hl 1 rfl) ?_
  refine lv_if_lt (tgt := 18) hx hb dX8_octet_1 (by decide) (fun c1 => ?_) (fun c1 => ?_)
  · have hk := ok_p c1 hk
    have hk := hR _ (ok_s hk)
    exact absurd (hk.trans hq) (fun h => by cases h)
  · have hk := ok_n c1 hk
    refine lv_iload_n hx hb dX8_octet_4 rfl (lv_at hl 1 rfl) ?_
    refine lv_aload_n hx hb dX8_octet_5 rfl (lv_at hl 0 rfl) ?_
    obtain ⟨c2, hk⟩ := ok_c hk
    refine zgi X w 8 2 20 (C := RX8) (T := TX8) (N := 10) rfl ui_X8 (by decide) rfl (tb wf_X8_20) dX8_octet_6 c2 ?_
    refine lv_icmp_ge (tgt := 18) hx hb dX8_octet_9 (by decide) (fun c3 => ?_) (fun c3 => ?_)
    · have hk := ok_p c3 hk
      have hk := hR _ (ok_s hk)
      exact absurd (hk.trans hq) (fun h => by cases h)
    · have hk := ok_n c3 hk
      refine lv_iload_n hx hb dX8_octet_12 rfl (lv_at hl 1 rfl) ?_
      refine lv_bipush (v := 8) hx hb dX8_octet_13 (by decide) ?_
      refine lv_icmp_lt (tgt := 26) hx hb dX8_octet_15 (by decide) (fun c4 => ?_) (fun c4 => ?_)
      · have hk := ok_p c4 hk
        refine lv_aload_n hx hb dX8_octet_26 rfl (lv_at hl 0 rfl) ?_
        obtain ⟨r5, e6, hk⟩ := ok_b hk
        refine zgr X w 8 1 16 (C := RX8) (T := TX8) (N := 10) rfl ui_X8 (by decide) rfl (tb wf_X8_16) dX8_octet_27 c2 e6 ?_
        refine lv_iload_n hx hb dX8_octet_30 rfl (lv_at hl 1 rfl) ?_
        obtain ⟨c7, hk⟩ := ok_c hk
        obtain ⟨c8, hk⟩ := ok_c hk
        refine zai X w dX8_octet_31 c7 c8 ?_
        have hk := hR _ (ok_s hk)
        exact zri X hr hlk w dX8_octet_32 (Option.some.inj (hk.trans hq)) rfl
      · have hk := ok_n c4 hk
        have hk := hR _ (ok_s hk)
        exact absurd (hk.trans hq) (fun h => by cases h)
set_option maxHeartbeats 4000000 in
set_option maxRecDepth 100000 in
theorem x_X8_octet (l : Launch) (hst : l.stackTraces = false) (D : va_G) (cy : Cyy) (G : Gg) (M : Mm) (r0 : Nat) (i1 : Int32) {q : Option Int32} (hm : f_X8_octet G M r0 i1 = some q) (hq : q = none) : XT l yX8_octet wz_X8_octet rx_X8_octet D cy G M [.ref r0, .int i1] M := by
  refine XT_of (cc := cX8_octet) (nL := 2) (ret := (some .int)) (own := RX8) (lv := [(0, .ref r0), (1, .int i1)]) (by decide) rfl rfl (Nat.le_of_ble_eq_true rfl) rfl ?_
  intro p e s m args below meth c A ls X hr hlk hz ht w hl
  have hx := X.1.1
  have hb := X.1.2.1
  obtain ⟨Qo, hR, hk⟩ : ∃ Qo : Option Int32 → Prop, (∀ x, Qo x → x = q) ∧ OK (f_X8_octet G M r0 i1) Qo := ⟨fun x => x = q, fun _ h => h, q, hm, rfl⟩
  unfold f_X8_octet at hk
  refine lv_iload_n hx hb dX8_octet_0 rfl (lv_at hl 1 rfl) ?_
  refine lv_if_lt (tgt := 18) hx hb dX8_octet_1 (by decide) (fun c1 => ?_) (fun c1 => ?_)
  · have hk := ok_p c1 hk
    have hk := hR _ (ok_s hk)
    exact zthrow X hlk hz hst ht w hl.1 dX8_octet_18 dX8_octet_21 dX8_octet_22 dX8_octet_25 (by decide) (Nat.le_of_ble_eq_true rfl) (by decide) (by decide) rfl
  · have hk := ok_n c1 hk
    refine lv_iload_n hx hb dX8_octet_4 rfl (lv_at hl 1 rfl) ?_
    refine lv_aload_n hx hb dX8_octet_5 rfl (lv_at hl 0 rfl) ?_
    obtain ⟨c2, hk⟩ := ok_c hk
    refine zgi X w 8 2 20 (C := RX8) (T := TX8) (N := 10) rfl ui_X8 (by decide) rfl (tb wf_X8_20) dX8_octet_6 c2 ?_
    refine lv_icmp_ge (tgt := 18) hx hb dX8_octet_9 (by decide) (fun c3 => ?_) (fun c3 => ?_)
    · have hk := ok_p c3 hk
      have hk := hR _ (ok_s hk)
      exact zthrow X hlk hz hst ht w hl.1 dX8_octet_18 dX8_octet_21 dX8_octet_22 dX8_octet_25 (by decide) (Nat.le_of_ble_eq_true rfl) (by decide) (by decide) rfl
    · have hk := ok_n c3 hk
      refine lv_iload_n hx hb dX8_octet_12 rfl (lv_at hl 1 rfl) ?_
      refine lv_bipush (v := 8) hx hb dX8_octet_13 (by decide) ?_
      refine lv_icmp_lt (tgt := 26) hx hb dX8_octet_15 (by decide) (fun c4 => ?_) (fun c4 => ?_)
      · have hk := ok_p c4 hk
        refine lv_aload_n hx hb dX8_octet_26 rfl (lv_at hl 0 rfl) ?_
        obtain ⟨r5, e6, hk⟩ := ok_b hk
        refine zgr X w 8 1 16 (C := RX8) (T := TX8) (N := 10) rfl ui_X8 (by decide) rfl (tb wf_X8_16) dX8_octet_27 c2 e6 ?_
        refine lv_iload_n hx hb dX8_octet_30 rfl (lv_at hl 1 rfl) ?_
        obtain ⟨c7, hk⟩ := ok_c hk
        obtain ⟨c8, hk⟩ := ok_c hk
        refine zai X w dX8_octet_31 c7 c8 ?_
        have hk := hR _ (ok_s hk)
        exact absurd (hk.trans hq) (fun h => by cases h)
      · have hk := ok_n c4 hk
        have hk := hR _ (ok_s hk)
        exact zthrow X hlk hz hst ht w hl.1 dX8_octet_18 dX8_octet_21 dX8_octet_22 dX8_octet_25 (by decide) (Nat.le_of_ble_eq_true rfl) (by decide) (by decide) rfl
abbrev rm_X8_about : Room := { frames := 6, cells := 0, slots := 0, locals := 130 }
set_option maxHeartbeats 4000000 in
set_option maxRecDepth 100000 in
theorem c_X8_about (l : Launch) (D : va_G) (cy : Cyy) (G : Gg) (M : Mm) (r0 : Nat) (i1 : Int32) (i2 : Int32) {q : Int32} (hm : f_X8_about G M r0 i1 i2 = some q) : CI l yX8_about wz_X8_about rm_X8_about D cy G M [.ref r0, .int i1, .int i2] q M := by
  refine Met_of (Qf := fun A => QI D cy G A q M) (cc := cX8_about) (nL := 4) (ret := (some .int)) (own := RX8) (lv := [(0, .ref r0), (1, .int i1), (2, .int i2)]) (by decide) rfl rfl (Nat.le_of_ble_eq_true rfl) rfl ?_
  intro p e s m args below meth c A ls X hr hlk w hl
  have hx := X.1.1
  have hb := X.1.2.1
  obtain ⟨Qo, hR, hk⟩ : ∃ Qo : Int32 → Prop, (∀ x, Qo x → x = q) ∧ OK (f_X8_about G M r0 i1 i2) Qo := ⟨fun x => x = q, fun _ h => h, q, hm, rfl⟩
  unfold f_X8_about at hk
  refine lv_aload_n hx hb dX8_about_0 rfl (lv_at hl 0 rfl) ?_
  refine lv_iload_n hx hb dX8_about_1 rfl (lv_at hl 1 rfl) ?_
  obtain ⟨c3, hk⟩ := ok_c hk
  obtain ⟨q1, e2, hk⟩ := ok_b hk
  refine zVp X w (n := 1) (As := [.int i1]) (rest := []) (ci := 8) (C := RX8) (T := TX8) (N := 10) (c_X8_chainIn l D cy G M r0 i1 e2) (gzV wm_X8_95 wi_X8_chainIn ws_X8_chainIn wn_X8 wc_X8_chainIn) rfl rfl rfl (by decide +kernel) (by decide) rfl c3 rfl rfl hl.1 (Nat.le_of_ble_eq_true rfl) dX8_about_2 ⟨Nat.zero_le _, Nat.zero_le _⟩ (fun H locs w => ?_)
  rcases q1 with _ | r4
  · have hk := ok_e0 hk
    refine lv_astore_nN (lv' := [(3, .null), (0, .ref r0), (1, .int i1), (2, .int i2)]) hx hb dX8_about_5 rfl hl (by decide) rfl (fun ls hl => ?_)
    refine lv_aload_nN hx hb dX8_about_6 rfl (lv_at hl 0 rfl) ?_
    refine lv_ifnonnullN hx hb dX8_about_7 ?_
    refine lv_iconst (v := (-1)) hx hb dX8_about_10 (by decide) ?_
    have hk := hR _ (ok_s hk)
    exact zri X hr hlk w dX8_about_11 hk rfl
  · have hk := ok_e1 hk
    refine lv_astore_n (lv' := [(3, .ref r4), (0, .ref r0), (1, .int i1), (2, .int i2)]) hx hb dX8_about_5 rfl hl (by decide) rfl (fun ls hl => ?_)
    refine lv_aload_n hx hb dX8_about_6 rfl (lv_at hl 0 rfl) ?_
    refine lv_ifnonnull (tgt := 12) hx hb dX8_about_7 (by decide) ?_
    refine lv_iload_n hx hb dX8_about_12 rfl (lv_at hl 3 rfl) ?_
    by_cases s5 : i2 = 0
    · have hk := ok_p s5 hk
      refine lv_tableIn (off := 43) (tgt := 56) hx hb dX8_about_13 (by rw [s5]; decide) (by rw [s5]; decide) (by rw [s5]; rfl) (by decide) ?_
      refine lv_aload_n hx hb dX8_about_56 rfl (lv_at hl 0 rfl) ?_
      obtain ⟨c6, hk⟩ := ok_c hk
      refine zgNi X w 0 0 111 "BlendBench" (C := RX0) (T := TX0) (N := 7) rfl ui_X0 (by decide) rfl (by decide +kernel) dX8_about_57 c6 ?_
      have hk := hR _ (ok_s hk)
      exact zri X hr hlk w dX8_about_60 hk rfl
    · have hk := ok_n s5 hk
      by_cases s7 : i2 = 1
      · have hk := ok_p s7 hk
        refine lv_tableIn (off := 48) (tgt := 61) hx hb dX8_about_13 (by rw [s7]; decide) (by rw [s7]; decide) (by rw [s7]; rfl) (by decide) ?_
        refine lv_aload_n hx hb dX8_about_61 rfl (lv_at hl 0 rfl) ?_
        obtain ⟨c8, hk⟩ := ok_c hk
        refine zgNi X w 0 1 132 "BlendBench" (C := RX0) (T := TX0) (N := 7) rfl ui_X0 (by decide) rfl (by decide +kernel) dX8_about_62 c8 ?_
        have hk := hR _ (ok_s hk)
        exact zri X hr hlk w dX8_about_65 hk rfl
      · have hk := ok_n s7 hk
        by_cases s9 : i2 = 2
        · have hk := ok_p s9 hk
          refine lv_tableIn (off := 53) (tgt := 66) hx hb dX8_about_13 (by rw [s9]; decide) (by rw [s9]; decide) (by rw [s9]; rfl) (by decide) ?_
          refine lv_aload_n hx hb dX8_about_66 rfl (lv_at hl 0 rfl) ?_
          obtain ⟨c12, hk⟩ := ok_c hk
          obtain ⟨q10, e11, hk⟩ := ok_b hk
          refine zVi X w (n := 0) (As := []) (rest := []) (ci := 0) (C := RX0) (T := TX0) (N := 7) (c_X0_heaps l D cy G M r4 e11) (gzV wm_X8_135 wi_X0_heaps ws_X0_heaps wn_X0 wc_X0_heaps) rfl rfl rfl (by decide +kernel) (by decide) rfl c12 rfl rfl hl.1 (Nat.le_of_ble_eq_true rfl) dX8_about_67 ⟨Nat.zero_le _, Nat.zero_le _⟩ (fun H locs w => ?_)
          have hk := hR _ (ok_s hk)
          exact zri X hr hlk w dX8_about_70 hk rfl
        · have hk := ok_n s9 hk
          by_cases s13 : i2 = 3
          · have hk := ok_p s13 hk
            refine lv_tableIn (off := 58) (tgt := 71) hx hb dX8_about_13 (by rw [s13]; decide) (by rw [s13]; decide) (by rw [s13]; rfl) (by decide) ?_
            refine lv_aload_n hx hb dX8_about_71 rfl (lv_at hl 0 rfl) ?_
            obtain ⟨c16, hk⟩ := ok_c hk
            obtain ⟨q14, e15, hk⟩ := ok_b hk
            refine zVi X w (n := 0) (As := []) (rest := []) (ci := 0) (C := RX0) (T := TX0) (N := 7) (c_X0_closedHeaps l D cy G M r4 e15) (gzV wm_X8_139 wi_X0_closedHeaps ws_X0_closedHeaps wn_X0 wc_X0_closedHeaps) rfl rfl rfl (by decide +kernel) (by decide) rfl c16 rfl rfl hl.1 (Nat.le_of_ble_eq_true rfl) dX8_about_72 ⟨Nat.zero_le _, Nat.zero_le _⟩ (fun H locs w => ?_)
            have hk := hR _ (ok_s hk)
            exact zri X hr hlk w dX8_about_75 hk rfl
          · have hk := ok_n s13 hk
            by_cases s17 : i2 = 4
            · have hk := ok_p s17 hk
              refine lv_tableIn (off := 63) (tgt := 76) hx hb dX8_about_13 (by rw [s17]; decide) (by rw [s17]; decide) (by rw [s17]; rfl) (by decide) ?_
              refine lv_aload_n hx hb dX8_about_76 rfl (lv_at hl 0 rfl) ?_
              obtain ⟨c20, hk⟩ := ok_c hk
              obtain ⟨q18, e19, hk⟩ := ok_b hk
              refine zVi X w (n := 0) (As := []) (rest := []) (ci := 0) (C := RX0) (T := TX0) (N := 7) (c_X0_lastTime l D cy G M r4 e19) (gzV wm_X8_142 wi_X0_lastTime ws_X0_lastTime wn_X0 wc_X0_lastTime) rfl rfl rfl (by decide +kernel) (by decide) rfl c20 rfl rfl hl.1 (Nat.le_of_ble_eq_true rfl) dX8_about_77 ⟨Nat.zero_le _, Nat.zero_le _⟩ (fun H locs w => ?_)
              have hk := hR _ (ok_s hk)
              exact zri X hr hlk w dX8_about_80 hk rfl
            · have hk := ok_n s17 hk
              by_cases s21 : i2 = 5
              · have hk := ok_p s21 hk
                refine lv_tableIn (off := 68) (tgt := 81) hx hb dX8_about_13 (by rw [s21]; decide) (by rw [s21]; decide) (by rw [s21]; rfl) (by decide) ?_
                refine lv_aload_n hx hb dX8_about_81 rfl (lv_at hl 0 rfl) ?_
                obtain ⟨c24, hk⟩ := ok_c hk
                obtain ⟨q22, e23, hk⟩ := ok_b hk
                refine zVi X w (n := 0) (As := []) (rest := []) (ci := 0) (C := RX0) (T := TX0) (N := 7) (c_X0_wholeness l D cy G M r4 e23) (gzV wm_X8_145 wi_X0_wholeness ws_X0_wholeness wn_X0 wc_X0_wholeness) rfl rfl rfl (by decide +kernel) (by decide) rfl c24 rfl rfl hl.1 (Nat.le_of_ble_eq_true rfl) dX8_about_82 ⟨Nat.zero_le _, Nat.zero_le _⟩ (fun H locs w => ?_)
                have hk := hR _ (ok_s hk)
                exact zri X hr hlk w dX8_about_85 hk rfl
              · have hk := ok_n s21 hk
                by_cases s25 : i2 = 6
                · have hk := ok_p s25 hk
                  refine lv_tableIn (off := 73) (tgt := 86) hx hb dX8_about_13 (by rw [s25]; decide) (by rw [s25]; decide) (by rw [s25]; rfl) (by decide) ?_
                  refine lv_aload_n hx hb dX8_about_86 rfl (lv_at hl 0 rfl) ?_
                  obtain ⟨c28, hk⟩ := ok_c hk
                  obtain ⟨q26, e27, hk⟩ := ok_b hk
                  refine zVi X w (n := 0) (As := []) (rest := []) (ci := 0) (C := RX0) (T := TX0) (N := 7) (c_X0_isBothWays l D cy G M r4 e27) (gzV wm_X8_148 wi_X0_isBothWays ws_X0_isBothWays wn_X0 wc_X0_isBothWays) rfl rfl rfl (by decide +kernel) (by decide) rfl c28 rfl rfl hl.1 (Nat.le_of_ble_eq_true rfl) dX8_about_87 ⟨Nat.zero_le _, Nat.zero_le _⟩ (fun H locs w => ?_)
                  refine lv_if_eq (tgt := 97) hx hb dX8_about_90 (by decide) (fun c29 => ?_) (fun c29 => ?_)
                  · have hk := ok_p c29 hk
                    refine lv_iconst (v := 0) hx hb dX8_about_97 (by decide) ?_
                    have hk := hR _ (ok_s hk)
                    exact zri X hr hlk w dX8_about_98 hk rfl
                  · have hk := ok_n c29 hk
                    refine lv_iconst (v := 1) hx hb dX8_about_93 (by decide) ?_
                    refine lv_goto (tgt := 98) hx hb dX8_about_94 (by decide) ?_
                    have hk := hR _ (ok_s hk)
                    exact zri X hr hlk w dX8_about_98 hk rfl
                · have hk := ok_n s25 hk
                  refine lv_tableOut (tgt := 99) hx hb dX8_about_13 (by have h0 := sw_ne (k := 0) (by decide) s5; have h1 := sw_ne (k := 1) (by decide) s7; have h2 := sw_ne (k := 2) (by decide) s9; have h3 := sw_ne (k := 3) (by decide) s13; have h4 := sw_ne (k := 4) (by decide) s17; have h5 := sw_ne (k := 5) (by decide) s21; have h6 := sw_ne (k := 6) (by decide) s25; omega) (by decide) ?_
                  refine lv_iconst (v := (-1)) hx hb dX8_about_99 (by decide) ?_
                  have hk := hR _ (ok_s hk)
                  exact zri X hr hlk w dX8_about_100 hk rfl
abbrev rm_X8_state : Room := { frames := 4, cells := 0, slots := 0, locals := 89 }
set_option maxHeartbeats 4000000 in
set_option maxRecDepth 100000 in
theorem c_X8_state (l : Launch) (D : va_G) (cy : Cyy) (G : Gg) (M : Mm) (r0 : Nat) (i1 : Int32) (i2 : Int32) (i3 : Int32) {q : Int32} (hm : f_X8_state G M r0 i1 i2 i3 = some q) : CI l yX8_state wz_X8_state rm_X8_state D cy G M [.ref r0, .int i1, .int i2, .int i3] q M := by
  refine Met_of (Qf := fun A => QI D cy G A q M) (cc := cX8_state) (nL := 5) (ret := (some .int)) (own := RX8) (lv := [(0, .ref r0), (1, .int i1), (2, .int i2), (3, .int i3)]) (by decide) rfl rfl (Nat.le_of_ble_eq_true rfl) rfl ?_
  intro p e s m args below meth c A ls X hr hlk w hl
  have hx := X.1.1
  have hb := X.1.2.1
  obtain ⟨Qo, hR, hk⟩ : ∃ Qo : Int32 → Prop, (∀ x, Qo x → x = q) ∧ OK (f_X8_state G M r0 i1 i2 i3) Qo := ⟨fun x => x = q, fun _ h => h, q, hm, rfl⟩
  unfold f_X8_state at hk
  refine lv_aload_n hx hb dX8_state_0 rfl (lv_at hl 0 rfl) ?_
  refine lv_iload_n hx hb dX8_state_1 rfl (lv_at hl 1 rfl) ?_
  obtain ⟨c3, hk⟩ := ok_c hk
  obtain ⟨q1, e2, hk⟩ := ok_b hk
  refine zVp X w (n := 1) (As := [.int i1]) (rest := []) (ci := 8) (C := RX8) (T := TX8) (N := 10) (c_X8_chainIn l D cy G M r0 i1 e2) (gzV wm_X8_95 wi_X8_chainIn ws_X8_chainIn wn_X8 wc_X8_chainIn) rfl rfl rfl (by decide +kernel) (by decide) rfl c3 rfl rfl hl.1 (Nat.le_of_ble_eq_true rfl) dX8_state_2 ⟨Nat.zero_le _, Nat.zero_le _⟩ (fun H locs w => ?_)
  rcases q1 with _ | r4
  · have hk := ok_e0 hk
    refine lv_astoreN (lv' := [(4, .null), (0, .ref r0), (1, .int i1), (2, .int i2), (3, .int i3)]) hx hb dX8_state_5 hl (by decide) rfl (fun ls hl => ?_)
    refine lv_aloadN hx hb dX8_state_7 (lv_at hl 0 rfl) ?_
    refine lv_ifnullN (tgt := 21) hx hb dX8_state_9 (by decide) ?_
    refine lv_iconst (v := (-1)) hx hb dX8_state_21 (by decide) ?_
    have hk := hR _ (ok_s hk)
    exact zri X hr hlk w dX8_state_22 hk rfl
  · have hk := ok_e1 hk
    refine lv_astore (lv' := [(4, .ref r4), (0, .ref r0), (1, .int i1), (2, .int i2), (3, .int i3)]) hx hb dX8_state_5 hl (by decide) rfl (fun ls hl => ?_)
    refine lv_aload hx hb dX8_state_7 (lv_at hl 0 rfl) ?_
    refine lv_ifnull hx hb dX8_state_9 ?_
    refine lv_aload hx hb dX8_state_12 (lv_at hl 0 rfl) ?_
    refine lv_iload_n hx hb dX8_state_14 rfl (lv_at hl 3 rfl) ?_
    obtain ⟨c7, hk⟩ := ok_c hk
    obtain ⟨q5, e6, hk⟩ := ok_b hk
    refine zVi X w (n := 1) (As := [.int i2]) (rest := []) (ci := 0) (C := RX0) (T := TX0) (N := 7) (c_X0_isState l D cy G M r4 i2 e6) (gzV wm_X8_151 wi_X0_isState ws_X0_isState wn_X0 wc_X0_isState) rfl rfl rfl (by decide +kernel) (by decide) rfl c7 rfl rfl hl.1 (Nat.le_of_ble_eq_true rfl) dX8_state_15 ⟨Nat.zero_le _, Nat.zero_le _⟩ (fun H locs w => ?_)
    refine lv_if_ne (tgt := 23) hx hb dX8_state_18 (by decide) (fun c8 => ?_) (fun c8 => ?_)
    · have hk := ok_n c8 hk
      refine lv_iload_n hx hb dX8_state_23 rfl (lv_at hl 4 rfl) ?_
      by_cases s9 : i3 = 0
      · have hk := ok_p s9 hk
        refine lv_tableIn (off := 28) (tgt := 52) hx hb dX8_state_24 (by rw [s9]; decide) (by rw [s9]; decide) (by rw [s9]; rfl) (by decide) ?_
        refine lv_aload hx hb dX8_state_52 (lv_at hl 0 rfl) ?_
        refine lv_iload_n hx hb dX8_state_54 rfl (lv_at hl 3 rfl) ?_
        obtain ⟨q10, e11, hk⟩ := ok_b hk
        refine zVi X w (n := 1) (As := [.int i2]) (rest := []) (ci := 0) (C := RX0) (T := TX0) (N := 7) (c_X0_heapNumber l D cy G M r4 i2 e11) (gzV wm_X8_154 wi_X0_heapNumber ws_X0_heapNumber wn_X0 wc_X0_heapNumber) rfl rfl rfl (by decide +kernel) (by decide) rfl c7 rfl rfl hl.1 (Nat.le_of_ble_eq_true rfl) dX8_state_55 ⟨Nat.zero_le _, Nat.zero_le _⟩ (fun H locs w => ?_)
        have hk := hR _ (ok_s hk)
        exact zri X hr hlk w dX8_state_58 hk rfl
      · have hk := ok_n s9 hk
        by_cases s12 : i3 = 1
        · have hk := ok_p s12 hk
          refine lv_tableIn (off := 35) (tgt := 59) hx hb dX8_state_24 (by rw [s12]; decide) (by rw [s12]; decide) (by rw [s12]; rfl) (by decide) ?_
          refine lv_aload hx hb dX8_state_59 (lv_at hl 0 rfl) ?_
          refine lv_iload_n hx hb dX8_state_61 rfl (lv_at hl 3 rfl) ?_
          obtain ⟨q13, e14, hk⟩ := ok_b hk
          refine zVi X w (n := 1) (As := [.int i2]) (rest := []) (ci := 0) (C := RX0) (T := TX0) (N := 7) (c_X0_isClosed l D cy G M r4 i2 e14) (gzV wm_X8_157 wi_X0_isClosed ws_X0_isClosed wn_X0 wc_X0_isClosed) rfl rfl rfl (by decide +kernel) (by decide) rfl c7 rfl rfl hl.1 (Nat.le_of_ble_eq_true rfl) dX8_state_62 ⟨Nat.zero_le _, Nat.zero_le _⟩ (fun H locs w => ?_)
          refine lv_if_eq (tgt := 72) hx hb dX8_state_65 (by decide) (fun c15 => ?_) (fun c15 => ?_)
          · have hk := ok_p c15 hk
            refine lv_iconst (v := 0) hx hb dX8_state_72 (by decide) ?_
            have hk := hR _ (ok_s hk)
            exact zri X hr hlk w dX8_state_73 hk rfl
          · have hk := ok_n c15 hk
            refine lv_iconst (v := 1) hx hb dX8_state_68 (by decide) ?_
            refine lv_goto (tgt := 73) hx hb dX8_state_69 (by decide) ?_
            have hk := hR _ (ok_s hk)
            exact zri X hr hlk w dX8_state_73 hk rfl
        · have hk := ok_n s12 hk
          by_cases s16 : i3 = 2
          · have hk := ok_p s16 hk
            refine lv_tableIn (off := 50) (tgt := 74) hx hb dX8_state_24 (by rw [s16]; decide) (by rw [s16]; decide) (by rw [s16]; rfl) (by decide) ?_
            refine lv_aload hx hb dX8_state_74 (lv_at hl 0 rfl) ?_
            refine lv_iload_n hx hb dX8_state_76 rfl (lv_at hl 3 rfl) ?_
            obtain ⟨q17, e18, hk⟩ := ok_b hk
            refine zVi X w (n := 1) (As := [.int i2]) (rest := []) (ci := 0) (C := RX0) (T := TX0) (N := 7) (c_X0_beat l D cy G M r4 i2 e18) (gzV wm_X8_160 wi_X0_beat ws_X0_beat wn_X0 wc_X0_beat) rfl rfl rfl (by decide +kernel) (by decide) rfl c7 rfl rfl hl.1 (Nat.le_of_ble_eq_true rfl) dX8_state_77 ⟨Nat.zero_le _, Nat.zero_le _⟩ (fun H locs w => ?_)
            have hk := hR _ (ok_s hk)
            exact zri X hr hlk w dX8_state_80 hk rfl
          · have hk := ok_n s16 hk
            refine lv_tableOut (tgt := 81) hx hb dX8_state_24 (by have h0 := sw_ne (k := 0) (by decide) s9; have h1 := sw_ne (k := 1) (by decide) s12; have h2 := sw_ne (k := 2) (by decide) s16; omega) (by decide) ?_
            refine lv_iconst (v := (-1)) hx hb dX8_state_81 (by decide) ?_
            have hk := hR _ (ok_s hk)
            exact zri X hr hlk w dX8_state_82 hk rfl
    · have hk := ok_p c8 hk
      refine lv_iconst (v := (-1)) hx hb dX8_state_21 (by decide) ?_
      have hk := hR _ (ok_s hk)
      exact zri X hr hlk w dX8_state_22 hk rfl
abbrev rm_X8_neededChain : Room := { frames := 6, cells := 0, slots := 0, locals := 81 }
abbrev rx_X8_neededChain : Room := { frames := 6, cells := 1, slots := 6, locals := 81 }
set_option maxHeartbeats 4000000 in
set_option maxRecDepth 100000 in
theorem c_X8_neededChain (l : Launch) (D : va_G) (cy : Cyy) (G : Gg) (M : Mm) (r0 : Nat) (i1 : Int32) (i2 : Int32) {q : Option Nat} (hm : f_X8_neededChain G M r0 i1 i2 = some q) {r : Nat} (hq : q = some r) : CP l yX8_neededChain wz_X8_neededChain rm_X8_neededChain D cy G M [.ref r0, .int i1, .int i2] (some r) M := by
  refine Met_of (Qf := fun A => QP D cy G A (some r) M) (cc := cX8_neededChain) (nL := 4) (ret := (some (.object "BlendBench$Chain"))) (own := RX8) (lv := [(0, .ref r0), (1, .int i1), (2, .int i2)]) (by decide) rfl rfl (Nat.le_of_ble_eq_true rfl) rfl ?_
  intro p e s m args below meth c A ls X hr hlk w hl
  have hx := X.1.1
  have hb := X.1.2.1
  obtain ⟨Qo, hR, hk⟩ : ∃ Qo : Option Nat → Prop, (∀ x, Qo x → x = q) ∧ OK (f_X8_neededChain G M r0 i1 i2) Qo := ⟨fun x => x = q, fun _ h => h, q, hm, rfl⟩
  unfold f_X8_neededChain at hk
  refine lv_aload_n hx hb dX8_neededChain_0 rfl (lv_at hl 0 rfl) ?_
  refine lv_iload_n hx hb dX8_neededChain_1 rfl (lv_at hl 1 rfl) ?_
  obtain ⟨c3, hk⟩ := ok_c hk
  obtain ⟨q1, e2, hk⟩ := ok_b hk
  refine zVp X w (n := 1) (As := [.int i1]) (rest := []) (ci := 8) (C := RX8) (T := TX8) (N := 10) (c_X8_chainIn l D cy G M r0 i1 e2) (gzV wm_X8_95 wi_X8_chainIn ws_X8_chainIn wn_X8 wc_X8_chainIn) rfl rfl rfl (by decide +kernel) (by decide) rfl c3 rfl rfl hl.1 (Nat.le_of_ble_eq_true rfl) dX8_neededChain_2 ⟨Nat.zero_le _, Nat.zero_le _⟩ (fun H locs w => ?_)
  rcases q1 with _ | r4
  · have hk := ok_e0 hk
    refine lv_astore_nN (lv' := [(3, .null), (0, .ref r0), (1, .int i1), (2, .int i2)]) hx hb dX8_neededChain_5 rfl hl (by decide) rfl (fun ls hl => ?_)
    refine lv_aload_nN hx hb dX8_neededChain_6 rfl (lv_at hl 0 rfl) ?_
    refine lv_ifnullN (tgt := 19) hx hb dX8_neededChain_7 (by decide) ?_
    have hk := hR _ (ok_s hk)
    exact absurd (hk.trans hq) (fun h => by cases h)
  · have hk := ok_e1 hk
    refine lv_astore_n (lv' := [(3, .ref r4), (0, .ref r0), (1, .int i1), (2, .int i2)]) hx hb dX8_neededChain_5 rfl hl (by decide) rfl (fun ls hl => ?_)
    refine lv_aload_n hx hb dX8_neededChain_6 rfl (lv_at hl 0 rfl) ?_
    refine lv_ifnull hx hb dX8_neededChain_7 ?_
    refine lv_iload_n hx hb dX8_neededChain_10 rfl (lv_at hl 3 rfl) ?_
    refine lv_if_lt (tgt := 19) hx hb dX8_neededChain_11 (by decide) (fun c5 => ?_) (fun c5 => ?_)
    · have hk := ok_p c5 hk
      have hk := hR _ (ok_s hk)
      exact absurd (hk.trans hq) (fun h => by cases h)
    · have hk := ok_n c5 hk
      refine lv_iload_n hx hb dX8_neededChain_14 rfl (lv_at hl 3 rfl) ?_
      refine lv_iconst (v := 1) hx hb dX8_neededChain_15 (by decide) ?_
      refine lv_icmp_le (tgt := 27) hx hb dX8_neededChain_16 (by decide) (fun c6 => ?_) (fun c6 => ?_)
      · have hk := ok_p c6 hk
        refine lv_aload_n hx hb dX8_neededChain_27 rfl (lv_at hl 0 rfl) ?_
        have hk := hR _ (ok_s hk)
        exact zrp X hr hlk w dX8_neededChain_28 rfl (hk.trans hq) rfl
      · have hk := ok_n c6 hk
        have hk := hR _ (ok_s hk)
        exact absurd (hk.trans hq) (fun h => by cases h)
set_option maxHeartbeats 4000000 in
set_option maxRecDepth 100000 in
theorem x_X8_neededChain (l : Launch) (hst : l.stackTraces = false) (D : va_G) (cy : Cyy) (G : Gg) (M : Mm) (r0 : Nat) (i1 : Int32) (i2 : Int32) {q : Option Nat} (hm : f_X8_neededChain G M r0 i1 i2 = some q) (hq : q = none) : XT l yX8_neededChain wz_X8_neededChain rx_X8_neededChain D cy G M [.ref r0, .int i1, .int i2] M := by
  refine XT_of (cc := cX8_neededChain) (nL := 4) (ret := (some (.object "BlendBench$Chain"))) (own := RX8) (lv := [(0, .ref r0), (1, .int i1), (2, .int i2)]) (by decide) rfl rfl (Nat.le_of_ble_eq_true rfl) rfl ?_
  intro p e s m args below meth c A ls X hr hlk hz ht w hl
  have hx := X.1.1
  have hb := X.1.2.1
  obtain ⟨Qo, hR, hk⟩ : ∃ Qo : Option Nat → Prop, (∀ x, Qo x → x = q) ∧ OK (f_X8_neededChain G M r0 i1 i2) Qo := ⟨fun x => x = q, fun _ h => h, q, hm, rfl⟩
  unfold f_X8_neededChain at hk
  refine lv_aload_n hx hb dX8_neededChain_0 rfl (lv_at hl 0 rfl) ?_
  refine lv_iload_n hx hb dX8_neededChain_1 rfl (lv_at hl 1 rfl) ?_
  obtain ⟨c3, hk⟩ := ok_c hk
  obtain ⟨q1, e2, hk⟩ := ok_b hk
  refine zVp X w (n := 1) (As := [.int i1]) (rest := []) (ci := 8) (C := RX8) (T := TX8) (N := 10) (c_X8_chainIn l D cy G M r0 i1 e2) (gzV wm_X8_95 wi_X8_chainIn ws_X8_chainIn wn_X8 wc_X8_chainIn) rfl rfl rfl (by decide +kernel) (by decide) rfl c3 rfl rfl hl.1 (Nat.le_of_ble_eq_true rfl) dX8_neededChain_2 ⟨Nat.zero_le _, Nat.zero_le _⟩ (fun H locs w => ?_)
  rcases q1 with _ | r4
  · have hk := ok_e0 hk
    refine lv_astore_nN (lv' := [(3, .null), (0, .ref r0), (1, .int i1), (2, .int i2)]) hx hb dX8_neededChain_5 rfl hl (by decide) rfl (fun ls hl => ?_)
    refine lv_aload_nN hx hb dX8_neededChain_6 rfl (lv_at hl 0 rfl) ?_
    refine lv_ifnullN (tgt := 19) hx hb dX8_neededChain_7 (by decide) ?_
    have hk := hR _ (ok_s hk)
    exact zthrow X hlk hz hst ht w hl.1 dX8_neededChain_19 dX8_neededChain_22 dX8_neededChain_23 dX8_neededChain_26 (by decide) (Nat.le_of_ble_eq_true rfl) (by decide) (by decide) rfl
  · have hk := ok_e1 hk
    refine lv_astore_n (lv' := [(3, .ref r4), (0, .ref r0), (1, .int i1), (2, .int i2)]) hx hb dX8_neededChain_5 rfl hl (by decide) rfl (fun ls hl => ?_)
    refine lv_aload_n hx hb dX8_neededChain_6 rfl (lv_at hl 0 rfl) ?_
    refine lv_ifnull hx hb dX8_neededChain_7 ?_
    refine lv_iload_n hx hb dX8_neededChain_10 rfl (lv_at hl 3 rfl) ?_
    refine lv_if_lt (tgt := 19) hx hb dX8_neededChain_11 (by decide) (fun c5 => ?_) (fun c5 => ?_)
    · have hk := ok_p c5 hk
      have hk := hR _ (ok_s hk)
      exact zthrow X hlk hz hst ht w hl.1 dX8_neededChain_19 dX8_neededChain_22 dX8_neededChain_23 dX8_neededChain_26 (by decide) (Nat.le_of_ble_eq_true rfl) (by decide) (by decide) rfl
    · have hk := ok_n c5 hk
      refine lv_iload_n hx hb dX8_neededChain_14 rfl (lv_at hl 3 rfl) ?_
      refine lv_iconst (v := 1) hx hb dX8_neededChain_15 (by decide) ?_
      refine lv_icmp_le (tgt := 27) hx hb dX8_neededChain_16 (by decide) (fun c6 => ?_) (fun c6 => ?_)
      · have hk := ok_p c6 hk
        refine lv_aload_n hx hb dX8_neededChain_27 rfl (lv_at hl 0 rfl) ?_
        have hk := hR _ (ok_s hk)
        exact absurd (hk.trans hq) (fun h => by cases h)
      · have hk := ok_n c6 hk
        have hk := hR _ (ok_s hk)
        exact zthrow X hlk hz hst ht w hl.1 dX8_neededChain_19 dX8_neededChain_22 dX8_neededChain_23 dX8_neededChain_26 (by decide) (Nat.le_of_ble_eq_true rfl) (by decide) (by decide) rfl
abbrev rm_X8_chance : Room := { frames := 7, cells := 0, slots := 0, locals := 104 }
abbrev rx_X8_chance : Room := { frames := 7, cells := 1, slots := 6, locals := 104 }
set_option maxHeartbeats 4000000 in
set_option maxRecDepth 100000 in
theorem c_X8_chance (l : Launch) (D : va_G) (cy : Cyy) (G : Gg) (M : Mm) (r0 : Nat) (i1 : Int32) (i2 : Int32) (i3 : Int32) (i4 : Int32) (i5 : Int32) {q : (Option Int64) × Mm} (hm : f_X8_chance G M r0 i1 i2 i3 i4 i5 = some q) {r : Int64} (hq : q.1 = some r) : CL l yX8_chance wz_X8_chance rm_X8_chance D cy G M [.ref r0, .int i1, .int i2, .int i3, .int i4, .int i5] r q.2 := by
  refine Met_of (Qf := fun A => QL D cy G A r q.2) (cc := cX8_chance) (nL := 7) (ret := (some .long)) (own := RX8) (lv := [(0, .ref r0), (1, .int i1), (2, .int i2), (3, .int i3), (4, .int i4), (5, .int i5)]) (by decide) rfl rfl (Nat.le_of_ble_eq_true rfl) rfl ?_
  intro p e s m args below meth c A ls X hr hlk w hl
  have hx := X.1.1
  have hb := X.1.2.1
  obtain ⟨Qo, hR, hk⟩ : ∃ Qo : (Option Int64) × Mm → Prop, (∀ x, Qo x → x = q) ∧ OK (f_X8_chance G M r0 i1 i2 i3 i4 i5) Qo := ⟨fun x => x = q, fun _ h => h, q, hm, rfl⟩
  unfold f_X8_chance at hk
  refine lv_aload_n hx hb dX8_chance_0 rfl (lv_at hl 0 rfl) ?_
  refine lv_iload_n hx hb dX8_chance_1 rfl (lv_at hl 1 rfl) ?_
  refine lv_iload hx hb dX8_chance_2 (lv_at hl 5 rfl) ?_
  obtain ⟨c3, hk⟩ := ok_c hk
  obtain ⟨q1, e2, hk⟩ := ok_b hk
  rcases q1 with _ | r4
  · have hk := hR _ (ok_s (ok_e0 hk))
    exact absurd ((pr1 hk).trans hq) (fun h => by cases h)
  · have hk := ok_e1 hk
    refine zVp X w (n := 2) (As := [.int i1, .int i5]) (rest := []) (ci := 8) (C := RX8) (T := TX8) (N := 10) (c_X8_neededChain l D cy G M r0 i1 i5 e2 rfl) (gzV wm_X8_163 wi_X8_neededChain ws_X8_neededChain wn_X8 wc_X8_neededChain) rfl rfl rfl (by decide +kernel) (by decide) rfl c3 rfl rfl hl.1 (Nat.le_of_ble_eq_true rfl) dX8_chance_4 ⟨Nat.zero_le _, Nat.zero_le _⟩ (fun H locs w => ?_)
    refine lv_astore (lv' := [(6, .ref r4), (0, .ref r0), (1, .int i1), (2, .int i2), (3, .int i3), (4, .int i4), (5, .int i5)]) hx hb dX8_chance_7 hl (by decide) rfl (fun ls hl => ?_)
    refine lv_aload hx hb dX8_chance_9 (lv_at hl 0 rfl) ?_
    refine lv_iload_n hx hb dX8_chance_11 rfl (lv_at hl 3 rfl) ?_
    obtain ⟨c7, hk⟩ := ok_c hk
    obtain ⟨q5, e6, hk⟩ := ok_b hk
    refine zVi X w (n := 1) (As := [.int i2]) (rest := []) (ci := 0) (C := RX0) (T := TX0) (N := 7) (c_X0_isState l D cy G M r4 i2 e6) (gzV wm_X8_151 wi_X0_isState ws_X0_isState wn_X0 wc_X0_isState) rfl rfl rfl (by decide +kernel) (by decide) rfl c7 rfl rfl hl.1 (Nat.le_of_ble_eq_true rfl) dX8_chance_12 ⟨Nat.zero_le _, Nat.zero_le _⟩ (fun H locs w => ?_)
    refine lv_if_eq (tgt := 37) hx hb dX8_chance_15 (by decide) (fun c8 => ?_) (fun c8 => ?_)
    · have hk := ok_p c8 hk
      have hk := hR _ (ok_s hk)
      exact absurd ((pr1 hk).trans hq) (fun h => by cases h)
    · have hk := ok_n c8 hk
      refine lv_aload hx hb dX8_chance_18 (lv_at hl 0 rfl) ?_
      refine lv_iload_n hx hb dX8_chance_20 rfl (lv_at hl 4 rfl) ?_
      obtain ⟨q9, e10, hk⟩ := ok_b hk
      refine zVi X w (n := 1) (As := [.int i3]) (rest := []) (ci := 0) (C := RX0) (T := TX0) (N := 7) (c_X0_isState l D cy G M r4 i3 e10) (gzV wm_X8_151 wi_X0_isState ws_X0_isState wn_X0 wc_X0_isState) rfl rfl rfl (by decide +kernel) (by decide) rfl c7 rfl rfl hl.1 (Nat.le_of_ble_eq_true rfl) dX8_chance_21 ⟨Nat.zero_le _, Nat.zero_le _⟩ (fun H locs w => ?_)
      refine lv_if_eq (tgt := 37) hx hb dX8_chance_24 (by decide) (fun c11 => ?_) (fun c11 => ?_)
      · have hk := ok_p c11 hk
        have hk := hR _ (ok_s hk)
        exact absurd ((pr1 hk).trans hq) (fun h => by cases h)
      · have hk := ok_n c11 hk
        refine lv_aload hx hb dX8_chance_27 (lv_at hl 0 rfl) ?_
        refine lv_iload hx hb dX8_chance_29 (lv_at hl 5 rfl) ?_
        obtain ⟨q12, e13, hk⟩ := ok_b hk
        refine zVi X w (n := 1) (As := [.int i4]) (rest := []) (ci := 0) (C := RX0) (T := TX0) (N := 7) (c_X0_isTime l D cy G M r4 i4 e13) (gzV wm_X8_167 wi_X0_isTime ws_X0_isTime wn_X0 wc_X0_isTime) rfl rfl rfl (by decide +kernel) (by decide) rfl c7 rfl rfl hl.1 (Nat.le_of_ble_eq_true rfl) dX8_chance_31 ⟨Nat.zero_le _, Nat.zero_le _⟩ (fun H locs w => ?_)
        refine lv_if_ne (tgt := 45) hx hb dX8_chance_34 (by decide) (fun c14 => ?_) (fun c14 => ?_)
        · have hk := ok_n c14 hk
          refine lv_aload_n hx hb dX8_chance_45 rfl (lv_at hl 1 rfl) ?_
          obtain ⟨r15, e16, hk⟩ := ok_b hk
          refine zgr X w 8 6 45 (C := RX8) (T := TX8) (N := 10) rfl ui_X8 (by decide) rfl (tb wf_X8_45) dX8_chance_46 c3 e16 ?_
          refine lv_aload hx hb dX8_chance_49 (lv_at hl 0 rfl) ?_
          refine lv_iconst (v := 1) hx hb dX8_chance_51 (by decide) ?_
          refine lv_iload_n hx hb dX8_chance_52 rfl (lv_at hl 3 rfl) ?_
          refine lv_ishl hx hb dX8_chance_53 ?_
          refine lv_iload hx hb dX8_chance_54 (lv_at hl 5 rfl) ?_
          obtain ⟨c19, hk⟩ := ok_c hk
          obtain ⟨q17, e18, hk⟩ := ok_b hk
          refine zVv X w (n := 3) (As := [.ref r4, .int ((1 : Int32) <<< (i2 &&& 31)), .int i4]) (rest := []) (ci := 7) (C := RX7) (T := TX7) (N := 3) (c_X7_go l D cy G M r15 r4 ((1 : Int32) <<< (i2 &&& 31)) i4 e18) (gzV wm_X8_170 wi_X7_go ws_X7_go wn_X7 wc_X7_go) rfl rfl rfl (by decide +kernel) (by decide) rfl c19 rfl rfl hl.1 (Nat.le_of_ble_eq_true rfl) dX8_chance_56 ⟨Nat.zero_le _, Nat.zero_le _⟩ (fun H locs w => ?_)
          refine lv_aload_n hx hb dX8_chance_59 rfl (lv_at hl 1 rfl) ?_
          obtain ⟨r20, e21, hk⟩ := ok_b hk
          refine zgr X w 8 9 66 (C := RX8) (T := TX8) (N := 10) rfl ui_X8 (by decide) rfl (tb wf_X8_66) dX8_chance_60 c3 e21 ?_
          refine lv_aload_n hx hb dX8_chance_63 rfl (lv_at hl 1 rfl) ?_
          obtain ⟨r22, e23, hk⟩ := ok_b hk
          refine zgr X w 8 6 45 (C := RX8) (T := TX8) (N := 10) rfl ui_X8 (by decide) rfl (tb wf_X8_45) dX8_chance_64 c3 e23 ?_
          refine lv_iload_n hx hb dX8_chance_67 rfl (lv_at hl 3 rfl) ?_
          refine lv_iload_n hx hb dX8_chance_68 rfl (lv_at hl 4 rfl) ?_
          obtain ⟨c26, hk⟩ := ok_c hk
          obtain ⟨q24, e25, hk⟩ := ok_b hk
          refine zVl X w (n := 2) (As := [.int i2, .int i3]) (rest := [.ref r20]) (ci := 7) (C := RX7) (T := TX7) (N := 3) (c_X7_at l D cy G q17 r22 i2 i3 e25) (gzV wm_X8_174 wi_X7_at ws_X7_at wn_X7 wc_X7_at) rfl rfl rfl (by decide +kernel) (by decide) rfl c26 rfl rfl hl.1 (Nat.le_of_ble_eq_true rfl) dX8_chance_69 ⟨Nat.zero_le _, Nat.zero_le _⟩ (fun H locs w => ?_)
          refine lv_aload_n hx hb dX8_chance_72 rfl (lv_at hl 1 rfl) ?_
          refine zgr X w 8 6 45 (C := RX8) (T := TX8) (N := 10) rfl ui_X8 (by decide) rfl (tb wf_X8_45) dX8_chance_73 c3 e23 ?_
          refine zgNl X w 7 2 178 "BlendBench" (C := RX7) (T := TX7) (N := 3) rfl ui_X7 (by decide) rfl (by decide +kernel) dX8_chance_76 c26 ?_
          obtain ⟨c29, hk⟩ := ok_c hk
          obtain ⟨q27, e28, hk⟩ := ok_b hk
          refine zVv X w (n := 2) (As := [.long q24, .long (q17.2.1 r22 2)]) (rest := []) (ci := 1) (C := RX1) (T := TX1) (N := 2) (c_X1_put l D cy G q17 r20 q24 (q17.2.1 r22 2) e28) (gzV wm_X8_182 wi_X1_put ws_X1_put wn_X1 wc_X1_put) rfl rfl rfl (by decide +kernel) (by decide) rfl c29 rfl rfl hl.1 (Nat.le_of_ble_eq_true rfl) dX8_chance_79 ⟨Nat.zero_le _, Nat.zero_le _⟩ (fun H locs w => ?_)
          refine lv_aload_n hx hb dX8_chance_82 rfl (lv_at hl 1 rfl) ?_
          obtain ⟨r30, e31, hk⟩ := ok_b hk
          refine zgr X w 8 9 66 (C := RX8) (T := TX8) (N := 10) rfl ui_X8 (by decide) rfl (tb wf_X8_66) dX8_chance_83 c3 e31 ?_
          refine lv_iload hx hb dX8_chance_86 (lv_at hl 6 rfl) ?_
          obtain ⟨c34, hk⟩ := ok_c hk
          obtain ⟨q32, e33, hk⟩ := ok_b hk
          refine zVl X w (n := 1) (As := [.int i5]) (rest := []) (ci := 1) (C := RX1) (T := TX1) (N := 2) (c_X1_told l D cy G q27 r30 i5 e33) (gzV wm_X8_186 wi_X1_told ws_X1_told wn_X1 wc_X1_told) rfl rfl rfl (by decide +kernel) (by decide) rfl c34 rfl rfl hl.1 (Nat.le_of_ble_eq_true rfl) dX8_chance_88 ⟨Nat.zero_le _, Nat.zero_le _⟩ (fun H locs w => ?_)
          have hk := hR _ (ok_s hk)
          exact zrl X hr hlk w dX8_chance_91 (Option.some.inj ((pr1 hk).trans hq)) (pr2 hk)
        · have hk := ok_p c14 hk
          have hk := hR _ (ok_s hk)
          exact absurd ((pr1 hk).trans hq) (fun h => by cases h)
set_option maxHeartbeats 4000000 in
set_option maxRecDepth 100000 in
theorem x_X8_chance (l : Launch) (hst : l.stackTraces = false) (D : va_G) (cy : Cyy) (G : Gg) (M : Mm) (r0 : Nat) (i1 : Int32) (i2 : Int32) (i3 : Int32) (i4 : Int32) (i5 : Int32) {q : (Option Int64) × Mm} (hm : f_X8_chance G M r0 i1 i2 i3 i4 i5 = some q) (hq : q.1 = none) : XT l yX8_chance wz_X8_chance rx_X8_chance D cy G M [.ref r0, .int i1, .int i2, .int i3, .int i4, .int i5] q.2 := by
  refine XT_of (cc := cX8_chance) (nL := 7) (ret := (some .long)) (own := RX8) (lv := [(0, .ref r0), (1, .int i1), (2, .int i2), (3, .int i3), (4, .int i4), (5, .int i5)]) (by decide) rfl rfl (Nat.le_of_ble_eq_true rfl) rfl ?_
  intro p e s m args below meth c A ls X hr hlk hz ht w hl
  have hx := X.1.1
  have hb := X.1.2.1
  obtain ⟨Qo, hR, hk⟩ : ∃ Qo : (Option Int64) × Mm → Prop, (∀ x, Qo x → x = q) ∧ OK (f_X8_chance G M r0 i1 i2 i3 i4 i5) Qo := ⟨fun x => x = q, fun _ h => h, q, hm, rfl⟩
  unfold f_X8_chance at hk
  refine lv_aload_n hx hb dX8_chance_0 rfl (lv_at hl 0 rfl) ?_
  refine lv_iload_n hx hb dX8_chance_1 rfl (lv_at hl 1 rfl) ?_
  refine lv_iload hx hb dX8_chance_2 (lv_at hl 5 rfl) ?_
  obtain ⟨c3, hk⟩ := ok_c hk
  obtain ⟨q1, e2, hk⟩ := ok_b hk
  rcases q1 with _ | r4
  · have hk := hR _ (ok_s (ok_e0 hk))
    exact zVx X hlk hz ht w (n := 2) (As := [.int i1, .int i5]) (rest := []) (ci := 8) (C := RX8) (T := TX8) (N := 10) (x_X8_neededChain l hst D cy G M r0 i1 i5 e2 rfl) (gzV wm_X8_163 wi_X8_neededChain ws_X8_neededChain wn_X8 wc_X8_neededChain) rfl rfl rfl (by decide +kernel) (by decide) rfl c3 rfl rfl hl.1 (Nat.le_of_ble_eq_true rfl) dX8_chance_4 (by decide) (pr2 hk)
  · have hk := ok_e1 hk
    refine zVp X w (n := 2) (As := [.int i1, .int i5]) (rest := []) (ci := 8) (C := RX8) (T := TX8) (N := 10) (c_X8_neededChain l D cy G M r0 i1 i5 e2 rfl) (gzV wm_X8_163 wi_X8_neededChain ws_X8_neededChain wn_X8 wc_X8_neededChain) rfl rfl rfl (by decide +kernel) (by decide) rfl c3 rfl rfl hl.1 (Nat.le_of_ble_eq_true rfl) dX8_chance_4 ⟨Nat.zero_le _, Nat.zero_le _⟩ (fun H locs w => ?_)
    refine lv_astore (lv' := [(6, .ref r4), (0, .ref r0), (1, .int i1), (2, .int i2), (3, .int i3), (4, .int i4), (5, .int i5)]) hx hb dX8_chance_7 hl (by decide) rfl (fun ls hl => ?_)
    refine lv_aload hx hb dX8_chance_9 (lv_at hl 0 rfl) ?_
    refine lv_iload_n hx hb dX8_chance_11 rfl (lv_at hl 3 rfl) ?_
    obtain ⟨c7, hk⟩ := ok_c hk
    obtain ⟨q5, e6, hk⟩ := ok_b hk
    refine zVi X w (n := 1) (As := [.int i2]) (rest := []) (ci := 0) (C := RX0) (T := TX0) (N := 7) (c_X0_isState l D cy G M r4 i2 e6) (gzV wm_X8_151 wi_X0_isState ws_X0_isState wn_X0 wc_X0_isState) rfl rfl rfl (by decide +kernel) (by decide) rfl c7 rfl rfl hl.1 (Nat.le_of_ble_eq_true rfl) dX8_chance_12 ⟨Nat.zero_le _, Nat.zero_le _⟩ (fun H locs w => ?_)
    refine lv_if_eq (tgt := 37) hx hb dX8_chance_15 (by decide) (fun c8 => ?_) (fun c8 => ?_)
    · have hk := ok_p c8 hk
      have hk := hR _ (ok_s hk)
      exact zthrow X hlk hz hst ht w hl.1 dX8_chance_37 dX8_chance_40 dX8_chance_41 dX8_chance_44 (by decide) (Nat.le_of_ble_eq_true rfl) (by decide) (by decide) (pr2 hk)
    · have hk := ok_n c8 hk
      refine lv_aload hx hb dX8_chance_18 (lv_at hl 0 rfl) ?_
      refine lv_iload_n hx hb dX8_chance_20 rfl (lv_at hl 4 rfl) ?_
      obtain ⟨q9, e10, hk⟩ := ok_b hk
      refine zVi X w (n := 1) (As := [.int i3]) (rest := []) (ci := 0) (C := RX0) (T := TX0) (N := 7) (c_X0_isState l D cy G M r4 i3 e10) (gzV wm_X8_151 wi_X0_isState ws_X0_isState wn_X0 wc_X0_isState) rfl rfl rfl (by decide +kernel) (by decide) rfl c7 rfl rfl hl.1 (Nat.le_of_ble_eq_true rfl) dX8_chance_21 ⟨Nat.zero_le _, Nat.zero_le _⟩ (fun H locs w => ?_)
      refine lv_if_eq (tgt := 37) hx hb dX8_chance_24 (by decide) (fun c11 => ?_) (fun c11 => ?_)
      · have hk := ok_p c11 hk
        have hk := hR _ (ok_s hk)
        exact zthrow X hlk hz hst ht w hl.1 dX8_chance_37 dX8_chance_40 dX8_chance_41 dX8_chance_44 (by decide) (Nat.le_of_ble_eq_true rfl) (by decide) (by decide) (pr2 hk)
      · have hk := ok_n c11 hk
        refine lv_aload hx hb dX8_chance_27 (lv_at hl 0 rfl) ?_
        refine lv_iload hx hb dX8_chance_29 (lv_at hl 5 rfl) ?_
        obtain ⟨q12, e13, hk⟩ := ok_b hk
        refine zVi X w (n := 1) (As := [.int i4]) (rest := []) (ci := 0) (C := RX0) (T := TX0) (N := 7) (c_X0_isTime l D cy G M r4 i4 e13) (gzV wm_X8_167 wi_X0_isTime ws_X0_isTime wn_X0 wc_X0_isTime) rfl rfl rfl (by decide +kernel) (by decide) rfl c7 rfl rfl hl.1 (Nat.le_of_ble_eq_true rfl) dX8_chance_31 ⟨Nat.zero_le _, Nat.zero_le _⟩ (fun H locs w => ?_)
        refine lv_if_ne (tgt := 45) hx hb dX8_chance_34 (by decide) (fun c14 => ?_) (fun c14 => ?_)
        · have hk := ok_n c14 hk
          refine lv_aload_n hx hb dX8_chance_45 rfl (lv_at hl 1 rfl) ?_
          obtain ⟨r15, e16, hk⟩ := ok_b hk
          refine zgr X w 8 6 45 (C := RX8) (T := TX8) (N := 10) rfl ui_X8 (by decide) rfl (tb wf_X8_45) dX8_chance_46 c3 e16 ?_
          refine lv_aload hx hb dX8_chance_49 (lv_at hl 0 rfl) ?_
          refine lv_iconst (v := 1) hx hb dX8_chance_51 (by decide) ?_
          refine lv_iload_n hx hb dX8_chance_52 rfl (lv_at hl 3 rfl) ?_
          refine lv_ishl hx hb dX8_chance_53 ?_
          refine lv_iload hx hb dX8_chance_54 (lv_at hl 5 rfl) ?_
          obtain ⟨c19, hk⟩ := ok_c hk
          obtain ⟨q17, e18, hk⟩ := ok_b hk
          refine zVv X w (n := 3) (As := [.ref r4, .int ((1 : Int32) <<< (i2 &&& 31)), .int i4]) (rest := []) (ci := 7) (C := RX7) (T := TX7) (N := 3) (c_X7_go l D cy G M r15 r4 ((1 : Int32) <<< (i2 &&& 31)) i4 e18) (gzV wm_X8_170 wi_X7_go ws_X7_go wn_X7 wc_X7_go) rfl rfl rfl (by decide +kernel) (by decide) rfl c19 rfl rfl hl.1 (Nat.le_of_ble_eq_true rfl) dX8_chance_56 ⟨Nat.zero_le _, Nat.zero_le _⟩ (fun H locs w => ?_)
          refine lv_aload_n hx hb dX8_chance_59 rfl (lv_at hl 1 rfl) ?_
          obtain ⟨r20, e21, hk⟩ := ok_b hk
          refine zgr X w 8 9 66 (C := RX8) (T := TX8) (N := 10) rfl ui_X8 (by decide) rfl (tb wf_X8_66) dX8_chance_60 c3 e21 ?_
          refine lv_aload_n hx hb dX8_chance_63 rfl (lv_at hl 1 rfl) ?_
          obtain ⟨r22, e23, hk⟩ := ok_b hk
          refine zgr X w 8 6 45 (C := RX8) (T := TX8) (N := 10) rfl ui_X8 (by decide) rfl (tb wf_X8_45) dX8_chance_64 c3 e23 ?_
          refine lv_iload_n hx hb dX8_chance_67 rfl (lv_at hl 3 rfl) ?_
          refine lv_iload_n hx hb dX8_chance_68 rfl (lv_at hl 4 rfl) ?_
          obtain ⟨c26, hk⟩ := ok_c hk
          obtain ⟨q24, e25, hk⟩ := ok_b hk
          refine zVl X w (n := 2) (As := [.int i2, .int i3]) (rest := [.ref r20]) (ci := 7) (C := RX7) (T := TX7) (N := 3) (c_X7_at l D cy G q17 r22 i2 i3 e25) (gzV wm_X8_174 wi_X7_at ws_X7_at wn_X7 wc_X7_at) rfl rfl rfl (by decide +kernel) (by decide) rfl c26 rfl rfl hl.1 (Nat.le_of_ble_eq_true rfl) dX8_chance_69 ⟨Nat.zero_le _, Nat.zero_le _⟩ (fun H locs w => ?_)
          refine lv_aload_n hx hb dX8_chance_72 rfl (lv_at hl 1 rfl) ?_
          refine zgr X w 8 6 45 (C := RX8) (T := TX8) (N := 10) rfl ui_X8 (by decide) rfl (tb wf_X8_45) dX8_chance_73 c3 e23 ?_
          refine zgNl X w 7 2 178 "BlendBench" (C := RX7) (T := TX7) (N := 3) rfl ui_X7 (by decide) rfl (by decide +kernel) dX8_chance_76 c26 ?_
          obtain ⟨c29, hk⟩ := ok_c hk
          obtain ⟨q27, e28, hk⟩ := ok_b hk
          refine zVv X w (n := 2) (As := [.long q24, .long (q17.2.1 r22 2)]) (rest := []) (ci := 1) (C := RX1) (T := TX1) (N := 2) (c_X1_put l D cy G q17 r20 q24 (q17.2.1 r22 2) e28) (gzV wm_X8_182 wi_X1_put ws_X1_put wn_X1 wc_X1_put) rfl rfl rfl (by decide +kernel) (by decide) rfl c29 rfl rfl hl.1 (Nat.le_of_ble_eq_true rfl) dX8_chance_79 ⟨Nat.zero_le _, Nat.zero_le _⟩ (fun H locs w => ?_)
          refine lv_aload_n hx hb dX8_chance_82 rfl (lv_at hl 1 rfl) ?_
          obtain ⟨r30, e31, hk⟩ := ok_b hk
          refine zgr X w 8 9 66 (C := RX8) (T := TX8) (N := 10) rfl ui_X8 (by decide) rfl (tb wf_X8_66) dX8_chance_83 c3 e31 ?_
          refine lv_iload hx hb dX8_chance_86 (lv_at hl 6 rfl) ?_
          obtain ⟨c34, hk⟩ := ok_c hk
          obtain ⟨q32, e33, hk⟩ := ok_b hk
          refine zVl X w (n := 1) (As := [.int i5]) (rest := []) (ci := 1) (C := RX1) (T := TX1) (N := 2) (c_X1_told l D cy G q27 r30 i5 e33) (gzV wm_X8_186 wi_X1_told ws_X1_told wn_X1 wc_X1_told) rfl rfl rfl (by decide +kernel) (by decide) rfl c34 rfl rfl hl.1 (Nat.le_of_ble_eq_true rfl) dX8_chance_88 ⟨Nat.zero_le _, Nat.zero_le _⟩ (fun H locs w => ?_)
          have hk := hR _ (ok_s hk)
          exact absurd ((pr1 hk).trans hq) (fun h => by cases h)
        · have hk := ok_p c14 hk
          have hk := hR _ (ok_s hk)
          exact zthrow X hlk hz hst ht w hl.1 dX8_chance_37 dX8_chance_40 dX8_chance_41 dX8_chance_44 (by decide) (Nat.le_of_ble_eq_true rfl) (by decide) (by decide) (pr2 hk)
