abbrev rm_X9_at : Room := { frames := 0, cells := 0, slots := 0, locals := 0 }
set_option maxHeartbeats 4000000 in
set_option maxRecDepth 100000 in
theorem c_X9_at (l : Launch) (D : va_G) (cy : Cyy) (G : Gg) (M : Mm) (r0 : Nat) (i1 : Int32) (i2 : Int32) (i3 : Int32) {q : Int32} (hm : f_X9_at G M r0 i1 i2 i3 = some q) : CI l yX9_at wz_X9_at rm_X9_at D cy G M [.ref r0, .int i1, .int i2, .int i3] q M := by
  refine Met_of (Qf := fun A => QI D cy G A q M) (cc := cX9_at) (nL := 4) (ret := (some .int)) (own := RX9) (lv := [(0, .ref r0), (1, .int i1), (2, .int i2), (3, .int i3)]) (by decide) rfl rfl (Nat.le_of_ble_eq_true rfl) rfl ?_
  intro p e s m args below meth c A ls X hr hlk w hl
  have hx := X.1.1
  have hb := X.1.2.1
  obtain ⟨Qo, hR, hk⟩ : ∃ Qo : Int32 → Prop, (∀ x, Qo x → x = q) ∧ OK (f_X9_at G M r0 i1 i2 i3) Qo := ⟨fun x => x = q, fun _ h => h, q, hm, rfl⟩
  unfold f_X9_at at hk
  refine lv_aload_n hx hb dX9_at_0 rfl (lv_at hl 0 rfl) ?_
  obtain ⟨c1, hk⟩ := ok_c hk
  obtain ⟨r2, e3, hk⟩ := ok_b hk
  refine zgr X w 9 5 19 (C := RX9) (T := TX9) (N := 23) rfl ui_X9 (by decide) rfl (tb wf_X9_19) dX9_at_1 c1 e3 ?_
  refine lv_bipush (v := 64) hx hb dX9_at_4 (by decide) ?_
  refine lv_iload_n hx hb dX9_at_6 rfl (lv_at hl 1 rfl) ?_
  refine lv_imul hx hb dX9_at_7 ?_
  refine lv_bipush (v := 8) hx hb dX9_at_8 (by decide) ?_
  refine lv_iload_n hx hb dX9_at_10 rfl (lv_at hl 2 rfl) ?_
  refine lv_imul hx hb dX9_at_11 ?_
  refine lv_iadd hx hb dX9_at_12 ?_
  refine lv_iload_n hx hb dX9_at_13 rfl (lv_at hl 3 rfl) ?_
  refine lv_iadd hx hb dX9_at_14 ?_
  obtain ⟨c4, hk⟩ := ok_c hk
  obtain ⟨c5, hk⟩ := ok_c hk
  refine zai X w dX9_at_15 c4 c5 ?_
  have hk := hR _ (ok_s hk)
  exact zri X hr hlk w dX9_at_16 hk rfl
abbrev rm_X9_puts : Room := { frames := 1, cells := 0, slots := 0, locals := 29 }
set_option maxHeartbeats 4000000 in
set_option maxRecDepth 100000 in
theorem wb_X9_puts_16 {p : Program} {l : Launch} {e : Env} {s : State} {m : MethodId} {args : Array Value} {below : List Frame} {meth : Method} {c : Code} {D : va_G} {cy : Cyy} {A : Nat → Prop} {G : Gg} (X : Cx p m c cX9_puts 9 s args wz_X9_puts RX9 D cy) {Q : State → Prop} (M : Mm) (r0 : Nat) (i1 : Int32) (i2 : Int32) (i3 : Int32) (i6 : Int32) (Qo : Int64 → Prop)  (hE : ∀ (y : Int64), Qo (y) → ∀ (H : Heap) (locs : List Loc) (ls : Array Slot), Wo s D cy A G M H locs → lv_has ls 9 [(0, .ref r0), (1, .int i1), (2, .int i2), (3, .int i3), (4, .long y), (6, .int i6)] → W p l e rm_X9_puts s m args below meth c H locs 0 0 Q (F0 m 46 ls [])) (rec : Int64 → Int32 → Option (Int64)) (hrec : ∀ (l4 : Int64) (i7 : Int32) (H : Heap) (locs : List Loc) (ls : Array Slot), Wo s D cy A G M H locs → lv_has ls 9 [(0, .ref r0), (1, .int i1), (2, .int i2), (3, .int i3), (4, .long l4), (6, .int i6), (7, .int i7)] → OK (rec l4 i7) Qo → W p l e rm_X9_puts s m args below meth c H locs 0 0 Q (F0 m 16 ls [])) (l4 : Int64) (i7 : Int32) (H : Heap) (locs : List Loc) (ls : Array Slot) (w : Wo s D cy A G M H locs) (hl : lv_has ls 9 [(0, .ref r0), (1, .int i1), (2, .int i2), (3, .int i3), (4, .long l4), (6, .int i6), (7, .int i7)]) (hk : OK (bd_X9_puts_16 G M r0 i1 i2 i3 i6 rec l4 i7) Qo) : W p l e rm_X9_puts s m args below meth c H locs 0 0 Q (F0 m 16 ls []) := by
    have hx := X.1.1
    have hb := X.1.2.1
    unfold bd_X9_puts_16 at hk
    refine lv_iload hx hb dX9_puts_16 (lv_at hl 6 rfl) ?_
    refine lv_iload_n hx hb dX9_puts_18 rfl (lv_at hl 2 rfl) ?_
    refine lv_icmp_ge (tgt := 46) hx hb dX9_puts_19 (by decide) (fun c2 => ?_) (fun c2 => ?_)
    · have hk := ok_p c2 hk
      exact hE l4 (ok_s hk) _ _ _ w (lv_sub hl [0, 1, 2, 3, 4, 5] rfl)
    · have hk := ok_n c2 hk
      refine lv_lload hx hb dX9_puts_22 (lv_at hl 4 rfl) ?_
      refine lv_aload_n hx hb dX9_puts_24 rfl (lv_at hl 0 rfl) ?_
      refine lv_bipush (v := 6) hx hb dX9_puts_25 (by decide) ?_
      refine lv_iload hx hb dX9_puts_27 (lv_at hl 5 rfl) ?_
      refine lv_iload hx hb dX9_puts_29 (lv_at hl 6 rfl) ?_
      obtain ⟨c5, hk⟩ := ok_c hk
      obtain ⟨q3, e4, hk⟩ := ok_b hk
      refine zVi X w (n := 3) (As := [.int (6 : Int32), .int i6, .int i7]) (rest := [.long l4]) (ci := 9) (C := RX9) (T := TX9) (N := 23) (c_X9_at l D cy G M r0 (6 : Int32) i6 i7 e4) (gzV wm_X9_70 wi_X9_at ws_X9_at wn_X9 wc_X9_at) rfl rfl rfl (by decide +kernel) (by decide) rfl c5 rfl rfl hl.1 (Nat.le_of_ble_eq_true rfl) dX9_puts_31 ⟨Nat.zero_le _, Nat.zero_le _⟩ (fun H locs w => ?_)
      refine lv_i2l hx hb dX9_puts_34 rfl ?_
      obtain ⟨q6, e7, hk⟩ := ok_b hk
      refine zSl X w (n := 2) (As := [.long l4, .long (Int32.toInt64 q3)]) (rest := []) (c_X9_common l D cy G M l4 (Int32.toInt64 q3) e7) (gzS wm_X9_74 wt_X9_common wn_X9 wc_X9_common) rfl rfl rfl (by decide +kernel) (by decide) rfl rfl hl.1 (Nat.le_of_ble_eq_true rfl) dX9_puts_35 ⟨Nat.zero_le _, Nat.zero_le _⟩ (fun H locs w => ?_)
      refine lv_lstore (lv' := [(4, .long q6), (0, .ref r0), (1, .int i1), (2, .int i2), (3, .int i3), (6, .int i6), (7, .int i7)]) hx hb dX9_puts_38 hl (by decide) rfl (fun ls hl => ?_)
      refine lv_iinc (v := (i7 + 1)) (lv' := [(7, .int (i7 + 1)), (4, .long q6), (0, .ref r0), (1, .int i1), (2, .int i2), (3, .int i3), (6, .int i6)]) hx hb dX9_puts_40 hl (k := 6) rfl rfl (by decide) rfl (fun ls hl => ?_)
      refine lv_goto (tgt := 16) hx hb dX9_puts_43 (by decide) ?_
      exact hrec q6 (i7 + 1) _ _ _ w (lv_sub hl [2, 3, 4, 5, 1, 6, 0] rfl) hk
theorem wl_X9_puts_16 {p : Program} {l : Launch} {e : Env} {s : State} {m : MethodId} {args : Array Value} {below : List Frame} {meth : Method} {c : Code} {D : va_G} {cy : Cyy} {A : Nat → Prop} {G : Gg} (X : Cx p m c cX9_puts 9 s args wz_X9_puts RX9 D cy) {Q : State → Prop} (M : Mm) (r0 : Nat) (i1 : Int32) (i2 : Int32) (i3 : Int32) (i6 : Int32) (Qo : Int64 → Prop)  (hE : ∀ (y : Int64), Qo (y) → ∀ (H : Heap) (locs : List Loc) (ls : Array Slot), Wo s D cy A G M H locs → lv_has ls 9 [(0, .ref r0), (1, .int i1), (2, .int i2), (3, .int i3), (4, .long y), (6, .int i6)] → W p l e rm_X9_puts s m args below meth c H locs 0 0 Q (F0 m 46 ls [])) : ∀ (n : Nat) (l4 : Int64) (i7 : Int32) (H : Heap) (locs : List Loc) (ls : Array Slot), Wo s D cy A G M H locs → lv_has ls 9 [(0, .ref r0), (1, .int i1), (2, .int i2), (3, .int i3), (4, .long l4), (6, .int i6), (7, .int i7)] → OK (lp_X9_puts_16 G M r0 i1 i2 i3 i6 n l4 i7) Qo → W p l e rm_X9_puts s m args below meth c H locs 0 0 Q (F0 m 16 ls []) := by
  intro n
  induction n with
  | zero => intro l4 i7 H locs ls w hl hk; exact ok_0 hk
  | succ n ih => intro l4 i7 H locs ls w hl hk; exact wb_X9_puts_16 X M r0 i1 i2 i3 i6 Qo hE  (lp_X9_puts_16 G M r0 i1 i2 i3 i6 n) ih l4 i7 H locs ls w hl hk
set_option maxHeartbeats 4000000 in
set_option maxRecDepth 100000 in
theorem wb_X9_puts_7 {p : Program} {l : Launch} {e : Env} {s : State} {m : MethodId} {args : Array Value} {below : List Frame} {meth : Method} {c : Code} {D : va_G} {cy : Cyy} {A : Nat → Prop} {G : Gg} (X : Cx p m c cX9_puts 9 s args wz_X9_puts RX9 D cy) {Q : State → Prop} (M : Mm) (r0 : Nat) (i1 : Int32) (i2 : Int32) (i3 : Int32) (Qo : Int64 → Prop)  (hE : ∀ (y : Int64), Qo (y) → ∀ (H : Heap) (locs : List Loc) (ls : Array Slot), Wo s D cy A G M H locs → lv_has ls 9 [(0, .ref r0), (1, .int i1), (2, .int i2), (3, .int i3), (4, .long y)] → W p l e rm_X9_puts s m args below meth c H locs 0 0 Q (F0 m 52 ls [])) (rec : Int64 → Int32 → Option (Int64)) (hrec : ∀ (l4 : Int64) (i6 : Int32) (H : Heap) (locs : List Loc) (ls : Array Slot), Wo s D cy A G M H locs → lv_has ls 9 [(0, .ref r0), (1, .int i1), (2, .int i2), (3, .int i3), (4, .long l4), (6, .int i6)] → OK (rec l4 i6) Qo → W p l e rm_X9_puts s m args below meth c H locs 0 0 Q (F0 m 7 ls [])) (l4 : Int64) (i6 : Int32) (H : Heap) (locs : List Loc) (ls : Array Slot) (w : Wo s D cy A G M H locs) (hl : lv_has ls 9 [(0, .ref r0), (1, .int i1), (2, .int i2), (3, .int i3), (4, .long l4), (6, .int i6)]) (hk : OK (bd_X9_puts_7 G M r0 i1 i2 i3 rec l4 i6) Qo) : W p l e rm_X9_puts s m args below meth c H locs 0 0 Q (F0 m 7 ls []) := by
    have hx := X.1.1
    have hb := X.1.2.1
    unfold bd_X9_puts_7 at hk
    refine lv_iload hx hb dX9_puts_7 (lv_at hl 5 rfl) ?_
    refine lv_iload_n hx hb dX9_puts_9 rfl (lv_at hl 2 rfl) ?_
    refine lv_icmp_ge (tgt := 52) hx hb dX9_puts_10 (by decide) (fun c1 => ?_) (fun c1 => ?_)
    · have hk := ok_p c1 hk
      exact hE l4 (ok_s hk) _ _ _ w (lv_sub hl [0, 1, 2, 3, 4] rfl)
    · have hk := ok_n c1 hk
      refine lv_iconst (v := 0) hx hb dX9_puts_13 (by decide) ?_
      refine lv_istore (lv' := [(7, .int (0 : Int32)), (0, .ref r0), (1, .int i1), (2, .int i2), (3, .int i3), (4, .long l4), (6, .int i6)]) hx hb dX9_puts_14 hl (by decide) rfl (fun ls hl => ?_)
      refine wl_X9_puts_16 X M r0 i1 i2 i3 i6 (Qo := _) (fun q8 hk H locs ls w hl => ?_) FU l4 (0 : Int32) _ _ _ w (lv_sub hl [1, 2, 3, 4, 5, 6, 0] rfl) (ok_b hk)
      refine lv_iinc (v := (i6 + 1)) (lv' := [(6, .int (i6 + 1)), (0, .ref r0), (1, .int i1), (2, .int i2), (3, .int i3), (4, .long q8)]) hx hb dX9_puts_46 hl (k := 5) rfl rfl (by decide) rfl (fun ls hl => ?_)
      refine lv_goto (tgt := 7) hx hb dX9_puts_49 (by decide) ?_
      exact hrec q8 (i6 + 1) _ _ _ w (lv_sub hl [1, 2, 3, 4, 5, 0] rfl) hk
theorem wl_X9_puts_7 {p : Program} {l : Launch} {e : Env} {s : State} {m : MethodId} {args : Array Value} {below : List Frame} {meth : Method} {c : Code} {D : va_G} {cy : Cyy} {A : Nat → Prop} {G : Gg} (X : Cx p m c cX9_puts 9 s args wz_X9_puts RX9 D cy) {Q : State → Prop} (M : Mm) (r0 : Nat) (i1 : Int32) (i2 : Int32) (i3 : Int32) (Qo : Int64 → Prop)  (hE : ∀ (y : Int64), Qo (y) → ∀ (H : Heap) (locs : List Loc) (ls : Array Slot), Wo s D cy A G M H locs → lv_has ls 9 [(0, .ref r0), (1, .int i1), (2, .int i2), (3, .int i3), (4, .long y)] → W p l e rm_X9_puts s m args below meth c H locs 0 0 Q (F0 m 52 ls [])) : ∀ (n : Nat) (l4 : Int64) (i6 : Int32) (H : Heap) (locs : List Loc) (ls : Array Slot), Wo s D cy A G M H locs → lv_has ls 9 [(0, .ref r0), (1, .int i1), (2, .int i2), (3, .int i3), (4, .long l4), (6, .int i6)] → OK (lp_X9_puts_7 G M r0 i1 i2 i3 n l4 i6) Qo → W p l e rm_X9_puts s m args below meth c H locs 0 0 Q (F0 m 7 ls []) := by
  intro n
  induction n with
  | zero => intro l4 i6 H locs ls w hl hk; exact ok_0 hk
  | succ n ih => intro l4 i6 H locs ls w hl hk; exact wb_X9_puts_7 X M r0 i1 i2 i3 Qo hE  (lp_X9_puts_7 G M r0 i1 i2 i3 n) ih l4 i6 H locs ls w hl hk
set_option maxHeartbeats 4000000 in
set_option maxRecDepth 100000 in
theorem wb_X9_puts_80 {p : Program} {l : Launch} {e : Env} {s : State} {m : MethodId} {args : Array Value} {below : List Frame} {meth : Method} {c : Code} {D : va_G} {cy : Cyy} {A : Nat → Prop} {G : Gg} (X : Cx p m c cX9_puts 9 s args wz_X9_puts RX9 D cy) {Q : State → Prop} (r0 : Nat) (i1 : Int32) (i2 : Int32) (l4 : Int64) (i6 : Int32) (i7 : Int32) (Qo : Mm → Prop)  (hE : ∀ (y : Mm), Qo (y) → ∀ (H : Heap) (locs : List Loc) (ls : Array Slot), Wo s D cy A G y H locs → lv_has ls 9 [(0, .ref r0), (1, .int i1), (2, .int i2), (4, .long l4), (6, .int i6), (7, .int i7)] → W p l e rm_X9_puts s m args below meth c H locs 0 0 Q (F0 m 124 ls [])) (rec : Int32 → Mm → Option (Mm)) (hrec : ∀ (i8 : Int32) (M : Mm) (H : Heap) (locs : List Loc) (ls : Array Slot), Wo s D cy A G M H locs → lv_has ls 9 [(0, .ref r0), (1, .int i1), (2, .int i2), (4, .long l4), (6, .int i6), (7, .int i7), (8, .int i8)] → OK (rec i8 M) Qo → W p l e rm_X9_puts s m args below meth c H locs 0 0 Q (F0 m 80 ls [])) (i8 : Int32) (M : Mm) (H : Heap) (locs : List Loc) (ls : Array Slot) (w : Wo s D cy A G M H locs) (hl : lv_has ls 9 [(0, .ref r0), (1, .int i1), (2, .int i2), (4, .long l4), (6, .int i6), (7, .int i7), (8, .int i8)]) (hk : OK (bd_X9_puts_80 G r0 i1 i2 l4 i6 i7 rec i8 M) Qo) : W p l e rm_X9_puts s m args below meth c H locs 0 0 Q (F0 m 80 ls []) := by
    have hx := X.1.1
    have hb := X.1.2.1
    unfold bd_X9_puts_80 at hk
    refine lv_iload hx hb dX9_puts_80 (lv_at hl 6 rfl) ?_
    refine lv_iload_n hx hb dX9_puts_82 rfl (lv_at hl 2 rfl) ?_
    refine lv_icmp_ge (tgt := 124) hx hb dX9_puts_83 (by decide) (fun c13 => ?_) (fun c13 => ?_)
    · have hk := ok_p c13 hk
      exact hE M (ok_s hk) _ _ _ w (lv_sub hl [0, 1, 2, 3, 4, 5] rfl)
    · have hk := ok_n c13 hk
      refine lv_aload_n hx hb dX9_puts_86 rfl (lv_at hl 0 rfl) ?_
      obtain ⟨c14, hk⟩ := ok_c hk
      obtain ⟨r15, e16, hk⟩ := ok_b hk
      refine zgr X w 9 5 19 (C := RX9) (T := TX9) (N := 23) rfl ui_X9 (by decide) rfl (tb wf_X9_19) dX9_puts_87 c14 e16 ?_
      refine lv_bipush (v := 64) hx hb dX9_puts_90 (by decide) ?_
      refine lv_iload_n hx hb dX9_puts_92 rfl (lv_at hl 1 rfl) ?_
      refine lv_imul hx hb dX9_puts_93 ?_
      refine lv_bipush (v := 8) hx hb dX9_puts_94 (by decide) ?_
      refine lv_iload hx hb dX9_puts_96 (lv_at hl 5 rfl) ?_
      refine lv_imul hx hb dX9_puts_98 ?_
      refine lv_iadd hx hb dX9_puts_99 ?_
      refine lv_iload hx hb dX9_puts_100 (lv_at hl 6 rfl) ?_
      refine lv_iadd hx hb dX9_puts_102 ?_
      refine lv_aload_n hx hb dX9_puts_103 rfl (lv_at hl 0 rfl) ?_
      refine lv_bipush (v := 6) hx hb dX9_puts_104 (by decide) ?_
      refine lv_iload hx hb dX9_puts_106 (lv_at hl 5 rfl) ?_
      refine lv_iload hx hb dX9_puts_108 (lv_at hl 6 rfl) ?_
      obtain ⟨q17, e18, hk⟩ := ok_b hk
      refine zVi X w (n := 3) (As := [.int (6 : Int32), .int i7, .int i8]) (rest := [.int ((((64 : Int32) * i1) + ((8 : Int32) * i7)) + i8), .ref r15]) (ci := 9) (C := RX9) (T := TX9) (N := 23) (c_X9_at l D cy G M r0 (6 : Int32) i7 i8 e18) (gzV wm_X9_70 wi_X9_at ws_X9_at wn_X9 wc_X9_at) rfl rfl rfl (by decide +kernel) (by decide) rfl c14 rfl rfl hl.1 (Nat.le_of_ble_eq_true rfl) dX9_puts_110 ⟨Nat.zero_le _, Nat.zero_le _⟩ (fun H locs w => ?_)
      refine lv_lload hx hb dX9_puts_113 (lv_at hl 3 rfl) ?_
      refine lv_l2i hx hb dX9_puts_115 rfl ?_
      obtain ⟨c19, hk⟩ := ok_c hk
      refine lv_idiv hx hb dX9_puts_116 c19 ?_
      obtain ⟨c20, hk⟩ := ok_c hk
      obtain ⟨c21, hk⟩ := ok_c hk
      refine zsi X w dX9_puts_117 c20 c21 (fun H locs w => ?_)
      refine lv_iinc (v := (i8 + 1)) (lv' := [(8, .int (i8 + 1)), (0, .ref r0), (1, .int i1), (2, .int i2), (4, .long l4), (6, .int i6), (7, .int i7)]) hx hb dX9_puts_118 hl (k := 6) rfl rfl (by decide) rfl (fun ls hl => ?_)
      refine lv_goto (tgt := 80) hx hb dX9_puts_121 (by decide) ?_
      exact hrec (i8 + 1) (mwI M r15 (Int32.toNatClampNeg ((((64 : Int32) * i1) + ((8 : Int32) * i7)) + i8)) (q17 / (Int64.toInt32 l4))) _ _ _ w (lv_sub hl [1, 2, 3, 4, 5, 6, 0] rfl) hk
theorem wl_X9_puts_80 {p : Program} {l : Launch} {e : Env} {s : State} {m : MethodId} {args : Array Value} {below : List Frame} {meth : Method} {c : Code} {D : va_G} {cy : Cyy} {A : Nat → Prop} {G : Gg} (X : Cx p m c cX9_puts 9 s args wz_X9_puts RX9 D cy) {Q : State → Prop} (r0 : Nat) (i1 : Int32) (i2 : Int32) (l4 : Int64) (i6 : Int32) (i7 : Int32) (Qo : Mm → Prop)  (hE : ∀ (y : Mm), Qo (y) → ∀ (H : Heap) (locs : List Loc) (ls : Array Slot), Wo s D cy A G y H locs → lv_has ls 9 [(0, .ref r0), (1, .int i1), (2, .int i2), (4, .long l4), (6, .int i6), (7, .int i7)] → W p l e rm_X9_puts s m args below meth c H locs 0 0 Q (F0 m 124 ls [])) : ∀ (n : Nat) (i8 : Int32) (M : Mm) (H : Heap) (locs : List Loc) (ls : Array Slot), Wo s D cy A G M H locs → lv_has ls 9 [(0, .ref r0), (1, .int i1), (2, .int i2), (4, .long l4), (6, .int i6), (7, .int i7), (8, .int i8)] → OK (lp_X9_puts_80 G r0 i1 i2 l4 i6 i7 n i8 M) Qo → W p l e rm_X9_puts s m args below meth c H locs 0 0 Q (F0 m 80 ls []) := by
  intro n
  induction n with
  | zero => intro i8 M H locs ls w hl hk; exact ok_0 hk
  | succ n ih => intro i8 M H locs ls w hl hk; exact wb_X9_puts_80 X r0 i1 i2 l4 i6 i7 Qo hE  (lp_X9_puts_80 G r0 i1 i2 l4 i6 i7 n) ih i8 M H locs ls w hl hk
set_option maxHeartbeats 4000000 in
set_option maxRecDepth 100000 in
theorem wb_X9_puts_71 {p : Program} {l : Launch} {e : Env} {s : State} {m : MethodId} {args : Array Value} {below : List Frame} {meth : Method} {c : Code} {D : va_G} {cy : Cyy} {A : Nat → Prop} {G : Gg} (X : Cx p m c cX9_puts 9 s args wz_X9_puts RX9 D cy) {Q : State → Prop} (r0 : Nat) (i1 : Int32) (i2 : Int32) (l4 : Int64) (i6 : Int32) (Qo : Mm → Prop)  (hE : ∀ (y : Mm), Qo (y) → ∀ (H : Heap) (locs : List Loc) (ls : Array Slot), Wo s D cy A G y H locs → lv_has ls 9 [(0, .ref r0), (1, .int i1), (2, .int i2), (6, .int i6)] → W p l e rm_X9_puts s m args below meth c H locs 0 0 Q (F0 m 130 ls [])) (rec : Int32 → Mm → Option (Mm)) (hrec : ∀ (i7 : Int32) (M : Mm) (H : Heap) (locs : List Loc) (ls : Array Slot), Wo s D cy A G M H locs → lv_has ls 9 [(0, .ref r0), (1, .int i1), (2, .int i2), (4, .long l4), (6, .int i6), (7, .int i7)] → OK (rec i7 M) Qo → W p l e rm_X9_puts s m args below meth c H locs 0 0 Q (F0 m 71 ls [])) (i7 : Int32) (M : Mm) (H : Heap) (locs : List Loc) (ls : Array Slot) (w : Wo s D cy A G M H locs) (hl : lv_has ls 9 [(0, .ref r0), (1, .int i1), (2, .int i2), (4, .long l4), (6, .int i6), (7, .int i7)]) (hk : OK (bd_X9_puts_71 G r0 i1 i2 l4 i6 rec i7 M) Qo) : W p l e rm_X9_puts s m args below meth c H locs 0 0 Q (F0 m 71 ls []) := by
    have hx := X.1.1
    have hb := X.1.2.1
    unfold bd_X9_puts_71 at hk
    refine lv_iload hx hb dX9_puts_71 (lv_at hl 5 rfl) ?_
    refine lv_iload_n hx hb dX9_puts_73 rfl (lv_at hl 2 rfl) ?_
    refine lv_icmp_ge (tgt := 130) hx hb dX9_puts_74 (by decide) (fun c12 => ?_) (fun c12 => ?_)
    · have hk := ok_p c12 hk
      exact hE M (ok_s hk) _ _ _ w (lv_sub hl [0, 1, 2, 4] rfl)
    · have hk := ok_n c12 hk
      refine lv_iconst (v := 0) hx hb dX9_puts_77 (by decide) ?_
      refine lv_istore (lv' := [(8, .int (0 : Int32)), (0, .ref r0), (1, .int i1), (2, .int i2), (4, .long l4), (6, .int i6), (7, .int i7)]) hx hb dX9_puts_78 hl (by decide) rfl (fun ls hl => ?_)
      refine wl_X9_puts_80 X r0 i1 i2 l4 i6 i7 (Qo := _) (fun q22 hk H locs ls w hl => ?_) FU (0 : Int32) M _ _ _ w (lv_sub hl [1, 2, 3, 4, 5, 6, 0] rfl) (ok_b hk)
      refine lv_iinc (v := (i7 + 1)) (lv' := [(7, .int (i7 + 1)), (0, .ref r0), (1, .int i1), (2, .int i2), (4, .long l4), (6, .int i6)]) hx hb dX9_puts_124 hl (k := 5) rfl rfl (by decide) rfl (fun ls hl => ?_)
      refine lv_goto (tgt := 71) hx hb dX9_puts_127 (by decide) ?_
      exact hrec (i7 + 1) q22 _ _ _ w (lv_sub hl [1, 2, 3, 4, 5, 0] rfl) hk
theorem wl_X9_puts_71 {p : Program} {l : Launch} {e : Env} {s : State} {m : MethodId} {args : Array Value} {below : List Frame} {meth : Method} {c : Code} {D : va_G} {cy : Cyy} {A : Nat → Prop} {G : Gg} (X : Cx p m c cX9_puts 9 s args wz_X9_puts RX9 D cy) {Q : State → Prop} (r0 : Nat) (i1 : Int32) (i2 : Int32) (l4 : Int64) (i6 : Int32) (Qo : Mm → Prop)  (hE : ∀ (y : Mm), Qo (y) → ∀ (H : Heap) (locs : List Loc) (ls : Array Slot), Wo s D cy A G y H locs → lv_has ls 9 [(0, .ref r0), (1, .int i1), (2, .int i2), (6, .int i6)] → W p l e rm_X9_puts s m args below meth c H locs 0 0 Q (F0 m 130 ls [])) : ∀ (n : Nat) (i7 : Int32) (M : Mm) (H : Heap) (locs : List Loc) (ls : Array Slot), Wo s D cy A G M H locs → lv_has ls 9 [(0, .ref r0), (1, .int i1), (2, .int i2), (4, .long l4), (6, .int i6), (7, .int i7)] → OK (lp_X9_puts_71 G r0 i1 i2 l4 i6 n i7 M) Qo → W p l e rm_X9_puts s m args below meth c H locs 0 0 Q (F0 m 71 ls []) := by
  intro n
  induction n with
  | zero => intro i7 M H locs ls w hl hk; exact ok_0 hk
  | succ n ih => intro i7 M H locs ls w hl hk; exact wb_X9_puts_71 X r0 i1 i2 l4 i6 Qo hE  (lp_X9_puts_71 G r0 i1 i2 l4 i6 n) ih i7 M H locs ls w hl hk
set_option maxHeartbeats 4000000 in
set_option maxRecDepth 100000 in
theorem c_X9_puts (l : Launch) (D : va_G) (cy : Cyy) (G : Gg) (M : Mm) (r0 : Nat) (i1 : Int32) (i2 : Int32) (i3 : Int32) {q : Int32 × Mm} (hm : f_X9_puts G M r0 i1 i2 i3 = some q) : CI l yX9_puts wz_X9_puts rm_X9_puts D cy G M [.ref r0, .int i1, .int i2, .int i3] q.1 q.2 := by
  refine Met_of (Qf := fun A => QI D cy G A q.1 q.2) (cc := cX9_puts) (nL := 9) (ret := (some .int)) (own := RX9) (lv := [(0, .ref r0), (1, .int i1), (2, .int i2), (3, .int i3)]) (by decide) rfl rfl (Nat.le_of_ble_eq_true rfl) rfl ?_
  intro p e s m args below meth c A ls X hr hlk w hl
  have hx := X.1.1
  have hb := X.1.2.1
  obtain ⟨Qo, hR, hk⟩ : ∃ Qo : Int32 × Mm → Prop, (∀ x, Qo x → x = q) ∧ OK (f_X9_puts G M r0 i1 i2 i3) Qo := ⟨fun x => x = q, fun _ h => h, q, hm, rfl⟩
  unfold f_X9_puts at hk
  refine lv_iload_n hx hb dX9_puts_0 rfl (lv_at hl 3 rfl) ?_
  refine lv_i2l hx hb dX9_puts_1 rfl ?_
  refine lv_lstore (lv' := [(4, .long (Int32.toInt64 i3)), (0, .ref r0), (1, .int i1), (2, .int i2), (3, .int i3)]) hx hb dX9_puts_2 hl (by decide) rfl (fun ls hl => ?_)
  refine lv_iconst (v := 0) hx hb dX9_puts_4 (by decide) ?_
  refine lv_istore (lv' := [(6, .int (0 : Int32)), (4, .long (Int32.toInt64 i3)), (0, .ref r0), (1, .int i1), (2, .int i2), (3, .int i3)]) hx hb dX9_puts_5 hl (by decide) rfl (fun ls hl => ?_)
  refine wl_X9_puts_7 X M r0 i1 i2 i3 (Qo := _) (fun q9 hk H locs ls w hl => ?_) FU (Int32.toInt64 i3) (0 : Int32) _ _ _ w (lv_sub hl [2, 3, 4, 5, 1, 0] rfl) (ok_b hk)
  refine lv_iload_n hx hb dX9_puts_52 rfl (lv_at hl 3 rfl) ?_
  refine lv_lload hx hb dX9_puts_53 (lv_at hl 4 rfl) ?_
  refine lv_l2i hx hb dX9_puts_55 rfl ?_
  obtain ⟨c10, hk⟩ := ok_c hk
  refine lv_idiv hx hb dX9_puts_56 c10 ?_
  refine lv_istore (lv' := [(6, .int (i3 / (Int64.toInt32 q9))), (0, .ref r0), (1, .int i1), (2, .int i2), (3, .int i3), (4, .long q9)]) hx hb dX9_puts_57 hl (by decide) rfl (fun ls hl => ?_)
  refine lv_iload hx hb dX9_puts_59 (lv_at hl 0 rfl) ?_
  refine lv_bipush (v := 60) hx hb dX9_puts_61 (by decide) ?_
  refine lv_icmp_le (tgt := 68) hx hb dX9_puts_63 (by decide) (fun c11 => ?_) (fun c11 => ?_)
  · have hk := ok_p c11 hk
    refine lv_iconst (v := 0) hx hb dX9_puts_68 (by decide) ?_
    refine lv_istore (lv' := [(7, .int (0 : Int32)), (6, .int (i3 / (Int64.toInt32 q9))), (0, .ref r0), (1, .int i1), (2, .int i2), (3, .int i3), (4, .long q9)]) hx hb dX9_puts_69 hl (by decide) rfl (fun ls hl => ?_)
    refine wl_X9_puts_71 X r0 i1 i2 q9 (i3 / (Int64.toInt32 q9)) (Qo := _) (fun q23 hk H locs ls w hl => ?_) FU (0 : Int32) M _ _ _ w (lv_sub hl [2, 3, 4, 6, 1, 0] rfl) (ok_b hk)
    refine lv_aload_n hx hb dX9_puts_130 rfl (lv_at hl 0 rfl) ?_
    obtain ⟨c24, hk⟩ := ok_c hk
    obtain ⟨r25, e26, hk⟩ := ok_b hk
    refine zgr X w 9 3 13 (C := RX9) (T := TX9) (N := 23) rfl ui_X9 (by decide) rfl (tb wf_X9_13) dX9_puts_131 c24 e26 ?_
    refine lv_iload_n hx hb dX9_puts_134 rfl (lv_at hl 1 rfl) ?_
    refine lv_iload_n hx hb dX9_puts_135 rfl (lv_at hl 2 rfl) ?_
    obtain ⟨c27, hk⟩ := ok_c hk
    obtain ⟨c28, hk⟩ := ok_c hk
    refine zsi X w dX9_puts_136 c27 c28 (fun H locs w => ?_)
    refine lv_aload_n hx hb dX9_puts_137 rfl (lv_at hl 0 rfl) ?_
    obtain ⟨r29, e30, hk⟩ := ok_b hk
    refine zgr X w 9 4 16 (C := RX9) (T := TX9) (N := 23) rfl ui_X9 (by decide) rfl (tb wf_X9_16) dX9_puts_138 c24 e30 ?_
    refine lv_iload_n hx hb dX9_puts_141 rfl (lv_at hl 1 rfl) ?_
    refine lv_iload hx hb dX9_puts_142 (lv_at hl 3 rfl) ?_
    obtain ⟨c31, hk⟩ := ok_c hk
    obtain ⟨c32, hk⟩ := ok_c hk
    refine zsi X w dX9_puts_144 c31 c32 (fun H locs w => ?_)
    refine lv_iload hx hb dX9_puts_145 (lv_at hl 3 rfl) ?_
    have hk := hR _ (ok_s hk)
    exact zri X hr hlk w dX9_puts_147 (pr1 hk) (pr2 hk)
  · have hk := ok_n c11 hk
    refine lv_iconst (v := (-1)) hx hb dX9_puts_66 (by decide) ?_
    have hk := hR _ (ok_s hk)
    exact zri X hr hlk w dX9_puts_67 (pr1 hk) (pr2 hk)
abbrev rm_X9_make : Room := { frames := 0, cells := 0, slots := 0, locals := 0 }
set_option maxHeartbeats 4000000 in
set_option maxRecDepth 100000 in
theorem c_X9_make (l : Launch) (D : va_G) (cy : Cyy) (G : Gg) (M : Mm) (r0 : Nat) (i1 : Int32) (i2 : Int32) (i3 : Int32) {q : Mm} (hm : f_X9_make G M r0 i1 i2 i3 = some q) : CV l yX9_make wz_X9_make rm_X9_make D cy G M [.ref r0, .int i1, .int i2, .int i3] q := by
  refine Met_of (Qf := fun A => QV D cy G A q) (cc := cX9_make) (nL := 4) (ret := none) (own := RX9) (lv := [(0, .ref r0), (1, .int i1), (2, .int i2), (3, .int i3)]) (by decide) rfl rfl (Nat.le_of_ble_eq_true rfl) rfl ?_
  intro p e s m args below meth c A ls X hr hlk w hl
  have hx := X.1.1
  have hb := X.1.2.1
  obtain ⟨Qo, hR, hk⟩ : ∃ Qo : Mm → Prop, (∀ x, Qo x → x = q) ∧ OK (f_X9_make G M r0 i1 i2 i3) Qo := ⟨fun x => x = q, fun _ h => h, q, hm, rfl⟩
  unfold f_X9_make at hk
  refine lv_aload_n hx hb dX9_make_0 rfl (lv_at hl 0 rfl) ?_
  obtain ⟨c1, hk⟩ := ok_c hk
  obtain ⟨r2, e3, hk⟩ := ok_b hk
  refine zgr X w 9 5 19 (C := RX9) (T := TX9) (N := 23) rfl ui_X9 (by decide) rfl (tb wf_X9_19) dX9_make_1 c1 e3 ?_
  refine lv_sipush (v := 384) hx hb dX9_make_4 (by decide) ?_
  refine lv_bipush (v := 8) hx hb dX9_make_7 (by decide) ?_
  refine lv_iload_n hx hb dX9_make_9 rfl (lv_at hl 1 rfl) ?_
  refine lv_imul hx hb dX9_make_10 ?_
  refine lv_iadd hx hb dX9_make_11 ?_
  refine lv_iload_n hx hb dX9_make_12 rfl (lv_at hl 2 rfl) ?_
  refine lv_iadd hx hb dX9_make_13 ?_
  refine lv_iload_n hx hb dX9_make_14 rfl (lv_at hl 3 rfl) ?_
  obtain ⟨c4, hk⟩ := ok_c hk
  obtain ⟨c5, hk⟩ := ok_c hk
  refine zsi X w dX9_make_15 c4 c5 (fun H locs w => ?_)
  have hk := hR _ (ok_s hk)
  exact zrv X hr hlk w dX9_make_16 hk
abbrev rm_X9_sheet : Room := { frames := 2, cells := 0, slots := 0, locals := 57 }
set_option maxHeartbeats 4000000 in
set_option maxRecDepth 100000 in
theorem wb_X9_sheet_70 {p : Program} {l : Launch} {e : Env} {s : State} {m : MethodId} {args : Array Value} {below : List Frame} {meth : Method} {c : Code} {D : va_G} {cy : Cyy} {A : Nat → Prop} {G : Gg} (X : Cx p m c cX9_sheet 8 s args wz_X9_sheet RX9 D cy) {Q : State → Prop} (r0 : Nat) (i1 : Int32) (i2 : Int32) (i3 : Int32) (i5 : Int32) (Qo : Int32 × Mm → Prop)  (hE : ∀ (y : Int32 × Mm), Qo (y) → ∀ (H : Heap) (locs : List Loc) (ls : Array Slot), Wo s D cy A G y.2 H locs → lv_has ls 8 [(0, .ref r0), (1, .int i1), (2, .int i2), (3, .int i3), (5, .int i5), (6, .int y.1)] → W p l e rm_X9_sheet s m args below meth c H locs 0 0 Q (F0 m 119 ls [])) (rec : Int32 → Int32 → Mm → Option (Int32 × Mm)) (hrec : ∀ (i6 : Int32) (i7 : Int32) (M : Mm) (H : Heap) (locs : List Loc) (ls : Array Slot), Wo s D cy A G M H locs → lv_has ls 8 [(0, .ref r0), (1, .int i1), (2, .int i2), (3, .int i3), (5, .int i5), (6, .int i6), (7, .int i7)] → OK (rec i6 i7 M) Qo → W p l e rm_X9_sheet s m args below meth c H locs 0 0 Q (F0 m 70 ls [])) (i6 : Int32) (i7 : Int32) (M : Mm) (H : Heap) (locs : List Loc) (ls : Array Slot) (w : Wo s D cy A G M H locs) (hl : lv_has ls 8 [(0, .ref r0), (1, .int i1), (2, .int i2), (3, .int i3), (5, .int i5), (6, .int i6), (7, .int i7)]) (hk : OK (bd_X9_sheet_70 G r0 i1 i2 i3 i5 rec i6 i7 M) Qo) : W p l e rm_X9_sheet s m args below meth c H locs 0 0 Q (F0 m 70 ls []) := by
    have hx := X.1.1
    have hb := X.1.2.1
    unfold bd_X9_sheet_70 at hk
    refine lv_iload hx hb dX9_sheet_70 (lv_at hl 6 rfl) ?_
    refine lv_iload_n hx hb dX9_sheet_72 rfl (lv_at hl 2 rfl) ?_
    refine lv_icmp_ge (tgt := 119) hx hb dX9_sheet_73 (by decide) (fun c11 => ?_) (fun c11 => ?_)
    · have hk := ok_p c11 hk
      exact hE (i6, M) (ok_s hk) _ _ _ w (lv_sub hl [0, 1, 2, 3, 4, 5] rfl)
    · have hk := ok_n c11 hk
      refine lv_aload_n hx hb dX9_sheet_76 rfl (lv_at hl 0 rfl) ?_
      refine lv_iload hx hb dX9_sheet_77 (lv_at hl 4 rfl) ?_
      refine lv_iload hx hb dX9_sheet_79 (lv_at hl 6 rfl) ?_
      refine lv_aload_n hx hb dX9_sheet_81 rfl (lv_at hl 0 rfl) ?_
      obtain ⟨c12, hk⟩ := ok_c hk
      obtain ⟨r13, e14, hk⟩ := ok_b hk
      refine zgr X w 9 1 7 (C := RX9) (T := TX9) (N := 23) rfl ui_X9 (by decide) rfl (tb wf_X9_7) dX9_sheet_82 c12 e14 ?_
      refine lv_iload_n hx hb dX9_sheet_85 rfl (lv_at hl 2 rfl) ?_
      refine lv_iload hx hb dX9_sheet_86 (lv_at hl 4 rfl) ?_
      refine lv_imul hx hb dX9_sheet_88 ?_
      refine lv_iload hx hb dX9_sheet_89 (lv_at hl 6 rfl) ?_
      refine lv_iadd hx hb dX9_sheet_91 ?_
      obtain ⟨c15, hk⟩ := ok_c hk
      obtain ⟨c16, hk⟩ := ok_c hk
      refine zai X w dX9_sheet_92 c15 c16 ?_
      obtain ⟨q17, e18, hk⟩ := ok_b hk
      refine zVv X w (n := 3) (As := [.int i5, .int i7, .int (M.1 r13 (Int32.toNatClampNeg ((i2 * i5) + i7)))]) (rest := []) (ci := 9) (C := RX9) (T := TX9) (N := 23) (c_X9_make l D cy G M r0 i5 i7 (M.1 r13 (Int32.toNatClampNeg ((i2 * i5) + i7))) e18) (gzV wm_X9_82 wi_X9_make ws_X9_make wn_X9 wc_X9_make) rfl rfl rfl (by decide +kernel) (by decide) rfl c12 rfl rfl hl.1 (Nat.le_of_ble_eq_true rfl) dX9_sheet_93 ⟨Nat.zero_le _, Nat.zero_le _⟩ (fun H locs w => ?_)
      refine lv_iload hx hb dX9_sheet_96 (lv_at hl 5 rfl) ?_
      refine lv_aload_n hx hb dX9_sheet_98 rfl (lv_at hl 0 rfl) ?_
      obtain ⟨r19, e20, hk⟩ := ok_b hk
      refine zgr X w 9 1 7 (C := RX9) (T := TX9) (N := 23) rfl ui_X9 (by decide) rfl (tb wf_X9_7) dX9_sheet_99 c12 e20 ?_
      refine lv_iload_n hx hb dX9_sheet_102 rfl (lv_at hl 2 rfl) ?_
      refine lv_iload hx hb dX9_sheet_103 (lv_at hl 4 rfl) ?_
      refine lv_imul hx hb dX9_sheet_105 ?_
      refine lv_iload hx hb dX9_sheet_106 (lv_at hl 6 rfl) ?_
      refine lv_iadd hx hb dX9_sheet_108 ?_
      obtain ⟨c21, hk⟩ := ok_c hk
      obtain ⟨c22, hk⟩ := ok_c hk
      refine zai X w dX9_sheet_109 c21 c22 ?_
      refine lv_iadd hx hb dX9_sheet_110 ?_
      refine lv_istore (lv' := [(6, .int (i6 + (q17.1 r19 (Int32.toNatClampNeg ((i2 * i5) + i7))))), (0, .ref r0), (1, .int i1), (2, .int i2), (3, .int i3), (5, .int i5), (7, .int i7)]) hx hb dX9_sheet_111 hl (by decide) rfl (fun ls hl => ?_)
      refine lv_iinc (v := (i7 + 1)) (lv' := [(7, .int (i7 + 1)), (6, .int (i6 + (q17.1 r19 (Int32.toNatClampNeg ((i2 * i5) + i7))))), (0, .ref r0), (1, .int i1), (2, .int i2), (3, .int i3), (5, .int i5)]) hx hb dX9_sheet_113 hl (k := 6) rfl rfl (by decide) rfl (fun ls hl => ?_)
      refine lv_goto (tgt := 70) hx hb dX9_sheet_116 (by decide) ?_
      exact hrec (i6 + (q17.1 r19 (Int32.toNatClampNeg ((i2 * i5) + i7)))) (i7 + 1) q17 _ _ _ w (lv_sub hl [2, 3, 4, 5, 6, 1, 0] rfl) hk
theorem wl_X9_sheet_70 {p : Program} {l : Launch} {e : Env} {s : State} {m : MethodId} {args : Array Value} {below : List Frame} {meth : Method} {c : Code} {D : va_G} {cy : Cyy} {A : Nat → Prop} {G : Gg} (X : Cx p m c cX9_sheet 8 s args wz_X9_sheet RX9 D cy) {Q : State → Prop} (r0 : Nat) (i1 : Int32) (i2 : Int32) (i3 : Int32) (i5 : Int32) (Qo : Int32 × Mm → Prop)  (hE : ∀ (y : Int32 × Mm), Qo (y) → ∀ (H : Heap) (locs : List Loc) (ls : Array Slot), Wo s D cy A G y.2 H locs → lv_has ls 8 [(0, .ref r0), (1, .int i1), (2, .int i2), (3, .int i3), (5, .int i5), (6, .int y.1)] → W p l e rm_X9_sheet s m args below meth c H locs 0 0 Q (F0 m 119 ls [])) : ∀ (n : Nat) (i6 : Int32) (i7 : Int32) (M : Mm) (H : Heap) (locs : List Loc) (ls : Array Slot), Wo s D cy A G M H locs → lv_has ls 8 [(0, .ref r0), (1, .int i1), (2, .int i2), (3, .int i3), (5, .int i5), (6, .int i6), (7, .int i7)] → OK (lp_X9_sheet_70 G r0 i1 i2 i3 i5 n i6 i7 M) Qo → W p l e rm_X9_sheet s m args below meth c H locs 0 0 Q (F0 m 70 ls []) := by
  intro n
  induction n with
  | zero => intro i6 i7 M H locs ls w hl hk; exact ok_0 hk
  | succ n ih => intro i6 i7 M H locs ls w hl hk; exact wb_X9_sheet_70 X r0 i1 i2 i3 i5 Qo hE  (lp_X9_sheet_70 G r0 i1 i2 i3 i5 n) ih i6 i7 M H locs ls w hl hk
set_option maxHeartbeats 4000000 in
set_option maxRecDepth 100000 in
theorem wb_X9_sheet_58 {p : Program} {l : Launch} {e : Env} {s : State} {m : MethodId} {args : Array Value} {below : List Frame} {meth : Method} {c : Code} {D : va_G} {cy : Cyy} {A : Nat → Prop} {G : Gg} (X : Cx p m c cX9_sheet 8 s args wz_X9_sheet RX9 D cy) (r0 : Nat) (i1 : Int32) (i2 : Int32) (i3 : Int32) (Qo : (Int32 × Mm) ⊕ (Mm) → Prop) (hr : meth.sig.returnType = (some .int)) (hlk : meth.locks = false) {x0 : Int32 × Mm} (hR : ∀ x, Qo (.inl x) → x = x0) (hE : ∀ (y : Mm), Qo (.inr y) → ∀ (H : Heap) (locs : List Loc) (ls : Array Slot), Wo s D cy A G y H locs → lv_has ls 8 [(0, .ref r0), (1, .int i1), (2, .int i2), (3, .int i3)] → W p l e rm_X9_sheet s m args below meth c H locs 0 0 (MQ below (QI D cy G A x0.1 x0.2) args s 0 0 A) (F0 m 133 ls [])) (rec : Int32 → Mm → Option ((Int32 × Mm) ⊕ (Mm))) (hrec : ∀ (i5 : Int32) (M : Mm) (H : Heap) (locs : List Loc) (ls : Array Slot), Wo s D cy A G M H locs → lv_has ls 8 [(0, .ref r0), (1, .int i1), (2, .int i2), (3, .int i3), (5, .int i5)] → OK (rec i5 M) Qo → W p l e rm_X9_sheet s m args below meth c H locs 0 0 (MQ below (QI D cy G A x0.1 x0.2) args s 0 0 A) (F0 m 58 ls [])) (i5 : Int32) (M : Mm) (H : Heap) (locs : List Loc) (ls : Array Slot) (w : Wo s D cy A G M H locs) (hl : lv_has ls 8 [(0, .ref r0), (1, .int i1), (2, .int i2), (3, .int i3), (5, .int i5)]) (hk : OK (bd_X9_sheet_58 G r0 i1 i2 i3 rec i5 M) Qo) : W p l e rm_X9_sheet s m args below meth c H locs 0 0 (MQ below (QI D cy G A x0.1 x0.2) args s 0 0 A) (F0 m 58 ls []) := by
    have hx := X.1.1
    have hb := X.1.2.1
    unfold bd_X9_sheet_58 at hk
    refine lv_iload hx hb dX9_sheet_58 (lv_at hl 4 rfl) ?_
    refine lv_iload_n hx hb dX9_sheet_60 rfl (lv_at hl 2 rfl) ?_
    refine lv_icmp_ge (tgt := 133) hx hb dX9_sheet_61 (by decide) (fun c10 => ?_) (fun c10 => ?_)
    · have hk := ok_p c10 hk
      exact hE M (ok_s hk) _ _ _ w (lv_sub hl [0, 1, 2, 3] rfl)
    · have hk := ok_n c10 hk
      refine lv_iconst (v := 0) hx hb dX9_sheet_64 (by decide) ?_
      refine lv_istore (lv' := [(6, .int (0 : Int32)), (0, .ref r0), (1, .int i1), (2, .int i2), (3, .int i3), (5, .int i5)]) hx hb dX9_sheet_65 hl (by decide) rfl (fun ls hl => ?_)
      refine lv_iconst (v := 0) hx hb dX9_sheet_67 (by decide) ?_
      refine lv_istore (lv' := [(7, .int (0 : Int32)), (6, .int (0 : Int32)), (0, .ref r0), (1, .int i1), (2, .int i2), (3, .int i3), (5, .int i5)]) hx hb dX9_sheet_68 hl (by decide) rfl (fun ls hl => ?_)
      refine wl_X9_sheet_70 X r0 i1 i2 i3 i5 (Qo := _) (fun q23 hk H locs ls w hl => ?_) FU (0 : Int32) (0 : Int32) M _ _ _ w (lv_sub hl [2, 3, 4, 5, 6, 1, 0] rfl) (ok_b hk)
      refine lv_iload hx hb dX9_sheet_119 (lv_at hl 5 rfl) ?_
      refine lv_iload_n hx hb dX9_sheet_121 rfl (lv_at hl 3 rfl) ?_
      refine lv_icmp_eq (tgt := 127) hx hb dX9_sheet_122 (by decide) (fun c24 => ?_) (fun c24 => ?_)
      · have hk := ok_p c24 hk
        refine lv_iinc (v := (i5 + 1)) (lv' := [(5, .int (i5 + 1)), (0, .ref r0), (1, .int i1), (2, .int i2), (3, .int i3), (6, .int q23.1)]) hx hb dX9_sheet_127 hl (k := 4) rfl rfl (by decide) rfl (fun ls hl => ?_)
        refine lv_goto (tgt := 58) hx hb dX9_sheet_130 (by decide) ?_
        exact hrec (i5 + 1) q23.2 _ _ _ w (lv_sub hl [1, 2, 3, 4, 0] rfl) hk
      · have hk := ok_n c24 hk
        refine lv_iconst (v := (-1)) hx hb dX9_sheet_125 (by decide) ?_
        have hk := hR _ (ok_s hk)
        exact zri X hr hlk w dX9_sheet_126 (pr1 hk) (pr2 hk)
theorem wl_X9_sheet_58 {p : Program} {l : Launch} {e : Env} {s : State} {m : MethodId} {args : Array Value} {below : List Frame} {meth : Method} {c : Code} {D : va_G} {cy : Cyy} {A : Nat → Prop} {G : Gg} (X : Cx p m c cX9_sheet 8 s args wz_X9_sheet RX9 D cy) (r0 : Nat) (i1 : Int32) (i2 : Int32) (i3 : Int32) (Qo : (Int32 × Mm) ⊕ (Mm) → Prop) (hr : meth.sig.returnType = (some .int)) (hlk : meth.locks = false) {x0 : Int32 × Mm} (hR : ∀ x, Qo (.inl x) → x = x0) (hE : ∀ (y : Mm), Qo (.inr y) → ∀ (H : Heap) (locs : List Loc) (ls : Array Slot), Wo s D cy A G y H locs → lv_has ls 8 [(0, .ref r0), (1, .int i1), (2, .int i2), (3, .int i3)] → W p l e rm_X9_sheet s m args below meth c H locs 0 0 (MQ below (QI D cy G A x0.1 x0.2) args s 0 0 A) (F0 m 133 ls [])) : ∀ (n : Nat) (i5 : Int32) (M : Mm) (H : Heap) (locs : List Loc) (ls : Array Slot), Wo s D cy A G M H locs → lv_has ls 8 [(0, .ref r0), (1, .int i1), (2, .int i2), (3, .int i3), (5, .int i5)] → OK (lp_X9_sheet_58 G r0 i1 i2 i3 n i5 M) Qo → W p l e rm_X9_sheet s m args below meth c H locs 0 0 (MQ below (QI D cy G A x0.1 x0.2) args s 0 0 A) (F0 m 58 ls []) := by
  intro n
  induction n with
  | zero => intro i5 M H locs ls w hl hk; exact ok_0 hk
  | succ n ih => intro i5 M H locs ls w hl hk; exact wb_X9_sheet_58 X r0 i1 i2 i3 Qo hr hlk hR hE  (lp_X9_sheet_58 G r0 i1 i2 i3 n) ih i5 M H locs ls w hl hk
set_option maxHeartbeats 4000000 in
set_option maxRecDepth 100000 in
theorem c_X9_sheet (l : Launch) (D : va_G) (cy : Cyy) (G : Gg) (M : Mm) (r0 : Nat) (i1 : Int32) (i2 : Int32) (i3 : Int32) {q : Int32 × Mm} (hm : f_X9_sheet G M r0 i1 i2 i3 = some q) : CI l yX9_sheet wz_X9_sheet rm_X9_sheet D cy G M [.ref r0, .int i1, .int i2, .int i3] q.1 q.2 := by
  refine Met_of (Qf := fun A => QI D cy G A q.1 q.2) (cc := cX9_sheet) (nL := 8) (ret := (some .int)) (own := RX9) (lv := [(0, .ref r0), (1, .int i1), (2, .int i2), (3, .int i3)]) (by decide) rfl rfl (Nat.le_of_ble_eq_true rfl) rfl ?_
  intro p e s m args below meth c A ls X hr hlk w hl
  have hx := X.1.1
  have hb := X.1.2.1
  obtain ⟨Qo, hR, hk⟩ : ∃ Qo : Int32 × Mm → Prop, (∀ x, Qo x → x = q) ∧ OK (f_X9_sheet G M r0 i1 i2 i3) Qo := ⟨fun x => x = q, fun _ h => h, q, hm, rfl⟩
  unfold f_X9_sheet at hk
  refine lv_aload_n hx hb dX9_sheet_0 rfl (lv_at hl 0 rfl) ?_
  refine lv_iconst (v := 0) hx hb dX9_sheet_1 (by decide) ?_
  obtain ⟨c1, hk⟩ := ok_c hk
  refine zpi X w 9 0 59 tyX9 (C := RX9) (T := TX9) (N := 23) rfl ui_X9 tyX9_ok nmX9 (by decide) rfl (tb wf_X9_59) rfl rfl dX9_sheet_2 c1 (fun H locs w => ?_)
  refine lv_aload_n hx hb dX9_sheet_5 rfl (lv_at hl 0 rfl) ?_
  refine zgi X w 9 2 63 (C := RX9) (T := TX9) (N := 23) rfl ui_X9 (by decide) rfl (tb wf_X9_63) dX9_sheet_6 c1 ?_
  refine lv_istore (lv' := [(4, .int ((mwI M r0 0 (0 : Int32)).1 r0 2)), (0, .ref r0), (1, .int i1), (2, .int i2), (3, .int i3)]) hx hb dX9_sheet_9 hl (by decide) rfl (fun ls hl => ?_)
  refine lv_aload_n hx hb dX9_sheet_11 rfl (lv_at hl 1 rfl) ?_
  refine lv_iconst (v := 0) hx hb dX9_sheet_12 (by decide) ?_
  refine zpi X w 9 2 63 tyX9 (C := RX9) (T := TX9) (N := 23) rfl ui_X9 tyX9_ok nmX9 (by decide) rfl (tb wf_X9_63) rfl rfl dX9_sheet_13 c1 (fun H locs w => ?_)
  refine lv_iload_n hx hb dX9_sheet_16 rfl (lv_at hl 2 rfl) ?_
  obtain ⟨q2, e3, hk⟩ := ok_b hk
  refine zSi X w (n := 1) (As := [.int i1]) (rest := []) (c_X9_isSlot l D cy G (mwI (mwI M r0 0 (0 : Int32)) r0 2 (0 : Int32)) i1 e3) (gzS wm_X9_78 wt_X9_isSlot wn_X9 wc_X9_isSlot) rfl rfl rfl (by decide +kernel) (by decide) rfl rfl hl.1 (Nat.le_of_ble_eq_true rfl) dX9_sheet_17 ⟨Nat.zero_le _, Nat.zero_le _⟩ (fun H locs w => ?_)
  refine lv_if_eq (tgt := 53) hx hb dX9_sheet_20 (by decide) (fun c4 => ?_) (fun c4 => ?_)
  · have hk := ok_p c4 hk
    refine lv_iconst (v := (-1)) hx hb dX9_sheet_53 (by decide) ?_
    have hk := hR _ (ok_s hk)
    exact zri X hr hlk w dX9_sheet_54 (pr1 hk) (pr2 hk)
  · have hk := ok_n c4 hk
    refine lv_iload_n hx hb dX9_sheet_23 rfl (lv_at hl 3 rfl) ?_
    refine lv_iconst (v := 1) hx hb dX9_sheet_24 (by decide) ?_
    refine lv_icmp_lt (tgt := 53) hx hb dX9_sheet_25 (by decide) (fun c5 => ?_) (fun c5 => ?_)
    · have hk := ok_p c5 hk
      refine lv_iconst (v := (-1)) hx hb dX9_sheet_53 (by decide) ?_
      have hk := hR _ (ok_s hk)
      exact zri X hr hlk w dX9_sheet_54 (pr1 hk) (pr2 hk)
    · have hk := ok_n c5 hk
      refine lv_iload_n hx hb dX9_sheet_28 rfl (lv_at hl 3 rfl) ?_
      refine lv_bipush (v := 8) hx hb dX9_sheet_29 (by decide) ?_
      refine lv_icmp_gt (tgt := 53) hx hb dX9_sheet_31 (by decide) (fun c6 => ?_) (fun c6 => ?_)
      · have hk := ok_p c6 hk
        refine lv_iconst (v := (-1)) hx hb dX9_sheet_53 (by decide) ?_
        have hk := hR _ (ok_s hk)
        exact zri X hr hlk w dX9_sheet_54 (pr1 hk) (pr2 hk)
      · have hk := ok_n c6 hk
        refine lv_iload_n hx hb dX9_sheet_34 rfl (lv_at hl 4 rfl) ?_
        refine lv_iconst (v := 1) hx hb dX9_sheet_35 (by decide) ?_
        refine lv_icmp_lt (tgt := 53) hx hb dX9_sheet_36 (by decide) (fun c7 => ?_) (fun c7 => ?_)
        · have hk := ok_p c7 hk
          refine lv_iconst (v := (-1)) hx hb dX9_sheet_53 (by decide) ?_
          have hk := hR _ (ok_s hk)
          exact zri X hr hlk w dX9_sheet_54 (pr1 hk) (pr2 hk)
        · have hk := ok_n c7 hk
          refine lv_iload_n hx hb dX9_sheet_39 rfl (lv_at hl 4 rfl) ?_
          refine lv_bipush (v := 60) hx hb dX9_sheet_40 (by decide) ?_
          refine lv_icmp_gt (tgt := 53) hx hb dX9_sheet_42 (by decide) (fun c8 => ?_) (fun c8 => ?_)
          · have hk := ok_p c8 hk
            refine lv_iconst (v := (-1)) hx hb dX9_sheet_53 (by decide) ?_
            have hk := hR _ (ok_s hk)
            exact zri X hr hlk w dX9_sheet_54 (pr1 hk) (pr2 hk)
          · have hk := ok_n c8 hk
            refine lv_iload hx hb dX9_sheet_45 (lv_at hl 0 rfl) ?_
            refine lv_iload_n hx hb dX9_sheet_47 rfl (lv_at hl 3 rfl) ?_
            refine lv_iload_n hx hb dX9_sheet_48 rfl (lv_at hl 3 rfl) ?_
            refine lv_imul hx hb dX9_sheet_49 ?_
            refine lv_icmp_eq (tgt := 55) hx hb dX9_sheet_50 (by decide) (fun c9 => ?_) (fun c9 => ?_)
            · have hk := ok_p c9 hk
              refine lv_iconst (v := 0) hx hb dX9_sheet_55 (by decide) ?_
              refine lv_istore (lv' := [(5, .int (0 : Int32)), (4, .int ((mwI M r0 0 (0 : Int32)).1 r0 2)), (0, .ref r0), (1, .int i1), (2, .int i2), (3, .int i3)]) hx hb dX9_sheet_56 hl (by decide) rfl (fun ls hl => ?_)
              refine wl_X9_sheet_58 X r0 i1 i2 i3 (Qo := _) hr hlk (fun x h => hR x (ok_s (show OK (some x) Qo from h))) (fun y26 hk H locs ls w hl => ?_) FU (0 : Int32) (mwI (mwI M r0 0 (0 : Int32)) r0 2 (0 : Int32)) _ _ _ w (lv_sub hl [2, 3, 4, 5, 0] rfl) (ok_b hk)
              have hk := ok_r hk
              refine lv_aload_n hx hb dX9_sheet_133 rfl (lv_at hl 0 rfl) ?_
              refine lv_iload_n hx hb dX9_sheet_134 rfl (lv_at hl 1 rfl) ?_
              refine lv_iload_n hx hb dX9_sheet_135 rfl (lv_at hl 2 rfl) ?_
              refine lv_iload_n hx hb dX9_sheet_136 rfl (lv_at hl 3 rfl) ?_
              obtain ⟨q28, e29, hk⟩ := ok_b hk
              refine zVi X w (n := 3) (As := [.int i1, .int i2, .int i3]) (rest := []) (ci := 9) (C := RX9) (T := TX9) (N := 23) (c_X9_puts l D cy G y26 r0 i1 i2 i3 e29) (gzV wm_X9_86 wi_X9_puts ws_X9_puts wn_X9 wc_X9_puts) rfl rfl rfl (by decide +kernel) (by decide) rfl c1 rfl rfl hl.1 (Nat.le_of_ble_eq_true rfl) dX9_sheet_137 ⟨Nat.zero_le _, Nat.zero_le _⟩ (fun H locs w => ?_)
              have hk := hR _ (ok_s hk)
              exact zri X hr hlk w dX9_sheet_140 (pr1 hk) (pr2 hk)
            · have hk := ok_n c9 hk
              refine lv_iconst (v := (-1)) hx hb dX9_sheet_53 (by decide) ?_
              have hk := hR _ (ok_s hk)
              exact zri X hr hlk w dX9_sheet_54 (pr1 hk) (pr2 hk)
abbrev rm_X9_lazy : Room := { frames := 2, cells := 0, slots := 0, locals := 57 }
set_option maxHeartbeats 4000000 in
set_option maxRecDepth 100000 in
theorem wb_X9_lazy_49 {p : Program} {l : Launch} {e : Env} {s : State} {m : MethodId} {args : Array Value} {below : List Frame} {meth : Method} {c : Code} {D : va_G} {cy : Cyy} {A : Nat → Prop} {G : Gg} (X : Cx p m c cX9_lazy 7 s args wz_X9_lazy RX9 D cy) {Q : State → Prop} (r0 : Nat) (i1 : Int32) (i2 : Int32) (i3 : Int32) (i4 : Int32) (i5 : Int32) (Qo : Mm → Prop)  (hE : ∀ (y : Mm), Qo (y) → ∀ (H : Heap) (locs : List Loc) (ls : Array Slot), Wo s D cy A G y H locs → lv_has ls 7 [(0, .ref r0), (1, .int i1), (2, .int i2), (3, .int i3), (4, .int i4), (5, .int i5)] → W p l e rm_X9_lazy s m args below meth c H locs 0 0 Q (F0 m 92 ls [])) (rec : Int32 → Mm → Option (Mm)) (hrec : ∀ (i6 : Int32) (M : Mm) (H : Heap) (locs : List Loc) (ls : Array Slot), Wo s D cy A G M H locs → lv_has ls 7 [(0, .ref r0), (1, .int i1), (2, .int i2), (3, .int i3), (4, .int i4), (5, .int i5), (6, .int i6)] → OK (rec i6 M) Qo → W p l e rm_X9_lazy s m args below meth c H locs 0 0 Q (F0 m 49 ls [])) (i6 : Int32) (M : Mm) (H : Heap) (locs : List Loc) (ls : Array Slot) (w : Wo s D cy A G M H locs) (hl : lv_has ls 7 [(0, .ref r0), (1, .int i1), (2, .int i2), (3, .int i3), (4, .int i4), (5, .int i5), (6, .int i6)]) (hk : OK (bd_X9_lazy_49 G r0 i1 i2 i3 i4 i5 rec i6 M) Qo) : W p l e rm_X9_lazy s m args below meth c H locs 0 0 Q (F0 m 49 ls []) := by
    have hx := X.1.1
    have hb := X.1.2.1
    unfold bd_X9_lazy_49 at hk
    refine lv_iload hx hb dX9_lazy_49 (lv_at hl 6 rfl) ?_
    refine lv_iload_n hx hb dX9_lazy_51 rfl (lv_at hl 3 rfl) ?_
    refine lv_icmp_ge (tgt := 92) hx hb dX9_lazy_52 (by decide) (fun c17 => ?_) (fun c17 => ?_)
    · have hk := ok_p c17 hk
      exact hE M (ok_s hk) _ _ _ w (lv_sub hl [0, 1, 2, 3, 4, 5] rfl)
    · have hk := ok_n c17 hk
      refine lv_aload_n hx hb dX9_lazy_55 rfl (lv_at hl 0 rfl) ?_
      refine lv_iload hx hb dX9_lazy_56 (lv_at hl 5 rfl) ?_
      refine lv_iload hx hb dX9_lazy_58 (lv_at hl 6 rfl) ?_
      refine lv_aload_n hx hb dX9_lazy_60 rfl (lv_at hl 0 rfl) ?_
      refine lv_iload_n hx hb dX9_lazy_61 rfl (lv_at hl 1 rfl) ?_
      refine lv_iload hx hb dX9_lazy_62 (lv_at hl 5 rfl) ?_
      refine lv_iload hx hb dX9_lazy_64 (lv_at hl 6 rfl) ?_
      obtain ⟨c20, hk⟩ := ok_c hk
      obtain ⟨q18, e19, hk⟩ := ok_b hk
      refine zVi X w (n := 3) (As := [.int i1, .int i5, .int i6]) (rest := [.int i6, .int i5, .ref r0]) (ci := 9) (C := RX9) (T := TX9) (N := 23) (c_X9_at l D cy G M r0 i1 i5 i6 e19) (gzV wm_X9_70 wi_X9_at ws_X9_at wn_X9 wc_X9_at) rfl rfl rfl (by decide +kernel) (by decide) rfl c20 rfl rfl hl.1 (Nat.le_of_ble_eq_true rfl) dX9_lazy_66 ⟨Nat.zero_le _, Nat.zero_le _⟩ (fun H locs w => ?_)
      refine lv_iload hx hb dX9_lazy_69 (lv_at hl 5 rfl) ?_
      refine lv_iload hx hb dX9_lazy_71 (lv_at hl 6 rfl) ?_
      refine lv_icmp_ne (tgt := 81) hx hb dX9_lazy_73 (by decide) (fun c21 => ?_) (fun c21 => ?_)
      · have hk := ok_n c21 hk
        refine lv_iconst (v := 0) hx hb dX9_lazy_81 (by decide) ?_
        refine lv_iadd hx hb dX9_lazy_82 ?_
        obtain ⟨q22, e23, hk⟩ := ok_b hk
        refine zVv X w (n := 3) (As := [.int i5, .int i6, .int (q18 + (0 : Int32))]) (rest := []) (ci := 9) (C := RX9) (T := TX9) (N := 23) (c_X9_make l D cy G M r0 i5 i6 (q18 + (0 : Int32)) e23) (gzV wm_X9_82 wi_X9_make ws_X9_make wn_X9 wc_X9_make) rfl rfl rfl (by decide +kernel) (by decide) rfl c20 rfl rfl hl.1 (Nat.le_of_ble_eq_true rfl) dX9_lazy_83 ⟨Nat.zero_le _, Nat.zero_le _⟩ (fun H locs w => ?_)
        refine lv_iinc (v := (i6 + 1)) (lv' := [(6, .int (i6 + 1)), (0, .ref r0), (1, .int i1), (2, .int i2), (3, .int i3), (4, .int i4), (5, .int i5)]) hx hb dX9_lazy_86 hl (k := 6) rfl rfl (by decide) rfl (fun ls hl => ?_)
        refine lv_goto (tgt := 49) hx hb dX9_lazy_89 (by decide) ?_
        exact hrec (i6 + 1) q22 _ _ _ w (lv_sub hl [1, 2, 3, 4, 5, 6, 0] rfl) hk
      · have hk := ok_p c21 hk
        refine lv_iload hx hb dX9_lazy_76 (lv_at hl 4 rfl) ?_
        refine lv_goto (tgt := 82) hx hb dX9_lazy_78 (by decide) ?_
        refine lv_iadd hx hb dX9_lazy_82 ?_
        obtain ⟨q24, e25, hk⟩ := ok_b hk
        refine zVv X w (n := 3) (As := [.int i5, .int i6, .int (q18 + i4)]) (rest := []) (ci := 9) (C := RX9) (T := TX9) (N := 23) (c_X9_make l D cy G M r0 i5 i6 (q18 + i4) e25) (gzV wm_X9_82 wi_X9_make ws_X9_make wn_X9 wc_X9_make) rfl rfl rfl (by decide +kernel) (by decide) rfl c20 rfl rfl hl.1 (Nat.le_of_ble_eq_true rfl) dX9_lazy_83 ⟨Nat.zero_le _, Nat.zero_le _⟩ (fun H locs w => ?_)
        refine lv_iinc (v := (i6 + 1)) (lv' := [(6, .int (i6 + 1)), (0, .ref r0), (1, .int i1), (2, .int i2), (3, .int i3), (4, .int i4), (5, .int i5)]) hx hb dX9_lazy_86 hl (k := 6) rfl rfl (by decide) rfl (fun ls hl => ?_)
        refine lv_goto (tgt := 49) hx hb dX9_lazy_89 (by decide) ?_
        exact hrec (i6 + 1) q24 _ _ _ w (lv_sub hl [1, 2, 3, 4, 5, 6, 0] rfl) hk
theorem wl_X9_lazy_49 {p : Program} {l : Launch} {e : Env} {s : State} {m : MethodId} {args : Array Value} {below : List Frame} {meth : Method} {c : Code} {D : va_G} {cy : Cyy} {A : Nat → Prop} {G : Gg} (X : Cx p m c cX9_lazy 7 s args wz_X9_lazy RX9 D cy) {Q : State → Prop} (r0 : Nat) (i1 : Int32) (i2 : Int32) (i3 : Int32) (i4 : Int32) (i5 : Int32) (Qo : Mm → Prop)  (hE : ∀ (y : Mm), Qo (y) → ∀ (H : Heap) (locs : List Loc) (ls : Array Slot), Wo s D cy A G y H locs → lv_has ls 7 [(0, .ref r0), (1, .int i1), (2, .int i2), (3, .int i3), (4, .int i4), (5, .int i5)] → W p l e rm_X9_lazy s m args below meth c H locs 0 0 Q (F0 m 92 ls [])) : ∀ (n : Nat) (i6 : Int32) (M : Mm) (H : Heap) (locs : List Loc) (ls : Array Slot), Wo s D cy A G M H locs → lv_has ls 7 [(0, .ref r0), (1, .int i1), (2, .int i2), (3, .int i3), (4, .int i4), (5, .int i5), (6, .int i6)] → OK (lp_X9_lazy_49 G r0 i1 i2 i3 i4 i5 n i6 M) Qo → W p l e rm_X9_lazy s m args below meth c H locs 0 0 Q (F0 m 49 ls []) := by
  intro n
  induction n with
  | zero => intro i6 M H locs ls w hl hk; exact ok_0 hk
  | succ n ih => intro i6 M H locs ls w hl hk; exact wb_X9_lazy_49 X r0 i1 i2 i3 i4 i5 Qo hE  (lp_X9_lazy_49 G r0 i1 i2 i3 i4 i5 n) ih i6 M H locs ls w hl hk
set_option maxHeartbeats 4000000 in
set_option maxRecDepth 100000 in
theorem wb_X9_lazy_40 {p : Program} {l : Launch} {e : Env} {s : State} {m : MethodId} {args : Array Value} {below : List Frame} {meth : Method} {c : Code} {D : va_G} {cy : Cyy} {A : Nat → Prop} {G : Gg} (X : Cx p m c cX9_lazy 7 s args wz_X9_lazy RX9 D cy) {Q : State → Prop} (r0 : Nat) (i1 : Int32) (i2 : Int32) (i3 : Int32) (i4 : Int32) (Qo : Mm → Prop)  (hE : ∀ (y : Mm), Qo (y) → ∀ (H : Heap) (locs : List Loc) (ls : Array Slot), Wo s D cy A G y H locs → lv_has ls 7 [(0, .ref r0), (2, .int i2), (3, .int i3), (4, .int i4)] → W p l e rm_X9_lazy s m args below meth c H locs 0 0 Q (F0 m 98 ls [])) (rec : Int32 → Mm → Option (Mm)) (hrec : ∀ (i5 : Int32) (M : Mm) (H : Heap) (locs : List Loc) (ls : Array Slot), Wo s D cy A G M H locs → lv_has ls 7 [(0, .ref r0), (1, .int i1), (2, .int i2), (3, .int i3), (4, .int i4), (5, .int i5)] → OK (rec i5 M) Qo → W p l e rm_X9_lazy s m args below meth c H locs 0 0 Q (F0 m 40 ls [])) (i5 : Int32) (M : Mm) (H : Heap) (locs : List Loc) (ls : Array Slot) (w : Wo s D cy A G M H locs) (hl : lv_has ls 7 [(0, .ref r0), (1, .int i1), (2, .int i2), (3, .int i3), (4, .int i4), (5, .int i5)]) (hk : OK (bd_X9_lazy_40 G r0 i1 i2 i3 i4 rec i5 M) Qo) : W p l e rm_X9_lazy s m args below meth c H locs 0 0 Q (F0 m 40 ls []) := by
    have hx := X.1.1
    have hb := X.1.2.1
    unfold bd_X9_lazy_40 at hk
    refine lv_iload hx hb dX9_lazy_40 (lv_at hl 5 rfl) ?_
    refine lv_iload_n hx hb dX9_lazy_42 rfl (lv_at hl 3 rfl) ?_
    refine lv_icmp_ge (tgt := 98) hx hb dX9_lazy_43 (by decide) (fun c16 => ?_) (fun c16 => ?_)
    · have hk := ok_p c16 hk
      exact hE M (ok_s hk) _ _ _ w (lv_sub hl [0, 2, 3, 4] rfl)
    · have hk := ok_n c16 hk
      refine lv_iconst (v := 0) hx hb dX9_lazy_46 (by decide) ?_
      refine lv_istore (lv' := [(6, .int (0 : Int32)), (0, .ref r0), (1, .int i1), (2, .int i2), (3, .int i3), (4, .int i4), (5, .int i5)]) hx hb dX9_lazy_47 hl (by decide) rfl (fun ls hl => ?_)
      refine wl_X9_lazy_49 X r0 i1 i2 i3 i4 i5 (Qo := _) (fun q26 hk H locs ls w hl => ?_) FU (0 : Int32) M _ _ _ w (lv_sub hl [1, 2, 3, 4, 5, 6, 0] rfl) (ok_b hk)
      refine lv_iinc (v := (i5 + 1)) (lv' := [(5, .int (i5 + 1)), (0, .ref r0), (1, .int i1), (2, .int i2), (3, .int i3), (4, .int i4)]) hx hb dX9_lazy_92 hl (k := 5) rfl rfl (by decide) rfl (fun ls hl => ?_)
      refine lv_goto (tgt := 40) hx hb dX9_lazy_95 (by decide) ?_
      exact hrec (i5 + 1) q26 _ _ _ w (lv_sub hl [1, 2, 3, 4, 5, 0] rfl) hk
theorem wl_X9_lazy_40 {p : Program} {l : Launch} {e : Env} {s : State} {m : MethodId} {args : Array Value} {below : List Frame} {meth : Method} {c : Code} {D : va_G} {cy : Cyy} {A : Nat → Prop} {G : Gg} (X : Cx p m c cX9_lazy 7 s args wz_X9_lazy RX9 D cy) {Q : State → Prop} (r0 : Nat) (i1 : Int32) (i2 : Int32) (i3 : Int32) (i4 : Int32) (Qo : Mm → Prop)  (hE : ∀ (y : Mm), Qo (y) → ∀ (H : Heap) (locs : List Loc) (ls : Array Slot), Wo s D cy A G y H locs → lv_has ls 7 [(0, .ref r0), (2, .int i2), (3, .int i3), (4, .int i4)] → W p l e rm_X9_lazy s m args below meth c H locs 0 0 Q (F0 m 98 ls [])) : ∀ (n : Nat) (i5 : Int32) (M : Mm) (H : Heap) (locs : List Loc) (ls : Array Slot), Wo s D cy A G M H locs → lv_has ls 7 [(0, .ref r0), (1, .int i1), (2, .int i2), (3, .int i3), (4, .int i4), (5, .int i5)] → OK (lp_X9_lazy_40 G r0 i1 i2 i3 i4 n i5 M) Qo → W p l e rm_X9_lazy s m args below meth c H locs 0 0 Q (F0 m 40 ls []) := by
  intro n
  induction n with
  | zero => intro i5 M H locs ls w hl hk; exact ok_0 hk
  | succ n ih => intro i5 M H locs ls w hl hk; exact wb_X9_lazy_40 X r0 i1 i2 i3 i4 Qo hE  (lp_X9_lazy_40 G r0 i1 i2 i3 i4 n) ih i5 M H locs ls w hl hk
set_option maxHeartbeats 4000000 in
set_option maxRecDepth 100000 in
theorem c_X9_lazy (l : Launch) (D : va_G) (cy : Cyy) (G : Gg) (M : Mm) (r0 : Nat) (i1 : Int32) (i2 : Int32) {q : Int32 × Mm} (hm : f_X9_lazy G M r0 i1 i2 = some q) : CI l yX9_lazy wz_X9_lazy rm_X9_lazy D cy G M [.ref r0, .int i1, .int i2] q.1 q.2 := by
  refine Met_of (Qf := fun A => QI D cy G A q.1 q.2) (cc := cX9_lazy) (nL := 7) (ret := (some .int)) (own := RX9) (lv := [(0, .ref r0), (1, .int i1), (2, .int i2)]) (by decide) rfl rfl (Nat.le_of_ble_eq_true rfl) rfl ?_
  intro p e s m args below meth c A ls X hr hlk w hl
  have hx := X.1.1
  have hb := X.1.2.1
  obtain ⟨Qo, hR, hk⟩ : ∃ Qo : Int32 × Mm → Prop, (∀ x, Qo x → x = q) ∧ OK (f_X9_lazy G M r0 i1 i2) Qo := ⟨fun x => x = q, fun _ h => h, q, hm, rfl⟩
  unfold f_X9_lazy at hk
  refine lv_aload_n hx hb dX9_lazy_0 rfl (lv_at hl 0 rfl) ?_
  refine lv_iconst (v := 0) hx hb dX9_lazy_1 (by decide) ?_
  obtain ⟨c1, hk⟩ := ok_c hk
  refine zpi X w 9 0 59 tyX9 (C := RX9) (T := TX9) (N := 23) rfl ui_X9 tyX9_ok nmX9 (by decide) rfl (tb wf_X9_59) rfl rfl dX9_lazy_2 c1 (fun H locs w => ?_)
  refine lv_aload_n hx hb dX9_lazy_5 rfl (lv_at hl 0 rfl) ?_
  refine lv_iload_n hx hb dX9_lazy_6 rfl (lv_at hl 1 rfl) ?_
  obtain ⟨q2, e3, hk⟩ := ok_b hk
  refine zVi X w (n := 1) (As := [.int i1]) (rest := []) (ci := 9) (C := RX9) (T := TX9) (N := 23) (c_X9_has l D cy G (mwI M r0 0 (0 : Int32)) r0 i1 e3) (gzV wm_X9_89 wi_X9_has ws_X9_has wn_X9 wc_X9_has) rfl rfl rfl (by decide +kernel) (by decide) rfl c1 rfl rfl hl.1 (Nat.le_of_ble_eq_true rfl) dX9_lazy_7 ⟨Nat.zero_le _, Nat.zero_le _⟩ (fun H locs w => ?_)
  refine lv_if_eq (tgt := 20) hx hb dX9_lazy_10 (by decide) (fun c4 => ?_) (fun c4 => ?_)
  · have hk := ok_p c4 hk
    refine lv_iconst (v := (-1)) hx hb dX9_lazy_20 (by decide) ?_
    have hk := hR _ (ok_s hk)
    exact zri X hr hlk w dX9_lazy_21 (pr1 hk) (pr2 hk)
  · have hk := ok_n c4 hk
    refine lv_iload_n hx hb dX9_lazy_13 rfl (lv_at hl 2 rfl) ?_
    obtain ⟨q5, e6, hk⟩ := ok_b hk
    refine zSi X w (n := 1) (As := [.int i2]) (rest := []) (c_X9_isSlot l D cy G (mwI M r0 0 (0 : Int32)) i2 e6) (gzS wm_X9_78 wt_X9_isSlot wn_X9 wc_X9_isSlot) rfl rfl rfl (by decide +kernel) (by decide) rfl rfl hl.1 (Nat.le_of_ble_eq_true rfl) dX9_lazy_14 ⟨Nat.zero_le _, Nat.zero_le _⟩ (fun H locs w => ?_)
    refine lv_if_ne (tgt := 22) hx hb dX9_lazy_17 (by decide) (fun c7 => ?_) (fun c7 => ?_)
    · have hk := ok_n c7 hk
      refine lv_aload_n hx hb dX9_lazy_22 rfl (lv_at hl 0 rfl) ?_
      obtain ⟨r8, e9, hk⟩ := ok_b hk
      refine zgr X w 9 3 13 (C := RX9) (T := TX9) (N := 23) rfl ui_X9 (by decide) rfl (tb wf_X9_13) dX9_lazy_23 c1 e9 ?_
      refine lv_iload_n hx hb dX9_lazy_26 rfl (lv_at hl 1 rfl) ?_
      obtain ⟨c10, hk⟩ := ok_c hk
      obtain ⟨c11, hk⟩ := ok_c hk
      refine zai X w dX9_lazy_27 c10 c11 ?_
      refine lv_istore_n (lv' := [(3, .int ((mwI M r0 0 (0 : Int32)).1 r8 (Int32.toNatClampNeg i1))), (0, .ref r0), (1, .int i1), (2, .int i2)]) hx hb dX9_lazy_28 rfl hl (by decide) rfl (fun ls hl => ?_)
      refine lv_aload_n hx hb dX9_lazy_29 rfl (lv_at hl 1 rfl) ?_
      obtain ⟨r12, e13, hk⟩ := ok_b hk
      refine zgr X w 9 4 16 (C := RX9) (T := TX9) (N := 23) rfl ui_X9 (by decide) rfl (tb wf_X9_16) dX9_lazy_30 c1 e13 ?_
      refine lv_iload_n hx hb dX9_lazy_33 rfl (lv_at hl 2 rfl) ?_
      obtain ⟨c14, hk⟩ := ok_c hk
      obtain ⟨c15, hk⟩ := ok_c hk
      refine zai X w dX9_lazy_34 c14 c15 ?_
      refine lv_istore (lv' := [(4, .int ((mwI M r0 0 (0 : Int32)).1 r12 (Int32.toNatClampNeg i1))), (3, .int ((mwI M r0 0 (0 : Int32)).1 r8 (Int32.toNatClampNeg i1))), (0, .ref r0), (1, .int i1), (2, .int i2)]) hx hb dX9_lazy_35 hl (by decide) rfl (fun ls hl => ?_)
      refine lv_iconst (v := 0) hx hb dX9_lazy_37 (by decide) ?_
      refine lv_istore (lv' := [(5, .int (0 : Int32)), (4, .int ((mwI M r0 0 (0 : Int32)).1 r12 (Int32.toNatClampNeg i1))), (3, .int ((mwI M r0 0 (0 : Int32)).1 r8 (Int32.toNatClampNeg i1))), (0, .ref r0), (1, .int i1), (2, .int i2)]) hx hb dX9_lazy_38 hl (by decide) rfl (fun ls hl => ?_)
      refine wl_X9_lazy_40 X r0 i1 i2 ((mwI M r0 0 (0 : Int32)).1 r8 (Int32.toNatClampNeg i1)) ((mwI M r0 0 (0 : Int32)).1 r12 (Int32.toNatClampNeg i1)) (Qo := _) (fun q27 hk H locs ls w hl => ?_) FU (0 : Int32) (mwI M r0 0 (0 : Int32)) _ _ _ w (lv_sub hl [3, 4, 5, 2, 1, 0] rfl) (ok_b hk)
      refine lv_aload_n hx hb dX9_lazy_98 rfl (lv_at hl 0 rfl) ?_
      refine lv_iload_n hx hb dX9_lazy_99 rfl (lv_at hl 1 rfl) ?_
      refine lv_iload_n hx hb dX9_lazy_100 rfl (lv_at hl 2 rfl) ?_
      refine lv_iconst (v := 2) hx hb dX9_lazy_101 (by decide) ?_
      refine lv_iload hx hb dX9_lazy_102 (lv_at hl 3 rfl) ?_
      refine lv_imul hx hb dX9_lazy_104 ?_
      obtain ⟨q28, e29, hk⟩ := ok_b hk
      refine zVi X w (n := 3) (As := [.int i2, .int ((mwI M r0 0 (0 : Int32)).1 r8 (Int32.toNatClampNeg i1)), .int ((2 : Int32) * ((mwI M r0 0 (0 : Int32)).1 r12 (Int32.toNatClampNeg i1)))]) (rest := []) (ci := 9) (C := RX9) (T := TX9) (N := 23) (c_X9_puts l D cy G q27 r0 i2 ((mwI M r0 0 (0 : Int32)).1 r8 (Int32.toNatClampNeg i1)) ((2 : Int32) * ((mwI M r0 0 (0 : Int32)).1 r12 (Int32.toNatClampNeg i1))) e29) (gzV wm_X9_86 wi_X9_puts ws_X9_puts wn_X9 wc_X9_puts) rfl rfl rfl (by decide +kernel) (by decide) rfl c1 rfl rfl hl.1 (Nat.le_of_ble_eq_true rfl) dX9_lazy_105 ⟨Nat.zero_le _, Nat.zero_le _⟩ (fun H locs w => ?_)
      have hk := hR _ (ok_s hk)
      exact zri X hr hlk w dX9_lazy_108 (pr1 hk) (pr2 hk)
    · have hk := ok_p c7 hk
      refine lv_iconst (v := (-1)) hx hb dX9_lazy_20 (by decide) ?_
      have hk := hR _ (ok_s hk)
      exact zri X hr hlk w dX9_lazy_21 (pr1 hk) (pr2 hk)
abbrev rm_X9_isTo : Room := { frames := 0, cells := 0, slots := 0, locals := 0 }
set_option maxHeartbeats 4000000 in
set_option maxRecDepth 100000 in
theorem c_X9_isTo (l : Launch) (D : va_G) (cy : Cyy) (G : Gg) (M : Mm) (r0 : Nat) (i1 : Int32) (i2 : Int32) {q : Int32} (hm : f_X9_isTo G M r0 i1 i2 = some q) : CI l yX9_isTo wz_X9_isTo rm_X9_isTo D cy G M [.ref r0, .int i1, .int i2] q M := by
  refine Met_of (Qf := fun A => QI D cy G A q M) (cc := cX9_isTo) (nL := 3) (ret := (some .boolean)) (own := RX9) (lv := [(0, .ref r0), (1, .int i1), (2, .int i2)]) (by decide) rfl rfl (Nat.le_of_ble_eq_true rfl) rfl ?_
  intro p e s m args below meth c A ls X hr hlk w hl
  have hx := X.1.1
  have hb := X.1.2.1
  obtain ⟨Qo, hR, hk⟩ : ∃ Qo : Int32 → Prop, (∀ x, Qo x → x = q) ∧ OK (f_X9_isTo G M r0 i1 i2) Qo := ⟨fun x => x = q, fun _ h => h, q, hm, rfl⟩
  unfold f_X9_isTo at hk
  refine lv_aload_n hx hb dX9_isTo_0 rfl (lv_at hl 0 rfl) ?_
  obtain ⟨c1, hk⟩ := ok_c hk
  obtain ⟨r2, e3, hk⟩ := ok_b hk
  refine zgr X w 9 6 22 (C := RX9) (T := TX9) (N := 23) rfl ui_X9 (by decide) rfl (tb wf_X9_22) dX9_isTo_1 c1 e3 ?_
  refine lv_iload_n hx hb dX9_isTo_4 rfl (lv_at hl 1 rfl) ?_
  obtain ⟨c4, hk⟩ := ok_c hk
  obtain ⟨c5, hk⟩ := ok_c hk
  refine zai X w dX9_isTo_5 c4 c5 ?_
  refine lv_iload_n hx hb dX9_isTo_6 rfl (lv_at hl 2 rfl) ?_
  refine lv_ishr hx hb dX9_isTo_7 ?_
  refine lv_iconst (v := 1) hx hb dX9_isTo_8 (by decide) ?_
  refine lv_iand hx hb dX9_isTo_9 ?_
  refine lv_iconst (v := 1) hx hb dX9_isTo_10 (by decide) ?_
  refine lv_icmp_ne (tgt := 18) hx hb dX9_isTo_11 (by decide) (fun c6 => ?_) (fun c6 => ?_)
  · have hk := ok_n c6 hk
    refine lv_iconst (v := 0) hx hb dX9_isTo_18 (by decide) ?_
    have hk := hR _ (ok_s hk)
    exact zrz X hr hlk w dX9_isTo_19 (by decide) hk rfl
  · have hk := ok_p c6 hk
    refine lv_iconst (v := 1) hx hb dX9_isTo_14 (by decide) ?_
    refine lv_goto (tgt := 19) hx hb dX9_isTo_15 (by decide) ?_
    have hk := hR _ (ok_s hk)
    exact zrz X hr hlk w dX9_isTo_19 (by decide) hk rfl
abbrev rm_X9_reach : Room := { frames := 1, cells := 0, slots := 0, locals := 23 }
set_option maxHeartbeats 4000000 in
set_option maxRecDepth 100000 in
theorem wb_X9_reach_24 {p : Program} {l : Launch} {e : Env} {s : State} {m : MethodId} {args : Array Value} {below : List Frame} {meth : Method} {c : Code} {D : va_G} {cy : Cyy} {A : Nat → Prop} {G : Gg} (X : Cx p m c cX9_reach 5 s args wz_X9_reach RX9 D cy) {Q : State → Prop} (r0 : Nat) (i1 : Int32) (i2 : Int32) (i3 : Int32) (Qo : Mm → Prop)  (hE : ∀ (y : Mm), Qo (y) → ∀ (H : Heap) (locs : List Loc) (ls : Array Slot), Wo s D cy A G y H locs → lv_has ls 5 [(0, .ref r0), (1, .int i1), (2, .int i2), (3, .int i3)] → W p l e rm_X9_reach s m args below meth c H locs 0 0 Q (F0 m 60 ls [])) (rec : Int32 → Mm → Option (Mm)) (hrec : ∀ (i4 : Int32) (M : Mm) (H : Heap) (locs : List Loc) (ls : Array Slot), Wo s D cy A G M H locs → lv_has ls 5 [(0, .ref r0), (1, .int i1), (2, .int i2), (3, .int i3), (4, .int i4)] → OK (rec i4 M) Qo → W p l e rm_X9_reach s m args below meth c H locs 0 0 Q (F0 m 24 ls [])) (i4 : Int32) (M : Mm) (H : Heap) (locs : List Loc) (ls : Array Slot) (w : Wo s D cy A G M H locs) (hl : lv_has ls 5 [(0, .ref r0), (1, .int i1), (2, .int i2), (3, .int i3), (4, .int i4)]) (hk : OK (bd_X9_reach_24 G r0 i1 i2 i3 rec i4 M) Qo) : W p l e rm_X9_reach s m args below meth c H locs 0 0 Q (F0 m 24 ls []) := by
    have hx := X.1.1
    have hb := X.1.2.1
    unfold bd_X9_reach_24 at hk
    refine lv_iload hx hb dX9_reach_24 (lv_at hl 4 rfl) ?_
    refine lv_iload_n hx hb dX9_reach_26 rfl (lv_at hl 2 rfl) ?_
    refine lv_icmp_ge (tgt := 60) hx hb dX9_reach_27 (by decide) (fun c12 => ?_) (fun c12 => ?_)
    · have hk := ok_p c12 hk
      exact hE M (ok_s hk) _ _ _ w (lv_sub hl [0, 1, 2, 3] rfl)
    · have hk := ok_n c12 hk
      refine lv_aload_n hx hb dX9_reach_30 rfl (lv_at hl 0 rfl) ?_
      refine lv_iload_n hx hb dX9_reach_31 rfl (lv_at hl 1 rfl) ?_
      refine lv_iload_n hx hb dX9_reach_32 rfl (lv_at hl 3 rfl) ?_
      refine lv_iload hx hb dX9_reach_33 (lv_at hl 4 rfl) ?_
      obtain ⟨c15, hk⟩ := ok_c hk
      obtain ⟨q13, e14, hk⟩ := ok_b hk
      refine zVi X w (n := 3) (As := [.int i1, .int i3, .int i4]) (rest := []) (ci := 9) (C := RX9) (T := TX9) (N := 23) (c_X9_at l D cy G M r0 i1 i3 i4 e14) (gzV wm_X9_70 wi_X9_at ws_X9_at wn_X9 wc_X9_at) rfl rfl rfl (by decide +kernel) (by decide) rfl c15 rfl rfl hl.1 (Nat.le_of_ble_eq_true rfl) dX9_reach_35 ⟨Nat.zero_le _, Nat.zero_le _⟩ (fun H locs w => ?_)
      refine lv_if_le (tgt := 54) hx hb dX9_reach_38 (by decide) (fun c16 => ?_) (fun c16 => ?_)
      · have hk := ok_p c16 hk
        refine lv_iinc (v := (i4 + 1)) (lv' := [(4, .int (i4 + 1)), (0, .ref r0), (1, .int i1), (2, .int i2), (3, .int i3)]) hx hb dX9_reach_54 hl (k := 4) rfl rfl (by decide) rfl (fun ls hl => ?_)
        refine lv_goto (tgt := 24) hx hb dX9_reach_57 (by decide) ?_
        exact hrec (i4 + 1) M _ _ _ w (lv_sub hl [1, 2, 3, 4, 0] rfl) hk
      · have hk := ok_n c16 hk
        refine lv_aload_n hx hb dX9_reach_41 rfl (lv_at hl 0 rfl) ?_
        obtain ⟨r17, e18, hk⟩ := ok_b hk
        refine zgr X w 9 6 22 (C := RX9) (T := TX9) (N := 23) rfl ui_X9 (by decide) rfl (tb wf_X9_22) dX9_reach_42 c15 e18 ?_
        refine lv_iload_n hx hb dX9_reach_45 rfl (lv_at hl 3 rfl) ?_
        refine lv_dup2_11 hx hb dX9_reach_46 rfl rfl ?_
        obtain ⟨c19, hk⟩ := ok_c hk
        obtain ⟨c20, hk⟩ := ok_c hk
        refine zai X w dX9_reach_47 c19 c20 ?_
        refine lv_iconst (v := 1) hx hb dX9_reach_48 (by decide) ?_
        refine lv_iload hx hb dX9_reach_49 (lv_at hl 4 rfl) ?_
        refine lv_ishl hx hb dX9_reach_51 ?_
        refine lv_ior hx hb dX9_reach_52 ?_
        refine zsi X w dX9_reach_53 c19 c20 (fun H locs w => ?_)
        refine lv_iinc (v := (i4 + 1)) (lv' := [(4, .int (i4 + 1)), (0, .ref r0), (1, .int i1), (2, .int i2), (3, .int i3)]) hx hb dX9_reach_54 hl (k := 4) rfl rfl (by decide) rfl (fun ls hl => ?_)
        refine lv_goto (tgt := 24) hx hb dX9_reach_57 (by decide) ?_
        exact hrec (i4 + 1) (mwI M r17 (Int32.toNatClampNeg i3) ((M.1 r17 (Int32.toNatClampNeg i3)) ||| ((1 : Int32) <<< (i4 &&& 31)))) _ _ _ w (lv_sub hl [1, 2, 3, 4, 0] rfl) hk
theorem wl_X9_reach_24 {p : Program} {l : Launch} {e : Env} {s : State} {m : MethodId} {args : Array Value} {below : List Frame} {meth : Method} {c : Code} {D : va_G} {cy : Cyy} {A : Nat → Prop} {G : Gg} (X : Cx p m c cX9_reach 5 s args wz_X9_reach RX9 D cy) {Q : State → Prop} (r0 : Nat) (i1 : Int32) (i2 : Int32) (i3 : Int32) (Qo : Mm → Prop)  (hE : ∀ (y : Mm), Qo (y) → ∀ (H : Heap) (locs : List Loc) (ls : Array Slot), Wo s D cy A G y H locs → lv_has ls 5 [(0, .ref r0), (1, .int i1), (2, .int i2), (3, .int i3)] → W p l e rm_X9_reach s m args below meth c H locs 0 0 Q (F0 m 60 ls [])) : ∀ (n : Nat) (i4 : Int32) (M : Mm) (H : Heap) (locs : List Loc) (ls : Array Slot), Wo s D cy A G M H locs → lv_has ls 5 [(0, .ref r0), (1, .int i1), (2, .int i2), (3, .int i3), (4, .int i4)] → OK (lp_X9_reach_24 G r0 i1 i2 i3 n i4 M) Qo → W p l e rm_X9_reach s m args below meth c H locs 0 0 Q (F0 m 24 ls []) := by
  intro n
  induction n with
  | zero => intro i4 M H locs ls w hl hk; exact ok_0 hk
  | succ n ih => intro i4 M H locs ls w hl hk; exact wb_X9_reach_24 X r0 i1 i2 i3 Qo hE  (lp_X9_reach_24 G r0 i1 i2 i3 n) ih i4 M H locs ls w hl hk
set_option maxHeartbeats 4000000 in
set_option maxRecDepth 100000 in
theorem wb_X9_reach_9 {p : Program} {l : Launch} {e : Env} {s : State} {m : MethodId} {args : Array Value} {below : List Frame} {meth : Method} {c : Code} {D : va_G} {cy : Cyy} {A : Nat → Prop} {G : Gg} (X : Cx p m c cX9_reach 5 s args wz_X9_reach RX9 D cy) {Q : State → Prop} (r0 : Nat) (i1 : Int32) (i2 : Int32) (Qo : Mm → Prop)  (hE : ∀ (y : Mm), Qo (y) → ∀ (H : Heap) (locs : List Loc) (ls : Array Slot), Wo s D cy A G y H locs → lv_has ls 5 [(0, .ref r0), (2, .int i2)] → W p l e rm_X9_reach s m args below meth c H locs 0 0 Q (F0 m 66 ls [])) (rec : Int32 → Mm → Option (Mm)) (hrec : ∀ (i3 : Int32) (M : Mm) (H : Heap) (locs : List Loc) (ls : Array Slot), Wo s D cy A G M H locs → lv_has ls 5 [(0, .ref r0), (1, .int i1), (2, .int i2), (3, .int i3)] → OK (rec i3 M) Qo → W p l e rm_X9_reach s m args below meth c H locs 0 0 Q (F0 m 9 ls [])) (i3 : Int32) (M : Mm) (H : Heap) (locs : List Loc) (ls : Array Slot) (w : Wo s D cy A G M H locs) (hl : lv_has ls 5 [(0, .ref r0), (1, .int i1), (2, .int i2), (3, .int i3)]) (hk : OK (bd_X9_reach_9 G r0 i1 i2 rec i3 M) Qo) : W p l e rm_X9_reach s m args below meth c H locs 0 0 Q (F0 m 9 ls []) := by
    have hx := X.1.1
    have hb := X.1.2.1
    unfold bd_X9_reach_9 at hk
    refine lv_iload_n hx hb dX9_reach_9 rfl (lv_at hl 3 rfl) ?_
    refine lv_iload_n hx hb dX9_reach_10 rfl (lv_at hl 2 rfl) ?_
    refine lv_icmp_ge (tgt := 66) hx hb dX9_reach_11 (by decide) (fun c6 => ?_) (fun c6 => ?_)
    · have hk := ok_p c6 hk
      exact hE M (ok_s hk) _ _ _ w (lv_sub hl [0, 2] rfl)
    · have hk := ok_n c6 hk
      refine lv_aload_n hx hb dX9_reach_14 rfl (lv_at hl 0 rfl) ?_
      obtain ⟨c7, hk⟩ := ok_c hk
      obtain ⟨r8, e9, hk⟩ := ok_b hk
      refine zgr X w 9 6 22 (C := RX9) (T := TX9) (N := 23) rfl ui_X9 (by decide) rfl (tb wf_X9_22) dX9_reach_15 c7 e9 ?_
      refine lv_iload_n hx hb dX9_reach_18 rfl (lv_at hl 3 rfl) ?_
      refine lv_iconst (v := 0) hx hb dX9_reach_19 (by decide) ?_
      obtain ⟨c10, hk⟩ := ok_c hk
      obtain ⟨c11, hk⟩ := ok_c hk
      refine zsi X w dX9_reach_20 c10 c11 (fun H locs w => ?_)
      refine lv_iconst (v := 0) hx hb dX9_reach_21 (by decide) ?_
      refine lv_istore (lv' := [(4, .int (0 : Int32)), (0, .ref r0), (1, .int i1), (2, .int i2), (3, .int i3)]) hx hb dX9_reach_22 hl (by decide) rfl (fun ls hl => ?_)
      refine wl_X9_reach_24 X r0 i1 i2 i3 (Qo := _) (fun q21 hk H locs ls w hl => ?_) FU (0 : Int32) (mwI M r8 (Int32.toNatClampNeg i3) (0 : Int32)) _ _ _ w (lv_sub hl [1, 2, 3, 4, 0] rfl) (ok_b hk)
      refine lv_iinc (v := (i3 + 1)) (lv' := [(3, .int (i3 + 1)), (0, .ref r0), (1, .int i1), (2, .int i2)]) hx hb dX9_reach_60 hl (k := 3) rfl rfl (by decide) rfl (fun ls hl => ?_)
      refine lv_goto (tgt := 9) hx hb dX9_reach_63 (by decide) ?_
      exact hrec (i3 + 1) q21 _ _ _ w (lv_sub hl [1, 2, 3, 0] rfl) hk
theorem wl_X9_reach_9 {p : Program} {l : Launch} {e : Env} {s : State} {m : MethodId} {args : Array Value} {below : List Frame} {meth : Method} {c : Code} {D : va_G} {cy : Cyy} {A : Nat → Prop} {G : Gg} (X : Cx p m c cX9_reach 5 s args wz_X9_reach RX9 D cy) {Q : State → Prop} (r0 : Nat) (i1 : Int32) (i2 : Int32) (Qo : Mm → Prop)  (hE : ∀ (y : Mm), Qo (y) → ∀ (H : Heap) (locs : List Loc) (ls : Array Slot), Wo s D cy A G y H locs → lv_has ls 5 [(0, .ref r0), (2, .int i2)] → W p l e rm_X9_reach s m args below meth c H locs 0 0 Q (F0 m 66 ls [])) : ∀ (n : Nat) (i3 : Int32) (M : Mm) (H : Heap) (locs : List Loc) (ls : Array Slot), Wo s D cy A G M H locs → lv_has ls 5 [(0, .ref r0), (1, .int i1), (2, .int i2), (3, .int i3)] → OK (lp_X9_reach_9 G r0 i1 i2 n i3 M) Qo → W p l e rm_X9_reach s m args below meth c H locs 0 0 Q (F0 m 9 ls []) := by
  intro n
  induction n with
  | zero => intro i3 M H locs ls w hl hk; exact ok_0 hk
  | succ n ih => intro i3 M H locs ls w hl hk; exact wb_X9_reach_9 X r0 i1 i2 Qo hE  (lp_X9_reach_9 G r0 i1 i2 n) ih i3 M H locs ls w hl hk
set_option maxHeartbeats 4000000 in
set_option maxRecDepth 100000 in
theorem wb_X9_reach_76 {p : Program} {l : Launch} {e : Env} {s : State} {m : MethodId} {args : Array Value} {below : List Frame} {meth : Method} {c : Code} {D : va_G} {cy : Cyy} {A : Nat → Prop} {G : Gg} (X : Cx p m c cX9_reach 5 s args wz_X9_reach RX9 D cy) {Q : State → Prop} (r0 : Nat) (i2 : Int32) (i3 : Int32) (Qo : Mm → Prop)  (hE : ∀ (y : Mm), Qo (y) → ∀ (H : Heap) (locs : List Loc) (ls : Array Slot), Wo s D cy A G y H locs → lv_has ls 5 [(0, .ref r0), (2, .int i2), (3, .int i3)] → W p l e rm_X9_reach s m args below meth c H locs 0 0 Q (F0 m 119 ls [])) (rec : Int32 → Mm → Option (Mm)) (hrec : ∀ (i4 : Int32) (M : Mm) (H : Heap) (locs : List Loc) (ls : Array Slot), Wo s D cy A G M H locs → lv_has ls 5 [(0, .ref r0), (2, .int i2), (3, .int i3), (4, .int i4)] → OK (rec i4 M) Qo → W p l e rm_X9_reach s m args below meth c H locs 0 0 Q (F0 m 76 ls [])) (i4 : Int32) (M : Mm) (H : Heap) (locs : List Loc) (ls : Array Slot) (w : Wo s D cy A G M H locs) (hl : lv_has ls 5 [(0, .ref r0), (2, .int i2), (3, .int i3), (4, .int i4)]) (hk : OK (bd_X9_reach_76 G r0 i2 i3 rec i4 M) Qo) : W p l e rm_X9_reach s m args below meth c H locs 0 0 Q (F0 m 76 ls []) := by
    have hx := X.1.1
    have hb := X.1.2.1
    unfold bd_X9_reach_76 at hk
    refine lv_iload hx hb dX9_reach_76 (lv_at hl 3 rfl) ?_
    refine lv_iload_n hx hb dX9_reach_78 rfl (lv_at hl 1 rfl) ?_
    refine lv_icmp_ge (tgt := 119) hx hb dX9_reach_79 (by decide) (fun c24 => ?_) (fun c24 => ?_)
    · have hk := ok_p c24 hk
      exact hE M (ok_s hk) _ _ _ w (lv_sub hl [0, 1, 2] rfl)
    · have hk := ok_n c24 hk
      refine lv_aload_n hx hb dX9_reach_82 rfl (lv_at hl 0 rfl) ?_
      obtain ⟨c25, hk⟩ := ok_c hk
      obtain ⟨r26, e27, hk⟩ := ok_b hk
      refine zgr X w 9 6 22 (C := RX9) (T := TX9) (N := 23) rfl ui_X9 (by decide) rfl (tb wf_X9_22) dX9_reach_83 c25 e27 ?_
      refine lv_iload hx hb dX9_reach_86 (lv_at hl 3 rfl) ?_
      obtain ⟨c28, hk⟩ := ok_c hk
      obtain ⟨c29, hk⟩ := ok_c hk
      refine zai X w dX9_reach_88 c28 c29 ?_
      refine lv_iload_n hx hb dX9_reach_89 rfl (lv_at hl 2 rfl) ?_
      refine lv_ishr hx hb dX9_reach_90 ?_
      refine lv_iconst (v := 1) hx hb dX9_reach_91 (by decide) ?_
      refine lv_iand hx hb dX9_reach_92 ?_
      refine lv_iconst (v := 1) hx hb dX9_reach_93 (by decide) ?_
      refine lv_icmp_ne (tgt := 113) hx hb dX9_reach_94 (by decide) (fun c30 => ?_) (fun c30 => ?_)
      · have hk := ok_n c30 hk
        refine lv_iinc (v := (i4 + 1)) (lv' := [(4, .int (i4 + 1)), (0, .ref r0), (2, .int i2), (3, .int i3)]) hx hb dX9_reach_113 hl (k := 3) rfl rfl (by decide) rfl (fun ls hl => ?_)
        refine lv_goto (tgt := 76) hx hb dX9_reach_116 (by decide) ?_
        exact hrec (i4 + 1) M _ _ _ w (lv_sub hl [1, 2, 3, 0] rfl) hk
      · have hk := ok_p c30 hk
        refine lv_aload_n hx hb dX9_reach_97 rfl (lv_at hl 0 rfl) ?_
        refine zgr X w 9 6 22 (C := RX9) (T := TX9) (N := 23) rfl ui_X9 (by decide) rfl (tb wf_X9_22) dX9_reach_98 c25 e27 ?_
        refine lv_iload hx hb dX9_reach_101 (lv_at hl 3 rfl) ?_
        refine lv_dup2_11 hx hb dX9_reach_103 rfl rfl ?_
        refine zai X w dX9_reach_104 c28 c29 ?_
        refine lv_aload_n hx hb dX9_reach_105 rfl (lv_at hl 0 rfl) ?_
        refine zgr X w 9 6 22 (C := RX9) (T := TX9) (N := 23) rfl ui_X9 (by decide) rfl (tb wf_X9_22) dX9_reach_106 c25 e27 ?_
        refine lv_iload_n hx hb dX9_reach_109 rfl (lv_at hl 2 rfl) ?_
        obtain ⟨c31, hk⟩ := ok_c hk
        refine zai X w dX9_reach_110 c28 c31 ?_
        refine lv_ior hx hb dX9_reach_111 ?_
        refine zsi X w dX9_reach_112 c28 c29 (fun H locs w => ?_)
        refine lv_iinc (v := (i4 + 1)) (lv' := [(4, .int (i4 + 1)), (0, .ref r0), (2, .int i2), (3, .int i3)]) hx hb dX9_reach_113 hl (k := 3) rfl rfl (by decide) rfl (fun ls hl => ?_)
        refine lv_goto (tgt := 76) hx hb dX9_reach_116 (by decide) ?_
        exact hrec (i4 + 1) (mwI M r26 (Int32.toNatClampNeg i4) ((M.1 r26 (Int32.toNatClampNeg i4)) ||| (M.1 r26 (Int32.toNatClampNeg i3)))) _ _ _ w (lv_sub hl [1, 2, 3, 0] rfl) hk
theorem wl_X9_reach_76 {p : Program} {l : Launch} {e : Env} {s : State} {m : MethodId} {args : Array Value} {below : List Frame} {meth : Method} {c : Code} {D : va_G} {cy : Cyy} {A : Nat → Prop} {G : Gg} (X : Cx p m c cX9_reach 5 s args wz_X9_reach RX9 D cy) {Q : State → Prop} (r0 : Nat) (i2 : Int32) (i3 : Int32) (Qo : Mm → Prop)  (hE : ∀ (y : Mm), Qo (y) → ∀ (H : Heap) (locs : List Loc) (ls : Array Slot), Wo s D cy A G y H locs → lv_has ls 5 [(0, .ref r0), (2, .int i2), (3, .int i3)] → W p l e rm_X9_reach s m args below meth c H locs 0 0 Q (F0 m 119 ls [])) : ∀ (n : Nat) (i4 : Int32) (M : Mm) (H : Heap) (locs : List Loc) (ls : Array Slot), Wo s D cy A G M H locs → lv_has ls 5 [(0, .ref r0), (2, .int i2), (3, .int i3), (4, .int i4)] → OK (lp_X9_reach_76 G r0 i2 i3 n i4 M) Qo → W p l e rm_X9_reach s m args below meth c H locs 0 0 Q (F0 m 76 ls []) := by
  intro n
  induction n with
  | zero => intro i4 M H locs ls w hl hk; exact ok_0 hk
  | succ n ih => intro i4 M H locs ls w hl hk; exact wb_X9_reach_76 X r0 i2 i3 Qo hE  (lp_X9_reach_76 G r0 i2 i3 n) ih i4 M H locs ls w hl hk
set_option maxHeartbeats 4000000 in
set_option maxRecDepth 100000 in
theorem wb_X9_reach_68 {p : Program} {l : Launch} {e : Env} {s : State} {m : MethodId} {args : Array Value} {below : List Frame} {meth : Method} {c : Code} {D : va_G} {cy : Cyy} {A : Nat → Prop} {G : Gg} (X : Cx p m c cX9_reach 5 s args wz_X9_reach RX9 D cy) {Q : State → Prop} (r0 : Nat) (i2 : Int32) (Qo : Mm → Prop)  (hE : ∀ (y : Mm), Qo (y) → ∀ (H : Heap) (locs : List Loc) (ls : Array Slot), Wo s D cy A G y H locs → lv_has ls 5 [(0, .ref r0), (2, .int i2)] → W p l e rm_X9_reach s m args below meth c H locs 0 0 Q (F0 m 125 ls [])) (rec : Int32 → Mm → Option (Mm)) (hrec : ∀ (i3 : Int32) (M : Mm) (H : Heap) (locs : List Loc) (ls : Array Slot), Wo s D cy A G M H locs → lv_has ls 5 [(0, .ref r0), (2, .int i2), (3, .int i3)] → OK (rec i3 M) Qo → W p l e rm_X9_reach s m args below meth c H locs 0 0 Q (F0 m 68 ls [])) (i3 : Int32) (M : Mm) (H : Heap) (locs : List Loc) (ls : Array Slot) (w : Wo s D cy A G M H locs) (hl : lv_has ls 5 [(0, .ref r0), (2, .int i2), (3, .int i3)]) (hk : OK (bd_X9_reach_68 G r0 i2 rec i3 M) Qo) : W p l e rm_X9_reach s m args below meth c H locs 0 0 Q (F0 m 68 ls []) := by
    have hx := X.1.1
    have hb := X.1.2.1
    unfold bd_X9_reach_68 at hk
    refine lv_iload_n hx hb dX9_reach_68 rfl (lv_at hl 2 rfl) ?_
    refine lv_iload_n hx hb dX9_reach_69 rfl (lv_at hl 1 rfl) ?_
    refine lv_icmp_ge (tgt := 125) hx hb dX9_reach_70 (by decide) (fun c23 => ?_) (fun c23 => ?_)
    · have hk := ok_p c23 hk
      exact hE M (ok_s hk) _ _ _ w (lv_sub hl [0, 1] rfl)
    · have hk := ok_n c23 hk
      refine lv_iconst (v := 0) hx hb dX9_reach_73 (by decide) ?_
      refine lv_istore (lv' := [(4, .int (0 : Int32)), (0, .ref r0), (2, .int i2), (3, .int i3)]) hx hb dX9_reach_74 hl (by decide) rfl (fun ls hl => ?_)
      refine wl_X9_reach_76 X r0 i2 i3 (Qo := _) (fun q32 hk H locs ls w hl => ?_) FU (0 : Int32) M _ _ _ w (lv_sub hl [1, 2, 3, 0] rfl) (ok_b hk)
      refine lv_iinc (v := (i3 + 1)) (lv' := [(3, .int (i3 + 1)), (0, .ref r0), (2, .int i2)]) hx hb dX9_reach_119 hl (k := 2) rfl rfl (by decide) rfl (fun ls hl => ?_)
      refine lv_goto (tgt := 68) hx hb dX9_reach_122 (by decide) ?_
      exact hrec (i3 + 1) q32 _ _ _ w (lv_sub hl [1, 2, 0] rfl) hk
theorem wl_X9_reach_68 {p : Program} {l : Launch} {e : Env} {s : State} {m : MethodId} {args : Array Value} {below : List Frame} {meth : Method} {c : Code} {D : va_G} {cy : Cyy} {A : Nat → Prop} {G : Gg} (X : Cx p m c cX9_reach 5 s args wz_X9_reach RX9 D cy) {Q : State → Prop} (r0 : Nat) (i2 : Int32) (Qo : Mm → Prop)  (hE : ∀ (y : Mm), Qo (y) → ∀ (H : Heap) (locs : List Loc) (ls : Array Slot), Wo s D cy A G y H locs → lv_has ls 5 [(0, .ref r0), (2, .int i2)] → W p l e rm_X9_reach s m args below meth c H locs 0 0 Q (F0 m 125 ls [])) : ∀ (n : Nat) (i3 : Int32) (M : Mm) (H : Heap) (locs : List Loc) (ls : Array Slot), Wo s D cy A G M H locs → lv_has ls 5 [(0, .ref r0), (2, .int i2), (3, .int i3)] → OK (lp_X9_reach_68 G r0 i2 n i3 M) Qo → W p l e rm_X9_reach s m args below meth c H locs 0 0 Q (F0 m 68 ls []) := by
  intro n
  induction n with
  | zero => intro i3 M H locs ls w hl hk; exact ok_0 hk
  | succ n ih => intro i3 M H locs ls w hl hk; exact wb_X9_reach_68 X r0 i2 Qo hE  (lp_X9_reach_68 G r0 i2 n) ih i3 M H locs ls w hl hk
set_option maxHeartbeats 4000000 in
set_option maxRecDepth 100000 in
theorem wb_X9_reach_147 {p : Program} {l : Launch} {e : Env} {s : State} {m : MethodId} {args : Array Value} {below : List Frame} {meth : Method} {c : Code} {D : va_G} {cy : Cyy} {A : Nat → Prop} {G : Gg} (X : Cx p m c cX9_reach 5 s args wz_X9_reach RX9 D cy) {Q : State → Prop} (r0 : Nat) (i2 : Int32) (i3 : Int32) (Qo : Mm → Prop)  (hE : ∀ (y : Mm), Qo (y) → ∀ (H : Heap) (locs : List Loc) (ls : Array Slot), Wo s D cy A G y H locs → lv_has ls 5 [(0, .ref r0), (2, .int i2), (3, .int i3)] → W p l e rm_X9_reach s m args below meth c H locs 0 0 Q (F0 m 202 ls [])) (rec : Int32 → Mm → Option (Mm)) (hrec : ∀ (i4 : Int32) (M : Mm) (H : Heap) (locs : List Loc) (ls : Array Slot), Wo s D cy A G M H locs → lv_has ls 5 [(0, .ref r0), (2, .int i2), (3, .int i3), (4, .int i4)] → OK (rec i4 M) Qo → W p l e rm_X9_reach s m args below meth c H locs 0 0 Q (F0 m 147 ls [])) (i4 : Int32) (M : Mm) (H : Heap) (locs : List Loc) (ls : Array Slot) (w : Wo s D cy A G M H locs) (hl : lv_has ls 5 [(0, .ref r0), (2, .int i2), (3, .int i3), (4, .int i4)]) (hk : OK (bd_X9_reach_147 G r0 i2 i3 rec i4 M) Qo) : W p l e rm_X9_reach s m args below meth c H locs 0 0 Q (F0 m 147 ls []) := by
    have hx := X.1.1
    have hb := X.1.2.1
    unfold bd_X9_reach_147 at hk
    refine lv_iload hx hb dX9_reach_147 (lv_at hl 3 rfl) ?_
    refine lv_iload_n hx hb dX9_reach_149 rfl (lv_at hl 2 rfl) ?_
    refine lv_icmp_ge (tgt := 202) hx hb dX9_reach_150 (by decide) (fun c40 => ?_) (fun c40 => ?_)
    · have hk := ok_p c40 hk
      exact hE M (ok_s hk) _ _ _ w (lv_sub hl [0, 1, 2] rfl)
    · have hk := ok_n c40 hk
      refine lv_aload_n hx hb dX9_reach_153 rfl (lv_at hl 0 rfl) ?_
      obtain ⟨c41, hk⟩ := ok_c hk
      obtain ⟨r42, e43, hk⟩ := ok_b hk
      refine zgr X w 9 7 25 (C := RX9) (T := TX9) (N := 23) rfl ui_X9 (by decide) rfl (tb wf_X9_25) dX9_reach_154 c41 e43 ?_
      refine lv_iload_n hx hb dX9_reach_157 rfl (lv_at hl 2 rfl) ?_
      obtain ⟨c44, hk⟩ := ok_c hk
      obtain ⟨c45, hk⟩ := ok_c hk
      refine zai X w dX9_reach_158 c44 c45 ?_
      refine lv_iconst (v := (-1)) hx hb dX9_reach_159 (by decide) ?_
      refine lv_icmp_ne (tgt := 202) hx hb dX9_reach_160 (by decide) (fun c46 => ?_) (fun c46 => ?_)
      · have hk := ok_n c46 hk
        exact hE M (ok_s hk) _ _ _ w (lv_sub hl [0, 1, 2] rfl)
      · have hk := ok_p c46 hk
        refine lv_aload_n hx hb dX9_reach_163 rfl (lv_at hl 0 rfl) ?_
        refine lv_iload_n hx hb dX9_reach_164 rfl (lv_at hl 2 rfl) ?_
        refine lv_iload hx hb dX9_reach_165 (lv_at hl 3 rfl) ?_
        obtain ⟨q47, e48, hk⟩ := ok_b hk
        refine zVi X w (n := 2) (As := [.int i3, .int i4]) (rest := []) (ci := 9) (C := RX9) (T := TX9) (N := 23) (c_X9_isTo l D cy G M r0 i3 i4 e48) (gzV wm_X9_95 wi_X9_isTo ws_X9_isTo wn_X9 wc_X9_isTo) rfl rfl rfl (by decide +kernel) (by decide) rfl c41 rfl rfl hl.1 (Nat.le_of_ble_eq_true rfl) dX9_reach_167 ⟨Nat.zero_le _, Nat.zero_le _⟩ (fun H locs w => ?_)
        refine lv_if_eq (tgt := 196) hx hb dX9_reach_170 (by decide) (fun c49 => ?_) (fun c49 => ?_)
        · have hk := ok_p c49 hk
          refine lv_iinc (v := (i4 + 1)) (lv' := [(4, .int (i4 + 1)), (0, .ref r0), (2, .int i2), (3, .int i3)]) hx hb dX9_reach_196 hl (k := 3) rfl rfl (by decide) rfl (fun ls hl => ?_)
          refine lv_goto (tgt := 147) hx hb dX9_reach_199 (by decide) ?_
          exact hrec (i4 + 1) M _ _ _ w (lv_sub hl [1, 2, 3, 0] rfl) hk
        · have hk := ok_n c49 hk
          refine lv_aload_n hx hb dX9_reach_173 rfl (lv_at hl 0 rfl) ?_
          refine lv_iload hx hb dX9_reach_174 (lv_at hl 3 rfl) ?_
          refine lv_iload_n hx hb dX9_reach_176 rfl (lv_at hl 2 rfl) ?_
          obtain ⟨q50, e51, hk⟩ := ok_b hk
          refine zVi X w (n := 2) (As := [.int i4, .int i3]) (rest := []) (ci := 9) (C := RX9) (T := TX9) (N := 23) (c_X9_isTo l D cy G M r0 i4 i3 e51) (gzV wm_X9_95 wi_X9_isTo ws_X9_isTo wn_X9 wc_X9_isTo) rfl rfl rfl (by decide +kernel) (by decide) rfl c41 rfl rfl hl.1 (Nat.le_of_ble_eq_true rfl) dX9_reach_177 ⟨Nat.zero_le _, Nat.zero_le _⟩ (fun H locs w => ?_)
          refine lv_if_eq (tgt := 196) hx hb dX9_reach_180 (by decide) (fun c52 => ?_) (fun c52 => ?_)
          · have hk := ok_p c52 hk
            refine lv_iinc (v := (i4 + 1)) (lv' := [(4, .int (i4 + 1)), (0, .ref r0), (2, .int i2), (3, .int i3)]) hx hb dX9_reach_196 hl (k := 3) rfl rfl (by decide) rfl (fun ls hl => ?_)
            refine lv_goto (tgt := 147) hx hb dX9_reach_199 (by decide) ?_
            exact hrec (i4 + 1) M _ _ _ w (lv_sub hl [1, 2, 3, 0] rfl) hk
          · have hk := ok_n c52 hk
            refine lv_aload_n hx hb dX9_reach_183 rfl (lv_at hl 0 rfl) ?_
            refine zgr X w 9 7 25 (C := RX9) (T := TX9) (N := 23) rfl ui_X9 (by decide) rfl (tb wf_X9_25) dX9_reach_184 c41 e43 ?_
            refine lv_iload_n hx hb dX9_reach_187 rfl (lv_at hl 2 rfl) ?_
            refine lv_aload_n hx hb dX9_reach_188 rfl (lv_at hl 0 rfl) ?_
            refine zgr X w 9 7 25 (C := RX9) (T := TX9) (N := 23) rfl ui_X9 (by decide) rfl (tb wf_X9_25) dX9_reach_189 c41 e43 ?_
            refine lv_iload hx hb dX9_reach_192 (lv_at hl 3 rfl) ?_
            obtain ⟨c53, hk⟩ := ok_c hk
            refine zai X w dX9_reach_194 c44 c53 ?_
            refine zsi X w dX9_reach_195 c44 c45 (fun H locs w => ?_)
            refine lv_iinc (v := (i4 + 1)) (lv' := [(4, .int (i4 + 1)), (0, .ref r0), (2, .int i2), (3, .int i3)]) hx hb dX9_reach_196 hl (k := 3) rfl rfl (by decide) rfl (fun ls hl => ?_)
            refine lv_goto (tgt := 147) hx hb dX9_reach_199 (by decide) ?_
            exact hrec (i4 + 1) (mwI M r42 (Int32.toNatClampNeg i3) (M.1 r42 (Int32.toNatClampNeg i4))) _ _ _ w (lv_sub hl [1, 2, 3, 0] rfl) hk
theorem wl_X9_reach_147 {p : Program} {l : Launch} {e : Env} {s : State} {m : MethodId} {args : Array Value} {below : List Frame} {meth : Method} {c : Code} {D : va_G} {cy : Cyy} {A : Nat → Prop} {G : Gg} (X : Cx p m c cX9_reach 5 s args wz_X9_reach RX9 D cy) {Q : State → Prop} (r0 : Nat) (i2 : Int32) (i3 : Int32) (Qo : Mm → Prop)  (hE : ∀ (y : Mm), Qo (y) → ∀ (H : Heap) (locs : List Loc) (ls : Array Slot), Wo s D cy A G y H locs → lv_has ls 5 [(0, .ref r0), (2, .int i2), (3, .int i3)] → W p l e rm_X9_reach s m args below meth c H locs 0 0 Q (F0 m 202 ls [])) : ∀ (n : Nat) (i4 : Int32) (M : Mm) (H : Heap) (locs : List Loc) (ls : Array Slot), Wo s D cy A G M H locs → lv_has ls 5 [(0, .ref r0), (2, .int i2), (3, .int i3), (4, .int i4)] → OK (lp_X9_reach_147 G r0 i2 i3 n i4 M) Qo → W p l e rm_X9_reach s m args below meth c H locs 0 0 Q (F0 m 147 ls []) := by
  intro n
  induction n with
  | zero => intro i4 M H locs ls w hl hk; exact ok_0 hk
  | succ n ih => intro i4 M H locs ls w hl hk; exact wb_X9_reach_147 X r0 i2 i3 Qo hE  (lp_X9_reach_147 G r0 i2 i3 n) ih i4 M H locs ls w hl hk
set_option maxHeartbeats 4000000 in
set_option maxRecDepth 100000 in
theorem wj_X9_reach_202 {p : Program} {l : Launch} {e : Env} {s : State} {m : MethodId} {args : Array Value} {below : List Frame} {meth : Method} {c : Code} {D : va_G} {cy : Cyy} {A : Nat → Prop} {G : Gg} (X : Cx p m c cX9_reach 5 s args wz_X9_reach RX9 D cy) {Q : State → Prop} (r0 : Nat) (i2 : Int32) (Qo : Mm → Prop)  (hE : ∀ (y : Mm), Qo (y) → ∀ (H : Heap) (locs : List Loc) (ls : Array Slot), Wo s D cy A G y H locs → lv_has ls 5 [] → W p l e rm_X9_reach s m args below meth c H locs 0 0 Q (F0 m 241 ls [])) (rec : Int32 → Mm → Option (Mm)) (hrec : ∀ (i3 : Int32) (M : Mm) (H : Heap) (locs : List Loc) (ls : Array Slot), Wo s D cy A G M H locs → lv_has ls 5 [(0, .ref r0), (2, .int i2), (3, .int i3)] → OK (rec i3 M) Qo → W p l e rm_X9_reach s m args below meth c H locs 0 0 Q (F0 m 132 ls [])) (i3 : Int32)  (M : Mm) (H : Heap) (locs : List Loc) (ls : Array Slot) (w : Wo s D cy A G M H locs) (hl : lv_has ls 5 [(0, .ref r0), (2, .int i2), (3, .int i3)]) (hk : OK (jn_X9_reach_202 G M rec r0 i2 i3) Qo) : W p l e rm_X9_reach s m args below meth c H locs 0 0 Q (F0 m 202 ls []) := by
    have hx := X.1.1
    have hb := X.1.2.1
    unfold jn_X9_reach_202 at hk
    refine lv_aload_n hx hb dX9_reach_202 rfl (lv_at hl 0 rfl) ?_
    obtain ⟨c55, hk⟩ := ok_c hk
    obtain ⟨r56, e57, hk⟩ := ok_b hk
    refine zgr X w 9 7 25 (C := RX9) (T := TX9) (N := 23) rfl ui_X9 (by decide) rfl (tb wf_X9_25) dX9_reach_203 c55 e57 ?_
    refine lv_iload_n hx hb dX9_reach_206 rfl (lv_at hl 2 rfl) ?_
    obtain ⟨c58, hk⟩ := ok_c hk
    obtain ⟨c59, hk⟩ := ok_c hk
    refine zai X w dX9_reach_207 c58 c59 ?_
    refine lv_iconst (v := (-1)) hx hb dX9_reach_208 (by decide) ?_
    refine lv_icmp_eq (tgt := 215) hx hb dX9_reach_209 (by decide) (fun c60 => ?_) (fun c60 => ?_)
    · have hk := ok_p c60 hk
      refine lv_aload_n hx hb dX9_reach_215 rfl (lv_at hl 0 rfl) ?_
      refine zgr X w 9 7 25 (C := RX9) (T := TX9) (N := 23) rfl ui_X9 (by decide) rfl (tb wf_X9_25) dX9_reach_216 c55 e57 ?_
      refine lv_iload_n hx hb dX9_reach_219 rfl (lv_at hl 2 rfl) ?_
      refine lv_aload_n hx hb dX9_reach_220 rfl (lv_at hl 0 rfl) ?_
      refine zgi X w 9 8 92 (C := RX9) (T := TX9) (N := 23) rfl ui_X9 (by decide) rfl (tb wf_X9_92) dX9_reach_221 c55 ?_
      refine zsi X w dX9_reach_224 c58 c59 (fun H locs w => ?_)
      refine lv_aload_n hx hb dX9_reach_225 rfl (lv_at hl 0 rfl) ?_
      refine lv_dup hx hb dX9_reach_226 rfl ?_
      refine zgi X w 9 8 92 (C := RX9) (T := TX9) (N := 23) rfl ui_X9 (by decide) rfl (tb wf_X9_92) dX9_reach_227 c55 ?_
      refine lv_iconst (v := 1) hx hb dX9_reach_230 (by decide) ?_
      refine lv_iadd hx hb dX9_reach_231 ?_
      refine zpi X w 9 8 92 tyX9 (C := RX9) (T := TX9) (N := 23) rfl ui_X9 tyX9_ok nmX9 (by decide) rfl (tb wf_X9_92) rfl rfl dX9_reach_232 c55 (fun H locs w => ?_)
      refine lv_iinc (v := (i3 + 1)) (lv' := [(3, .int (i3 + 1)), (0, .ref r0), (2, .int i2)]) hx hb dX9_reach_235 hl (k := 2) rfl rfl (by decide) rfl (fun ls hl => ?_)
      refine lv_goto (tgt := 132) hx hb dX9_reach_238 (by decide) ?_
      exact hrec (i3 + 1) (mwI (mwI M r56 (Int32.toNatClampNeg i3) (M.1 r0 8)) r0 8 (((mwI M r56 (Int32.toNatClampNeg i3) (M.1 r0 8)).1 r0 8) + (1 : Int32))) _ _ _ w (lv_sub hl [1, 2, 0] rfl) hk
    · have hk := ok_n c60 hk
      refine lv_goto (tgt := 235) hx hb dX9_reach_212 (by decide) ?_
      refine lv_iinc (v := (i3 + 1)) (lv' := [(3, .int (i3 + 1)), (0, .ref r0), (2, .int i2)]) hx hb dX9_reach_235 hl (k := 2) rfl rfl (by decide) rfl (fun ls hl => ?_)
      refine lv_goto (tgt := 132) hx hb dX9_reach_238 (by decide) ?_
      exact hrec (i3 + 1) M _ _ _ w (lv_sub hl [1, 2, 0] rfl) hk
set_option maxHeartbeats 4000000 in
set_option maxRecDepth 100000 in
theorem wb_X9_reach_132 {p : Program} {l : Launch} {e : Env} {s : State} {m : MethodId} {args : Array Value} {below : List Frame} {meth : Method} {c : Code} {D : va_G} {cy : Cyy} {A : Nat → Prop} {G : Gg} (X : Cx p m c cX9_reach 5 s args wz_X9_reach RX9 D cy) {Q : State → Prop} (r0 : Nat) (i2 : Int32) (Qo : Mm → Prop)  (hE : ∀ (y : Mm), Qo (y) → ∀ (H : Heap) (locs : List Loc) (ls : Array Slot), Wo s D cy A G y H locs → lv_has ls 5 [] → W p l e rm_X9_reach s m args below meth c H locs 0 0 Q (F0 m 241 ls [])) (rec : Int32 → Mm → Option (Mm)) (hrec : ∀ (i3 : Int32) (M : Mm) (H : Heap) (locs : List Loc) (ls : Array Slot), Wo s D cy A G M H locs → lv_has ls 5 [(0, .ref r0), (2, .int i2), (3, .int i3)] → OK (rec i3 M) Qo → W p l e rm_X9_reach s m args below meth c H locs 0 0 Q (F0 m 132 ls [])) (i3 : Int32) (M : Mm) (H : Heap) (locs : List Loc) (ls : Array Slot) (w : Wo s D cy A G M H locs) (hl : lv_has ls 5 [(0, .ref r0), (2, .int i2), (3, .int i3)]) (hk : OK (bd_X9_reach_132 G r0 i2 rec i3 M) Qo) : W p l e rm_X9_reach s m args below meth c H locs 0 0 Q (F0 m 132 ls []) := by
    have hx := X.1.1
    have hb := X.1.2.1
    unfold bd_X9_reach_132 at hk
    refine lv_iload_n hx hb dX9_reach_132 rfl (lv_at hl 2 rfl) ?_
    refine lv_iload_n hx hb dX9_reach_133 rfl (lv_at hl 1 rfl) ?_
    refine lv_icmp_ge (tgt := 241) hx hb dX9_reach_134 (by decide) (fun c34 => ?_) (fun c34 => ?_)
    · have hk := ok_p c34 hk
      exact hE M (ok_s hk) _ _ _ w (lv_sub hl [] rfl)
    · have hk := ok_n c34 hk
      refine lv_aload_n hx hb dX9_reach_137 rfl (lv_at hl 0 rfl) ?_
      obtain ⟨c35, hk⟩ := ok_c hk
      obtain ⟨r36, e37, hk⟩ := ok_b hk
      refine zgr X w 9 7 25 (C := RX9) (T := TX9) (N := 23) rfl ui_X9 (by decide) rfl (tb wf_X9_25) dX9_reach_138 c35 e37 ?_
      refine lv_iload_n hx hb dX9_reach_141 rfl (lv_at hl 2 rfl) ?_
      refine lv_iconst (v := (-1)) hx hb dX9_reach_142 (by decide) ?_
      obtain ⟨c38, hk⟩ := ok_c hk
      obtain ⟨c39, hk⟩ := ok_c hk
      refine zsi X w dX9_reach_143 c38 c39 (fun H locs w => ?_)
      refine lv_iconst (v := 0) hx hb dX9_reach_144 (by decide) ?_
      refine lv_istore (lv' := [(4, .int (0 : Int32)), (0, .ref r0), (2, .int i2), (3, .int i3)]) hx hb dX9_reach_145 hl (by decide) rfl (fun ls hl => ?_)
      refine wl_X9_reach_147 X r0 i2 i3 (Qo := _) (fun q54 hk H locs ls w hl => ?_) FU (0 : Int32) (mwI M r36 (Int32.toNatClampNeg i3) (-1)) _ _ _ w (lv_sub hl [1, 2, 3, 0] rfl) (ok_b hk)
      exact wj_X9_reach_202 X r0 i2 Qo hE rec hrec i3 q54 _ _ _ w (lv_sub hl [0, 1, 2] rfl) hk
theorem wl_X9_reach_132 {p : Program} {l : Launch} {e : Env} {s : State} {m : MethodId} {args : Array Value} {below : List Frame} {meth : Method} {c : Code} {D : va_G} {cy : Cyy} {A : Nat → Prop} {G : Gg} (X : Cx p m c cX9_reach 5 s args wz_X9_reach RX9 D cy) {Q : State → Prop} (r0 : Nat) (i2 : Int32) (Qo : Mm → Prop)  (hE : ∀ (y : Mm), Qo (y) → ∀ (H : Heap) (locs : List Loc) (ls : Array Slot), Wo s D cy A G y H locs → lv_has ls 5 [] → W p l e rm_X9_reach s m args below meth c H locs 0 0 Q (F0 m 241 ls [])) : ∀ (n : Nat) (i3 : Int32) (M : Mm) (H : Heap) (locs : List Loc) (ls : Array Slot), Wo s D cy A G M H locs → lv_has ls 5 [(0, .ref r0), (2, .int i2), (3, .int i3)] → OK (lp_X9_reach_132 G r0 i2 n i3 M) Qo → W p l e rm_X9_reach s m args below meth c H locs 0 0 Q (F0 m 132 ls []) := by
  intro n
  induction n with
  | zero => intro i3 M H locs ls w hl hk; exact ok_0 hk
  | succ n ih => intro i3 M H locs ls w hl hk; exact wb_X9_reach_132 X r0 i2 Qo hE  (lp_X9_reach_132 G r0 i2 n) ih i3 M H locs ls w hl hk
set_option maxHeartbeats 4000000 in
set_option maxRecDepth 100000 in
theorem c_X9_reach (l : Launch) (D : va_G) (cy : Cyy) (G : Gg) (M : Mm) (r0 : Nat) (i1 : Int32) {q : Mm} (hm : f_X9_reach G M r0 i1 = some q) : CV l yX9_reach wz_X9_reach rm_X9_reach D cy G M [.ref r0, .int i1] q := by
  refine Met_of (Qf := fun A => QV D cy G A q) (cc := cX9_reach) (nL := 5) (ret := none) (own := RX9) (lv := [(0, .ref r0), (1, .int i1)]) (by decide) rfl rfl (Nat.le_of_ble_eq_true rfl) rfl ?_
  intro p e s m args below meth c A ls X hr hlk w hl
  have hx := X.1.1
  have hb := X.1.2.1
  obtain ⟨Qo, hR, hk⟩ : ∃ Qo : Mm → Prop, (∀ x, Qo x → x = q) ∧ OK (f_X9_reach G M r0 i1) Qo := ⟨fun x => x = q, fun _ h => h, q, hm, rfl⟩
  unfold f_X9_reach at hk
  refine lv_aload_n hx hb dX9_reach_0 rfl (lv_at hl 0 rfl) ?_
  obtain ⟨c1, hk⟩ := ok_c hk
  obtain ⟨r2, e3, hk⟩ := ok_b hk
  refine zgr X w 9 3 13 (C := RX9) (T := TX9) (N := 23) rfl ui_X9 (by decide) rfl (tb wf_X9_13) dX9_reach_1 c1 e3 ?_
  refine lv_iload_n hx hb dX9_reach_4 rfl (lv_at hl 1 rfl) ?_
  obtain ⟨c4, hk⟩ := ok_c hk
  obtain ⟨c5, hk⟩ := ok_c hk
  refine zai X w dX9_reach_5 c4 c5 ?_
  refine lv_istore_n (lv' := [(2, .int (M.1 r2 (Int32.toNatClampNeg i1))), (0, .ref r0), (1, .int i1)]) hx hb dX9_reach_6 rfl hl (by decide) rfl (fun ls hl => ?_)
  refine lv_iconst (v := 0) hx hb dX9_reach_7 (by decide) ?_
  refine lv_istore_n (lv' := [(3, .int (0 : Int32)), (2, .int (M.1 r2 (Int32.toNatClampNeg i1))), (0, .ref r0), (1, .int i1)]) hx hb dX9_reach_8 rfl hl (by decide) rfl (fun ls hl => ?_)
  refine wl_X9_reach_9 X r0 i1 (M.1 r2 (Int32.toNatClampNeg i1)) (Qo := _) (fun q22 hk H locs ls w hl => ?_) FU (0 : Int32) M _ _ _ w (lv_sub hl [2, 3, 1, 0] rfl) (ok_b hk)
  refine lv_iconst (v := 0) hx hb dX9_reach_66 (by decide) ?_
  refine lv_istore_n (lv' := [(3, .int (0 : Int32)), (0, .ref r0), (2, .int (M.1 r2 (Int32.toNatClampNeg i1)))]) hx hb dX9_reach_67 rfl hl (by decide) rfl (fun ls hl => ?_)
  refine wl_X9_reach_68 X r0 (M.1 r2 (Int32.toNatClampNeg i1)) (Qo := _) (fun q33 hk H locs ls w hl => ?_) FU (0 : Int32) q22 _ _ _ w (lv_sub hl [1, 2, 0] rfl) (ok_b hk)
  refine lv_aload_n hx hb dX9_reach_125 rfl (lv_at hl 0 rfl) ?_
  refine lv_iconst (v := 0) hx hb dX9_reach_126 (by decide) ?_
  refine zpi X w 9 8 92 tyX9 (C := RX9) (T := TX9) (N := 23) rfl ui_X9 tyX9_ok nmX9 (by decide) rfl (tb wf_X9_92) rfl rfl dX9_reach_127 c1 (fun H locs w => ?_)
  refine lv_iconst (v := 0) hx hb dX9_reach_130 (by decide) ?_
  refine lv_istore_n (lv' := [(3, .int (0 : Int32)), (0, .ref r0), (2, .int (M.1 r2 (Int32.toNatClampNeg i1)))]) hx hb dX9_reach_131 rfl hl (by decide) rfl (fun ls hl => ?_)
  refine wl_X9_reach_132 X r0 (M.1 r2 (Int32.toNatClampNeg i1)) (Qo := _) (fun q61 hk H locs ls w hl => ?_) FU (0 : Int32) (mwI q33 r0 8 (0 : Int32)) _ _ _ w (lv_sub hl [1, 2, 0] rfl) (ok_b hk)
  have hk := hR _ (ok_s hk)
  exact zrv X hr hlk w dX9_reach_241 hk
abbrev rm_X9_bitsOf : Room := { frames := 0, cells := 0, slots := 0, locals := 0 }
set_option maxHeartbeats 4000000 in
set_option maxRecDepth 100000 in
theorem wb_X9_bitsOf_5 {p : Program} {l : Launch} {e : Env} {s : State} {m : MethodId} {args : Array Value} {below : List Frame} {meth : Method} {c : Code} {D : va_G} {cy : Cyy} {A : Nat → Prop} {G : Gg} (X : Cx p m c cX9_bitsOf 5 s args wz_X9_bitsOf RX9 D cy) {Q : State → Prop} (M : Mm) (r0 : Nat) (i1 : Int32) (i2 : Int32) (Qo : Int32 → Prop)  (hE : ∀ (y : Int32), Qo (y) → ∀ (H : Heap) (locs : List Loc) (ls : Array Slot), Wo s D cy A G M H locs → lv_has ls 5 [(3, .int y)] → W p l e rm_X9_bitsOf s m args below meth c H locs 0 0 Q (F0 m 35 ls [])) (rec : Int32 → Int32 → Option (Int32)) (hrec : ∀ (i3 : Int32) (i4 : Int32) (H : Heap) (locs : List Loc) (ls : Array Slot), Wo s D cy A G M H locs → lv_has ls 5 [(0, .ref r0), (1, .int i1), (2, .int i2), (3, .int i3), (4, .int i4)] → OK (rec i3 i4) Qo → W p l e rm_X9_bitsOf s m args below meth c H locs 0 0 Q (F0 m 5 ls [])) (i3 : Int32) (i4 : Int32) (H : Heap) (locs : List Loc) (ls : Array Slot) (w : Wo s D cy A G M H locs) (hl : lv_has ls 5 [(0, .ref r0), (1, .int i1), (2, .int i2), (3, .int i3), (4, .int i4)]) (hk : OK (bd_X9_bitsOf_5 G M r0 i1 i2 rec i3 i4) Qo) : W p l e rm_X9_bitsOf s m args below meth c H locs 0 0 Q (F0 m 5 ls []) := by
    have hx := X.1.1
    have hb := X.1.2.1
    unfold bd_X9_bitsOf_5 at hk
    refine lv_iload hx hb dX9_bitsOf_5 (lv_at hl 4 rfl) ?_
    refine lv_iload_n hx hb dX9_bitsOf_7 rfl (lv_at hl 1 rfl) ?_
    refine lv_icmp_ge (tgt := 35) hx hb dX9_bitsOf_8 (by decide) (fun c1 => ?_) (fun c1 => ?_)
    · have hk := ok_p c1 hk
      exact hE i3 (ok_s hk) _ _ _ w (lv_sub hl [3] rfl)
    · have hk := ok_n c1 hk
      refine lv_aload_n hx hb dX9_bitsOf_11 rfl (lv_at hl 0 rfl) ?_
      obtain ⟨c2, hk⟩ := ok_c hk
      obtain ⟨r3, e4, hk⟩ := ok_b hk
      refine zgr X w 9 7 25 (C := RX9) (T := TX9) (N := 23) rfl ui_X9 (by decide) rfl (tb wf_X9_25) dX9_bitsOf_12 c2 e4 ?_
      refine lv_iload hx hb dX9_bitsOf_15 (lv_at hl 4 rfl) ?_
      obtain ⟨c5, hk⟩ := ok_c hk
      obtain ⟨c6, hk⟩ := ok_c hk
      refine zai X w dX9_bitsOf_17 c5 c6 ?_
      refine lv_iload_n hx hb dX9_bitsOf_18 rfl (lv_at hl 2 rfl) ?_
      refine lv_icmp_ne (tgt := 29) hx hb dX9_bitsOf_19 (by decide) (fun c7 => ?_) (fun c7 => ?_)
      · have hk := ok_n c7 hk
        refine lv_iinc (v := (i4 + 1)) (lv' := [(4, .int (i4 + 1)), (0, .ref r0), (1, .int i1), (2, .int i2), (3, .int i3)]) hx hb dX9_bitsOf_29 hl (k := 4) rfl rfl (by decide) rfl (fun ls hl => ?_)
        refine lv_goto (tgt := 5) hx hb dX9_bitsOf_32 (by decide) ?_
        exact hrec i3 (i4 + 1) _ _ _ w (lv_sub hl [1, 2, 3, 4, 0] rfl) hk
      · have hk := ok_p c7 hk
        refine lv_iload_n hx hb dX9_bitsOf_22 rfl (lv_at hl 3 rfl) ?_
        refine lv_iconst (v := 1) hx hb dX9_bitsOf_23 (by decide) ?_
        refine lv_iload hx hb dX9_bitsOf_24 (lv_at hl 4 rfl) ?_
        refine lv_ishl hx hb dX9_bitsOf_26 ?_
        refine lv_ior hx hb dX9_bitsOf_27 ?_
        refine lv_istore_n (lv' := [(3, .int (i3 ||| ((1 : Int32) <<< (i4 &&& 31)))), (0, .ref r0), (1, .int i1), (2, .int i2), (4, .int i4)]) hx hb dX9_bitsOf_28 rfl hl (by decide) rfl (fun ls hl => ?_)
        refine lv_iinc (v := (i4 + 1)) (lv' := [(4, .int (i4 + 1)), (3, .int (i3 ||| ((1 : Int32) <<< (i4 &&& 31)))), (0, .ref r0), (1, .int i1), (2, .int i2)]) hx hb dX9_bitsOf_29 hl (k := 4) rfl rfl (by decide) rfl (fun ls hl => ?_)
        refine lv_goto (tgt := 5) hx hb dX9_bitsOf_32 (by decide) ?_
        exact hrec (i3 ||| ((1 : Int32) <<< (i4 &&& 31))) (i4 + 1) _ _ _ w (lv_sub hl [2, 3, 4, 1, 0] rfl) hk
theorem wl_X9_bitsOf_5 {p : Program} {l : Launch} {e : Env} {s : State} {m : MethodId} {args : Array Value} {below : List Frame} {meth : Method} {c : Code} {D : va_G} {cy : Cyy} {A : Nat → Prop} {G : Gg} (X : Cx p m c cX9_bitsOf 5 s args wz_X9_bitsOf RX9 D cy) {Q : State → Prop} (M : Mm) (r0 : Nat) (i1 : Int32) (i2 : Int32) (Qo : Int32 → Prop)  (hE : ∀ (y : Int32), Qo (y) → ∀ (H : Heap) (locs : List Loc) (ls : Array Slot), Wo s D cy A G M H locs → lv_has ls 5 [(3, .int y)] → W p l e rm_X9_bitsOf s m args below meth c H locs 0 0 Q (F0 m 35 ls [])) : ∀ (n : Nat) (i3 : Int32) (i4 : Int32) (H : Heap) (locs : List Loc) (ls : Array Slot), Wo s D cy A G M H locs → lv_has ls 5 [(0, .ref r0), (1, .int i1), (2, .int i2), (3, .int i3), (4, .int i4)] → OK (lp_X9_bitsOf_5 G M r0 i1 i2 n i3 i4) Qo → W p l e rm_X9_bitsOf s m args below meth c H locs 0 0 Q (F0 m 5 ls []) := by
  intro n
  induction n with
  | zero => intro i3 i4 H locs ls w hl hk; exact ok_0 hk
  | succ n ih => intro i3 i4 H locs ls w hl hk; exact wb_X9_bitsOf_5 X M r0 i1 i2 Qo hE  (lp_X9_bitsOf_5 G M r0 i1 i2 n) ih i3 i4 H locs ls w hl hk
set_option maxHeartbeats 4000000 in
set_option maxRecDepth 100000 in
theorem c_X9_bitsOf (l : Launch) (D : va_G) (cy : Cyy) (G : Gg) (M : Mm) (r0 : Nat) (i1 : Int32) (i2 : Int32) {q : Int32} (hm : f_X9_bitsOf G M r0 i1 i2 = some q) : CI l yX9_bitsOf wz_X9_bitsOf rm_X9_bitsOf D cy G M [.ref r0, .int i1, .int i2] q M := by
  refine Met_of (Qf := fun A => QI D cy G A q M) (cc := cX9_bitsOf) (nL := 5) (ret := (some .int)) (own := RX9) (lv := [(0, .ref r0), (1, .int i1), (2, .int i2)]) (by decide) rfl rfl (Nat.le_of_ble_eq_true rfl) rfl ?_
  intro p e s m args below meth c A ls X hr hlk w hl
  have hx := X.1.1
  have hb := X.1.2.1
  obtain ⟨Qo, hR, hk⟩ : ∃ Qo : Int32 → Prop, (∀ x, Qo x → x = q) ∧ OK (f_X9_bitsOf G M r0 i1 i2) Qo := ⟨fun x => x = q, fun _ h => h, q, hm, rfl⟩
  unfold f_X9_bitsOf at hk
  refine lv_iconst (v := 0) hx hb dX9_bitsOf_0 (by decide) ?_
  refine lv_istore_n (lv' := [(3, .int (0 : Int32)), (0, .ref r0), (1, .int i1), (2, .int i2)]) hx hb dX9_bitsOf_1 rfl hl (by decide) rfl (fun ls hl => ?_)
  refine lv_iconst (v := 0) hx hb dX9_bitsOf_2 (by decide) ?_
  refine lv_istore (lv' := [(4, .int (0 : Int32)), (3, .int (0 : Int32)), (0, .ref r0), (1, .int i1), (2, .int i2)]) hx hb dX9_bitsOf_3 hl (by decide) rfl (fun ls hl => ?_)
  refine wl_X9_bitsOf_5 X M r0 i1 i2 (Qo := _) (fun q8 hk H locs ls w hl => ?_) FU (0 : Int32) (0 : Int32) _ _ _ w (lv_sub hl [2, 3, 4, 1, 0] rfl) (ok_b hk)
  refine lv_iload_n hx hb dX9_bitsOf_35 rfl (lv_at hl 0 rfl) ?_
  have hk := hR _ (ok_s hk)
  exact zri X hr hlk w dX9_bitsOf_36 hk rfl
abbrev rm_X9_isClosed : Room := { frames := 1, cells := 0, slots := 0, locals := 24 }
set_option maxHeartbeats 4000000 in
set_option maxRecDepth 100000 in
theorem wb_X9_isClosed_10 {p : Program} {l : Launch} {e : Env} {s : State} {m : MethodId} {args : Array Value} {below : List Frame} {meth : Method} {c : Code} {D : va_G} {cy : Cyy} {A : Nat → Prop} {G : Gg} (X : Cx p m c cX9_isClosed 5 s args wz_X9_isClosed RX9 D cy) (M : Mm) (r0 : Nat) (i1 : Int32) (i2 : Int32) (i3 : Int32) (Qo : (Int32) ⊕ (Unit) → Prop) (hr : meth.sig.returnType = (some .boolean)) (hlk : meth.locks = false) {x0 : Int32} (hR : ∀ x, Qo (.inl x) → x = x0) (hE : ∀ (y : Unit), Qo (.inr y) → ∀ (H : Heap) (locs : List Loc) (ls : Array Slot), Wo s D cy A G M H locs → lv_has ls 5 [] → W p l e rm_X9_isClosed s m args below meth c H locs 0 0 (MQ below (QI D cy G A x0 M) args s 0 0 A) (F0 m 49 ls [])) (rec : Int32 → Option ((Int32) ⊕ (Unit))) (hrec : ∀ (i4 : Int32) (H : Heap) (locs : List Loc) (ls : Array Slot), Wo s D cy A G M H locs → lv_has ls 5 [(0, .ref r0), (1, .int i1), (2, .int i2), (3, .int i3), (4, .int i4)] → OK (rec i4) Qo → W p l e rm_X9_isClosed s m args below meth c H locs 0 0 (MQ below (QI D cy G A x0 M) args s 0 0 A) (F0 m 10 ls [])) (i4 : Int32) (H : Heap) (locs : List Loc) (ls : Array Slot) (w : Wo s D cy A G M H locs) (hl : lv_has ls 5 [(0, .ref r0), (1, .int i1), (2, .int i2), (3, .int i3), (4, .int i4)]) (hk : OK (bd_X9_isClosed_10 G M r0 i1 i2 i3 rec i4) Qo) : W p l e rm_X9_isClosed s m args below meth c H locs 0 0 (MQ below (QI D cy G A x0 M) args s 0 0 A) (F0 m 10 ls []) := by
    have hx := X.1.1
    have hb := X.1.2.1
    unfold bd_X9_isClosed_10 at hk
    refine lv_iload hx hb dX9_isClosed_10 (lv_at hl 4 rfl) ?_
    refine lv_iload_n hx hb dX9_isClosed_12 rfl (lv_at hl 1 rfl) ?_
    refine lv_icmp_ge (tgt := 49) hx hb dX9_isClosed_13 (by decide) (fun c4 => ?_) (fun c4 => ?_)
    · have hk := ok_p c4 hk
      exact hE () (ok_s hk) _ _ _ w (lv_sub hl [] rfl)
    · have hk := ok_n c4 hk
      refine lv_aload_n hx hb dX9_isClosed_16 rfl (lv_at hl 0 rfl) ?_
      obtain ⟨c5, hk⟩ := ok_c hk
      obtain ⟨r6, e7, hk⟩ := ok_b hk
      refine zgr X w 9 7 25 (C := RX9) (T := TX9) (N := 23) rfl ui_X9 (by decide) rfl (tb wf_X9_25) dX9_isClosed_17 c5 e7 ?_
      refine lv_iload hx hb dX9_isClosed_20 (lv_at hl 4 rfl) ?_
      obtain ⟨c8, hk⟩ := ok_c hk
      obtain ⟨c9, hk⟩ := ok_c hk
      refine zai X w dX9_isClosed_22 c8 c9 ?_
      refine lv_iload_n hx hb dX9_isClosed_23 rfl (lv_at hl 2 rfl) ?_
      refine lv_icmp_ne (tgt := 43) hx hb dX9_isClosed_24 (by decide) (fun c10 => ?_) (fun c10 => ?_)
      · have hk := ok_n c10 hk
        refine lv_iinc (v := (i4 + 1)) (lv' := [(4, .int (i4 + 1)), (0, .ref r0), (1, .int i1), (2, .int i2), (3, .int i3)]) hx hb dX9_isClosed_43 hl (k := 4) rfl rfl (by decide) rfl (fun ls hl => ?_)
        refine lv_goto (tgt := 10) hx hb dX9_isClosed_46 (by decide) ?_
        exact hrec (i4 + 1) _ _ _ w (lv_sub hl [1, 2, 3, 4, 0] rfl) hk
      · have hk := ok_p c10 hk
        refine lv_aload_n hx hb dX9_isClosed_27 rfl (lv_at hl 0 rfl) ?_
        obtain ⟨r11, e12, hk⟩ := ok_b hk
        refine zgr X w 9 6 22 (C := RX9) (T := TX9) (N := 23) rfl ui_X9 (by decide) rfl (tb wf_X9_22) dX9_isClosed_28 c5 e12 ?_
        refine lv_iload hx hb dX9_isClosed_31 (lv_at hl 4 rfl) ?_
        obtain ⟨c13, hk⟩ := ok_c hk
        obtain ⟨c14, hk⟩ := ok_c hk
        refine zai X w dX9_isClosed_33 c13 c14 ?_
        refine lv_iload_n hx hb dX9_isClosed_34 rfl (lv_at hl 3 rfl) ?_
        refine lv_iconst (v := (-1)) hx hb dX9_isClosed_35 (by decide) ?_
        refine lv_ixor hx hb dX9_isClosed_36 ?_
        refine lv_iand hx hb dX9_isClosed_37 ?_
        refine lv_if_eq (tgt := 43) hx hb dX9_isClosed_38 (by decide) (fun c15 => ?_) (fun c15 => ?_)
        · have hk := ok_p c15 hk
          refine lv_iinc (v := (i4 + 1)) (lv' := [(4, .int (i4 + 1)), (0, .ref r0), (1, .int i1), (2, .int i2), (3, .int i3)]) hx hb dX9_isClosed_43 hl (k := 4) rfl rfl (by decide) rfl (fun ls hl => ?_)
          refine lv_goto (tgt := 10) hx hb dX9_isClosed_46 (by decide) ?_
          exact hrec (i4 + 1) _ _ _ w (lv_sub hl [1, 2, 3, 4, 0] rfl) hk
        · have hk := ok_n c15 hk
          refine lv_iconst (v := 0) hx hb dX9_isClosed_41 (by decide) ?_
          have hk := hR _ (ok_s hk)
          exact zrz X hr hlk w dX9_isClosed_42 (by decide) hk rfl
theorem wl_X9_isClosed_10 {p : Program} {l : Launch} {e : Env} {s : State} {m : MethodId} {args : Array Value} {below : List Frame} {meth : Method} {c : Code} {D : va_G} {cy : Cyy} {A : Nat → Prop} {G : Gg} (X : Cx p m c cX9_isClosed 5 s args wz_X9_isClosed RX9 D cy) (M : Mm) (r0 : Nat) (i1 : Int32) (i2 : Int32) (i3 : Int32) (Qo : (Int32) ⊕ (Unit) → Prop) (hr : meth.sig.returnType = (some .boolean)) (hlk : meth.locks = false) {x0 : Int32} (hR : ∀ x, Qo (.inl x) → x = x0) (hE : ∀ (y : Unit), Qo (.inr y) → ∀ (H : Heap) (locs : List Loc) (ls : Array Slot), Wo s D cy A G M H locs → lv_has ls 5 [] → W p l e rm_X9_isClosed s m args below meth c H locs 0 0 (MQ below (QI D cy G A x0 M) args s 0 0 A) (F0 m 49 ls [])) : ∀ (n : Nat) (i4 : Int32) (H : Heap) (locs : List Loc) (ls : Array Slot), Wo s D cy A G M H locs → lv_has ls 5 [(0, .ref r0), (1, .int i1), (2, .int i2), (3, .int i3), (4, .int i4)] → OK (lp_X9_isClosed_10 G M r0 i1 i2 i3 n i4) Qo → W p l e rm_X9_isClosed s m args below meth c H locs 0 0 (MQ below (QI D cy G A x0 M) args s 0 0 A) (F0 m 10 ls []) := by
  intro n
  induction n with
  | zero => intro i4 H locs ls w hl hk; exact ok_0 hk
  | succ n ih => intro i4 H locs ls w hl hk; exact wb_X9_isClosed_10 X M r0 i1 i2 i3 Qo hr hlk hR hE  (lp_X9_isClosed_10 G M r0 i1 i2 i3 n) ih i4 H locs ls w hl hk
set_option maxHeartbeats 4000000 in
set_option maxRecDepth 100000 in
theorem c_X9_isClosed (l : Launch) (D : va_G) (cy : Cyy) (G : Gg) (M : Mm) (r0 : Nat) (i1 : Int32) (i2 : Int32) {q : Int32} (hm : f_X9_isClosed G M r0 i1 i2 = some q) : CI l yX9_isClosed wz_X9_isClosed rm_X9_isClosed D cy G M [.ref r0, .int i1, .int i2] q M := by
  refine Met_of (Qf := fun A => QI D cy G A q M) (cc := cX9_isClosed) (nL := 5) (ret := (some .boolean)) (own := RX9) (lv := [(0, .ref r0), (1, .int i1), (2, .int i2)]) (by decide) rfl rfl (Nat.le_of_ble_eq_true rfl) rfl ?_
  intro p e s m args below meth c A ls X hr hlk w hl
  have hx := X.1.1
  have hb := X.1.2.1
  obtain ⟨Qo, hR, hk⟩ : ∃ Qo : Int32 → Prop, (∀ x, Qo x → x = q) ∧ OK (f_X9_isClosed G M r0 i1 i2) Qo := ⟨fun x => x = q, fun _ h => h, q, hm, rfl⟩
  unfold f_X9_isClosed at hk
  refine lv_aload_n hx hb dX9_isClosed_0 rfl (lv_at hl 0 rfl) ?_
  refine lv_iload_n hx hb dX9_isClosed_1 rfl (lv_at hl 1 rfl) ?_
  refine lv_iload_n hx hb dX9_isClosed_2 rfl (lv_at hl 2 rfl) ?_
  obtain ⟨c3, hk⟩ := ok_c hk
  obtain ⟨q1, e2, hk⟩ := ok_b hk
  refine zVi X w (n := 2) (As := [.int i1, .int i2]) (rest := []) (ci := 9) (C := RX9) (T := TX9) (N := 23) (c_X9_bitsOf l D cy G M r0 i1 i2 e2) (gzV wm_X9_99 wi_X9_bitsOf ws_X9_bitsOf wn_X9 wc_X9_bitsOf) rfl rfl rfl (by decide +kernel) (by decide) rfl c3 rfl rfl hl.1 (Nat.le_of_ble_eq_true rfl) dX9_isClosed_3 ⟨Nat.zero_le _, Nat.zero_le _⟩ (fun H locs w => ?_)
  refine lv_istore_n (lv' := [(3, .int q1), (0, .ref r0), (1, .int i1), (2, .int i2)]) hx hb dX9_isClosed_6 rfl hl (by decide) rfl (fun ls hl => ?_)
  refine lv_iconst (v := 0) hx hb dX9_isClosed_7 (by decide) ?_
  refine lv_istore (lv' := [(4, .int (0 : Int32)), (3, .int q1), (0, .ref r0), (1, .int i1), (2, .int i2)]) hx hb dX9_isClosed_8 hl (by decide) rfl (fun ls hl => ?_)
  refine wl_X9_isClosed_10 X M r0 i1 i2 q1 (Qo := _) hr hlk (fun x h => hR x (ok_s (show OK (some x) Qo from h))) (fun y17 hk H locs ls w hl => ?_) FU (0 : Int32) _ _ _ w (lv_sub hl [2, 3, 4, 1, 0] rfl) (ok_b hk)
  have hk := ok_r hk
  refine lv_iconst (v := 1) hx hb dX9_isClosed_49 (by decide) ?_
  have hk := hR _ (ok_s hk)
  exact zrz X hr hlk w dX9_isClosed_50 (by decide) hk rfl
abbrev rm_X9_closedOne : Room := { frames := 2, cells := 0, slots := 0, locals := 48 }
set_option maxHeartbeats 4000000 in
set_option maxRecDepth 100000 in
theorem wb_X9_closedOne_4 {p : Program} {l : Launch} {e : Env} {s : State} {m : MethodId} {args : Array Value} {below : List Frame} {meth : Method} {c : Code} {D : va_G} {cy : Cyy} {A : Nat → Prop} {G : Gg} (X : Cx p m c cX9_closedOne 4 s args wz_X9_closedOne RX9 D cy) (M : Mm) (r0 : Nat) (i1 : Int32) (Qo : (Int32) ⊕ (Int32) → Prop) (hr : meth.sig.returnType = (some .int)) (hlk : meth.locks = false) {x0 : Int32} (hR : ∀ x, Qo (.inl x) → x = x0) (hE : ∀ (y : Int32), Qo (.inr y) → ∀ (H : Heap) (locs : List Loc) (ls : Array Slot), Wo s D cy A G M H locs → lv_has ls 4 [(2, .int y)] → W p l e rm_X9_closedOne s m args below meth c H locs 0 0 (MQ below (QI D cy G A x0 M) args s 0 0 A) (F0 m 39 ls [])) (rec : Int32 → Int32 → Option ((Int32) ⊕ (Int32))) (hrec : ∀ (i2 : Int32) (i3 : Int32) (H : Heap) (locs : List Loc) (ls : Array Slot), Wo s D cy A G M H locs → lv_has ls 4 [(0, .ref r0), (1, .int i1), (2, .int i2), (3, .int i3)] → OK (rec i2 i3) Qo → W p l e rm_X9_closedOne s m args below meth c H locs 0 0 (MQ below (QI D cy G A x0 M) args s 0 0 A) (F0 m 4 ls [])) (i2 : Int32) (i3 : Int32) (H : Heap) (locs : List Loc) (ls : Array Slot) (w : Wo s D cy A G M H locs) (hl : lv_has ls 4 [(0, .ref r0), (1, .int i1), (2, .int i2), (3, .int i3)]) (hk : OK (bd_X9_closedOne_4 G M r0 i1 rec i2 i3) Qo) : W p l e rm_X9_closedOne s m args below meth c H locs 0 0 (MQ below (QI D cy G A x0 M) args s 0 0 A) (F0 m 4 ls []) := by
    have hx := X.1.1
    have hb := X.1.2.1
    unfold bd_X9_closedOne_4 at hk
    refine lv_iload_n hx hb dX9_closedOne_4 rfl (lv_at hl 3 rfl) ?_
    refine lv_aload_n hx hb dX9_closedOne_5 rfl (lv_at hl 0 rfl) ?_
    obtain ⟨c1, hk⟩ := ok_c hk
    refine zgi X w 9 8 92 (C := RX9) (T := TX9) (N := 23) rfl ui_X9 (by decide) rfl (tb wf_X9_92) dX9_closedOne_6 c1 ?_
    refine lv_icmp_ge (tgt := 39) hx hb dX9_closedOne_9 (by decide) (fun c2 => ?_) (fun c2 => ?_)
    · have hk := ok_p c2 hk
      exact hE i2 (ok_s hk) _ _ _ w (lv_sub hl [2] rfl)
    · have hk := ok_n c2 hk
      refine lv_aload_n hx hb dX9_closedOne_12 rfl (lv_at hl 0 rfl) ?_
      refine lv_iload_n hx hb dX9_closedOne_13 rfl (lv_at hl 1 rfl) ?_
      refine lv_iload_n hx hb dX9_closedOne_14 rfl (lv_at hl 3 rfl) ?_
      obtain ⟨q3, e4, hk⟩ := ok_b hk
      refine zVi X w (n := 2) (As := [.int i1, .int i3]) (rest := []) (ci := 9) (C := RX9) (T := TX9) (N := 23) (c_X9_isClosed l D cy G M r0 i1 i3 e4) (gzV wm_X9_103 wi_X9_isClosed ws_X9_isClosed wn_X9 wc_X9_isClosed) rfl rfl rfl (by decide +kernel) (by decide) rfl c1 rfl rfl hl.1 (Nat.le_of_ble_eq_true rfl) dX9_closedOne_15 ⟨Nat.zero_le _, Nat.zero_le _⟩ (fun H locs w => ?_)
      refine lv_if_ne (tgt := 24) hx hb dX9_closedOne_18 (by decide) (fun c5 => ?_) (fun c5 => ?_)
      · have hk := ok_n c5 hk
        refine lv_iload_n hx hb dX9_closedOne_24 rfl (lv_at hl 2 rfl) ?_
        refine lv_iconst (v := (-1)) hx hb dX9_closedOne_25 (by decide) ?_
        refine lv_icmp_eq (tgt := 31) hx hb dX9_closedOne_26 (by decide) (fun c6 => ?_) (fun c6 => ?_)
        · have hk := ok_p c6 hk
          refine lv_iload_n hx hb dX9_closedOne_31 rfl (lv_at hl 3 rfl) ?_
          refine lv_istore_n (lv' := [(2, .int i3), (0, .ref r0), (1, .int i1), (3, .int i3)]) hx hb dX9_closedOne_32 rfl hl (by decide) rfl (fun ls hl => ?_)
          refine lv_iinc (v := (i3 + 1)) (lv' := [(3, .int (i3 + 1)), (2, .int i3), (0, .ref r0), (1, .int i1)]) hx hb dX9_closedOne_33 hl (k := 3) rfl rfl (by decide) rfl (fun ls hl => ?_)
          refine lv_goto (tgt := 4) hx hb dX9_closedOne_36 (by decide) ?_
          exact hrec i3 (i3 + 1) _ _ _ w (lv_sub hl [2, 3, 1, 0] rfl) hk
        · have hk := ok_n c6 hk
          refine lv_iconst (v := (-1)) hx hb dX9_closedOne_29 (by decide) ?_
          have hk := hR _ (ok_s hk)
          exact zri X hr hlk w dX9_closedOne_30 hk rfl
      · have hk := ok_p c5 hk
        refine lv_goto (tgt := 33) hx hb dX9_closedOne_21 (by decide) ?_
        refine lv_iinc (v := (i3 + 1)) (lv' := [(3, .int (i3 + 1)), (0, .ref r0), (1, .int i1), (2, .int i2)]) hx hb dX9_closedOne_33 hl (k := 3) rfl rfl (by decide) rfl (fun ls hl => ?_)
        refine lv_goto (tgt := 4) hx hb dX9_closedOne_36 (by decide) ?_
        exact hrec i2 (i3 + 1) _ _ _ w (lv_sub hl [1, 2, 3, 0] rfl) hk
theorem wl_X9_closedOne_4 {p : Program} {l : Launch} {e : Env} {s : State} {m : MethodId} {args : Array Value} {below : List Frame} {meth : Method} {c : Code} {D : va_G} {cy : Cyy} {A : Nat → Prop} {G : Gg} (X : Cx p m c cX9_closedOne 4 s args wz_X9_closedOne RX9 D cy) (M : Mm) (r0 : Nat) (i1 : Int32) (Qo : (Int32) ⊕ (Int32) → Prop) (hr : meth.sig.returnType = (some .int)) (hlk : meth.locks = false) {x0 : Int32} (hR : ∀ x, Qo (.inl x) → x = x0) (hE : ∀ (y : Int32), Qo (.inr y) → ∀ (H : Heap) (locs : List Loc) (ls : Array Slot), Wo s D cy A G M H locs → lv_has ls 4 [(2, .int y)] → W p l e rm_X9_closedOne s m args below meth c H locs 0 0 (MQ below (QI D cy G A x0 M) args s 0 0 A) (F0 m 39 ls [])) : ∀ (n : Nat) (i2 : Int32) (i3 : Int32) (H : Heap) (locs : List Loc) (ls : Array Slot), Wo s D cy A G M H locs → lv_has ls 4 [(0, .ref r0), (1, .int i1), (2, .int i2), (3, .int i3)] → OK (lp_X9_closedOne_4 G M r0 i1 n i2 i3) Qo → W p l e rm_X9_closedOne s m args below meth c H locs 0 0 (MQ below (QI D cy G A x0 M) args s 0 0 A) (F0 m 4 ls []) := by
  intro n
  induction n with
  | zero => intro i2 i3 H locs ls w hl hk; exact ok_0 hk
  | succ n ih => intro i2 i3 H locs ls w hl hk; exact wb_X9_closedOne_4 X M r0 i1 Qo hr hlk hR hE  (lp_X9_closedOne_4 G M r0 i1 n) ih i2 i3 H locs ls w hl hk
set_option maxHeartbeats 4000000 in
set_option maxRecDepth 100000 in
theorem c_X9_closedOne (l : Launch) (D : va_G) (cy : Cyy) (G : Gg) (M : Mm) (r0 : Nat) (i1 : Int32) {q : Int32} (hm : f_X9_closedOne G M r0 i1 = some q) : CI l yX9_closedOne wz_X9_closedOne rm_X9_closedOne D cy G M [.ref r0, .int i1] q M := by
  refine Met_of (Qf := fun A => QI D cy G A q M) (cc := cX9_closedOne) (nL := 4) (ret := (some .int)) (own := RX9) (lv := [(0, .ref r0), (1, .int i1)]) (by decide) rfl rfl (Nat.le_of_ble_eq_true rfl) rfl ?_
  intro p e s m args below meth c A ls X hr hlk w hl
  have hx := X.1.1
  have hb := X.1.2.1
  obtain ⟨Qo, hR, hk⟩ : ∃ Qo : Int32 → Prop, (∀ x, Qo x → x = q) ∧ OK (f_X9_closedOne G M r0 i1) Qo := ⟨fun x => x = q, fun _ h => h, q, hm, rfl⟩
  unfold f_X9_closedOne at hk
  refine lv_iconst (v := (-1)) hx hb dX9_closedOne_0 (by decide) ?_
  refine lv_istore_n (lv' := [(2, .int (-1)), (0, .ref r0), (1, .int i1)]) hx hb dX9_closedOne_1 rfl hl (by decide) rfl (fun ls hl => ?_)
  refine lv_iconst (v := 0) hx hb dX9_closedOne_2 (by decide) ?_
  refine lv_istore_n (lv' := [(3, .int (0 : Int32)), (2, .int (-1)), (0, .ref r0), (1, .int i1)]) hx hb dX9_closedOne_3 rfl hl (by decide) rfl (fun ls hl => ?_)
  refine wl_X9_closedOne_4 X M r0 i1 (Qo := _) hr hlk (fun x h => hR x (ok_s (show OK (some x) Qo from h))) (fun y8 hk H locs ls w hl => ?_) FU (-1) (0 : Int32) _ _ _ w (lv_sub hl [2, 3, 1, 0] rfl) (ok_b hk)
  have hk := ok_r hk
  refine lv_iload_n hx hb dX9_closedOne_39 rfl (lv_at hl 0 rfl) ?_
  have hk := hR _ (ok_s hk)
  exact zri X hr hlk w dX9_closedOne_40 hk rfl
abbrev rm_X9_beat : Room := { frames := 1, cells := 0, slots := 0, locals := 29 }
set_option maxHeartbeats 4000000 in
set_option maxRecDepth 100000 in
theorem wb_X9_beat_54 {p : Program} {l : Launch} {e : Env} {s : State} {m : MethodId} {args : Array Value} {below : List Frame} {meth : Method} {c : Code} {D : va_G} {cy : Cyy} {A : Nat → Prop} {G : Gg} (X : Cx p m c cX9_beat 11 s args wz_X9_beat RX9 D cy) {Q : State → Prop} (M : Mm) (r0 : Nat) (i1 : Int32) (i2 : Int32) (i3 : Int32) (i4 : Int32) (l5 : Int64) (i7 : Int32) (i9 : Int32) (Qo : Int32 → Prop)  (hE : ∀ (y : Int32), Qo (y) → ∀ (H : Heap) (locs : List Loc) (ls : Array Slot), Wo s D cy A G M H locs → lv_has ls 11 [(0, .ref r0), (1, .int i1), (2, .int i2), (3, .int i3), (4, .int i4), (5, .long l5), (7, .int i7), (8, .int y), (9, .int i9)] → W p l e rm_X9_beat s m args below meth c H locs 0 0 Q (F0 m 87 ls [])) (rec : Int32 → Int32 → Option (Int32)) (hrec : ∀ (i8 : Int32) (i10 : Int32) (H : Heap) (locs : List Loc) (ls : Array Slot), Wo s D cy A G M H locs → lv_has ls 11 [(0, .ref r0), (1, .int i1), (2, .int i2), (3, .int i3), (4, .int i4), (5, .long l5), (7, .int i7), (8, .int i8), (9, .int i9), (10, .int i10)] → OK (rec i8 i10) Qo → W p l e rm_X9_beat s m args below meth c H locs 0 0 Q (F0 m 54 ls [])) (i8 : Int32) (i10 : Int32) (H : Heap) (locs : List Loc) (ls : Array Slot) (w : Wo s D cy A G M H locs) (hl : lv_has ls 11 [(0, .ref r0), (1, .int i1), (2, .int i2), (3, .int i3), (4, .int i4), (5, .long l5), (7, .int i7), (8, .int i8), (9, .int i9), (10, .int i10)]) (hk : OK (bd_X9_beat_54 G M r0 i1 i2 i3 i4 l5 i7 i9 rec i8 i10) Qo) : W p l e rm_X9_beat s m args below meth c H locs 0 0 Q (F0 m 54 ls []) := by
    have hx := X.1.1
    have hb := X.1.2.1
    unfold bd_X9_beat_54 at hk
    refine lv_iload hx hb dX9_beat_54 (lv_at hl 9 rfl) ?_
    refine lv_iload_n hx hb dX9_beat_56 rfl (lv_at hl 3 rfl) ?_
    refine lv_icmp_ge (tgt := 87) hx hb dX9_beat_57 (by decide) (fun c9 => ?_) (fun c9 => ?_)
    · have hk := ok_p c9 hk
      exact hE i8 (ok_s hk) _ _ _ w (lv_sub hl [0, 1, 2, 3, 4, 5, 6, 7, 8] rfl)
    · have hk := ok_n c9 hk
      refine lv_aload_n hx hb dX9_beat_60 rfl (lv_at hl 0 rfl) ?_
      refine lv_iload_n hx hb dX9_beat_61 rfl (lv_at hl 1 rfl) ?_
      refine lv_iload hx hb dX9_beat_62 (lv_at hl 8 rfl) ?_
      refine lv_iload hx hb dX9_beat_64 (lv_at hl 9 rfl) ?_
      obtain ⟨c12, hk⟩ := ok_c hk
      obtain ⟨q10, e11, hk⟩ := ok_b hk
      refine zVi X w (n := 3) (As := [.int i1, .int i9, .int i10]) (rest := []) (ci := 9) (C := RX9) (T := TX9) (N := 23) (c_X9_at l D cy G M r0 i1 i9 i10 e11) (gzV wm_X9_70 wi_X9_at ws_X9_at wn_X9 wc_X9_at) rfl rfl rfl (by decide +kernel) (by decide) rfl c12 rfl rfl hl.1 (Nat.le_of_ble_eq_true rfl) dX9_beat_66 ⟨Nat.zero_le _, Nat.zero_le _⟩ (fun H locs w => ?_)
      refine lv_if_le (tgt := 81) hx hb dX9_beat_69 (by decide) (fun c13 => ?_) (fun c13 => ?_)
      · have hk := ok_p c13 hk
        refine lv_iinc (v := (i10 + 1)) (lv' := [(10, .int (i10 + 1)), (0, .ref r0), (1, .int i1), (2, .int i2), (3, .int i3), (4, .int i4), (5, .long l5), (7, .int i7), (8, .int i8), (9, .int i9)]) hx hb dX9_beat_81 hl (k := 9) rfl rfl (by decide) rfl (fun ls hl => ?_)
        refine lv_goto (tgt := 54) hx hb dX9_beat_84 (by decide) ?_
        exact hrec i8 (i10 + 1) _ _ _ w (lv_sub hl [1, 2, 3, 4, 5, 6, 7, 8, 9, 0] rfl) hk
      · have hk := ok_n c13 hk
        refine lv_iload hx hb dX9_beat_72 (lv_at hl 7 rfl) ?_
        refine lv_iconst (v := 1) hx hb dX9_beat_74 (by decide) ?_
        refine lv_iload hx hb dX9_beat_75 (lv_at hl 9 rfl) ?_
        refine lv_ishl hx hb dX9_beat_77 ?_
        refine lv_ior hx hb dX9_beat_78 ?_
        refine lv_istore (lv' := [(8, .int (i8 ||| ((1 : Int32) <<< (i10 &&& 31)))), (0, .ref r0), (1, .int i1), (2, .int i2), (3, .int i3), (4, .int i4), (5, .long l5), (7, .int i7), (9, .int i9), (10, .int i10)]) hx hb dX9_beat_79 hl (by decide) rfl (fun ls hl => ?_)
        refine lv_iinc (v := (i10 + 1)) (lv' := [(10, .int (i10 + 1)), (8, .int (i8 ||| ((1 : Int32) <<< (i10 &&& 31)))), (0, .ref r0), (1, .int i1), (2, .int i2), (3, .int i3), (4, .int i4), (5, .long l5), (7, .int i7), (9, .int i9)]) hx hb dX9_beat_81 hl (k := 9) rfl rfl (by decide) rfl (fun ls hl => ?_)
        refine lv_goto (tgt := 54) hx hb dX9_beat_84 (by decide) ?_
        exact hrec (i8 ||| ((1 : Int32) <<< (i10 &&& 31))) (i10 + 1) _ _ _ w (lv_sub hl [2, 3, 4, 5, 6, 7, 8, 1, 9, 0] rfl) hk
theorem wl_X9_beat_54 {p : Program} {l : Launch} {e : Env} {s : State} {m : MethodId} {args : Array Value} {below : List Frame} {meth : Method} {c : Code} {D : va_G} {cy : Cyy} {A : Nat → Prop} {G : Gg} (X : Cx p m c cX9_beat 11 s args wz_X9_beat RX9 D cy) {Q : State → Prop} (M : Mm) (r0 : Nat) (i1 : Int32) (i2 : Int32) (i3 : Int32) (i4 : Int32) (l5 : Int64) (i7 : Int32) (i9 : Int32) (Qo : Int32 → Prop)  (hE : ∀ (y : Int32), Qo (y) → ∀ (H : Heap) (locs : List Loc) (ls : Array Slot), Wo s D cy A G M H locs → lv_has ls 11 [(0, .ref r0), (1, .int i1), (2, .int i2), (3, .int i3), (4, .int i4), (5, .long l5), (7, .int i7), (8, .int y), (9, .int i9)] → W p l e rm_X9_beat s m args below meth c H locs 0 0 Q (F0 m 87 ls [])) : ∀ (n : Nat) (i8 : Int32) (i10 : Int32) (H : Heap) (locs : List Loc) (ls : Array Slot), Wo s D cy A G M H locs → lv_has ls 11 [(0, .ref r0), (1, .int i1), (2, .int i2), (3, .int i3), (4, .int i4), (5, .long l5), (7, .int i7), (8, .int i8), (9, .int i9), (10, .int i10)] → OK (lp_X9_beat_54 G M r0 i1 i2 i3 i4 l5 i7 i9 n i8 i10) Qo → W p l e rm_X9_beat s m args below meth c H locs 0 0 Q (F0 m 54 ls []) := by
  intro n
  induction n with
  | zero => intro i8 i10 H locs ls w hl hk; exact ok_0 hk
  | succ n ih => intro i8 i10 H locs ls w hl hk; exact wb_X9_beat_54 X M r0 i1 i2 i3 i4 l5 i7 i9 Qo hE  (lp_X9_beat_54 G M r0 i1 i2 i3 i4 l5 i7 i9 n) ih i8 i10 H locs ls w hl hk
set_option maxHeartbeats 4000000 in
set_option maxRecDepth 100000 in
theorem wb_X9_beat_32 {p : Program} {l : Launch} {e : Env} {s : State} {m : MethodId} {args : Array Value} {below : List Frame} {meth : Method} {c : Code} {D : va_G} {cy : Cyy} {A : Nat → Prop} {G : Gg} (X : Cx p m c cX9_beat 11 s args wz_X9_beat RX9 D cy) {Q : State → Prop} (M : Mm) (r0 : Nat) (i1 : Int32) (i2 : Int32) (i3 : Int32) (i4 : Int32) (l5 : Int64) (i7 : Int32) (Qo : Int32 → Prop)  (hE : ∀ (y : Int32), Qo (y) → ∀ (H : Heap) (locs : List Loc) (ls : Array Slot), Wo s D cy A G M H locs → lv_has ls 11 [(0, .ref r0), (1, .int i1), (2, .int i2), (3, .int i3), (5, .long l5), (7, .int i7), (8, .int y)] → W p l e rm_X9_beat s m args below meth c H locs 0 0 Q (F0 m 93 ls [])) (rec : Int32 → Int32 → Option (Int32)) (hrec : ∀ (i8 : Int32) (i9 : Int32) (H : Heap) (locs : List Loc) (ls : Array Slot), Wo s D cy A G M H locs → lv_has ls 11 [(0, .ref r0), (1, .int i1), (2, .int i2), (3, .int i3), (4, .int i4), (5, .long l5), (7, .int i7), (8, .int i8), (9, .int i9)] → OK (rec i8 i9) Qo → W p l e rm_X9_beat s m args below meth c H locs 0 0 Q (F0 m 32 ls [])) (i8 : Int32) (i9 : Int32) (H : Heap) (locs : List Loc) (ls : Array Slot) (w : Wo s D cy A G M H locs) (hl : lv_has ls 11 [(0, .ref r0), (1, .int i1), (2, .int i2), (3, .int i3), (4, .int i4), (5, .long l5), (7, .int i7), (8, .int i8), (9, .int i9)]) (hk : OK (bd_X9_beat_32 G M r0 i1 i2 i3 i4 l5 i7 rec i8 i9) Qo) : W p l e rm_X9_beat s m args below meth c H locs 0 0 Q (F0 m 32 ls []) := by
    have hx := X.1.1
    have hb := X.1.2.1
    unfold bd_X9_beat_32 at hk
    refine lv_iload hx hb dX9_beat_32 (lv_at hl 8 rfl) ?_
    refine lv_iload_n hx hb dX9_beat_34 rfl (lv_at hl 3 rfl) ?_
    refine lv_icmp_ge (tgt := 93) hx hb dX9_beat_35 (by decide) (fun c7 => ?_) (fun c7 => ?_)
    · have hk := ok_p c7 hk
      exact hE i8 (ok_s hk) _ _ _ w (lv_sub hl [0, 1, 2, 3, 5, 6, 7] rfl)
    · have hk := ok_n c7 hk
      refine lv_iload hx hb dX9_beat_38 (lv_at hl 4 rfl) ?_
      refine lv_iload hx hb dX9_beat_40 (lv_at hl 8 rfl) ?_
      refine lv_ishr hx hb dX9_beat_42 ?_
      refine lv_iconst (v := 1) hx hb dX9_beat_43 (by decide) ?_
      refine lv_iand hx hb dX9_beat_44 ?_
      refine lv_if_ne (tgt := 51) hx hb dX9_beat_45 (by decide) (fun c8 => ?_) (fun c8 => ?_)
      · have hk := ok_n c8 hk
        refine lv_iconst (v := 0) hx hb dX9_beat_51 (by decide) ?_
        refine lv_istore (lv' := [(10, .int (0 : Int32)), (0, .ref r0), (1, .int i1), (2, .int i2), (3, .int i3), (4, .int i4), (5, .long l5), (7, .int i7), (8, .int i8), (9, .int i9)]) hx hb dX9_beat_52 hl (by decide) rfl (fun ls hl => ?_)
        refine wl_X9_beat_54 X M r0 i1 i2 i3 i4 l5 i7 i9 (Qo := _) (fun q14 hk H locs ls w hl => ?_) FU i8 (0 : Int32) _ _ _ w (lv_sub hl [1, 2, 3, 4, 5, 6, 7, 8, 9, 0] rfl) (ok_b hk)
        refine lv_iinc (v := (i9 + 1)) (lv' := [(9, .int (i9 + 1)), (0, .ref r0), (1, .int i1), (2, .int i2), (3, .int i3), (4, .int i4), (5, .long l5), (7, .int i7), (8, .int q14)]) hx hb dX9_beat_87 hl (k := 8) rfl rfl (by decide) rfl (fun ls hl => ?_)
        refine lv_goto (tgt := 32) hx hb dX9_beat_90 (by decide) ?_
        exact hrec q14 (i9 + 1) _ _ _ w (lv_sub hl [1, 2, 3, 4, 5, 6, 7, 8, 0] rfl) hk
      · have hk := ok_p c8 hk
        refine lv_goto (tgt := 87) hx hb dX9_beat_48 (by decide) ?_
        refine lv_iinc (v := (i9 + 1)) (lv' := [(9, .int (i9 + 1)), (0, .ref r0), (1, .int i1), (2, .int i2), (3, .int i3), (4, .int i4), (5, .long l5), (7, .int i7), (8, .int i8)]) hx hb dX9_beat_87 hl (k := 8) rfl rfl (by decide) rfl (fun ls hl => ?_)
        refine lv_goto (tgt := 32) hx hb dX9_beat_90 (by decide) ?_
        exact hrec i8 (i9 + 1) _ _ _ w (lv_sub hl [1, 2, 3, 4, 5, 6, 7, 8, 0] rfl) hk
theorem wl_X9_beat_32 {p : Program} {l : Launch} {e : Env} {s : State} {m : MethodId} {args : Array Value} {below : List Frame} {meth : Method} {c : Code} {D : va_G} {cy : Cyy} {A : Nat → Prop} {G : Gg} (X : Cx p m c cX9_beat 11 s args wz_X9_beat RX9 D cy) {Q : State → Prop} (M : Mm) (r0 : Nat) (i1 : Int32) (i2 : Int32) (i3 : Int32) (i4 : Int32) (l5 : Int64) (i7 : Int32) (Qo : Int32 → Prop)  (hE : ∀ (y : Int32), Qo (y) → ∀ (H : Heap) (locs : List Loc) (ls : Array Slot), Wo s D cy A G M H locs → lv_has ls 11 [(0, .ref r0), (1, .int i1), (2, .int i2), (3, .int i3), (5, .long l5), (7, .int i7), (8, .int y)] → W p l e rm_X9_beat s m args below meth c H locs 0 0 Q (F0 m 93 ls [])) : ∀ (n : Nat) (i8 : Int32) (i9 : Int32) (H : Heap) (locs : List Loc) (ls : Array Slot), Wo s D cy A G M H locs → lv_has ls 11 [(0, .ref r0), (1, .int i1), (2, .int i2), (3, .int i3), (4, .int i4), (5, .long l5), (7, .int i7), (8, .int i8), (9, .int i9)] → OK (lp_X9_beat_32 G M r0 i1 i2 i3 i4 l5 i7 n i8 i9) Qo → W p l e rm_X9_beat s m args below meth c H locs 0 0 Q (F0 m 32 ls []) := by
  intro n
  induction n with
  | zero => intro i8 i9 H locs ls w hl hk; exact ok_0 hk
  | succ n ih => intro i8 i9 H locs ls w hl hk; exact wb_X9_beat_32 X M r0 i1 i2 i3 i4 l5 i7 Qo hE  (lp_X9_beat_32 G M r0 i1 i2 i3 i4 l5 i7 n) ih i8 i9 H locs ls w hl hk
set_option maxHeartbeats 4000000 in
set_option maxRecDepth 100000 in
theorem wb_X9_beat_18 {p : Program} {l : Launch} {e : Env} {s : State} {m : MethodId} {args : Array Value} {below : List Frame} {meth : Method} {c : Code} {D : va_G} {cy : Cyy} {A : Nat → Prop} {G : Gg} (X : Cx p m c cX9_beat 11 s args wz_X9_beat RX9 D cy) {Q : State → Prop} (M : Mm) (r0 : Nat) (i1 : Int32) (i2 : Int32) (i3 : Int32) (Qo : Int64 → Prop)  (hE : ∀ (y : Int64), Qo (y) → ∀ (H : Heap) (locs : List Loc) (ls : Array Slot), Wo s D cy A G M H locs → lv_has ls 11 [(5, .long y)] → W p l e rm_X9_beat s m args below meth c H locs 0 0 Q (F0 m 123 ls [])) (rec : Int32 → Int64 → Int32 → Option (Int64)) (hrec : ∀ (i4 : Int32) (l5 : Int64) (i7 : Int32) (H : Heap) (locs : List Loc) (ls : Array Slot), Wo s D cy A G M H locs → lv_has ls 11 [(0, .ref r0), (1, .int i1), (2, .int i2), (3, .int i3), (4, .int i4), (5, .long l5), (7, .int i7)] → OK (rec i4 l5 i7) Qo → W p l e rm_X9_beat s m args below meth c H locs 0 0 Q (F0 m 18 ls [])) (i4 : Int32) (l5 : Int64) (i7 : Int32) (H : Heap) (locs : List Loc) (ls : Array Slot) (w : Wo s D cy A G M H locs) (hl : lv_has ls 11 [(0, .ref r0), (1, .int i1), (2, .int i2), (3, .int i3), (4, .int i4), (5, .long l5), (7, .int i7)]) (hk : OK (bd_X9_beat_18 G M r0 i1 i2 i3 rec i4 l5 i7) Qo) : W p l e rm_X9_beat s m args below meth c H locs 0 0 Q (F0 m 18 ls []) := by
    have hx := X.1.1
    have hb := X.1.2.1
    unfold bd_X9_beat_18 at hk
    refine lv_iload hx hb dX9_beat_18 (lv_at hl 6 rfl) ?_
    refine lv_iconst (v := 3) hx hb dX9_beat_20 (by decide) ?_
    refine lv_iload_n hx hb dX9_beat_21 rfl (lv_at hl 3 rfl) ?_
    refine lv_imul hx hb dX9_beat_22 ?_
    refine lv_icmp_gt (tgt := 123) hx hb dX9_beat_23 (by decide) (fun c6 => ?_) (fun c6 => ?_)
    · have hk := ok_p c6 hk
      exact hE l5 (ok_s hk) _ _ _ w (lv_sub hl [5] rfl)
    · have hk := ok_n c6 hk
      refine lv_iconst (v := 0) hx hb dX9_beat_26 (by decide) ?_
      refine lv_istore (lv' := [(8, .int (0 : Int32)), (0, .ref r0), (1, .int i1), (2, .int i2), (3, .int i3), (4, .int i4), (5, .long l5), (7, .int i7)]) hx hb dX9_beat_27 hl (by decide) rfl (fun ls hl => ?_)
      refine lv_iconst (v := 0) hx hb dX9_beat_29 (by decide) ?_
      refine lv_istore (lv' := [(9, .int (0 : Int32)), (8, .int (0 : Int32)), (0, .ref r0), (1, .int i1), (2, .int i2), (3, .int i3), (4, .int i4), (5, .long l5), (7, .int i7)]) hx hb dX9_beat_30 hl (by decide) rfl (fun ls hl => ?_)
      refine wl_X9_beat_32 X M r0 i1 i2 i3 i4 l5 i7 (Qo := _) (fun q15 hk H locs ls w hl => ?_) FU (0 : Int32) (0 : Int32) _ _ _ w (lv_sub hl [2, 3, 4, 5, 6, 7, 8, 1, 0] rfl) (ok_b hk)
      refine lv_iload hx hb dX9_beat_93 (lv_at hl 6 rfl) ?_
      refine lv_istore (lv' := [(4, .int q15), (0, .ref r0), (1, .int i1), (2, .int i2), (3, .int i3), (5, .long l5), (7, .int i7), (8, .int q15)]) hx hb dX9_beat_95 hl (by decide) rfl (fun ls hl => ?_)
      refine lv_iload hx hb dX9_beat_97 (lv_at hl 0 rfl) ?_
      refine lv_iload_n hx hb dX9_beat_99 rfl (lv_at hl 3 rfl) ?_
      refine lv_ishr hx hb dX9_beat_100 ?_
      refine lv_iconst (v := 1) hx hb dX9_beat_101 (by decide) ?_
      refine lv_iand hx hb dX9_beat_102 ?_
      refine lv_iconst (v := 1) hx hb dX9_beat_103 (by decide) ?_
      refine lv_icmp_ne (tgt := 117) hx hb dX9_beat_104 (by decide) (fun c16 => ?_) (fun c16 => ?_)
      · have hk := ok_n c16 hk
        refine lv_iinc (v := (i7 + 1)) (lv' := [(7, .int (i7 + 1)), (4, .int q15), (0, .ref r0), (1, .int i1), (2, .int i2), (3, .int i3), (5, .long l5), (8, .int q15)]) hx hb dX9_beat_117 hl (k := 6) rfl rfl (by decide) rfl (fun ls hl => ?_)
        refine lv_goto (tgt := 18) hx hb dX9_beat_120 (by decide) ?_
        exact hrec q15 l5 (i7 + 1) _ _ _ w (lv_sub hl [2, 3, 4, 5, 1, 6, 0] rfl) hk
      · have hk := ok_p c16 hk
        refine lv_lload hx hb dX9_beat_107 (lv_at hl 5 rfl) ?_
        refine lv_iload hx hb dX9_beat_109 (lv_at hl 6 rfl) ?_
        refine lv_i2l hx hb dX9_beat_111 rfl ?_
        obtain ⟨q17, e18, hk⟩ := ok_b hk
        refine zSl X w (n := 2) (As := [.long l5, .long (Int32.toInt64 i7)]) (rest := []) (c_X9_common l D cy G M l5 (Int32.toInt64 i7) e18) (gzS wm_X9_74 wt_X9_common wn_X9 wc_X9_common) rfl rfl rfl (by decide +kernel) (by decide) rfl rfl hl.1 (Nat.le_of_ble_eq_true rfl) dX9_beat_112 ⟨Nat.zero_le _, Nat.zero_le _⟩ (fun H locs w => ?_)
        refine lv_lstore (lv' := [(5, .long q17), (4, .int q15), (0, .ref r0), (1, .int i1), (2, .int i2), (3, .int i3), (7, .int i7), (8, .int q15)]) hx hb dX9_beat_115 hl (by decide) rfl (fun ls hl => ?_)
        refine lv_iinc (v := (i7 + 1)) (lv' := [(7, .int (i7 + 1)), (5, .long q17), (4, .int q15), (0, .ref r0), (1, .int i1), (2, .int i2), (3, .int i3), (8, .int q15)]) hx hb dX9_beat_117 hl (k := 6) rfl rfl (by decide) rfl (fun ls hl => ?_)
        refine lv_goto (tgt := 18) hx hb dX9_beat_120 (by decide) ?_
        exact hrec q15 q17 (i7 + 1) _ _ _ w (lv_sub hl [3, 4, 5, 6, 2, 1, 0] rfl) hk
theorem wl_X9_beat_18 {p : Program} {l : Launch} {e : Env} {s : State} {m : MethodId} {args : Array Value} {below : List Frame} {meth : Method} {c : Code} {D : va_G} {cy : Cyy} {A : Nat → Prop} {G : Gg} (X : Cx p m c cX9_beat 11 s args wz_X9_beat RX9 D cy) {Q : State → Prop} (M : Mm) (r0 : Nat) (i1 : Int32) (i2 : Int32) (i3 : Int32) (Qo : Int64 → Prop)  (hE : ∀ (y : Int64), Qo (y) → ∀ (H : Heap) (locs : List Loc) (ls : Array Slot), Wo s D cy A G M H locs → lv_has ls 11 [(5, .long y)] → W p l e rm_X9_beat s m args below meth c H locs 0 0 Q (F0 m 123 ls [])) : ∀ (n : Nat) (i4 : Int32) (l5 : Int64) (i7 : Int32) (H : Heap) (locs : List Loc) (ls : Array Slot), Wo s D cy A G M H locs → lv_has ls 11 [(0, .ref r0), (1, .int i1), (2, .int i2), (3, .int i3), (4, .int i4), (5, .long l5), (7, .int i7)] → OK (lp_X9_beat_18 G M r0 i1 i2 i3 n i4 l5 i7) Qo → W p l e rm_X9_beat s m args below meth c H locs 0 0 Q (F0 m 18 ls []) := by
  intro n
  induction n with
  | zero => intro i4 l5 i7 H locs ls w hl hk; exact ok_0 hk
  | succ n ih => intro i4 l5 i7 H locs ls w hl hk; exact wb_X9_beat_18 X M r0 i1 i2 i3 Qo hE  (lp_X9_beat_18 G M r0 i1 i2 i3 n) ih i4 l5 i7 H locs ls w hl hk
set_option maxHeartbeats 4000000 in
set_option maxRecDepth 100000 in
theorem c_X9_beat (l : Launch) (D : va_G) (cy : Cyy) (G : Gg) (M : Mm) (r0 : Nat) (i1 : Int32) (i2 : Int32) {q : Int32} (hm : f_X9_beat G M r0 i1 i2 = some q) : CI l yX9_beat wz_X9_beat rm_X9_beat D cy G M [.ref r0, .int i1, .int i2] q M := by
  refine Met_of (Qf := fun A => QI D cy G A q M) (cc := cX9_beat) (nL := 11) (ret := (some .int)) (own := RX9) (lv := [(0, .ref r0), (1, .int i1), (2, .int i2)]) (by decide) rfl rfl (Nat.le_of_ble_eq_true rfl) rfl ?_
  intro p e s m args below meth c A ls X hr hlk w hl
  have hx := X.1.1
  have hb := X.1.2.1
  obtain ⟨Qo, hR, hk⟩ : ∃ Qo : Int32 → Prop, (∀ x, Qo x → x = q) ∧ OK (f_X9_beat G M r0 i1 i2) Qo := ⟨fun x => x = q, fun _ h => h, q, hm, rfl⟩
  unfold f_X9_beat at hk
  refine lv_aload_n hx hb dX9_beat_0 rfl (lv_at hl 0 rfl) ?_
  obtain ⟨c1, hk⟩ := ok_c hk
  obtain ⟨r2, e3, hk⟩ := ok_b hk
  refine zgr X w 9 3 13 (C := RX9) (T := TX9) (N := 23) rfl ui_X9 (by decide) rfl (tb wf_X9_13) dX9_beat_1 c1 e3 ?_
  refine lv_iload_n hx hb dX9_beat_4 rfl (lv_at hl 1 rfl) ?_
  obtain ⟨c4, hk⟩ := ok_c hk
  obtain ⟨c5, hk⟩ := ok_c hk
  refine zai X w dX9_beat_5 c4 c5 ?_
  refine lv_istore_n (lv' := [(3, .int (M.1 r2 (Int32.toNatClampNeg i1))), (0, .ref r0), (1, .int i1), (2, .int i2)]) hx hb dX9_beat_6 rfl hl (by decide) rfl (fun ls hl => ?_)
  refine lv_iconst (v := 1) hx hb dX9_beat_7 (by decide) ?_
  refine lv_iload_n hx hb dX9_beat_8 rfl (lv_at hl 3 rfl) ?_
  refine lv_ishl hx hb dX9_beat_9 ?_
  refine lv_istore (lv' := [(4, .int ((1 : Int32) <<< (i2 &&& 31))), (3, .int (M.1 r2 (Int32.toNatClampNeg i1))), (0, .ref r0), (1, .int i1), (2, .int i2)]) hx hb dX9_beat_10 hl (by decide) rfl (fun ls hl => ?_)
  refine lv_lconst (v := 0) hx hb dX9_beat_12 (by decide) ?_
  refine lv_lstore (lv' := [(5, .long (0 : Int64)), (4, .int ((1 : Int32) <<< (i2 &&& 31))), (3, .int (M.1 r2 (Int32.toNatClampNeg i1))), (0, .ref r0), (1, .int i1), (2, .int i2)]) hx hb dX9_beat_13 hl (by decide) rfl (fun ls hl => ?_)
  refine lv_iconst (v := 1) hx hb dX9_beat_15 (by decide) ?_
  refine lv_istore (lv' := [(7, .int (1 : Int32)), (5, .long (0 : Int64)), (4, .int ((1 : Int32) <<< (i2 &&& 31))), (3, .int (M.1 r2 (Int32.toNatClampNeg i1))), (0, .ref r0), (1, .int i1), (2, .int i2)]) hx hb dX9_beat_16 hl (by decide) rfl (fun ls hl => ?_)
  refine wl_X9_beat_18 X M r0 i1 i2 (M.1 r2 (Int32.toNatClampNeg i1)) (Qo := _) (fun q19 hk H locs ls w hl => ?_) FU ((1 : Int32) <<< (i2 &&& 31)) (0 : Int64) (1 : Int32) _ _ _ w (lv_sub hl [4, 5, 6, 3, 2, 1, 0] rfl) (ok_b hk)
  refine lv_lload hx hb dX9_beat_123 (lv_at hl 0 rfl) ?_
  refine lv_l2i hx hb dX9_beat_125 rfl ?_
  have hk := hR _ (ok_s hk)
  exact zri X hr hlk w dX9_beat_126 hk rfl
