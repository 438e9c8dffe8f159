abbrev rm_X9_power : Room := { frames := 0, cells := 0, slots := 0, locals := 0 }
set_option maxHeartbeats 4000000 in
set_option maxRecDepth 100000 in
theorem wj_X9_power_37 {p : Program} {l : Launch} {e : Env} {s : State} {m : MethodId} {args : Array Value} {below : List Frame} {meth : Method} {c : Code} {D : va_G} {cy : Cyy} {A : Nat → Prop} {G : Gg} (X : Cx p m c cX9_power 12 s args wz_X9_power RX9 D cy) {Q : State → Prop} (M : Mm) (l4 : Int64) (Qo : Int64 → Prop)  (hE : ∀ (y : Int64), Qo (y) → ∀ (H : Heap) (locs : List Loc) (ls : Array Slot), Wo s D cy A G M H locs → lv_has ls 12 [(6, .long y)] → W p l e rm_X9_power s m args below meth c H locs 0 0 Q (F0 m 58 ls [])) (rec : Int64 → Int64 → Int64 → Option (Int64)) (hrec : ∀ (l6 : Int64) (l8 : Int64) (l10 : Int64) (H : Heap) (locs : List Loc) (ls : Array Slot), Wo s D cy A G M H locs → lv_has ls 12 [(4, .long l4), (6, .long l6), (8, .long l8), (10, .long l10)] → OK (rec l6 l8 l10) Qo → W p l e rm_X9_power s m args below meth c H locs 0 0 Q (F0 m 9 ls [])) (l6 : Int64) (l8 : Int64) (l10 : Int64)   (H : Heap) (locs : List Loc) (ls : Array Slot) (w : Wo s D cy A G M H locs) (hl : lv_has ls 12 [(4, .long l4), (6, .long l6), (8, .long l8), (10, .long l10)]) (hk : OK (jn_X9_power_37 rec l4 l6 l8 l10) Qo) : W p l e rm_X9_power s m args below meth c H locs 0 0 Q (F0 m 37 ls []) := by
    have hx := X.1.1
    have hb := X.1.2.1
    unfold jn_X9_power_37 at hk
    refine lv_lload hx hb dX9_power_37 (lv_at hl 2 rfl) ?_
    refine lv_lload hx hb dX9_power_39 (lv_at hl 2 rfl) ?_
    refine lv_lmul hx hb dX9_power_41 ?_
    refine lv_lload hx hb dX9_power_42 (lv_at hl 0 rfl) ?_
    obtain ⟨c4, hk⟩ := ok_c hk
    refine lv_lrem hx hb dX9_power_44 c4 ?_
    refine lv_lstore (lv' := [(8, .long ((l8 * l8) - (l8 * l8) / l4 * l4)), (4, .long l4), (6, .long l6), (10, .long l10)]) hx hb dX9_power_45 hl (by decide) rfl (fun ls hl => ?_)
    refine lv_lload hx hb dX9_power_47 (lv_at hl 3 rfl) ?_
    refine zldc2 X (v := 2) (tb wk_X9_106) dX9_power_49 ?_
    obtain ⟨c5, hk⟩ := ok_c hk
    refine lv_ldiv hx hb dX9_power_52 c5 ?_
    refine lv_lstore (lv' := [(10, .long (l10 / (2 : Int64))), (8, .long ((l8 * l8) - (l8 * l8) / l4 * l4)), (4, .long l4), (6, .long l6)]) hx hb dX9_power_53 hl (by decide) rfl (fun ls hl => ?_)
    refine lv_goto (tgt := 9) hx hb dX9_power_55 (by decide) ?_
    exact hrec l6 ((l8 * l8) - (l8 * l8) / l4 * l4) (l10 / (2 : Int64)) _ _ _ w (lv_sub hl [2, 3, 1, 0] rfl) hk
set_option maxHeartbeats 4000000 in
set_option maxRecDepth 100000 in
theorem wb_X9_power_9 {p : Program} {l : Launch} {e : Env} {s : State} {m : MethodId} {args : Array Value} {below : List Frame} {meth : Method} {c : Code} {D : va_G} {cy : Cyy} {A : Nat → Prop} {G : Gg} (X : Cx p m c cX9_power 12 s args wz_X9_power RX9 D cy) {Q : State → Prop} (M : Mm) (l4 : Int64) (Qo : Int64 → Prop)  (hE : ∀ (y : Int64), Qo (y) → ∀ (H : Heap) (locs : List Loc) (ls : Array Slot), Wo s D cy A G M H locs → lv_has ls 12 [(6, .long y)] → W p l e rm_X9_power s m args below meth c H locs 0 0 Q (F0 m 58 ls [])) (rec : Int64 → Int64 → Int64 → Option (Int64)) (hrec : ∀ (l6 : Int64) (l8 : Int64) (l10 : Int64) (H : Heap) (locs : List Loc) (ls : Array Slot), Wo s D cy A G M H locs → lv_has ls 12 [(4, .long l4), (6, .long l6), (8, .long l8), (10, .long l10)] → OK (rec l6 l8 l10) Qo → W p l e rm_X9_power s m args below meth c H locs 0 0 Q (F0 m 9 ls [])) (l6 : Int64) (l8 : Int64) (l10 : Int64) (H : Heap) (locs : List Loc) (ls : Array Slot) (w : Wo s D cy A G M H locs) (hl : lv_has ls 12 [(4, .long l4), (6, .long l6), (8, .long l8), (10, .long l10)]) (hk : OK (bd_X9_power_9 l4 rec l6 l8 l10) Qo) : W p l e rm_X9_power s m args below meth c H locs 0 0 Q (F0 m 9 ls []) := by
    have hx := X.1.1
    have hb := X.1.2.1
    unfold bd_X9_power_9 at hk
    refine lv_lload hx hb dX9_power_9 (lv_at hl 3 rfl) ?_
    refine lv_lconst (v := 0) hx hb dX9_power_11 (by decide) ?_
    refine W.lcmp hx hb dX9_power_12 ?_
    refine lv_if_le (tgt := 58) hx hb dX9_power_13 (by decide) (fun c1 => ?_) (fun c1 => ?_)
    · have hk := ok_p c1 hk
      exact hE l6 (ok_s hk) _ _ _ w (lv_sub hl [1] rfl)
    · have hk := ok_n c1 hk
      refine lv_lload hx hb dX9_power_16 (lv_at hl 3 rfl) ?_
      refine zldc2 X (v := 2) (tb wk_X9_106) dX9_power_18 ?_
      obtain ⟨c2, hk⟩ := ok_c hk
      refine lv_lrem hx hb dX9_power_21 c2 ?_
      refine lv_lconst (v := 1) hx hb dX9_power_22 (by decide) ?_
      refine W.lcmp hx hb dX9_power_23 ?_
      refine lv_if_ne (tgt := 37) hx hb dX9_power_24 (by decide) (fun c3 => ?_) (fun c3 => ?_)
      · have hk := ok_n c3 hk
        exact wj_X9_power_37 X M l4 Qo hE rec hrec l6 l8 l10 _ _ _ w (lv_sub hl [0, 1, 2, 3] rfl) hk
      · have hk := ok_p c3 hk
        refine lv_lload hx hb dX9_power_27 (lv_at hl 1 rfl) ?_
        refine lv_lload hx hb dX9_power_29 (lv_at hl 2 rfl) ?_
        refine lv_lmul hx hb dX9_power_31 ?_
        refine lv_lload hx hb dX9_power_32 (lv_at hl 0 rfl) ?_
        obtain ⟨c6, hk⟩ := ok_c hk
        refine lv_lrem hx hb dX9_power_34 c6 ?_
        refine lv_lstore (lv' := [(6, .long ((l6 * l8) - (l6 * l8) / l4 * l4)), (4, .long l4), (8, .long l8), (10, .long l10)]) hx hb dX9_power_35 hl (by decide) rfl (fun ls hl => ?_)
        exact wj_X9_power_37 X M l4 Qo hE rec hrec ((l6 * l8) - (l6 * l8) / l4 * l4) l8 l10 _ _ _ w (lv_sub hl [1, 0, 2, 3] rfl) hk
theorem wl_X9_power_9 {p : Program} {l : Launch} {e : Env} {s : State} {m : MethodId} {args : Array Value} {below : List Frame} {meth : Method} {c : Code} {D : va_G} {cy : Cyy} {A : Nat → Prop} {G : Gg} (X : Cx p m c cX9_power 12 s args wz_X9_power RX9 D cy) {Q : State → Prop} (M : Mm) (l4 : Int64) (Qo : Int64 → Prop)  (hE : ∀ (y : Int64), Qo (y) → ∀ (H : Heap) (locs : List Loc) (ls : Array Slot), Wo s D cy A G M H locs → lv_has ls 12 [(6, .long y)] → W p l e rm_X9_power s m args below meth c H locs 0 0 Q (F0 m 58 ls [])) : ∀ (n : Nat) (l6 : Int64) (l8 : Int64) (l10 : Int64) (H : Heap) (locs : List Loc) (ls : Array Slot), Wo s D cy A G M H locs → lv_has ls 12 [(4, .long l4), (6, .long l6), (8, .long l8), (10, .long l10)] → OK (lp_X9_power_9 l4 n l6 l8 l10) Qo → W p l e rm_X9_power s m args below meth c H locs 0 0 Q (F0 m 9 ls []) := by
  intro n
  induction n with
  | zero => intro l6 l8 l10 H locs ls w hl hk; exact ok_0 hk
  | succ n ih => intro l6 l8 l10 H locs ls w hl hk; exact wb_X9_power_9 X M l4 Qo hE  (lp_X9_power_9 l4 n) ih l6 l8 l10 H locs ls w hl hk
set_option maxHeartbeats 4000000 in
set_option maxRecDepth 100000 in
theorem c_X9_power (l : Launch) (D : va_G) (cy : Cyy) (G : Gg) (M : Mm) (l0 : Int64) (l2 : Int64) (l4 : Int64) {q : Int64} (hm : f_X9_power l0 l2 l4 = some q) : CL l yX9_power wz_X9_power rm_X9_power D cy G M [.long l0, .long l2, .long l4] q M := by
  refine Met_of (Qf := fun A => QL D cy G A q M) (cc := cX9_power) (nL := 12) (ret := (some .long)) (own := RX9) (lv := [(0, .long l0), (2, .long l2), (4, .long l4)]) (by decide) rfl rfl (Nat.le_of_ble_eq_true rfl) rfl ?_
  intro p e s m args below meth c A ls X hr hlk w hl
  have hx := X.1.1
  have hb := X.1.2.1
  obtain ⟨Qo, hR, hk⟩ : ∃ Qo : Int64 → Prop, (∀ x, Qo x → x = q) ∧ OK (f_X9_power l0 l2 l4) Qo := ⟨fun x => x = q, fun _ h => h, q, hm, rfl⟩
  unfold f_X9_power at hk
  refine lv_lconst (v := 1) hx hb dX9_power_0 (by decide) ?_
  refine lv_lstore (lv' := [(6, .long (1 : Int64)), (0, .long l0), (2, .long l2), (4, .long l4)]) hx hb dX9_power_1 hl (by decide) rfl (fun ls hl => ?_)
  refine lv_lload_n hx hb dX9_power_3 rfl (lv_at hl 1 rfl) ?_
  refine lv_lstore (lv' := [(8, .long l0), (6, .long (1 : Int64)), (0, .long l0), (2, .long l2), (4, .long l4)]) hx hb dX9_power_4 hl (by decide) rfl (fun ls hl => ?_)
  refine lv_lload_n hx hb dX9_power_6 rfl (lv_at hl 3 rfl) ?_
  refine lv_lstore (lv' := [(10, .long l2), (8, .long l0), (6, .long (1 : Int64)), (0, .long l0), (2, .long l2), (4, .long l4)]) hx hb dX9_power_7 hl (by decide) rfl (fun ls hl => ?_)
  refine wl_X9_power_9 X M l4 (Qo := _) (fun q7 hk H locs ls w hl => ?_) FU (1 : Int64) l0 l2 _ _ _ w (lv_sub hl [5, 2, 1, 0] rfl) (ok_b hk)
  refine lv_lload hx hb dX9_power_58 (lv_at hl 0 rfl) ?_
  have hk := hR _ (ok_s hk)
  exact zrl X hr hlk w dX9_power_60 hk rfl
abbrev rm_X9_rest : Room := { frames := 1, cells := 0, slots := 0, locals := 31 }
set_option maxHeartbeats 4000000 in
set_option maxRecDepth 100000 in
theorem wj_X9_rest_47 {p : Program} {l : Launch} {e : Env} {s : State} {m : MethodId} {args : Array Value} {below : List Frame} {meth : Method} {c : Code} {D : va_G} {cy : Cyy} {A : Nat → Prop} {G : Gg} (X : Cx p m c cX9_rest 15 s args wz_X9_rest RX9 D cy) {Q : State → Prop} (r0 : Nat) (i1 : Int32) (i2 : Int32) (l3 : Int64) (i5 : Int32) (Qo : Mm → Prop)  (hE : ∀ (y : Mm), Qo (y) → ∀ (H : Heap) (locs : List Loc) (ls : Array Slot), Wo s D cy A G y H locs → lv_has ls 15 [(0, .ref r0), (1, .int i1), (2, .int i2), (3, .long l3), (5, .int i5)] → W p l e rm_X9_rest s m args below meth c H locs 0 0 Q (F0 m 86 ls [])) (rec : Int32 → Mm → Option (Mm)) (hrec : ∀ (i6 : Int32) (M : Mm) (H : Heap) (locs : List Loc) (ls : Array Slot), Wo s D cy A G M H locs → lv_has ls 15 [(0, .ref r0), (1, .int i1), (2, .int i2), (3, .long l3), (5, .int i5), (6, .int i6)] → OK (rec i6 M) Qo → W p l e rm_X9_rest s m args below meth c H locs 0 0 Q (F0 m 12 ls [])) (i6 : Int32) (k0 : Int64) (M : Mm) (H : Heap) (locs : List Loc) (ls : Array Slot) (w : Wo s D cy A G M H locs) (hl : lv_has ls 15 [(0, .ref r0), (1, .int i1), (2, .int i2), (3, .long l3), (5, .int i5), (6, .int i6)]) (hk : OK (jn_X9_rest_47 G M rec r0 i1 i2 l3 i5 i6 k0) Qo) : W p l e rm_X9_rest s m args below meth c H locs 0 0 Q (F0 m 47 ls [.long k0]) := by
    have hx := X.1.1
    have hb := X.1.2.1
    unfold jn_X9_rest_47 at hk
    refine lv_lload_n hx hb dX9_rest_47 rfl (lv_at hl 3 rfl) ?_
    obtain ⟨c9, hk⟩ := ok_c hk
    refine lv_lrem hx hb dX9_rest_48 c9 ?_
    refine lv_lstore (lv' := [(7, .long (k0 - k0 / l3 * l3)), (0, .ref r0), (1, .int i1), (2, .int i2), (3, .long l3), (5, .int i5), (6, .int i6)]) hx hb dX9_rest_49 hl (by decide) rfl (fun ls hl => ?_)
    refine lv_aload_n hx hb dX9_rest_51 rfl (lv_at hl 1 rfl) ?_
    obtain ⟨c10, hk⟩ := ok_c hk
    obtain ⟨r11, e12, hk⟩ := ok_b hk
    refine zgr X w 9 11 35 (C := RX9) (T := TX9) (N := 23) rfl ui_X9 (by decide) rfl (tb wf_X9_35) dX9_rest_52 c10 e12 ?_
    refine lv_bipush (v := 8) hx hb dX9_rest_55 (by decide) ?_
    refine lv_iload hx hb dX9_rest_57 (lv_at hl 5 rfl) ?_
    refine lv_imul hx hb dX9_rest_59 ?_
    refine lv_iload hx hb dX9_rest_60 (lv_at hl 6 rfl) ?_
    refine lv_iadd hx hb dX9_rest_62 ?_
    refine lv_lload hx hb dX9_rest_63 (lv_at hl 0 rfl) ?_
    refine lv_lconst (v := 0) hx hb dX9_rest_65 (by decide) ?_
    refine W.lcmp hx hb dX9_rest_66 ?_
    refine lv_if_ge (tgt := 77) hx hb dX9_rest_67 (by decide) (fun c13 => ?_) (fun c13 => ?_)
    · have hk := ok_p c13 hk
      refine lv_lload hx hb dX9_rest_77 (lv_at hl 0 rfl) ?_
      obtain ⟨c14, hk⟩ := ok_c hk
      obtain ⟨c15, hk⟩ := ok_c hk
      refine zsl X w dX9_rest_79 c14 c15 (fun H locs w => ?_)
      refine lv_iinc (v := (i6 + 1)) (lv' := [(6, .int (i6 + 1)), (7, .long (k0 - k0 / l3 * l3)), (0, .ref r0), (1, .int i1), (2, .int i2), (3, .long l3), (5, .int i5)]) hx hb dX9_rest_80 hl (k := 6) rfl rfl (by decide) rfl (fun ls hl => ?_)
      refine lv_goto (tgt := 12) hx hb dX9_rest_83 (by decide) ?_
      exact hrec (i6 + 1) (mwJ M r11 (Int32.toNatClampNeg (((8 : Int32) * i5) + i6)) (k0 - k0 / l3 * l3)) _ _ _ w (lv_sub hl [2, 3, 4, 5, 6, 0] rfl) hk
    · have hk := ok_n c13 hk
      refine lv_lload hx hb dX9_rest_70 (lv_at hl 0 rfl) ?_
      refine lv_lload_n hx hb dX9_rest_72 rfl (lv_at hl 4 rfl) ?_
      refine lv_ladd hx hb dX9_rest_73 ?_
      refine lv_goto (tgt := 79) hx hb dX9_rest_74 (by decide) ?_
      obtain ⟨c16, hk⟩ := ok_c hk
      obtain ⟨c17, hk⟩ := ok_c hk
      refine zsl X w dX9_rest_79 c16 c17 (fun H locs w => ?_)
      refine lv_iinc (v := (i6 + 1)) (lv' := [(6, .int (i6 + 1)), (7, .long (k0 - k0 / l3 * l3)), (0, .ref r0), (1, .int i1), (2, .int i2), (3, .long l3), (5, .int i5)]) hx hb dX9_rest_80 hl (k := 6) rfl rfl (by decide) rfl (fun ls hl => ?_)
      refine lv_goto (tgt := 12) hx hb dX9_rest_83 (by decide) ?_
      exact hrec (i6 + 1) (mwJ M r11 (Int32.toNatClampNeg (((8 : Int32) * i5) + i6)) ((k0 - k0 / l3 * l3) + l3)) _ _ _ w (lv_sub hl [2, 3, 4, 5, 6, 0] rfl) hk
set_option maxHeartbeats 4000000 in
set_option maxRecDepth 100000 in
theorem wb_X9_rest_12 {p : Program} {l : Launch} {e : Env} {s : State} {m : MethodId} {args : Array Value} {below : List Frame} {meth : Method} {c : Code} {D : va_G} {cy : Cyy} {A : Nat → Prop} {G : Gg} (X : Cx p m c cX9_rest 15 s args wz_X9_rest RX9 D cy) {Q : State → Prop} (r0 : Nat) (i1 : Int32) (i2 : Int32) (l3 : Int64) (i5 : Int32) (Qo : Mm → Prop)  (hE : ∀ (y : Mm), Qo (y) → ∀ (H : Heap) (locs : List Loc) (ls : Array Slot), Wo s D cy A G y H locs → lv_has ls 15 [(0, .ref r0), (1, .int i1), (2, .int i2), (3, .long l3), (5, .int i5)] → W p l e rm_X9_rest s m args below meth c H locs 0 0 Q (F0 m 86 ls [])) (rec : Int32 → Mm → Option (Mm)) (hrec : ∀ (i6 : Int32) (M : Mm) (H : Heap) (locs : List Loc) (ls : Array Slot), Wo s D cy A G M H locs → lv_has ls 15 [(0, .ref r0), (1, .int i1), (2, .int i2), (3, .long l3), (5, .int i5), (6, .int i6)] → OK (rec i6 M) Qo → W p l e rm_X9_rest s m args below meth c H locs 0 0 Q (F0 m 12 ls [])) (i6 : Int32) (M : Mm) (H : Heap) (locs : List Loc) (ls : Array Slot) (w : Wo s D cy A G M H locs) (hl : lv_has ls 15 [(0, .ref r0), (1, .int i1), (2, .int i2), (3, .long l3), (5, .int i5), (6, .int i6)]) (hk : OK (bd_X9_rest_12 G r0 i1 i2 l3 i5 rec i6 M) Qo) : W p l e rm_X9_rest s m args below meth c H locs 0 0 Q (F0 m 12 ls []) := by
    have hx := X.1.1
    have hb := X.1.2.1
    unfold bd_X9_rest_12 at hk
    refine lv_iload hx hb dX9_rest_12 (lv_at hl 5 rfl) ?_
    refine lv_iload_n hx hb dX9_rest_14 rfl (lv_at hl 1 rfl) ?_
    refine lv_icmp_ge (tgt := 86) hx hb dX9_rest_15 (by decide) (fun c2 => ?_) (fun c2 => ?_)
    · have hk := ok_p c2 hk
      exact hE M (ok_s hk) _ _ _ w (lv_sub hl [0, 1, 2, 3, 4] rfl)
    · have hk := ok_n c2 hk
      refine lv_iload hx hb dX9_rest_18 (lv_at hl 5 rfl) ?_
      refine lv_iload_n hx hb dX9_rest_20 rfl (lv_at hl 2 rfl) ?_
      refine lv_icmp_ne (tgt := 34) hx hb dX9_rest_21 (by decide) (fun c3 => ?_) (fun c3 => ?_)
      · have hk := ok_n c3 hk
        refine lv_aload_n hx hb dX9_rest_34 rfl (lv_at hl 0 rfl) ?_
        obtain ⟨c4, hk⟩ := ok_c hk
        obtain ⟨r5, e6, hk⟩ := ok_b hk
        refine zgr X w 9 9 28 (C := RX9) (T := TX9) (N := 23) rfl ui_X9 (by decide) rfl (tb wf_X9_28) dX9_rest_35 c4 e6 ?_
        refine lv_bipush (v := 8) hx hb dX9_rest_38 (by decide) ?_
        refine lv_iload hx hb dX9_rest_40 (lv_at hl 4 rfl) ?_
        refine lv_imul hx hb dX9_rest_42 ?_
        refine lv_iload hx hb dX9_rest_43 (lv_at hl 5 rfl) ?_
        refine lv_iadd hx hb dX9_rest_45 ?_
        obtain ⟨c7, hk⟩ := ok_c hk
        obtain ⟨c8, hk⟩ := ok_c hk
        refine zal X w dX9_rest_46 c7 c8 ?_
        exact wj_X9_rest_47 X r0 i1 i2 l3 i5 Qo hE rec hrec i6 (M.2.1 r5 (Int32.toNatClampNeg (((8 : Int32) * i5) + i6))) M _ _ _ w (lv_sub hl [0, 1, 2, 3, 4, 5] rfl) hk
      · have hk := ok_p c3 hk
        refine lv_aload_n hx hb dX9_rest_24 rfl (lv_at hl 0 rfl) ?_
        obtain ⟨c18, hk⟩ := ok_c hk
        obtain ⟨r19, e20, hk⟩ := ok_b hk
        refine zgr X w 9 10 32 (C := RX9) (T := TX9) (N := 23) rfl ui_X9 (by decide) rfl (tb wf_X9_32) dX9_rest_25 c18 e20 ?_
        refine lv_iload hx hb dX9_rest_28 (lv_at hl 4 rfl) ?_
        obtain ⟨c21, hk⟩ := ok_c hk
        obtain ⟨c22, hk⟩ := ok_c hk
        refine zal X w dX9_rest_30 c21 c22 ?_
        refine lv_goto (tgt := 47) hx hb dX9_rest_31 (by decide) ?_
        exact wj_X9_rest_47 X r0 i1 i2 l3 i5 Qo hE rec hrec i6 (M.2.1 r19 (Int32.toNatClampNeg i5)) M _ _ _ w (lv_sub hl [0, 1, 2, 3, 4, 5] rfl) hk
theorem wl_X9_rest_12 {p : Program} {l : Launch} {e : Env} {s : State} {m : MethodId} {args : Array Value} {below : List Frame} {meth : Method} {c : Code} {D : va_G} {cy : Cyy} {A : Nat → Prop} {G : Gg} (X : Cx p m c cX9_rest 15 s args wz_X9_rest RX9 D cy) {Q : State → Prop} (r0 : Nat) (i1 : Int32) (i2 : Int32) (l3 : Int64) (i5 : Int32) (Qo : Mm → Prop)  (hE : ∀ (y : Mm), Qo (y) → ∀ (H : Heap) (locs : List Loc) (ls : Array Slot), Wo s D cy A G y H locs → lv_has ls 15 [(0, .ref r0), (1, .int i1), (2, .int i2), (3, .long l3), (5, .int i5)] → W p l e rm_X9_rest s m args below meth c H locs 0 0 Q (F0 m 86 ls [])) : ∀ (n : Nat) (i6 : Int32) (M : Mm) (H : Heap) (locs : List Loc) (ls : Array Slot), Wo s D cy A G M H locs → lv_has ls 15 [(0, .ref r0), (1, .int i1), (2, .int i2), (3, .long l3), (5, .int i5), (6, .int i6)] → OK (lp_X9_rest_12 G r0 i1 i2 l3 i5 n i6 M) Qo → W p l e rm_X9_rest s m args below meth c H locs 0 0 Q (F0 m 12 ls []) := by
  intro n
  induction n with
  | zero => intro i6 M H locs ls w hl hk; exact ok_0 hk
  | succ n ih => intro i6 M H locs ls w hl hk; exact wb_X9_rest_12 X r0 i1 i2 l3 i5 Qo hE  (lp_X9_rest_12 G r0 i1 i2 l3 i5 n) ih i6 M H locs ls w hl hk
set_option maxHeartbeats 4000000 in
set_option maxRecDepth 100000 in
theorem wb_X9_rest_3 {p : Program} {l : Launch} {e : Env} {s : State} {m : MethodId} {args : Array Value} {below : List Frame} {meth : Method} {c : Code} {D : va_G} {cy : Cyy} {A : Nat → Prop} {G : Gg} (X : Cx p m c cX9_rest 15 s args wz_X9_rest RX9 D cy) {Q : State → Prop} (r0 : Nat) (i1 : Int32) (i2 : Int32) (l3 : Int64) (Qo : Mm → Prop)  (hE : ∀ (y : Mm), Qo (y) → ∀ (H : Heap) (locs : List Loc) (ls : Array Slot), Wo s D cy A G y H locs → lv_has ls 15 [(0, .ref r0), (1, .int i1), (3, .long l3)] → W p l e rm_X9_rest s m args below meth c H locs 0 0 Q (F0 m 92 ls [])) (rec : Int32 → Mm → Option (Mm)) (hrec : ∀ (i5 : Int32) (M : Mm) (H : Heap) (locs : List Loc) (ls : Array Slot), Wo s D cy A G M H locs → lv_has ls 15 [(0, .ref r0), (1, .int i1), (2, .int i2), (3, .long l3), (5, .int i5)] → OK (rec i5 M) Qo → W p l e rm_X9_rest s m args below meth c H locs 0 0 Q (F0 m 3 ls [])) (i5 : Int32) (M : Mm) (H : Heap) (locs : List Loc) (ls : Array Slot) (w : Wo s D cy A G M H locs) (hl : lv_has ls 15 [(0, .ref r0), (1, .int i1), (2, .int i2), (3, .long l3), (5, .int i5)]) (hk : OK (bd_X9_rest_3 G r0 i1 i2 l3 rec i5 M) Qo) : W p l e rm_X9_rest s m args below meth c H locs 0 0 Q (F0 m 3 ls []) := by
    have hx := X.1.1
    have hb := X.1.2.1
    unfold bd_X9_rest_3 at hk
    refine lv_iload hx hb dX9_rest_3 (lv_at hl 4 rfl) ?_
    refine lv_iload_n hx hb dX9_rest_5 rfl (lv_at hl 1 rfl) ?_
    refine lv_icmp_ge (tgt := 92) hx hb dX9_rest_6 (by decide) (fun c1 => ?_) (fun c1 => ?_)
    · have hk := ok_p c1 hk
      exact hE M (ok_s hk) _ _ _ w (lv_sub hl [0, 1, 3] rfl)
    · have hk := ok_n c1 hk
      refine lv_iconst (v := 0) hx hb dX9_rest_9 (by decide) ?_
      refine lv_istore (lv' := [(6, .int (0 : Int32)), (0, .ref r0), (1, .int i1), (2, .int i2), (3, .long l3), (5, .int i5)]) hx hb dX9_rest_10 hl (by decide) rfl (fun ls hl => ?_)
      refine wl_X9_rest_12 X r0 i1 i2 l3 i5 (Qo := _) (fun q23 hk H locs ls w hl => ?_) FU (0 : Int32) M _ _ _ w (lv_sub hl [1, 2, 3, 4, 5, 0] rfl) (ok_b hk)
      refine lv_iinc (v := (i5 + 1)) (lv' := [(5, .int (i5 + 1)), (0, .ref r0), (1, .int i1), (2, .int i2), (3, .long l3)]) hx hb dX9_rest_86 hl (k := 4) rfl rfl (by decide) rfl (fun ls hl => ?_)
      refine lv_goto (tgt := 3) hx hb dX9_rest_89 (by decide) ?_
      exact hrec (i5 + 1) q23 _ _ _ w (lv_sub hl [1, 2, 3, 4, 0] rfl) hk
theorem wl_X9_rest_3 {p : Program} {l : Launch} {e : Env} {s : State} {m : MethodId} {args : Array Value} {below : List Frame} {meth : Method} {c : Code} {D : va_G} {cy : Cyy} {A : Nat → Prop} {G : Gg} (X : Cx p m c cX9_rest 15 s args wz_X9_rest RX9 D cy) {Q : State → Prop} (r0 : Nat) (i1 : Int32) (i2 : Int32) (l3 : Int64) (Qo : Mm → Prop)  (hE : ∀ (y : Mm), Qo (y) → ∀ (H : Heap) (locs : List Loc) (ls : Array Slot), Wo s D cy A G y H locs → lv_has ls 15 [(0, .ref r0), (1, .int i1), (3, .long l3)] → W p l e rm_X9_rest s m args below meth c H locs 0 0 Q (F0 m 92 ls [])) : ∀ (n : Nat) (i5 : Int32) (M : Mm) (H : Heap) (locs : List Loc) (ls : Array Slot), Wo s D cy A G M H locs → lv_has ls 15 [(0, .ref r0), (1, .int i1), (2, .int i2), (3, .long l3), (5, .int i5)] → OK (lp_X9_rest_3 G r0 i1 i2 l3 n i5 M) Qo → W p l e rm_X9_rest s m args below meth c H locs 0 0 Q (F0 m 3 ls []) := by
  intro n
  induction n with
  | zero => intro i5 M H locs ls w hl hk; exact ok_0 hk
  | succ n ih => intro i5 M H locs ls w hl hk; exact wb_X9_rest_3 X r0 i1 i2 l3 Qo hE  (lp_X9_rest_3 G r0 i1 i2 l3 n) ih i5 M H locs ls w hl hk
set_option maxHeartbeats 4000000 in
set_option maxRecDepth 100000 in
theorem wb_X9_rest_108 {p : Program} {l : Launch} {e : Env} {s : State} {m : MethodId} {args : Array Value} {below : List Frame} {meth : Method} {c : Code} {D : va_G} {cy : Cyy} {A : Nat → Prop} {G : Gg} (X : Cx p m c cX9_rest 15 s args wz_X9_rest RX9 D cy) {Q : State → Prop} (M : Mm) (r0 : Nat) (i1 : Int32) (l3 : Int64) (l5 : Int64) (i7 : Int32) (Qo : Int32 → Prop)  (hE : ∀ (y : Int32), Qo (y) → ∀ (H : Heap) (locs : List Loc) (ls : Array Slot), Wo s D cy A G M H locs → lv_has ls 15 [(0, .ref r0), (1, .int i1), (3, .long l3), (5, .long l5), (7, .int i7), (8, .int y)] → W p l e rm_X9_rest s m args below meth c H locs 0 0 Q (F0 m 138 ls [])) (rec : Int32 → Option (Int32)) (hrec : ∀ (i8 : Int32) (H : Heap) (locs : List Loc) (ls : Array Slot), Wo s D cy A G M H locs → lv_has ls 15 [(0, .ref r0), (1, .int i1), (3, .long l3), (5, .long l5), (7, .int i7), (8, .int i8)] → OK (rec i8) Qo → W p l e rm_X9_rest s m args below meth c H locs 0 0 Q (F0 m 108 ls [])) (i8 : Int32) (H : Heap) (locs : List Loc) (ls : Array Slot) (w : Wo s D cy A G M H locs) (hl : lv_has ls 15 [(0, .ref r0), (1, .int i1), (3, .long l3), (5, .long l5), (7, .int i7), (8, .int i8)]) (hk : OK (bd_X9_rest_108 G M r0 i1 l3 l5 i7 rec i8) Qo) : W p l e rm_X9_rest s m args below meth c H locs 0 0 Q (F0 m 108 ls []) := by
    have hx := X.1.1
    have hb := X.1.2.1
    unfold bd_X9_rest_108 at hk
    refine lv_iload hx hb dX9_rest_108 (lv_at hl 5 rfl) ?_
    refine lv_iload_n hx hb dX9_rest_110 rfl (lv_at hl 1 rfl) ?_
    refine lv_icmp_ge (tgt := 138) hx hb dX9_rest_111 (by decide) (fun c26 => ?_) (fun c26 => ?_)
    · have hk := ok_p c26 hk
      exact hE i8 (ok_s hk) _ _ _ w (lv_sub hl [0, 1, 2, 3, 4, 5] rfl)
    · have hk := ok_n c26 hk
      refine lv_aload_n hx hb dX9_rest_114 rfl (lv_at hl 0 rfl) ?_
      obtain ⟨c27, hk⟩ := ok_c hk
      obtain ⟨r28, e29, hk⟩ := ok_b hk
      refine zgr X w 9 11 35 (C := RX9) (T := TX9) (N := 23) rfl ui_X9 (by decide) rfl (tb wf_X9_35) dX9_rest_115 c27 e29 ?_
      refine lv_bipush (v := 8) hx hb dX9_rest_118 (by decide) ?_
      refine lv_iload hx hb dX9_rest_120 (lv_at hl 5 rfl) ?_
      refine lv_imul hx hb dX9_rest_122 ?_
      refine lv_iload hx hb dX9_rest_123 (lv_at hl 4 rfl) ?_
      refine lv_iadd hx hb dX9_rest_125 ?_
      obtain ⟨c30, hk⟩ := ok_c hk
      obtain ⟨c31, hk⟩ := ok_c hk
      refine zal X w dX9_rest_126 c30 c31 ?_
      refine lv_lconst (v := 0) hx hb dX9_rest_127 (by decide) ?_
      refine W.lcmp hx hb dX9_rest_128 ?_
      refine lv_if_ne (tgt := 138) hx hb dX9_rest_129 (by decide) (fun c32 => ?_) (fun c32 => ?_)
      · have hk := ok_n c32 hk
        exact hE i8 (ok_s hk) _ _ _ w (lv_sub hl [0, 1, 2, 3, 4, 5] rfl)
      · have hk := ok_p c32 hk
        refine lv_iinc (v := (i8 + 1)) (lv' := [(8, .int (i8 + 1)), (0, .ref r0), (1, .int i1), (3, .long l3), (5, .long l5), (7, .int i7)]) hx hb dX9_rest_132 hl (k := 5) rfl rfl (by decide) rfl (fun ls hl => ?_)
        refine lv_goto (tgt := 108) hx hb dX9_rest_135 (by decide) ?_
        exact hrec (i8 + 1) _ _ _ w (lv_sub hl [1, 2, 3, 4, 5, 0] rfl) hk
theorem wl_X9_rest_108 {p : Program} {l : Launch} {e : Env} {s : State} {m : MethodId} {args : Array Value} {below : List Frame} {meth : Method} {c : Code} {D : va_G} {cy : Cyy} {A : Nat → Prop} {G : Gg} (X : Cx p m c cX9_rest 15 s args wz_X9_rest RX9 D cy) {Q : State → Prop} (M : Mm) (r0 : Nat) (i1 : Int32) (l3 : Int64) (l5 : Int64) (i7 : Int32) (Qo : Int32 → Prop)  (hE : ∀ (y : Int32), Qo (y) → ∀ (H : Heap) (locs : List Loc) (ls : Array Slot), Wo s D cy A G M H locs → lv_has ls 15 [(0, .ref r0), (1, .int i1), (3, .long l3), (5, .long l5), (7, .int i7), (8, .int y)] → W p l e rm_X9_rest s m args below meth c H locs 0 0 Q (F0 m 138 ls [])) : ∀ (n : Nat) (i8 : Int32) (H : Heap) (locs : List Loc) (ls : Array Slot), Wo s D cy A G M H locs → lv_has ls 15 [(0, .ref r0), (1, .int i1), (3, .long l3), (5, .long l5), (7, .int i7), (8, .int i8)] → OK (lp_X9_rest_108 G M r0 i1 l3 l5 i7 n i8) Qo → W p l e rm_X9_rest s m args below meth c H locs 0 0 Q (F0 m 108 ls []) := by
  intro n
  induction n with
  | zero => intro i8 H locs ls w hl hk; exact ok_0 hk
  | succ n ih => intro i8 H locs ls w hl hk; exact wb_X9_rest_108 X M r0 i1 l3 l5 i7 Qo hE  (lp_X9_rest_108 G M r0 i1 l3 l5 i7 n) ih i8 H locs ls w hl hk
set_option maxHeartbeats 4000000 in
set_option maxRecDepth 100000 in
theorem wb_X9_rest_310 {p : Program} {l : Launch} {e : Env} {s : State} {m : MethodId} {args : Array Value} {below : List Frame} {meth : Method} {c : Code} {D : va_G} {cy : Cyy} {A : Nat → Prop} {G : Gg} (X : Cx p m c cX9_rest 15 s args wz_X9_rest RX9 D cy) {Q : State → Prop} (r0 : Nat) (i1 : Int32) (l3 : Int64) (l5 : Int64) (i7 : Int32) (l9 : Int64) (i11 : Int32) (l12 : Int64) (Qo : Mm → Prop)  (hE : ∀ (y : Mm), Qo (y) → ∀ (H : Heap) (locs : List Loc) (ls : Array Slot), Wo s D cy A G y H locs → lv_has ls 15 [(0, .ref r0), (1, .int i1), (3, .long l3), (5, .long l5), (7, .int i7), (9, .long l9), (11, .int i11)] → W p l e rm_X9_rest s m args below meth c H locs 0 0 Q (F0 m 376 ls [])) (rec : Int32 → Mm → Option (Mm)) (hrec : ∀ (i14 : Int32) (M : Mm) (H : Heap) (locs : List Loc) (ls : Array Slot), Wo s D cy A G M H locs → lv_has ls 15 [(0, .ref r0), (1, .int i1), (3, .long l3), (5, .long l5), (7, .int i7), (9, .long l9), (11, .int i11), (12, .long l12), (14, .int i14)] → OK (rec i14 M) Qo → W p l e rm_X9_rest s m args below meth c H locs 0 0 Q (F0 m 310 ls [])) (i14 : Int32) (M : Mm) (H : Heap) (locs : List Loc) (ls : Array Slot) (w : Wo s D cy A G M H locs) (hl : lv_has ls 15 [(0, .ref r0), (1, .int i1), (3, .long l3), (5, .long l5), (7, .int i7), (9, .long l9), (11, .int i11), (12, .long l12), (14, .int i14)]) (hk : OK (bd_X9_rest_310 G r0 i1 l3 l5 i7 l9 i11 l12 rec i14 M) Qo) : W p l e rm_X9_rest s m args below meth c H locs 0 0 Q (F0 m 310 ls []) := by
    have hx := X.1.1
    have hb := X.1.2.1
    unfold bd_X9_rest_310 at hk
    refine lv_iload hx hb dX9_rest_310 (lv_at hl 8 rfl) ?_
    refine lv_iload_n hx hb dX9_rest_312 rfl (lv_at hl 1 rfl) ?_
    refine lv_icmp_ge (tgt := 376) hx hb dX9_rest_313 (by decide) (fun c51 => ?_) (fun c51 => ?_)
    · have hk := ok_p c51 hk
      exact hE M (ok_s hk) _ _ _ w (lv_sub hl [0, 1, 2, 3, 4, 5, 6] rfl)
    · have hk := ok_n c51 hk
      refine lv_lload hx hb dX9_rest_316 (lv_at hl 7 rfl) ?_
      refine lv_lconst (v := 0) hx hb dX9_rest_318 (by decide) ?_
      refine W.lcmp hx hb dX9_rest_319 ?_
      refine lv_if_eq (tgt := 376) hx hb dX9_rest_320 (by decide) (fun c52 => ?_) (fun c52 => ?_)
      · have hk := ok_p c52 hk
        exact hE M (ok_s hk) _ _ _ w (lv_sub hl [0, 1, 2, 3, 4, 5, 6] rfl)
      · have hk := ok_n c52 hk
        refine lv_aload_n hx hb dX9_rest_323 rfl (lv_at hl 0 rfl) ?_
        obtain ⟨c53, hk⟩ := ok_c hk
        obtain ⟨r54, e55, hk⟩ := ok_b hk
        refine zgr X w 9 11 35 (C := RX9) (T := TX9) (N := 23) rfl ui_X9 (by decide) rfl (tb wf_X9_35) dX9_rest_324 c53 e55 ?_
        refine lv_bipush (v := 8) hx hb dX9_rest_327 (by decide) ?_
        refine lv_iload hx hb dX9_rest_329 (lv_at hl 6 rfl) ?_
        refine lv_imul hx hb dX9_rest_331 ?_
        refine lv_iload hx hb dX9_rest_332 (lv_at hl 8 rfl) ?_
        refine lv_iadd hx hb dX9_rest_334 ?_
        refine lv_aload_n hx hb dX9_rest_335 rfl (lv_at hl 0 rfl) ?_
        refine zgr X w 9 11 35 (C := RX9) (T := TX9) (N := 23) rfl ui_X9 (by decide) rfl (tb wf_X9_35) dX9_rest_336 c53 e55 ?_
        refine lv_bipush (v := 8) hx hb dX9_rest_339 (by decide) ?_
        refine lv_iload hx hb dX9_rest_341 (lv_at hl 6 rfl) ?_
        refine lv_imul hx hb dX9_rest_343 ?_
        refine lv_iload hx hb dX9_rest_344 (lv_at hl 8 rfl) ?_
        refine lv_iadd hx hb dX9_rest_346 ?_
        obtain ⟨c56, hk⟩ := ok_c hk
        obtain ⟨c57, hk⟩ := ok_c hk
        refine zal X w dX9_rest_347 c56 c57 ?_
        refine lv_lload_n hx hb dX9_rest_348 rfl (lv_at hl 2 rfl) ?_
        refine lv_lload hx hb dX9_rest_349 (lv_at hl 7 rfl) ?_
        refine lv_lsub hx hb dX9_rest_351 ?_
        refine lv_aload_n hx hb dX9_rest_352 rfl (lv_at hl 0 rfl) ?_
        refine zgr X w 9 11 35 (C := RX9) (T := TX9) (N := 23) rfl ui_X9 (by decide) rfl (tb wf_X9_35) dX9_rest_353 c53 e55 ?_
        refine lv_bipush (v := 8) hx hb dX9_rest_356 (by decide) ?_
        refine lv_iload hx hb dX9_rest_358 (lv_at hl 4 rfl) ?_
        refine lv_imul hx hb dX9_rest_360 ?_
        refine lv_iload hx hb dX9_rest_361 (lv_at hl 8 rfl) ?_
        refine lv_iadd hx hb dX9_rest_363 ?_
        obtain ⟨c58, hk⟩ := ok_c hk
        refine zal X w dX9_rest_364 c56 c58 ?_
        refine lv_lmul hx hb dX9_rest_365 ?_
        refine lv_ladd hx hb dX9_rest_366 ?_
        refine lv_lload_n hx hb dX9_rest_367 rfl (lv_at hl 2 rfl) ?_
        obtain ⟨c59, hk⟩ := ok_c hk
        refine lv_lrem hx hb dX9_rest_368 c59 ?_
        refine zsl X w dX9_rest_369 c56 c57 (fun H locs w => ?_)
        refine lv_iinc (v := (i14 + 1)) (lv' := [(14, .int (i14 + 1)), (0, .ref r0), (1, .int i1), (3, .long l3), (5, .long l5), (7, .int i7), (9, .long l9), (11, .int i11), (12, .long l12)]) hx hb dX9_rest_370 hl (k := 8) rfl rfl (by decide) rfl (fun ls hl => ?_)
        refine lv_goto (tgt := 310) hx hb dX9_rest_373 (by decide) ?_
        exact hrec (i14 + 1) (mwJ M r54 (Int32.toNatClampNeg (((8 : Int32) * i11) + i14)) (((M.2.1 r54 (Int32.toNatClampNeg (((8 : Int32) * i11) + i14))) + ((l3 - l12) * (M.2.1 r54 (Int32.toNatClampNeg (((8 : Int32) * i7) + i14))))) - ((M.2.1 r54 (Int32.toNatClampNeg (((8 : Int32) * i11) + i14))) + ((l3 - l12) * (M.2.1 r54 (Int32.toNatClampNeg (((8 : Int32) * i7) + i14))))) / l3 * l3)) _ _ _ w (lv_sub hl [1, 2, 3, 4, 5, 6, 7, 8, 0] rfl) hk
theorem wl_X9_rest_310 {p : Program} {l : Launch} {e : Env} {s : State} {m : MethodId} {args : Array Value} {below : List Frame} {meth : Method} {c : Code} {D : va_G} {cy : Cyy} {A : Nat → Prop} {G : Gg} (X : Cx p m c cX9_rest 15 s args wz_X9_rest RX9 D cy) {Q : State → Prop} (r0 : Nat) (i1 : Int32) (l3 : Int64) (l5 : Int64) (i7 : Int32) (l9 : Int64) (i11 : Int32) (l12 : Int64) (Qo : Mm → Prop)  (hE : ∀ (y : Mm), Qo (y) → ∀ (H : Heap) (locs : List Loc) (ls : Array Slot), Wo s D cy A G y H locs → lv_has ls 15 [(0, .ref r0), (1, .int i1), (3, .long l3), (5, .long l5), (7, .int i7), (9, .long l9), (11, .int i11)] → W p l e rm_X9_rest s m args below meth c H locs 0 0 Q (F0 m 376 ls [])) : ∀ (n : Nat) (i14 : Int32) (M : Mm) (H : Heap) (locs : List Loc) (ls : Array Slot), Wo s D cy A G M H locs → lv_has ls 15 [(0, .ref r0), (1, .int i1), (3, .long l3), (5, .long l5), (7, .int i7), (9, .long l9), (11, .int i11), (12, .long l12), (14, .int i14)] → OK (lp_X9_rest_310 G r0 i1 l3 l5 i7 l9 i11 l12 n i14 M) Qo → W p l e rm_X9_rest s m args below meth c H locs 0 0 Q (F0 m 310 ls []) := by
  intro n
  induction n with
  | zero => intro i14 M H locs ls w hl hk; exact ok_0 hk
  | succ n ih => intro i14 M H locs ls w hl hk; exact wb_X9_rest_310 X r0 i1 l3 l5 i7 l9 i11 l12 Qo hE  (lp_X9_rest_310 G r0 i1 l3 l5 i7 l9 i11 l12 n) ih i14 M H locs ls w hl hk
set_option maxHeartbeats 4000000 in
set_option maxRecDepth 100000 in
theorem wb_X9_rest_280 {p : Program} {l : Launch} {e : Env} {s : State} {m : MethodId} {args : Array Value} {below : List Frame} {meth : Method} {c : Code} {D : va_G} {cy : Cyy} {A : Nat → Prop} {G : Gg} (X : Cx p m c cX9_rest 15 s args wz_X9_rest RX9 D cy) {Q : State → Prop} (r0 : Nat) (i1 : Int32) (l3 : Int64) (l5 : Int64) (i7 : Int32) (l9 : Int64) (Qo : Mm → Prop)  (hE : ∀ (y : Mm), Qo (y) → ∀ (H : Heap) (locs : List Loc) (ls : Array Slot), Wo s D cy A G y H locs → lv_has ls 15 [(0, .ref r0), (1, .int i1), (3, .long l3), (5, .long l5), (7, .int i7)] → W p l e rm_X9_rest s m args below meth c H locs 0 0 Q (F0 m 382 ls [])) (rec : Int32 → Mm → Option (Mm)) (hrec : ∀ (i11 : Int32) (M : Mm) (H : Heap) (locs : List Loc) (ls : Array Slot), Wo s D cy A G M H locs → lv_has ls 15 [(0, .ref r0), (1, .int i1), (3, .long l3), (5, .long l5), (7, .int i7), (9, .long l9), (11, .int i11)] → OK (rec i11 M) Qo → W p l e rm_X9_rest s m args below meth c H locs 0 0 Q (F0 m 280 ls [])) (i11 : Int32) (M : Mm) (H : Heap) (locs : List Loc) (ls : Array Slot) (w : Wo s D cy A G M H locs) (hl : lv_has ls 15 [(0, .ref r0), (1, .int i1), (3, .long l3), (5, .long l5), (7, .int i7), (9, .long l9), (11, .int i11)]) (hk : OK (bd_X9_rest_280 G r0 i1 l3 l5 i7 l9 rec i11 M) Qo) : W p l e rm_X9_rest s m args below meth c H locs 0 0 Q (F0 m 280 ls []) := by
    have hx := X.1.1
    have hb := X.1.2.1
    unfold bd_X9_rest_280 at hk
    refine lv_iload hx hb dX9_rest_280 (lv_at hl 6 rfl) ?_
    refine lv_iload_n hx hb dX9_rest_282 rfl (lv_at hl 1 rfl) ?_
    refine lv_icmp_ge (tgt := 382) hx hb dX9_rest_283 (by decide) (fun c44 => ?_) (fun c44 => ?_)
    · have hk := ok_p c44 hk
      exact hE M (ok_s hk) _ _ _ w (lv_sub hl [0, 1, 2, 3, 4] rfl)
    · have hk := ok_n c44 hk
      refine lv_aload_n hx hb dX9_rest_286 rfl (lv_at hl 0 rfl) ?_
      obtain ⟨c45, hk⟩ := ok_c hk
      obtain ⟨r46, e47, hk⟩ := ok_b hk
      refine zgr X w 9 11 35 (C := RX9) (T := TX9) (N := 23) rfl ui_X9 (by decide) rfl (tb wf_X9_35) dX9_rest_287 c45 e47 ?_
      refine lv_bipush (v := 8) hx hb dX9_rest_290 (by decide) ?_
      refine lv_iload hx hb dX9_rest_292 (lv_at hl 6 rfl) ?_
      refine lv_imul hx hb dX9_rest_294 ?_
      refine lv_iload hx hb dX9_rest_295 (lv_at hl 4 rfl) ?_
      refine lv_iadd hx hb dX9_rest_297 ?_
      obtain ⟨c48, hk⟩ := ok_c hk
      obtain ⟨c49, hk⟩ := ok_c hk
      refine zal X w dX9_rest_298 c48 c49 ?_
      refine lv_lload hx hb dX9_rest_299 (lv_at hl 5 rfl) ?_
      refine lv_lmul hx hb dX9_rest_301 ?_
      refine lv_lload_n hx hb dX9_rest_302 rfl (lv_at hl 2 rfl) ?_
      obtain ⟨c50, hk⟩ := ok_c hk
      refine lv_lrem hx hb dX9_rest_303 c50 ?_
      refine lv_lstore (lv' := [(12, .long (((M.2.1 r46 (Int32.toNatClampNeg (((8 : Int32) * i11) + i7))) * l9) - ((M.2.1 r46 (Int32.toNatClampNeg (((8 : Int32) * i11) + i7))) * l9) / l3 * l3)), (0, .ref r0), (1, .int i1), (3, .long l3), (5, .long l5), (7, .int i7), (9, .long l9), (11, .int i11)]) hx hb dX9_rest_304 hl (by decide) rfl (fun ls hl => ?_)
      refine lv_iload hx hb dX9_rest_306 (lv_at hl 5 rfl) ?_
      refine lv_istore (lv' := [(14, .int i7), (12, .long (((M.2.1 r46 (Int32.toNatClampNeg (((8 : Int32) * i11) + i7))) * l9) - ((M.2.1 r46 (Int32.toNatClampNeg (((8 : Int32) * i11) + i7))) * l9) / l3 * l3)), (0, .ref r0), (1, .int i1), (3, .long l3), (5, .long l5), (7, .int i7), (9, .long l9), (11, .int i11)]) hx hb dX9_rest_308 hl (by decide) rfl (fun ls hl => ?_)
      refine wl_X9_rest_310 X r0 i1 l3 l5 i7 l9 i11 (((M.2.1 r46 (Int32.toNatClampNeg (((8 : Int32) * i11) + i7))) * l9) - ((M.2.1 r46 (Int32.toNatClampNeg (((8 : Int32) * i11) + i7))) * l9) / l3 * l3) (Qo := _) (fun q60 hk H locs ls w hl => ?_) FU i7 M _ _ _ w (lv_sub hl [2, 3, 4, 5, 6, 7, 8, 1, 0] rfl) (ok_b hk)
      refine lv_iinc (v := (i11 + 1)) (lv' := [(11, .int (i11 + 1)), (0, .ref r0), (1, .int i1), (3, .long l3), (5, .long l5), (7, .int i7), (9, .long l9)]) hx hb dX9_rest_376 hl (k := 6) rfl rfl (by decide) rfl (fun ls hl => ?_)
      refine lv_goto (tgt := 280) hx hb dX9_rest_379 (by decide) ?_
      exact hrec (i11 + 1) q60 _ _ _ w (lv_sub hl [1, 2, 3, 4, 5, 6, 0] rfl) hk
theorem wl_X9_rest_280 {p : Program} {l : Launch} {e : Env} {s : State} {m : MethodId} {args : Array Value} {below : List Frame} {meth : Method} {c : Code} {D : va_G} {cy : Cyy} {A : Nat → Prop} {G : Gg} (X : Cx p m c cX9_rest 15 s args wz_X9_rest RX9 D cy) {Q : State → Prop} (r0 : Nat) (i1 : Int32) (l3 : Int64) (l5 : Int64) (i7 : Int32) (l9 : Int64) (Qo : Mm → Prop)  (hE : ∀ (y : Mm), Qo (y) → ∀ (H : Heap) (locs : List Loc) (ls : Array Slot), Wo s D cy A G y H locs → lv_has ls 15 [(0, .ref r0), (1, .int i1), (3, .long l3), (5, .long l5), (7, .int i7)] → W p l e rm_X9_rest s m args below meth c H locs 0 0 Q (F0 m 382 ls [])) : ∀ (n : Nat) (i11 : Int32) (M : Mm) (H : Heap) (locs : List Loc) (ls : Array Slot), Wo s D cy A G M H locs → lv_has ls 15 [(0, .ref r0), (1, .int i1), (3, .long l3), (5, .long l5), (7, .int i7), (9, .long l9), (11, .int i11)] → OK (lp_X9_rest_280 G r0 i1 l3 l5 i7 l9 n i11 M) Qo → W p l e rm_X9_rest s m args below meth c H locs 0 0 Q (F0 m 280 ls []) := by
  intro n
  induction n with
  | zero => intro i11 M H locs ls w hl hk; exact ok_0 hk
  | succ n ih => intro i11 M H locs ls w hl hk; exact wb_X9_rest_280 X r0 i1 l3 l5 i7 l9 Qo hE  (lp_X9_rest_280 G r0 i1 l3 l5 i7 l9 n) ih i11 M H locs ls w hl hk
set_option maxHeartbeats 4000000 in
set_option maxRecDepth 100000 in
theorem wj_X9_rest_230 {p : Program} {l : Launch} {e : Env} {s : State} {m : MethodId} {args : Array Value} {below : List Frame} {meth : Method} {c : Code} {D : va_G} {cy : Cyy} {A : Nat → Prop} {G : Gg} (X : Cx p m c cX9_rest 15 s args wz_X9_rest RX9 D cy) (r0 : Nat) (i1 : Int32) (l3 : Int64) (Qo : (Int64 × Mm) ⊕ (Int64 × Mm) → Prop) (hr : meth.sig.returnType = (some .long)) (hlk : meth.locks = false) {x0 : Int64 × Mm} (hR : ∀ x, Qo (.inl x) → x = x0) (hE : ∀ (y : Int64 × Mm), Qo (.inr y) → ∀ (H : Heap) (locs : List Loc) (ls : Array Slot), Wo s D cy A G y.2 H locs → lv_has ls 15 [(3, .long l3), (5, .long y.1)] → W p l e rm_X9_rest s m args below meth c H locs 0 0 (MQ below (QL D cy G A x0.1 x0.2) args s 0 0 A) (F0 m 388 ls [])) (rec : Int64 → Int32 → Mm → Option ((Int64 × Mm) ⊕ (Int64 × Mm))) (hrec : ∀ (l5 : Int64) (i7 : Int32) (M : Mm) (H : Heap) (locs : List Loc) (ls : Array Slot), Wo s D cy A G M H locs → lv_has ls 15 [(0, .ref r0), (1, .int i1), (3, .long l3), (5, .long l5), (7, .int i7)] → OK (rec l5 i7 M) Qo → W p l e rm_X9_rest s m args below meth c H locs 0 0 (MQ below (QL D cy G A x0.1 x0.2) args s 0 0 A) (F0 m 98 ls [])) (l5 : Int64) (i7 : Int32)  (M : Mm) (H : Heap) (locs : List Loc) (ls : Array Slot) (w : Wo s D cy A G M H locs) (hl : lv_has ls 15 [(0, .ref r0), (1, .int i1), (3, .long l3), (5, .long l5), (7, .int i7)]) (hk : OK (jn_X9_rest_230 G M rec r0 i1 l3 l5 i7) Qo) : W p l e rm_X9_rest s m args below meth c H locs 0 0 (MQ below (QL D cy G A x0.1 x0.2) args s 0 0 A) (F0 m 230 ls []) := by
    have hx := X.1.1
    have hb := X.1.2.1
    unfold jn_X9_rest_230 at hk
    refine lv_lload hx hb dX9_rest_230 (lv_at hl 3 rfl) ?_
    refine lv_aload_n hx hb dX9_rest_232 rfl (lv_at hl 0 rfl) ?_
    obtain ⟨c36, hk⟩ := ok_c hk
    obtain ⟨r37, e38, hk⟩ := ok_b hk
    refine zgr X w 9 11 35 (C := RX9) (T := TX9) (N := 23) rfl ui_X9 (by decide) rfl (tb wf_X9_35) dX9_rest_233 c36 e38 ?_
    refine lv_bipush (v := 8) hx hb dX9_rest_236 (by decide) ?_
    refine lv_iload hx hb dX9_rest_238 (lv_at hl 4 rfl) ?_
    refine lv_imul hx hb dX9_rest_240 ?_
    refine lv_iload hx hb dX9_rest_241 (lv_at hl 4 rfl) ?_
    refine lv_iadd hx hb dX9_rest_243 ?_
    obtain ⟨c39, hk⟩ := ok_c hk
    obtain ⟨c40, hk⟩ := ok_c hk
    refine zal X w dX9_rest_244 c39 c40 ?_
    refine lv_lmul hx hb dX9_rest_245 ?_
    refine lv_lload_n hx hb dX9_rest_246 rfl (lv_at hl 2 rfl) ?_
    obtain ⟨c41, hk⟩ := ok_c hk
    refine lv_lrem hx hb dX9_rest_247 c41 ?_
    refine lv_lstore (lv' := [(5, .long ((l5 * (M.2.1 r37 (Int32.toNatClampNeg (((8 : Int32) * i7) + i7)))) - (l5 * (M.2.1 r37 (Int32.toNatClampNeg (((8 : Int32) * i7) + i7)))) / l3 * l3)), (0, .ref r0), (1, .int i1), (3, .long l3), (7, .int i7)]) hx hb dX9_rest_248 hl (by decide) rfl (fun ls hl => ?_)
    refine lv_aload_n hx hb dX9_rest_250 rfl (lv_at hl 1 rfl) ?_
    refine zgr X w 9 11 35 (C := RX9) (T := TX9) (N := 23) rfl ui_X9 (by decide) rfl (tb wf_X9_35) dX9_rest_251 c36 e38 ?_
    refine lv_bipush (v := 8) hx hb dX9_rest_254 (by decide) ?_
    refine lv_iload hx hb dX9_rest_256 (lv_at hl 4 rfl) ?_
    refine lv_imul hx hb dX9_rest_258 ?_
    refine lv_iload hx hb dX9_rest_259 (lv_at hl 4 rfl) ?_
    refine lv_iadd hx hb dX9_rest_261 ?_
    refine zal X w dX9_rest_262 c39 c40 ?_
    refine lv_lload_n hx hb dX9_rest_263 rfl (lv_at hl 3 rfl) ?_
    refine zldc2 X (v := 2) (tb wk_X9_106) dX9_rest_264 ?_
    refine lv_lsub hx hb dX9_rest_267 ?_
    refine lv_lload_n hx hb dX9_rest_268 rfl (lv_at hl 3 rfl) ?_
    obtain ⟨q42, e43, hk⟩ := ok_b hk
    refine zSl X w (n := 3) (As := [.long (M.2.1 r37 (Int32.toNatClampNeg (((8 : Int32) * i7) + i7))), .long (l3 - (2 : Int64)), .long l3]) (rest := []) (c_X9_power l D cy G M (M.2.1 r37 (Int32.toNatClampNeg (((8 : Int32) * i7) + i7))) (l3 - (2 : Int64)) l3 e43) (gzS wm_X9_108 wt_X9_power wn_X9 wc_X9_power) rfl rfl rfl (by decide +kernel) (by decide) rfl rfl hl.1 (Nat.le_of_ble_eq_true rfl) dX9_rest_269 ⟨Nat.zero_le _, Nat.zero_le _⟩ (fun H locs w => ?_)
    refine lv_lstore (lv' := [(9, .long q42), (5, .long ((l5 * (M.2.1 r37 (Int32.toNatClampNeg (((8 : Int32) * i7) + i7)))) - (l5 * (M.2.1 r37 (Int32.toNatClampNeg (((8 : Int32) * i7) + i7)))) / l3 * l3)), (0, .ref r0), (1, .int i1), (3, .long l3), (7, .int i7)]) hx hb dX9_rest_272 hl (by decide) rfl (fun ls hl => ?_)
    refine lv_iload hx hb dX9_rest_274 (lv_at hl 5 rfl) ?_
    refine lv_iconst (v := 1) hx hb dX9_rest_276 (by decide) ?_
    refine lv_iadd hx hb dX9_rest_277 ?_
    refine lv_istore (lv' := [(11, .int (i7 + (1 : Int32))), (9, .long q42), (5, .long ((l5 * (M.2.1 r37 (Int32.toNatClampNeg (((8 : Int32) * i7) + i7)))) - (l5 * (M.2.1 r37 (Int32.toNatClampNeg (((8 : Int32) * i7) + i7)))) / l3 * l3)), (0, .ref r0), (1, .int i1), (3, .long l3), (7, .int i7)]) hx hb dX9_rest_278 hl (by decide) rfl (fun ls hl => ?_)
    refine wl_X9_rest_280 X r0 i1 l3 ((l5 * (M.2.1 r37 (Int32.toNatClampNeg (((8 : Int32) * i7) + i7)))) - (l5 * (M.2.1 r37 (Int32.toNatClampNeg (((8 : Int32) * i7) + i7)))) / l3 * l3) i7 q42 (Qo := _) (fun q61 hk H locs ls w hl => ?_) FU (i7 + (1 : Int32)) M _ _ _ w (lv_sub hl [3, 4, 5, 2, 6, 1, 0] rfl) (ok_b hk)
    refine lv_iinc (v := (i7 + 1)) (lv' := [(7, .int (i7 + 1)), (0, .ref r0), (1, .int i1), (3, .long l3), (5, .long ((l5 * (M.2.1 r37 (Int32.toNatClampNeg (((8 : Int32) * i7) + i7)))) - (l5 * (M.2.1 r37 (Int32.toNatClampNeg (((8 : Int32) * i7) + i7)))) / l3 * l3))]) hx hb dX9_rest_382 hl (k := 4) rfl rfl (by decide) rfl (fun ls hl => ?_)
    refine lv_goto (tgt := 98) hx hb dX9_rest_385 (by decide) ?_
    exact hrec ((l5 * (M.2.1 r37 (Int32.toNatClampNeg (((8 : Int32) * i7) + i7)))) - (l5 * (M.2.1 r37 (Int32.toNatClampNeg (((8 : Int32) * i7) + i7)))) / l3 * l3) (i7 + 1) q61 _ _ _ w (lv_sub hl [1, 2, 3, 4, 0] rfl) hk
set_option maxHeartbeats 4000000 in
set_option maxRecDepth 100000 in
theorem wb_X9_rest_156 {p : Program} {l : Launch} {e : Env} {s : State} {m : MethodId} {args : Array Value} {below : List Frame} {meth : Method} {c : Code} {D : va_G} {cy : Cyy} {A : Nat → Prop} {G : Gg} (X : Cx p m c cX9_rest 15 s args wz_X9_rest RX9 D cy) {Q : State → Prop} (r0 : Nat) (i1 : Int32) (l3 : Int64) (l5 : Int64) (i7 : Int32) (i8 : Int32) (Qo : Mm → Prop)  (hE : ∀ (y : Mm), Qo (y) → ∀ (H : Heap) (locs : List Loc) (ls : Array Slot), Wo s D cy A G y H locs → lv_has ls 15 [(0, .ref r0), (1, .int i1), (3, .long l3), (5, .long l5), (7, .int i7)] → W p l e rm_X9_rest s m args below meth c H locs 0 0 Q (F0 m 224 ls [])) (rec : Int32 → Mm → Option (Mm)) (hrec : ∀ (i9 : Int32) (M : Mm) (H : Heap) (locs : List Loc) (ls : Array Slot), Wo s D cy A G M H locs → lv_has ls 15 [(0, .ref r0), (1, .int i1), (3, .long l3), (5, .long l5), (7, .int i7), (8, .int i8), (9, .int i9)] → OK (rec i9 M) Qo → W p l e rm_X9_rest s m args below meth c H locs 0 0 Q (F0 m 156 ls [])) (i9 : Int32) (M : Mm) (H : Heap) (locs : List Loc) (ls : Array Slot) (w : Wo s D cy A G M H locs) (hl : lv_has ls 15 [(0, .ref r0), (1, .int i1), (3, .long l3), (5, .long l5), (7, .int i7), (8, .int i8), (9, .int i9)]) (hk : OK (bd_X9_rest_156 G r0 i1 l3 l5 i7 i8 rec i9 M) Qo) : W p l e rm_X9_rest s m args below meth c H locs 0 0 Q (F0 m 156 ls []) := by
    have hx := X.1.1
    have hb := X.1.2.1
    unfold bd_X9_rest_156 at hk
    refine lv_iload hx hb dX9_rest_156 (lv_at hl 6 rfl) ?_
    refine lv_iload_n hx hb dX9_rest_158 rfl (lv_at hl 1 rfl) ?_
    refine lv_icmp_ge (tgt := 224) hx hb dX9_rest_159 (by decide) (fun c62 => ?_) (fun c62 => ?_)
    · have hk := ok_p c62 hk
      exact hE M (ok_s hk) _ _ _ w (lv_sub hl [0, 1, 2, 3, 4] rfl)
    · have hk := ok_n c62 hk
      refine lv_aload_n hx hb dX9_rest_162 rfl (lv_at hl 0 rfl) ?_
      obtain ⟨c63, hk⟩ := ok_c hk
      obtain ⟨r64, e65, hk⟩ := ok_b hk
      refine zgr X w 9 11 35 (C := RX9) (T := TX9) (N := 23) rfl ui_X9 (by decide) rfl (tb wf_X9_35) dX9_rest_163 c63 e65 ?_
      refine lv_bipush (v := 8) hx hb dX9_rest_166 (by decide) ?_
      refine lv_iload hx hb dX9_rest_168 (lv_at hl 5 rfl) ?_
      refine lv_imul hx hb dX9_rest_170 ?_
      refine lv_iload hx hb dX9_rest_171 (lv_at hl 6 rfl) ?_
      refine lv_iadd hx hb dX9_rest_173 ?_
      obtain ⟨c66, hk⟩ := ok_c hk
      obtain ⟨c67, hk⟩ := ok_c hk
      refine zal X w dX9_rest_174 c66 c67 ?_
      refine lv_lstore (lv' := [(10, .long (M.2.1 r64 (Int32.toNatClampNeg (((8 : Int32) * i8) + i9)))), (0, .ref r0), (1, .int i1), (3, .long l3), (5, .long l5), (7, .int i7), (8, .int i8), (9, .int i9)]) hx hb dX9_rest_175 hl (by decide) rfl (fun ls hl => ?_)
      refine lv_aload_n hx hb dX9_rest_177 rfl (lv_at hl 1 rfl) ?_
      refine zgr X w 9 11 35 (C := RX9) (T := TX9) (N := 23) rfl ui_X9 (by decide) rfl (tb wf_X9_35) dX9_rest_178 c63 e65 ?_
      refine lv_bipush (v := 8) hx hb dX9_rest_181 (by decide) ?_
      refine lv_iload hx hb dX9_rest_183 (lv_at hl 6 rfl) ?_
      refine lv_imul hx hb dX9_rest_185 ?_
      refine lv_iload hx hb dX9_rest_186 (lv_at hl 7 rfl) ?_
      refine lv_iadd hx hb dX9_rest_188 ?_
      refine lv_aload_n hx hb dX9_rest_189 rfl (lv_at hl 1 rfl) ?_
      refine zgr X w 9 11 35 (C := RX9) (T := TX9) (N := 23) rfl ui_X9 (by decide) rfl (tb wf_X9_35) dX9_rest_190 c63 e65 ?_
      refine lv_bipush (v := 8) hx hb dX9_rest_193 (by decide) ?_
      refine lv_iload hx hb dX9_rest_195 (lv_at hl 5 rfl) ?_
      refine lv_imul hx hb dX9_rest_197 ?_
      refine lv_iload hx hb dX9_rest_198 (lv_at hl 7 rfl) ?_
      refine lv_iadd hx hb dX9_rest_200 ?_
      obtain ⟨c68, hk⟩ := ok_c hk
      refine zal X w dX9_rest_201 c66 c68 ?_
      refine zsl X w dX9_rest_202 c66 c67 (fun H locs w => ?_)
      refine lv_aload_n hx hb dX9_rest_203 rfl (lv_at hl 1 rfl) ?_
      refine zgr X w 9 11 35 (C := RX9) (T := TX9) (N := 23) rfl ui_X9 (by decide) rfl (tb wf_X9_35) dX9_rest_204 c63 e65 ?_
      refine lv_bipush (v := 8) hx hb dX9_rest_207 (by decide) ?_
      refine lv_iload hx hb dX9_rest_209 (lv_at hl 5 rfl) ?_
      refine lv_imul hx hb dX9_rest_211 ?_
      refine lv_iload hx hb dX9_rest_212 (lv_at hl 7 rfl) ?_
      refine lv_iadd hx hb dX9_rest_214 ?_
      refine lv_lload hx hb dX9_rest_215 (lv_at hl 0 rfl) ?_
      refine zsl X w dX9_rest_217 c66 c68 (fun H locs w => ?_)
      refine lv_iinc (v := (i9 + 1)) (lv' := [(9, .int (i9 + 1)), (10, .long (M.2.1 r64 (Int32.toNatClampNeg (((8 : Int32) * i8) + i9)))), (0, .ref r0), (1, .int i1), (3, .long l3), (5, .long l5), (7, .int i7), (8, .int i8)]) hx hb dX9_rest_218 hl (k := 7) rfl rfl (by decide) rfl (fun ls hl => ?_)
      refine lv_goto (tgt := 156) hx hb dX9_rest_221 (by decide) ?_
      exact hrec (i9 + 1) (mwJ (mwJ M r64 (Int32.toNatClampNeg (((8 : Int32) * i8) + i9)) (M.2.1 r64 (Int32.toNatClampNeg (((8 : Int32) * i7) + i9)))) r64 (Int32.toNatClampNeg (((8 : Int32) * i7) + i9)) (M.2.1 r64 (Int32.toNatClampNeg (((8 : Int32) * i8) + i9)))) _ _ _ w (lv_sub hl [2, 3, 4, 5, 6, 7, 0] rfl) hk
theorem wl_X9_rest_156 {p : Program} {l : Launch} {e : Env} {s : State} {m : MethodId} {args : Array Value} {below : List Frame} {meth : Method} {c : Code} {D : va_G} {cy : Cyy} {A : Nat → Prop} {G : Gg} (X : Cx p m c cX9_rest 15 s args wz_X9_rest RX9 D cy) {Q : State → Prop} (r0 : Nat) (i1 : Int32) (l3 : Int64) (l5 : Int64) (i7 : Int32) (i8 : Int32) (Qo : Mm → Prop)  (hE : ∀ (y : Mm), Qo (y) → ∀ (H : Heap) (locs : List Loc) (ls : Array Slot), Wo s D cy A G y H locs → lv_has ls 15 [(0, .ref r0), (1, .int i1), (3, .long l3), (5, .long l5), (7, .int i7)] → W p l e rm_X9_rest s m args below meth c H locs 0 0 Q (F0 m 224 ls [])) : ∀ (n : Nat) (i9 : Int32) (M : Mm) (H : Heap) (locs : List Loc) (ls : Array Slot), Wo s D cy A G M H locs → lv_has ls 15 [(0, .ref r0), (1, .int i1), (3, .long l3), (5, .long l5), (7, .int i7), (8, .int i8), (9, .int i9)] → OK (lp_X9_rest_156 G r0 i1 l3 l5 i7 i8 n i9 M) Qo → W p l e rm_X9_rest s m args below meth c H locs 0 0 Q (F0 m 156 ls []) := by
  intro n
  induction n with
  | zero => intro i9 M H locs ls w hl hk; exact ok_0 hk
  | succ n ih => intro i9 M H locs ls w hl hk; exact wb_X9_rest_156 X r0 i1 l3 l5 i7 i8 Qo hE  (lp_X9_rest_156 G r0 i1 l3 l5 i7 i8 n) ih i9 M H locs ls w hl hk
set_option maxHeartbeats 4000000 in
set_option maxRecDepth 100000 in
theorem wj_X9_rest_138 {p : Program} {l : Launch} {e : Env} {s : State} {m : MethodId} {args : Array Value} {below : List Frame} {meth : Method} {c : Code} {D : va_G} {cy : Cyy} {A : Nat → Prop} {G : Gg} (X : Cx p m c cX9_rest 15 s args wz_X9_rest RX9 D cy) (r0 : Nat) (i1 : Int32) (l3 : Int64) (Qo : (Int64 × Mm) ⊕ (Int64 × Mm) → Prop) (hr : meth.sig.returnType = (some .long)) (hlk : meth.locks = false) {x0 : Int64 × Mm} (hR : ∀ x, Qo (.inl x) → x = x0) (hE : ∀ (y : Int64 × Mm), Qo (.inr y) → ∀ (H : Heap) (locs : List Loc) (ls : Array Slot), Wo s D cy A G y.2 H locs → lv_has ls 15 [(3, .long l3), (5, .long y.1)] → W p l e rm_X9_rest s m args below meth c H locs 0 0 (MQ below (QL D cy G A x0.1 x0.2) args s 0 0 A) (F0 m 388 ls [])) (rec : Int64 → Int32 → Mm → Option ((Int64 × Mm) ⊕ (Int64 × Mm))) (hrec : ∀ (l5 : Int64) (i7 : Int32) (M : Mm) (H : Heap) (locs : List Loc) (ls : Array Slot), Wo s D cy A G M H locs → lv_has ls 15 [(0, .ref r0), (1, .int i1), (3, .long l3), (5, .long l5), (7, .int i7)] → OK (rec l5 i7 M) Qo → W p l e rm_X9_rest s m args below meth c H locs 0 0 (MQ below (QL D cy G A x0.1 x0.2) args s 0 0 A) (F0 m 98 ls [])) (l5 : Int64) (i7 : Int32) (i8 : Int32)  (M : Mm) (H : Heap) (locs : List Loc) (ls : Array Slot) (w : Wo s D cy A G M H locs) (hl : lv_has ls 15 [(0, .ref r0), (1, .int i1), (3, .long l3), (5, .long l5), (7, .int i7), (8, .int i8)]) (hk : OK (jn_X9_rest_138 G M rec r0 i1 l3 l5 i7 i8) Qo) : W p l e rm_X9_rest s m args below meth c H locs 0 0 (MQ below (QL D cy G A x0.1 x0.2) args s 0 0 A) (F0 m 138 ls []) := by
    have hx := X.1.1
    have hb := X.1.2.1
    unfold jn_X9_rest_138 at hk
    refine lv_iload hx hb dX9_rest_138 (lv_at hl 5 rfl) ?_
    refine lv_iload_n hx hb dX9_rest_140 rfl (lv_at hl 1 rfl) ?_
    refine lv_icmp_ne (tgt := 146) hx hb dX9_rest_141 (by decide) (fun c34 => ?_) (fun c34 => ?_)
    · have hk := ok_n c34 hk
      refine lv_iload hx hb dX9_rest_146 (lv_at hl 5 rfl) ?_
      refine lv_iload hx hb dX9_rest_148 (lv_at hl 4 rfl) ?_
      refine lv_icmp_le (tgt := 230) hx hb dX9_rest_150 (by decide) (fun c35 => ?_) (fun c35 => ?_)
      · have hk := ok_p c35 hk
        exact wj_X9_rest_230 X r0 i1 l3 Qo hr hlk hR hE rec hrec l5 i7 M _ _ _ w (lv_sub hl [0, 1, 2, 3, 4] rfl) hk
      · have hk := ok_n c35 hk
        refine lv_iconst (v := 0) hx hb dX9_rest_153 (by decide) ?_
        refine lv_istore (lv' := [(9, .int (0 : Int32)), (0, .ref r0), (1, .int i1), (3, .long l3), (5, .long l5), (7, .int i7), (8, .int i8)]) hx hb dX9_rest_154 hl (by decide) rfl (fun ls hl => ?_)
        refine wl_X9_rest_156 X r0 i1 l3 l5 i7 i8 (Qo := _) (fun q69 hk H locs ls w hl => ?_) FU (0 : Int32) M _ _ _ w (lv_sub hl [1, 2, 3, 4, 5, 6, 0] rfl) (ok_b hk)
        refine lv_lload_n hx hb dX9_rest_224 rfl (lv_at hl 2 rfl) ?_
        refine lv_lload hx hb dX9_rest_225 (lv_at hl 3 rfl) ?_
        refine lv_lsub hx hb dX9_rest_227 ?_
        refine lv_lstore (lv' := [(5, .long (l3 - l5)), (0, .ref r0), (1, .int i1), (3, .long l3), (7, .int i7)]) hx hb dX9_rest_228 hl (by decide) rfl (fun ls hl => ?_)
        exact wj_X9_rest_230 X r0 i1 l3 Qo hr hlk hR hE rec hrec (l3 - l5) i7 q69 _ _ _ w (lv_sub hl [1, 2, 3, 0, 4] rfl) hk
    · have hk := ok_p c34 hk
      refine lv_lconst (v := 0) hx hb dX9_rest_144 (by decide) ?_
      have hk := hR _ (ok_s hk)
      exact zrl X hr hlk w dX9_rest_145 (pr1 hk) (pr2 hk)
set_option maxHeartbeats 4000000 in
set_option maxRecDepth 100000 in
theorem wb_X9_rest_98 {p : Program} {l : Launch} {e : Env} {s : State} {m : MethodId} {args : Array Value} {below : List Frame} {meth : Method} {c : Code} {D : va_G} {cy : Cyy} {A : Nat → Prop} {G : Gg} (X : Cx p m c cX9_rest 15 s args wz_X9_rest RX9 D cy) (r0 : Nat) (i1 : Int32) (l3 : Int64) (Qo : (Int64 × Mm) ⊕ (Int64 × Mm) → Prop) (hr : meth.sig.returnType = (some .long)) (hlk : meth.locks = false) {x0 : Int64 × Mm} (hR : ∀ x, Qo (.inl x) → x = x0) (hE : ∀ (y : Int64 × Mm), Qo (.inr y) → ∀ (H : Heap) (locs : List Loc) (ls : Array Slot), Wo s D cy A G y.2 H locs → lv_has ls 15 [(3, .long l3), (5, .long y.1)] → W p l e rm_X9_rest s m args below meth c H locs 0 0 (MQ below (QL D cy G A x0.1 x0.2) args s 0 0 A) (F0 m 388 ls [])) (rec : Int64 → Int32 → Mm → Option ((Int64 × Mm) ⊕ (Int64 × Mm))) (hrec : ∀ (l5 : Int64) (i7 : Int32) (M : Mm) (H : Heap) (locs : List Loc) (ls : Array Slot), Wo s D cy A G M H locs → lv_has ls 15 [(0, .ref r0), (1, .int i1), (3, .long l3), (5, .long l5), (7, .int i7)] → OK (rec l5 i7 M) Qo → W p l e rm_X9_rest s m args below meth c H locs 0 0 (MQ below (QL D cy G A x0.1 x0.2) args s 0 0 A) (F0 m 98 ls [])) (l5 : Int64) (i7 : Int32) (M : Mm) (H : Heap) (locs : List Loc) (ls : Array Slot) (w : Wo s D cy A G M H locs) (hl : lv_has ls 15 [(0, .ref r0), (1, .int i1), (3, .long l3), (5, .long l5), (7, .int i7)]) (hk : OK (bd_X9_rest_98 G r0 i1 l3 rec l5 i7 M) Qo) : W p l e rm_X9_rest s m args below meth c H locs 0 0 (MQ below (QL D cy G A x0.1 x0.2) args s 0 0 A) (F0 m 98 ls []) := by
    have hx := X.1.1
    have hb := X.1.2.1
    unfold bd_X9_rest_98 at hk
    refine lv_iload hx hb dX9_rest_98 (lv_at hl 4 rfl) ?_
    refine lv_iload_n hx hb dX9_rest_100 rfl (lv_at hl 1 rfl) ?_
    refine lv_icmp_ge (tgt := 388) hx hb dX9_rest_101 (by decide) (fun c25 => ?_) (fun c25 => ?_)
    · have hk := ok_p c25 hk
      exact hE (l5, M) (ok_s hk) _ _ _ w (lv_sub hl [2, 3] rfl)
    · have hk := ok_n c25 hk
      refine lv_iload hx hb dX9_rest_104 (lv_at hl 4 rfl) ?_
      refine lv_istore (lv' := [(8, .int i7), (0, .ref r0), (1, .int i1), (3, .long l3), (5, .long l5), (7, .int i7)]) hx hb dX9_rest_106 hl (by decide) rfl (fun ls hl => ?_)
      refine wl_X9_rest_108 X M r0 i1 l3 l5 i7 (Qo := _) (fun q33 hk H locs ls w hl => ?_) FU i7 _ _ _ w (lv_sub hl [1, 2, 3, 4, 5, 0] rfl) (ok_b hk)
      exact wj_X9_rest_138 X r0 i1 l3 Qo hr hlk hR hE rec hrec l5 i7 q33 M _ _ _ w (lv_sub hl [0, 1, 2, 3, 4, 5] rfl) hk
theorem wl_X9_rest_98 {p : Program} {l : Launch} {e : Env} {s : State} {m : MethodId} {args : Array Value} {below : List Frame} {meth : Method} {c : Code} {D : va_G} {cy : Cyy} {A : Nat → Prop} {G : Gg} (X : Cx p m c cX9_rest 15 s args wz_X9_rest RX9 D cy) (r0 : Nat) (i1 : Int32) (l3 : Int64) (Qo : (Int64 × Mm) ⊕ (Int64 × Mm) → Prop) (hr : meth.sig.returnType = (some .long)) (hlk : meth.locks = false) {x0 : Int64 × Mm} (hR : ∀ x, Qo (.inl x) → x = x0) (hE : ∀ (y : Int64 × Mm), Qo (.inr y) → ∀ (H : Heap) (locs : List Loc) (ls : Array Slot), Wo s D cy A G y.2 H locs → lv_has ls 15 [(3, .long l3), (5, .long y.1)] → W p l e rm_X9_rest s m args below meth c H locs 0 0 (MQ below (QL D cy G A x0.1 x0.2) args s 0 0 A) (F0 m 388 ls [])) : ∀ (n : Nat) (l5 : Int64) (i7 : Int32) (M : Mm) (H : Heap) (locs : List Loc) (ls : Array Slot), Wo s D cy A G M H locs → lv_has ls 15 [(0, .ref r0), (1, .int i1), (3, .long l3), (5, .long l5), (7, .int i7)] → OK (lp_X9_rest_98 G r0 i1 l3 n l5 i7 M) Qo → W p l e rm_X9_rest s m args below meth c H locs 0 0 (MQ below (QL D cy G A x0.1 x0.2) args s 0 0 A) (F0 m 98 ls []) := by
  intro n
  induction n with
  | zero => intro l5 i7 M H locs ls w hl hk; exact ok_0 hk
  | succ n ih => intro l5 i7 M H locs ls w hl hk; exact wb_X9_rest_98 X r0 i1 l3 Qo hr hlk hR hE  (lp_X9_rest_98 G r0 i1 l3 n) ih l5 i7 M H locs ls w hl hk
set_option maxHeartbeats 4000000 in
set_option maxRecDepth 100000 in
theorem c_X9_rest (l : Launch) (D : va_G) (cy : Cyy) (G : Gg) (M : Mm) (r0 : Nat) (i1 : Int32) (i2 : Int32) (l3 : Int64) {q : Int64 × Mm} (hm : f_X9_rest G M r0 i1 i2 l3 = some q) : CL l yX9_rest wz_X9_rest rm_X9_rest D cy G M [.ref r0, .int i1, .int i2, .long l3] q.1 q.2 := by
  refine Met_of (Qf := fun A => QL D cy G A q.1 q.2) (cc := cX9_rest) (nL := 15) (ret := (some .long)) (own := RX9) (lv := [(0, .ref r0), (1, .int i1), (2, .int i2), (3, .long l3)]) (by decide) rfl rfl (Nat.le_of_ble_eq_true rfl) rfl ?_
  intro p e s m args below meth c A ls X hr hlk w hl
  have hx := X.1.1
  have hb := X.1.2.1
  obtain ⟨Qo, hR, hk⟩ : ∃ Qo : Int64 × Mm → Prop, (∀ x, Qo x → x = q) ∧ OK (f_X9_rest G M r0 i1 i2 l3) Qo := ⟨fun x => x = q, fun _ h => h, q, hm, rfl⟩
  unfold f_X9_rest at hk
  refine lv_iconst (v := 0) hx hb dX9_rest_0 (by decide) ?_
  refine lv_istore (lv' := [(5, .int (0 : Int32)), (0, .ref r0), (1, .int i1), (2, .int i2), (3, .long l3)]) hx hb dX9_rest_1 hl (by decide) rfl (fun ls hl => ?_)
  refine wl_X9_rest_3 X r0 i1 i2 l3 (Qo := _) (fun q24 hk H locs ls w hl => ?_) FU (0 : Int32) M _ _ _ w (lv_sub hl [1, 2, 3, 4, 0] rfl) (ok_b hk)
  refine lv_lconst (v := 1) hx hb dX9_rest_92 (by decide) ?_
  refine lv_lstore (lv' := [(5, .long (1 : Int64)), (0, .ref r0), (1, .int i1), (3, .long l3)]) hx hb dX9_rest_93 hl (by decide) rfl (fun ls hl => ?_)
  refine lv_iconst (v := 0) hx hb dX9_rest_95 (by decide) ?_
  refine lv_istore (lv' := [(7, .int (0 : Int32)), (5, .long (1 : Int64)), (0, .ref r0), (1, .int i1), (3, .long l3)]) hx hb dX9_rest_96 hl (by decide) rfl (fun ls hl => ?_)
  refine wl_X9_rest_98 X r0 i1 l3 (Qo := _) hr hlk (fun x h => hR x (ok_s (show OK (some x) Qo from h))) (fun y71 hk H locs ls w hl => ?_) FU (1 : Int64) (0 : Int32) q24 _ _ _ w (lv_sub hl [2, 3, 4, 1, 0] rfl) (ok_b hk)
  have hk := ok_r hk
  refine lv_lload hx hb dX9_rest_388 (lv_at hl 1 rfl) ?_
  refine lv_lload_n hx hb dX9_rest_390 rfl (lv_at hl 0 rfl) ?_
  obtain ⟨c73, hk⟩ := ok_c hk
  refine lv_lrem hx hb dX9_rest_391 c73 ?_
  have hk := hR _ (ok_s hk)
  exact zrl X hr hlk w dX9_rest_392 (pr1 hk) (pr2 hk)
abbrev rm_X9_determinant : Room := { frames := 2, cells := 0, slots := 0, locals := 65 }
set_option maxHeartbeats 4000000 in
set_option maxRecDepth 100000 in
theorem c_X9_determinant (l : Launch) (D : va_G) (cy : Cyy) (G : Gg) (M : Mm) (r0 : Nat) (i1 : Int32) (i2 : Int32) {q : Int64 × Mm} (hm : f_X9_determinant G M r0 i1 i2 = some q) : CL l yX9_determinant wz_X9_determinant rm_X9_determinant D cy G M [.ref r0, .int i1, .int i2] q.1 q.2 := by
  refine Met_of (Qf := fun A => QL D cy G A q.1 q.2) (cc := cX9_determinant) (nL := 11) (ret := (some .long)) (own := RX9) (lv := [(0, .ref r0), (1, .int i1), (2, .int i2)]) (by decide) rfl rfl (Nat.le_of_ble_eq_true rfl) rfl ?_
  intro p e s m args below meth c A ls X hr hlk w hl
  have hx := X.1.1
  have hb := X.1.2.1
  obtain ⟨Qo, hR, hk⟩ : ∃ Qo : Int64 × Mm → Prop, (∀ x, Qo x → x = q) ∧ OK (f_X9_determinant G M r0 i1 i2) Qo := ⟨fun x => x = q, fun _ h => h, q, hm, rfl⟩
  unfold f_X9_determinant at hk
  refine lv_aload_n hx hb dX9_determinant_0 rfl (lv_at hl 0 rfl) ?_
  refine lv_iload_n hx hb dX9_determinant_1 rfl (lv_at hl 1 rfl) ?_
  refine lv_iload_n hx hb dX9_determinant_2 rfl (lv_at hl 2 rfl) ?_
  refine zldc2 X (v := 998244353) (tb wk_X9_112) dX9_determinant_3 ?_
  obtain ⟨c3, hk⟩ := ok_c hk
  obtain ⟨q1, e2, hk⟩ := ok_b hk
  refine zVl X w (n := 3) (As := [.int i1, .int i2, .long (998244353 : Int64)]) (rest := []) (ci := 9) (C := RX9) (T := TX9) (N := 23) (c_X9_rest l D cy G M r0 i1 i2 (998244353 : Int64) e2) (gzV wm_X9_114 wi_X9_rest ws_X9_rest wn_X9 wc_X9_rest) rfl rfl rfl (by decide +kernel) (by decide) rfl c3 rfl rfl hl.1 (Nat.le_of_ble_eq_true rfl) dX9_determinant_6 ⟨Nat.zero_le _, Nat.zero_le _⟩ (fun H locs w => ?_)
  refine lv_lstore_n (lv' := [(3, .long q1.1), (0, .ref r0), (1, .int i1), (2, .int i2)]) hx hb dX9_determinant_9 rfl hl (by decide) rfl (fun ls hl => ?_)
  refine lv_aload_n hx hb dX9_determinant_10 rfl (lv_at hl 1 rfl) ?_
  refine lv_iload_n hx hb dX9_determinant_11 rfl (lv_at hl 2 rfl) ?_
  refine lv_iload_n hx hb dX9_determinant_12 rfl (lv_at hl 3 rfl) ?_
  refine zldc2 X (v := 1000000007) (tb wk_X9_118) dX9_determinant_13 ?_
  obtain ⟨q4, e5, hk⟩ := ok_b hk
  refine zVl X w (n := 3) (As := [.int i1, .int i2, .long (1000000007 : Int64)]) (rest := []) (ci := 9) (C := RX9) (T := TX9) (N := 23) (c_X9_rest l D cy G q1.2 r0 i1 i2 (1000000007 : Int64) e5) (gzV wm_X9_114 wi_X9_rest ws_X9_rest wn_X9 wc_X9_rest) rfl rfl rfl (by decide +kernel) (by decide) rfl c3 rfl rfl hl.1 (Nat.le_of_ble_eq_true rfl) dX9_determinant_16 ⟨Nat.zero_le _, Nat.zero_le _⟩ (fun H locs w => ?_)
  refine lv_lstore (lv' := [(5, .long q4.1), (3, .long q1.1), (0, .ref r0), (1, .int i1), (2, .int i2)]) hx hb dX9_determinant_19 hl (by decide) rfl (fun ls hl => ?_)
  refine lv_lload hx hb dX9_determinant_21 (lv_at hl 0 rfl) ?_
  refine lv_lload_n hx hb dX9_determinant_23 rfl (lv_at hl 1 rfl) ?_
  refine zldc2 X (v := 1000000007) (tb wk_X9_118) dX9_determinant_24 ?_
  obtain ⟨c6, hk⟩ := ok_c hk
  refine lv_lrem hx hb dX9_determinant_27 c6 ?_
  refine lv_lsub hx hb dX9_determinant_28 ?_
  refine zldc2 X (v := 1000000007) (tb wk_X9_118) dX9_determinant_29 ?_
  refine lv_ladd hx hb dX9_determinant_32 ?_
  refine zldc2 X (v := 1000000007) (tb wk_X9_118) dX9_determinant_33 ?_
  refine lv_lrem hx hb dX9_determinant_36 c6 ?_
  refine zldc2 X (v := 998244353) (tb wk_X9_112) dX9_determinant_37 ?_
  refine zldc2 X (v := 1000000005) (tb wk_X9_120) dX9_determinant_40 ?_
  refine zldc2 X (v := 1000000007) (tb wk_X9_118) dX9_determinant_43 ?_
  obtain ⟨q7, e8, hk⟩ := ok_b hk
  refine zSl X w (n := 3) (As := [.long (998244353 : Int64), .long (1000000005 : Int64), .long (1000000007 : Int64)]) (rest := [.long (((q4.1 - (q1.1 - q1.1 / (1000000007 : Int64) * (1000000007 : Int64))) + (1000000007 : Int64)) - ((q4.1 - (q1.1 - q1.1 / (1000000007 : Int64) * (1000000007 : Int64))) + (1000000007 : Int64)) / (1000000007 : Int64) * (1000000007 : Int64))]) (c_X9_power l D cy G q4.2 (998244353 : Int64) (1000000005 : Int64) (1000000007 : Int64) e8) (gzS wm_X9_108 wt_X9_power wn_X9 wc_X9_power) rfl rfl rfl (by decide +kernel) (by decide) rfl rfl hl.1 (Nat.le_of_ble_eq_true rfl) dX9_determinant_46 ⟨Nat.zero_le _, Nat.zero_le _⟩ (fun H locs w => ?_)
  refine lv_lmul hx hb dX9_determinant_49 ?_
  refine zldc2 X (v := 1000000007) (tb wk_X9_118) dX9_determinant_50 ?_
  refine lv_lrem hx hb dX9_determinant_53 c6 ?_
  refine lv_lstore (lv' := [(7, .long (((((q4.1 - (q1.1 - q1.1 / (1000000007 : Int64) * (1000000007 : Int64))) + (1000000007 : Int64)) - ((q4.1 - (q1.1 - q1.1 / (1000000007 : Int64) * (1000000007 : Int64))) + (1000000007 : Int64)) / (1000000007 : Int64) * (1000000007 : Int64)) * q7) - ((((q4.1 - (q1.1 - q1.1 / (1000000007 : Int64) * (1000000007 : Int64))) + (1000000007 : Int64)) - ((q4.1 - (q1.1 - q1.1 / (1000000007 : Int64) * (1000000007 : Int64))) + (1000000007 : Int64)) / (1000000007 : Int64) * (1000000007 : Int64)) * q7) / (1000000007 : Int64) * (1000000007 : Int64))), (5, .long q4.1), (3, .long q1.1), (0, .ref r0), (1, .int i1), (2, .int i2)]) hx hb dX9_determinant_54 hl (by decide) rfl (fun ls hl => ?_)
  refine lv_lload_n hx hb dX9_determinant_56 rfl (lv_at hl 2 rfl) ?_
  refine zldc2 X (v := 998244353) (tb wk_X9_112) dX9_determinant_57 ?_
  refine lv_lload hx hb dX9_determinant_60 (lv_at hl 0 rfl) ?_
  refine lv_lmul hx hb dX9_determinant_62 ?_
  refine lv_ladd hx hb dX9_determinant_63 ?_
  refine lv_lstore (lv' := [(9, .long (q1.1 + ((998244353 : Int64) * (((((q4.1 - (q1.1 - q1.1 / (1000000007 : Int64) * (1000000007 : Int64))) + (1000000007 : Int64)) - ((q4.1 - (q1.1 - q1.1 / (1000000007 : Int64) * (1000000007 : Int64))) + (1000000007 : Int64)) / (1000000007 : Int64) * (1000000007 : Int64)) * q7) - ((((q4.1 - (q1.1 - q1.1 / (1000000007 : Int64) * (1000000007 : Int64))) + (1000000007 : Int64)) - ((q4.1 - (q1.1 - q1.1 / (1000000007 : Int64) * (1000000007 : Int64))) + (1000000007 : Int64)) / (1000000007 : Int64) * (1000000007 : Int64)) * q7) / (1000000007 : Int64) * (1000000007 : Int64))))), (7, .long (((((q4.1 - (q1.1 - q1.1 / (1000000007 : Int64) * (1000000007 : Int64))) + (1000000007 : Int64)) - ((q4.1 - (q1.1 - q1.1 / (1000000007 : Int64) * (1000000007 : Int64))) + (1000000007 : Int64)) / (1000000007 : Int64) * (1000000007 : Int64)) * q7) - ((((q4.1 - (q1.1 - q1.1 / (1000000007 : Int64) * (1000000007 : Int64))) + (1000000007 : Int64)) - ((q4.1 - (q1.1 - q1.1 / (1000000007 : Int64) * (1000000007 : Int64))) + (1000000007 : Int64)) / (1000000007 : Int64) * (1000000007 : Int64)) * q7) / (1000000007 : Int64) * (1000000007 : Int64))), (5, .long q4.1), (3, .long q1.1), (0, .ref r0), (1, .int i1), (2, .int i2)]) hx hb dX9_determinant_64 hl (by decide) rfl (fun ls hl => ?_)
  refine lv_lload hx hb dX9_determinant_66 (lv_at hl 0 rfl) ?_
  refine zldc2 X (v := 499122179993855235) (tb wk_X9_122) dX9_determinant_68 ?_
  refine W.lcmp hx hb dX9_determinant_71 ?_
  refine lv_if_le (tgt := 84) hx hb dX9_determinant_72 (by decide) (fun c9 => ?_) (fun c9 => ?_)
  · have hk := ok_p c9 hk
    refine lv_lload hx hb dX9_determinant_84 (lv_at hl 0 rfl) ?_
    have hk := hR _ (ok_s hk)
    exact zrl X hr hlk w dX9_determinant_86 (pr1 hk) (pr2 hk)
  · have hk := ok_n c9 hk
    refine lv_lload hx hb dX9_determinant_75 (lv_at hl 0 rfl) ?_
    refine zldc2 X (v := 998244359987710471) (tb wk_X9_124) dX9_determinant_77 ?_
    refine lv_lsub hx hb dX9_determinant_80 ?_
    refine lv_goto (tgt := 86) hx hb dX9_determinant_81 (by decide) ?_
    have hk := hR _ (ok_s hk)
    exact zrl X hr hlk w dX9_determinant_86 (pr1 hk) (pr2 hk)
abbrev rm_X9_list : Room := { frames := 0, cells := 0, slots := 0, locals := 0 }
set_option maxHeartbeats 4000000 in
set_option maxRecDepth 100000 in
theorem wb_X9_list_4 {p : Program} {l : Launch} {e : Env} {s : State} {m : MethodId} {args : Array Value} {below : List Frame} {meth : Method} {c : Code} {D : va_G} {cy : Cyy} {A : Nat → Prop} {G : Gg} (X : Cx p m c cX9_list 4 s args wz_X9_list RX9 D cy) {Q : State → Prop} (r0 : Nat) (i1 : Int32) (Qo : Int32 × Mm → Prop)  (hE : ∀ (y : Int32 × Mm), Qo (y) → ∀ (H : Heap) (locs : List Loc) (ls : Array Slot), Wo s D cy A G y.2 H locs → lv_has ls 4 [(2, .int y.1)] → W p l e rm_X9_list s m args below meth c H locs 0 0 Q (F0 m 37 ls [])) (rec : Int32 → Int32 → Mm → Option (Int32 × Mm)) (hrec : ∀ (i2 : Int32) (i3 : Int32) (M : Mm) (H : Heap) (locs : List Loc) (ls : Array Slot), Wo s D cy A G M H locs → lv_has ls 4 [(0, .ref r0), (1, .int i1), (2, .int i2), (3, .int i3)] → OK (rec i2 i3 M) Qo → W p l e rm_X9_list s m args below meth c H locs 0 0 Q (F0 m 4 ls [])) (i2 : Int32) (i3 : Int32) (M : Mm) (H : Heap) (locs : List Loc) (ls : Array Slot) (w : Wo s D cy A G M H locs) (hl : lv_has ls 4 [(0, .ref r0), (1, .int i1), (2, .int i2), (3, .int i3)]) (hk : OK (bd_X9_list_4 G r0 i1 rec i2 i3 M) Qo) : W p l e rm_X9_list s m args below meth c H locs 0 0 Q (F0 m 4 ls []) := by
    have hx := X.1.1
    have hb := X.1.2.1
    unfold bd_X9_list_4 at hk
    refine lv_iload_n hx hb dX9_list_4 rfl (lv_at hl 3 rfl) ?_
    refine lv_bipush (v := 8) hx hb dX9_list_5 (by decide) ?_
    refine lv_icmp_ge (tgt := 37) hx hb dX9_list_7 (by decide) (fun c1 => ?_) (fun c1 => ?_)
    · have hk := ok_p c1 hk
      exact hE (i2, M) (ok_s hk) _ _ _ w (lv_sub hl [2] rfl)
    · have hk := ok_n c1 hk
      refine lv_iload_n hx hb dX9_list_10 rfl (lv_at hl 1 rfl) ?_
      refine lv_iload_n hx hb dX9_list_11 rfl (lv_at hl 3 rfl) ?_
      refine lv_ishr hx hb dX9_list_12 ?_
      refine lv_iconst (v := 1) hx hb dX9_list_13 (by decide) ?_
      refine lv_iand hx hb dX9_list_14 ?_
      refine lv_if_ne (tgt := 21) hx hb dX9_list_15 (by decide) (fun c2 => ?_) (fun c2 => ?_)
      · have hk := ok_n c2 hk
        refine lv_aload_n hx hb dX9_list_21 rfl (lv_at hl 0 rfl) ?_
        obtain ⟨c3, hk⟩ := ok_c hk
        obtain ⟨r4, e5, hk⟩ := ok_b hk
        refine zgr X w 9 13 41 (C := RX9) (T := TX9) (N := 23) rfl ui_X9 (by decide) rfl (tb wf_X9_41) dX9_list_22 c3 e5 ?_
        refine lv_iload_n hx hb dX9_list_25 rfl (lv_at hl 2 rfl) ?_
        refine lv_iload_n hx hb dX9_list_26 rfl (lv_at hl 3 rfl) ?_
        obtain ⟨c6, hk⟩ := ok_c hk
        obtain ⟨c7, hk⟩ := ok_c hk
        refine zsi X w dX9_list_27 c6 c7 (fun H locs w => ?_)
        refine lv_iinc (v := (i2 + 1)) (lv' := [(2, .int (i2 + 1)), (0, .ref r0), (1, .int i1), (3, .int i3)]) hx hb dX9_list_28 hl (k := 2) rfl rfl (by decide) rfl (fun ls hl => ?_)
        refine lv_iinc (v := (i3 + 1)) (lv' := [(3, .int (i3 + 1)), (2, .int (i2 + 1)), (0, .ref r0), (1, .int i1)]) hx hb dX9_list_31 hl (k := 3) rfl rfl (by decide) rfl (fun ls hl => ?_)
        refine lv_goto (tgt := 4) hx hb dX9_list_34 (by decide) ?_
        exact hrec (i2 + 1) (i3 + 1) (mwI M r4 (Int32.toNatClampNeg i2) i3) _ _ _ w (lv_sub hl [2, 3, 1, 0] rfl) hk
      · have hk := ok_p c2 hk
        refine lv_goto (tgt := 31) hx hb dX9_list_18 (by decide) ?_
        refine lv_iinc (v := (i3 + 1)) (lv' := [(3, .int (i3 + 1)), (0, .ref r0), (1, .int i1), (2, .int i2)]) hx hb dX9_list_31 hl (k := 3) rfl rfl (by decide) rfl (fun ls hl => ?_)
        refine lv_goto (tgt := 4) hx hb dX9_list_34 (by decide) ?_
        exact hrec i2 (i3 + 1) M _ _ _ w (lv_sub hl [1, 2, 3, 0] rfl) hk
theorem wl_X9_list_4 {p : Program} {l : Launch} {e : Env} {s : State} {m : MethodId} {args : Array Value} {below : List Frame} {meth : Method} {c : Code} {D : va_G} {cy : Cyy} {A : Nat → Prop} {G : Gg} (X : Cx p m c cX9_list 4 s args wz_X9_list RX9 D cy) {Q : State → Prop} (r0 : Nat) (i1 : Int32) (Qo : Int32 × Mm → Prop)  (hE : ∀ (y : Int32 × Mm), Qo (y) → ∀ (H : Heap) (locs : List Loc) (ls : Array Slot), Wo s D cy A G y.2 H locs → lv_has ls 4 [(2, .int y.1)] → W p l e rm_X9_list s m args below meth c H locs 0 0 Q (F0 m 37 ls [])) : ∀ (n : Nat) (i2 : Int32) (i3 : Int32) (M : Mm) (H : Heap) (locs : List Loc) (ls : Array Slot), Wo s D cy A G M H locs → lv_has ls 4 [(0, .ref r0), (1, .int i1), (2, .int i2), (3, .int i3)] → OK (lp_X9_list_4 G r0 i1 n i2 i3 M) Qo → W p l e rm_X9_list s m args below meth c H locs 0 0 Q (F0 m 4 ls []) := by
  intro n
  induction n with
  | zero => intro i2 i3 M H locs ls w hl hk; exact ok_0 hk
  | succ n ih => intro i2 i3 M H locs ls w hl hk; exact wb_X9_list_4 X r0 i1 Qo hE  (lp_X9_list_4 G r0 i1 n) ih i2 i3 M H locs ls w hl hk
set_option maxHeartbeats 4000000 in
set_option maxRecDepth 100000 in
theorem c_X9_list (l : Launch) (D : va_G) (cy : Cyy) (G : Gg) (M : Mm) (r0 : Nat) (i1 : Int32) {q : Int32 × Mm} (hm : f_X9_list G M r0 i1 = some q) : CI l yX9_list wz_X9_list rm_X9_list D cy G M [.ref r0, .int i1] q.1 q.2 := by
  refine Met_of (Qf := fun A => QI D cy G A q.1 q.2) (cc := cX9_list) (nL := 4) (ret := (some .int)) (own := RX9) (lv := [(0, .ref r0), (1, .int i1)]) (by decide) rfl rfl (Nat.le_of_ble_eq_true rfl) rfl ?_
  intro p e s m args below meth c A ls X hr hlk w hl
  have hx := X.1.1
  have hb := X.1.2.1
  obtain ⟨Qo, hR, hk⟩ : ∃ Qo : Int32 × Mm → Prop, (∀ x, Qo x → x = q) ∧ OK (f_X9_list G M r0 i1) Qo := ⟨fun x => x = q, fun _ h => h, q, hm, rfl⟩
  unfold f_X9_list at hk
  refine lv_iconst (v := 0) hx hb dX9_list_0 (by decide) ?_
  refine lv_istore_n (lv' := [(2, .int (0 : Int32)), (0, .ref r0), (1, .int i1)]) hx hb dX9_list_1 rfl hl (by decide) rfl (fun ls hl => ?_)
  refine lv_iconst (v := 0) hx hb dX9_list_2 (by decide) ?_
  refine lv_istore_n (lv' := [(3, .int (0 : Int32)), (2, .int (0 : Int32)), (0, .ref r0), (1, .int i1)]) hx hb dX9_list_3 rfl hl (by decide) rfl (fun ls hl => ?_)
  refine wl_X9_list_4 X r0 i1 (Qo := _) (fun q8 hk H locs ls w hl => ?_) FU (0 : Int32) (0 : Int32) M _ _ _ w (lv_sub hl [2, 3, 1, 0] rfl) (ok_b hk)
  refine lv_iload_n hx hb dX9_list_37 rfl (lv_at hl 0 rfl) ?_
  have hk := hR _ (ok_s hk)
  exact zri X hr hlk w dX9_list_38 (pr1 hk) (pr2 hk)
abbrev rm_X9_lay : Room := { frames := 1, cells := 0, slots := 0, locals := 23 }
set_option maxHeartbeats 4000000 in
set_option maxRecDepth 100000 in
theorem wj_X9_lay_71 {p : Program} {l : Launch} {e : Env} {s : State} {m : MethodId} {args : Array Value} {below : List Frame} {meth : Method} {c : Code} {D : va_G} {cy : Cyy} {A : Nat → Prop} {G : Gg} (X : Cx p m c cX9_lay 8 s args wz_X9_lay RX9 D cy) {Q : State → Prop} (r0 : Nat) (i1 : Int32) (i2 : Int32) (i3 : Int32) (i4 : Int32) (i5 : Int32) (Qo : Mm → Prop)  (hE : ∀ (y : Mm), Qo (y) → ∀ (H : Heap) (locs : List Loc) (ls : Array Slot), Wo s D cy A G y H locs → lv_has ls 8 [(0, .ref r0), (1, .int i1), (2, .int i2), (3, .int i3), (4, .int i4), (5, .int i5)] → W p l e rm_X9_lay s m args below meth c H locs 0 0 Q (F0 m 102 ls [])) (rec : Int32 → Int32 → Mm → Option (Mm)) (hrec : ∀ (i6 : Int32) (i7 : Int32) (M : Mm) (H : Heap) (locs : List Loc) (ls : Array Slot), Wo s D cy A G M H locs → lv_has ls 8 [(0, .ref r0), (1, .int i1), (2, .int i2), (3, .int i3), (4, .int i4), (5, .int i5), (6, .int i6), (7, .int i7)] → OK (rec i6 i7 M) Qo → W p l e rm_X9_lay s m args below meth c H locs 0 0 Q (F0 m 27 ls [])) (i6 : Int32) (i7 : Int32) (k0 : Int32) (k1 : Int32) (k2 : Nat) (M : Mm) (H : Heap) (locs : List Loc) (ls : Array Slot) (w : Wo s D cy A G M H locs) (hl : lv_has ls 8 [(0, .ref r0), (1, .int i1), (2, .int i2), (3, .int i3), (4, .int i4), (5, .int i5), (6, .int i6), (7, .int i7)]) (hk : OK (jn_X9_lay_71 G M rec r0 i1 i2 i3 i4 i5 i6 i7 k0 k1 k2) Qo) : W p l e rm_X9_lay s m args below meth c H locs 0 0 Q (F0 m 71 ls [.int k0, .int k1, .ref k2]) := by
    have hx := X.1.1
    have hb := X.1.2.1
    unfold jn_X9_lay_71 at hk
    refine lv_aload_n hx hb dX9_lay_71 rfl (lv_at hl 0 rfl) ?_
    refine lv_iload_n hx hb dX9_lay_72 rfl (lv_at hl 1 rfl) ?_
    refine lv_aload_n hx hb dX9_lay_73 rfl (lv_at hl 0 rfl) ?_
    obtain ⟨c9, hk⟩ := ok_c hk
    obtain ⟨r10, e11, hk⟩ := ok_b hk
    refine zgr X w 9 13 41 (C := RX9) (T := TX9) (N := 23) rfl ui_X9 (by decide) rfl (tb wf_X9_41) dX9_lay_74 c9 e11 ?_
    refine lv_iload hx hb dX9_lay_77 (lv_at hl 5 rfl) ?_
    obtain ⟨c12, hk⟩ := ok_c hk
    obtain ⟨c13, hk⟩ := ok_c hk
    refine zai X w dX9_lay_79 c12 c13 ?_
    refine lv_aload_n hx hb dX9_lay_80 rfl (lv_at hl 0 rfl) ?_
    refine zgr X w 9 13 41 (C := RX9) (T := TX9) (N := 23) rfl ui_X9 (by decide) rfl (tb wf_X9_41) dX9_lay_81 c9 e11 ?_
    refine lv_iload hx hb dX9_lay_84 (lv_at hl 7 rfl) ?_
    obtain ⟨c14, hk⟩ := ok_c hk
    refine zai X w dX9_lay_86 c12 c14 ?_
    obtain ⟨q15, e16, hk⟩ := ok_b hk
    refine zVi X w (n := 3) (As := [.int i1, .int (M.1 r10 (Int32.toNatClampNeg i5)), .int (M.1 r10 (Int32.toNatClampNeg i7))]) (rest := [.int k0, .int k1, .ref k2]) (ci := 9) (C := RX9) (T := TX9) (N := 23) (c_X9_at l D cy G M r0 i1 (M.1 r10 (Int32.toNatClampNeg i5)) (M.1 r10 (Int32.toNatClampNeg i7)) e16) (gzV wm_X9_70 wi_X9_at ws_X9_at wn_X9 wc_X9_at) rfl rfl rfl (by decide +kernel) (by decide) rfl c9 rfl rfl hl.1 (Nat.le_of_ble_eq_true rfl) dX9_lay_87 ⟨Nat.zero_le _, Nat.zero_le _⟩ (fun H locs w => ?_)
    refine lv_isub hx hb dX9_lay_90 ?_
    refine lv_i2l hx hb dX9_lay_91 rfl ?_
    obtain ⟨c17, hk⟩ := ok_c hk
    obtain ⟨c18, hk⟩ := ok_c hk
    refine zsl X w dX9_lay_92 c17 c18 (fun H locs w => ?_)
    refine lv_iinc (v := (i6 + 1)) (lv' := [(6, .int (i6 + 1)), (0, .ref r0), (1, .int i1), (2, .int i2), (3, .int i3), (4, .int i4), (5, .int i5), (7, .int i7)]) hx hb dX9_lay_93 hl (k := 6) rfl rfl (by decide) rfl (fun ls hl => ?_)
    refine lv_iinc (v := (i7 + 1)) (lv' := [(7, .int (i7 + 1)), (6, .int (i6 + 1)), (0, .ref r0), (1, .int i1), (2, .int i2), (3, .int i3), (4, .int i4), (5, .int i5)]) hx hb dX9_lay_96 hl (k := 7) rfl rfl (by decide) rfl (fun ls hl => ?_)
    refine lv_goto (tgt := 27) hx hb dX9_lay_99 (by decide) ?_
    exact hrec (i6 + 1) (i7 + 1) (mwJ M k2 (Int32.toNatClampNeg k1) (Int32.toInt64 (k0 - q15))) _ _ _ w (lv_sub hl [2, 3, 4, 5, 6, 7, 1, 0] rfl) hk
set_option maxHeartbeats 4000000 in
set_option maxRecDepth 100000 in
theorem wb_X9_lay_27 {p : Program} {l : Launch} {e : Env} {s : State} {m : MethodId} {args : Array Value} {below : List Frame} {meth : Method} {c : Code} {D : va_G} {cy : Cyy} {A : Nat → Prop} {G : Gg} (X : Cx p m c cX9_lay 8 s args wz_X9_lay RX9 D cy) {Q : State → Prop} (r0 : Nat) (i1 : Int32) (i2 : Int32) (i3 : Int32) (i4 : Int32) (i5 : Int32) (Qo : Mm → Prop)  (hE : ∀ (y : Mm), Qo (y) → ∀ (H : Heap) (locs : List Loc) (ls : Array Slot), Wo s D cy A G y H locs → lv_has ls 8 [(0, .ref r0), (1, .int i1), (2, .int i2), (3, .int i3), (4, .int i4), (5, .int i5)] → W p l e rm_X9_lay s m args below meth c H locs 0 0 Q (F0 m 102 ls [])) (rec : Int32 → Int32 → Mm → Option (Mm)) (hrec : ∀ (i6 : Int32) (i7 : Int32) (M : Mm) (H : Heap) (locs : List Loc) (ls : Array Slot), Wo s D cy A G M H locs → lv_has ls 8 [(0, .ref r0), (1, .int i1), (2, .int i2), (3, .int i3), (4, .int i4), (5, .int i5), (6, .int i6), (7, .int i7)] → OK (rec i6 i7 M) Qo → W p l e rm_X9_lay s m args below meth c H locs 0 0 Q (F0 m 27 ls [])) (i6 : Int32) (i7 : Int32) (M : Mm) (H : Heap) (locs : List Loc) (ls : Array Slot) (w : Wo s D cy A G M H locs) (hl : lv_has ls 8 [(0, .ref r0), (1, .int i1), (2, .int i2), (3, .int i3), (4, .int i4), (5, .int i5), (6, .int i6), (7, .int i7)]) (hk : OK (bd_X9_lay_27 G r0 i1 i2 i3 i4 i5 rec i6 i7 M) Qo) : W p l e rm_X9_lay s m args below meth c H locs 0 0 Q (F0 m 27 ls []) := by
    have hx := X.1.1
    have hb := X.1.2.1
    unfold bd_X9_lay_27 at hk
    refine lv_iload hx hb dX9_lay_27 (lv_at hl 7 rfl) ?_
    refine lv_iload_n hx hb dX9_lay_29 rfl (lv_at hl 2 rfl) ?_
    refine lv_icmp_ge (tgt := 102) hx hb dX9_lay_30 (by decide) (fun c3 => ?_) (fun c3 => ?_)
    · have hk := ok_p c3 hk
      exact hE M (ok_s hk) _ _ _ w (lv_sub hl [0, 1, 2, 3, 4, 5] rfl)
    · have hk := ok_n c3 hk
      refine lv_iload hx hb dX9_lay_33 (lv_at hl 7 rfl) ?_
      refine lv_iload_n hx hb dX9_lay_35 rfl (lv_at hl 3 rfl) ?_
      refine lv_icmp_ne (tgt := 42) hx hb dX9_lay_36 (by decide) (fun c4 => ?_) (fun c4 => ?_)
      · have hk := ok_n c4 hk
        refine lv_aload_n hx hb dX9_lay_42 rfl (lv_at hl 0 rfl) ?_
        obtain ⟨c5, hk⟩ := ok_c hk
        obtain ⟨r6, e7, hk⟩ := ok_b hk
        refine zgr X w 9 9 28 (C := RX9) (T := TX9) (N := 23) rfl ui_X9 (by decide) rfl (tb wf_X9_28) dX9_lay_43 c5 e7 ?_
        refine lv_bipush (v := 8) hx hb dX9_lay_46 (by decide) ?_
        refine lv_iload hx hb dX9_lay_48 (lv_at hl 4 rfl) ?_
        refine lv_imul hx hb dX9_lay_50 ?_
        refine lv_iload hx hb dX9_lay_51 (lv_at hl 6 rfl) ?_
        refine lv_iadd hx hb dX9_lay_53 ?_
        refine lv_iload hx hb dX9_lay_54 (lv_at hl 5 rfl) ?_
        refine lv_iload hx hb dX9_lay_56 (lv_at hl 7 rfl) ?_
        refine lv_icmp_ne (tgt := 70) hx hb dX9_lay_58 (by decide) (fun c8 => ?_) (fun c8 => ?_)
        · have hk := ok_n c8 hk
          refine lv_iconst (v := 0) hx hb dX9_lay_70 (by decide) ?_
          exact wj_X9_lay_71 X r0 i1 i2 i3 i4 i5 Qo hE rec hrec i6 i7 (0 : Int32) (((8 : Int32) * i4) + i6) r6 M _ _ _ w (lv_sub hl [0, 1, 2, 3, 4, 5, 6, 7] rfl) hk
        · have hk := ok_p c8 hk
          refine lv_aload_n hx hb dX9_lay_61 rfl (lv_at hl 0 rfl) ?_
          obtain ⟨r19, e20, hk⟩ := ok_b hk
          refine zgr X w 9 4 16 (C := RX9) (T := TX9) (N := 23) rfl ui_X9 (by decide) rfl (tb wf_X9_16) dX9_lay_62 c5 e20 ?_
          refine lv_iload_n hx hb dX9_lay_65 rfl (lv_at hl 1 rfl) ?_
          obtain ⟨c21, hk⟩ := ok_c hk
          obtain ⟨c22, hk⟩ := ok_c hk
          refine zai X w dX9_lay_66 c21 c22 ?_
          refine lv_goto (tgt := 71) hx hb dX9_lay_67 (by decide) ?_
          exact wj_X9_lay_71 X r0 i1 i2 i3 i4 i5 Qo hE rec hrec i6 i7 (M.1 r19 (Int32.toNatClampNeg i1)) (((8 : Int32) * i4) + i6) r6 M _ _ _ w (lv_sub hl [0, 1, 2, 3, 4, 5, 6, 7] rfl) hk
      · have hk := ok_p c4 hk
        refine lv_goto (tgt := 96) hx hb dX9_lay_39 (by decide) ?_
        refine lv_iinc (v := (i7 + 1)) (lv' := [(7, .int (i7 + 1)), (0, .ref r0), (1, .int i1), (2, .int i2), (3, .int i3), (4, .int i4), (5, .int i5), (6, .int i6)]) hx hb dX9_lay_96 hl (k := 7) rfl rfl (by decide) rfl (fun ls hl => ?_)
        refine lv_goto (tgt := 27) hx hb dX9_lay_99 (by decide) ?_
        exact hrec i6 (i7 + 1) M _ _ _ w (lv_sub hl [1, 2, 3, 4, 5, 6, 7, 0] rfl) hk
theorem wl_X9_lay_27 {p : Program} {l : Launch} {e : Env} {s : State} {m : MethodId} {args : Array Value} {below : List Frame} {meth : Method} {c : Code} {D : va_G} {cy : Cyy} {A : Nat → Prop} {G : Gg} (X : Cx p m c cX9_lay 8 s args wz_X9_lay RX9 D cy) {Q : State → Prop} (r0 : Nat) (i1 : Int32) (i2 : Int32) (i3 : Int32) (i4 : Int32) (i5 : Int32) (Qo : Mm → Prop)  (hE : ∀ (y : Mm), Qo (y) → ∀ (H : Heap) (locs : List Loc) (ls : Array Slot), Wo s D cy A G y H locs → lv_has ls 8 [(0, .ref r0), (1, .int i1), (2, .int i2), (3, .int i3), (4, .int i4), (5, .int i5)] → W p l e rm_X9_lay s m args below meth c H locs 0 0 Q (F0 m 102 ls [])) : ∀ (n : Nat) (i6 : Int32) (i7 : Int32) (M : Mm) (H : Heap) (locs : List Loc) (ls : Array Slot), Wo s D cy A G M H locs → lv_has ls 8 [(0, .ref r0), (1, .int i1), (2, .int i2), (3, .int i3), (4, .int i4), (5, .int i5), (6, .int i6), (7, .int i7)] → OK (lp_X9_lay_27 G r0 i1 i2 i3 i4 i5 n i6 i7 M) Qo → W p l e rm_X9_lay s m args below meth c H locs 0 0 Q (F0 m 27 ls []) := by
  intro n
  induction n with
  | zero => intro i6 i7 M H locs ls w hl hk; exact ok_0 hk
  | succ n ih => intro i6 i7 M H locs ls w hl hk; exact wb_X9_lay_27 X r0 i1 i2 i3 i4 i5 Qo hE  (lp_X9_lay_27 G r0 i1 i2 i3 i4 i5 n) ih i6 i7 M H locs ls w hl hk
set_option maxHeartbeats 4000000 in
set_option maxRecDepth 100000 in
theorem wb_X9_lay_6 {p : Program} {l : Launch} {e : Env} {s : State} {m : MethodId} {args : Array Value} {below : List Frame} {meth : Method} {c : Code} {D : va_G} {cy : Cyy} {A : Nat → Prop} {G : Gg} (X : Cx p m c cX9_lay 8 s args wz_X9_lay RX9 D cy) {Q : State → Prop} (r0 : Nat) (i1 : Int32) (i2 : Int32) (i3 : Int32) (Qo : Int32 × Mm → Prop)  (hE : ∀ (y : Int32 × Mm), Qo (y) → ∀ (H : Heap) (locs : List Loc) (ls : Array Slot), Wo s D cy A G y.2 H locs → lv_has ls 8 [(4, .int y.1)] → W p l e rm_X9_lay s m args below meth c H locs 0 0 Q (F0 m 111 ls [])) (rec : Int32 → Int32 → Mm → Option (Int32 × Mm)) (hrec : ∀ (i4 : Int32) (i5 : Int32) (M : Mm) (H : Heap) (locs : List Loc) (ls : Array Slot), Wo s D cy A G M H locs → lv_has ls 8 [(0, .ref r0), (1, .int i1), (2, .int i2), (3, .int i3), (4, .int i4), (5, .int i5)] → OK (rec i4 i5 M) Qo → W p l e rm_X9_lay s m args below meth c H locs 0 0 Q (F0 m 6 ls [])) (i4 : Int32) (i5 : Int32) (M : Mm) (H : Heap) (locs : List Loc) (ls : Array Slot) (w : Wo s D cy A G M H locs) (hl : lv_has ls 8 [(0, .ref r0), (1, .int i1), (2, .int i2), (3, .int i3), (4, .int i4), (5, .int i5)]) (hk : OK (bd_X9_lay_6 G r0 i1 i2 i3 rec i4 i5 M) Qo) : W p l e rm_X9_lay s m args below meth c H locs 0 0 Q (F0 m 6 ls []) := by
    have hx := X.1.1
    have hb := X.1.2.1
    unfold bd_X9_lay_6 at hk
    refine lv_iload hx hb dX9_lay_6 (lv_at hl 5 rfl) ?_
    refine lv_iload_n hx hb dX9_lay_8 rfl (lv_at hl 2 rfl) ?_
    refine lv_icmp_ge (tgt := 111) hx hb dX9_lay_9 (by decide) (fun c1 => ?_) (fun c1 => ?_)
    · have hk := ok_p c1 hk
      exact hE (i4, M) (ok_s hk) _ _ _ w (lv_sub hl [4] rfl)
    · have hk := ok_n c1 hk
      refine lv_iload hx hb dX9_lay_12 (lv_at hl 5 rfl) ?_
      refine lv_iload_n hx hb dX9_lay_14 rfl (lv_at hl 3 rfl) ?_
      refine lv_icmp_ne (tgt := 21) hx hb dX9_lay_15 (by decide) (fun c2 => ?_) (fun c2 => ?_)
      · have hk := ok_n c2 hk
        refine lv_iconst (v := 0) hx hb dX9_lay_21 (by decide) ?_
        refine lv_istore (lv' := [(6, .int (0 : Int32)), (0, .ref r0), (1, .int i1), (2, .int i2), (3, .int i3), (4, .int i4), (5, .int i5)]) hx hb dX9_lay_22 hl (by decide) rfl (fun ls hl => ?_)
        refine lv_iconst (v := 0) hx hb dX9_lay_24 (by decide) ?_
        refine lv_istore (lv' := [(7, .int (0 : Int32)), (6, .int (0 : Int32)), (0, .ref r0), (1, .int i1), (2, .int i2), (3, .int i3), (4, .int i4), (5, .int i5)]) hx hb dX9_lay_25 hl (by decide) rfl (fun ls hl => ?_)
        refine wl_X9_lay_27 X r0 i1 i2 i3 i4 i5 (Qo := _) (fun q23 hk H locs ls w hl => ?_) FU (0 : Int32) (0 : Int32) M _ _ _ w (lv_sub hl [2, 3, 4, 5, 6, 7, 1, 0] rfl) (ok_b hk)
        refine lv_iinc (v := (i4 + 1)) (lv' := [(4, .int (i4 + 1)), (0, .ref r0), (1, .int i1), (2, .int i2), (3, .int i3), (5, .int i5)]) hx hb dX9_lay_102 hl (k := 4) rfl rfl (by decide) rfl (fun ls hl => ?_)
        refine lv_iinc (v := (i5 + 1)) (lv' := [(5, .int (i5 + 1)), (4, .int (i4 + 1)), (0, .ref r0), (1, .int i1), (2, .int i2), (3, .int i3)]) hx hb dX9_lay_105 hl (k := 5) rfl rfl (by decide) rfl (fun ls hl => ?_)
        refine lv_goto (tgt := 6) hx hb dX9_lay_108 (by decide) ?_
        exact hrec (i4 + 1) (i5 + 1) q23 _ _ _ w (lv_sub hl [2, 3, 4, 5, 1, 0] rfl) hk
      · have hk := ok_p c2 hk
        refine lv_goto (tgt := 105) hx hb dX9_lay_18 (by decide) ?_
        refine lv_iinc (v := (i5 + 1)) (lv' := [(5, .int (i5 + 1)), (0, .ref r0), (1, .int i1), (2, .int i2), (3, .int i3), (4, .int i4)]) hx hb dX9_lay_105 hl (k := 5) rfl rfl (by decide) rfl (fun ls hl => ?_)
        refine lv_goto (tgt := 6) hx hb dX9_lay_108 (by decide) ?_
        exact hrec i4 (i5 + 1) M _ _ _ w (lv_sub hl [1, 2, 3, 4, 5, 0] rfl) hk
theorem wl_X9_lay_6 {p : Program} {l : Launch} {e : Env} {s : State} {m : MethodId} {args : Array Value} {below : List Frame} {meth : Method} {c : Code} {D : va_G} {cy : Cyy} {A : Nat → Prop} {G : Gg} (X : Cx p m c cX9_lay 8 s args wz_X9_lay RX9 D cy) {Q : State → Prop} (r0 : Nat) (i1 : Int32) (i2 : Int32) (i3 : Int32) (Qo : Int32 × Mm → Prop)  (hE : ∀ (y : Int32 × Mm), Qo (y) → ∀ (H : Heap) (locs : List Loc) (ls : Array Slot), Wo s D cy A G y.2 H locs → lv_has ls 8 [(4, .int y.1)] → W p l e rm_X9_lay s m args below meth c H locs 0 0 Q (F0 m 111 ls [])) : ∀ (n : Nat) (i4 : Int32) (i5 : Int32) (M : Mm) (H : Heap) (locs : List Loc) (ls : Array Slot), Wo s D cy A G M H locs → lv_has ls 8 [(0, .ref r0), (1, .int i1), (2, .int i2), (3, .int i3), (4, .int i4), (5, .int i5)] → OK (lp_X9_lay_6 G r0 i1 i2 i3 n i4 i5 M) Qo → W p l e rm_X9_lay s m args below meth c H locs 0 0 Q (F0 m 6 ls []) := by
  intro n
  induction n with
  | zero => intro i4 i5 M H locs ls w hl hk; exact ok_0 hk
  | succ n ih => intro i4 i5 M H locs ls w hl hk; exact wb_X9_lay_6 X r0 i1 i2 i3 Qo hE  (lp_X9_lay_6 G r0 i1 i2 i3 n) ih i4 i5 M H locs ls w hl hk
set_option maxHeartbeats 4000000 in
set_option maxRecDepth 100000 in
theorem c_X9_lay (l : Launch) (D : va_G) (cy : Cyy) (G : Gg) (M : Mm) (r0 : Nat) (i1 : Int32) (i2 : Int32) (i3 : Int32) {q : Int32 × Mm} (hm : f_X9_lay G M r0 i1 i2 i3 = some q) : CI l yX9_lay wz_X9_lay rm_X9_lay D cy G M [.ref r0, .int i1, .int i2, .int i3] q.1 q.2 := by
  refine Met_of (Qf := fun A => QI D cy G A q.1 q.2) (cc := cX9_lay) (nL := 8) (ret := (some .int)) (own := RX9) (lv := [(0, .ref r0), (1, .int i1), (2, .int i2), (3, .int i3)]) (by decide) rfl rfl (Nat.le_of_ble_eq_true rfl) rfl ?_
  intro p e s m args below meth c A ls X hr hlk w hl
  have hx := X.1.1
  have hb := X.1.2.1
  obtain ⟨Qo, hR, hk⟩ : ∃ Qo : Int32 × Mm → Prop, (∀ x, Qo x → x = q) ∧ OK (f_X9_lay G M r0 i1 i2 i3) Qo := ⟨fun x => x = q, fun _ h => h, q, hm, rfl⟩
  unfold f_X9_lay at hk
  refine lv_iconst (v := 0) hx hb dX9_lay_0 (by decide) ?_
  refine lv_istore (lv' := [(4, .int (0 : Int32)), (0, .ref r0), (1, .int i1), (2, .int i2), (3, .int i3)]) hx hb dX9_lay_1 hl (by decide) rfl (fun ls hl => ?_)
  refine lv_iconst (v := 0) hx hb dX9_lay_3 (by decide) ?_
  refine lv_istore (lv' := [(5, .int (0 : Int32)), (4, .int (0 : Int32)), (0, .ref r0), (1, .int i1), (2, .int i2), (3, .int i3)]) hx hb dX9_lay_4 hl (by decide) rfl (fun ls hl => ?_)
  refine wl_X9_lay_6 X r0 i1 i2 i3 (Qo := _) (fun q24 hk H locs ls w hl => ?_) FU (0 : Int32) (0 : Int32) M _ _ _ w (lv_sub hl [2, 3, 4, 5, 1, 0] rfl) (ok_b hk)
  refine lv_iload hx hb dX9_lay_111 (lv_at hl 0 rfl) ?_
  have hk := hR _ (ok_s hk)
  exact zri X hr hlk w dX9_lay_113 (pr1 hk) (pr2 hk)
abbrev rm_X9_weigh : Room := { frames := 3, cells := 0, slots := 0, locals := 95 }
set_option maxHeartbeats 4000000 in
set_option maxRecDepth 100000 in
theorem wb_X9_weigh_22 {p : Program} {l : Launch} {e : Env} {s : State} {m : MethodId} {args : Array Value} {below : List Frame} {meth : Method} {c : Code} {D : va_G} {cy : Cyy} {A : Nat → Prop} {G : Gg} (X : Cx p m c cX9_weigh 7 s args wz_X9_weigh RX9 D cy) {Q : State → Prop} (r0 : Nat) (i1 : Int32) (i3 : Int32) (l4 : Int64) (Qo : Mm → Prop)  (hE : ∀ (y : Mm), Qo (y) → ∀ (H : Heap) (locs : List Loc) (ls : Array Slot), Wo s D cy A G y H locs → lv_has ls 7 [(0, .ref r0), (1, .int i1), (3, .int i3), (4, .long l4)] → W p l e rm_X9_weigh s m args below meth c H locs 0 0 Q (F0 m 43 ls [])) (rec : Int32 → Mm → Option (Mm)) (hrec : ∀ (i6 : Int32) (M : Mm) (H : Heap) (locs : List Loc) (ls : Array Slot), Wo s D cy A G M H locs → lv_has ls 7 [(0, .ref r0), (1, .int i1), (3, .int i3), (4, .long l4), (6, .int i6)] → OK (rec i6 M) Qo → W p l e rm_X9_weigh s m args below meth c H locs 0 0 Q (F0 m 22 ls [])) (i6 : Int32) (M : Mm) (H : Heap) (locs : List Loc) (ls : Array Slot) (w : Wo s D cy A G M H locs) (hl : lv_has ls 7 [(0, .ref r0), (1, .int i1), (3, .int i3), (4, .long l4), (6, .int i6)]) (hk : OK (bd_X9_weigh_22 G r0 i1 i3 l4 rec i6 M) Qo) : W p l e rm_X9_weigh s m args below meth c H locs 0 0 Q (F0 m 22 ls []) := by
    have hx := X.1.1
    have hb := X.1.2.1
    unfold bd_X9_weigh_22 at hk
    refine lv_iload hx hb dX9_weigh_22 (lv_at hl 4 rfl) ?_
    refine lv_bipush (v := 8) hx hb dX9_weigh_24 (by decide) ?_
    refine lv_icmp_ge (tgt := 43) hx hb dX9_weigh_26 (by decide) (fun c10 => ?_) (fun c10 => ?_)
    · have hk := ok_p c10 hk
      exact hE M (ok_s hk) _ _ _ w (lv_sub hl [0, 1, 2, 3] rfl)
    · have hk := ok_n c10 hk
      refine lv_aload_n hx hb dX9_weigh_29 rfl (lv_at hl 0 rfl) ?_
      obtain ⟨c11, hk⟩ := ok_c hk
      obtain ⟨r12, e13, hk⟩ := ok_b hk
      refine zgr X w 9 12 38 (C := RX9) (T := TX9) (N := 23) rfl ui_X9 (by decide) rfl (tb wf_X9_38) dX9_weigh_30 c11 e13 ?_
      refine lv_iload hx hb dX9_weigh_33 (lv_at hl 4 rfl) ?_
      refine lv_lconst (v := 0) hx hb dX9_weigh_35 (by decide) ?_
      obtain ⟨c14, hk⟩ := ok_c hk
      obtain ⟨c15, hk⟩ := ok_c hk
      refine zsl X w dX9_weigh_36 c14 c15 (fun H locs w => ?_)
      refine lv_iinc (v := (i6 + 1)) (lv' := [(6, .int (i6 + 1)), (0, .ref r0), (1, .int i1), (3, .int i3), (4, .long l4)]) hx hb dX9_weigh_37 hl (k := 4) rfl rfl (by decide) rfl (fun ls hl => ?_)
      refine lv_goto (tgt := 22) hx hb dX9_weigh_40 (by decide) ?_
      exact hrec (i6 + 1) (mwJ M r12 (Int32.toNatClampNeg i6) (0 : Int64)) _ _ _ w (lv_sub hl [1, 2, 3, 4, 0] rfl) hk
theorem wl_X9_weigh_22 {p : Program} {l : Launch} {e : Env} {s : State} {m : MethodId} {args : Array Value} {below : List Frame} {meth : Method} {c : Code} {D : va_G} {cy : Cyy} {A : Nat → Prop} {G : Gg} (X : Cx p m c cX9_weigh 7 s args wz_X9_weigh RX9 D cy) {Q : State → Prop} (r0 : Nat) (i1 : Int32) (i3 : Int32) (l4 : Int64) (Qo : Mm → Prop)  (hE : ∀ (y : Mm), Qo (y) → ∀ (H : Heap) (locs : List Loc) (ls : Array Slot), Wo s D cy A G y H locs → lv_has ls 7 [(0, .ref r0), (1, .int i1), (3, .int i3), (4, .long l4)] → W p l e rm_X9_weigh s m args below meth c H locs 0 0 Q (F0 m 43 ls [])) : ∀ (n : Nat) (i6 : Int32) (M : Mm) (H : Heap) (locs : List Loc) (ls : Array Slot), Wo s D cy A G M H locs → lv_has ls 7 [(0, .ref r0), (1, .int i1), (3, .int i3), (4, .long l4), (6, .int i6)] → OK (lp_X9_weigh_22 G r0 i1 i3 l4 n i6 M) Qo → W p l e rm_X9_weigh s m args below meth c H locs 0 0 Q (F0 m 22 ls []) := by
  intro n
  induction n with
  | zero => intro i6 M H locs ls w hl hk; exact ok_0 hk
  | succ n ih => intro i6 M H locs ls w hl hk; exact wb_X9_weigh_22 X r0 i1 i3 l4 Qo hE  (lp_X9_weigh_22 G r0 i1 i3 l4 n) ih i6 M H locs ls w hl hk
set_option maxHeartbeats 4000000 in
set_option maxRecDepth 100000 in
theorem wb_X9_weigh_46 {p : Program} {l : Launch} {e : Env} {s : State} {m : MethodId} {args : Array Value} {below : List Frame} {meth : Method} {c : Code} {D : va_G} {cy : Cyy} {A : Nat → Prop} {G : Gg} (X : Cx p m c cX9_weigh 7 s args wz_X9_weigh RX9 D cy) {Q : State → Prop} (r0 : Nat) (i1 : Int32) (i3 : Int32) (Qo : Int64 × Mm → Prop)  (hE : ∀ (y : Int64 × Mm), Qo (y) → ∀ (H : Heap) (locs : List Loc) (ls : Array Slot), Wo s D cy A G y.2 H locs → lv_has ls 7 [(0, .ref r0), (3, .int i3), (4, .long y.1)] → W p l e rm_X9_weigh s m args below meth c H locs 0 0 Q (F0 m 102 ls [])) (rec : Int64 → Int32 → Mm → Option (Int64 × Mm)) (hrec : ∀ (l4 : Int64) (i6 : Int32) (M : Mm) (H : Heap) (locs : List Loc) (ls : Array Slot), Wo s D cy A G M H locs → lv_has ls 7 [(0, .ref r0), (1, .int i1), (3, .int i3), (4, .long l4), (6, .int i6)] → OK (rec l4 i6 M) Qo → W p l e rm_X9_weigh s m args below meth c H locs 0 0 Q (F0 m 46 ls [])) (l4 : Int64) (i6 : Int32) (M : Mm) (H : Heap) (locs : List Loc) (ls : Array Slot) (w : Wo s D cy A G M H locs) (hl : lv_has ls 7 [(0, .ref r0), (1, .int i1), (3, .int i3), (4, .long l4), (6, .int i6)]) (hk : OK (bd_X9_weigh_46 G r0 i1 i3 rec l4 i6 M) Qo) : W p l e rm_X9_weigh s m args below meth c H locs 0 0 Q (F0 m 46 ls []) := by
    have hx := X.1.1
    have hb := X.1.2.1
    unfold bd_X9_weigh_46 at hk
    refine lv_iload hx hb dX9_weigh_46 (lv_at hl 4 rfl) ?_
    refine lv_iload_n hx hb dX9_weigh_48 rfl (lv_at hl 2 rfl) ?_
    refine lv_icmp_ge (tgt := 102) hx hb dX9_weigh_49 (by decide) (fun c17 => ?_) (fun c17 => ?_)
    · have hk := ok_p c17 hk
      exact hE (l4, M) (ok_s hk) _ _ _ w (lv_sub hl [0, 2, 3] rfl)
    · have hk := ok_n c17 hk
      refine lv_aload_n hx hb dX9_weigh_52 rfl (lv_at hl 0 rfl) ?_
      obtain ⟨c18, hk⟩ := ok_c hk
      obtain ⟨r19, e20, hk⟩ := ok_b hk
      refine zgr X w 9 12 38 (C := RX9) (T := TX9) (N := 23) rfl ui_X9 (by decide) rfl (tb wf_X9_38) dX9_weigh_53 c18 e20 ?_
      refine lv_aload_n hx hb dX9_weigh_56 rfl (lv_at hl 0 rfl) ?_
      obtain ⟨r21, e22, hk⟩ := ok_b hk
      refine zgr X w 9 13 41 (C := RX9) (T := TX9) (N := 23) rfl ui_X9 (by decide) rfl (tb wf_X9_41) dX9_weigh_57 c18 e22 ?_
      refine lv_iload hx hb dX9_weigh_60 (lv_at hl 4 rfl) ?_
      obtain ⟨c23, hk⟩ := ok_c hk
      obtain ⟨c24, hk⟩ := ok_c hk
      refine zai X w dX9_weigh_62 c23 c24 ?_
      refine lv_aload_n hx hb dX9_weigh_63 rfl (lv_at hl 0 rfl) ?_
      refine lv_aload_n hx hb dX9_weigh_64 rfl (lv_at hl 0 rfl) ?_
      refine lv_iload_n hx hb dX9_weigh_65 rfl (lv_at hl 1 rfl) ?_
      refine lv_iload_n hx hb dX9_weigh_66 rfl (lv_at hl 2 rfl) ?_
      refine lv_iload hx hb dX9_weigh_67 (lv_at hl 4 rfl) ?_
      obtain ⟨q25, e26, hk⟩ := ok_b hk
      refine zVi X w (n := 3) (As := [.int i1, .int i3, .int i6]) (rest := [.ref r0, .int (M.1 r21 (Int32.toNatClampNeg i6)), .ref r19]) (ci := 9) (C := RX9) (T := TX9) (N := 23) (c_X9_lay l D cy G M r0 i1 i3 i6 e26) (gzV wm_X9_130 wi_X9_lay ws_X9_lay wn_X9 wc_X9_lay) rfl rfl rfl (by decide +kernel) (by decide) rfl c18 rfl rfl hl.1 (Nat.le_of_ble_eq_true rfl) dX9_weigh_69 ⟨Nat.zero_le _, Nat.zero_le _⟩ (fun H locs w => ?_)
      refine lv_iconst (v := (-1)) hx hb dX9_weigh_72 (by decide) ?_
      obtain ⟨q27, e28, hk⟩ := ok_b hk
      refine zVl X w (n := 2) (As := [.int q25.1, .int (-1)]) (rest := [.int (M.1 r21 (Int32.toNatClampNeg i6)), .ref r19]) (ci := 9) (C := RX9) (T := TX9) (N := 23) (c_X9_determinant l D cy G q25.2 r0 q25.1 (-1) e28) (gzV wm_X9_133 wi_X9_determinant ws_X9_determinant wn_X9 wc_X9_determinant) rfl rfl rfl (by decide +kernel) (by decide) rfl c18 rfl rfl hl.1 (Nat.le_of_ble_eq_true rfl) dX9_weigh_73 ⟨Nat.zero_le _, Nat.zero_le _⟩ (fun H locs w => ?_)
      obtain ⟨c29, hk⟩ := ok_c hk
      obtain ⟨c30, hk⟩ := ok_c hk
      refine zsl X w dX9_weigh_76 c29 c30 (fun H locs w => ?_)
      refine lv_lload hx hb dX9_weigh_77 (lv_at hl 3 rfl) ?_
      refine lv_aload_n hx hb dX9_weigh_79 rfl (lv_at hl 0 rfl) ?_
      obtain ⟨r31, e32, hk⟩ := ok_b hk
      refine zgr X w 9 12 38 (C := RX9) (T := TX9) (N := 23) rfl ui_X9 (by decide) rfl (tb wf_X9_38) dX9_weigh_80 c18 e32 ?_
      refine lv_aload_n hx hb dX9_weigh_83 rfl (lv_at hl 0 rfl) ?_
      obtain ⟨r33, e34, hk⟩ := ok_b hk
      refine zgr X w 9 13 41 (C := RX9) (T := TX9) (N := 23) rfl ui_X9 (by decide) rfl (tb wf_X9_41) dX9_weigh_84 c18 e34 ?_
      refine lv_iload hx hb dX9_weigh_87 (lv_at hl 4 rfl) ?_
      obtain ⟨c35, hk⟩ := ok_c hk
      obtain ⟨c36, hk⟩ := ok_c hk
      refine zai X w dX9_weigh_89 c35 c36 ?_
      obtain ⟨c37, hk⟩ := ok_c hk
      obtain ⟨c38, hk⟩ := ok_c hk
      refine zal X w dX9_weigh_90 c37 c38 ?_
      obtain ⟨q39, e40, hk⟩ := ok_b hk
      refine zSl X w (n := 2) (As := [.long l4, .long ((mwJ q27.2 r19 (Int32.toNatClampNeg (M.1 r21 (Int32.toNatClampNeg i6))) q27.1).2.1 r31 (Int32.toNatClampNeg ((mwJ q27.2 r19 (Int32.toNatClampNeg (M.1 r21 (Int32.toNatClampNeg i6))) q27.1).1 r33 (Int32.toNatClampNeg i6))))]) (rest := []) (c_X9_common l D cy G (mwJ q27.2 r19 (Int32.toNatClampNeg (M.1 r21 (Int32.toNatClampNeg i6))) q27.1) l4 ((mwJ q27.2 r19 (Int32.toNatClampNeg (M.1 r21 (Int32.toNatClampNeg i6))) q27.1).2.1 r31 (Int32.toNatClampNeg ((mwJ q27.2 r19 (Int32.toNatClampNeg (M.1 r21 (Int32.toNatClampNeg i6))) q27.1).1 r33 (Int32.toNatClampNeg i6)))) e40) (gzS wm_X9_74 wt_X9_common wn_X9 wc_X9_common) rfl rfl rfl (by decide +kernel) (by decide) rfl rfl hl.1 (Nat.le_of_ble_eq_true rfl) dX9_weigh_91 ⟨Nat.zero_le _, Nat.zero_le _⟩ (fun H locs w => ?_)
      refine lv_lstore (lv' := [(4, .long q39), (0, .ref r0), (1, .int i1), (3, .int i3), (6, .int i6)]) hx hb dX9_weigh_94 hl (by decide) rfl (fun ls hl => ?_)
      refine lv_iinc (v := (i6 + 1)) (lv' := [(6, .int (i6 + 1)), (4, .long q39), (0, .ref r0), (1, .int i1), (3, .int i3)]) hx hb dX9_weigh_96 hl (k := 4) rfl rfl (by decide) rfl (fun ls hl => ?_)
      refine lv_goto (tgt := 46) hx hb dX9_weigh_99 (by decide) ?_
      exact hrec q39 (i6 + 1) (mwJ q27.2 r19 (Int32.toNatClampNeg (M.1 r21 (Int32.toNatClampNeg i6))) q27.1) _ _ _ w (lv_sub hl [2, 3, 4, 1, 0] rfl) hk
theorem wl_X9_weigh_46 {p : Program} {l : Launch} {e : Env} {s : State} {m : MethodId} {args : Array Value} {below : List Frame} {meth : Method} {c : Code} {D : va_G} {cy : Cyy} {A : Nat → Prop} {G : Gg} (X : Cx p m c cX9_weigh 7 s args wz_X9_weigh RX9 D cy) {Q : State → Prop} (r0 : Nat) (i1 : Int32) (i3 : Int32) (Qo : Int64 × Mm → Prop)  (hE : ∀ (y : Int64 × Mm), Qo (y) → ∀ (H : Heap) (locs : List Loc) (ls : Array Slot), Wo s D cy A G y.2 H locs → lv_has ls 7 [(0, .ref r0), (3, .int i3), (4, .long y.1)] → W p l e rm_X9_weigh s m args below meth c H locs 0 0 Q (F0 m 102 ls [])) : ∀ (n : Nat) (l4 : Int64) (i6 : Int32) (M : Mm) (H : Heap) (locs : List Loc) (ls : Array Slot), Wo s D cy A G M H locs → lv_has ls 7 [(0, .ref r0), (1, .int i1), (3, .int i3), (4, .long l4), (6, .int i6)] → OK (lp_X9_weigh_46 G r0 i1 i3 n l4 i6 M) Qo → W p l e rm_X9_weigh s m args below meth c H locs 0 0 Q (F0 m 46 ls []) := by
  intro n
  induction n with
  | zero => intro l4 i6 M H locs ls w hl hk; exact ok_0 hk
  | succ n ih => intro l4 i6 M H locs ls w hl hk; exact wb_X9_weigh_46 X r0 i1 i3 Qo hE  (lp_X9_weigh_46 G r0 i1 i3 n) ih l4 i6 M H locs ls w hl hk
set_option maxHeartbeats 4000000 in
set_option maxRecDepth 100000 in
theorem wb_X9_weigh_105 {p : Program} {l : Launch} {e : Env} {s : State} {m : MethodId} {args : Array Value} {below : List Frame} {meth : Method} {c : Code} {D : va_G} {cy : Cyy} {A : Nat → Prop} {G : Gg} (X : Cx p m c cX9_weigh 7 s args wz_X9_weigh RX9 D cy) {Q : State → Prop} (r0 : Nat) (i3 : Int32) (l4 : Int64) (Qo : Mm → Prop)  (hE : ∀ (y : Mm), Qo (y) → ∀ (H : Heap) (locs : List Loc) (ls : Array Slot), Wo s D cy A G y H locs → lv_has ls 7 [] → W p l e rm_X9_weigh s m args below meth c H locs 0 0 Q (F0 m 134 ls [])) (rec : Int32 → Mm → Option (Mm)) (hrec : ∀ (i6 : Int32) (M : Mm) (H : Heap) (locs : List Loc) (ls : Array Slot), Wo s D cy A G M H locs → lv_has ls 7 [(0, .ref r0), (3, .int i3), (4, .long l4), (6, .int i6)] → OK (rec i6 M) Qo → W p l e rm_X9_weigh s m args below meth c H locs 0 0 Q (F0 m 105 ls [])) (i6 : Int32) (M : Mm) (H : Heap) (locs : List Loc) (ls : Array Slot) (w : Wo s D cy A G M H locs) (hl : lv_has ls 7 [(0, .ref r0), (3, .int i3), (4, .long l4), (6, .int i6)]) (hk : OK (bd_X9_weigh_105 G r0 i3 l4 rec i6 M) Qo) : W p l e rm_X9_weigh s m args below meth c H locs 0 0 Q (F0 m 105 ls []) := by
    have hx := X.1.1
    have hb := X.1.2.1
    unfold bd_X9_weigh_105 at hk
    refine lv_iload hx hb dX9_weigh_105 (lv_at hl 3 rfl) ?_
    refine lv_iload_n hx hb dX9_weigh_107 rfl (lv_at hl 1 rfl) ?_
    refine lv_icmp_ge (tgt := 134) hx hb dX9_weigh_108 (by decide) (fun c42 => ?_) (fun c42 => ?_)
    · have hk := ok_p c42 hk
      exact hE M (ok_s hk) _ _ _ w (lv_sub hl [] rfl)
    · have hk := ok_n c42 hk
      refine lv_aload_n hx hb dX9_weigh_111 rfl (lv_at hl 0 rfl) ?_
      obtain ⟨c43, hk⟩ := ok_c hk
      obtain ⟨r44, e45, hk⟩ := ok_b hk
      refine zgr X w 9 12 38 (C := RX9) (T := TX9) (N := 23) rfl ui_X9 (by decide) rfl (tb wf_X9_38) dX9_weigh_112 c43 e45 ?_
      refine lv_aload_n hx hb dX9_weigh_115 rfl (lv_at hl 0 rfl) ?_
      obtain ⟨r46, e47, hk⟩ := ok_b hk
      refine zgr X w 9 13 41 (C := RX9) (T := TX9) (N := 23) rfl ui_X9 (by decide) rfl (tb wf_X9_41) dX9_weigh_116 c43 e47 ?_
      refine lv_iload hx hb dX9_weigh_119 (lv_at hl 3 rfl) ?_
      obtain ⟨c48, hk⟩ := ok_c hk
      obtain ⟨c49, hk⟩ := ok_c hk
      refine zai X w dX9_weigh_121 c48 c49 ?_
      refine lv_dup2_11 hx hb dX9_weigh_122 rfl rfl ?_
      obtain ⟨c50, hk⟩ := ok_c hk
      obtain ⟨c51, hk⟩ := ok_c hk
      refine zal X w dX9_weigh_123 c50 c51 ?_
      refine lv_lload hx hb dX9_weigh_124 (lv_at hl 2 rfl) ?_
      obtain ⟨c52, hk⟩ := ok_c hk
      refine lv_ldiv hx hb dX9_weigh_126 c52 ?_
      refine zsl X w dX9_weigh_127 c50 c51 (fun H locs w => ?_)
      refine lv_iinc (v := (i6 + 1)) (lv' := [(6, .int (i6 + 1)), (0, .ref r0), (3, .int i3), (4, .long l4)]) hx hb dX9_weigh_128 hl (k := 3) rfl rfl (by decide) rfl (fun ls hl => ?_)
      refine lv_goto (tgt := 105) hx hb dX9_weigh_131 (by decide) ?_
      exact hrec (i6 + 1) (mwJ M r44 (Int32.toNatClampNeg (M.1 r46 (Int32.toNatClampNeg i6))) ((M.2.1 r44 (Int32.toNatClampNeg (M.1 r46 (Int32.toNatClampNeg i6)))) / l4)) _ _ _ w (lv_sub hl [1, 2, 3, 0] rfl) hk
theorem wl_X9_weigh_105 {p : Program} {l : Launch} {e : Env} {s : State} {m : MethodId} {args : Array Value} {below : List Frame} {meth : Method} {c : Code} {D : va_G} {cy : Cyy} {A : Nat → Prop} {G : Gg} (X : Cx p m c cX9_weigh 7 s args wz_X9_weigh RX9 D cy) {Q : State → Prop} (r0 : Nat) (i3 : Int32) (l4 : Int64) (Qo : Mm → Prop)  (hE : ∀ (y : Mm), Qo (y) → ∀ (H : Heap) (locs : List Loc) (ls : Array Slot), Wo s D cy A G y H locs → lv_has ls 7 [] → W p l e rm_X9_weigh s m args below meth c H locs 0 0 Q (F0 m 134 ls [])) : ∀ (n : Nat) (i6 : Int32) (M : Mm) (H : Heap) (locs : List Loc) (ls : Array Slot), Wo s D cy A G M H locs → lv_has ls 7 [(0, .ref r0), (3, .int i3), (4, .long l4), (6, .int i6)] → OK (lp_X9_weigh_105 G r0 i3 l4 n i6 M) Qo → W p l e rm_X9_weigh s m args below meth c H locs 0 0 Q (F0 m 105 ls []) := by
  intro n
  induction n with
  | zero => intro i6 M H locs ls w hl hk; exact ok_0 hk
  | succ n ih => intro i6 M H locs ls w hl hk; exact wb_X9_weigh_105 X r0 i3 l4 Qo hE  (lp_X9_weigh_105 G r0 i3 l4 n) ih i6 M H locs ls w hl hk
set_option maxHeartbeats 4000000 in
set_option maxRecDepth 100000 in
theorem c_X9_weigh (l : Launch) (D : va_G) (cy : Cyy) (G : Gg) (M : Mm) (r0 : Nat) (i1 : Int32) (i2 : Int32) {q : Mm} (hm : f_X9_weigh G M r0 i1 i2 = some q) : CV l yX9_weigh wz_X9_weigh rm_X9_weigh D cy G M [.ref r0, .int i1, .int i2] q := by
  refine Met_of (Qf := fun A => QV D cy G A q) (cc := cX9_weigh) (nL := 7) (ret := none) (own := RX9) (lv := [(0, .ref r0), (1, .int i1), (2, .int i2)]) (by decide) rfl rfl (Nat.le_of_ble_eq_true rfl) rfl ?_
  intro p e s m args below meth c A ls X hr hlk w hl
  have hx := X.1.1
  have hb := X.1.2.1
  obtain ⟨Qo, hR, hk⟩ : ∃ Qo : Mm → Prop, (∀ x, Qo x → x = q) ∧ OK (f_X9_weigh G M r0 i1 i2) Qo := ⟨fun x => x = q, fun _ h => h, q, hm, rfl⟩
  unfold f_X9_weigh at hk
  refine lv_aload_n hx hb dX9_weigh_0 rfl (lv_at hl 0 rfl) ?_
  refine lv_aload_n hx hb dX9_weigh_1 rfl (lv_at hl 0 rfl) ?_
  refine lv_aload_n hx hb dX9_weigh_2 rfl (lv_at hl 0 rfl) ?_
  obtain ⟨c1, hk⟩ := ok_c hk
  obtain ⟨r2, e3, hk⟩ := ok_b hk
  refine zgr X w 9 3 13 (C := RX9) (T := TX9) (N := 23) rfl ui_X9 (by decide) rfl (tb wf_X9_13) dX9_weigh_3 c1 e3 ?_
  refine lv_iload_n hx hb dX9_weigh_6 rfl (lv_at hl 1 rfl) ?_
  obtain ⟨c4, hk⟩ := ok_c hk
  obtain ⟨c5, hk⟩ := ok_c hk
  refine zai X w dX9_weigh_7 c4 c5 ?_
  refine lv_iload_n hx hb dX9_weigh_8 rfl (lv_at hl 2 rfl) ?_
  obtain ⟨q6, e7, hk⟩ := ok_b hk
  refine zVi X w (n := 2) (As := [.int (M.1 r2 (Int32.toNatClampNeg i1)), .int i2]) (rest := [.ref r0]) (ci := 9) (C := RX9) (T := TX9) (N := 23) (c_X9_bitsOf l D cy G M r0 (M.1 r2 (Int32.toNatClampNeg i1)) i2 e7) (gzV wm_X9_99 wi_X9_bitsOf ws_X9_bitsOf wn_X9 wc_X9_bitsOf) rfl rfl rfl (by decide +kernel) (by decide) rfl c1 rfl rfl hl.1 (Nat.le_of_ble_eq_true rfl) dX9_weigh_9 ⟨Nat.zero_le _, Nat.zero_le _⟩ (fun H locs w => ?_)
  obtain ⟨q8, e9, hk⟩ := ok_b hk
  refine zVi X w (n := 1) (As := [.int q6]) (rest := []) (ci := 9) (C := RX9) (T := TX9) (N := 23) (c_X9_list l D cy G M r0 q6 e9) (gzV wm_X9_126 wi_X9_list ws_X9_list wn_X9 wc_X9_list) rfl rfl rfl (by decide +kernel) (by decide) rfl c1 rfl rfl hl.1 (Nat.le_of_ble_eq_true rfl) dX9_weigh_12 ⟨Nat.zero_le _, Nat.zero_le _⟩ (fun H locs w => ?_)
  refine lv_istore_n (lv' := [(3, .int q8.1), (0, .ref r0), (1, .int i1), (2, .int i2)]) hx hb dX9_weigh_15 rfl hl (by decide) rfl (fun ls hl => ?_)
  refine lv_lconst (v := 0) hx hb dX9_weigh_16 (by decide) ?_
  refine lv_lstore (lv' := [(4, .long (0 : Int64)), (3, .int q8.1), (0, .ref r0), (1, .int i1), (2, .int i2)]) hx hb dX9_weigh_17 hl (by decide) rfl (fun ls hl => ?_)
  refine lv_iconst (v := 0) hx hb dX9_weigh_19 (by decide) ?_
  refine lv_istore (lv' := [(6, .int (0 : Int32)), (4, .long (0 : Int64)), (3, .int q8.1), (0, .ref r0), (1, .int i1), (2, .int i2)]) hx hb dX9_weigh_20 hl (by decide) rfl (fun ls hl => ?_)
  refine wl_X9_weigh_22 X r0 i1 q8.1 (0 : Int64) (Qo := _) (fun q16 hk H locs ls w hl => ?_) FU (0 : Int32) q8.2 _ _ _ w (lv_sub hl [3, 4, 2, 1, 0] rfl) (ok_b hk)
  refine lv_iconst (v := 0) hx hb dX9_weigh_43 (by decide) ?_
  refine lv_istore (lv' := [(6, .int (0 : Int32)), (0, .ref r0), (1, .int i1), (3, .int q8.1), (4, .long (0 : Int64))]) hx hb dX9_weigh_44 hl (by decide) rfl (fun ls hl => ?_)
  refine wl_X9_weigh_46 X r0 i1 q8.1 (Qo := _) (fun q41 hk H locs ls w hl => ?_) FU (0 : Int64) (0 : Int32) q16 _ _ _ w (lv_sub hl [1, 2, 3, 4, 0] rfl) (ok_b hk)
  refine lv_iconst (v := 0) hx hb dX9_weigh_102 (by decide) ?_
  refine lv_istore (lv' := [(6, .int (0 : Int32)), (0, .ref r0), (3, .int q8.1), (4, .long q41.1)]) hx hb dX9_weigh_103 hl (by decide) rfl (fun ls hl => ?_)
  refine wl_X9_weigh_105 X r0 q8.1 q41.1 (Qo := _) (fun q53 hk H locs ls w hl => ?_) FU (0 : Int32) q41.2 _ _ _ w (lv_sub hl [1, 2, 3, 0] rfl) (ok_b hk)
  have hk := hR _ (ok_s hk)
  exact zrv X hr hlk w dX9_weigh_134 hk
abbrev rm_X9_allWeights : Room := { frames := 0, cells := 0, slots := 0, locals := 0 }
set_option maxHeartbeats 4000000 in
set_option maxRecDepth 100000 in
theorem wb_X9_allWeights_4 {p : Program} {l : Launch} {e : Env} {s : State} {m : MethodId} {args : Array Value} {below : List Frame} {meth : Method} {c : Code} {D : va_G} {cy : Cyy} {A : Nat → Prop} {G : Gg} (X : Cx p m c cX9_allWeights 4 s args wz_X9_allWeights RX9 D cy) {Q : State → Prop} (M : Mm) (r0 : Nat) (Qo : Int64 → Prop)  (hE : ∀ (y : Int64), Qo (y) → ∀ (H : Heap) (locs : List Loc) (ls : Array Slot), Wo s D cy A G M H locs → lv_has ls 4 [(1, .long y)] → W p l e rm_X9_allWeights s m args below meth c H locs 0 0 Q (F0 m 25 ls [])) (rec : Int64 → Int32 → Option (Int64)) (hrec : ∀ (l1 : Int64) (i3 : Int32) (H : Heap) (locs : List Loc) (ls : Array Slot), Wo s D cy A G M H locs → lv_has ls 4 [(0, .ref r0), (1, .long l1), (3, .int i3)] → OK (rec l1 i3) Qo → W p l e rm_X9_allWeights s m args below meth c H locs 0 0 Q (F0 m 4 ls [])) (l1 : Int64) (i3 : Int32) (H : Heap) (locs : List Loc) (ls : Array Slot) (w : Wo s D cy A G M H locs) (hl : lv_has ls 4 [(0, .ref r0), (1, .long l1), (3, .int i3)]) (hk : OK (bd_X9_allWeights_4 G M r0 rec l1 i3) Qo) : W p l e rm_X9_allWeights s m args below meth c H locs 0 0 Q (F0 m 4 ls []) := by
    have hx := X.1.1
    have hb := X.1.2.1
    unfold bd_X9_allWeights_4 at hk
    refine lv_iload_n hx hb dX9_allWeights_4 rfl (lv_at hl 2 rfl) ?_
    refine lv_bipush (v := 8) hx hb dX9_allWeights_5 (by decide) ?_
    refine lv_icmp_ge (tgt := 25) hx hb dX9_allWeights_7 (by decide) (fun c1 => ?_) (fun c1 => ?_)
    · have hk := ok_p c1 hk
      exact hE l1 (ok_s hk) _ _ _ w (lv_sub hl [1] rfl)
    · have hk := ok_n c1 hk
      refine lv_lload_n hx hb dX9_allWeights_10 rfl (lv_at hl 1 rfl) ?_
      refine lv_aload_n hx hb dX9_allWeights_11 rfl (lv_at hl 0 rfl) ?_
      obtain ⟨c2, hk⟩ := ok_c hk
      obtain ⟨r3, e4, hk⟩ := ok_b hk
      refine zgr X w 9 12 38 (C := RX9) (T := TX9) (N := 23) rfl ui_X9 (by decide) rfl (tb wf_X9_38) dX9_allWeights_12 c2 e4 ?_
      refine lv_iload_n hx hb dX9_allWeights_15 rfl (lv_at hl 2 rfl) ?_
      obtain ⟨c5, hk⟩ := ok_c hk
      obtain ⟨c6, hk⟩ := ok_c hk
      refine zal X w dX9_allWeights_16 c5 c6 ?_
      refine lv_ladd hx hb dX9_allWeights_17 ?_
      refine lv_lstore_n (lv' := [(1, .long (l1 + (M.2.1 r3 (Int32.toNatClampNeg i3)))), (0, .ref r0), (3, .int i3)]) hx hb dX9_allWeights_18 rfl hl (by decide) rfl (fun ls hl => ?_)
      refine lv_iinc (v := (i3 + 1)) (lv' := [(3, .int (i3 + 1)), (1, .long (l1 + (M.2.1 r3 (Int32.toNatClampNeg i3)))), (0, .ref r0)]) hx hb dX9_allWeights_19 hl (k := 2) rfl rfl (by decide) rfl (fun ls hl => ?_)
      refine lv_goto (tgt := 4) hx hb dX9_allWeights_22 (by decide) ?_
      exact hrec (l1 + (M.2.1 r3 (Int32.toNatClampNeg i3))) (i3 + 1) _ _ _ w (lv_sub hl [2, 1, 0] rfl) hk
theorem wl_X9_allWeights_4 {p : Program} {l : Launch} {e : Env} {s : State} {m : MethodId} {args : Array Value} {below : List Frame} {meth : Method} {c : Code} {D : va_G} {cy : Cyy} {A : Nat → Prop} {G : Gg} (X : Cx p m c cX9_allWeights 4 s args wz_X9_allWeights RX9 D cy) {Q : State → Prop} (M : Mm) (r0 : Nat) (Qo : Int64 → Prop)  (hE : ∀ (y : Int64), Qo (y) → ∀ (H : Heap) (locs : List Loc) (ls : Array Slot), Wo s D cy A G M H locs → lv_has ls 4 [(1, .long y)] → W p l e rm_X9_allWeights s m args below meth c H locs 0 0 Q (F0 m 25 ls [])) : ∀ (n : Nat) (l1 : Int64) (i3 : Int32) (H : Heap) (locs : List Loc) (ls : Array Slot), Wo s D cy A G M H locs → lv_has ls 4 [(0, .ref r0), (1, .long l1), (3, .int i3)] → OK (lp_X9_allWeights_4 G M r0 n l1 i3) Qo → W p l e rm_X9_allWeights s m args below meth c H locs 0 0 Q (F0 m 4 ls []) := by
  intro n
  induction n with
  | zero => intro l1 i3 H locs ls w hl hk; exact ok_0 hk
  | succ n ih => intro l1 i3 H locs ls w hl hk; exact wb_X9_allWeights_4 X M r0 Qo hE  (lp_X9_allWeights_4 G M r0 n) ih l1 i3 H locs ls w hl hk
set_option maxHeartbeats 4000000 in
set_option maxRecDepth 100000 in
theorem c_X9_allWeights (l : Launch) (D : va_G) (cy : Cyy) (G : Gg) (M : Mm) (r0 : Nat) {q : Int64} (hm : f_X9_allWeights G M r0 = some q) : CL l yX9_allWeights wz_X9_allWeights rm_X9_allWeights D cy G M [.ref r0] q M := by
  refine Met_of (Qf := fun A => QL D cy G A q M) (cc := cX9_allWeights) (nL := 4) (ret := (some .long)) (own := RX9) (lv := [(0, .ref r0)]) (by decide) rfl rfl (Nat.le_of_ble_eq_true rfl) rfl ?_
  intro p e s m args below meth c A ls X hr hlk w hl
  have hx := X.1.1
  have hb := X.1.2.1
  obtain ⟨Qo, hR, hk⟩ : ∃ Qo : Int64 → Prop, (∀ x, Qo x → x = q) ∧ OK (f_X9_allWeights G M r0) Qo := ⟨fun x => x = q, fun _ h => h, q, hm, rfl⟩
  unfold f_X9_allWeights at hk
  refine lv_lconst (v := 0) hx hb dX9_allWeights_0 (by decide) ?_
  refine lv_lstore_n (lv' := [(1, .long (0 : Int64)), (0, .ref r0)]) hx hb dX9_allWeights_1 rfl hl (by decide) rfl (fun ls hl => ?_)
  refine lv_iconst (v := 0) hx hb dX9_allWeights_2 (by decide) ?_
  refine lv_istore_n (lv' := [(3, .int (0 : Int32)), (1, .long (0 : Int64)), (0, .ref r0)]) hx hb dX9_allWeights_3 rfl hl (by decide) rfl (fun ls hl => ?_)
  refine wl_X9_allWeights_4 X M r0 (Qo := _) (fun q7 hk H locs ls w hl => ?_) FU (0 : Int64) (0 : Int32) _ _ _ w (lv_sub hl [2, 1, 0] rfl) (ok_b hk)
  refine lv_lload_n hx hb dX9_allWeights_25 rfl (lv_at hl 0 rfl) ?_
  have hk := hR _ (ok_s hk)
  exact zrl X hr hlk w dX9_allWeights_26 hk rfl
abbrev rm_X9_isBothWays : Room := { frames := 1, cells := 0, slots := 0, locals := 23 }
set_option maxHeartbeats 4000000 in
set_option maxRecDepth 100000 in
theorem wb_X9_isBothWays_17 {p : Program} {l : Launch} {e : Env} {s : State} {m : MethodId} {args : Array Value} {below : List Frame} {meth : Method} {c : Code} {D : va_G} {cy : Cyy} {A : Nat → Prop} {G : Gg} (X : Cx p m c cX9_isBothWays 5 s args wz_X9_isBothWays RX9 D cy) (M : Mm) (r0 : Nat) (i1 : Int32) (i2 : Int32) (i3 : Int32) (Qo : (Int32) ⊕ (Unit) → Prop) (hr : meth.sig.returnType = (some .boolean)) (hlk : meth.locks = false) {x0 : Int32} (hR : ∀ x, Qo (.inl x) → x = x0) (hE : ∀ (y : Unit), Qo (.inr y) → ∀ (H : Heap) (locs : List Loc) (ls : Array Slot), Wo s D cy A G M H locs → lv_has ls 5 [(0, .ref r0), (1, .int i1), (2, .int i2), (3, .int i3)] → W p l e rm_X9_isBothWays s m args below meth c H locs 0 0 (MQ below (QI D cy G A x0 M) args s 0 0 A) (F0 m 68 ls [])) (rec : Int32 → Option ((Int32) ⊕ (Unit))) (hrec : ∀ (i4 : Int32) (H : Heap) (locs : List Loc) (ls : Array Slot), Wo s D cy A G M H locs → lv_has ls 5 [(0, .ref r0), (1, .int i1), (2, .int i2), (3, .int i3), (4, .int i4)] → OK (rec i4) Qo → W p l e rm_X9_isBothWays s m args below meth c H locs 0 0 (MQ below (QI D cy G A x0 M) args s 0 0 A) (F0 m 17 ls [])) (i4 : Int32) (H : Heap) (locs : List Loc) (ls : Array Slot) (w : Wo s D cy A G M H locs) (hl : lv_has ls 5 [(0, .ref r0), (1, .int i1), (2, .int i2), (3, .int i3), (4, .int i4)]) (hk : OK (bd_X9_isBothWays_17 G M r0 i1 i2 i3 rec i4) Qo) : W p l e rm_X9_isBothWays s m args below meth c H locs 0 0 (MQ below (QI D cy G A x0 M) args s 0 0 A) (F0 m 17 ls []) := by
    have hx := X.1.1
    have hb := X.1.2.1
    unfold bd_X9_isBothWays_17 at hk
    refine lv_iload hx hb dX9_isBothWays_17 (lv_at hl 4 rfl) ?_
    refine lv_iload_n hx hb dX9_isBothWays_19 rfl (lv_at hl 3 rfl) ?_
    refine lv_icmp_ge (tgt := 68) hx hb dX9_isBothWays_20 (by decide) (fun c7 => ?_) (fun c7 => ?_)
    · have hk := ok_p c7 hk
      exact hE () (ok_s hk) _ _ _ w (lv_sub hl [0, 1, 2, 3] rfl)
    · have hk := ok_n c7 hk
      refine lv_aload_n hx hb dX9_isBothWays_23 rfl (lv_at hl 0 rfl) ?_
      obtain ⟨c8, hk⟩ := ok_c hk
      obtain ⟨r9, e10, hk⟩ := ok_b hk
      refine zgr X w 9 12 38 (C := RX9) (T := TX9) (N := 23) rfl ui_X9 (by decide) rfl (tb wf_X9_38) dX9_isBothWays_24 c8 e10 ?_
      refine lv_iload_n hx hb dX9_isBothWays_27 rfl (lv_at hl 3 rfl) ?_
      obtain ⟨c11, hk⟩ := ok_c hk
      obtain ⟨c12, hk⟩ := ok_c hk
      refine zal X w dX9_isBothWays_28 c11 c12 ?_
      refine lv_aload_n hx hb dX9_isBothWays_29 rfl (lv_at hl 0 rfl) ?_
      refine lv_iload_n hx hb dX9_isBothWays_30 rfl (lv_at hl 1 rfl) ?_
      refine lv_iload_n hx hb dX9_isBothWays_31 rfl (lv_at hl 3 rfl) ?_
      refine lv_iload hx hb dX9_isBothWays_32 (lv_at hl 4 rfl) ?_
      obtain ⟨q13, e14, hk⟩ := ok_b hk
      refine zVi X w (n := 3) (As := [.int i1, .int i3, .int i4]) (rest := [.long (M.2.1 r9 (Int32.toNatClampNeg i3))]) (ci := 9) (C := RX9) (T := TX9) (N := 23) (c_X9_at l D cy G M r0 i1 i3 i4 e14) (gzV wm_X9_70 wi_X9_at ws_X9_at wn_X9 wc_X9_at) rfl rfl rfl (by decide +kernel) (by decide) rfl c8 rfl rfl hl.1 (Nat.le_of_ble_eq_true rfl) dX9_isBothWays_34 ⟨Nat.zero_le _, Nat.zero_le _⟩ (fun H locs w => ?_)
      refine lv_i2l hx hb dX9_isBothWays_37 rfl ?_
      refine lv_lmul hx hb dX9_isBothWays_38 ?_
      refine lv_aload_n hx hb dX9_isBothWays_39 rfl (lv_at hl 0 rfl) ?_
      refine zgr X w 9 12 38 (C := RX9) (T := TX9) (N := 23) rfl ui_X9 (by decide) rfl (tb wf_X9_38) dX9_isBothWays_40 c8 e10 ?_
      refine lv_iload hx hb dX9_isBothWays_43 (lv_at hl 4 rfl) ?_
      obtain ⟨c15, hk⟩ := ok_c hk
      refine zal X w dX9_isBothWays_45 c11 c15 ?_
      refine lv_aload_n hx hb dX9_isBothWays_46 rfl (lv_at hl 0 rfl) ?_
      refine lv_iload_n hx hb dX9_isBothWays_47 rfl (lv_at hl 1 rfl) ?_
      refine lv_iload hx hb dX9_isBothWays_48 (lv_at hl 4 rfl) ?_
      refine lv_iload_n hx hb dX9_isBothWays_50 rfl (lv_at hl 3 rfl) ?_
      obtain ⟨q16, e17, hk⟩ := ok_b hk
      refine zVi X w (n := 3) (As := [.int i1, .int i4, .int i3]) (rest := [.long (M.2.1 r9 (Int32.toNatClampNeg i4)), .long ((M.2.1 r9 (Int32.toNatClampNeg i3)) * (Int32.toInt64 q13))]) (ci := 9) (C := RX9) (T := TX9) (N := 23) (c_X9_at l D cy G M r0 i1 i4 i3 e17) (gzV wm_X9_70 wi_X9_at ws_X9_at wn_X9 wc_X9_at) rfl rfl rfl (by decide +kernel) (by decide) rfl c8 rfl rfl hl.1 (Nat.le_of_ble_eq_true rfl) dX9_isBothWays_51 ⟨Nat.zero_le _, Nat.zero_le _⟩ (fun H locs w => ?_)
      refine lv_i2l hx hb dX9_isBothWays_54 rfl ?_
      refine lv_lmul hx hb dX9_isBothWays_55 ?_
      refine W.lcmp hx hb dX9_isBothWays_56 ?_
      refine lv_if_eq (tgt := 62) hx hb dX9_isBothWays_57 (by decide) (fun c18 => ?_) (fun c18 => ?_)
      · have hk := ok_p c18 hk
        refine lv_iinc (v := (i4 + 1)) (lv' := [(4, .int (i4 + 1)), (0, .ref r0), (1, .int i1), (2, .int i2), (3, .int i3)]) hx hb dX9_isBothWays_62 hl (k := 4) rfl rfl (by decide) rfl (fun ls hl => ?_)
        refine lv_goto (tgt := 17) hx hb dX9_isBothWays_65 (by decide) ?_
        exact hrec (i4 + 1) _ _ _ w (lv_sub hl [1, 2, 3, 4, 0] rfl) hk
      · have hk := ok_n c18 hk
        refine lv_iconst (v := 0) hx hb dX9_isBothWays_60 (by decide) ?_
        have hk := hR _ (ok_s hk)
        exact zrz X hr hlk w dX9_isBothWays_61 (by decide) hk rfl
theorem wl_X9_isBothWays_17 {p : Program} {l : Launch} {e : Env} {s : State} {m : MethodId} {args : Array Value} {below : List Frame} {meth : Method} {c : Code} {D : va_G} {cy : Cyy} {A : Nat → Prop} {G : Gg} (X : Cx p m c cX9_isBothWays 5 s args wz_X9_isBothWays RX9 D cy) (M : Mm) (r0 : Nat) (i1 : Int32) (i2 : Int32) (i3 : Int32) (Qo : (Int32) ⊕ (Unit) → Prop) (hr : meth.sig.returnType = (some .boolean)) (hlk : meth.locks = false) {x0 : Int32} (hR : ∀ x, Qo (.inl x) → x = x0) (hE : ∀ (y : Unit), Qo (.inr y) → ∀ (H : Heap) (locs : List Loc) (ls : Array Slot), Wo s D cy A G M H locs → lv_has ls 5 [(0, .ref r0), (1, .int i1), (2, .int i2), (3, .int i3)] → W p l e rm_X9_isBothWays s m args below meth c H locs 0 0 (MQ below (QI D cy G A x0 M) args s 0 0 A) (F0 m 68 ls [])) : ∀ (n : Nat) (i4 : Int32) (H : Heap) (locs : List Loc) (ls : Array Slot), Wo s D cy A G M H locs → lv_has ls 5 [(0, .ref r0), (1, .int i1), (2, .int i2), (3, .int i3), (4, .int i4)] → OK (lp_X9_isBothWays_17 G M r0 i1 i2 i3 n i4) Qo → W p l e rm_X9_isBothWays s m args below meth c H locs 0 0 (MQ below (QI D cy G A x0 M) args s 0 0 A) (F0 m 17 ls []) := by
  intro n
  induction n with
  | zero => intro i4 H locs ls w hl hk; exact ok_0 hk
  | succ n ih => intro i4 H locs ls w hl hk; exact wb_X9_isBothWays_17 X M r0 i1 i2 i3 Qo hr hlk hR hE  (lp_X9_isBothWays_17 G M r0 i1 i2 i3 n) ih i4 H locs ls w hl hk
set_option maxHeartbeats 4000000 in
set_option maxRecDepth 100000 in
theorem wb_X9_isBothWays_9 {p : Program} {l : Launch} {e : Env} {s : State} {m : MethodId} {args : Array Value} {below : List Frame} {meth : Method} {c : Code} {D : va_G} {cy : Cyy} {A : Nat → Prop} {G : Gg} (X : Cx p m c cX9_isBothWays 5 s args wz_X9_isBothWays RX9 D cy) (M : Mm) (r0 : Nat) (i1 : Int32) (i2 : Int32) (Qo : (Int32) ⊕ (Unit) → Prop) (hr : meth.sig.returnType = (some .boolean)) (hlk : meth.locks = false) {x0 : Int32} (hR : ∀ x, Qo (.inl x) → x = x0) (hE : ∀ (y : Unit), Qo (.inr y) → ∀ (H : Heap) (locs : List Loc) (ls : Array Slot), Wo s D cy A G M H locs → lv_has ls 5 [] → W p l e rm_X9_isBothWays s m args below meth c H locs 0 0 (MQ below (QI D cy G A x0 M) args s 0 0 A) (F0 m 74 ls [])) (rec : Int32 → Option ((Int32) ⊕ (Unit))) (hrec : ∀ (i3 : Int32) (H : Heap) (locs : List Loc) (ls : Array Slot), Wo s D cy A G M H locs → lv_has ls 5 [(0, .ref r0), (1, .int i1), (2, .int i2), (3, .int i3)] → OK (rec i3) Qo → W p l e rm_X9_isBothWays s m args below meth c H locs 0 0 (MQ below (QI D cy G A x0 M) args s 0 0 A) (F0 m 9 ls [])) (i3 : Int32) (H : Heap) (locs : List Loc) (ls : Array Slot) (w : Wo s D cy A G M H locs) (hl : lv_has ls 5 [(0, .ref r0), (1, .int i1), (2, .int i2), (3, .int i3)]) (hk : OK (bd_X9_isBothWays_9 G M r0 i1 i2 rec i3) Qo) : W p l e rm_X9_isBothWays s m args below meth c H locs 0 0 (MQ below (QI D cy G A x0 M) args s 0 0 A) (F0 m 9 ls []) := by
    have hx := X.1.1
    have hb := X.1.2.1
    unfold bd_X9_isBothWays_9 at hk
    refine lv_iload_n hx hb dX9_isBothWays_9 rfl (lv_at hl 3 rfl) ?_
    refine lv_iload_n hx hb dX9_isBothWays_10 rfl (lv_at hl 2 rfl) ?_
    refine lv_icmp_ge (tgt := 74) hx hb dX9_isBothWays_11 (by decide) (fun c6 => ?_) (fun c6 => ?_)
    · have hk := ok_p c6 hk
      exact hE () (ok_s hk) _ _ _ w (lv_sub hl [] rfl)
    · have hk := ok_n c6 hk
      refine lv_iconst (v := 0) hx hb dX9_isBothWays_14 (by decide) ?_
      refine lv_istore (lv' := [(4, .int (0 : Int32)), (0, .ref r0), (1, .int i1), (2, .int i2), (3, .int i3)]) hx hb dX9_isBothWays_15 hl (by decide) rfl (fun ls hl => ?_)
      refine wl_X9_isBothWays_17 X M r0 i1 i2 i3 (Qo := _) hr hlk (fun x h => hR x (ok_s (show OK (some (.inl x)) Qo from h))) (fun y20 hk H locs ls w hl => ?_) FU (0 : Int32) _ _ _ w (lv_sub hl [1, 2, 3, 4, 0] rfl) (ok_b hk)
      have hk := ok_r hk
      refine lv_iinc (v := (i3 + 1)) (lv' := [(3, .int (i3 + 1)), (0, .ref r0), (1, .int i1), (2, .int i2)]) hx hb dX9_isBothWays_68 hl (k := 3) rfl rfl (by decide) rfl (fun ls hl => ?_)
      refine lv_goto (tgt := 9) hx hb dX9_isBothWays_71 (by decide) ?_
      exact hrec (i3 + 1) _ _ _ w (lv_sub hl [1, 2, 3, 0] rfl) hk
theorem wl_X9_isBothWays_9 {p : Program} {l : Launch} {e : Env} {s : State} {m : MethodId} {args : Array Value} {below : List Frame} {meth : Method} {c : Code} {D : va_G} {cy : Cyy} {A : Nat → Prop} {G : Gg} (X : Cx p m c cX9_isBothWays 5 s args wz_X9_isBothWays RX9 D cy) (M : Mm) (r0 : Nat) (i1 : Int32) (i2 : Int32) (Qo : (Int32) ⊕ (Unit) → Prop) (hr : meth.sig.returnType = (some .boolean)) (hlk : meth.locks = false) {x0 : Int32} (hR : ∀ x, Qo (.inl x) → x = x0) (hE : ∀ (y : Unit), Qo (.inr y) → ∀ (H : Heap) (locs : List Loc) (ls : Array Slot), Wo s D cy A G M H locs → lv_has ls 5 [] → W p l e rm_X9_isBothWays s m args below meth c H locs 0 0 (MQ below (QI D cy G A x0 M) args s 0 0 A) (F0 m 74 ls [])) : ∀ (n : Nat) (i3 : Int32) (H : Heap) (locs : List Loc) (ls : Array Slot), Wo s D cy A G M H locs → lv_has ls 5 [(0, .ref r0), (1, .int i1), (2, .int i2), (3, .int i3)] → OK (lp_X9_isBothWays_9 G M r0 i1 i2 n i3) Qo → W p l e rm_X9_isBothWays s m args below meth c H locs 0 0 (MQ below (QI D cy G A x0 M) args s 0 0 A) (F0 m 9 ls []) := by
  intro n
  induction n with
  | zero => intro i3 H locs ls w hl hk; exact ok_0 hk
  | succ n ih => intro i3 H locs ls w hl hk; exact wb_X9_isBothWays_9 X M r0 i1 i2 Qo hr hlk hR hE  (lp_X9_isBothWays_9 G M r0 i1 i2 n) ih i3 H locs ls w hl hk
set_option maxHeartbeats 4000000 in
set_option maxRecDepth 100000 in
theorem c_X9_isBothWays (l : Launch) (D : va_G) (cy : Cyy) (G : Gg) (M : Mm) (r0 : Nat) (i1 : Int32) {q : Int32} (hm : f_X9_isBothWays G M r0 i1 = some q) : CI l yX9_isBothWays wz_X9_isBothWays rm_X9_isBothWays D cy G M [.ref r0, .int i1] q M := by
  refine Met_of (Qf := fun A => QI D cy G A q M) (cc := cX9_isBothWays) (nL := 5) (ret := (some .boolean)) (own := RX9) (lv := [(0, .ref r0), (1, .int i1)]) (by decide) rfl rfl (Nat.le_of_ble_eq_true rfl) rfl ?_
  intro p e s m args below meth c A ls X hr hlk w hl
  have hx := X.1.1
  have hb := X.1.2.1
  obtain ⟨Qo, hR, hk⟩ : ∃ Qo : Int32 → Prop, (∀ x, Qo x → x = q) ∧ OK (f_X9_isBothWays G M r0 i1) Qo := ⟨fun x => x = q, fun _ h => h, q, hm, rfl⟩
  unfold f_X9_isBothWays at hk
  refine lv_aload_n hx hb dX9_isBothWays_0 rfl (lv_at hl 0 rfl) ?_
  obtain ⟨c1, hk⟩ := ok_c hk
  obtain ⟨r2, e3, hk⟩ := ok_b hk
  refine zgr X w 9 3 13 (C := RX9) (T := TX9) (N := 23) rfl ui_X9 (by decide) rfl (tb wf_X9_13) dX9_isBothWays_1 c1 e3 ?_
  refine lv_iload_n hx hb dX9_isBothWays_4 rfl (lv_at hl 1 rfl) ?_
  obtain ⟨c4, hk⟩ := ok_c hk
  obtain ⟨c5, hk⟩ := ok_c hk
  refine zai X w dX9_isBothWays_5 c4 c5 ?_
  refine lv_istore_n (lv' := [(2, .int (M.1 r2 (Int32.toNatClampNeg i1))), (0, .ref r0), (1, .int i1)]) hx hb dX9_isBothWays_6 rfl hl (by decide) rfl (fun ls hl => ?_)
  refine lv_iconst (v := 0) hx hb dX9_isBothWays_7 (by decide) ?_
  refine lv_istore_n (lv' := [(3, .int (0 : Int32)), (2, .int (M.1 r2 (Int32.toNatClampNeg i1))), (0, .ref r0), (1, .int i1)]) hx hb dX9_isBothWays_8 rfl hl (by decide) rfl (fun ls hl => ?_)
  refine wl_X9_isBothWays_9 X M r0 i1 (M.1 r2 (Int32.toNatClampNeg i1)) (Qo := _) hr hlk (fun x h => hR x (ok_s (show OK (some x) Qo from h))) (fun y23 hk H locs ls w hl => ?_) FU (0 : Int32) _ _ _ w (lv_sub hl [2, 3, 1, 0] rfl) (ok_b hk)
  have hk := ok_r hk
  refine lv_iconst (v := 1) hx hb dX9_isBothWays_74 (by decide) ?_
  have hk := hR _ (ok_s hk)
  exact zrz X hr hlk w dX9_isBothWays_75 (by decide) hk rfl
