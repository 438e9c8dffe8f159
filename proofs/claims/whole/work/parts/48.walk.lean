abbrev rm_X9_back : Room := { frames := 4, cells := 0, slots := 0, locals := 121 }
set_option maxHeartbeats 4000000 in
set_option maxRecDepth 100000 in
theorem wb_X9_back_65 {p : Program} {l : Launch} {e : Env} {s : State} {m : MethodId} {args : Array Value} {below : List Frame} {meth : Method} {c : Code} {D : va_G} {cy : Cyy} {A : Nat → Prop} {G : Gg} (X : Cx p m c cX9_back 12 s args wz_X9_back RX9 D cy) (M : Mm) (r0 : Nat) (i1 : Int32) (i2 : Int32) (i3 : Int32) (i6 : Int32) (Qo : (Int32 × Mm) ⊕ (Int64) → Prop) (hr : meth.sig.returnType = (some .int)) (hlk : meth.locks = false) {x0 : Int32 × Mm} (hR : ∀ x, Qo (.inl x) → x = x0) (hE : ∀ (y : Int64), Qo (.inr y) → ∀ (H : Heap) (locs : List Loc) (ls : Array Slot), Wo s D cy A G M H locs → lv_has ls 12 [(0, .ref r0), (1, .int i1), (2, .int i2), (3, .int i3), (4, .long y), (6, .int i6)] → W p l e rm_X9_back s m args below meth c H locs 0 0 (MQ below (QI D cy G A x0.1 x0.2) args s 0 0 A) (F0 m 148 ls [])) (rec : Int64 → Int32 → Option ((Int32 × Mm) ⊕ (Int64))) (hrec : ∀ (l4 : Int64) (i7 : Int32) (H : Heap) (locs : List Loc) (ls : Array Slot), Wo s D cy A G M H locs → lv_has ls 12 [(0, .ref r0), (1, .int i1), (2, .int i2), (3, .int i3), (4, .long l4), (6, .int i6), (7, .int i7)] → OK (rec l4 i7) Qo → W p l e rm_X9_back s m args below meth c H locs 0 0 (MQ below (QI D cy G A x0.1 x0.2) args s 0 0 A) (F0 m 65 ls [])) (l4 : Int64) (i7 : Int32) (H : Heap) (locs : List Loc) (ls : Array Slot) (w : Wo s D cy A G M H locs) (hl : lv_has ls 12 [(0, .ref r0), (1, .int i1), (2, .int i2), (3, .int i3), (4, .long l4), (6, .int i6), (7, .int i7)]) (hk : OK (bd_X9_back_65 G M r0 i1 i2 i3 i6 rec l4 i7) Qo) : W p l e rm_X9_back s m args below meth c H locs 0 0 (MQ below (QI D cy G A x0.1 x0.2) args s 0 0 A) (F0 m 65 ls []) := by
    have hx := X.1.1
    have hb := X.1.2.1
    unfold bd_X9_back_65 at hk
    refine lv_iload hx hb dX9_back_65 (lv_at hl 6 rfl) ?_
    refine lv_iload_n hx hb dX9_back_67 rfl (lv_at hl 3 rfl) ?_
    refine lv_icmp_ge (tgt := 148) hx hb dX9_back_68 (by decide) (fun c18 => ?_) (fun c18 => ?_)
    · have hk := ok_p c18 hk
      exact hE l4 (ok_s hk) _ _ _ w (lv_sub hl [0, 1, 2, 3, 4, 5] rfl)
    · have hk := ok_n c18 hk
      refine lv_aload_n hx hb dX9_back_71 rfl (lv_at hl 0 rfl) ?_
      obtain ⟨c19, hk⟩ := ok_c hk
      obtain ⟨r20, e21, hk⟩ := ok_b hk
      refine zgr X w 9 12 38 (C := RX9) (T := TX9) (N := 23) rfl ui_X9 (by decide) rfl (tb wf_X9_38) dX9_back_72 c19 e21 ?_
      refine lv_iload hx hb dX9_back_75 (lv_at hl 5 rfl) ?_
      obtain ⟨c22, hk⟩ := ok_c hk
      obtain ⟨c23, hk⟩ := ok_c hk
      refine zal X w dX9_back_77 c22 c23 ?_
      refine lv_aload_n hx hb dX9_back_78 rfl (lv_at hl 0 rfl) ?_
      obtain ⟨r24, e25, hk⟩ := ok_b hk
      refine zgr X w 9 4 16 (C := RX9) (T := TX9) (N := 23) rfl ui_X9 (by decide) rfl (tb wf_X9_16) dX9_back_79 c19 e25 ?_
      refine lv_iload_n hx hb dX9_back_82 rfl (lv_at hl 1 rfl) ?_
      obtain ⟨c26, hk⟩ := ok_c hk
      obtain ⟨c27, hk⟩ := ok_c hk
      refine zai X w dX9_back_83 c26 c27 ?_
      refine lv_i2l hx hb dX9_back_84 rfl ?_
      refine lv_lmul hx hb dX9_back_85 ?_
      refine lv_lstore (lv' := [(8, .long ((M.2.1 r20 (Int32.toNatClampNeg i6)) * (Int32.toInt64 (M.1 r24 (Int32.toNatClampNeg i1))))), (0, .ref r0), (1, .int i1), (2, .int i2), (3, .int i3), (4, .long l4), (6, .int i6), (7, .int i7)]) hx hb dX9_back_86 hl (by decide) rfl (fun ls hl => ?_)
      refine lv_lload hx hb dX9_back_88 (lv_at hl 0 rfl) ?_
      refine lv_aload_n hx hb dX9_back_90 rfl (lv_at hl 1 rfl) ?_
      refine zgr X w 9 12 38 (C := RX9) (T := TX9) (N := 23) rfl ui_X9 (by decide) rfl (tb wf_X9_38) dX9_back_91 c19 e21 ?_
      refine lv_iload hx hb dX9_back_94 (lv_at hl 7 rfl) ?_
      obtain ⟨c28, hk⟩ := ok_c hk
      refine zal X w dX9_back_96 c22 c28 ?_
      refine lv_aload_n hx hb dX9_back_97 rfl (lv_at hl 1 rfl) ?_
      refine lv_iload_n hx hb dX9_back_98 rfl (lv_at hl 2 rfl) ?_
      refine lv_iload hx hb dX9_back_99 (lv_at hl 7 rfl) ?_
      refine lv_iload hx hb dX9_back_101 (lv_at hl 6 rfl) ?_
      obtain ⟨q29, e30, hk⟩ := ok_b hk
      refine zVi X w (n := 3) (As := [.int i1, .int i7, .int i6]) (rest := [.long (M.2.1 r20 (Int32.toNatClampNeg i7)), .long ((M.2.1 r20 (Int32.toNatClampNeg i6)) * (Int32.toInt64 (M.1 r24 (Int32.toNatClampNeg i1))))]) (ci := 9) (C := RX9) (T := TX9) (N := 23) (c_X9_at l D cy G M r0 i1 i7 i6 e30) (gzV wm_X9_70 wi_X9_at ws_X9_at wn_X9 wc_X9_at) rfl rfl rfl (by decide +kernel) (by decide) rfl c19 rfl rfl hl.1 (Nat.le_of_ble_eq_true rfl) dX9_back_103 ⟨Nat.zero_le _, Nat.zero_le _⟩ (fun H locs w => ?_)
      refine lv_i2l hx hb dX9_back_106 rfl ?_
      refine lv_lmul hx hb dX9_back_107 ?_
      refine lv_lload hx hb dX9_back_108 (lv_at hl 0 rfl) ?_
      obtain ⟨q31, e32, hk⟩ := ok_b hk
      refine zSl X w (n := 2) (As := [.long ((M.2.1 r20 (Int32.toNatClampNeg i7)) * (Int32.toInt64 q29)), .long ((M.2.1 r20 (Int32.toNatClampNeg i6)) * (Int32.toInt64 (M.1 r24 (Int32.toNatClampNeg i1))))]) (rest := [.long ((M.2.1 r20 (Int32.toNatClampNeg i6)) * (Int32.toInt64 (M.1 r24 (Int32.toNatClampNeg i1))))]) (c_X9_common l D cy G M ((M.2.1 r20 (Int32.toNatClampNeg i7)) * (Int32.toInt64 q29)) ((M.2.1 r20 (Int32.toNatClampNeg i6)) * (Int32.toInt64 (M.1 r24 (Int32.toNatClampNeg i1)))) e32) (gzS wm_X9_74 wt_X9_common wn_X9 wc_X9_common) rfl rfl rfl (by decide +kernel) (by decide) rfl rfl hl.1 (Nat.le_of_ble_eq_true rfl) dX9_back_110 ⟨Nat.zero_le _, Nat.zero_le _⟩ (fun H locs w => ?_)
      obtain ⟨c33, hk⟩ := ok_c hk
      refine lv_ldiv hx hb dX9_back_113 c33 ?_
      refine lv_lstore (lv' := [(10, .long (((M.2.1 r20 (Int32.toNatClampNeg i6)) * (Int32.toInt64 (M.1 r24 (Int32.toNatClampNeg i1)))) / q31)), (8, .long ((M.2.1 r20 (Int32.toNatClampNeg i6)) * (Int32.toInt64 (M.1 r24 (Int32.toNatClampNeg i1))))), (0, .ref r0), (1, .int i1), (2, .int i2), (3, .int i3), (4, .long l4), (6, .int i6), (7, .int i7)]) hx hb dX9_back_114 hl (by decide) rfl (fun ls hl => ?_)
      refine lv_lload hx hb dX9_back_116 (lv_at hl 6 rfl) ?_
      refine lv_lload hx hb dX9_back_118 (lv_at hl 6 rfl) ?_
      refine lv_lload hx hb dX9_back_120 (lv_at hl 0 rfl) ?_
      obtain ⟨q34, e35, hk⟩ := ok_b hk
      refine zSl X w (n := 2) (As := [.long l4, .long (((M.2.1 r20 (Int32.toNatClampNeg i6)) * (Int32.toInt64 (M.1 r24 (Int32.toNatClampNeg i1)))) / q31)]) (rest := [.long l4]) (c_X9_common l D cy G M l4 (((M.2.1 r20 (Int32.toNatClampNeg i6)) * (Int32.toInt64 (M.1 r24 (Int32.toNatClampNeg i1)))) / q31) e35) (gzS wm_X9_74 wt_X9_common wn_X9 wc_X9_common) rfl rfl rfl (by decide +kernel) (by decide) rfl rfl hl.1 (Nat.le_of_ble_eq_true rfl) dX9_back_122 ⟨Nat.zero_le _, Nat.zero_le _⟩ (fun H locs w => ?_)
      obtain ⟨c36, hk⟩ := ok_c hk
      refine lv_ldiv hx hb dX9_back_125 c36 ?_
      refine lv_lload hx hb dX9_back_126 (lv_at hl 0 rfl) ?_
      refine lv_lmul hx hb dX9_back_128 ?_
      refine lv_lstore (lv' := [(4, .long ((l4 / q34) * (((M.2.1 r20 (Int32.toNatClampNeg i6)) * (Int32.toInt64 (M.1 r24 (Int32.toNatClampNeg i1)))) / q31))), (10, .long (((M.2.1 r20 (Int32.toNatClampNeg i6)) * (Int32.toInt64 (M.1 r24 (Int32.toNatClampNeg i1)))) / q31)), (8, .long ((M.2.1 r20 (Int32.toNatClampNeg i6)) * (Int32.toInt64 (M.1 r24 (Int32.toNatClampNeg i1))))), (0, .ref r0), (1, .int i1), (2, .int i2), (3, .int i3), (6, .int i6), (7, .int i7)]) hx hb dX9_back_129 hl (by decide) rfl (fun ls hl => ?_)
      refine lv_lload hx hb dX9_back_131 (lv_at hl 0 rfl) ?_
      refine zldc2 X (v := 60) (tb wk_X9_144) dX9_back_133 ?_
      refine W.lcmp hx hb dX9_back_136 ?_
      refine lv_if_le (tgt := 142) hx hb dX9_back_137 (by decide) (fun c37 => ?_) (fun c37 => ?_)
      · have hk := ok_p c37 hk
        refine lv_iinc (v := (i7 + 1)) (lv' := [(7, .int (i7 + 1)), (4, .long ((l4 / q34) * (((M.2.1 r20 (Int32.toNatClampNeg i6)) * (Int32.toInt64 (M.1 r24 (Int32.toNatClampNeg i1)))) / q31))), (10, .long (((M.2.1 r20 (Int32.toNatClampNeg i6)) * (Int32.toInt64 (M.1 r24 (Int32.toNatClampNeg i1)))) / q31)), (8, .long ((M.2.1 r20 (Int32.toNatClampNeg i6)) * (Int32.toInt64 (M.1 r24 (Int32.toNatClampNeg i1))))), (0, .ref r0), (1, .int i1), (2, .int i2), (3, .int i3), (6, .int i6)]) hx hb dX9_back_142 hl (k := 8) rfl rfl (by decide) rfl (fun ls hl => ?_)
        refine lv_goto (tgt := 65) hx hb dX9_back_145 (by decide) ?_
        exact hrec ((l4 / q34) * (((M.2.1 r20 (Int32.toNatClampNeg i6)) * (Int32.toInt64 (M.1 r24 (Int32.toNatClampNeg i1)))) / q31)) (i7 + 1) _ _ _ w (lv_sub hl [4, 5, 6, 7, 1, 8, 0] rfl) hk
      · have hk := ok_n c37 hk
        refine lv_iconst (v := (-1)) hx hb dX9_back_140 (by decide) ?_
        have hk := hR _ (ok_s hk)
        exact zri X hr hlk w dX9_back_141 (pr1 hk) (pr2 hk)
theorem wl_X9_back_65 {p : Program} {l : Launch} {e : Env} {s : State} {m : MethodId} {args : Array Value} {below : List Frame} {meth : Method} {c : Code} {D : va_G} {cy : Cyy} {A : Nat → Prop} {G : Gg} (X : Cx p m c cX9_back 12 s args wz_X9_back RX9 D cy) (M : Mm) (r0 : Nat) (i1 : Int32) (i2 : Int32) (i3 : Int32) (i6 : Int32) (Qo : (Int32 × Mm) ⊕ (Int64) → Prop) (hr : meth.sig.returnType = (some .int)) (hlk : meth.locks = false) {x0 : Int32 × Mm} (hR : ∀ x, Qo (.inl x) → x = x0) (hE : ∀ (y : Int64), Qo (.inr y) → ∀ (H : Heap) (locs : List Loc) (ls : Array Slot), Wo s D cy A G M H locs → lv_has ls 12 [(0, .ref r0), (1, .int i1), (2, .int i2), (3, .int i3), (4, .long y), (6, .int i6)] → W p l e rm_X9_back s m args below meth c H locs 0 0 (MQ below (QI D cy G A x0.1 x0.2) args s 0 0 A) (F0 m 148 ls [])) : ∀ (n : Nat) (l4 : Int64) (i7 : Int32) (H : Heap) (locs : List Loc) (ls : Array Slot), Wo s D cy A G M H locs → lv_has ls 12 [(0, .ref r0), (1, .int i1), (2, .int i2), (3, .int i3), (4, .long l4), (6, .int i6), (7, .int i7)] → OK (lp_X9_back_65 G M r0 i1 i2 i3 i6 n l4 i7) Qo → W p l e rm_X9_back s m args below meth c H locs 0 0 (MQ below (QI D cy G A x0.1 x0.2) args s 0 0 A) (F0 m 65 ls []) := by
  intro n
  induction n with
  | zero => intro l4 i7 H locs ls w hl hk; exact ok_0 hk
  | succ n ih => intro l4 i7 H locs ls w hl hk; exact wb_X9_back_65 X M r0 i1 i2 i3 i6 Qo hr hlk hR hE  (lp_X9_back_65 G M r0 i1 i2 i3 i6 n) ih l4 i7 H locs ls w hl hk
set_option maxHeartbeats 4000000 in
set_option maxRecDepth 100000 in
theorem wb_X9_back_56 {p : Program} {l : Launch} {e : Env} {s : State} {m : MethodId} {args : Array Value} {below : List Frame} {meth : Method} {c : Code} {D : va_G} {cy : Cyy} {A : Nat → Prop} {G : Gg} (X : Cx p m c cX9_back 12 s args wz_X9_back RX9 D cy) (M : Mm) (r0 : Nat) (i1 : Int32) (i2 : Int32) (i3 : Int32) (Qo : (Int32 × Mm) ⊕ (Int64) → Prop) (hr : meth.sig.returnType = (some .int)) (hlk : meth.locks = false) {x0 : Int32 × Mm} (hR : ∀ x, Qo (.inl x) → x = x0) (hE : ∀ (y : Int64), Qo (.inr y) → ∀ (H : Heap) (locs : List Loc) (ls : Array Slot), Wo s D cy A G M H locs → lv_has ls 12 [(0, .ref r0), (1, .int i1), (2, .int i2), (3, .int i3), (4, .long y)] → W p l e rm_X9_back s m args below meth c H locs 0 0 (MQ below (QI D cy G A x0.1 x0.2) args s 0 0 A) (F0 m 154 ls [])) (rec : Int64 → Int32 → Option ((Int32 × Mm) ⊕ (Int64))) (hrec : ∀ (l4 : Int64) (i6 : Int32) (H : Heap) (locs : List Loc) (ls : Array Slot), Wo s D cy A G M H locs → lv_has ls 12 [(0, .ref r0), (1, .int i1), (2, .int i2), (3, .int i3), (4, .long l4), (6, .int i6)] → OK (rec l4 i6) Qo → W p l e rm_X9_back s m args below meth c H locs 0 0 (MQ below (QI D cy G A x0.1 x0.2) args s 0 0 A) (F0 m 56 ls [])) (l4 : Int64) (i6 : Int32) (H : Heap) (locs : List Loc) (ls : Array Slot) (w : Wo s D cy A G M H locs) (hl : lv_has ls 12 [(0, .ref r0), (1, .int i1), (2, .int i2), (3, .int i3), (4, .long l4), (6, .int i6)]) (hk : OK (bd_X9_back_56 G M r0 i1 i2 i3 rec l4 i6) Qo) : W p l e rm_X9_back s m args below meth c H locs 0 0 (MQ below (QI D cy G A x0.1 x0.2) args s 0 0 A) (F0 m 56 ls []) := by
    have hx := X.1.1
    have hb := X.1.2.1
    unfold bd_X9_back_56 at hk
    refine lv_iload hx hb dX9_back_56 (lv_at hl 5 rfl) ?_
    refine lv_iload_n hx hb dX9_back_58 rfl (lv_at hl 3 rfl) ?_
    refine lv_icmp_ge (tgt := 154) hx hb dX9_back_59 (by decide) (fun c17 => ?_) (fun c17 => ?_)
    · have hk := ok_p c17 hk
      exact hE l4 (ok_s hk) _ _ _ w (lv_sub hl [0, 1, 2, 3, 4] rfl)
    · have hk := ok_n c17 hk
      refine lv_iconst (v := 0) hx hb dX9_back_62 (by decide) ?_
      refine lv_istore (lv' := [(7, .int (0 : Int32)), (0, .ref r0), (1, .int i1), (2, .int i2), (3, .int i3), (4, .long l4), (6, .int i6)]) hx hb dX9_back_63 hl (by decide) rfl (fun ls hl => ?_)
      refine wl_X9_back_65 X M r0 i1 i2 i3 i6 (Qo := _) hr hlk (fun x h => hR x (ok_s (show OK (some (.inl x)) Qo from h))) (fun y39 hk H locs ls w hl => ?_) FU l4 (0 : Int32) _ _ _ w (lv_sub hl [1, 2, 3, 4, 5, 6, 0] rfl) (ok_b hk)
      have hk := ok_r hk
      refine lv_iinc (v := (i6 + 1)) (lv' := [(6, .int (i6 + 1)), (0, .ref r0), (1, .int i1), (2, .int i2), (3, .int i3), (4, .long y39)]) hx hb dX9_back_148 hl (k := 5) rfl rfl (by decide) rfl (fun ls hl => ?_)
      refine lv_goto (tgt := 56) hx hb dX9_back_151 (by decide) ?_
      exact hrec y39 (i6 + 1) _ _ _ w (lv_sub hl [1, 2, 3, 4, 5, 0] rfl) hk
theorem wl_X9_back_56 {p : Program} {l : Launch} {e : Env} {s : State} {m : MethodId} {args : Array Value} {below : List Frame} {meth : Method} {c : Code} {D : va_G} {cy : Cyy} {A : Nat → Prop} {G : Gg} (X : Cx p m c cX9_back 12 s args wz_X9_back RX9 D cy) (M : Mm) (r0 : Nat) (i1 : Int32) (i2 : Int32) (i3 : Int32) (Qo : (Int32 × Mm) ⊕ (Int64) → Prop) (hr : meth.sig.returnType = (some .int)) (hlk : meth.locks = false) {x0 : Int32 × Mm} (hR : ∀ x, Qo (.inl x) → x = x0) (hE : ∀ (y : Int64), Qo (.inr y) → ∀ (H : Heap) (locs : List Loc) (ls : Array Slot), Wo s D cy A G M H locs → lv_has ls 12 [(0, .ref r0), (1, .int i1), (2, .int i2), (3, .int i3), (4, .long y)] → W p l e rm_X9_back s m args below meth c H locs 0 0 (MQ below (QI D cy G A x0.1 x0.2) args s 0 0 A) (F0 m 154 ls [])) : ∀ (n : Nat) (l4 : Int64) (i6 : Int32) (H : Heap) (locs : List Loc) (ls : Array Slot), Wo s D cy A G M H locs → lv_has ls 12 [(0, .ref r0), (1, .int i1), (2, .int i2), (3, .int i3), (4, .long l4), (6, .int i6)] → OK (lp_X9_back_56 G M r0 i1 i2 i3 n l4 i6) Qo → W p l e rm_X9_back s m args below meth c H locs 0 0 (MQ below (QI D cy G A x0.1 x0.2) args s 0 0 A) (F0 m 56 ls []) := by
  intro n
  induction n with
  | zero => intro l4 i6 H locs ls w hl hk; exact ok_0 hk
  | succ n ih => intro l4 i6 H locs ls w hl hk; exact wb_X9_back_56 X M r0 i1 i2 i3 Qo hr hlk hR hE  (lp_X9_back_56 G M r0 i1 i2 i3 n) ih l4 i6 H locs ls w hl hk
set_option maxHeartbeats 4000000 in
set_option maxRecDepth 100000 in
theorem wb_X9_back_166 {p : Program} {l : Launch} {e : Env} {s : State} {m : MethodId} {args : Array Value} {below : List Frame} {meth : Method} {c : Code} {D : va_G} {cy : Cyy} {A : Nat → Prop} {G : Gg} (X : Cx p m c cX9_back 12 s args wz_X9_back RX9 D cy) {Q : State → Prop} (r0 : Nat) (i1 : Int32) (i2 : Int32) (i3 : Int32) (l4 : Int64) (i6 : Int32) (Qo : Mm → Prop)  (hE : ∀ (y : Mm), Qo (y) → ∀ (H : Heap) (locs : List Loc) (ls : Array Slot), Wo s D cy A G y H locs → lv_has ls 12 [(0, .ref r0), (1, .int i1), (2, .int i2), (3, .int i3), (4, .long l4), (6, .int i6)] → W p l e rm_X9_back s m args below meth c H locs 0 0 Q (F0 m 259 ls [])) (rec : Int32 → Mm → Option (Mm)) (hrec : ∀ (i7 : Int32) (M : Mm) (H : Heap) (locs : List Loc) (ls : Array Slot), Wo s D cy A G M H locs → lv_has ls 12 [(0, .ref r0), (1, .int i1), (2, .int i2), (3, .int i3), (4, .long l4), (6, .int i6), (7, .int i7)] → OK (rec i7 M) Qo → W p l e rm_X9_back s m args below meth c H locs 0 0 Q (F0 m 166 ls [])) (i7 : Int32) (M : Mm) (H : Heap) (locs : List Loc) (ls : Array Slot) (w : Wo s D cy A G M H locs) (hl : lv_has ls 12 [(0, .ref r0), (1, .int i1), (2, .int i2), (3, .int i3), (4, .long l4), (6, .int i6), (7, .int i7)]) (hk : OK (bd_X9_back_166 G r0 i1 i2 i3 l4 i6 rec i7 M) Qo) : W p l e rm_X9_back s m args below meth c H locs 0 0 Q (F0 m 166 ls []) := by
    have hx := X.1.1
    have hb := X.1.2.1
    unfold bd_X9_back_166 at hk
    refine lv_iload hx hb dX9_back_166 (lv_at hl 6 rfl) ?_
    refine lv_iload_n hx hb dX9_back_168 rfl (lv_at hl 3 rfl) ?_
    refine lv_icmp_ge (tgt := 259) hx hb dX9_back_169 (by decide) (fun c45 => ?_) (fun c45 => ?_)
    · have hk := ok_p c45 hk
      exact hE M (ok_s hk) _ _ _ w (lv_sub hl [0, 1, 2, 3, 4, 5] rfl)
    · have hk := ok_n c45 hk
      refine lv_aload_n hx hb dX9_back_172 rfl (lv_at hl 0 rfl) ?_
      obtain ⟨c46, hk⟩ := ok_c hk
      obtain ⟨r47, e48, hk⟩ := ok_b hk
      refine zgr X w 9 12 38 (C := RX9) (T := TX9) (N := 23) rfl ui_X9 (by decide) rfl (tb wf_X9_38) dX9_back_173 c46 e48 ?_
      refine lv_iload hx hb dX9_back_176 (lv_at hl 5 rfl) ?_
      obtain ⟨c49, hk⟩ := ok_c hk
      obtain ⟨c50, hk⟩ := ok_c hk
      refine zal X w dX9_back_178 c49 c50 ?_
      refine lv_aload_n hx hb dX9_back_179 rfl (lv_at hl 0 rfl) ?_
      obtain ⟨r51, e52, hk⟩ := ok_b hk
      refine zgr X w 9 4 16 (C := RX9) (T := TX9) (N := 23) rfl ui_X9 (by decide) rfl (tb wf_X9_16) dX9_back_180 c46 e52 ?_
      refine lv_iload_n hx hb dX9_back_183 rfl (lv_at hl 1 rfl) ?_
      obtain ⟨c53, hk⟩ := ok_c hk
      obtain ⟨c54, hk⟩ := ok_c hk
      refine zai X w dX9_back_184 c53 c54 ?_
      refine lv_i2l hx hb dX9_back_185 rfl ?_
      refine lv_lmul hx hb dX9_back_186 ?_
      refine lv_lstore (lv' := [(8, .long ((M.2.1 r47 (Int32.toNatClampNeg i6)) * (Int32.toInt64 (M.1 r51 (Int32.toNatClampNeg i1))))), (0, .ref r0), (1, .int i1), (2, .int i2), (3, .int i3), (4, .long l4), (6, .int i6), (7, .int i7)]) hx hb dX9_back_187 hl (by decide) rfl (fun ls hl => ?_)
      refine lv_aload_n hx hb dX9_back_189 rfl (lv_at hl 1 rfl) ?_
      refine zgr X w 9 12 38 (C := RX9) (T := TX9) (N := 23) rfl ui_X9 (by decide) rfl (tb wf_X9_38) dX9_back_190 c46 e48 ?_
      refine lv_iload hx hb dX9_back_193 (lv_at hl 7 rfl) ?_
      obtain ⟨c55, hk⟩ := ok_c hk
      refine zal X w dX9_back_195 c49 c55 ?_
      refine lv_aload_n hx hb dX9_back_196 rfl (lv_at hl 1 rfl) ?_
      refine lv_iload_n hx hb dX9_back_197 rfl (lv_at hl 2 rfl) ?_
      refine lv_iload hx hb dX9_back_198 (lv_at hl 7 rfl) ?_
      refine lv_iload hx hb dX9_back_200 (lv_at hl 6 rfl) ?_
      obtain ⟨q56, e57, hk⟩ := ok_b hk
      refine zVi X w (n := 3) (As := [.int i1, .int i7, .int i6]) (rest := [.long (M.2.1 r47 (Int32.toNatClampNeg i7))]) (ci := 9) (C := RX9) (T := TX9) (N := 23) (c_X9_at l D cy G M r0 i1 i7 i6 e57) (gzV wm_X9_70 wi_X9_at ws_X9_at wn_X9 wc_X9_at) rfl rfl rfl (by decide +kernel) (by decide) rfl c46 rfl rfl hl.1 (Nat.le_of_ble_eq_true rfl) dX9_back_202 ⟨Nat.zero_le _, Nat.zero_le _⟩ (fun H locs w => ?_)
      refine lv_i2l hx hb dX9_back_205 rfl ?_
      refine lv_lmul hx hb dX9_back_206 ?_
      refine lv_lload hx hb dX9_back_207 (lv_at hl 0 rfl) ?_
      obtain ⟨q58, e59, hk⟩ := ok_b hk
      refine zSl X w (n := 2) (As := [.long ((M.2.1 r47 (Int32.toNatClampNeg i7)) * (Int32.toInt64 q56)), .long ((M.2.1 r47 (Int32.toNatClampNeg i6)) * (Int32.toInt64 (M.1 r51 (Int32.toNatClampNeg i1))))]) (rest := []) (c_X9_common l D cy G M ((M.2.1 r47 (Int32.toNatClampNeg i7)) * (Int32.toInt64 q56)) ((M.2.1 r47 (Int32.toNatClampNeg i6)) * (Int32.toInt64 (M.1 r51 (Int32.toNatClampNeg i1)))) e59) (gzS wm_X9_74 wt_X9_common wn_X9 wc_X9_common) rfl rfl rfl (by decide +kernel) (by decide) rfl rfl hl.1 (Nat.le_of_ble_eq_true rfl) dX9_back_209 ⟨Nat.zero_le _, Nat.zero_le _⟩ (fun H locs w => ?_)
      refine lv_lstore (lv' := [(10, .long q58), (8, .long ((M.2.1 r47 (Int32.toNatClampNeg i6)) * (Int32.toInt64 (M.1 r51 (Int32.toNatClampNeg i1))))), (0, .ref r0), (1, .int i1), (2, .int i2), (3, .int i3), (4, .long l4), (6, .int i6), (7, .int i7)]) hx hb dX9_back_212 hl (by decide) rfl (fun ls hl => ?_)
      refine lv_aload_n hx hb dX9_back_214 rfl (lv_at hl 2 rfl) ?_
      refine lv_iload hx hb dX9_back_215 (lv_at hl 7 rfl) ?_
      refine lv_iload hx hb dX9_back_217 (lv_at hl 8 rfl) ?_
      refine lv_aload_n hx hb dX9_back_219 rfl (lv_at hl 2 rfl) ?_
      refine zgr X w 9 12 38 (C := RX9) (T := TX9) (N := 23) rfl ui_X9 (by decide) rfl (tb wf_X9_38) dX9_back_220 c46 e48 ?_
      refine lv_iload hx hb dX9_back_223 (lv_at hl 8 rfl) ?_
      refine zal X w dX9_back_225 c49 c55 ?_
      refine lv_aload_n hx hb dX9_back_226 rfl (lv_at hl 2 rfl) ?_
      refine lv_iload_n hx hb dX9_back_227 rfl (lv_at hl 3 rfl) ?_
      refine lv_iload hx hb dX9_back_228 (lv_at hl 8 rfl) ?_
      refine lv_iload hx hb dX9_back_230 (lv_at hl 7 rfl) ?_
      obtain ⟨q60, e61, hk⟩ := ok_b hk
      refine zVi X w (n := 3) (As := [.int i1, .int i7, .int i6]) (rest := [.long (M.2.1 r47 (Int32.toNatClampNeg i7)), .int i7, .int i6, .ref r0]) (ci := 9) (C := RX9) (T := TX9) (N := 23) (c_X9_at l D cy G M r0 i1 i7 i6 e61) (gzV wm_X9_70 wi_X9_at ws_X9_at wn_X9 wc_X9_at) rfl rfl rfl (by decide +kernel) (by decide) rfl c46 rfl rfl hl.1 (Nat.le_of_ble_eq_true rfl) dX9_back_232 ⟨Nat.zero_le _, Nat.zero_le _⟩ (fun H locs w => ?_)
      refine lv_i2l hx hb dX9_back_235 rfl ?_
      refine lv_lmul hx hb dX9_back_236 ?_
      refine lv_lload hx hb dX9_back_237 (lv_at hl 0 rfl) ?_
      obtain ⟨c62, hk⟩ := ok_c hk
      refine lv_ldiv hx hb dX9_back_239 c62 ?_
      refine lv_lload hx hb dX9_back_240 (lv_at hl 6 rfl) ?_
      refine lv_lload hx hb dX9_back_242 (lv_at hl 1 rfl) ?_
      refine lv_lload hx hb dX9_back_244 (lv_at hl 0 rfl) ?_
      refine lv_ldiv hx hb dX9_back_246 c62 ?_
      obtain ⟨c63, hk⟩ := ok_c hk
      refine lv_ldiv hx hb dX9_back_247 c63 ?_
      refine lv_lmul hx hb dX9_back_248 ?_
      refine lv_l2i hx hb dX9_back_249 rfl ?_
      obtain ⟨q64, e65, hk⟩ := ok_b hk
      refine zVv X w (n := 3) (As := [.int i6, .int i7, .int (Int64.toInt32 ((((M.2.1 r47 (Int32.toNatClampNeg i7)) * (Int32.toInt64 q60)) / q58) * (l4 / (((M.2.1 r47 (Int32.toNatClampNeg i6)) * (Int32.toInt64 (M.1 r51 (Int32.toNatClampNeg i1)))) / q58))))]) (rest := []) (ci := 9) (C := RX9) (T := TX9) (N := 23) (c_X9_make l D cy G M r0 i6 i7 (Int64.toInt32 ((((M.2.1 r47 (Int32.toNatClampNeg i7)) * (Int32.toInt64 q60)) / q58) * (l4 / (((M.2.1 r47 (Int32.toNatClampNeg i6)) * (Int32.toInt64 (M.1 r51 (Int32.toNatClampNeg i1)))) / q58)))) e65) (gzV wm_X9_82 wi_X9_make ws_X9_make wn_X9 wc_X9_make) rfl rfl rfl (by decide +kernel) (by decide) rfl c46 rfl rfl hl.1 (Nat.le_of_ble_eq_true rfl) dX9_back_250 ⟨Nat.zero_le _, Nat.zero_le _⟩ (fun H locs w => ?_)
      refine lv_iinc (v := (i7 + 1)) (lv' := [(7, .int (i7 + 1)), (10, .long q58), (8, .long ((M.2.1 r47 (Int32.toNatClampNeg i6)) * (Int32.toInt64 (M.1 r51 (Int32.toNatClampNeg i1))))), (0, .ref r0), (1, .int i1), (2, .int i2), (3, .int i3), (4, .long l4), (6, .int i6)]) hx hb dX9_back_253 hl (k := 8) rfl rfl (by decide) rfl (fun ls hl => ?_)
      refine lv_goto (tgt := 166) hx hb dX9_back_256 (by decide) ?_
      exact hrec (i7 + 1) q64 _ _ _ w (lv_sub hl [3, 4, 5, 6, 7, 8, 0] rfl) hk
theorem wl_X9_back_166 {p : Program} {l : Launch} {e : Env} {s : State} {m : MethodId} {args : Array Value} {below : List Frame} {meth : Method} {c : Code} {D : va_G} {cy : Cyy} {A : Nat → Prop} {G : Gg} (X : Cx p m c cX9_back 12 s args wz_X9_back RX9 D cy) {Q : State → Prop} (r0 : Nat) (i1 : Int32) (i2 : Int32) (i3 : Int32) (l4 : Int64) (i6 : Int32) (Qo : Mm → Prop)  (hE : ∀ (y : Mm), Qo (y) → ∀ (H : Heap) (locs : List Loc) (ls : Array Slot), Wo s D cy A G y H locs → lv_has ls 12 [(0, .ref r0), (1, .int i1), (2, .int i2), (3, .int i3), (4, .long l4), (6, .int i6)] → W p l e rm_X9_back s m args below meth c H locs 0 0 Q (F0 m 259 ls [])) : ∀ (n : Nat) (i7 : Int32) (M : Mm) (H : Heap) (locs : List Loc) (ls : Array Slot), Wo s D cy A G M H locs → lv_has ls 12 [(0, .ref r0), (1, .int i1), (2, .int i2), (3, .int i3), (4, .long l4), (6, .int i6), (7, .int i7)] → OK (lp_X9_back_166 G r0 i1 i2 i3 l4 i6 n i7 M) Qo → W p l e rm_X9_back s m args below meth c H locs 0 0 Q (F0 m 166 ls []) := by
  intro n
  induction n with
  | zero => intro i7 M H locs ls w hl hk; exact ok_0 hk
  | succ n ih => intro i7 M H locs ls w hl hk; exact wb_X9_back_166 X r0 i1 i2 i3 l4 i6 Qo hE  (lp_X9_back_166 G r0 i1 i2 i3 l4 i6 n) ih i7 M H locs ls w hl hk
set_option maxHeartbeats 4000000 in
set_option maxRecDepth 100000 in
theorem wb_X9_back_157 {p : Program} {l : Launch} {e : Env} {s : State} {m : MethodId} {args : Array Value} {below : List Frame} {meth : Method} {c : Code} {D : va_G} {cy : Cyy} {A : Nat → Prop} {G : Gg} (X : Cx p m c cX9_back 12 s args wz_X9_back RX9 D cy) {Q : State → Prop} (r0 : Nat) (i1 : Int32) (i2 : Int32) (i3 : Int32) (l4 : Int64) (Qo : Mm → Prop)  (hE : ∀ (y : Mm), Qo (y) → ∀ (H : Heap) (locs : List Loc) (ls : Array Slot), Wo s D cy A G y H locs → lv_has ls 12 [(0, .ref r0), (2, .int i2), (3, .int i3), (4, .long l4)] → W p l e rm_X9_back s m args below meth c H locs 0 0 Q (F0 m 265 ls [])) (rec : Int32 → Mm → Option (Mm)) (hrec : ∀ (i6 : Int32) (M : Mm) (H : Heap) (locs : List Loc) (ls : Array Slot), Wo s D cy A G M H locs → lv_has ls 12 [(0, .ref r0), (1, .int i1), (2, .int i2), (3, .int i3), (4, .long l4), (6, .int i6)] → OK (rec i6 M) Qo → W p l e rm_X9_back s m args below meth c H locs 0 0 Q (F0 m 157 ls [])) (i6 : Int32) (M : Mm) (H : Heap) (locs : List Loc) (ls : Array Slot) (w : Wo s D cy A G M H locs) (hl : lv_has ls 12 [(0, .ref r0), (1, .int i1), (2, .int i2), (3, .int i3), (4, .long l4), (6, .int i6)]) (hk : OK (bd_X9_back_157 G r0 i1 i2 i3 l4 rec i6 M) Qo) : W p l e rm_X9_back s m args below meth c H locs 0 0 Q (F0 m 157 ls []) := by
    have hx := X.1.1
    have hb := X.1.2.1
    unfold bd_X9_back_157 at hk
    refine lv_iload hx hb dX9_back_157 (lv_at hl 5 rfl) ?_
    refine lv_iload_n hx hb dX9_back_159 rfl (lv_at hl 3 rfl) ?_
    refine lv_icmp_ge (tgt := 265) hx hb dX9_back_160 (by decide) (fun c44 => ?_) (fun c44 => ?_)
    · have hk := ok_p c44 hk
      exact hE M (ok_s hk) _ _ _ w (lv_sub hl [0, 2, 3, 4] rfl)
    · have hk := ok_n c44 hk
      refine lv_iconst (v := 0) hx hb dX9_back_163 (by decide) ?_
      refine lv_istore (lv' := [(7, .int (0 : Int32)), (0, .ref r0), (1, .int i1), (2, .int i2), (3, .int i3), (4, .long l4), (6, .int i6)]) hx hb dX9_back_164 hl (by decide) rfl (fun ls hl => ?_)
      refine wl_X9_back_166 X r0 i1 i2 i3 l4 i6 (Qo := _) (fun q66 hk H locs ls w hl => ?_) FU (0 : Int32) M _ _ _ w (lv_sub hl [1, 2, 3, 4, 5, 6, 0] rfl) (ok_b hk)
      refine lv_iinc (v := (i6 + 1)) (lv' := [(6, .int (i6 + 1)), (0, .ref r0), (1, .int i1), (2, .int i2), (3, .int i3), (4, .long l4)]) hx hb dX9_back_259 hl (k := 5) rfl rfl (by decide) rfl (fun ls hl => ?_)
      refine lv_goto (tgt := 157) hx hb dX9_back_262 (by decide) ?_
      exact hrec (i6 + 1) q66 _ _ _ w (lv_sub hl [1, 2, 3, 4, 5, 0] rfl) hk
theorem wl_X9_back_157 {p : Program} {l : Launch} {e : Env} {s : State} {m : MethodId} {args : Array Value} {below : List Frame} {meth : Method} {c : Code} {D : va_G} {cy : Cyy} {A : Nat → Prop} {G : Gg} (X : Cx p m c cX9_back 12 s args wz_X9_back RX9 D cy) {Q : State → Prop} (r0 : Nat) (i1 : Int32) (i2 : Int32) (i3 : Int32) (l4 : Int64) (Qo : Mm → Prop)  (hE : ∀ (y : Mm), Qo (y) → ∀ (H : Heap) (locs : List Loc) (ls : Array Slot), Wo s D cy A G y H locs → lv_has ls 12 [(0, .ref r0), (2, .int i2), (3, .int i3), (4, .long l4)] → W p l e rm_X9_back s m args below meth c H locs 0 0 Q (F0 m 265 ls [])) : ∀ (n : Nat) (i6 : Int32) (M : Mm) (H : Heap) (locs : List Loc) (ls : Array Slot), Wo s D cy A G M H locs → lv_has ls 12 [(0, .ref r0), (1, .int i1), (2, .int i2), (3, .int i3), (4, .long l4), (6, .int i6)] → OK (lp_X9_back_157 G r0 i1 i2 i3 l4 n i6 M) Qo → W p l e rm_X9_back s m args below meth c H locs 0 0 Q (F0 m 157 ls []) := by
  intro n
  induction n with
  | zero => intro i6 M H locs ls w hl hk; exact ok_0 hk
  | succ n ih => intro i6 M H locs ls w hl hk; exact wb_X9_back_157 X r0 i1 i2 i3 l4 Qo hE  (lp_X9_back_157 G r0 i1 i2 i3 l4 n) ih i6 M H locs ls w hl hk
set_option maxHeartbeats 4000000 in
set_option maxRecDepth 100000 in
theorem c_X9_back (l : Launch) (D : va_G) (cy : Cyy) (G : Gg) (M : Mm) (r0 : Nat) (i1 : Int32) (i2 : Int32) {q : Int32 × Mm} (hm : f_X9_back G M r0 i1 i2 = some q) : CI l yX9_back wz_X9_back rm_X9_back D cy G M [.ref r0, .int i1, .int i2] q.1 q.2 := by
  refine Met_of (Qf := fun A => QI D cy G A q.1 q.2) (cc := cX9_back) (nL := 12) (ret := (some .int)) (own := RX9) (lv := [(0, .ref r0), (1, .int i1), (2, .int i2)]) (by decide) rfl rfl (Nat.le_of_ble_eq_true rfl) rfl ?_
  intro p e s m args below meth c A ls X hr hlk w hl
  have hx := X.1.1
  have hb := X.1.2.1
  obtain ⟨Qo, hR, hk⟩ : ∃ Qo : Int32 × Mm → Prop, (∀ x, Qo x → x = q) ∧ OK (f_X9_back G M r0 i1 i2) Qo := ⟨fun x => x = q, fun _ h => h, q, hm, rfl⟩
  unfold f_X9_back at hk
  refine lv_aload_n hx hb dX9_back_0 rfl (lv_at hl 0 rfl) ?_
  refine lv_iconst (v := 0) hx hb dX9_back_1 (by decide) ?_
  obtain ⟨c1, hk⟩ := ok_c hk
  refine zpi X w 9 0 59 tyX9 (C := RX9) (T := TX9) (N := 23) rfl ui_X9 tyX9_ok nmX9 (by decide) rfl (tb wf_X9_59) rfl rfl dX9_back_2 c1 (fun H locs w => ?_)
  refine lv_aload_n hx hb dX9_back_5 rfl (lv_at hl 0 rfl) ?_
  refine lv_iload_n hx hb dX9_back_6 rfl (lv_at hl 1 rfl) ?_
  obtain ⟨q2, e3, hk⟩ := ok_b hk
  refine zVi X w (n := 1) (As := [.int i1]) (rest := []) (ci := 9) (C := RX9) (T := TX9) (N := 23) (c_X9_has l D cy G (mwI M r0 0 (0 : Int32)) r0 i1 e3) (gzV wm_X9_89 wi_X9_has ws_X9_has wn_X9 wc_X9_has) rfl rfl rfl (by decide +kernel) (by decide) rfl c1 rfl rfl hl.1 (Nat.le_of_ble_eq_true rfl) dX9_back_7 ⟨Nat.zero_le _, Nat.zero_le _⟩ (fun H locs w => ?_)
  refine lv_if_eq (tgt := 20) hx hb dX9_back_10 (by decide) (fun c4 => ?_) (fun c4 => ?_)
  · have hk := ok_p c4 hk
    refine lv_iconst (v := (-1)) hx hb dX9_back_20 (by decide) ?_
    have hk := hR _ (ok_s hk)
    exact zri X hr hlk w dX9_back_21 (pr1 hk) (pr2 hk)
  · have hk := ok_n c4 hk
    refine lv_iload_n hx hb dX9_back_13 rfl (lv_at hl 2 rfl) ?_
    obtain ⟨q5, e6, hk⟩ := ok_b hk
    refine zSi X w (n := 1) (As := [.int i2]) (rest := []) (c_X9_isSlot l D cy G (mwI M r0 0 (0 : Int32)) i2 e6) (gzS wm_X9_78 wt_X9_isSlot wn_X9 wc_X9_isSlot) rfl rfl rfl (by decide +kernel) (by decide) rfl rfl hl.1 (Nat.le_of_ble_eq_true rfl) dX9_back_14 ⟨Nat.zero_le _, Nat.zero_le _⟩ (fun H locs w => ?_)
    refine lv_if_ne (tgt := 22) hx hb dX9_back_17 (by decide) (fun c7 => ?_) (fun c7 => ?_)
    · have hk := ok_n c7 hk
      refine lv_aload_n hx hb dX9_back_22 rfl (lv_at hl 0 rfl) ?_
      refine lv_iload_n hx hb dX9_back_23 rfl (lv_at hl 1 rfl) ?_
      obtain ⟨q8, e9, hk⟩ := ok_b hk
      refine zVv X w (n := 1) (As := [.int i1]) (rest := []) (ci := 9) (C := RX9) (T := TX9) (N := 23) (c_X9_reach l D cy G (mwI M r0 0 (0 : Int32)) r0 i1 e9) (gzV wm_X9_137 wi_X9_reach ws_X9_reach wn_X9 wc_X9_reach) rfl rfl rfl (by decide +kernel) (by decide) rfl c1 rfl rfl hl.1 (Nat.le_of_ble_eq_true rfl) dX9_back_24 ⟨Nat.zero_le _, Nat.zero_le _⟩ (fun H locs w => ?_)
      refine lv_aload_n hx hb dX9_back_27 rfl (lv_at hl 0 rfl) ?_
      refine zgi X w 9 8 92 (C := RX9) (T := TX9) (N := 23) rfl ui_X9 (by decide) rfl (tb wf_X9_92) dX9_back_28 c1 ?_
      refine lv_iconst (v := 1) hx hb dX9_back_31 (by decide) ?_
      refine lv_icmp_le (tgt := 37) hx hb dX9_back_32 (by decide) (fun c10 => ?_) (fun c10 => ?_)
      · have hk := ok_p c10 hk
        refine lv_aload_n hx hb dX9_back_37 rfl (lv_at hl 0 rfl) ?_
        refine lv_iload_n hx hb dX9_back_38 rfl (lv_at hl 1 rfl) ?_
        refine lv_iconst (v := 0) hx hb dX9_back_39 (by decide) ?_
        obtain ⟨q11, e12, hk⟩ := ok_b hk
        refine zVv X w (n := 2) (As := [.int i1, .int (0 : Int32)]) (rest := []) (ci := 9) (C := RX9) (T := TX9) (N := 23) (c_X9_weigh l D cy G q8 r0 i1 (0 : Int32) e12) (gzV wm_X9_140 wi_X9_weigh ws_X9_weigh wn_X9 wc_X9_weigh) rfl rfl rfl (by decide +kernel) (by decide) rfl c1 rfl rfl hl.1 (Nat.le_of_ble_eq_true rfl) dX9_back_40 ⟨Nat.zero_le _, Nat.zero_le _⟩ (fun H locs w => ?_)
        refine lv_aload_n hx hb dX9_back_43 rfl (lv_at hl 0 rfl) ?_
        obtain ⟨r13, e14, hk⟩ := ok_b hk
        refine zgr X w 9 3 13 (C := RX9) (T := TX9) (N := 23) rfl ui_X9 (by decide) rfl (tb wf_X9_13) dX9_back_44 c1 e14 ?_
        refine lv_iload_n hx hb dX9_back_47 rfl (lv_at hl 1 rfl) ?_
        obtain ⟨c15, hk⟩ := ok_c hk
        obtain ⟨c16, hk⟩ := ok_c hk
        refine zai X w dX9_back_48 c15 c16 ?_
        refine lv_istore_n (lv' := [(3, .int (q11.1 r13 (Int32.toNatClampNeg i1))), (0, .ref r0), (1, .int i1), (2, .int i2)]) hx hb dX9_back_49 rfl hl (by decide) rfl (fun ls hl => ?_)
        refine lv_lconst (v := 1) hx hb dX9_back_50 (by decide) ?_
        refine lv_lstore (lv' := [(4, .long (1 : Int64)), (3, .int (q11.1 r13 (Int32.toNatClampNeg i1))), (0, .ref r0), (1, .int i1), (2, .int i2)]) hx hb dX9_back_51 hl (by decide) rfl (fun ls hl => ?_)
        refine lv_iconst (v := 0) hx hb dX9_back_53 (by decide) ?_
        refine lv_istore (lv' := [(6, .int (0 : Int32)), (4, .long (1 : Int64)), (3, .int (q11.1 r13 (Int32.toNatClampNeg i1))), (0, .ref r0), (1, .int i1), (2, .int i2)]) hx hb dX9_back_54 hl (by decide) rfl (fun ls hl => ?_)
        refine wl_X9_back_56 X q11 r0 i1 i2 (q11.1 r13 (Int32.toNatClampNeg i1)) (Qo := _) hr hlk (fun x h => hR x (ok_s (show OK (some x) Qo from h))) (fun y42 hk H locs ls w hl => ?_) FU (1 : Int64) (0 : Int32) _ _ _ w (lv_sub hl [3, 4, 5, 2, 1, 0] rfl) (ok_b hk)
        have hk := ok_r hk
        refine lv_iconst (v := 0) hx hb dX9_back_154 (by decide) ?_
        refine lv_istore (lv' := [(6, .int (0 : Int32)), (0, .ref r0), (1, .int i1), (2, .int i2), (3, .int (q11.1 r13 (Int32.toNatClampNeg i1))), (4, .long y42)]) hx hb dX9_back_155 hl (by decide) rfl (fun ls hl => ?_)
        refine wl_X9_back_157 X r0 i1 i2 (q11.1 r13 (Int32.toNatClampNeg i1)) y42 (Qo := _) (fun q67 hk H locs ls w hl => ?_) FU (0 : Int32) q11 _ _ _ w (lv_sub hl [1, 2, 3, 4, 5, 0] rfl) (ok_b hk)
        refine lv_aload_n hx hb dX9_back_265 rfl (lv_at hl 0 rfl) ?_
        refine lv_iload_n hx hb dX9_back_266 rfl (lv_at hl 1 rfl) ?_
        refine lv_iload_n hx hb dX9_back_267 rfl (lv_at hl 2 rfl) ?_
        refine lv_lload hx hb dX9_back_268 (lv_at hl 3 rfl) ?_
        refine lv_l2i hx hb dX9_back_270 rfl ?_
        obtain ⟨q68, e69, hk⟩ := ok_b hk
        refine zVi X w (n := 3) (As := [.int i2, .int (q11.1 r13 (Int32.toNatClampNeg i1)), .int (Int64.toInt32 y42)]) (rest := []) (ci := 9) (C := RX9) (T := TX9) (N := 23) (c_X9_puts l D cy G q67 r0 i2 (q11.1 r13 (Int32.toNatClampNeg i1)) (Int64.toInt32 y42) e69) (gzV wm_X9_86 wi_X9_puts ws_X9_puts wn_X9 wc_X9_puts) rfl rfl rfl (by decide +kernel) (by decide) rfl c1 rfl rfl hl.1 (Nat.le_of_ble_eq_true rfl) dX9_back_271 ⟨Nat.zero_le _, Nat.zero_le _⟩ (fun H locs w => ?_)
        have hk := hR _ (ok_s hk)
        exact zri X hr hlk w dX9_back_274 (pr1 hk) (pr2 hk)
      · have hk := ok_n c10 hk
        refine lv_iconst (v := (-1)) hx hb dX9_back_35 (by decide) ?_
        have hk := hR _ (ok_s hk)
        exact zri X hr hlk w dX9_back_36 (pr1 hk) (pr2 hk)
    · have hk := ok_p c7 hk
      refine lv_iconst (v := (-1)) hx hb dX9_back_20 (by decide) ?_
      have hk := hR _ (ok_s hk)
      exact zri X hr hlk w dX9_back_21 (pr1 hk) (pr2 hk)
abbrev rm_X9_goesTo : Room := { frames := 1, cells := 0, slots := 0, locals := 23 }
set_option maxHeartbeats 4000000 in
set_option maxRecDepth 100000 in
theorem wb_X9_goesTo_6 {p : Program} {l : Launch} {e : Env} {s : State} {m : MethodId} {args : Array Value} {below : List Frame} {meth : Method} {c : Code} {D : va_G} {cy : Cyy} {A : Nat → Prop} {G : Gg} (X : Cx p m c cX9_goesTo 6 s args wz_X9_goesTo RX9 D cy) {Q : State → Prop} (M : Mm) (r0 : Nat) (i1 : Int32) (i2 : Int32) (i3 : Int32) (Qo : Int32 → Prop)  (hE : ∀ (y : Int32), Qo (y) → ∀ (H : Heap) (locs : List Loc) (ls : Array Slot), Wo s D cy A G M H locs → lv_has ls 6 [(4, .int y)] → W p l e rm_X9_goesTo s m args below meth c H locs 0 0 Q (F0 m 47 ls [])) (rec : Int32 → Int32 → Option (Int32)) (hrec : ∀ (i4 : Int32) (i5 : Int32) (H : Heap) (locs : List Loc) (ls : Array Slot), Wo s D cy A G M H locs → lv_has ls 6 [(0, .ref r0), (1, .int i1), (2, .int i2), (3, .int i3), (4, .int i4), (5, .int i5)] → OK (rec i4 i5) Qo → W p l e rm_X9_goesTo s m args below meth c H locs 0 0 Q (F0 m 6 ls [])) (i4 : Int32) (i5 : Int32) (H : Heap) (locs : List Loc) (ls : Array Slot) (w : Wo s D cy A G M H locs) (hl : lv_has ls 6 [(0, .ref r0), (1, .int i1), (2, .int i2), (3, .int i3), (4, .int i4), (5, .int i5)]) (hk : OK (bd_X9_goesTo_6 G M r0 i1 i2 i3 rec i4 i5) Qo) : W p l e rm_X9_goesTo s m args below meth c H locs 0 0 Q (F0 m 6 ls []) := by
    have hx := X.1.1
    have hb := X.1.2.1
    unfold bd_X9_goesTo_6 at hk
    refine lv_iload hx hb dX9_goesTo_6 (lv_at hl 5 rfl) ?_
    refine lv_aload_n hx hb dX9_goesTo_8 rfl (lv_at hl 0 rfl) ?_
    obtain ⟨c1, hk⟩ := ok_c hk
    obtain ⟨r2, e3, hk⟩ := ok_b hk
    refine zgr X w 9 3 13 (C := RX9) (T := TX9) (N := 23) rfl ui_X9 (by decide) rfl (tb wf_X9_13) dX9_goesTo_9 c1 e3 ?_
    refine lv_iload_n hx hb dX9_goesTo_12 rfl (lv_at hl 1 rfl) ?_
    obtain ⟨c4, hk⟩ := ok_c hk
    obtain ⟨c5, hk⟩ := ok_c hk
    refine zai X w dX9_goesTo_13 c4 c5 ?_
    refine lv_icmp_ge (tgt := 47) hx hb dX9_goesTo_14 (by decide) (fun c6 => ?_) (fun c6 => ?_)
    · have hk := ok_p c6 hk
      exact hE i4 (ok_s hk) _ _ _ w (lv_sub hl [4] rfl)
    · have hk := ok_n c6 hk
      refine lv_aload_n hx hb dX9_goesTo_17 rfl (lv_at hl 0 rfl) ?_
      obtain ⟨r7, e8, hk⟩ := ok_b hk
      refine zgr X w 9 14 44 (C := RX9) (T := TX9) (N := 23) rfl ui_X9 (by decide) rfl (tb wf_X9_44) dX9_goesTo_18 c1 e8 ?_
      refine lv_iload hx hb dX9_goesTo_21 (lv_at hl 5 rfl) ?_
      obtain ⟨c9, hk⟩ := ok_c hk
      obtain ⟨c10, hk⟩ := ok_c hk
      refine zai X w dX9_goesTo_23 c9 c10 ?_
      refine lv_iload_n hx hb dX9_goesTo_24 rfl (lv_at hl 3 rfl) ?_
      refine lv_icmp_ne (tgt := 41) hx hb dX9_goesTo_25 (by decide) (fun c11 => ?_) (fun c11 => ?_)
      · have hk := ok_n c11 hk
        refine lv_iinc (v := (i5 + 1)) (lv' := [(5, .int (i5 + 1)), (0, .ref r0), (1, .int i1), (2, .int i2), (3, .int i3), (4, .int i4)]) hx hb dX9_goesTo_41 hl (k := 5) rfl rfl (by decide) rfl (fun ls hl => ?_)
        refine lv_goto (tgt := 6) hx hb dX9_goesTo_44 (by decide) ?_
        exact hrec i4 (i5 + 1) _ _ _ w (lv_sub hl [1, 2, 3, 4, 5, 0] rfl) hk
      · have hk := ok_p c11 hk
        refine lv_iload hx hb dX9_goesTo_28 (lv_at hl 4 rfl) ?_
        refine lv_aload_n hx hb dX9_goesTo_30 rfl (lv_at hl 0 rfl) ?_
        refine lv_iload_n hx hb dX9_goesTo_31 rfl (lv_at hl 1 rfl) ?_
        refine lv_iload_n hx hb dX9_goesTo_32 rfl (lv_at hl 2 rfl) ?_
        refine lv_iload hx hb dX9_goesTo_33 (lv_at hl 5 rfl) ?_
        obtain ⟨q12, e13, hk⟩ := ok_b hk
        refine zVi X w (n := 3) (As := [.int i1, .int i2, .int i5]) (rest := [.int i4]) (ci := 9) (C := RX9) (T := TX9) (N := 23) (c_X9_at l D cy G M r0 i1 i2 i5 e13) (gzV wm_X9_70 wi_X9_at ws_X9_at wn_X9 wc_X9_at) rfl rfl rfl (by decide +kernel) (by decide) rfl c1 rfl rfl hl.1 (Nat.le_of_ble_eq_true rfl) dX9_goesTo_35 ⟨Nat.zero_le _, Nat.zero_le _⟩ (fun H locs w => ?_)
        refine lv_iadd hx hb dX9_goesTo_38 ?_
        refine lv_istore (lv' := [(4, .int (i4 + q12)), (0, .ref r0), (1, .int i1), (2, .int i2), (3, .int i3), (5, .int i5)]) hx hb dX9_goesTo_39 hl (by decide) rfl (fun ls hl => ?_)
        refine lv_iinc (v := (i5 + 1)) (lv' := [(5, .int (i5 + 1)), (4, .int (i4 + q12)), (0, .ref r0), (1, .int i1), (2, .int i2), (3, .int i3)]) hx hb dX9_goesTo_41 hl (k := 5) rfl rfl (by decide) rfl (fun ls hl => ?_)
        refine lv_goto (tgt := 6) hx hb dX9_goesTo_44 (by decide) ?_
        exact hrec (i4 + q12) (i5 + 1) _ _ _ w (lv_sub hl [2, 3, 4, 5, 1, 0] rfl) hk
theorem wl_X9_goesTo_6 {p : Program} {l : Launch} {e : Env} {s : State} {m : MethodId} {args : Array Value} {below : List Frame} {meth : Method} {c : Code} {D : va_G} {cy : Cyy} {A : Nat → Prop} {G : Gg} (X : Cx p m c cX9_goesTo 6 s args wz_X9_goesTo RX9 D cy) {Q : State → Prop} (M : Mm) (r0 : Nat) (i1 : Int32) (i2 : Int32) (i3 : Int32) (Qo : Int32 → Prop)  (hE : ∀ (y : Int32), Qo (y) → ∀ (H : Heap) (locs : List Loc) (ls : Array Slot), Wo s D cy A G M H locs → lv_has ls 6 [(4, .int y)] → W p l e rm_X9_goesTo s m args below meth c H locs 0 0 Q (F0 m 47 ls [])) : ∀ (n : Nat) (i4 : Int32) (i5 : Int32) (H : Heap) (locs : List Loc) (ls : Array Slot), Wo s D cy A G M H locs → lv_has ls 6 [(0, .ref r0), (1, .int i1), (2, .int i2), (3, .int i3), (4, .int i4), (5, .int i5)] → OK (lp_X9_goesTo_6 G M r0 i1 i2 i3 n i4 i5) Qo → W p l e rm_X9_goesTo s m args below meth c H locs 0 0 Q (F0 m 6 ls []) := by
  intro n
  induction n with
  | zero => intro i4 i5 H locs ls w hl hk; exact ok_0 hk
  | succ n ih => intro i4 i5 H locs ls w hl hk; exact wb_X9_goesTo_6 X M r0 i1 i2 i3 Qo hE  (lp_X9_goesTo_6 G M r0 i1 i2 i3 n) ih i4 i5 H locs ls w hl hk
set_option maxHeartbeats 4000000 in
set_option maxRecDepth 100000 in
theorem c_X9_goesTo (l : Launch) (D : va_G) (cy : Cyy) (G : Gg) (M : Mm) (r0 : Nat) (i1 : Int32) (i2 : Int32) (i3 : Int32) {q : Int32} (hm : f_X9_goesTo G M r0 i1 i2 i3 = some q) : CI l yX9_goesTo wz_X9_goesTo rm_X9_goesTo D cy G M [.ref r0, .int i1, .int i2, .int i3] q M := by
  refine Met_of (Qf := fun A => QI D cy G A q M) (cc := cX9_goesTo) (nL := 6) (ret := (some .int)) (own := RX9) (lv := [(0, .ref r0), (1, .int i1), (2, .int i2), (3, .int i3)]) (by decide) rfl rfl (Nat.le_of_ble_eq_true rfl) rfl ?_
  intro p e s m args below meth c A ls X hr hlk w hl
  have hx := X.1.1
  have hb := X.1.2.1
  obtain ⟨Qo, hR, hk⟩ : ∃ Qo : Int32 → Prop, (∀ x, Qo x → x = q) ∧ OK (f_X9_goesTo G M r0 i1 i2 i3) Qo := ⟨fun x => x = q, fun _ h => h, q, hm, rfl⟩
  unfold f_X9_goesTo at hk
  refine lv_iconst (v := 0) hx hb dX9_goesTo_0 (by decide) ?_
  refine lv_istore (lv' := [(4, .int (0 : Int32)), (0, .ref r0), (1, .int i1), (2, .int i2), (3, .int i3)]) hx hb dX9_goesTo_1 hl (by decide) rfl (fun ls hl => ?_)
  refine lv_iconst (v := 0) hx hb dX9_goesTo_3 (by decide) ?_
  refine lv_istore (lv' := [(5, .int (0 : Int32)), (4, .int (0 : Int32)), (0, .ref r0), (1, .int i1), (2, .int i2), (3, .int i3)]) hx hb dX9_goesTo_4 hl (by decide) rfl (fun ls hl => ?_)
  refine wl_X9_goesTo_6 X M r0 i1 i2 i3 (Qo := _) (fun q14 hk H locs ls w hl => ?_) FU (0 : Int32) (0 : Int32) _ _ _ w (lv_sub hl [2, 3, 4, 5, 1, 0] rfl) (ok_b hk)
  refine lv_iload hx hb dX9_goesTo_47 (lv_at hl 0 rfl) ?_
  have hk := hR _ (ok_s hk)
  exact zri X hr hlk w dX9_goesTo_49 hk rfl
abbrev rm_X9_areAlike : Room := { frames := 2, cells := 0, slots := 0, locals := 48 }
set_option maxHeartbeats 4000000 in
set_option maxRecDepth 100000 in
theorem wb_X9_areAlike_20 {p : Program} {l : Launch} {e : Env} {s : State} {m : MethodId} {args : Array Value} {below : List Frame} {meth : Method} {c : Code} {D : va_G} {cy : Cyy} {A : Nat → Prop} {G : Gg} (X : Cx p m c cX9_areAlike 5 s args wz_X9_areAlike RX9 D cy) (M : Mm) (r0 : Nat) (i1 : Int32) (i2 : Int32) (i3 : Int32) (Qo : (Int32) ⊕ (Unit) → Prop) (hr : meth.sig.returnType = (some .boolean)) (hlk : meth.locks = false) {x0 : Int32} (hR : ∀ x, Qo (.inl x) → x = x0) (hE : ∀ (y : Unit), Qo (.inr y) → ∀ (H : Heap) (locs : List Loc) (ls : Array Slot), Wo s D cy A G M H locs → lv_has ls 5 [] → W p l e rm_X9_areAlike s m args below meth c H locs 0 0 (MQ below (QI D cy G A x0 M) args s 0 0 A) (F0 m 54 ls [])) (rec : Int32 → Option ((Int32) ⊕ (Unit))) (hrec : ∀ (i4 : Int32) (H : Heap) (locs : List Loc) (ls : Array Slot), Wo s D cy A G M H locs → lv_has ls 5 [(0, .ref r0), (1, .int i1), (2, .int i2), (3, .int i3), (4, .int i4)] → OK (rec i4) Qo → W p l e rm_X9_areAlike s m args below meth c H locs 0 0 (MQ below (QI D cy G A x0 M) args s 0 0 A) (F0 m 20 ls [])) (i4 : Int32) (H : Heap) (locs : List Loc) (ls : Array Slot) (w : Wo s D cy A G M H locs) (hl : lv_has ls 5 [(0, .ref r0), (1, .int i1), (2, .int i2), (3, .int i3), (4, .int i4)]) (hk : OK (bd_X9_areAlike_20 G M r0 i1 i2 i3 rec i4) Qo) : W p l e rm_X9_areAlike s m args below meth c H locs 0 0 (MQ below (QI D cy G A x0 M) args s 0 0 A) (F0 m 20 ls []) := by
    have hx := X.1.1
    have hb := X.1.2.1
    unfold bd_X9_areAlike_20 at hk
    refine lv_iload hx hb dX9_areAlike_20 (lv_at hl 4 rfl) ?_
    refine lv_bipush (v := 8) hx hb dX9_areAlike_22 (by decide) ?_
    refine lv_icmp_ge (tgt := 54) hx hb dX9_areAlike_24 (by decide) (fun c8 => ?_) (fun c8 => ?_)
    · have hk := ok_p c8 hk
      exact hE () (ok_s hk) _ _ _ w (lv_sub hl [] rfl)
    · have hk := ok_n c8 hk
      refine lv_aload_n hx hb dX9_areAlike_27 rfl (lv_at hl 0 rfl) ?_
      refine lv_iload_n hx hb dX9_areAlike_28 rfl (lv_at hl 1 rfl) ?_
      refine lv_iload_n hx hb dX9_areAlike_29 rfl (lv_at hl 2 rfl) ?_
      refine lv_iload hx hb dX9_areAlike_30 (lv_at hl 4 rfl) ?_
      obtain ⟨c11, hk⟩ := ok_c hk
      obtain ⟨q9, e10, hk⟩ := ok_b hk
      refine zVi X w (n := 3) (As := [.int i1, .int i2, .int i4]) (rest := []) (ci := 9) (C := RX9) (T := TX9) (N := 23) (c_X9_goesTo l D cy G M r0 i1 i2 i4 e10) (gzV wm_X9_146 wi_X9_goesTo ws_X9_goesTo wn_X9 wc_X9_goesTo) rfl rfl rfl (by decide +kernel) (by decide) rfl c11 rfl rfl hl.1 (Nat.le_of_ble_eq_true rfl) dX9_areAlike_32 ⟨Nat.zero_le _, Nat.zero_le _⟩ (fun H locs w => ?_)
      refine lv_aload_n hx hb dX9_areAlike_35 rfl (lv_at hl 0 rfl) ?_
      refine lv_iload_n hx hb dX9_areAlike_36 rfl (lv_at hl 1 rfl) ?_
      refine lv_iload_n hx hb dX9_areAlike_37 rfl (lv_at hl 3 rfl) ?_
      refine lv_iload hx hb dX9_areAlike_38 (lv_at hl 4 rfl) ?_
      obtain ⟨q12, e13, hk⟩ := ok_b hk
      refine zVi X w (n := 3) (As := [.int i1, .int i3, .int i4]) (rest := [.int q9]) (ci := 9) (C := RX9) (T := TX9) (N := 23) (c_X9_goesTo l D cy G M r0 i1 i3 i4 e13) (gzV wm_X9_146 wi_X9_goesTo ws_X9_goesTo wn_X9 wc_X9_goesTo) rfl rfl rfl (by decide +kernel) (by decide) rfl c11 rfl rfl hl.1 (Nat.le_of_ble_eq_true rfl) dX9_areAlike_40 ⟨Nat.zero_le _, Nat.zero_le _⟩ (fun H locs w => ?_)
      refine lv_icmp_eq (tgt := 48) hx hb dX9_areAlike_43 (by decide) (fun c14 => ?_) (fun c14 => ?_)
      · have hk := ok_p c14 hk
        refine lv_iinc (v := (i4 + 1)) (lv' := [(4, .int (i4 + 1)), (0, .ref r0), (1, .int i1), (2, .int i2), (3, .int i3)]) hx hb dX9_areAlike_48 hl (k := 4) rfl rfl (by decide) rfl (fun ls hl => ?_)
        refine lv_goto (tgt := 20) hx hb dX9_areAlike_51 (by decide) ?_
        exact hrec (i4 + 1) _ _ _ w (lv_sub hl [1, 2, 3, 4, 0] rfl) hk
      · have hk := ok_n c14 hk
        refine lv_iconst (v := 0) hx hb dX9_areAlike_46 (by decide) ?_
        have hk := hR _ (ok_s hk)
        exact zrz X hr hlk w dX9_areAlike_47 (by decide) hk rfl
theorem wl_X9_areAlike_20 {p : Program} {l : Launch} {e : Env} {s : State} {m : MethodId} {args : Array Value} {below : List Frame} {meth : Method} {c : Code} {D : va_G} {cy : Cyy} {A : Nat → Prop} {G : Gg} (X : Cx p m c cX9_areAlike 5 s args wz_X9_areAlike RX9 D cy) (M : Mm) (r0 : Nat) (i1 : Int32) (i2 : Int32) (i3 : Int32) (Qo : (Int32) ⊕ (Unit) → Prop) (hr : meth.sig.returnType = (some .boolean)) (hlk : meth.locks = false) {x0 : Int32} (hR : ∀ x, Qo (.inl x) → x = x0) (hE : ∀ (y : Unit), Qo (.inr y) → ∀ (H : Heap) (locs : List Loc) (ls : Array Slot), Wo s D cy A G M H locs → lv_has ls 5 [] → W p l e rm_X9_areAlike s m args below meth c H locs 0 0 (MQ below (QI D cy G A x0 M) args s 0 0 A) (F0 m 54 ls [])) : ∀ (n : Nat) (i4 : Int32) (H : Heap) (locs : List Loc) (ls : Array Slot), Wo s D cy A G M H locs → lv_has ls 5 [(0, .ref r0), (1, .int i1), (2, .int i2), (3, .int i3), (4, .int i4)] → OK (lp_X9_areAlike_20 G M r0 i1 i2 i3 n i4) Qo → W p l e rm_X9_areAlike s m args below meth c H locs 0 0 (MQ below (QI D cy G A x0 M) args s 0 0 A) (F0 m 20 ls []) := by
  intro n
  induction n with
  | zero => intro i4 H locs ls w hl hk; exact ok_0 hk
  | succ n ih => intro i4 H locs ls w hl hk; exact wb_X9_areAlike_20 X M r0 i1 i2 i3 Qo hr hlk hR hE  (lp_X9_areAlike_20 G M r0 i1 i2 i3 n) ih i4 H locs ls w hl hk
set_option maxHeartbeats 4000000 in
set_option maxRecDepth 100000 in
theorem c_X9_areAlike (l : Launch) (D : va_G) (cy : Cyy) (G : Gg) (M : Mm) (r0 : Nat) (i1 : Int32) (i2 : Int32) (i3 : Int32) {q : Int32} (hm : f_X9_areAlike G M r0 i1 i2 i3 = some q) : CI l yX9_areAlike wz_X9_areAlike rm_X9_areAlike D cy G M [.ref r0, .int i1, .int i2, .int i3] q M := by
  refine Met_of (Qf := fun A => QI D cy G A q M) (cc := cX9_areAlike) (nL := 5) (ret := (some .boolean)) (own := RX9) (lv := [(0, .ref r0), (1, .int i1), (2, .int i2), (3, .int i3)]) (by decide) rfl rfl (Nat.le_of_ble_eq_true rfl) rfl ?_
  intro p e s m args below meth c A ls X hr hlk w hl
  have hx := X.1.1
  have hb := X.1.2.1
  obtain ⟨Qo, hR, hk⟩ : ∃ Qo : Int32 → Prop, (∀ x, Qo x → x = q) ∧ OK (f_X9_areAlike G M r0 i1 i2 i3) Qo := ⟨fun x => x = q, fun _ h => h, q, hm, rfl⟩
  unfold f_X9_areAlike at hk
  refine lv_aload_n hx hb dX9_areAlike_0 rfl (lv_at hl 0 rfl) ?_
  obtain ⟨c1, hk⟩ := ok_c hk
  obtain ⟨r2, e3, hk⟩ := ok_b hk
  refine zgr X w 9 14 44 (C := RX9) (T := TX9) (N := 23) rfl ui_X9 (by decide) rfl (tb wf_X9_44) dX9_areAlike_1 c1 e3 ?_
  refine lv_iload_n hx hb dX9_areAlike_4 rfl (lv_at hl 2 rfl) ?_
  obtain ⟨c4, hk⟩ := ok_c hk
  obtain ⟨c5, hk⟩ := ok_c hk
  refine zai X w dX9_areAlike_5 c4 c5 ?_
  refine lv_aload_n hx hb dX9_areAlike_6 rfl (lv_at hl 0 rfl) ?_
  refine zgr X w 9 14 44 (C := RX9) (T := TX9) (N := 23) rfl ui_X9 (by decide) rfl (tb wf_X9_44) dX9_areAlike_7 c1 e3 ?_
  refine lv_iload_n hx hb dX9_areAlike_10 rfl (lv_at hl 3 rfl) ?_
  obtain ⟨c6, hk⟩ := ok_c hk
  refine zai X w dX9_areAlike_11 c4 c6 ?_
  refine lv_icmp_eq (tgt := 17) hx hb dX9_areAlike_12 (by decide) (fun c7 => ?_) (fun c7 => ?_)
  · have hk := ok_p c7 hk
    refine lv_iconst (v := 0) hx hb dX9_areAlike_17 (by decide) ?_
    refine lv_istore (lv' := [(4, .int (0 : Int32)), (0, .ref r0), (1, .int i1), (2, .int i2), (3, .int i3)]) hx hb dX9_areAlike_18 hl (by decide) rfl (fun ls hl => ?_)
    refine wl_X9_areAlike_20 X M r0 i1 i2 i3 (Qo := _) hr hlk (fun x h => hR x (ok_s (show OK (some x) Qo from h))) (fun y16 hk H locs ls w hl => ?_) FU (0 : Int32) _ _ _ w (lv_sub hl [1, 2, 3, 4, 0] rfl) (ok_b hk)
    have hk := ok_r hk
    refine lv_iconst (v := 1) hx hb dX9_areAlike_54 (by decide) ?_
    have hk := hR _ (ok_s hk)
    exact zrz X hr hlk w dX9_areAlike_55 (by decide) hk rfl
  · have hk := ok_n c7 hk
    refine lv_iconst (v := 0) hx hb dX9_areAlike_15 (by decide) ?_
    have hk := hR _ (ok_s hk)
    exact zrz X hr hlk w dX9_areAlike_16 (by decide) hk rfl
abbrev rm_X9_melt : Room := { frames := 3, cells := 0, slots := 0, locals := 72 }
set_option maxHeartbeats 4000000 in
set_option maxRecDepth 100000 in
theorem wb_X9_melt_66 {p : Program} {l : Launch} {e : Env} {s : State} {m : MethodId} {args : Array Value} {below : List Frame} {meth : Method} {c : Code} {D : va_G} {cy : Cyy} {A : Nat → Prop} {G : Gg} (X : Cx p m c cX9_melt 10 s args wz_X9_melt RX9 D cy) {Q : State → Prop} (M : Mm) (r0 : Nat) (i1 : Int32) (i2 : Int32) (i4 : Int32) (i5 : Int32) (i6 : Int32) (Qo : Int32 → Prop)  (hE : ∀ (y : Int32), Qo (y) → ∀ (H : Heap) (locs : List Loc) (ls : Array Slot), Wo s D cy A G M H locs → lv_has ls 10 [(0, .ref r0), (1, .int i1), (2, .int i2), (4, .int i4), (5, .int i5), (6, .int i6), (7, .int y)] → W p l e rm_X9_melt s m args below meth c H locs 0 0 Q (F0 m 89 ls [])) (rec : Int32 → Option (Int32)) (hrec : ∀ (i7 : Int32) (H : Heap) (locs : List Loc) (ls : Array Slot), Wo s D cy A G M H locs → lv_has ls 10 [(0, .ref r0), (1, .int i1), (2, .int i2), (4, .int i4), (5, .int i5), (6, .int i6), (7, .int i7)] → OK (rec i7) Qo → W p l e rm_X9_melt s m args below meth c H locs 0 0 Q (F0 m 66 ls [])) (i7 : Int32) (H : Heap) (locs : List Loc) (ls : Array Slot) (w : Wo s D cy A G M H locs) (hl : lv_has ls 10 [(0, .ref r0), (1, .int i1), (2, .int i2), (4, .int i4), (5, .int i5), (6, .int i6), (7, .int i7)]) (hk : OK (bd_X9_melt_66 G M r0 i1 i2 i4 i5 i6 rec i7) Qo) : W p l e rm_X9_melt s m args below meth c H locs 0 0 Q (F0 m 66 ls []) := by
    have hx := X.1.1
    have hb := X.1.2.1
    unfold bd_X9_melt_66 at hk
    refine lv_aload_n hx hb dX9_melt_66 rfl (lv_at hl 0 rfl) ?_
    obtain ⟨c14, hk⟩ := ok_c hk
    obtain ⟨r15, e16, hk⟩ := ok_b hk
    refine zgr X w 9 1 7 (C := RX9) (T := TX9) (N := 23) rfl ui_X9 (by decide) rfl (tb wf_X9_7) dX9_melt_67 c14 e16 ?_
    refine lv_iload hx hb dX9_melt_70 (lv_at hl 6 rfl) ?_
    obtain ⟨c17, hk⟩ := ok_c hk
    obtain ⟨c18, hk⟩ := ok_c hk
    refine zai X w dX9_melt_72 c17 c18 ?_
    refine lv_aload_n hx hb dX9_melt_73 rfl (lv_at hl 0 rfl) ?_
    refine zgr X w 9 1 7 (C := RX9) (T := TX9) (N := 23) rfl ui_X9 (by decide) rfl (tb wf_X9_7) dX9_melt_74 c14 e16 ?_
    refine lv_iload hx hb dX9_melt_77 (lv_at hl 5 rfl) ?_
    obtain ⟨c19, hk⟩ := ok_c hk
    refine zai X w dX9_melt_79 c17 c19 ?_
    refine lv_icmp_eq (tgt := 89) hx hb dX9_melt_80 (by decide) (fun c20 => ?_) (fun c20 => ?_)
    · have hk := ok_p c20 hk
      exact hE i7 (ok_s hk) _ _ _ w (lv_sub hl [0, 1, 2, 3, 4, 5, 6] rfl)
    · have hk := ok_n c20 hk
      refine lv_iinc (v := (i7 + 1)) (lv' := [(7, .int (i7 + 1)), (0, .ref r0), (1, .int i1), (2, .int i2), (4, .int i4), (5, .int i5), (6, .int i6)]) hx hb dX9_melt_83 hl (k := 6) rfl rfl (by decide) rfl (fun ls hl => ?_)
      refine lv_goto (tgt := 66) hx hb dX9_melt_86 (by decide) ?_
      exact hrec (i7 + 1) _ _ _ w (lv_sub hl [1, 2, 3, 4, 5, 6, 0] rfl) hk
theorem wl_X9_melt_66 {p : Program} {l : Launch} {e : Env} {s : State} {m : MethodId} {args : Array Value} {below : List Frame} {meth : Method} {c : Code} {D : va_G} {cy : Cyy} {A : Nat → Prop} {G : Gg} (X : Cx p m c cX9_melt 10 s args wz_X9_melt RX9 D cy) {Q : State → Prop} (M : Mm) (r0 : Nat) (i1 : Int32) (i2 : Int32) (i4 : Int32) (i5 : Int32) (i6 : Int32) (Qo : Int32 → Prop)  (hE : ∀ (y : Int32), Qo (y) → ∀ (H : Heap) (locs : List Loc) (ls : Array Slot), Wo s D cy A G M H locs → lv_has ls 10 [(0, .ref r0), (1, .int i1), (2, .int i2), (4, .int i4), (5, .int i5), (6, .int i6), (7, .int y)] → W p l e rm_X9_melt s m args below meth c H locs 0 0 Q (F0 m 89 ls [])) : ∀ (n : Nat) (i7 : Int32) (H : Heap) (locs : List Loc) (ls : Array Slot), Wo s D cy A G M H locs → lv_has ls 10 [(0, .ref r0), (1, .int i1), (2, .int i2), (4, .int i4), (5, .int i5), (6, .int i6), (7, .int i7)] → OK (lp_X9_melt_66 G M r0 i1 i2 i4 i5 i6 n i7) Qo → W p l e rm_X9_melt s m args below meth c H locs 0 0 Q (F0 m 66 ls []) := by
  intro n
  induction n with
  | zero => intro i7 H locs ls w hl hk; exact ok_0 hk
  | succ n ih => intro i7 H locs ls w hl hk; exact wb_X9_melt_66 X M r0 i1 i2 i4 i5 i6 Qo hE  (lp_X9_melt_66 G M r0 i1 i2 i4 i5 i6 n) ih i7 H locs ls w hl hk
set_option maxHeartbeats 4000000 in
set_option maxRecDepth 100000 in
theorem wj_X9_melt_99 {p : Program} {l : Launch} {e : Env} {s : State} {m : MethodId} {args : Array Value} {below : List Frame} {meth : Method} {c : Code} {D : va_G} {cy : Cyy} {A : Nat → Prop} {G : Gg} (X : Cx p m c cX9_melt 10 s args wz_X9_melt RX9 D cy) {Q : State → Prop} (r0 : Nat) (i1 : Int32) (i2 : Int32) (i4 : Int32) (Qo : Int32 × Mm → Prop)  (hE : ∀ (y : Int32 × Mm), Qo (y) → ∀ (H : Heap) (locs : List Loc) (ls : Array Slot), Wo s D cy A G y.2 H locs → lv_has ls 10 [(0, .ref r0), (1, .int i1), (2, .int i2), (4, .int i4), (5, .int y.1)] → W p l e rm_X9_melt s m args below meth c H locs 0 0 Q (F0 m 133 ls [])) (rec : Int32 → Int32 → Mm → Option (Int32 × Mm)) (hrec : ∀ (i5 : Int32) (i6 : Int32) (M : Mm) (H : Heap) (locs : List Loc) (ls : Array Slot), Wo s D cy A G M H locs → lv_has ls 10 [(0, .ref r0), (1, .int i1), (2, .int i2), (4, .int i4), (5, .int i5), (6, .int i6)] → OK (rec i5 i6 M) Qo → W p l e rm_X9_melt s m args below meth c H locs 0 0 Q (F0 m 56 ls [])) (i5 : Int32) (i6 : Int32) (i7 : Int32)  (M : Mm) (H : Heap) (locs : List Loc) (ls : Array Slot) (w : Wo s D cy A G M H locs) (hl : lv_has ls 10 [(0, .ref r0), (1, .int i1), (2, .int i2), (4, .int i4), (5, .int i5), (6, .int i6), (7, .int i7)]) (hk : OK (jn_X9_melt_99 G M rec r0 i1 i2 i4 i5 i6 i7) Qo) : W p l e rm_X9_melt s m args below meth c H locs 0 0 Q (F0 m 99 ls []) := by
    have hx := X.1.1
    have hb := X.1.2.1
    unfold jn_X9_melt_99 at hk
    refine lv_aload_n hx hb dX9_melt_99 rfl (lv_at hl 0 rfl) ?_
    obtain ⟨c23, hk⟩ := ok_c hk
    obtain ⟨r24, e25, hk⟩ := ok_b hk
    refine zgr X w 9 14 44 (C := RX9) (T := TX9) (N := 23) rfl ui_X9 (by decide) rfl (tb wf_X9_44) dX9_melt_100 c23 e25 ?_
    refine lv_iload hx hb dX9_melt_103 (lv_at hl 5 rfl) ?_
    refine lv_iload hx hb dX9_melt_105 (lv_at hl 6 rfl) ?_
    refine lv_iload hx hb dX9_melt_107 (lv_at hl 5 rfl) ?_
    refine lv_icmp_ne (tgt := 119) hx hb dX9_melt_109 (by decide) (fun c26 => ?_) (fun c26 => ?_)
    · have hk := ok_n c26 hk
      refine lv_aload_n hx hb dX9_melt_119 rfl (lv_at hl 0 rfl) ?_
      refine zgr X w 9 14 44 (C := RX9) (T := TX9) (N := 23) rfl ui_X9 (by decide) rfl (tb wf_X9_44) dX9_melt_120 c23 e25 ?_
      refine lv_iload hx hb dX9_melt_123 (lv_at hl 6 rfl) ?_
      obtain ⟨c27, hk⟩ := ok_c hk
      obtain ⟨c28, hk⟩ := ok_c hk
      refine zai X w dX9_melt_125 c27 c28 ?_
      obtain ⟨c29, hk⟩ := ok_c hk
      refine zsi X w dX9_melt_126 c27 c29 (fun H locs w => ?_)
      refine lv_iinc (v := (i6 + 1)) (lv' := [(6, .int (i6 + 1)), (0, .ref r0), (1, .int i1), (2, .int i2), (4, .int i4), (5, .int i5), (7, .int i7)]) hx hb dX9_melt_127 hl (k := 5) rfl rfl (by decide) rfl (fun ls hl => ?_)
      refine lv_goto (tgt := 56) hx hb dX9_melt_130 (by decide) ?_
      exact hrec i5 (i6 + 1) (mwI M r24 (Int32.toNatClampNeg i6) (M.1 r24 (Int32.toNatClampNeg i7))) _ _ _ w (lv_sub hl [1, 2, 3, 4, 5, 0] rfl) hk
    · have hk := ok_p c26 hk
      refine lv_iload hx hb dX9_melt_112 (lv_at hl 4 rfl) ?_
      refine lv_iconst (v := 1) hx hb dX9_melt_114 (by decide) ?_
      refine lv_isub hx hb dX9_melt_115 ?_
      refine lv_goto (tgt := 126) hx hb dX9_melt_116 (by decide) ?_
      obtain ⟨c30, hk⟩ := ok_c hk
      obtain ⟨c31, hk⟩ := ok_c hk
      refine zsi X w dX9_melt_126 c30 c31 (fun H locs w => ?_)
      refine lv_iinc (v := (i6 + 1)) (lv' := [(6, .int (i6 + 1)), (0, .ref r0), (1, .int i1), (2, .int i2), (4, .int i4), (5, .int i5), (7, .int i7)]) hx hb dX9_melt_127 hl (k := 5) rfl rfl (by decide) rfl (fun ls hl => ?_)
      refine lv_goto (tgt := 56) hx hb dX9_melt_130 (by decide) ?_
      exact hrec i5 (i6 + 1) (mwI M r24 (Int32.toNatClampNeg i6) (i5 - (1 : Int32))) _ _ _ w (lv_sub hl [1, 2, 3, 4, 5, 0] rfl) hk
set_option maxHeartbeats 4000000 in
set_option maxRecDepth 100000 in
theorem wb_X9_melt_56 {p : Program} {l : Launch} {e : Env} {s : State} {m : MethodId} {args : Array Value} {below : List Frame} {meth : Method} {c : Code} {D : va_G} {cy : Cyy} {A : Nat → Prop} {G : Gg} (X : Cx p m c cX9_melt 10 s args wz_X9_melt RX9 D cy) {Q : State → Prop} (r0 : Nat) (i1 : Int32) (i2 : Int32) (i4 : Int32) (Qo : Int32 × Mm → Prop)  (hE : ∀ (y : Int32 × Mm), Qo (y) → ∀ (H : Heap) (locs : List Loc) (ls : Array Slot), Wo s D cy A G y.2 H locs → lv_has ls 10 [(0, .ref r0), (1, .int i1), (2, .int i2), (4, .int i4), (5, .int y.1)] → W p l e rm_X9_melt s m args below meth c H locs 0 0 Q (F0 m 133 ls [])) (rec : Int32 → Int32 → Mm → Option (Int32 × Mm)) (hrec : ∀ (i5 : Int32) (i6 : Int32) (M : Mm) (H : Heap) (locs : List Loc) (ls : Array Slot), Wo s D cy A G M H locs → lv_has ls 10 [(0, .ref r0), (1, .int i1), (2, .int i2), (4, .int i4), (5, .int i5), (6, .int i6)] → OK (rec i5 i6 M) Qo → W p l e rm_X9_melt s m args below meth c H locs 0 0 Q (F0 m 56 ls [])) (i5 : Int32) (i6 : Int32) (M : Mm) (H : Heap) (locs : List Loc) (ls : Array Slot) (w : Wo s D cy A G M H locs) (hl : lv_has ls 10 [(0, .ref r0), (1, .int i1), (2, .int i2), (4, .int i4), (5, .int i5), (6, .int i6)]) (hk : OK (bd_X9_melt_56 G r0 i1 i2 i4 rec i5 i6 M) Qo) : W p l e rm_X9_melt s m args below meth c H locs 0 0 Q (F0 m 56 ls []) := by
    have hx := X.1.1
    have hb := X.1.2.1
    unfold bd_X9_melt_56 at hk
    refine lv_iload hx hb dX9_melt_56 (lv_at hl 5 rfl) ?_
    refine lv_iload hx hb dX9_melt_58 (lv_at hl 3 rfl) ?_
    refine lv_icmp_ge (tgt := 133) hx hb dX9_melt_60 (by decide) (fun c13 => ?_) (fun c13 => ?_)
    · have hk := ok_p c13 hk
      exact hE (i5, M) (ok_s hk) _ _ _ w (lv_sub hl [0, 1, 2, 3, 4] rfl)
    · have hk := ok_n c13 hk
      refine lv_iconst (v := 0) hx hb dX9_melt_63 (by decide) ?_
      refine lv_istore (lv' := [(7, .int (0 : Int32)), (0, .ref r0), (1, .int i1), (2, .int i2), (4, .int i4), (5, .int i5), (6, .int i6)]) hx hb dX9_melt_64 hl (by decide) rfl (fun ls hl => ?_)
      refine wl_X9_melt_66 X M r0 i1 i2 i4 i5 i6 (Qo := _) (fun q21 hk H locs ls w hl => ?_) FU (0 : Int32) _ _ _ w (lv_sub hl [1, 2, 3, 4, 5, 6, 0] rfl) (ok_b hk)
      refine lv_iload hx hb dX9_melt_89 (lv_at hl 6 rfl) ?_
      refine lv_iload hx hb dX9_melt_91 (lv_at hl 5 rfl) ?_
      refine lv_icmp_ne (tgt := 99) hx hb dX9_melt_93 (by decide) (fun c22 => ?_) (fun c22 => ?_)
      · have hk := ok_n c22 hk
        exact wj_X9_melt_99 X r0 i1 i2 i4 Qo hE rec hrec i5 i6 q21 M _ _ _ w (lv_sub hl [0, 1, 2, 3, 4, 5, 6] rfl) hk
      · have hk := ok_p c22 hk
        refine lv_iinc (v := (i5 + 1)) (lv' := [(5, .int (i5 + 1)), (0, .ref r0), (1, .int i1), (2, .int i2), (4, .int i4), (6, .int i6), (7, .int q21)]) hx hb dX9_melt_96 hl (k := 4) rfl rfl (by decide) rfl (fun ls hl => ?_)
        exact wj_X9_melt_99 X r0 i1 i2 i4 Qo hE rec hrec (i5 + 1) i6 q21 M _ _ _ w (lv_sub hl [1, 2, 3, 4, 0, 5, 6] rfl) hk
theorem wl_X9_melt_56 {p : Program} {l : Launch} {e : Env} {s : State} {m : MethodId} {args : Array Value} {below : List Frame} {meth : Method} {c : Code} {D : va_G} {cy : Cyy} {A : Nat → Prop} {G : Gg} (X : Cx p m c cX9_melt 10 s args wz_X9_melt RX9 D cy) {Q : State → Prop} (r0 : Nat) (i1 : Int32) (i2 : Int32) (i4 : Int32) (Qo : Int32 × Mm → Prop)  (hE : ∀ (y : Int32 × Mm), Qo (y) → ∀ (H : Heap) (locs : List Loc) (ls : Array Slot), Wo s D cy A G y.2 H locs → lv_has ls 10 [(0, .ref r0), (1, .int i1), (2, .int i2), (4, .int i4), (5, .int y.1)] → W p l e rm_X9_melt s m args below meth c H locs 0 0 Q (F0 m 133 ls [])) : ∀ (n : Nat) (i5 : Int32) (i6 : Int32) (M : Mm) (H : Heap) (locs : List Loc) (ls : Array Slot), Wo s D cy A G M H locs → lv_has ls 10 [(0, .ref r0), (1, .int i1), (2, .int i2), (4, .int i4), (5, .int i5), (6, .int i6)] → OK (lp_X9_melt_56 G r0 i1 i2 i4 n i5 i6 M) Qo → W p l e rm_X9_melt s m args below meth c H locs 0 0 Q (F0 m 56 ls []) := by
  intro n
  induction n with
  | zero => intro i5 i6 M H locs ls w hl hk; exact ok_0 hk
  | succ n ih => intro i5 i6 M H locs ls w hl hk; exact wb_X9_melt_56 X r0 i1 i2 i4 Qo hE  (lp_X9_melt_56 G r0 i1 i2 i4 n) ih i5 i6 M H locs ls w hl hk
set_option maxHeartbeats 4000000 in
set_option maxRecDepth 100000 in
theorem wb_X9_melt_157 {p : Program} {l : Launch} {e : Env} {s : State} {m : MethodId} {args : Array Value} {below : List Frame} {meth : Method} {c : Code} {D : va_G} {cy : Cyy} {A : Nat → Prop} {G : Gg} (X : Cx p m c cX9_melt 10 s args wz_X9_melt RX9 D cy) {Q : State → Prop} (M : Mm) (r0 : Nat) (i1 : Int32) (i2 : Int32) (i4 : Int32) (i5 : Int32) (i7 : Int32) (i8 : Int32) (Qo : Int32 → Prop)  (hE : ∀ (y : Int32), Qo (y) → ∀ (H : Heap) (locs : List Loc) (ls : Array Slot), Wo s D cy A G M H locs → lv_has ls 10 [(0, .ref r0), (1, .int i1), (2, .int i2), (4, .int i4), (5, .int i5), (7, .int i7), (8, .int i8), (9, .int y)] → W p l e rm_X9_melt s m args below meth c H locs 0 0 Q (F0 m 182 ls [])) (rec : Int32 → Option (Int32)) (hrec : ∀ (i9 : Int32) (H : Heap) (locs : List Loc) (ls : Array Slot), Wo s D cy A G M H locs → lv_has ls 10 [(0, .ref r0), (1, .int i1), (2, .int i2), (4, .int i4), (5, .int i5), (7, .int i7), (8, .int i8), (9, .int i9)] → OK (rec i9) Qo → W p l e rm_X9_melt s m args below meth c H locs 0 0 Q (F0 m 157 ls [])) (i9 : Int32) (H : Heap) (locs : List Loc) (ls : Array Slot) (w : Wo s D cy A G M H locs) (hl : lv_has ls 10 [(0, .ref r0), (1, .int i1), (2, .int i2), (4, .int i4), (5, .int i5), (7, .int i7), (8, .int i8), (9, .int i9)]) (hk : OK (bd_X9_melt_157 G M r0 i1 i2 i4 i5 i7 i8 rec i9) Qo) : W p l e rm_X9_melt s m args below meth c H locs 0 0 Q (F0 m 157 ls []) := by
    have hx := X.1.1
    have hb := X.1.2.1
    unfold bd_X9_melt_157 at hk
    refine lv_iload hx hb dX9_melt_157 (lv_at hl 7 rfl) ?_
    refine lv_iload hx hb dX9_melt_159 (lv_at hl 6 rfl) ?_
    refine lv_icmp_ge (tgt := 182) hx hb dX9_melt_161 (by decide) (fun c35 => ?_) (fun c35 => ?_)
    · have hk := ok_p c35 hk
      exact hE i9 (ok_s hk) _ _ _ w (lv_sub hl [0, 1, 2, 3, 4, 5, 6, 7] rfl)
    · have hk := ok_n c35 hk
      refine lv_aload_n hx hb dX9_melt_164 rfl (lv_at hl 0 rfl) ?_
      refine lv_iload_n hx hb dX9_melt_165 rfl (lv_at hl 1 rfl) ?_
      refine lv_iload hx hb dX9_melt_166 (lv_at hl 6 rfl) ?_
      refine lv_iload hx hb dX9_melt_168 (lv_at hl 7 rfl) ?_
      obtain ⟨c38, hk⟩ := ok_c hk
      obtain ⟨q36, e37, hk⟩ := ok_b hk
      refine zVi X w (n := 3) (As := [.int i1, .int i8, .int i9]) (rest := []) (ci := 9) (C := RX9) (T := TX9) (N := 23) (c_X9_areAlike l D cy G M r0 i1 i8 i9 e37) (gzV wm_X9_149 wi_X9_areAlike ws_X9_areAlike wn_X9 wc_X9_areAlike) rfl rfl rfl (by decide +kernel) (by decide) rfl c38 rfl rfl hl.1 (Nat.le_of_ble_eq_true rfl) dX9_melt_170 ⟨Nat.zero_le _, Nat.zero_le _⟩ (fun H locs w => ?_)
      refine lv_if_ne (tgt := 182) hx hb dX9_melt_173 (by decide) (fun c39 => ?_) (fun c39 => ?_)
      · have hk := ok_n c39 hk
        exact hE i9 (ok_s hk) _ _ _ w (lv_sub hl [0, 1, 2, 3, 4, 5, 6, 7] rfl)
      · have hk := ok_p c39 hk
        refine lv_iinc (v := (i9 + 1)) (lv' := [(9, .int (i9 + 1)), (0, .ref r0), (1, .int i1), (2, .int i2), (4, .int i4), (5, .int i5), (7, .int i7), (8, .int i8)]) hx hb dX9_melt_176 hl (k := 7) rfl rfl (by decide) rfl (fun ls hl => ?_)
        refine lv_goto (tgt := 157) hx hb dX9_melt_179 (by decide) ?_
        exact hrec (i9 + 1) _ _ _ w (lv_sub hl [1, 2, 3, 4, 5, 6, 7, 0] rfl) hk
theorem wl_X9_melt_157 {p : Program} {l : Launch} {e : Env} {s : State} {m : MethodId} {args : Array Value} {below : List Frame} {meth : Method} {c : Code} {D : va_G} {cy : Cyy} {A : Nat → Prop} {G : Gg} (X : Cx p m c cX9_melt 10 s args wz_X9_melt RX9 D cy) {Q : State → Prop} (M : Mm) (r0 : Nat) (i1 : Int32) (i2 : Int32) (i4 : Int32) (i5 : Int32) (i7 : Int32) (i8 : Int32) (Qo : Int32 → Prop)  (hE : ∀ (y : Int32), Qo (y) → ∀ (H : Heap) (locs : List Loc) (ls : Array Slot), Wo s D cy A G M H locs → lv_has ls 10 [(0, .ref r0), (1, .int i1), (2, .int i2), (4, .int i4), (5, .int i5), (7, .int i7), (8, .int i8), (9, .int y)] → W p l e rm_X9_melt s m args below meth c H locs 0 0 Q (F0 m 182 ls [])) : ∀ (n : Nat) (i9 : Int32) (H : Heap) (locs : List Loc) (ls : Array Slot), Wo s D cy A G M H locs → lv_has ls 10 [(0, .ref r0), (1, .int i1), (2, .int i2), (4, .int i4), (5, .int i5), (7, .int i7), (8, .int i8), (9, .int i9)] → OK (lp_X9_melt_157 G M r0 i1 i2 i4 i5 i7 i8 n i9) Qo → W p l e rm_X9_melt s m args below meth c H locs 0 0 Q (F0 m 157 ls []) := by
  intro n
  induction n with
  | zero => intro i9 H locs ls w hl hk; exact ok_0 hk
  | succ n ih => intro i9 H locs ls w hl hk; exact wb_X9_melt_157 X M r0 i1 i2 i4 i5 i7 i8 Qo hE  (lp_X9_melt_157 G M r0 i1 i2 i4 i5 i7 i8 n) ih i9 H locs ls w hl hk
set_option maxHeartbeats 4000000 in
set_option maxRecDepth 100000 in
theorem wj_X9_melt_192 {p : Program} {l : Launch} {e : Env} {s : State} {m : MethodId} {args : Array Value} {below : List Frame} {meth : Method} {c : Code} {D : va_G} {cy : Cyy} {A : Nat → Prop} {G : Gg} (X : Cx p m c cX9_melt 10 s args wz_X9_melt RX9 D cy) {Q : State → Prop} (r0 : Nat) (i1 : Int32) (i2 : Int32) (i4 : Int32) (i5 : Int32) (Qo : Int32 × Mm → Prop)  (hE : ∀ (y : Int32 × Mm), Qo (y) → ∀ (H : Heap) (locs : List Loc) (ls : Array Slot), Wo s D cy A G y.2 H locs → lv_has ls 10 [(0, .ref r0), (1, .int i1), (2, .int i2), (4, .int i4), (5, .int i5), (7, .int y.1)] → W p l e rm_X9_melt s m args below meth c H locs 0 0 Q (F0 m 226 ls [])) (rec : Int32 → Int32 → Mm → Option (Int32 × Mm)) (hrec : ∀ (i7 : Int32) (i8 : Int32) (M : Mm) (H : Heap) (locs : List Loc) (ls : Array Slot), Wo s D cy A G M H locs → lv_has ls 10 [(0, .ref r0), (1, .int i1), (2, .int i2), (4, .int i4), (5, .int i5), (7, .int i7), (8, .int i8)] → OK (rec i7 i8 M) Qo → W p l e rm_X9_melt s m args below meth c H locs 0 0 Q (F0 m 147 ls [])) (i7 : Int32) (i8 : Int32) (i9 : Int32)  (M : Mm) (H : Heap) (locs : List Loc) (ls : Array Slot) (w : Wo s D cy A G M H locs) (hl : lv_has ls 10 [(0, .ref r0), (1, .int i1), (2, .int i2), (4, .int i4), (5, .int i5), (7, .int i7), (8, .int i8), (9, .int i9)]) (hk : OK (jn_X9_melt_192 G M rec r0 i1 i2 i4 i5 i7 i8 i9) Qo) : W p l e rm_X9_melt s m args below meth c H locs 0 0 Q (F0 m 192 ls []) := by
    have hx := X.1.1
    have hb := X.1.2.1
    unfold jn_X9_melt_192 at hk
    refine lv_aload_n hx hb dX9_melt_192 rfl (lv_at hl 0 rfl) ?_
    obtain ⟨c42, hk⟩ := ok_c hk
    obtain ⟨r43, e44, hk⟩ := ok_b hk
    refine zgr X w 9 15 47 (C := RX9) (T := TX9) (N := 23) rfl ui_X9 (by decide) rfl (tb wf_X9_47) dX9_melt_193 c42 e44 ?_
    refine lv_iload hx hb dX9_melt_196 (lv_at hl 6 rfl) ?_
    refine lv_iload hx hb dX9_melt_198 (lv_at hl 7 rfl) ?_
    refine lv_iload hx hb dX9_melt_200 (lv_at hl 6 rfl) ?_
    refine lv_icmp_ne (tgt := 212) hx hb dX9_melt_202 (by decide) (fun c45 => ?_) (fun c45 => ?_)
    · have hk := ok_n c45 hk
      refine lv_aload_n hx hb dX9_melt_212 rfl (lv_at hl 0 rfl) ?_
      refine zgr X w 9 15 47 (C := RX9) (T := TX9) (N := 23) rfl ui_X9 (by decide) rfl (tb wf_X9_47) dX9_melt_213 c42 e44 ?_
      refine lv_iload hx hb dX9_melt_216 (lv_at hl 7 rfl) ?_
      obtain ⟨c46, hk⟩ := ok_c hk
      obtain ⟨c47, hk⟩ := ok_c hk
      refine zai X w dX9_melt_218 c46 c47 ?_
      obtain ⟨c48, hk⟩ := ok_c hk
      refine zsi X w dX9_melt_219 c46 c48 (fun H locs w => ?_)
      refine lv_iinc (v := (i8 + 1)) (lv' := [(8, .int (i8 + 1)), (0, .ref r0), (1, .int i1), (2, .int i2), (4, .int i4), (5, .int i5), (7, .int i7), (9, .int i9)]) hx hb dX9_melt_220 hl (k := 6) rfl rfl (by decide) rfl (fun ls hl => ?_)
      refine lv_goto (tgt := 147) hx hb dX9_melt_223 (by decide) ?_
      exact hrec i7 (i8 + 1) (mwI M r43 (Int32.toNatClampNeg i8) (M.1 r43 (Int32.toNatClampNeg i9))) _ _ _ w (lv_sub hl [1, 2, 3, 4, 5, 6, 0] rfl) hk
    · have hk := ok_p c45 hk
      refine lv_iload hx hb dX9_melt_205 (lv_at hl 5 rfl) ?_
      refine lv_iconst (v := 1) hx hb dX9_melt_207 (by decide) ?_
      refine lv_isub hx hb dX9_melt_208 ?_
      refine lv_goto (tgt := 219) hx hb dX9_melt_209 (by decide) ?_
      obtain ⟨c49, hk⟩ := ok_c hk
      obtain ⟨c50, hk⟩ := ok_c hk
      refine zsi X w dX9_melt_219 c49 c50 (fun H locs w => ?_)
      refine lv_iinc (v := (i8 + 1)) (lv' := [(8, .int (i8 + 1)), (0, .ref r0), (1, .int i1), (2, .int i2), (4, .int i4), (5, .int i5), (7, .int i7), (9, .int i9)]) hx hb dX9_melt_220 hl (k := 6) rfl rfl (by decide) rfl (fun ls hl => ?_)
      refine lv_goto (tgt := 147) hx hb dX9_melt_223 (by decide) ?_
      exact hrec i7 (i8 + 1) (mwI M r43 (Int32.toNatClampNeg i8) (i7 - (1 : Int32))) _ _ _ w (lv_sub hl [1, 2, 3, 4, 5, 6, 0] rfl) hk
set_option maxHeartbeats 4000000 in
set_option maxRecDepth 100000 in
theorem wj_X9_melt_182 {p : Program} {l : Launch} {e : Env} {s : State} {m : MethodId} {args : Array Value} {below : List Frame} {meth : Method} {c : Code} {D : va_G} {cy : Cyy} {A : Nat → Prop} {G : Gg} (X : Cx p m c cX9_melt 10 s args wz_X9_melt RX9 D cy) {Q : State → Prop} (r0 : Nat) (i1 : Int32) (i2 : Int32) (i4 : Int32) (i5 : Int32) (Qo : Int32 × Mm → Prop)  (hE : ∀ (y : Int32 × Mm), Qo (y) → ∀ (H : Heap) (locs : List Loc) (ls : Array Slot), Wo s D cy A G y.2 H locs → lv_has ls 10 [(0, .ref r0), (1, .int i1), (2, .int i2), (4, .int i4), (5, .int i5), (7, .int y.1)] → W p l e rm_X9_melt s m args below meth c H locs 0 0 Q (F0 m 226 ls [])) (rec : Int32 → Int32 → Mm → Option (Int32 × Mm)) (hrec : ∀ (i7 : Int32) (i8 : Int32) (M : Mm) (H : Heap) (locs : List Loc) (ls : Array Slot), Wo s D cy A G M H locs → lv_has ls 10 [(0, .ref r0), (1, .int i1), (2, .int i2), (4, .int i4), (5, .int i5), (7, .int i7), (8, .int i8)] → OK (rec i7 i8 M) Qo → W p l e rm_X9_melt s m args below meth c H locs 0 0 Q (F0 m 147 ls [])) (i7 : Int32) (i8 : Int32) (i9 : Int32)  (M : Mm) (H : Heap) (locs : List Loc) (ls : Array Slot) (w : Wo s D cy A G M H locs) (hl : lv_has ls 10 [(0, .ref r0), (1, .int i1), (2, .int i2), (4, .int i4), (5, .int i5), (7, .int i7), (8, .int i8), (9, .int i9)]) (hk : OK (jn_X9_melt_182 G M rec r0 i1 i2 i4 i5 i7 i8 i9) Qo) : W p l e rm_X9_melt s m args below meth c H locs 0 0 Q (F0 m 182 ls []) := by
    have hx := X.1.1
    have hb := X.1.2.1
    unfold jn_X9_melt_182 at hk
    refine lv_iload hx hb dX9_melt_182 (lv_at hl 7 rfl) ?_
    refine lv_iload hx hb dX9_melt_184 (lv_at hl 6 rfl) ?_
    refine lv_icmp_ne (tgt := 192) hx hb dX9_melt_186 (by decide) (fun c41 => ?_) (fun c41 => ?_)
    · have hk := ok_n c41 hk
      exact wj_X9_melt_192 X r0 i1 i2 i4 i5 Qo hE rec hrec i7 i8 i9 M _ _ _ w (lv_sub hl [0, 1, 2, 3, 4, 5, 6, 7] rfl) hk
    · have hk := ok_p c41 hk
      refine lv_iinc (v := (i7 + 1)) (lv' := [(7, .int (i7 + 1)), (0, .ref r0), (1, .int i1), (2, .int i2), (4, .int i4), (5, .int i5), (8, .int i8), (9, .int i9)]) hx hb dX9_melt_189 hl (k := 5) rfl rfl (by decide) rfl (fun ls hl => ?_)
      exact wj_X9_melt_192 X r0 i1 i2 i4 i5 Qo hE rec hrec (i7 + 1) i8 i9 M _ _ _ w (lv_sub hl [1, 2, 3, 4, 5, 0, 6, 7] rfl) hk
set_option maxHeartbeats 4000000 in
set_option maxRecDepth 100000 in
theorem wb_X9_melt_147 {p : Program} {l : Launch} {e : Env} {s : State} {m : MethodId} {args : Array Value} {below : List Frame} {meth : Method} {c : Code} {D : va_G} {cy : Cyy} {A : Nat → Prop} {G : Gg} (X : Cx p m c cX9_melt 10 s args wz_X9_melt RX9 D cy) {Q : State → Prop} (r0 : Nat) (i1 : Int32) (i2 : Int32) (i4 : Int32) (i5 : Int32) (Qo : Int32 × Mm → Prop)  (hE : ∀ (y : Int32 × Mm), Qo (y) → ∀ (H : Heap) (locs : List Loc) (ls : Array Slot), Wo s D cy A G y.2 H locs → lv_has ls 10 [(0, .ref r0), (1, .int i1), (2, .int i2), (4, .int i4), (5, .int i5), (7, .int y.1)] → W p l e rm_X9_melt s m args below meth c H locs 0 0 Q (F0 m 226 ls [])) (rec : Int32 → Int32 → Mm → Option (Int32 × Mm)) (hrec : ∀ (i7 : Int32) (i8 : Int32) (M : Mm) (H : Heap) (locs : List Loc) (ls : Array Slot), Wo s D cy A G M H locs → lv_has ls 10 [(0, .ref r0), (1, .int i1), (2, .int i2), (4, .int i4), (5, .int i5), (7, .int i7), (8, .int i8)] → OK (rec i7 i8 M) Qo → W p l e rm_X9_melt s m args below meth c H locs 0 0 Q (F0 m 147 ls [])) (i7 : Int32) (i8 : Int32) (M : Mm) (H : Heap) (locs : List Loc) (ls : Array Slot) (w : Wo s D cy A G M H locs) (hl : lv_has ls 10 [(0, .ref r0), (1, .int i1), (2, .int i2), (4, .int i4), (5, .int i5), (7, .int i7), (8, .int i8)]) (hk : OK (bd_X9_melt_147 G r0 i1 i2 i4 i5 rec i7 i8 M) Qo) : W p l e rm_X9_melt s m args below meth c H locs 0 0 Q (F0 m 147 ls []) := by
    have hx := X.1.1
    have hb := X.1.2.1
    unfold bd_X9_melt_147 at hk
    refine lv_iload hx hb dX9_melt_147 (lv_at hl 6 rfl) ?_
    refine lv_iload hx hb dX9_melt_149 (lv_at hl 3 rfl) ?_
    refine lv_icmp_ge (tgt := 226) hx hb dX9_melt_151 (by decide) (fun c34 => ?_) (fun c34 => ?_)
    · have hk := ok_p c34 hk
      exact hE (i7, M) (ok_s hk) _ _ _ w (lv_sub hl [0, 1, 2, 3, 4, 5] rfl)
    · have hk := ok_n c34 hk
      refine lv_iconst (v := 0) hx hb dX9_melt_154 (by decide) ?_
      refine lv_istore (lv' := [(9, .int (0 : Int32)), (0, .ref r0), (1, .int i1), (2, .int i2), (4, .int i4), (5, .int i5), (7, .int i7), (8, .int i8)]) hx hb dX9_melt_155 hl (by decide) rfl (fun ls hl => ?_)
      refine wl_X9_melt_157 X M r0 i1 i2 i4 i5 i7 i8 (Qo := _) (fun q40 hk H locs ls w hl => ?_) FU (0 : Int32) _ _ _ w (lv_sub hl [1, 2, 3, 4, 5, 6, 7, 0] rfl) (ok_b hk)
      exact wj_X9_melt_182 X r0 i1 i2 i4 i5 Qo hE rec hrec i7 i8 q40 M _ _ _ w (lv_sub hl [0, 1, 2, 3, 4, 5, 6, 7] rfl) hk
theorem wl_X9_melt_147 {p : Program} {l : Launch} {e : Env} {s : State} {m : MethodId} {args : Array Value} {below : List Frame} {meth : Method} {c : Code} {D : va_G} {cy : Cyy} {A : Nat → Prop} {G : Gg} (X : Cx p m c cX9_melt 10 s args wz_X9_melt RX9 D cy) {Q : State → Prop} (r0 : Nat) (i1 : Int32) (i2 : Int32) (i4 : Int32) (i5 : Int32) (Qo : Int32 × Mm → Prop)  (hE : ∀ (y : Int32 × Mm), Qo (y) → ∀ (H : Heap) (locs : List Loc) (ls : Array Slot), Wo s D cy A G y.2 H locs → lv_has ls 10 [(0, .ref r0), (1, .int i1), (2, .int i2), (4, .int i4), (5, .int i5), (7, .int y.1)] → W p l e rm_X9_melt s m args below meth c H locs 0 0 Q (F0 m 226 ls [])) : ∀ (n : Nat) (i7 : Int32) (i8 : Int32) (M : Mm) (H : Heap) (locs : List Loc) (ls : Array Slot), Wo s D cy A G M H locs → lv_has ls 10 [(0, .ref r0), (1, .int i1), (2, .int i2), (4, .int i4), (5, .int i5), (7, .int i7), (8, .int i8)] → OK (lp_X9_melt_147 G r0 i1 i2 i4 i5 n i7 i8 M) Qo → W p l e rm_X9_melt s m args below meth c H locs 0 0 Q (F0 m 147 ls []) := by
  intro n
  induction n with
  | zero => intro i7 i8 M H locs ls w hl hk; exact ok_0 hk
  | succ n ih => intro i7 i8 M H locs ls w hl hk; exact wb_X9_melt_147 X r0 i1 i2 i4 i5 Qo hE  (lp_X9_melt_147 G r0 i1 i2 i4 i5 n) ih i7 i8 M H locs ls w hl hk
set_option maxHeartbeats 4000000 in
set_option maxRecDepth 100000 in
theorem wb_X9_melt_247 {p : Program} {l : Launch} {e : Env} {s : State} {m : MethodId} {args : Array Value} {below : List Frame} {meth : Method} {c : Code} {D : va_G} {cy : Cyy} {A : Nat → Prop} {G : Gg} (X : Cx p m c cX9_melt 10 s args wz_X9_melt RX9 D cy) {Q : State → Prop} (r0 : Nat) (i1 : Int32) (i2 : Int32) (i4 : Int32) (i5 : Int32) (i6 : Int32) (Qo : Mm → Prop)  (hE : ∀ (y : Mm), Qo (y) → ∀ (H : Heap) (locs : List Loc) (ls : Array Slot), Wo s D cy A G y H locs → lv_has ls 10 [(0, .ref r0), (1, .int i1), (2, .int i2), (4, .int i4), (5, .int i5), (6, .int i6)] → W p l e rm_X9_melt s m args below meth c H locs 0 0 Q (F0 m 274 ls [])) (rec : Int32 → Mm → Option (Mm)) (hrec : ∀ (i8 : Int32) (M : Mm) (H : Heap) (locs : List Loc) (ls : Array Slot), Wo s D cy A G M H locs → lv_has ls 10 [(0, .ref r0), (1, .int i1), (2, .int i2), (4, .int i4), (5, .int i5), (6, .int i6), (8, .int i8)] → OK (rec i8 M) Qo → W p l e rm_X9_melt s m args below meth c H locs 0 0 Q (F0 m 247 ls [])) (i8 : Int32) (M : Mm) (H : Heap) (locs : List Loc) (ls : Array Slot) (w : Wo s D cy A G M H locs) (hl : lv_has ls 10 [(0, .ref r0), (1, .int i1), (2, .int i2), (4, .int i4), (5, .int i5), (6, .int i6), (8, .int i8)]) (hk : OK (bd_X9_melt_247 G r0 i1 i2 i4 i5 i6 rec i8 M) Qo) : W p l e rm_X9_melt s m args below meth c H locs 0 0 Q (F0 m 247 ls []) := by
    have hx := X.1.1
    have hb := X.1.2.1
    unfold bd_X9_melt_247 at hk
    refine lv_iload hx hb dX9_melt_247 (lv_at hl 6 rfl) ?_
    refine lv_iload hx hb dX9_melt_249 (lv_at hl 3 rfl) ?_
    refine lv_icmp_ge (tgt := 274) hx hb dX9_melt_251 (by decide) (fun c53 => ?_) (fun c53 => ?_)
    · have hk := ok_p c53 hk
      exact hE M (ok_s hk) _ _ _ w (lv_sub hl [0, 1, 2, 3, 4, 5] rfl)
    · have hk := ok_n c53 hk
      refine lv_aload_n hx hb dX9_melt_254 rfl (lv_at hl 0 rfl) ?_
      obtain ⟨c54, hk⟩ := ok_c hk
      obtain ⟨r55, e56, hk⟩ := ok_b hk
      refine zgr X w 9 14 44 (C := RX9) (T := TX9) (N := 23) rfl ui_X9 (by decide) rfl (tb wf_X9_44) dX9_melt_255 c54 e56 ?_
      refine lv_iload hx hb dX9_melt_258 (lv_at hl 6 rfl) ?_
      refine lv_aload_n hx hb dX9_melt_260 rfl (lv_at hl 0 rfl) ?_
      obtain ⟨r57, e58, hk⟩ := ok_b hk
      refine zgr X w 9 15 47 (C := RX9) (T := TX9) (N := 23) rfl ui_X9 (by decide) rfl (tb wf_X9_47) dX9_melt_261 c54 e58 ?_
      refine lv_iload hx hb dX9_melt_264 (lv_at hl 6 rfl) ?_
      obtain ⟨c59, hk⟩ := ok_c hk
      obtain ⟨c60, hk⟩ := ok_c hk
      refine zai X w dX9_melt_266 c59 c60 ?_
      obtain ⟨c61, hk⟩ := ok_c hk
      obtain ⟨c62, hk⟩ := ok_c hk
      refine zsi X w dX9_melt_267 c61 c62 (fun H locs w => ?_)
      refine lv_iinc (v := (i8 + 1)) (lv' := [(8, .int (i8 + 1)), (0, .ref r0), (1, .int i1), (2, .int i2), (4, .int i4), (5, .int i5), (6, .int i6)]) hx hb dX9_melt_268 hl (k := 6) rfl rfl (by decide) rfl (fun ls hl => ?_)
      refine lv_goto (tgt := 247) hx hb dX9_melt_271 (by decide) ?_
      exact hrec (i8 + 1) (mwI M r55 (Int32.toNatClampNeg i8) (M.1 r57 (Int32.toNatClampNeg i8))) _ _ _ w (lv_sub hl [1, 2, 3, 4, 5, 6, 0] rfl) hk
theorem wl_X9_melt_247 {p : Program} {l : Launch} {e : Env} {s : State} {m : MethodId} {args : Array Value} {below : List Frame} {meth : Method} {c : Code} {D : va_G} {cy : Cyy} {A : Nat → Prop} {G : Gg} (X : Cx p m c cX9_melt 10 s args wz_X9_melt RX9 D cy) {Q : State → Prop} (r0 : Nat) (i1 : Int32) (i2 : Int32) (i4 : Int32) (i5 : Int32) (i6 : Int32) (Qo : Mm → Prop)  (hE : ∀ (y : Mm), Qo (y) → ∀ (H : Heap) (locs : List Loc) (ls : Array Slot), Wo s D cy A G y H locs → lv_has ls 10 [(0, .ref r0), (1, .int i1), (2, .int i2), (4, .int i4), (5, .int i5), (6, .int i6)] → W p l e rm_X9_melt s m args below meth c H locs 0 0 Q (F0 m 274 ls [])) : ∀ (n : Nat) (i8 : Int32) (M : Mm) (H : Heap) (locs : List Loc) (ls : Array Slot), Wo s D cy A G M H locs → lv_has ls 10 [(0, .ref r0), (1, .int i1), (2, .int i2), (4, .int i4), (5, .int i5), (6, .int i6), (8, .int i8)] → OK (lp_X9_melt_247 G r0 i1 i2 i4 i5 i6 n i8 M) Qo → W p l e rm_X9_melt s m args below meth c H locs 0 0 Q (F0 m 247 ls []) := by
  intro n
  induction n with
  | zero => intro i8 M H locs ls w hl hk; exact ok_0 hk
  | succ n ih => intro i8 M H locs ls w hl hk; exact wb_X9_melt_247 X r0 i1 i2 i4 i5 i6 Qo hE  (lp_X9_melt_247 G r0 i1 i2 i4 i5 i6 n) ih i8 M H locs ls w hl hk
set_option maxHeartbeats 4000000 in
set_option maxRecDepth 100000 in
theorem wb_X9_melt_136 {p : Program} {l : Launch} {e : Env} {s : State} {m : MethodId} {args : Array Value} {below : List Frame} {meth : Method} {c : Code} {D : va_G} {cy : Cyy} {A : Nat → Prop} {G : Gg} (X : Cx p m c cX9_melt 10 s args wz_X9_melt RX9 D cy) {Q : State → Prop} (r0 : Nat) (i1 : Int32) (i2 : Int32) (i4 : Int32) (Qo : Int32 × Mm → Prop)  (hE : ∀ (y : Int32 × Mm), Qo (y) → ∀ (H : Heap) (locs : List Loc) (ls : Array Slot), Wo s D cy A G y.2 H locs → lv_has ls 10 [(0, .ref r0), (1, .int i1), (2, .int i2), (4, .int i4), (5, .int y.1)] → W p l e rm_X9_melt s m args below meth c H locs 0 0 Q (F0 m 277 ls [])) (rec : Int32 → Int32 → Mm → Option (Int32 × Mm)) (hrec : ∀ (i5 : Int32) (i6 : Int32) (M : Mm) (H : Heap) (locs : List Loc) (ls : Array Slot), Wo s D cy A G M H locs → lv_has ls 10 [(0, .ref r0), (1, .int i1), (2, .int i2), (4, .int i4), (5, .int i5), (6, .int i6)] → OK (rec i5 i6 M) Qo → W p l e rm_X9_melt s m args below meth c H locs 0 0 Q (F0 m 136 ls [])) (i5 : Int32) (i6 : Int32) (M : Mm) (H : Heap) (locs : List Loc) (ls : Array Slot) (w : Wo s D cy A G M H locs) (hl : lv_has ls 10 [(0, .ref r0), (1, .int i1), (2, .int i2), (4, .int i4), (5, .int i5), (6, .int i6)]) (hk : OK (bd_X9_melt_136 G r0 i1 i2 i4 rec i5 i6 M) Qo) : W p l e rm_X9_melt s m args below meth c H locs 0 0 Q (F0 m 136 ls []) := by
    have hx := X.1.1
    have hb := X.1.2.1
    unfold bd_X9_melt_136 at hk
    refine lv_iload hx hb dX9_melt_136 (lv_at hl 5 rfl) ?_
    refine lv_if_eq (tgt := 277) hx hb dX9_melt_138 (by decide) (fun c33 => ?_) (fun c33 => ?_)
    · have hk := ok_p c33 hk
      exact hE (i5, M) (ok_s hk) _ _ _ w (lv_sub hl [0, 1, 2, 3, 4] rfl)
    · have hk := ok_n c33 hk
      refine lv_iconst (v := 0) hx hb dX9_melt_141 (by decide) ?_
      refine lv_istore (lv' := [(7, .int (0 : Int32)), (0, .ref r0), (1, .int i1), (2, .int i2), (4, .int i4), (5, .int i5), (6, .int i6)]) hx hb dX9_melt_142 hl (by decide) rfl (fun ls hl => ?_)
      refine lv_iconst (v := 0) hx hb dX9_melt_144 (by decide) ?_
      refine lv_istore (lv' := [(8, .int (0 : Int32)), (7, .int (0 : Int32)), (0, .ref r0), (1, .int i1), (2, .int i2), (4, .int i4), (5, .int i5), (6, .int i6)]) hx hb dX9_melt_145 hl (by decide) rfl (fun ls hl => ?_)
      refine wl_X9_melt_147 X r0 i1 i2 i4 i5 (Qo := _) (fun q51 hk H locs ls w hl => ?_) FU (0 : Int32) (0 : Int32) M _ _ _ w (lv_sub hl [2, 3, 4, 5, 6, 1, 0] rfl) (ok_b hk)
      refine lv_iload hx hb dX9_melt_226 (lv_at hl 5 rfl) ?_
      refine lv_iload hx hb dX9_melt_228 (lv_at hl 4 rfl) ?_
      refine lv_icmp_le (tgt := 237) hx hb dX9_melt_230 (by decide) (fun c52 => ?_) (fun c52 => ?_)
      · have hk := ok_p c52 hk
        refine lv_iconst (v := 0) hx hb dX9_melt_237 (by decide) ?_
        refine lv_istore (lv' := [(6, .int (0 : Int32)), (0, .ref r0), (1, .int i1), (2, .int i2), (4, .int i4), (5, .int i5), (7, .int q51.1)]) hx hb dX9_melt_238 hl (by decide) rfl (fun ls hl => ?_)
        refine lv_iload hx hb dX9_melt_240 (lv_at hl 6 rfl) ?_
        refine lv_istore (lv' := [(5, .int q51.1), (6, .int (0 : Int32)), (0, .ref r0), (1, .int i1), (2, .int i2), (4, .int i4), (7, .int q51.1)]) hx hb dX9_melt_242 hl (by decide) rfl (fun ls hl => ?_)
        refine lv_iconst (v := 0) hx hb dX9_melt_244 (by decide) ?_
        refine lv_istore (lv' := [(8, .int (0 : Int32)), (5, .int q51.1), (6, .int (0 : Int32)), (0, .ref r0), (1, .int i1), (2, .int i2), (4, .int i4), (7, .int q51.1)]) hx hb dX9_melt_245 hl (by decide) rfl (fun ls hl => ?_)
        refine wl_X9_melt_247 X r0 i1 i2 i4 q51.1 (0 : Int32) (Qo := _) (fun q63 hk H locs ls w hl => ?_) FU (0 : Int32) q51.2 _ _ _ w (lv_sub hl [3, 4, 5, 6, 1, 2, 0] rfl) (ok_b hk)
        refine lv_goto (tgt := 136) hx hb dX9_melt_274 (by decide) ?_
        exact hrec q51.1 (0 : Int32) q63 _ _ _ w (lv_sub hl [0, 1, 2, 3, 4, 5] rfl) hk
      · have hk := ok_n c52 hk
        refine lv_iconst (v := 1) hx hb dX9_melt_233 (by decide) ?_
        refine lv_goto (tgt := 238) hx hb dX9_melt_234 (by decide) ?_
        refine lv_istore (lv' := [(6, .int (1 : Int32)), (0, .ref r0), (1, .int i1), (2, .int i2), (4, .int i4), (5, .int i5), (7, .int q51.1)]) hx hb dX9_melt_238 hl (by decide) rfl (fun ls hl => ?_)
        refine lv_iload hx hb dX9_melt_240 (lv_at hl 6 rfl) ?_
        refine lv_istore (lv' := [(5, .int q51.1), (6, .int (1 : Int32)), (0, .ref r0), (1, .int i1), (2, .int i2), (4, .int i4), (7, .int q51.1)]) hx hb dX9_melt_242 hl (by decide) rfl (fun ls hl => ?_)
        refine lv_iconst (v := 0) hx hb dX9_melt_244 (by decide) ?_
        refine lv_istore (lv' := [(8, .int (0 : Int32)), (5, .int q51.1), (6, .int (1 : Int32)), (0, .ref r0), (1, .int i1), (2, .int i2), (4, .int i4), (7, .int q51.1)]) hx hb dX9_melt_245 hl (by decide) rfl (fun ls hl => ?_)
        refine wl_X9_melt_247 X r0 i1 i2 i4 q51.1 (1 : Int32) (Qo := _) (fun q64 hk H locs ls w hl => ?_) FU (0 : Int32) q51.2 _ _ _ w (lv_sub hl [3, 4, 5, 6, 1, 2, 0] rfl) (ok_b hk)
        refine lv_goto (tgt := 136) hx hb dX9_melt_274 (by decide) ?_
        exact hrec q51.1 (1 : Int32) q64 _ _ _ w (lv_sub hl [0, 1, 2, 3, 4, 5] rfl) hk
theorem wl_X9_melt_136 {p : Program} {l : Launch} {e : Env} {s : State} {m : MethodId} {args : Array Value} {below : List Frame} {meth : Method} {c : Code} {D : va_G} {cy : Cyy} {A : Nat → Prop} {G : Gg} (X : Cx p m c cX9_melt 10 s args wz_X9_melt RX9 D cy) {Q : State → Prop} (r0 : Nat) (i1 : Int32) (i2 : Int32) (i4 : Int32) (Qo : Int32 × Mm → Prop)  (hE : ∀ (y : Int32 × Mm), Qo (y) → ∀ (H : Heap) (locs : List Loc) (ls : Array Slot), Wo s D cy A G y.2 H locs → lv_has ls 10 [(0, .ref r0), (1, .int i1), (2, .int i2), (4, .int i4), (5, .int y.1)] → W p l e rm_X9_melt s m args below meth c H locs 0 0 Q (F0 m 277 ls [])) : ∀ (n : Nat) (i5 : Int32) (i6 : Int32) (M : Mm) (H : Heap) (locs : List Loc) (ls : Array Slot), Wo s D cy A G M H locs → lv_has ls 10 [(0, .ref r0), (1, .int i1), (2, .int i2), (4, .int i4), (5, .int i5), (6, .int i6)] → OK (lp_X9_melt_136 G r0 i1 i2 i4 n i5 i6 M) Qo → W p l e rm_X9_melt s m args below meth c H locs 0 0 Q (F0 m 136 ls []) := by
  intro n
  induction n with
  | zero => intro i5 i6 M H locs ls w hl hk; exact ok_0 hk
  | succ n ih => intro i5 i6 M H locs ls w hl hk; exact wb_X9_melt_136 X r0 i1 i2 i4 Qo hE  (lp_X9_melt_136 G r0 i1 i2 i4 n) ih i5 i6 M H locs ls w hl hk
set_option maxHeartbeats 4000000 in
set_option maxRecDepth 100000 in
theorem wb_X9_melt_291 {p : Program} {l : Launch} {e : Env} {s : State} {m : MethodId} {args : Array Value} {below : List Frame} {meth : Method} {c : Code} {D : va_G} {cy : Cyy} {A : Nat → Prop} {G : Gg} (X : Cx p m c cX9_melt 10 s args wz_X9_melt RX9 D cy) {Q : State → Prop} (r0 : Nat) (i1 : Int32) (i2 : Int32) (i4 : Int32) (i5 : Int32) (i7 : Int32) (Qo : Mm → Prop)  (hE : ∀ (y : Mm), Qo (y) → ∀ (H : Heap) (locs : List Loc) (ls : Array Slot), Wo s D cy A G y H locs → lv_has ls 10 [(0, .ref r0), (1, .int i1), (2, .int i2), (4, .int i4), (5, .int i5), (7, .int i7)] → W p l e rm_X9_melt s m args below meth c H locs 0 0 Q (F0 m 326 ls [])) (rec : Int32 → Mm → Option (Mm)) (hrec : ∀ (i8 : Int32) (M : Mm) (H : Heap) (locs : List Loc) (ls : Array Slot), Wo s D cy A G M H locs → lv_has ls 10 [(0, .ref r0), (1, .int i1), (2, .int i2), (4, .int i4), (5, .int i5), (7, .int i7), (8, .int i8)] → OK (rec i8 M) Qo → W p l e rm_X9_melt s m args below meth c H locs 0 0 Q (F0 m 291 ls [])) (i8 : Int32) (M : Mm) (H : Heap) (locs : List Loc) (ls : Array Slot) (w : Wo s D cy A G M H locs) (hl : lv_has ls 10 [(0, .ref r0), (1, .int i1), (2, .int i2), (4, .int i4), (5, .int i5), (7, .int i7), (8, .int i8)]) (hk : OK (bd_X9_melt_291 G r0 i1 i2 i4 i5 i7 rec i8 M) Qo) : W p l e rm_X9_melt s m args below meth c H locs 0 0 Q (F0 m 291 ls []) := by
    have hx := X.1.1
    have hb := X.1.2.1
    unfold bd_X9_melt_291 at hk
    refine lv_iload hx hb dX9_melt_291 (lv_at hl 6 rfl) ?_
    refine lv_iload hx hb dX9_melt_293 (lv_at hl 4 rfl) ?_
    refine lv_icmp_ge (tgt := 326) hx hb dX9_melt_295 (by decide) (fun c67 => ?_) (fun c67 => ?_)
    · have hk := ok_p c67 hk
      exact hE M (ok_s hk) _ _ _ w (lv_sub hl [0, 1, 2, 3, 4, 5] rfl)
    · have hk := ok_n c67 hk
      refine lv_aload_n hx hb dX9_melt_298 rfl (lv_at hl 0 rfl) ?_
      refine lv_aload_n hx hb dX9_melt_299 rfl (lv_at hl 0 rfl) ?_
      obtain ⟨c68, hk⟩ := ok_c hk
      obtain ⟨r69, e70, hk⟩ := ok_b hk
      refine zgr X w 9 14 44 (C := RX9) (T := TX9) (N := 23) rfl ui_X9 (by decide) rfl (tb wf_X9_44) dX9_melt_300 c68 e70 ?_
      refine lv_iload hx hb dX9_melt_303 (lv_at hl 5 rfl) ?_
      obtain ⟨c71, hk⟩ := ok_c hk
      obtain ⟨c72, hk⟩ := ok_c hk
      refine zai X w dX9_melt_305 c71 c72 ?_
      refine lv_iload hx hb dX9_melt_306 (lv_at hl 6 rfl) ?_
      refine lv_aload_n hx hb dX9_melt_308 rfl (lv_at hl 0 rfl) ?_
      refine lv_iload_n hx hb dX9_melt_309 rfl (lv_at hl 1 rfl) ?_
      refine lv_iload hx hb dX9_melt_310 (lv_at hl 5 rfl) ?_
      refine lv_iload hx hb dX9_melt_312 (lv_at hl 6 rfl) ?_
      obtain ⟨q73, e74, hk⟩ := ok_b hk
      refine zVi X w (n := 3) (As := [.int i1, .int i7, .int i8]) (rest := [.int i8, .int (M.1 r69 (Int32.toNatClampNeg i7)), .ref r0]) (ci := 9) (C := RX9) (T := TX9) (N := 23) (c_X9_goesTo l D cy G M r0 i1 i7 i8 e74) (gzV wm_X9_146 wi_X9_goesTo ws_X9_goesTo wn_X9 wc_X9_goesTo) rfl rfl rfl (by decide +kernel) (by decide) rfl c68 rfl rfl hl.1 (Nat.le_of_ble_eq_true rfl) dX9_melt_314 ⟨Nat.zero_le _, Nat.zero_le _⟩ (fun H locs w => ?_)
      obtain ⟨q75, e76, hk⟩ := ok_b hk
      refine zVv X w (n := 3) (As := [.int (M.1 r69 (Int32.toNatClampNeg i7)), .int i8, .int q73]) (rest := []) (ci := 9) (C := RX9) (T := TX9) (N := 23) (c_X9_make l D cy G M r0 (M.1 r69 (Int32.toNatClampNeg i7)) i8 q73 e76) (gzV wm_X9_82 wi_X9_make ws_X9_make wn_X9 wc_X9_make) rfl rfl rfl (by decide +kernel) (by decide) rfl c68 rfl rfl hl.1 (Nat.le_of_ble_eq_true rfl) dX9_melt_317 ⟨Nat.zero_le _, Nat.zero_le _⟩ (fun H locs w => ?_)
      refine lv_iinc (v := (i8 + 1)) (lv' := [(8, .int (i8 + 1)), (0, .ref r0), (1, .int i1), (2, .int i2), (4, .int i4), (5, .int i5), (7, .int i7)]) hx hb dX9_melt_320 hl (k := 6) rfl rfl (by decide) rfl (fun ls hl => ?_)
      refine lv_goto (tgt := 291) hx hb dX9_melt_323 (by decide) ?_
      exact hrec (i8 + 1) q75 _ _ _ w (lv_sub hl [1, 2, 3, 4, 5, 6, 0] rfl) hk
theorem wl_X9_melt_291 {p : Program} {l : Launch} {e : Env} {s : State} {m : MethodId} {args : Array Value} {below : List Frame} {meth : Method} {c : Code} {D : va_G} {cy : Cyy} {A : Nat → Prop} {G : Gg} (X : Cx p m c cX9_melt 10 s args wz_X9_melt RX9 D cy) {Q : State → Prop} (r0 : Nat) (i1 : Int32) (i2 : Int32) (i4 : Int32) (i5 : Int32) (i7 : Int32) (Qo : Mm → Prop)  (hE : ∀ (y : Mm), Qo (y) → ∀ (H : Heap) (locs : List Loc) (ls : Array Slot), Wo s D cy A G y H locs → lv_has ls 10 [(0, .ref r0), (1, .int i1), (2, .int i2), (4, .int i4), (5, .int i5), (7, .int i7)] → W p l e rm_X9_melt s m args below meth c H locs 0 0 Q (F0 m 326 ls [])) : ∀ (n : Nat) (i8 : Int32) (M : Mm) (H : Heap) (locs : List Loc) (ls : Array Slot), Wo s D cy A G M H locs → lv_has ls 10 [(0, .ref r0), (1, .int i1), (2, .int i2), (4, .int i4), (5, .int i5), (7, .int i7), (8, .int i8)] → OK (lp_X9_melt_291 G r0 i1 i2 i4 i5 i7 n i8 M) Qo → W p l e rm_X9_melt s m args below meth c H locs 0 0 Q (F0 m 291 ls []) := by
  intro n
  induction n with
  | zero => intro i8 M H locs ls w hl hk; exact ok_0 hk
  | succ n ih => intro i8 M H locs ls w hl hk; exact wb_X9_melt_291 X r0 i1 i2 i4 i5 i7 Qo hE  (lp_X9_melt_291 G r0 i1 i2 i4 i5 i7 n) ih i8 M H locs ls w hl hk
set_option maxHeartbeats 4000000 in
set_option maxRecDepth 100000 in
theorem wb_X9_melt_283 {p : Program} {l : Launch} {e : Env} {s : State} {m : MethodId} {args : Array Value} {below : List Frame} {meth : Method} {c : Code} {D : va_G} {cy : Cyy} {A : Nat → Prop} {G : Gg} (X : Cx p m c cX9_melt 10 s args wz_X9_melt RX9 D cy) {Q : State → Prop} (r0 : Nat) (i1 : Int32) (i2 : Int32) (i4 : Int32) (i5 : Int32) (Qo : Mm → Prop)  (hE : ∀ (y : Mm), Qo (y) → ∀ (H : Heap) (locs : List Loc) (ls : Array Slot), Wo s D cy A G y H locs → lv_has ls 10 [(0, .ref r0), (1, .int i1), (2, .int i2), (4, .int i4), (5, .int i5)] → W p l e rm_X9_melt s m args below meth c H locs 0 0 Q (F0 m 332 ls [])) (rec : Int32 → Mm → Option (Mm)) (hrec : ∀ (i7 : Int32) (M : Mm) (H : Heap) (locs : List Loc) (ls : Array Slot), Wo s D cy A G M H locs → lv_has ls 10 [(0, .ref r0), (1, .int i1), (2, .int i2), (4, .int i4), (5, .int i5), (7, .int i7)] → OK (rec i7 M) Qo → W p l e rm_X9_melt s m args below meth c H locs 0 0 Q (F0 m 283 ls [])) (i7 : Int32) (M : Mm) (H : Heap) (locs : List Loc) (ls : Array Slot) (w : Wo s D cy A G M H locs) (hl : lv_has ls 10 [(0, .ref r0), (1, .int i1), (2, .int i2), (4, .int i4), (5, .int i5), (7, .int i7)]) (hk : OK (bd_X9_melt_283 G r0 i1 i2 i4 i5 rec i7 M) Qo) : W p l e rm_X9_melt s m args below meth c H locs 0 0 Q (F0 m 283 ls []) := by
    have hx := X.1.1
    have hb := X.1.2.1
    unfold bd_X9_melt_283 at hk
    refine lv_iload hx hb dX9_melt_283 (lv_at hl 5 rfl) ?_
    refine lv_if_lt (tgt := 332) hx hb dX9_melt_285 (by decide) (fun c66 => ?_) (fun c66 => ?_)
    · have hk := ok_p c66 hk
      exact hE M (ok_s hk) _ _ _ w (lv_sub hl [0, 1, 2, 3, 4] rfl)
    · have hk := ok_n c66 hk
      refine lv_iconst (v := 0) hx hb dX9_melt_288 (by decide) ?_
      refine lv_istore (lv' := [(8, .int (0 : Int32)), (0, .ref r0), (1, .int i1), (2, .int i2), (4, .int i4), (5, .int i5), (7, .int i7)]) hx hb dX9_melt_289 hl (by decide) rfl (fun ls hl => ?_)
      refine wl_X9_melt_291 X r0 i1 i2 i4 i5 i7 (Qo := _) (fun q77 hk H locs ls w hl => ?_) FU (0 : Int32) M _ _ _ w (lv_sub hl [1, 2, 3, 4, 5, 6, 0] rfl) (ok_b hk)
      refine lv_iinc (v := (i7 + (-1))) (lv' := [(7, .int (i7 + (-1))), (0, .ref r0), (1, .int i1), (2, .int i2), (4, .int i4), (5, .int i5)]) hx hb dX9_melt_326 hl (k := 5) rfl rfl (by decide) rfl (fun ls hl => ?_)
      refine lv_goto (tgt := 283) hx hb dX9_melt_329 (by decide) ?_
      exact hrec (i7 + (-1)) q77 _ _ _ w (lv_sub hl [1, 2, 3, 4, 5, 0] rfl) hk
theorem wl_X9_melt_283 {p : Program} {l : Launch} {e : Env} {s : State} {m : MethodId} {args : Array Value} {below : List Frame} {meth : Method} {c : Code} {D : va_G} {cy : Cyy} {A : Nat → Prop} {G : Gg} (X : Cx p m c cX9_melt 10 s args wz_X9_melt RX9 D cy) {Q : State → Prop} (r0 : Nat) (i1 : Int32) (i2 : Int32) (i4 : Int32) (i5 : Int32) (Qo : Mm → Prop)  (hE : ∀ (y : Mm), Qo (y) → ∀ (H : Heap) (locs : List Loc) (ls : Array Slot), Wo s D cy A G y H locs → lv_has ls 10 [(0, .ref r0), (1, .int i1), (2, .int i2), (4, .int i4), (5, .int i5)] → W p l e rm_X9_melt s m args below meth c H locs 0 0 Q (F0 m 332 ls [])) : ∀ (n : Nat) (i7 : Int32) (M : Mm) (H : Heap) (locs : List Loc) (ls : Array Slot), Wo s D cy A G M H locs → lv_has ls 10 [(0, .ref r0), (1, .int i1), (2, .int i2), (4, .int i4), (5, .int i5), (7, .int i7)] → OK (lp_X9_melt_283 G r0 i1 i2 i4 i5 n i7 M) Qo → W p l e rm_X9_melt s m args below meth c H locs 0 0 Q (F0 m 283 ls []) := by
  intro n
  induction n with
  | zero => intro i7 M H locs ls w hl hk; exact ok_0 hk
  | succ n ih => intro i7 M H locs ls w hl hk; exact wb_X9_melt_283 X r0 i1 i2 i4 i5 Qo hE  (lp_X9_melt_283 G r0 i1 i2 i4 i5 n) ih i7 M H locs ls w hl hk
set_option maxHeartbeats 4000000 in
set_option maxRecDepth 100000 in
theorem wb_X9_melt_335 {p : Program} {l : Launch} {e : Env} {s : State} {m : MethodId} {args : Array Value} {below : List Frame} {meth : Method} {c : Code} {D : va_G} {cy : Cyy} {A : Nat → Prop} {G : Gg} (X : Cx p m c cX9_melt 10 s args wz_X9_melt RX9 D cy) {Q : State → Prop} (r0 : Nat) (i1 : Int32) (i2 : Int32) (i4 : Int32) (i5 : Int32) (Qo : Mm → Prop)  (hE : ∀ (y : Mm), Qo (y) → ∀ (H : Heap) (locs : List Loc) (ls : Array Slot), Wo s D cy A G y H locs → lv_has ls 10 [(0, .ref r0), (1, .int i1), (2, .int i2), (4, .int i4), (5, .int i5)] → W p l e rm_X9_melt s m args below meth c H locs 0 0 Q (F0 m 362 ls [])) (rec : Int32 → Mm → Option (Mm)) (hrec : ∀ (i7 : Int32) (M : Mm) (H : Heap) (locs : List Loc) (ls : Array Slot), Wo s D cy A G M H locs → lv_has ls 10 [(0, .ref r0), (1, .int i1), (2, .int i2), (4, .int i4), (5, .int i5), (7, .int i7)] → OK (rec i7 M) Qo → W p l e rm_X9_melt s m args below meth c H locs 0 0 Q (F0 m 335 ls [])) (i7 : Int32) (M : Mm) (H : Heap) (locs : List Loc) (ls : Array Slot) (w : Wo s D cy A G M H locs) (hl : lv_has ls 10 [(0, .ref r0), (1, .int i1), (2, .int i2), (4, .int i4), (5, .int i5), (7, .int i7)]) (hk : OK (bd_X9_melt_335 G r0 i1 i2 i4 i5 rec i7 M) Qo) : W p l e rm_X9_melt s m args below meth c H locs 0 0 Q (F0 m 335 ls []) := by
    have hx := X.1.1
    have hb := X.1.2.1
    unfold bd_X9_melt_335 at hk
    refine lv_iload hx hb dX9_melt_335 (lv_at hl 5 rfl) ?_
    refine lv_iload hx hb dX9_melt_337 (lv_at hl 3 rfl) ?_
    refine lv_icmp_ge (tgt := 362) hx hb dX9_melt_339 (by decide) (fun c79 => ?_) (fun c79 => ?_)
    · have hk := ok_p c79 hk
      exact hE M (ok_s hk) _ _ _ w (lv_sub hl [0, 1, 2, 3, 4] rfl)
    · have hk := ok_n c79 hk
      refine lv_aload_n hx hb dX9_melt_342 rfl (lv_at hl 0 rfl) ?_
      obtain ⟨c80, hk⟩ := ok_c hk
      obtain ⟨r81, e82, hk⟩ := ok_b hk
      refine zgr X w 9 16 50 (C := RX9) (T := TX9) (N := 23) rfl ui_X9 (by decide) rfl (tb wf_X9_50) dX9_melt_343 c80 e82 ?_
      refine lv_iload hx hb dX9_melt_346 (lv_at hl 5 rfl) ?_
      refine lv_aload_n hx hb dX9_melt_348 rfl (lv_at hl 0 rfl) ?_
      obtain ⟨r83, e84, hk⟩ := ok_b hk
      refine zgr X w 9 14 44 (C := RX9) (T := TX9) (N := 23) rfl ui_X9 (by decide) rfl (tb wf_X9_44) dX9_melt_349 c80 e84 ?_
      refine lv_iload hx hb dX9_melt_352 (lv_at hl 5 rfl) ?_
      obtain ⟨c85, hk⟩ := ok_c hk
      obtain ⟨c86, hk⟩ := ok_c hk
      refine zai X w dX9_melt_354 c85 c86 ?_
      obtain ⟨c87, hk⟩ := ok_c hk
      obtain ⟨c88, hk⟩ := ok_c hk
      refine zsi X w dX9_melt_355 c87 c88 (fun H locs w => ?_)
      refine lv_iinc (v := (i7 + 1)) (lv' := [(7, .int (i7 + 1)), (0, .ref r0), (1, .int i1), (2, .int i2), (4, .int i4), (5, .int i5)]) hx hb dX9_melt_356 hl (k := 5) rfl rfl (by decide) rfl (fun ls hl => ?_)
      refine lv_goto (tgt := 335) hx hb dX9_melt_359 (by decide) ?_
      exact hrec (i7 + 1) (mwI M r81 (Int32.toNatClampNeg i7) (M.1 r83 (Int32.toNatClampNeg i7))) _ _ _ w (lv_sub hl [1, 2, 3, 4, 5, 0] rfl) hk
theorem wl_X9_melt_335 {p : Program} {l : Launch} {e : Env} {s : State} {m : MethodId} {args : Array Value} {below : List Frame} {meth : Method} {c : Code} {D : va_G} {cy : Cyy} {A : Nat → Prop} {G : Gg} (X : Cx p m c cX9_melt 10 s args wz_X9_melt RX9 D cy) {Q : State → Prop} (r0 : Nat) (i1 : Int32) (i2 : Int32) (i4 : Int32) (i5 : Int32) (Qo : Mm → Prop)  (hE : ∀ (y : Mm), Qo (y) → ∀ (H : Heap) (locs : List Loc) (ls : Array Slot), Wo s D cy A G y H locs → lv_has ls 10 [(0, .ref r0), (1, .int i1), (2, .int i2), (4, .int i4), (5, .int i5)] → W p l e rm_X9_melt s m args below meth c H locs 0 0 Q (F0 m 362 ls [])) : ∀ (n : Nat) (i7 : Int32) (M : Mm) (H : Heap) (locs : List Loc) (ls : Array Slot), Wo s D cy A G M H locs → lv_has ls 10 [(0, .ref r0), (1, .int i1), (2, .int i2), (4, .int i4), (5, .int i5), (7, .int i7)] → OK (lp_X9_melt_335 G r0 i1 i2 i4 i5 n i7 M) Qo → W p l e rm_X9_melt s m args below meth c H locs 0 0 Q (F0 m 335 ls []) := by
  intro n
  induction n with
  | zero => intro i7 M H locs ls w hl hk; exact ok_0 hk
  | succ n ih => intro i7 M H locs ls w hl hk; exact wb_X9_melt_335 X r0 i1 i2 i4 i5 Qo hE  (lp_X9_melt_335 G r0 i1 i2 i4 i5 n) ih i7 M H locs ls w hl hk
set_option maxHeartbeats 4000000 in
set_option maxRecDepth 100000 in
theorem c_X9_melt (l : Launch) (D : va_G) (cy : Cyy) (G : Gg) (M : Mm) (r0 : Nat) (i1 : Int32) (i2 : Int32) {q : Int32 × Mm} (hm : f_X9_melt G M r0 i1 i2 = some q) : CI l yX9_melt wz_X9_melt rm_X9_melt D cy G M [.ref r0, .int i1, .int i2] q.1 q.2 := by
  refine Met_of (Qf := fun A => QI D cy G A q.1 q.2) (cc := cX9_melt) (nL := 10) (ret := (some .int)) (own := RX9) (lv := [(0, .ref r0), (1, .int i1), (2, .int i2)]) (by decide) rfl rfl (Nat.le_of_ble_eq_true rfl) rfl ?_
  intro p e s m args below meth c A ls X hr hlk w hl
  have hx := X.1.1
  have hb := X.1.2.1
  obtain ⟨Qo, hR, hk⟩ : ∃ Qo : Int32 × Mm → Prop, (∀ x, Qo x → x = q) ∧ OK (f_X9_melt G M r0 i1 i2) Qo := ⟨fun x => x = q, fun _ h => h, q, hm, rfl⟩
  unfold f_X9_melt at hk
  refine lv_aload_n hx hb dX9_melt_0 rfl (lv_at hl 0 rfl) ?_
  refine lv_iconst (v := 0) hx hb dX9_melt_1 (by decide) ?_
  obtain ⟨c1, hk⟩ := ok_c hk
  refine zpi X w 9 0 59 tyX9 (C := RX9) (T := TX9) (N := 23) rfl ui_X9 tyX9_ok nmX9 (by decide) rfl (tb wf_X9_59) rfl rfl dX9_melt_2 c1 (fun H locs w => ?_)
  refine lv_aload_n hx hb dX9_melt_5 rfl (lv_at hl 0 rfl) ?_
  refine zgi X w 9 2 63 (C := RX9) (T := TX9) (N := 23) rfl ui_X9 (by decide) rfl (tb wf_X9_63) dX9_melt_6 c1 ?_
  refine lv_istore_n (lv' := [(3, .int ((mwI M r0 0 (0 : Int32)).1 r0 2)), (0, .ref r0), (1, .int i1), (2, .int i2)]) hx hb dX9_melt_9 rfl hl (by decide) rfl (fun ls hl => ?_)
  refine lv_aload_n hx hb dX9_melt_10 rfl (lv_at hl 1 rfl) ?_
  refine lv_iconst (v := 0) hx hb dX9_melt_11 (by decide) ?_
  refine zpi X w 9 2 63 tyX9 (C := RX9) (T := TX9) (N := 23) rfl ui_X9 tyX9_ok nmX9 (by decide) rfl (tb wf_X9_63) rfl rfl dX9_melt_12 c1 (fun H locs w => ?_)
  refine lv_aload_n hx hb dX9_melt_15 rfl (lv_at hl 1 rfl) ?_
  refine lv_iload_n hx hb dX9_melt_16 rfl (lv_at hl 2 rfl) ?_
  obtain ⟨q2, e3, hk⟩ := ok_b hk
  refine zVi X w (n := 1) (As := [.int i1]) (rest := []) (ci := 9) (C := RX9) (T := TX9) (N := 23) (c_X9_has l D cy G (mwI (mwI M r0 0 (0 : Int32)) r0 2 (0 : Int32)) r0 i1 e3) (gzV wm_X9_89 wi_X9_has ws_X9_has wn_X9 wc_X9_has) rfl rfl rfl (by decide +kernel) (by decide) rfl c1 rfl rfl hl.1 (Nat.le_of_ble_eq_true rfl) dX9_melt_17 ⟨Nat.zero_le _, Nat.zero_le _⟩ (fun H locs w => ?_)
  refine lv_if_eq (tgt := 40) hx hb dX9_melt_20 (by decide) (fun c4 => ?_) (fun c4 => ?_)
  · have hk := ok_p c4 hk
    refine lv_iconst (v := (-1)) hx hb dX9_melt_40 (by decide) ?_
    have hk := hR _ (ok_s hk)
    exact zri X hr hlk w dX9_melt_41 (pr1 hk) (pr2 hk)
  · have hk := ok_n c4 hk
    refine lv_iload_n hx hb dX9_melt_23 rfl (lv_at hl 3 rfl) ?_
    obtain ⟨q5, e6, hk⟩ := ok_b hk
    refine zSi X w (n := 1) (As := [.int i2]) (rest := []) (c_X9_isSlot l D cy G (mwI (mwI M r0 0 (0 : Int32)) r0 2 (0 : Int32)) i2 e6) (gzS wm_X9_78 wt_X9_isSlot wn_X9 wc_X9_isSlot) rfl rfl rfl (by decide +kernel) (by decide) rfl rfl hl.1 (Nat.le_of_ble_eq_true rfl) dX9_melt_24 ⟨Nat.zero_le _, Nat.zero_le _⟩ (fun H locs w => ?_)
    refine lv_if_eq (tgt := 40) hx hb dX9_melt_27 (by decide) (fun c7 => ?_) (fun c7 => ?_)
    · have hk := ok_p c7 hk
      refine lv_iconst (v := (-1)) hx hb dX9_melt_40 (by decide) ?_
      have hk := hR _ (ok_s hk)
      exact zri X hr hlk w dX9_melt_41 (pr1 hk) (pr2 hk)
    · have hk := ok_n c7 hk
      refine lv_iload_n hx hb dX9_melt_30 rfl (lv_at hl 0 rfl) ?_
      refine lv_aload_n hx hb dX9_melt_31 rfl (lv_at hl 1 rfl) ?_
      obtain ⟨r8, e9, hk⟩ := ok_b hk
      refine zgr X w 9 3 13 (C := RX9) (T := TX9) (N := 23) rfl ui_X9 (by decide) rfl (tb wf_X9_13) dX9_melt_32 c1 e9 ?_
      refine lv_iload_n hx hb dX9_melt_35 rfl (lv_at hl 2 rfl) ?_
      obtain ⟨c10, hk⟩ := ok_c hk
      obtain ⟨c11, hk⟩ := ok_c hk
      refine zai X w dX9_melt_36 c10 c11 ?_
      refine lv_icmp_eq (tgt := 42) hx hb dX9_melt_37 (by decide) (fun c12 => ?_) (fun c12 => ?_)
      · have hk := ok_p c12 hk
        refine lv_aload_n hx hb dX9_melt_42 rfl (lv_at hl 1 rfl) ?_
        refine zgr X w 9 3 13 (C := RX9) (T := TX9) (N := 23) rfl ui_X9 (by decide) rfl (tb wf_X9_13) dX9_melt_43 c1 e9 ?_
        refine lv_iload_n hx hb dX9_melt_46 rfl (lv_at hl 2 rfl) ?_
        refine zai X w dX9_melt_47 c10 c11 ?_
        refine lv_istore (lv' := [(4, .int ((mwI (mwI M r0 0 (0 : Int32)) r0 2 (0 : Int32)).1 r8 (Int32.toNatClampNeg i1))), (3, .int ((mwI M r0 0 (0 : Int32)).1 r0 2)), (0, .ref r0), (1, .int i1), (2, .int i2)]) hx hb dX9_melt_48 hl (by decide) rfl (fun ls hl => ?_)
        refine lv_iconst (v := 0) hx hb dX9_melt_50 (by decide) ?_
        refine lv_istore (lv' := [(5, .int (0 : Int32)), (4, .int ((mwI (mwI M r0 0 (0 : Int32)) r0 2 (0 : Int32)).1 r8 (Int32.toNatClampNeg i1))), (3, .int ((mwI M r0 0 (0 : Int32)).1 r0 2)), (0, .ref r0), (1, .int i1), (2, .int i2)]) hx hb dX9_melt_51 hl (by decide) rfl (fun ls hl => ?_)
        refine lv_iconst (v := 0) hx hb dX9_melt_53 (by decide) ?_
        refine lv_istore (lv' := [(6, .int (0 : Int32)), (5, .int (0 : Int32)), (4, .int ((mwI (mwI M r0 0 (0 : Int32)) r0 2 (0 : Int32)).1 r8 (Int32.toNatClampNeg i1))), (3, .int ((mwI M r0 0 (0 : Int32)).1 r0 2)), (0, .ref r0), (1, .int i1), (2, .int i2)]) hx hb dX9_melt_54 hl (by decide) rfl (fun ls hl => ?_)
        refine wl_X9_melt_56 X r0 i1 i2 ((mwI (mwI M r0 0 (0 : Int32)) r0 2 (0 : Int32)).1 r8 (Int32.toNatClampNeg i1)) (Qo := _) (fun q32 hk H locs ls w hl => ?_) FU (0 : Int32) (0 : Int32) (mwI (mwI M r0 0 (0 : Int32)) r0 2 (0 : Int32)) _ _ _ w (lv_sub hl [4, 5, 6, 2, 1, 0] rfl) (ok_b hk)
        refine lv_iconst (v := 1) hx hb dX9_melt_133 (by decide) ?_
        refine lv_istore (lv' := [(6, .int (1 : Int32)), (0, .ref r0), (1, .int i1), (2, .int i2), (4, .int ((mwI (mwI M r0 0 (0 : Int32)) r0 2 (0 : Int32)).1 r8 (Int32.toNatClampNeg i1))), (5, .int q32.1)]) hx hb dX9_melt_134 hl (by decide) rfl (fun ls hl => ?_)
        refine wl_X9_melt_136 X r0 i1 i2 ((mwI (mwI M r0 0 (0 : Int32)) r0 2 (0 : Int32)).1 r8 (Int32.toNatClampNeg i1)) (Qo := _) (fun q65 hk H locs ls w hl => ?_) FU q32.1 (1 : Int32) q32.2 _ _ _ w (lv_sub hl [1, 2, 3, 4, 5, 0] rfl) (ok_b hk)
        refine lv_iload hx hb dX9_melt_277 (lv_at hl 3 rfl) ?_
        refine lv_iconst (v := 1) hx hb dX9_melt_279 (by decide) ?_
        refine lv_isub hx hb dX9_melt_280 ?_
        refine lv_istore (lv' := [(7, .int (((mwI (mwI M r0 0 (0 : Int32)) r0 2 (0 : Int32)).1 r8 (Int32.toNatClampNeg i1)) - (1 : Int32))), (0, .ref r0), (1, .int i1), (2, .int i2), (4, .int ((mwI (mwI M r0 0 (0 : Int32)) r0 2 (0 : Int32)).1 r8 (Int32.toNatClampNeg i1))), (5, .int q65.1)]) hx hb dX9_melt_281 hl (by decide) rfl (fun ls hl => ?_)
        refine wl_X9_melt_283 X r0 i1 i2 ((mwI (mwI M r0 0 (0 : Int32)) r0 2 (0 : Int32)).1 r8 (Int32.toNatClampNeg i1)) q65.1 (Qo := _) (fun q78 hk H locs ls w hl => ?_) FU (((mwI (mwI M r0 0 (0 : Int32)) r0 2 (0 : Int32)).1 r8 (Int32.toNatClampNeg i1)) - (1 : Int32)) q65.2 _ _ _ w (lv_sub hl [1, 2, 3, 4, 5, 0] rfl) (ok_b hk)
        refine lv_iconst (v := 0) hx hb dX9_melt_332 (by decide) ?_
        refine lv_istore (lv' := [(7, .int (0 : Int32)), (0, .ref r0), (1, .int i1), (2, .int i2), (4, .int ((mwI (mwI M r0 0 (0 : Int32)) r0 2 (0 : Int32)).1 r8 (Int32.toNatClampNeg i1))), (5, .int q65.1)]) hx hb dX9_melt_333 hl (by decide) rfl (fun ls hl => ?_)
        refine wl_X9_melt_335 X r0 i1 i2 ((mwI (mwI M r0 0 (0 : Int32)) r0 2 (0 : Int32)).1 r8 (Int32.toNatClampNeg i1)) q65.1 (Qo := _) (fun q89 hk H locs ls w hl => ?_) FU (0 : Int32) q78 _ _ _ w (lv_sub hl [1, 2, 3, 4, 5, 0] rfl) (ok_b hk)
        refine lv_aload_n hx hb dX9_melt_362 rfl (lv_at hl 0 rfl) ?_
        refine lv_iload hx hb dX9_melt_363 (lv_at hl 3 rfl) ?_
        refine zpi X w 9 17 153 tyX9 (C := RX9) (T := TX9) (N := 23) rfl ui_X9 tyX9_ok nmX9 (by decide) rfl (tb wf_X9_153) rfl rfl dX9_melt_365 c1 (fun H locs w => ?_)
        refine lv_aload_n hx hb dX9_melt_368 rfl (lv_at hl 0 rfl) ?_
        refine lv_iload_n hx hb dX9_melt_369 rfl (lv_at hl 2 rfl) ?_
        refine lv_iload hx hb dX9_melt_370 (lv_at hl 4 rfl) ?_
        refine lv_aload_n hx hb dX9_melt_372 rfl (lv_at hl 0 rfl) ?_
        obtain ⟨r90, e91, hk⟩ := ok_b hk
        refine zgr X w 9 4 16 (C := RX9) (T := TX9) (N := 23) rfl ui_X9 (by decide) rfl (tb wf_X9_16) dX9_melt_373 c1 e91 ?_
        refine lv_iload_n hx hb dX9_melt_376 rfl (lv_at hl 1 rfl) ?_
        obtain ⟨c92, hk⟩ := ok_c hk
        obtain ⟨c93, hk⟩ := ok_c hk
        refine zai X w dX9_melt_377 c92 c93 ?_
        obtain ⟨q94, e95, hk⟩ := ok_b hk
        refine zVi X w (n := 3) (As := [.int i2, .int q65.1, .int ((mwI q89 r0 17 ((mwI (mwI M r0 0 (0 : Int32)) r0 2 (0 : Int32)).1 r8 (Int32.toNatClampNeg i1))).1 r90 (Int32.toNatClampNeg i1))]) (rest := []) (ci := 9) (C := RX9) (T := TX9) (N := 23) (c_X9_puts l D cy G (mwI q89 r0 17 ((mwI (mwI M r0 0 (0 : Int32)) r0 2 (0 : Int32)).1 r8 (Int32.toNatClampNeg i1))) r0 i2 q65.1 ((mwI q89 r0 17 ((mwI (mwI M r0 0 (0 : Int32)) r0 2 (0 : Int32)).1 r8 (Int32.toNatClampNeg i1))).1 r90 (Int32.toNatClampNeg i1)) e95) (gzV wm_X9_86 wi_X9_puts ws_X9_puts wn_X9 wc_X9_puts) rfl rfl rfl (by decide +kernel) (by decide) rfl c1 rfl rfl hl.1 (Nat.le_of_ble_eq_true rfl) dX9_melt_378 ⟨Nat.zero_le _, Nat.zero_le _⟩ (fun H locs w => ?_)
        refine lv_pop hx hb dX9_melt_381 rfl ?_
        refine lv_iload hx hb dX9_melt_382 (lv_at hl 4 rfl) ?_
        have hk := hR _ (ok_s hk)
        exact zri X hr hlk w dX9_melt_384 (pr1 hk) (pr2 hk)
      · have hk := ok_n c12 hk
        refine lv_iconst (v := (-1)) hx hb dX9_melt_40 (by decide) ?_
        have hk := hR _ (ok_s hk)
        exact zri X hr hlk w dX9_melt_41 (pr1 hk) (pr2 hk)
abbrev rm_X9_octet : Room := { frames := 1, cells := 0, slots := 0, locals := 20 }
set_option maxHeartbeats 4000000 in
set_option maxRecDepth 100000 in
theorem c_X9_octet (l : Launch) (D : va_G) (cy : Cyy) (G : Gg) (M : Mm) (r0 : Nat) (i1 : Int32) {q : Int32 × Mm} (hm : f_X9_octet G M r0 i1 = some q) : CI l yX9_octet wz_X9_octet rm_X9_octet D cy G M [.ref r0, .int i1] q.1 q.2 := by
  refine Met_of (Qf := fun A => QI D cy G A q.1 q.2) (cc := cX9_octet) (nL := 2) (ret := (some .int)) (own := RX9) (lv := [(0, .ref r0), (1, .int i1)]) (by decide) rfl rfl (Nat.le_of_ble_eq_true rfl) rfl ?_
  intro p e s m args below meth c A ls X hr hlk w hl
  have hx := X.1.1
  have hb := X.1.2.1
  obtain ⟨Qo, hR, hk⟩ : ∃ Qo : Int32 × Mm → Prop, (∀ x, Qo x → x = q) ∧ OK (f_X9_octet G M r0 i1) Qo := ⟨fun x => x = q, fun _ h => h, q, hm, rfl⟩
  unfold f_X9_octet at hk
  refine lv_iload_n hx hb dX9_octet_0 rfl (lv_at hl 1 rfl) ?_
  refine lv_if_lt (tgt := 12) hx hb dX9_octet_1 (by decide) (fun c1 => ?_) (fun c1 => ?_)
  · have hk := ok_p c1 hk
    refine lv_aload_n hx hb dX9_octet_12 rfl (lv_at hl 0 rfl) ?_
    obtain ⟨c4, hk⟩ := ok_c hk
    obtain ⟨q2, e3, hk⟩ := ok_b hk
    refine zVi X w (n := 0) (As := []) (rest := []) (ci := 9) (C := RX9) (T := TX9) (N := 23) (c_X9_refuse l D cy G M r0 e3) (gzV wm_X9_156 wi_X9_refuse ws_X9_refuse wn_X9 wc_X9_refuse) rfl rfl rfl (by decide +kernel) (by decide) rfl c4 rfl rfl hl.1 (Nat.le_of_ble_eq_true rfl) dX9_octet_13 ⟨Nat.zero_le _, Nat.zero_le _⟩ (fun H locs w => ?_)
    have hk := hR _ (ok_s hk)
    exact zri X hr hlk w dX9_octet_16 (pr1 hk) (pr2 hk)
  · have hk := ok_n c1 hk
    refine lv_iload_n hx hb dX9_octet_4 rfl (lv_at hl 1 rfl) ?_
    refine lv_aload_n hx hb dX9_octet_5 rfl (lv_at hl 0 rfl) ?_
    obtain ⟨c5, hk⟩ := ok_c hk
    refine zgi X w 9 17 153 (C := RX9) (T := TX9) (N := 23) rfl ui_X9 (by decide) rfl (tb wf_X9_153) dX9_octet_6 c5 ?_
    refine lv_icmp_lt (tgt := 17) hx hb dX9_octet_9 (by decide) (fun c6 => ?_) (fun c6 => ?_)
    · have hk := ok_p c6 hk
      refine lv_aload_n hx hb dX9_octet_17 rfl (lv_at hl 0 rfl) ?_
      refine lv_iconst (v := 0) hx hb dX9_octet_18 (by decide) ?_
      refine zpi X w 9 0 59 tyX9 (C := RX9) (T := TX9) (N := 23) rfl ui_X9 tyX9_ok nmX9 (by decide) rfl (tb wf_X9_59) rfl rfl dX9_octet_19 c5 (fun H locs w => ?_)
      refine lv_aload_n hx hb dX9_octet_22 rfl (lv_at hl 0 rfl) ?_
      obtain ⟨r7, e8, hk⟩ := ok_b hk
      refine zgr X w 9 16 50 (C := RX9) (T := TX9) (N := 23) rfl ui_X9 (by decide) rfl (tb wf_X9_50) dX9_octet_23 c5 e8 ?_
      refine lv_iload_n hx hb dX9_octet_26 rfl (lv_at hl 1 rfl) ?_
      obtain ⟨c9, hk⟩ := ok_c hk
      obtain ⟨c10, hk⟩ := ok_c hk
      refine zai X w dX9_octet_27 c9 c10 ?_
      have hk := hR _ (ok_s hk)
      exact zri X hr hlk w dX9_octet_28 (pr1 hk) (pr2 hk)
    · have hk := ok_n c6 hk
      refine lv_aload_n hx hb dX9_octet_12 rfl (lv_at hl 0 rfl) ?_
      obtain ⟨q11, e12, hk⟩ := ok_b hk
      refine zVi X w (n := 0) (As := []) (rest := []) (ci := 9) (C := RX9) (T := TX9) (N := 23) (c_X9_refuse l D cy G M r0 e12) (gzV wm_X9_156 wi_X9_refuse ws_X9_refuse wn_X9 wc_X9_refuse) rfl rfl rfl (by decide +kernel) (by decide) rfl c5 rfl rfl hl.1 (Nat.le_of_ble_eq_true rfl) dX9_octet_13 ⟨Nat.zero_le _, Nat.zero_le _⟩ (fun H locs w => ?_)
      have hk := hR _ (ok_s hk)
      exact zri X hr hlk w dX9_octet_16 (pr1 hk) (pr2 hk)
abbrev rm_X9_times : Room := { frames := 0, cells := 0, slots := 0, locals := 0 }
set_option maxHeartbeats 4000000 in
set_option maxRecDepth 100000 in
theorem wb_X9_times_5 {p : Program} {l : Launch} {e : Env} {s : State} {m : MethodId} {args : Array Value} {below : List Frame} {meth : Method} {c : Code} {D : va_G} {cy : Cyy} {A : Nat → Prop} {G : Gg} (X : Cx p m c cX9_times 5 s args wz_X9_times RX9 D cy) {Q : State → Prop} (M : Mm) (r0 : Nat) (i1 : Int32) (Qo : Int32 → Prop)  (hE : ∀ (y : Int32), Qo (y) → ∀ (H : Heap) (locs : List Loc) (ls : Array Slot), Wo s D cy A G M H locs → lv_has ls 5 [(4, .int y)] → W p l e rm_X9_times s m args below meth c H locs 0 0 Q (F0 m 44 ls [])) (rec : Int64 → Int32 → Option (Int32)) (hrec : ∀ (l2 : Int64) (i4 : Int32) (H : Heap) (locs : List Loc) (ls : Array Slot), Wo s D cy A G M H locs → lv_has ls 5 [(0, .ref r0), (1, .int i1), (2, .long l2), (4, .int i4)] → OK (rec l2 i4) Qo → W p l e rm_X9_times s m args below meth c H locs 0 0 Q (F0 m 5 ls [])) (l2 : Int64) (i4 : Int32) (H : Heap) (locs : List Loc) (ls : Array Slot) (w : Wo s D cy A G M H locs) (hl : lv_has ls 5 [(0, .ref r0), (1, .int i1), (2, .long l2), (4, .int i4)]) (hk : OK (bd_X9_times_5 G M r0 i1 rec l2 i4) Qo) : W p l e rm_X9_times s m args below meth c H locs 0 0 Q (F0 m 5 ls []) := by
    have hx := X.1.1
    have hb := X.1.2.1
    unfold bd_X9_times_5 at hk
    refine lv_iload hx hb dX9_times_5 (lv_at hl 3 rfl) ?_
    refine lv_bipush (v := 20) hx hb dX9_times_7 (by decide) ?_
    refine lv_icmp_ge (tgt := 44) hx hb dX9_times_9 (by decide) (fun c1 => ?_) (fun c1 => ?_)
    · have hk := ok_p c1 hk
      exact hE i4 (ok_s hk) _ _ _ w (lv_sub hl [3] rfl)
    · have hk := ok_n c1 hk
      refine lv_lload_n hx hb dX9_times_12 rfl (lv_at hl 2 rfl) ?_
      refine zldc2 X (v := 1000000000000000) (tb wk_X9_160) dX9_times_13 ?_
      refine lv_aload_n hx hb dX9_times_16 rfl (lv_at hl 0 rfl) ?_
      obtain ⟨c2, hk⟩ := ok_c hk
      obtain ⟨r3, e4, hk⟩ := ok_b hk
      refine zgr X w 9 4 16 (C := RX9) (T := TX9) (N := 23) rfl ui_X9 (by decide) rfl (tb wf_X9_16) dX9_times_17 c2 e4 ?_
      refine lv_iload_n hx hb dX9_times_20 rfl (lv_at hl 1 rfl) ?_
      obtain ⟨c5, hk⟩ := ok_c hk
      obtain ⟨c6, hk⟩ := ok_c hk
      refine zai X w dX9_times_21 c5 c6 ?_
      refine lv_i2l hx hb dX9_times_22 rfl ?_
      obtain ⟨c7, hk⟩ := ok_c hk
      refine lv_ldiv hx hb dX9_times_23 c7 ?_
      refine W.lcmp hx hb dX9_times_24 ?_
      refine lv_if_gt (tgt := 44) hx hb dX9_times_25 (by decide) (fun c8 => ?_) (fun c8 => ?_)
      · have hk := ok_p c8 hk
        exact hE i4 (ok_s hk) _ _ _ w (lv_sub hl [3] rfl)
      · have hk := ok_n c8 hk
        refine lv_lload_n hx hb dX9_times_28 rfl (lv_at hl 2 rfl) ?_
        refine lv_aload_n hx hb dX9_times_29 rfl (lv_at hl 0 rfl) ?_
        refine zgr X w 9 4 16 (C := RX9) (T := TX9) (N := 23) rfl ui_X9 (by decide) rfl (tb wf_X9_16) dX9_times_30 c2 e4 ?_
        refine lv_iload_n hx hb dX9_times_33 rfl (lv_at hl 1 rfl) ?_
        refine zai X w dX9_times_34 c5 c6 ?_
        refine lv_i2l hx hb dX9_times_35 rfl ?_
        refine lv_lmul hx hb dX9_times_36 ?_
        refine lv_lstore_n (lv' := [(2, .long (l2 * (Int32.toInt64 (M.1 r3 (Int32.toNatClampNeg i1))))), (0, .ref r0), (1, .int i1), (4, .int i4)]) hx hb dX9_times_37 rfl hl (by decide) rfl (fun ls hl => ?_)
        refine lv_iinc (v := (i4 + 1)) (lv' := [(4, .int (i4 + 1)), (2, .long (l2 * (Int32.toInt64 (M.1 r3 (Int32.toNatClampNeg i1))))), (0, .ref r0), (1, .int i1)]) hx hb dX9_times_38 hl (k := 3) rfl rfl (by decide) rfl (fun ls hl => ?_)
        refine lv_goto (tgt := 5) hx hb dX9_times_41 (by decide) ?_
        exact hrec (l2 * (Int32.toInt64 (M.1 r3 (Int32.toNatClampNeg i1)))) (i4 + 1) _ _ _ w (lv_sub hl [2, 3, 1, 0] rfl) hk
theorem wl_X9_times_5 {p : Program} {l : Launch} {e : Env} {s : State} {m : MethodId} {args : Array Value} {below : List Frame} {meth : Method} {c : Code} {D : va_G} {cy : Cyy} {A : Nat → Prop} {G : Gg} (X : Cx p m c cX9_times 5 s args wz_X9_times RX9 D cy) {Q : State → Prop} (M : Mm) (r0 : Nat) (i1 : Int32) (Qo : Int32 → Prop)  (hE : ∀ (y : Int32), Qo (y) → ∀ (H : Heap) (locs : List Loc) (ls : Array Slot), Wo s D cy A G M H locs → lv_has ls 5 [(4, .int y)] → W p l e rm_X9_times s m args below meth c H locs 0 0 Q (F0 m 44 ls [])) : ∀ (n : Nat) (l2 : Int64) (i4 : Int32) (H : Heap) (locs : List Loc) (ls : Array Slot), Wo s D cy A G M H locs → lv_has ls 5 [(0, .ref r0), (1, .int i1), (2, .long l2), (4, .int i4)] → OK (lp_X9_times_5 G M r0 i1 n l2 i4) Qo → W p l e rm_X9_times s m args below meth c H locs 0 0 Q (F0 m 5 ls []) := by
  intro n
  induction n with
  | zero => intro l2 i4 H locs ls w hl hk; exact ok_0 hk
  | succ n ih => intro l2 i4 H locs ls w hl hk; exact wb_X9_times_5 X M r0 i1 Qo hE  (lp_X9_times_5 G M r0 i1 n) ih l2 i4 H locs ls w hl hk
set_option maxHeartbeats 4000000 in
set_option maxRecDepth 100000 in
theorem c_X9_times (l : Launch) (D : va_G) (cy : Cyy) (G : Gg) (M : Mm) (r0 : Nat) (i1 : Int32) {q : Int32} (hm : f_X9_times G M r0 i1 = some q) : CI l yX9_times wz_X9_times rm_X9_times D cy G M [.ref r0, .int i1] q M := by
  refine Met_of (Qf := fun A => QI D cy G A q M) (cc := cX9_times) (nL := 5) (ret := (some .int)) (own := RX9) (lv := [(0, .ref r0), (1, .int i1)]) (by decide) rfl rfl (Nat.le_of_ble_eq_true rfl) rfl ?_
  intro p e s m args below meth c A ls X hr hlk w hl
  have hx := X.1.1
  have hb := X.1.2.1
  obtain ⟨Qo, hR, hk⟩ : ∃ Qo : Int32 → Prop, (∀ x, Qo x → x = q) ∧ OK (f_X9_times G M r0 i1) Qo := ⟨fun x => x = q, fun _ h => h, q, hm, rfl⟩
  unfold f_X9_times at hk
  refine lv_lconst (v := 1) hx hb dX9_times_0 (by decide) ?_
  refine lv_lstore_n (lv' := [(2, .long (1 : Int64)), (0, .ref r0), (1, .int i1)]) hx hb dX9_times_1 rfl hl (by decide) rfl (fun ls hl => ?_)
  refine lv_iconst (v := 0) hx hb dX9_times_2 (by decide) ?_
  refine lv_istore (lv' := [(4, .int (0 : Int32)), (2, .long (1 : Int64)), (0, .ref r0), (1, .int i1)]) hx hb dX9_times_3 hl (by decide) rfl (fun ls hl => ?_)
  refine wl_X9_times_5 X M r0 i1 (Qo := _) (fun q9 hk H locs ls w hl => ?_) FU (1 : Int64) (0 : Int32) _ _ _ w (lv_sub hl [2, 3, 1, 0] rfl) (ok_b hk)
  refine lv_iload hx hb dX9_times_44 (lv_at hl 0 rfl) ?_
  have hk := hR _ (ok_s hk)
  exact zri X hr hlk w dX9_times_46 hk rfl
abbrev rm_X9_about : Room := { frames := 4, cells := 0, slots := 0, locals := 121 }
set_option maxHeartbeats 4000000 in
set_option maxRecDepth 100000 in
theorem wb_X9_about_120 {p : Program} {l : Launch} {e : Env} {s : State} {m : MethodId} {args : Array Value} {below : List Frame} {meth : Method} {c : Code} {D : va_G} {cy : Cyy} {A : Nat → Prop} {G : Gg} (X : Cx p m c cX9_about 6 s args wz_X9_about RX9 D cy) {Q : State → Prop} (M : Mm) (r0 : Nat) (i3 : Int32) (Qo : Int32 → Prop)  (hE : ∀ (y : Int32), Qo (y) → ∀ (H : Heap) (locs : List Loc) (ls : Array Slot), Wo s D cy A G M H locs → lv_has ls 6 [(4, .int y)] → W p l e rm_X9_about s m args below meth c H locs 0 0 Q (F0 m 148 ls [])) (rec : Int32 → Int32 → Option (Int32)) (hrec : ∀ (i4 : Int32) (i5 : Int32) (H : Heap) (locs : List Loc) (ls : Array Slot), Wo s D cy A G M H locs → lv_has ls 6 [(0, .ref r0), (3, .int i3), (4, .int i4), (5, .int i5)] → OK (rec i4 i5) Qo → W p l e rm_X9_about s m args below meth c H locs 0 0 Q (F0 m 120 ls [])) (i4 : Int32) (i5 : Int32) (H : Heap) (locs : List Loc) (ls : Array Slot) (w : Wo s D cy A G M H locs) (hl : lv_has ls 6 [(0, .ref r0), (3, .int i3), (4, .int i4), (5, .int i5)]) (hk : OK (bd_X9_about_120 G M r0 i3 rec i4 i5) Qo) : W p l e rm_X9_about s m args below meth c H locs 0 0 Q (F0 m 120 ls []) := by
    have hx := X.1.1
    have hb := X.1.2.1
    unfold bd_X9_about_120 at hk
    refine lv_iload hx hb dX9_about_120 (lv_at hl 3 rfl) ?_
    refine lv_aload_n hx hb dX9_about_122 rfl (lv_at hl 0 rfl) ?_
    obtain ⟨c25, hk⟩ := ok_c hk
    refine zgi X w 9 8 92 (C := RX9) (T := TX9) (N := 23) rfl ui_X9 (by decide) rfl (tb wf_X9_92) dX9_about_123 c25 ?_
    refine lv_icmp_ge (tgt := 148) hx hb dX9_about_126 (by decide) (fun c26 => ?_) (fun c26 => ?_)
    · have hk := ok_p c26 hk
      exact hE i4 (ok_s hk) _ _ _ w (lv_sub hl [2] rfl)
    · have hk := ok_n c26 hk
      refine lv_aload_n hx hb dX9_about_129 rfl (lv_at hl 0 rfl) ?_
      refine lv_iload_n hx hb dX9_about_130 rfl (lv_at hl 1 rfl) ?_
      refine lv_iload hx hb dX9_about_131 (lv_at hl 3 rfl) ?_
      obtain ⟨q27, e28, hk⟩ := ok_b hk
      refine zVi X w (n := 2) (As := [.int i3, .int i5]) (rest := []) (ci := 9) (C := RX9) (T := TX9) (N := 23) (c_X9_isClosed l D cy G M r0 i3 i5 e28) (gzV wm_X9_103 wi_X9_isClosed ws_X9_isClosed wn_X9 wc_X9_isClosed) rfl rfl rfl (by decide +kernel) (by decide) rfl c25 rfl rfl hl.1 (Nat.le_of_ble_eq_true rfl) dX9_about_133 ⟨Nat.zero_le _, Nat.zero_le _⟩ (fun H locs w => ?_)
      refine lv_if_eq (tgt := 142) hx hb dX9_about_136 (by decide) (fun c29 => ?_) (fun c29 => ?_)
      · have hk := ok_p c29 hk
        refine lv_iinc (v := (i5 + 1)) (lv' := [(5, .int (i5 + 1)), (0, .ref r0), (3, .int i3), (4, .int i4)]) hx hb dX9_about_142 hl (k := 3) rfl rfl (by decide) rfl (fun ls hl => ?_)
        refine lv_goto (tgt := 120) hx hb dX9_about_145 (by decide) ?_
        exact hrec i4 (i5 + 1) _ _ _ w (lv_sub hl [1, 2, 3, 0] rfl) hk
      · have hk := ok_n c29 hk
        refine lv_iinc (v := (i4 + 1)) (lv' := [(4, .int (i4 + 1)), (0, .ref r0), (3, .int i3), (5, .int i5)]) hx hb dX9_about_139 hl (k := 2) rfl rfl (by decide) rfl (fun ls hl => ?_)
        refine lv_iinc (v := (i5 + 1)) (lv' := [(5, .int (i5 + 1)), (4, .int (i4 + 1)), (0, .ref r0), (3, .int i3)]) hx hb dX9_about_142 hl (k := 3) rfl rfl (by decide) rfl (fun ls hl => ?_)
        refine lv_goto (tgt := 120) hx hb dX9_about_145 (by decide) ?_
        exact hrec (i4 + 1) (i5 + 1) _ _ _ w (lv_sub hl [2, 3, 1, 0] rfl) hk
theorem wl_X9_about_120 {p : Program} {l : Launch} {e : Env} {s : State} {m : MethodId} {args : Array Value} {below : List Frame} {meth : Method} {c : Code} {D : va_G} {cy : Cyy} {A : Nat → Prop} {G : Gg} (X : Cx p m c cX9_about 6 s args wz_X9_about RX9 D cy) {Q : State → Prop} (M : Mm) (r0 : Nat) (i3 : Int32) (Qo : Int32 → Prop)  (hE : ∀ (y : Int32), Qo (y) → ∀ (H : Heap) (locs : List Loc) (ls : Array Slot), Wo s D cy A G M H locs → lv_has ls 6 [(4, .int y)] → W p l e rm_X9_about s m args below meth c H locs 0 0 Q (F0 m 148 ls [])) : ∀ (n : Nat) (i4 : Int32) (i5 : Int32) (H : Heap) (locs : List Loc) (ls : Array Slot), Wo s D cy A G M H locs → lv_has ls 6 [(0, .ref r0), (3, .int i3), (4, .int i4), (5, .int i5)] → OK (lp_X9_about_120 G M r0 i3 n i4 i5) Qo → W p l e rm_X9_about s m args below meth c H locs 0 0 Q (F0 m 120 ls []) := by
  intro n
  induction n with
  | zero => intro i4 i5 H locs ls w hl hk; exact ok_0 hk
  | succ n ih => intro i4 i5 H locs ls w hl hk; exact wb_X9_about_120 X M r0 i3 Qo hE  (lp_X9_about_120 G M r0 i3 n) ih i4 i5 H locs ls w hl hk
set_option maxHeartbeats 4000000 in
set_option maxRecDepth 100000 in
theorem c_X9_about (l : Launch) (D : va_G) (cy : Cyy) (G : Gg) (M : Mm) (r0 : Nat) (i1 : Int32) (i2 : Int32) {q : Int32 × Mm} (hm : f_X9_about G M r0 i1 i2 = some q) : CI l yX9_about wz_X9_about rm_X9_about D cy G M [.ref r0, .int i1, .int i2] q.1 q.2 := by
  refine Met_of (Qf := fun A => QI D cy G A q.1 q.2) (cc := cX9_about) (nL := 6) (ret := (some .int)) (own := RX9) (lv := [(0, .ref r0), (1, .int i1), (2, .int i2)]) (by decide) rfl rfl (Nat.le_of_ble_eq_true rfl) rfl ?_
  intro p e s m args below meth c A ls X hr hlk w hl
  have hx := X.1.1
  have hb := X.1.2.1
  obtain ⟨Qo, hR, hk⟩ : ∃ Qo : Int32 × Mm → Prop, (∀ x, Qo x → x = q) ∧ OK (f_X9_about G M r0 i1 i2) Qo := ⟨fun x => x = q, fun _ h => h, q, hm, rfl⟩
  unfold f_X9_about at hk
  refine lv_aload_n hx hb dX9_about_0 rfl (lv_at hl 0 rfl) ?_
  refine lv_iconst (v := 0) hx hb dX9_about_1 (by decide) ?_
  obtain ⟨c1, hk⟩ := ok_c hk
  refine zpi X w 9 0 59 tyX9 (C := RX9) (T := TX9) (N := 23) rfl ui_X9 tyX9_ok nmX9 (by decide) rfl (tb wf_X9_59) rfl rfl dX9_about_2 c1 (fun H locs w => ?_)
  refine lv_aload_n hx hb dX9_about_5 rfl (lv_at hl 0 rfl) ?_
  refine lv_iload_n hx hb dX9_about_6 rfl (lv_at hl 1 rfl) ?_
  obtain ⟨q2, e3, hk⟩ := ok_b hk
  refine zVi X w (n := 1) (As := [.int i1]) (rest := []) (ci := 9) (C := RX9) (T := TX9) (N := 23) (c_X9_has l D cy G (mwI M r0 0 (0 : Int32)) r0 i1 e3) (gzV wm_X9_89 wi_X9_has ws_X9_has wn_X9 wc_X9_has) rfl rfl rfl (by decide +kernel) (by decide) rfl c1 rfl rfl hl.1 (Nat.le_of_ble_eq_true rfl) dX9_about_7 ⟨Nat.zero_le _, Nat.zero_le _⟩ (fun H locs w => ?_)
  refine lv_if_eq (tgt := 23) hx hb dX9_about_10 (by decide) (fun c4 => ?_) (fun c4 => ?_)
  · have hk := ok_p c4 hk
    refine lv_iconst (v := (-1)) hx hb dX9_about_23 (by decide) ?_
    have hk := hR _ (ok_s hk)
    exact zri X hr hlk w dX9_about_24 (pr1 hk) (pr2 hk)
  · have hk := ok_n c4 hk
    refine lv_iload_n hx hb dX9_about_13 rfl (lv_at hl 2 rfl) ?_
    refine lv_if_lt (tgt := 23) hx hb dX9_about_14 (by decide) (fun c5 => ?_) (fun c5 => ?_)
    · have hk := ok_p c5 hk
      refine lv_iconst (v := (-1)) hx hb dX9_about_23 (by decide) ?_
      have hk := hR _ (ok_s hk)
      exact zri X hr hlk w dX9_about_24 (pr1 hk) (pr2 hk)
    · have hk := ok_n c5 hk
      refine lv_iload_n hx hb dX9_about_17 rfl (lv_at hl 2 rfl) ?_
      refine lv_bipush (v := 6) hx hb dX9_about_18 (by decide) ?_
      refine lv_icmp_le (tgt := 25) hx hb dX9_about_20 (by decide) (fun c6 => ?_) (fun c6 => ?_)
      · have hk := ok_p c6 hk
        refine lv_aload_n hx hb dX9_about_25 rfl (lv_at hl 0 rfl) ?_
        obtain ⟨r7, e8, hk⟩ := ok_b hk
        refine zgr X w 9 3 13 (C := RX9) (T := TX9) (N := 23) rfl ui_X9 (by decide) rfl (tb wf_X9_13) dX9_about_26 c1 e8 ?_
        refine lv_iload_n hx hb dX9_about_29 rfl (lv_at hl 1 rfl) ?_
        obtain ⟨c9, hk⟩ := ok_c hk
        obtain ⟨c10, hk⟩ := ok_c hk
        refine zai X w dX9_about_30 c9 c10 ?_
        refine lv_istore_n (lv' := [(3, .int ((mwI M r0 0 (0 : Int32)).1 r7 (Int32.toNatClampNeg i1))), (0, .ref r0), (1, .int i1), (2, .int i2)]) hx hb dX9_about_31 rfl hl (by decide) rfl (fun ls hl => ?_)
        refine lv_iload_n hx hb dX9_about_32 rfl (lv_at hl 3 rfl) ?_
        refine lv_if_ne (tgt := 38) hx hb dX9_about_33 (by decide) (fun c11 => ?_) (fun c11 => ?_)
        · have hk := ok_n c11 hk
          refine lv_iload_n hx hb dX9_about_38 rfl (lv_at hl 3 rfl) ?_
          refine lv_iconst (v := 1) hx hb dX9_about_39 (by decide) ?_
          refine lv_icmp_ne (tgt := 50) hx hb dX9_about_40 (by decide) (fun c12 => ?_) (fun c12 => ?_)
          · have hk := ok_n c12 hk
            refine lv_iload_n hx hb dX9_about_50 rfl (lv_at hl 3 rfl) ?_
            refine lv_iconst (v := 4) hx hb dX9_about_51 (by decide) ?_
            refine lv_icmp_ne (tgt := 61) hx hb dX9_about_52 (by decide) (fun c13 => ?_) (fun c13 => ?_)
            · have hk := ok_n c13 hk
              refine lv_aload_n hx hb dX9_about_61 rfl (lv_at hl 1 rfl) ?_
              refine lv_iload_n hx hb dX9_about_62 rfl (lv_at hl 2 rfl) ?_
              obtain ⟨q14, e15, hk⟩ := ok_b hk
              refine zVv X w (n := 1) (As := [.int i1]) (rest := []) (ci := 9) (C := RX9) (T := TX9) (N := 23) (c_X9_reach l D cy G (mwI M r0 0 (0 : Int32)) r0 i1 e15) (gzV wm_X9_137 wi_X9_reach ws_X9_reach wn_X9 wc_X9_reach) rfl rfl rfl (by decide +kernel) (by decide) rfl c1 rfl rfl hl.1 (Nat.le_of_ble_eq_true rfl) dX9_about_63 ⟨Nat.zero_le _, Nat.zero_le _⟩ (fun H locs w => ?_)
              refine lv_iload_n hx hb dX9_about_66 rfl (lv_at hl 3 rfl) ?_
              refine lv_iconst (v := 2) hx hb dX9_about_67 (by decide) ?_
              refine lv_icmp_ne (tgt := 76) hx hb dX9_about_68 (by decide) (fun c16 => ?_) (fun c16 => ?_)
              · have hk := ok_n c16 hk
                refine lv_iload_n hx hb dX9_about_76 rfl (lv_at hl 3 rfl) ?_
                refine lv_iconst (v := 5) hx hb dX9_about_77 (by decide) ?_
                refine lv_icmp_ne (tgt := 109) hx hb dX9_about_78 (by decide) (fun c17 => ?_) (fun c17 => ?_)
                · have hk := ok_n c17 hk
                  refine lv_iload_n hx hb dX9_about_109 rfl (lv_at hl 3 rfl) ?_
                  refine lv_iconst (v := 3) hx hb dX9_about_110 (by decide) ?_
                  refine lv_icmp_ne (tgt := 151) hx hb dX9_about_111 (by decide) (fun c18 => ?_) (fun c18 => ?_)
                  · have hk := ok_n c18 hk
                    refine lv_aload_n hx hb dX9_about_151 rfl (lv_at hl 1 rfl) ?_
                    refine zgi X w 9 8 92 (C := RX9) (T := TX9) (N := 23) rfl ui_X9 (by decide) rfl (tb wf_X9_92) dX9_about_152 c1 ?_
                    refine lv_iconst (v := 1) hx hb dX9_about_155 (by decide) ?_
                    refine lv_icmp_le (tgt := 161) hx hb dX9_about_156 (by decide) (fun c19 => ?_) (fun c19 => ?_)
                    · have hk := ok_p c19 hk
                      refine lv_aload_n hx hb dX9_about_161 rfl (lv_at hl 1 rfl) ?_
                      refine lv_iload_n hx hb dX9_about_162 rfl (lv_at hl 2 rfl) ?_
                      refine lv_iconst (v := 0) hx hb dX9_about_163 (by decide) ?_
                      obtain ⟨q20, e21, hk⟩ := ok_b hk
                      refine zVv X w (n := 2) (As := [.int i1, .int (0 : Int32)]) (rest := []) (ci := 9) (C := RX9) (T := TX9) (N := 23) (c_X9_weigh l D cy G q14 r0 i1 (0 : Int32) e21) (gzV wm_X9_140 wi_X9_weigh ws_X9_weigh wn_X9 wc_X9_weigh) rfl rfl rfl (by decide +kernel) (by decide) rfl c1 rfl rfl hl.1 (Nat.le_of_ble_eq_true rfl) dX9_about_164 ⟨Nat.zero_le _, Nat.zero_le _⟩ (fun H locs w => ?_)
                      refine lv_aload_n hx hb dX9_about_167 rfl (lv_at hl 1 rfl) ?_
                      refine lv_iload_n hx hb dX9_about_168 rfl (lv_at hl 2 rfl) ?_
                      obtain ⟨q22, e23, hk⟩ := ok_b hk
                      refine zVi X w (n := 1) (As := [.int i1]) (rest := []) (ci := 9) (C := RX9) (T := TX9) (N := 23) (c_X9_isBothWays l D cy G q20 r0 i1 e23) (gzV wm_X9_168 wi_X9_isBothWays ws_X9_isBothWays wn_X9 wc_X9_isBothWays) rfl rfl rfl (by decide +kernel) (by decide) rfl c1 rfl rfl hl.1 (Nat.le_of_ble_eq_true rfl) dX9_about_169 ⟨Nat.zero_le _, Nat.zero_le _⟩ (fun H locs w => ?_)
                      refine lv_if_eq (tgt := 179) hx hb dX9_about_172 (by decide) (fun c24 => ?_) (fun c24 => ?_)
                      · have hk := ok_p c24 hk
                        refine lv_iconst (v := 0) hx hb dX9_about_179 (by decide) ?_
                        have hk := hR _ (ok_s hk)
                        exact zri X hr hlk w dX9_about_180 (pr1 hk) (pr2 hk)
                      · have hk := ok_n c24 hk
                        refine lv_iconst (v := 1) hx hb dX9_about_175 (by decide) ?_
                        refine lv_goto (tgt := 180) hx hb dX9_about_176 (by decide) ?_
                        have hk := hR _ (ok_s hk)
                        exact zri X hr hlk w dX9_about_180 (pr1 hk) (pr2 hk)
                    · have hk := ok_n c19 hk
                      refine lv_iconst (v := 0) hx hb dX9_about_159 (by decide) ?_
                      have hk := hR _ (ok_s hk)
                      exact zri X hr hlk w dX9_about_160 (pr1 hk) (pr2 hk)
                  · have hk := ok_p c18 hk
                    refine lv_iconst (v := 0) hx hb dX9_about_114 (by decide) ?_
                    refine lv_istore (lv' := [(4, .int (0 : Int32)), (3, .int ((mwI M r0 0 (0 : Int32)).1 r7 (Int32.toNatClampNeg i1))), (0, .ref r0), (1, .int i1), (2, .int i2)]) hx hb dX9_about_115 hl (by decide) rfl (fun ls hl => ?_)
                    refine lv_iconst (v := 0) hx hb dX9_about_117 (by decide) ?_
                    refine lv_istore (lv' := [(5, .int (0 : Int32)), (4, .int (0 : Int32)), (3, .int ((mwI M r0 0 (0 : Int32)).1 r7 (Int32.toNatClampNeg i1))), (0, .ref r0), (1, .int i1), (2, .int i2)]) hx hb dX9_about_118 hl (by decide) rfl (fun ls hl => ?_)
                    refine wl_X9_about_120 X q14 r0 ((mwI M r0 0 (0 : Int32)).1 r7 (Int32.toNatClampNeg i1)) (Qo := _) (fun q30 hk H locs ls w hl => ?_) FU (0 : Int32) (0 : Int32) _ _ _ w (lv_sub hl [3, 2, 1, 0] rfl) (ok_b hk)
                    refine lv_iload hx hb dX9_about_148 (lv_at hl 0 rfl) ?_
                    have hk := hR _ (ok_s hk)
                    exact zri X hr hlk w dX9_about_150 (pr1 hk) (pr2 hk)
                · have hk := ok_p c17 hk
                  refine lv_aload_n hx hb dX9_about_81 rfl (lv_at hl 1 rfl) ?_
                  refine zgi X w 9 8 92 (C := RX9) (T := TX9) (N := 23) rfl ui_X9 (by decide) rfl (tb wf_X9_92) dX9_about_82 c1 ?_
                  refine lv_iconst (v := 1) hx hb dX9_about_85 (by decide) ?_
                  refine lv_icmp_le (tgt := 93) hx hb dX9_about_86 (by decide) (fun c31 => ?_) (fun c31 => ?_)
                  · have hk := ok_p c31 hk
                    refine lv_aload_n hx hb dX9_about_93 rfl (lv_at hl 1 rfl) ?_
                    refine lv_iload_n hx hb dX9_about_94 rfl (lv_at hl 2 rfl) ?_
                    refine lv_iconst (v := 0) hx hb dX9_about_95 (by decide) ?_
                    obtain ⟨q32, e33, hk⟩ := ok_b hk
                    refine zVi X w (n := 2) (As := [.int i1, .int (0 : Int32)]) (rest := []) (ci := 9) (C := RX9) (T := TX9) (N := 23) (c_X9_beat l D cy G q14 r0 i1 (0 : Int32) e33) (gzV wm_X9_165 wi_X9_beat ws_X9_beat wn_X9 wc_X9_beat) rfl rfl rfl (by decide +kernel) (by decide) rfl c1 rfl rfl hl.1 (Nat.le_of_ble_eq_true rfl) dX9_about_96 ⟨Nat.zero_le _, Nat.zero_le _⟩ (fun H locs w => ?_)
                    refine lv_iconst (v := 1) hx hb dX9_about_99 (by decide) ?_
                    refine lv_icmp_ne (tgt := 107) hx hb dX9_about_100 (by decide) (fun c34 => ?_) (fun c34 => ?_)
                    · have hk := ok_n c34 hk
                      refine lv_iconst (v := 1) hx hb dX9_about_107 (by decide) ?_
                      have hk := hR _ (ok_s hk)
                      exact zri X hr hlk w dX9_about_108 (pr1 hk) (pr2 hk)
                    · have hk := ok_p c34 hk
                      refine lv_iconst (v := 2) hx hb dX9_about_103 (by decide) ?_
                      refine lv_goto (tgt := 108) hx hb dX9_about_104 (by decide) ?_
                      have hk := hR _ (ok_s hk)
                      exact zri X hr hlk w dX9_about_108 (pr1 hk) (pr2 hk)
                  · have hk := ok_n c31 hk
                    refine lv_iconst (v := 0) hx hb dX9_about_89 (by decide) ?_
                    refine lv_goto (tgt := 108) hx hb dX9_about_90 (by decide) ?_
                    have hk := hR _ (ok_s hk)
                    exact zri X hr hlk w dX9_about_108 (pr1 hk) (pr2 hk)
              · have hk := ok_p c16 hk
                refine lv_aload_n hx hb dX9_about_71 rfl (lv_at hl 1 rfl) ?_
                refine zgi X w 9 8 92 (C := RX9) (T := TX9) (N := 23) rfl ui_X9 (by decide) rfl (tb wf_X9_92) dX9_about_72 c1 ?_
                have hk := hR _ (ok_s hk)
                exact zri X hr hlk w dX9_about_75 (pr1 hk) (pr2 hk)
            · have hk := ok_p c13 hk
              refine lv_aload_n hx hb dX9_about_55 rfl (lv_at hl 1 rfl) ?_
              refine lv_iload_n hx hb dX9_about_56 rfl (lv_at hl 2 rfl) ?_
              obtain ⟨q35, e36, hk⟩ := ok_b hk
              refine zVi X w (n := 1) (As := [.int i1]) (rest := []) (ci := 9) (C := RX9) (T := TX9) (N := 23) (c_X9_times l D cy G (mwI M r0 0 (0 : Int32)) r0 i1 e36) (gzV wm_X9_162 wi_X9_times ws_X9_times wn_X9 wc_X9_times) rfl rfl rfl (by decide +kernel) (by decide) rfl c1 rfl rfl hl.1 (Nat.le_of_ble_eq_true rfl) dX9_about_57 ⟨Nat.zero_le _, Nat.zero_le _⟩ (fun H locs w => ?_)
              have hk := hR _ (ok_s hk)
              exact zri X hr hlk w dX9_about_60 (pr1 hk) (pr2 hk)
          · have hk := ok_p c12 hk
            refine lv_aload_n hx hb dX9_about_43 rfl (lv_at hl 1 rfl) ?_
            obtain ⟨r37, e38, hk⟩ := ok_b hk
            refine zgr X w 9 4 16 (C := RX9) (T := TX9) (N := 23) rfl ui_X9 (by decide) rfl (tb wf_X9_16) dX9_about_44 c1 e38 ?_
            refine lv_iload_n hx hb dX9_about_47 rfl (lv_at hl 2 rfl) ?_
            obtain ⟨c39, hk⟩ := ok_c hk
            obtain ⟨c40, hk⟩ := ok_c hk
            refine zai X w dX9_about_48 c39 c40 ?_
            have hk := hR _ (ok_s hk)
            exact zri X hr hlk w dX9_about_49 (pr1 hk) (pr2 hk)
        · have hk := ok_p c11 hk
          refine lv_iload_n hx hb dX9_about_36 rfl (lv_at hl 0 rfl) ?_
          have hk := hR _ (ok_s hk)
          exact zri X hr hlk w dX9_about_37 (pr1 hk) (pr2 hk)
      · have hk := ok_n c6 hk
        refine lv_iconst (v := (-1)) hx hb dX9_about_23 (by decide) ?_
        have hk := hR _ (ok_s hk)
        exact zri X hr hlk w dX9_about_24 (pr1 hk) (pr2 hk)
