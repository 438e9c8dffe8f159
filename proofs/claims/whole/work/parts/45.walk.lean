abbrev rm_X8_apart : Room := { frames := 7, cells := 0, slots := 0, locals := 104 }
abbrev rx_X8_apart : Room := { frames := 7, cells := 1, slots := 6, locals := 104 }
set_option maxHeartbeats 4000000 in
set_option maxRecDepth 100000 in
theorem wjc_X8_apart_142 {p : Program} {l : Launch} {e : Env} {s : State} {m : MethodId} {args : Array Value} {below : List Frame} {meth : Method} {c : Code} {D : va_G} {cy : Cyy} {A : Nat → Prop} {G : Gg} (X : Cx p m c cX8_apart 9 s args wz_X8_apart RX8 D cy) (M0 M : Mm) (Qo : (Option Int64) × Mm → Prop) (hr : meth.sig.returnType = (some .long)) (hlk : meth.locks = false) {x0 : (Option Int64) × Mm} (hR : ∀ x, Qo x → x = x0) {r : Int64} (hq : x0.1 = some r) (r0 : Nat) (i5 : Int32) (k0 : Int64) (k1 : Nat) (H : Heap) (locs : List Loc) (ls : Array Slot) (w : Wo s D cy A G M H locs) (hl : lv_has ls 9 [(0, .ref r0), (5, .int i5)]) (hk : OK (jn_X8_apart_142 G M  r0 i5 k0 k1) Qo) : W p l e rm_X8_apart s m args below meth c H locs 0 0 (MQ below (QL D cy G A r x0.2) args s 0 0 A) (F0 m 142 ls [.long k0, .ref k1]) := by
    have hx := X.1.1
    have hb := X.1.2.1
    unfold jn_X8_apart_142 at hk
    refine zldc2 X (v := 2) (tb wk_X8_201) dX8_apart_142 ?_
    refine lv_aload_n hx hb dX8_apart_145 rfl (lv_at hl 0 rfl) ?_
    obtain ⟨c31, hk⟩ := ok_c hk
    obtain ⟨r32, e33, hk⟩ := ok_b hk
    refine zgr X w 8 6 45 (C := RX8) (T := TX8) (N := 10) rfl ui_X8 (by decide) rfl (tb wf_X8_45) dX8_apart_146 c31 e33 ?_
    obtain ⟨c34, hk⟩ := ok_c hk
    refine zgNl X w 7 2 178 "BlendBench" (C := RX7) (T := TX7) (N := 3) rfl ui_X7 (by decide) rfl (by decide +kernel) dX8_apart_149 c34 ?_
    refine lv_lmul hx hb dX8_apart_152 ?_
    obtain ⟨c37, hk⟩ := ok_c hk
    obtain ⟨q35, e36, hk⟩ := ok_b hk
    refine zVv X w (n := 2) (As := [.long k0, .long ((2 : Int64) * (M.2.1 r32 2))]) (rest := []) (ci := 1) (C := RX1) (T := TX1) (N := 2) (c_X1_put l D cy G M k1 k0 ((2 : Int64) * (M.2.1 r32 2)) e36) (gzV wm_X8_182 wi_X1_put ws_X1_put wn_X1 wc_X1_put) rfl rfl rfl (by decide +kernel) (by decide) rfl c37 rfl rfl hl.1 (Nat.le_of_ble_eq_true rfl) dX8_apart_153 ⟨Nat.zero_le _, Nat.zero_le _⟩ (fun H locs w => ?_)
    refine lv_aload_n hx hb dX8_apart_156 rfl (lv_at hl 0 rfl) ?_
    obtain ⟨r38, e39, hk⟩ := ok_b hk
    refine zgr X w 8 9 66 (C := RX8) (T := TX8) (N := 10) rfl ui_X8 (by decide) rfl (tb wf_X8_66) dX8_apart_157 c31 e39 ?_
    refine lv_iload hx hb dX8_apart_160 (lv_at hl 1 rfl) ?_
    obtain ⟨c42, hk⟩ := ok_c hk
    obtain ⟨q40, e41, hk⟩ := ok_b hk
    refine zVl X w (n := 1) (As := [.int i5]) (rest := []) (ci := 1) (C := RX1) (T := TX1) (N := 2) (c_X1_told l D cy G q35 r38 i5 e41) (gzV wm_X8_186 wi_X1_told ws_X1_told wn_X1 wc_X1_told) rfl rfl rfl (by decide +kernel) (by decide) rfl c42 rfl rfl hl.1 (Nat.le_of_ble_eq_true rfl) dX8_apart_162 ⟨Nat.zero_le _, Nat.zero_le _⟩ (fun H locs w => ?_)
    have hk := hR _ (ok_s hk)
    exact zrl X hr hlk w dX8_apart_165 (Option.some.inj ((pr1 hk).trans hq)) (pr2 hk)
set_option maxHeartbeats 4000000 in
set_option maxRecDepth 100000 in
theorem wjc_X8_apart_105 {p : Program} {l : Launch} {e : Env} {s : State} {m : MethodId} {args : Array Value} {below : List Frame} {meth : Method} {c : Code} {D : va_G} {cy : Cyy} {A : Nat → Prop} {G : Gg} (X : Cx p m c cX8_apart 9 s args wz_X8_apart RX8 D cy) (M0 M : Mm) (Qo : (Option Int64) × Mm → Prop) (hr : meth.sig.returnType = (some .long)) (hlk : meth.locks = false) {x0 : (Option Int64) × Mm} (hR : ∀ x, Qo x → x = x0) {r : Int64} (hq : x0.1 = some r) (r0 : Nat) (i2 : Int32) (i3 : Int32) (i4 : Int32) (i5 : Int32) (r6 : Nat) (i7 : Int32) (k0 : Int32) (k1 : Nat) (k2 : Nat) (H : Heap) (locs : List Loc) (ls : Array Slot) (w : Wo s D cy A G M H locs) (hl : lv_has ls 9 [(0, .ref r0), (2, .int i2), (3, .int i3), (4, .int i4), (5, .int i5), (6, .ref r6), (7, .int i7)]) (hk : OK (jn_X8_apart_105 G M  r0 i2 i3 i4 i5 r6 i7 k0 k1 k2) Qo) : W p l e rm_X8_apart s m args below meth c H locs 0 0 (MQ below (QL D cy G A r x0.2) args s 0 0 A) (F0 m 105 ls [.int k0, .ref k1, .ref k2]) := by
    have hx := X.1.1
    have hb := X.1.2.1
    unfold jn_X8_apart_105 at hk
    refine lv_iload hx hb dX8_apart_105 (lv_at hl 3 rfl) ?_
    obtain ⟨c21, hk⟩ := ok_c hk
    obtain ⟨q19, e20, hk⟩ := ok_b hk
    refine zVv X w (n := 3) (As := [.ref k1, .int k0, .int i4]) (rest := []) (ci := 7) (C := RX7) (T := TX7) (N := 3) (c_X7_go l D cy G M k2 k1 k0 i4 e20) (gzV wm_X8_170 wi_X7_go ws_X7_go wn_X7 wc_X7_go) rfl rfl rfl (by decide +kernel) (by decide) rfl c21 rfl rfl hl.1 (Nat.le_of_ble_eq_true rfl) dX8_apart_107 ⟨Nat.zero_le _, Nat.zero_le _⟩ (fun H locs w => ?_)
    refine lv_aload_n hx hb dX8_apart_110 rfl (lv_at hl 0 rfl) ?_
    obtain ⟨c22, hk⟩ := ok_c hk
    obtain ⟨r23, e24, hk⟩ := ok_b hk
    refine zgr X w 8 9 66 (C := RX8) (T := TX8) (N := 10) rfl ui_X8 (by decide) rfl (tb wf_X8_66) dX8_apart_111 c22 e24 ?_
    refine lv_iload hx hb dX8_apart_114 (lv_at hl 6 rfl) ?_
    refine lv_if_eq (tgt := 131) hx hb dX8_apart_116 (by decide) (fun c25 => ?_) (fun c25 => ?_)
    · have hk := ok_p c25 hk
      refine lv_aload_n hx hb dX8_apart_131 rfl (lv_at hl 0 rfl) ?_
      obtain ⟨r26, e27, hk⟩ := ok_b hk
      refine zgr X w 8 6 45 (C := RX8) (T := TX8) (N := 10) rfl ui_X8 (by decide) rfl (tb wf_X8_45) dX8_apart_132 c22 e27 ?_
      refine lv_aload hx hb dX8_apart_135 (lv_at hl 5 rfl) ?_
      refine lv_iload_n hx hb dX8_apart_137 rfl (lv_at hl 1 rfl) ?_
      refine lv_iload_n hx hb dX8_apart_138 rfl (lv_at hl 2 rfl) ?_
      obtain ⟨c30, hk⟩ := ok_c hk
      obtain ⟨q28, e29, hk⟩ := ok_b hk
      refine zVl X w (n := 3) (As := [.ref r6, .int i2, .int i3]) (rest := [.ref r23]) (ci := 7) (C := RX7) (T := TX7) (N := 3) (c_X7_gap l D cy G q19 r26 r6 i2 i3 e29) (gzV wm_X8_197 wi_X7_gap ws_X7_gap wn_X7 wc_X7_gap) rfl rfl rfl (by decide +kernel) (by decide) rfl c30 rfl rfl hl.1 (Nat.le_of_ble_eq_true rfl) dX8_apart_139 ⟨Nat.zero_le _, Nat.zero_le _⟩ (fun H locs w => ?_)
      exact wjc_X8_apart_142 X M q19 _ hr hlk hR hq r0 i5 q28 r23 _ _ _ w (lv_sub hl [0, 4] rfl) hk
    · have hk := ok_n c25 hk
      refine lv_aload_n hx hb dX8_apart_119 rfl (lv_at hl 0 rfl) ?_
      obtain ⟨r43, e44, hk⟩ := ok_b hk
      refine zgr X w 8 6 45 (C := RX8) (T := TX8) (N := 10) rfl ui_X8 (by decide) rfl (tb wf_X8_45) dX8_apart_120 c22 e44 ?_
      refine lv_aload hx hb dX8_apart_123 (lv_at hl 5 rfl) ?_
      obtain ⟨c47, hk⟩ := ok_c hk
      obtain ⟨q45, e46, hk⟩ := ok_b hk
      refine zVl X w (n := 1) (As := [.ref r6]) (rest := [.ref r23]) (ci := 7) (C := RX7) (T := TX7) (N := 3) (c_X7_widestGap l D cy G q19 r43 r6 e46) (gzV wm_X8_193 wi_X7_widestGap ws_X7_widestGap wn_X7 wc_X7_widestGap) rfl rfl rfl (by decide +kernel) (by decide) rfl c47 rfl rfl hl.1 (Nat.le_of_ble_eq_true rfl) dX8_apart_125 ⟨Nat.zero_le _, Nat.zero_le _⟩ (fun H locs w => ?_)
      refine lv_goto (tgt := 142) hx hb dX8_apart_128 (by decide) ?_
      exact wjc_X8_apart_142 X M q19 _ hr hlk hR hq r0 i5 q45 r23 _ _ _ w (lv_sub hl [0, 4] rfl) hk
set_option maxHeartbeats 4000000 in
set_option maxRecDepth 100000 in
theorem wjc_X8_apart_79 {p : Program} {l : Launch} {e : Env} {s : State} {m : MethodId} {args : Array Value} {below : List Frame} {meth : Method} {c : Code} {D : va_G} {cy : Cyy} {A : Nat → Prop} {G : Gg} (X : Cx p m c cX8_apart 9 s args wz_X8_apart RX8 D cy) (M0 M : Mm) (Qo : (Option Int64) × Mm → Prop) (hr : meth.sig.returnType = (some .long)) (hlk : meth.locks = false) {x0 : (Option Int64) × Mm} (hR : ∀ x, Qo x → x = x0) {r : Int64} (hq : x0.1 = some r) (r0 : Nat) (i2 : Int32) (i3 : Int32) (i4 : Int32) (i5 : Int32) (r6 : Nat) (i7 : Int32)  (H : Heap) (locs : List Loc) (ls : Array Slot) (w : Wo s D cy A G M H locs) (hl : lv_has ls 9 [(0, .ref r0), (2, .int i2), (3, .int i3), (4, .int i4), (5, .int i5), (6, .ref r6), (7, .int i7)]) (hk : OK (jn_X8_apart_79 G M  r0 i2 i3 i4 i5 r6 i7) Qo) : W p l e rm_X8_apart s m args below meth c H locs 0 0 (MQ below (QL D cy G A r x0.2) args s 0 0 A) (F0 m 79 ls []) := by
    have hx := X.1.1
    have hb := X.1.2.1
    unfold jn_X8_apart_79 at hk
    refine lv_aload_n hx hb dX8_apart_79 rfl (lv_at hl 0 rfl) ?_
    obtain ⟨c15, hk⟩ := ok_c hk
    obtain ⟨r16, e17, hk⟩ := ok_b hk
    refine zgr X w 8 6 45 (C := RX8) (T := TX8) (N := 10) rfl ui_X8 (by decide) rfl (tb wf_X8_45) dX8_apart_80 c15 e17 ?_
    refine lv_aload hx hb dX8_apart_83 (lv_at hl 5 rfl) ?_
    refine lv_iload hx hb dX8_apart_85 (lv_at hl 6 rfl) ?_
    refine lv_if_eq (tgt := 98) hx hb dX8_apart_87 (by decide) (fun c18 => ?_) (fun c18 => ?_)
    · have hk := ok_p c18 hk
      refine lv_iconst (v := 1) hx hb dX8_apart_98 (by decide) ?_
      refine lv_iload_n hx hb dX8_apart_99 rfl (lv_at hl 1 rfl) ?_
      refine lv_ishl hx hb dX8_apart_100 ?_
      refine lv_iconst (v := 1) hx hb dX8_apart_101 (by decide) ?_
      refine lv_iload_n hx hb dX8_apart_102 rfl (lv_at hl 2 rfl) ?_
      refine lv_ishl hx hb dX8_apart_103 ?_
      refine lv_ior hx hb dX8_apart_104 ?_
      exact wjc_X8_apart_105 X M M _ hr hlk hR hq r0 i2 i3 i4 i5 r6 i7 (((1 : Int32) <<< (i2 &&& 31)) ||| ((1 : Int32) <<< (i3 &&& 31))) r6 r16 _ _ _ w (lv_sub hl [0, 1, 2, 3, 4, 5, 6] rfl) hk
    · have hk := ok_n c18 hk
      refine lv_aload hx hb dX8_apart_90 (lv_at hl 5 rfl) ?_
      obtain ⟨c50, hk⟩ := ok_c hk
      obtain ⟨q48, e49, hk⟩ := ok_b hk
      refine zVi X w (n := 0) (As := []) (rest := [.ref r6, .ref r16]) (ci := 0) (C := RX0) (T := TX0) (N := 7) (c_X0_allStates l D cy G M r6 e49) (gzV wm_X8_190 wi_X0_allStates ws_X0_allStates wn_X0 wc_X0_allStates) rfl rfl rfl (by decide +kernel) (by decide) rfl c50 rfl rfl hl.1 (Nat.le_of_ble_eq_true rfl) dX8_apart_92 ⟨Nat.zero_le _, Nat.zero_le _⟩ (fun H locs w => ?_)
      refine lv_goto (tgt := 105) hx hb dX8_apart_95 (by decide) ?_
      exact wjc_X8_apart_105 X M M _ hr hlk hR hq r0 i2 i3 i4 i5 r6 i7 q48 r6 r16 _ _ _ w (lv_sub hl [0, 1, 2, 3, 4, 5, 6] rfl) hk
set_option maxHeartbeats 4000000 in
set_option maxRecDepth 100000 in
theorem wjc_X8_apart_49 {p : Program} {l : Launch} {e : Env} {s : State} {m : MethodId} {args : Array Value} {below : List Frame} {meth : Method} {c : Code} {D : va_G} {cy : Cyy} {A : Nat → Prop} {G : Gg} (X : Cx p m c cX8_apart 9 s args wz_X8_apart RX8 D cy) (M0 M : Mm) (Qo : (Option Int64) × Mm → Prop) (hr : meth.sig.returnType = (some .long)) (hlk : meth.locks = false) {x0 : (Option Int64) × Mm} (hR : ∀ x, Qo x → x = x0) {r : Int64} (hq : x0.1 = some r) (r0 : Nat) (i2 : Int32) (i3 : Int32) (i4 : Int32) (i5 : Int32) (r6 : Nat) (i7 : Int32) (k0 : Int32) (H : Heap) (locs : List Loc) (ls : Array Slot) (w : Wo s D cy A G M H locs) (hl : lv_has ls 9 [(0, .ref r0), (2, .int i2), (3, .int i3), (4, .int i4), (5, .int i5), (6, .ref r6), (7, .int i7)]) (hk : OK (jn_X8_apart_49 G M  r0 i2 i3 i4 i5 r6 i7 k0) Qo) : W p l e rm_X8_apart s m args below meth c H locs 0 0 (MQ below (QL D cy G A r x0.2) args s 0 0 A) (F0 m 49 ls [.int k0]) := by
    have hx := X.1.1
    have hb := X.1.2.1
    unfold jn_X8_apart_49 at hk
    refine lv_istore (lv' := [(8, .int k0), (0, .ref r0), (2, .int i2), (3, .int i3), (4, .int i4), (5, .int i5), (6, .ref r6), (7, .int i7)]) hx hb dX8_apart_49 hl (by decide) rfl (fun ls hl => ?_)
    refine lv_aload hx hb dX8_apart_51 (lv_at hl 6 rfl) ?_
    refine lv_iload hx hb dX8_apart_53 (lv_at hl 4 rfl) ?_
    obtain ⟨c12, hk⟩ := ok_c hk
    obtain ⟨q10, e11, hk⟩ := ok_b hk
    refine zVi X w (n := 1) (As := [.int i4]) (rest := []) (ci := 0) (C := RX0) (T := TX0) (N := 7) (c_X0_isTime l D cy G M r6 i4 e11) (gzV wm_X8_167 wi_X0_isTime ws_X0_isTime wn_X0 wc_X0_isTime) rfl rfl rfl (by decide +kernel) (by decide) rfl c12 rfl rfl hl.1 (Nat.le_of_ble_eq_true rfl) dX8_apart_55 ⟨Nat.zero_le _, Nat.zero_le _⟩ (fun H locs w => ?_)
    refine lv_if_eq (tgt := 71) hx hb dX8_apart_58 (by decide) (fun c13 => ?_) (fun c13 => ?_)
    · have hk := ok_p c13 hk
      have hk := hR _ (ok_s hk)
      exact absurd ((pr1 hk).trans hq) (fun h => by cases h)
    · have hk := ok_n c13 hk
      refine lv_iload hx hb dX8_apart_61 (lv_at hl 7 rfl) ?_
      refine lv_if_ne (tgt := 79) hx hb dX8_apart_63 (by decide) (fun c14 => ?_) (fun c14 => ?_)
      · have hk := ok_n c14 hk
        exact wjc_X8_apart_79 X M M _ hr hlk hR hq r0 i2 i3 i4 i5 r6 i7 _ _ _ w (lv_sub hl [1, 2, 3, 4, 5, 6, 7] rfl) hk
      · have hk := ok_p c14 hk
        refine lv_iload hx hb dX8_apart_66 (lv_at hl 0 rfl) ?_
        refine lv_if_ne (tgt := 79) hx hb dX8_apart_68 (by decide) (fun c51 => ?_) (fun c51 => ?_)
        · have hk := ok_n c51 hk
          exact wjc_X8_apart_79 X M M _ hr hlk hR hq r0 i2 i3 i4 i5 r6 i7 _ _ _ w (lv_sub hl [1, 2, 3, 4, 5, 6, 7] rfl) hk
        · have hk := ok_p c51 hk
          have hk := hR _ (ok_s hk)
          exact absurd ((pr1 hk).trans hq) (fun h => by cases h)
set_option maxHeartbeats 4000000 in
set_option maxRecDepth 100000 in
theorem wjc_X8_apart_48 {p : Program} {l : Launch} {e : Env} {s : State} {m : MethodId} {args : Array Value} {below : List Frame} {meth : Method} {c : Code} {D : va_G} {cy : Cyy} {A : Nat → Prop} {G : Gg} (X : Cx p m c cX8_apart 9 s args wz_X8_apart RX8 D cy) (M0 M : Mm) (Qo : (Option Int64) × Mm → Prop) (hr : meth.sig.returnType = (some .long)) (hlk : meth.locks = false) {x0 : (Option Int64) × Mm} (hR : ∀ x, Qo x → x = x0) {r : Int64} (hq : x0.1 = some r) (r0 : Nat) (i2 : Int32) (i3 : Int32) (i4 : Int32) (i5 : Int32) (r6 : Nat) (i7 : Int32)  (H : Heap) (locs : List Loc) (ls : Array Slot) (w : Wo s D cy A G M H locs) (hl : lv_has ls 9 [(0, .ref r0), (2, .int i2), (3, .int i3), (4, .int i4), (5, .int i5), (6, .ref r6), (7, .int i7)]) (hk : OK (jn_X8_apart_48 G M  r0 i2 i3 i4 i5 r6 i7) Qo) : W p l e rm_X8_apart s m args below meth c H locs 0 0 (MQ below (QL D cy G A r x0.2) args s 0 0 A) (F0 m 48 ls []) := by
    have hx := X.1.1
    have hb := X.1.2.1
    unfold jn_X8_apart_48 at hk
    refine lv_iconst (v := 0) hx hb dX8_apart_48 (by decide) ?_
    exact wjc_X8_apart_49 X M M _ hr hlk hR hq r0 i2 i3 i4 i5 r6 i7 (0 : Int32) _ _ _ w (lv_sub hl [0, 1, 2, 3, 4, 5, 6] rfl) hk
set_option maxHeartbeats 4000000 in
set_option maxRecDepth 100000 in
theorem wjc_X8_apart_24 {p : Program} {l : Launch} {e : Env} {s : State} {m : MethodId} {args : Array Value} {below : List Frame} {meth : Method} {c : Code} {D : va_G} {cy : Cyy} {A : Nat → Prop} {G : Gg} (X : Cx p m c cX8_apart 9 s args wz_X8_apart RX8 D cy) (M0 M : Mm) (Qo : (Option Int64) × Mm → Prop) (hr : meth.sig.returnType = (some .long)) (hlk : meth.locks = false) {x0 : (Option Int64) × Mm} (hR : ∀ x, Qo x → x = x0) {r : Int64} (hq : x0.1 = some r) (r0 : Nat) (i2 : Int32) (i3 : Int32) (i4 : Int32) (i5 : Int32) (r6 : Nat) (k0 : Int32) (H : Heap) (locs : List Loc) (ls : Array Slot) (w : Wo s D cy A G M H locs) (hl : lv_has ls 9 [(0, .ref r0), (2, .int i2), (3, .int i3), (4, .int i4), (5, .int i5), (6, .ref r6)]) (hk : OK (jn_X8_apart_24 G M  r0 i2 i3 i4 i5 r6 k0) Qo) : W p l e rm_X8_apart s m args below meth c H locs 0 0 (MQ below (QL D cy G A r x0.2) args s 0 0 A) (F0 m 24 ls [.int k0]) := by
    have hx := X.1.1
    have hb := X.1.2.1
    unfold jn_X8_apart_24 at hk
    refine lv_istore (lv' := [(7, .int k0), (0, .ref r0), (2, .int i2), (3, .int i3), (4, .int i4), (5, .int i5), (6, .ref r6)]) hx hb dX8_apart_24 hl (by decide) rfl (fun ls hl => ?_)
    refine lv_aload hx hb dX8_apart_26 (lv_at hl 6 rfl) ?_
    refine lv_iload_n hx hb dX8_apart_28 rfl (lv_at hl 2 rfl) ?_
    obtain ⟨c8, hk⟩ := ok_c hk
    obtain ⟨q6, e7, hk⟩ := ok_b hk
    refine zVi X w (n := 1) (As := [.int i2]) (rest := []) (ci := 0) (C := RX0) (T := TX0) (N := 7) (c_X0_isState l D cy G M r6 i2 e7) (gzV wm_X8_151 wi_X0_isState ws_X0_isState wn_X0 wc_X0_isState) rfl rfl rfl (by decide +kernel) (by decide) rfl c8 rfl rfl hl.1 (Nat.le_of_ble_eq_true rfl) dX8_apart_29 ⟨Nat.zero_le _, Nat.zero_le _⟩ (fun H locs w => ?_)
    refine lv_if_eq (tgt := 48) hx hb dX8_apart_32 (by decide) (fun c9 => ?_) (fun c9 => ?_)
    · have hk := ok_p c9 hk
      exact wjc_X8_apart_48 X M M _ hr hlk hR hq r0 i2 i3 i4 i5 r6 k0 _ _ _ w (lv_sub hl [1, 2, 3, 4, 5, 6, 0] rfl) hk
    · have hk := ok_n c9 hk
      refine lv_aload hx hb dX8_apart_35 (lv_at hl 6 rfl) ?_
      refine lv_iload_n hx hb dX8_apart_37 rfl (lv_at hl 3 rfl) ?_
      obtain ⟨q52, e53, hk⟩ := ok_b hk
      refine zVi X w (n := 1) (As := [.int i3]) (rest := []) (ci := 0) (C := RX0) (T := TX0) (N := 7) (c_X0_isState l D cy G M r6 i3 e53) (gzV wm_X8_151 wi_X0_isState ws_X0_isState wn_X0 wc_X0_isState) rfl rfl rfl (by decide +kernel) (by decide) rfl c8 rfl rfl hl.1 (Nat.le_of_ble_eq_true rfl) dX8_apart_38 ⟨Nat.zero_le _, Nat.zero_le _⟩ (fun H locs w => ?_)
      refine lv_if_eq (tgt := 48) hx hb dX8_apart_41 (by decide) (fun c54 => ?_) (fun c54 => ?_)
      · have hk := ok_p c54 hk
        exact wjc_X8_apart_48 X M M _ hr hlk hR hq r0 i2 i3 i4 i5 r6 k0 _ _ _ w (lv_sub hl [1, 2, 3, 4, 5, 6, 0] rfl) hk
      · have hk := ok_n c54 hk
        refine lv_iconst (v := 1) hx hb dX8_apart_44 (by decide) ?_
        refine lv_goto (tgt := 49) hx hb dX8_apart_45 (by decide) ?_
        exact wjc_X8_apart_49 X M M _ hr hlk hR hq r0 i2 i3 i4 i5 r6 k0 (1 : Int32) _ _ _ w (lv_sub hl [1, 2, 3, 4, 5, 6, 0] rfl) hk
set_option maxHeartbeats 4000000 in
set_option maxRecDepth 100000 in
theorem wjc_X8_apart_23 {p : Program} {l : Launch} {e : Env} {s : State} {m : MethodId} {args : Array Value} {below : List Frame} {meth : Method} {c : Code} {D : va_G} {cy : Cyy} {A : Nat → Prop} {G : Gg} (X : Cx p m c cX8_apart 9 s args wz_X8_apart RX8 D cy) (M0 M : Mm) (Qo : (Option Int64) × Mm → Prop) (hr : meth.sig.returnType = (some .long)) (hlk : meth.locks = false) {x0 : (Option Int64) × Mm} (hR : ∀ x, Qo x → x = x0) {r : Int64} (hq : x0.1 = some r) (r0 : Nat) (i2 : Int32) (i3 : Int32) (i4 : Int32) (i5 : Int32) (r6 : Nat)  (H : Heap) (locs : List Loc) (ls : Array Slot) (w : Wo s D cy A G M H locs) (hl : lv_has ls 9 [(0, .ref r0), (2, .int i2), (3, .int i3), (4, .int i4), (5, .int i5), (6, .ref r6)]) (hk : OK (jn_X8_apart_23 G M  r0 i2 i3 i4 i5 r6) Qo) : W p l e rm_X8_apart s m args below meth c H locs 0 0 (MQ below (QL D cy G A r x0.2) args s 0 0 A) (F0 m 23 ls []) := by
    have hx := X.1.1
    have hb := X.1.2.1
    unfold jn_X8_apart_23 at hk
    refine lv_iconst (v := 0) hx hb dX8_apart_23 (by decide) ?_
    exact wjc_X8_apart_24 X M M _ hr hlk hR hq r0 i2 i3 i4 i5 r6 (0 : Int32) _ _ _ w (lv_sub hl [0, 1, 2, 3, 4, 5] rfl) hk
set_option maxHeartbeats 4000000 in
set_option maxRecDepth 100000 in
theorem c_X8_apart (l : Launch) (D : va_G) (cy : Cyy) (G : Gg) (M : Mm) (r0 : Nat) (i1 : Int32) (i2 : Int32) (i3 : Int32) (i4 : Int32) (i5 : Int32) {q : (Option Int64) × Mm} (hm : f_X8_apart G M r0 i1 i2 i3 i4 i5 = some q) {r : Int64} (hq : q.1 = some r) : CL l yX8_apart wz_X8_apart rm_X8_apart D cy G M [.ref r0, .int i1, .int i2, .int i3, .int i4, .int i5] r q.2 := by
  refine Met_of (Qf := fun A => QL D cy G A r q.2) (cc := cX8_apart) (nL := 9) (ret := (some .long)) (own := RX8) (lv := [(0, .ref r0), (1, .int i1), (2, .int i2), (3, .int i3), (4, .int i4), (5, .int i5)]) (by decide) rfl rfl (Nat.le_of_ble_eq_true rfl) rfl ?_
  intro p e s m args below meth c A ls X hr hlk w hl
  have hx := X.1.1
  have hb := X.1.2.1
  obtain ⟨Qo, hR, hk⟩ : ∃ Qo : (Option Int64) × Mm → Prop, (∀ x, Qo x → x = q) ∧ OK (f_X8_apart G M r0 i1 i2 i3 i4 i5) Qo := ⟨fun x => x = q, fun _ h => h, q, hm, rfl⟩
  unfold f_X8_apart at hk
  refine lv_aload_n hx hb dX8_apart_0 rfl (lv_at hl 0 rfl) ?_
  refine lv_iload_n hx hb dX8_apart_1 rfl (lv_at hl 1 rfl) ?_
  refine lv_iload hx hb dX8_apart_2 (lv_at hl 5 rfl) ?_
  obtain ⟨c3, hk⟩ := ok_c hk
  obtain ⟨q1, e2, hk⟩ := ok_b hk
  rcases q1 with _ | r4
  · have hk := hR _ (ok_s (ok_e0 hk))
    exact absurd ((pr1 hk).trans hq) (fun h => by cases h)
  · have hk := ok_e1 hk
    refine zVp X w (n := 2) (As := [.int i1, .int i5]) (rest := []) (ci := 8) (C := RX8) (T := TX8) (N := 10) (c_X8_neededChain l D cy G M r0 i1 i5 e2 rfl) (gzV wm_X8_163 wi_X8_neededChain ws_X8_neededChain wn_X8 wc_X8_neededChain) rfl rfl rfl (by decide +kernel) (by decide) rfl c3 rfl rfl hl.1 (Nat.le_of_ble_eq_true rfl) dX8_apart_4 ⟨Nat.zero_le _, Nat.zero_le _⟩ (fun H locs w => ?_)
    refine lv_astore (lv' := [(6, .ref r4), (0, .ref r0), (1, .int i1), (2, .int i2), (3, .int i3), (4, .int i4), (5, .int i5)]) hx hb dX8_apart_7 hl (by decide) rfl (fun ls hl => ?_)
    refine lv_iload_n hx hb dX8_apart_9 rfl (lv_at hl 3 rfl) ?_
    refine lv_iconst (v := (-1)) hx hb dX8_apart_10 (by decide) ?_
    refine lv_icmp_ne (tgt := 23) hx hb dX8_apart_11 (by decide) (fun c5 => ?_) (fun c5 => ?_)
    · have hk := ok_n c5 hk
      exact wjc_X8_apart_23 X M M _ hr hlk hR hq r0 i2 i3 i4 i5 r4 _ _ _ w (lv_sub hl [1, 3, 4, 5, 6, 0] rfl) hk
    · have hk := ok_p c5 hk
      refine lv_iload_n hx hb dX8_apart_14 rfl (lv_at hl 4 rfl) ?_
      refine lv_iconst (v := (-1)) hx hb dX8_apart_15 (by decide) ?_
      refine lv_icmp_ne (tgt := 23) hx hb dX8_apart_16 (by decide) (fun c55 => ?_) (fun c55 => ?_)
      · have hk := ok_n c55 hk
        exact wjc_X8_apart_23 X M M _ hr hlk hR hq r0 i2 i3 i4 i5 r4 _ _ _ w (lv_sub hl [1, 3, 4, 5, 6, 0] rfl) hk
      · have hk := ok_p c55 hk
        refine lv_iconst (v := 1) hx hb dX8_apart_19 (by decide) ?_
        refine lv_goto (tgt := 24) hx hb dX8_apart_20 (by decide) ?_
        exact wjc_X8_apart_24 X M M _ hr hlk hR hq r0 i2 i3 i4 i5 r4 (1 : Int32) _ _ _ w (lv_sub hl [1, 3, 4, 5, 6, 0] rfl) hk
set_option maxHeartbeats 4000000 in
set_option maxRecDepth 100000 in
theorem wjx_X8_apart_142 {p : Program} {l : Launch} {e : Env} {s : State} {m : MethodId} {args : Array Value} {below : List Frame} {meth : Method} {c : Code} {D : va_G} {cy : Cyy} {A : Nat → Prop} {G : Gg} (X : Cx p m c cX8_apart 9 s args wz_X8_apart RX8 D cy) (M0 M : Mm) (Qo : (Option Int64) × Mm → Prop) (hr : meth.sig.returnType = (some .long)) (hlk : meth.locks = false) {x0 : (Option Int64) × Mm} (hR : ∀ x, Qo x → x = x0) (hq : x0.1 = none) (hz : ZQ A s) (hst : l.stackTraces = false) (ht : ∀ x ∈ c.exceptionTable.toList, False) (r0 : Nat) (i5 : Int32) (k0 : Int64) (k1 : Nat) (H : Heap) (locs : List Loc) (ls : Array Slot) (w : Wo s D cy A G M H locs) (hl : lv_has ls 9 [(0, .ref r0), (5, .int i5)]) (hk : OK (jn_X8_apart_142 G M  r0 i5 k0 k1) Qo) : W p l e rx_X8_apart s m args below meth c H locs 0 0 (vx_MQ below QF (XCx D cy G A x0.2) args s 1 6 A) (F0 m 142 ls [.long k0, .ref k1]) := by
    have hx := X.1.1
    have hb := X.1.2.1
    unfold jn_X8_apart_142 at hk
    refine zldc2 X (v := 2) (tb wk_X8_201) dX8_apart_142 ?_
    refine lv_aload_n hx hb dX8_apart_145 rfl (lv_at hl 0 rfl) ?_
    obtain ⟨c31, hk⟩ := ok_c hk
    obtain ⟨r32, e33, hk⟩ := ok_b hk
    refine zgr X w 8 6 45 (C := RX8) (T := TX8) (N := 10) rfl ui_X8 (by decide) rfl (tb wf_X8_45) dX8_apart_146 c31 e33 ?_
    obtain ⟨c34, hk⟩ := ok_c hk
    refine zgNl X w 7 2 178 "BlendBench" (C := RX7) (T := TX7) (N := 3) rfl ui_X7 (by decide) rfl (by decide +kernel) dX8_apart_149 c34 ?_
    refine lv_lmul hx hb dX8_apart_152 ?_
    obtain ⟨c37, hk⟩ := ok_c hk
    obtain ⟨q35, e36, hk⟩ := ok_b hk
    refine zVv X w (n := 2) (As := [.long k0, .long ((2 : Int64) * (M.2.1 r32 2))]) (rest := []) (ci := 1) (C := RX1) (T := TX1) (N := 2) (c_X1_put l D cy G M k1 k0 ((2 : Int64) * (M.2.1 r32 2)) e36) (gzV wm_X8_182 wi_X1_put ws_X1_put wn_X1 wc_X1_put) rfl rfl rfl (by decide +kernel) (by decide) rfl c37 rfl rfl hl.1 (Nat.le_of_ble_eq_true rfl) dX8_apart_153 ⟨Nat.zero_le _, Nat.zero_le _⟩ (fun H locs w => ?_)
    refine lv_aload_n hx hb dX8_apart_156 rfl (lv_at hl 0 rfl) ?_
    obtain ⟨r38, e39, hk⟩ := ok_b hk
    refine zgr X w 8 9 66 (C := RX8) (T := TX8) (N := 10) rfl ui_X8 (by decide) rfl (tb wf_X8_66) dX8_apart_157 c31 e39 ?_
    refine lv_iload hx hb dX8_apart_160 (lv_at hl 1 rfl) ?_
    obtain ⟨c42, hk⟩ := ok_c hk
    obtain ⟨q40, e41, hk⟩ := ok_b hk
    refine zVl X w (n := 1) (As := [.int i5]) (rest := []) (ci := 1) (C := RX1) (T := TX1) (N := 2) (c_X1_told l D cy G q35 r38 i5 e41) (gzV wm_X8_186 wi_X1_told ws_X1_told wn_X1 wc_X1_told) rfl rfl rfl (by decide +kernel) (by decide) rfl c42 rfl rfl hl.1 (Nat.le_of_ble_eq_true rfl) dX8_apart_162 ⟨Nat.zero_le _, Nat.zero_le _⟩ (fun H locs w => ?_)
    have hk := hR _ (ok_s hk)
    exact absurd ((pr1 hk).trans hq) (fun h => by cases h)
set_option maxHeartbeats 4000000 in
set_option maxRecDepth 100000 in
theorem wjx_X8_apart_105 {p : Program} {l : Launch} {e : Env} {s : State} {m : MethodId} {args : Array Value} {below : List Frame} {meth : Method} {c : Code} {D : va_G} {cy : Cyy} {A : Nat → Prop} {G : Gg} (X : Cx p m c cX8_apart 9 s args wz_X8_apart RX8 D cy) (M0 M : Mm) (Qo : (Option Int64) × Mm → Prop) (hr : meth.sig.returnType = (some .long)) (hlk : meth.locks = false) {x0 : (Option Int64) × Mm} (hR : ∀ x, Qo x → x = x0) (hq : x0.1 = none) (hz : ZQ A s) (hst : l.stackTraces = false) (ht : ∀ x ∈ c.exceptionTable.toList, False) (r0 : Nat) (i2 : Int32) (i3 : Int32) (i4 : Int32) (i5 : Int32) (r6 : Nat) (i7 : Int32) (k0 : Int32) (k1 : Nat) (k2 : Nat) (H : Heap) (locs : List Loc) (ls : Array Slot) (w : Wo s D cy A G M H locs) (hl : lv_has ls 9 [(0, .ref r0), (2, .int i2), (3, .int i3), (4, .int i4), (5, .int i5), (6, .ref r6), (7, .int i7)]) (hk : OK (jn_X8_apart_105 G M  r0 i2 i3 i4 i5 r6 i7 k0 k1 k2) Qo) : W p l e rx_X8_apart s m args below meth c H locs 0 0 (vx_MQ below QF (XCx D cy G A x0.2) args s 1 6 A) (F0 m 105 ls [.int k0, .ref k1, .ref k2]) := by
    have hx := X.1.1
    have hb := X.1.2.1
    unfold jn_X8_apart_105 at hk
    refine lv_iload hx hb dX8_apart_105 (lv_at hl 3 rfl) ?_
    obtain ⟨c21, hk⟩ := ok_c hk
    obtain ⟨q19, e20, hk⟩ := ok_b hk
    refine zVv X w (n := 3) (As := [.ref k1, .int k0, .int i4]) (rest := []) (ci := 7) (C := RX7) (T := TX7) (N := 3) (c_X7_go l D cy G M k2 k1 k0 i4 e20) (gzV wm_X8_170 wi_X7_go ws_X7_go wn_X7 wc_X7_go) rfl rfl rfl (by decide +kernel) (by decide) rfl c21 rfl rfl hl.1 (Nat.le_of_ble_eq_true rfl) dX8_apart_107 ⟨Nat.zero_le _, Nat.zero_le _⟩ (fun H locs w => ?_)
    refine lv_aload_n hx hb dX8_apart_110 rfl (lv_at hl 0 rfl) ?_
    obtain ⟨c22, hk⟩ := ok_c hk
    obtain ⟨r23, e24, hk⟩ := ok_b hk
    refine zgr X w 8 9 66 (C := RX8) (T := TX8) (N := 10) rfl ui_X8 (by decide) rfl (tb wf_X8_66) dX8_apart_111 c22 e24 ?_
    refine lv_iload hx hb dX8_apart_114 (lv_at hl 6 rfl) ?_
    refine lv_if_eq (tgt := 131) hx hb dX8_apart_116 (by decide) (fun c25 => ?_) (fun c25 => ?_)
    · have hk := ok_p c25 hk
      refine lv_aload_n hx hb dX8_apart_131 rfl (lv_at hl 0 rfl) ?_
      obtain ⟨r26, e27, hk⟩ := ok_b hk
      refine zgr X w 8 6 45 (C := RX8) (T := TX8) (N := 10) rfl ui_X8 (by decide) rfl (tb wf_X8_45) dX8_apart_132 c22 e27 ?_
      refine lv_aload hx hb dX8_apart_135 (lv_at hl 5 rfl) ?_
      refine lv_iload_n hx hb dX8_apart_137 rfl (lv_at hl 1 rfl) ?_
      refine lv_iload_n hx hb dX8_apart_138 rfl (lv_at hl 2 rfl) ?_
      obtain ⟨c30, hk⟩ := ok_c hk
      obtain ⟨q28, e29, hk⟩ := ok_b hk
      refine zVl X w (n := 3) (As := [.ref r6, .int i2, .int i3]) (rest := [.ref r23]) (ci := 7) (C := RX7) (T := TX7) (N := 3) (c_X7_gap l D cy G q19 r26 r6 i2 i3 e29) (gzV wm_X8_197 wi_X7_gap ws_X7_gap wn_X7 wc_X7_gap) rfl rfl rfl (by decide +kernel) (by decide) rfl c30 rfl rfl hl.1 (Nat.le_of_ble_eq_true rfl) dX8_apart_139 ⟨Nat.zero_le _, Nat.zero_le _⟩ (fun H locs w => ?_)
      exact wjx_X8_apart_142 X M q19 _ hr hlk hR hq hz hst ht r0 i5 q28 r23 _ _ _ w (lv_sub hl [0, 4] rfl) hk
    · have hk := ok_n c25 hk
      refine lv_aload_n hx hb dX8_apart_119 rfl (lv_at hl 0 rfl) ?_
      obtain ⟨r43, e44, hk⟩ := ok_b hk
      refine zgr X w 8 6 45 (C := RX8) (T := TX8) (N := 10) rfl ui_X8 (by decide) rfl (tb wf_X8_45) dX8_apart_120 c22 e44 ?_
      refine lv_aload hx hb dX8_apart_123 (lv_at hl 5 rfl) ?_
      obtain ⟨c47, hk⟩ := ok_c hk
      obtain ⟨q45, e46, hk⟩ := ok_b hk
      refine zVl X w (n := 1) (As := [.ref r6]) (rest := [.ref r23]) (ci := 7) (C := RX7) (T := TX7) (N := 3) (c_X7_widestGap l D cy G q19 r43 r6 e46) (gzV wm_X8_193 wi_X7_widestGap ws_X7_widestGap wn_X7 wc_X7_widestGap) rfl rfl rfl (by decide +kernel) (by decide) rfl c47 rfl rfl hl.1 (Nat.le_of_ble_eq_true rfl) dX8_apart_125 ⟨Nat.zero_le _, Nat.zero_le _⟩ (fun H locs w => ?_)
      refine lv_goto (tgt := 142) hx hb dX8_apart_128 (by decide) ?_
      exact wjx_X8_apart_142 X M q19 _ hr hlk hR hq hz hst ht r0 i5 q45 r23 _ _ _ w (lv_sub hl [0, 4] rfl) hk
set_option maxHeartbeats 4000000 in
set_option maxRecDepth 100000 in
theorem wjx_X8_apart_79 {p : Program} {l : Launch} {e : Env} {s : State} {m : MethodId} {args : Array Value} {below : List Frame} {meth : Method} {c : Code} {D : va_G} {cy : Cyy} {A : Nat → Prop} {G : Gg} (X : Cx p m c cX8_apart 9 s args wz_X8_apart RX8 D cy) (M0 M : Mm) (Qo : (Option Int64) × Mm → Prop) (hr : meth.sig.returnType = (some .long)) (hlk : meth.locks = false) {x0 : (Option Int64) × Mm} (hR : ∀ x, Qo x → x = x0) (hq : x0.1 = none) (hz : ZQ A s) (hst : l.stackTraces = false) (ht : ∀ x ∈ c.exceptionTable.toList, False) (r0 : Nat) (i2 : Int32) (i3 : Int32) (i4 : Int32) (i5 : Int32) (r6 : Nat) (i7 : Int32)  (H : Heap) (locs : List Loc) (ls : Array Slot) (w : Wo s D cy A G M H locs) (hl : lv_has ls 9 [(0, .ref r0), (2, .int i2), (3, .int i3), (4, .int i4), (5, .int i5), (6, .ref r6), (7, .int i7)]) (hk : OK (jn_X8_apart_79 G M  r0 i2 i3 i4 i5 r6 i7) Qo) : W p l e rx_X8_apart s m args below meth c H locs 0 0 (vx_MQ below QF (XCx D cy G A x0.2) args s 1 6 A) (F0 m 79 ls []) := by
    have hx := X.1.1
    have hb := X.1.2.1
    unfold jn_X8_apart_79 at hk
    refine lv_aload_n hx hb dX8_apart_79 rfl (lv_at hl 0 rfl) ?_
    obtain ⟨c15, hk⟩ := ok_c hk
    obtain ⟨r16, e17, hk⟩ := ok_b hk
    refine zgr X w 8 6 45 (C := RX8) (T := TX8) (N := 10) rfl ui_X8 (by decide) rfl (tb wf_X8_45) dX8_apart_80 c15 e17 ?_
    refine lv_aload hx hb dX8_apart_83 (lv_at hl 5 rfl) ?_
    refine lv_iload hx hb dX8_apart_85 (lv_at hl 6 rfl) ?_
    refine lv_if_eq (tgt := 98) hx hb dX8_apart_87 (by decide) (fun c18 => ?_) (fun c18 => ?_)
    · have hk := ok_p c18 hk
      refine lv_iconst (v := 1) hx hb dX8_apart_98 (by decide) ?_
      refine lv_iload_n hx hb dX8_apart_99 rfl (lv_at hl 1 rfl) ?_
      refine lv_ishl hx hb dX8_apart_100 ?_
      refine lv_iconst (v := 1) hx hb dX8_apart_101 (by decide) ?_
      refine lv_iload_n hx hb dX8_apart_102 rfl (lv_at hl 2 rfl) ?_
      refine lv_ishl hx hb dX8_apart_103 ?_
      refine lv_ior hx hb dX8_apart_104 ?_
      exact wjx_X8_apart_105 X M M _ hr hlk hR hq hz hst ht r0 i2 i3 i4 i5 r6 i7 (((1 : Int32) <<< (i2 &&& 31)) ||| ((1 : Int32) <<< (i3 &&& 31))) r6 r16 _ _ _ w (lv_sub hl [0, 1, 2, 3, 4, 5, 6] rfl) hk
    · have hk := ok_n c18 hk
      refine lv_aload hx hb dX8_apart_90 (lv_at hl 5 rfl) ?_
      obtain ⟨c50, hk⟩ := ok_c hk
      obtain ⟨q48, e49, hk⟩ := ok_b hk
      refine zVi X w (n := 0) (As := []) (rest := [.ref r6, .ref r16]) (ci := 0) (C := RX0) (T := TX0) (N := 7) (c_X0_allStates l D cy G M r6 e49) (gzV wm_X8_190 wi_X0_allStates ws_X0_allStates wn_X0 wc_X0_allStates) rfl rfl rfl (by decide +kernel) (by decide) rfl c50 rfl rfl hl.1 (Nat.le_of_ble_eq_true rfl) dX8_apart_92 ⟨Nat.zero_le _, Nat.zero_le _⟩ (fun H locs w => ?_)
      refine lv_goto (tgt := 105) hx hb dX8_apart_95 (by decide) ?_
      exact wjx_X8_apart_105 X M M _ hr hlk hR hq hz hst ht r0 i2 i3 i4 i5 r6 i7 q48 r6 r16 _ _ _ w (lv_sub hl [0, 1, 2, 3, 4, 5, 6] rfl) hk
set_option maxHeartbeats 4000000 in
set_option maxRecDepth 100000 in
theorem wjx_X8_apart_49 {p : Program} {l : Launch} {e : Env} {s : State} {m : MethodId} {args : Array Value} {below : List Frame} {meth : Method} {c : Code} {D : va_G} {cy : Cyy} {A : Nat → Prop} {G : Gg} (X : Cx p m c cX8_apart 9 s args wz_X8_apart RX8 D cy) (M0 M : Mm) (Qo : (Option Int64) × Mm → Prop) (hr : meth.sig.returnType = (some .long)) (hlk : meth.locks = false) {x0 : (Option Int64) × Mm} (hR : ∀ x, Qo x → x = x0) (hq : x0.1 = none) (hz : ZQ A s) (hst : l.stackTraces = false) (ht : ∀ x ∈ c.exceptionTable.toList, False) (r0 : Nat) (i2 : Int32) (i3 : Int32) (i4 : Int32) (i5 : Int32) (r6 : Nat) (i7 : Int32) (k0 : Int32) (H : Heap) (locs : List Loc) (ls : Array Slot) (w : Wo s D cy A G M H locs) (hl : lv_has ls 9 [(0, .ref r0), (2, .int i2), (3, .int i3), (4, .int i4), (5, .int i5), (6, .ref r6), (7, .int i7)]) (hk : OK (jn_X8_apart_49 G M  r0 i2 i3 i4 i5 r6 i7 k0) Qo) : W p l e rx_X8_apart s m args below meth c H locs 0 0 (vx_MQ below QF (XCx D cy G A x0.2) args s 1 6 A) (F0 m 49 ls [.int k0]) := by
    have hx := X.1.1
    have hb := X.1.2.1
    unfold jn_X8_apart_49 at hk
    refine lv_istore (lv' := [(8, .int k0), (0, .ref r0), (2, .int i2), (3, .int i3), (4, .int i4), (5, .int i5), (6, .ref r6), (7, .int i7)]) hx hb dX8_apart_49 hl (by decide) rfl (fun ls hl => ?_)
    refine lv_aload hx hb dX8_apart_51 (lv_at hl 6 rfl) ?_
    refine lv_iload hx hb dX8_apart_53 (lv_at hl 4 rfl) ?_
    obtain ⟨c12, hk⟩ := ok_c hk
    obtain ⟨q10, e11, hk⟩ := ok_b hk
    refine zVi X w (n := 1) (As := [.int i4]) (rest := []) (ci := 0) (C := RX0) (T := TX0) (N := 7) (c_X0_isTime l D cy G M r6 i4 e11) (gzV wm_X8_167 wi_X0_isTime ws_X0_isTime wn_X0 wc_X0_isTime) rfl rfl rfl (by decide +kernel) (by decide) rfl c12 rfl rfl hl.1 (Nat.le_of_ble_eq_true rfl) dX8_apart_55 ⟨Nat.zero_le _, Nat.zero_le _⟩ (fun H locs w => ?_)
    refine lv_if_eq (tgt := 71) hx hb dX8_apart_58 (by decide) (fun c13 => ?_) (fun c13 => ?_)
    · have hk := ok_p c13 hk
      have hk := hR _ (ok_s hk)
      exact zthrow X hlk hz hst ht w hl.1 dX8_apart_71 dX8_apart_74 dX8_apart_75 dX8_apart_78 (by decide) (Nat.le_of_ble_eq_true rfl) (by decide) (by decide) (pr2 hk)
    · have hk := ok_n c13 hk
      refine lv_iload hx hb dX8_apart_61 (lv_at hl 7 rfl) ?_
      refine lv_if_ne (tgt := 79) hx hb dX8_apart_63 (by decide) (fun c14 => ?_) (fun c14 => ?_)
      · have hk := ok_n c14 hk
        exact wjx_X8_apart_79 X M M _ hr hlk hR hq hz hst ht r0 i2 i3 i4 i5 r6 i7 _ _ _ w (lv_sub hl [1, 2, 3, 4, 5, 6, 7] rfl) hk
      · have hk := ok_p c14 hk
        refine lv_iload hx hb dX8_apart_66 (lv_at hl 0 rfl) ?_
        refine lv_if_ne (tgt := 79) hx hb dX8_apart_68 (by decide) (fun c51 => ?_) (fun c51 => ?_)
        · have hk := ok_n c51 hk
          exact wjx_X8_apart_79 X M M _ hr hlk hR hq hz hst ht r0 i2 i3 i4 i5 r6 i7 _ _ _ w (lv_sub hl [1, 2, 3, 4, 5, 6, 7] rfl) hk
        · have hk := ok_p c51 hk
          have hk := hR _ (ok_s hk)
          exact zthrow X hlk hz hst ht w hl.1 dX8_apart_71 dX8_apart_74 dX8_apart_75 dX8_apart_78 (by decide) (Nat.le_of_ble_eq_true rfl) (by decide) (by decide) (pr2 hk)
set_option maxHeartbeats 4000000 in
set_option maxRecDepth 100000 in
theorem wjx_X8_apart_48 {p : Program} {l : Launch} {e : Env} {s : State} {m : MethodId} {args : Array Value} {below : List Frame} {meth : Method} {c : Code} {D : va_G} {cy : Cyy} {A : Nat → Prop} {G : Gg} (X : Cx p m c cX8_apart 9 s args wz_X8_apart RX8 D cy) (M0 M : Mm) (Qo : (Option Int64) × Mm → Prop) (hr : meth.sig.returnType = (some .long)) (hlk : meth.locks = false) {x0 : (Option Int64) × Mm} (hR : ∀ x, Qo x → x = x0) (hq : x0.1 = none) (hz : ZQ A s) (hst : l.stackTraces = false) (ht : ∀ x ∈ c.exceptionTable.toList, False) (r0 : Nat) (i2 : Int32) (i3 : Int32) (i4 : Int32) (i5 : Int32) (r6 : Nat) (i7 : Int32)  (H : Heap) (locs : List Loc) (ls : Array Slot) (w : Wo s D cy A G M H locs) (hl : lv_has ls 9 [(0, .ref r0), (2, .int i2), (3, .int i3), (4, .int i4), (5, .int i5), (6, .ref r6), (7, .int i7)]) (hk : OK (jn_X8_apart_48 G M  r0 i2 i3 i4 i5 r6 i7) Qo) : W p l e rx_X8_apart s m args below meth c H locs 0 0 (vx_MQ below QF (XCx D cy G A x0.2) args s 1 6 A) (F0 m 48 ls []) := by
    have hx := X.1.1
    have hb := X.1.2.1
    unfold jn_X8_apart_48 at hk
    refine lv_iconst (v := 0) hx hb dX8_apart_48 (by decide) ?_
    exact wjx_X8_apart_49 X M M _ hr hlk hR hq hz hst ht r0 i2 i3 i4 i5 r6 i7 (0 : Int32) _ _ _ w (lv_sub hl [0, 1, 2, 3, 4, 5, 6] rfl) hk
set_option maxHeartbeats 4000000 in
set_option maxRecDepth 100000 in
theorem wjx_X8_apart_24 {p : Program} {l : Launch} {e : Env} {s : State} {m : MethodId} {args : Array Value} {below : List Frame} {meth : Method} {c : Code} {D : va_G} {cy : Cyy} {A : Nat → Prop} {G : Gg} (X : Cx p m c cX8_apart 9 s args wz_X8_apart RX8 D cy) (M0 M : Mm) (Qo : (Option Int64) × Mm → Prop) (hr : meth.sig.returnType = (some .long)) (hlk : meth.locks = false) {x0 : (Option Int64) × Mm} (hR : ∀ x, Qo x → x = x0) (hq : x0.1 = none) (hz : ZQ A s) (hst : l.stackTraces = false) (ht : ∀ x ∈ c.exceptionTable.toList, False) (r0 : Nat) (i2 : Int32) (i3 : Int32) (i4 : Int32) (i5 : Int32) (r6 : Nat) (k0 : Int32) (H : Heap) (locs : List Loc) (ls : Array Slot) (w : Wo s D cy A G M H locs) (hl : lv_has ls 9 [(0, .ref r0), (2, .int i2), (3, .int i3), (4, .int i4), (5, .int i5), (6, .ref r6)]) (hk : OK (jn_X8_apart_24 G M  r0 i2 i3 i4 i5 r6 k0) Qo) : W p l e rx_X8_apart s m args below meth c H locs 0 0 (vx_MQ below QF (XCx D cy G A x0.2) args s 1 6 A) (F0 m 24 ls [.int k0]) := by
    have hx := X.1.1
    have hb := X.1.2.1
    unfold jn_X8_apart_24 at hk
    refine lv_istore (lv' := [(7, .int k0), (0, .ref r0), (2, .int i2), (3, .int i3), (4, .int i4), (5, .int i5), (6, .ref r6)]) hx hb dX8_apart_24 hl (by decide) rfl (fun ls hl => ?_)
    refine lv_aload hx hb dX8_apart_26 (lv_at hl 6 rfl) ?_
    refine lv_iload_n hx hb dX8_apart_28 rfl (lv_at hl 2 rfl) ?_
    obtain ⟨c8, hk⟩ := ok_c hk
    obtain ⟨q6, e7, hk⟩ := ok_b hk
    refine zVi X w (n := 1) (As := [.int i2]) (rest := []) (ci := 0) (C := RX0) (T := TX0) (N := 7) (c_X0_isState l D cy G M r6 i2 e7) (gzV wm_X8_151 wi_X0_isState ws_X0_isState wn_X0 wc_X0_isState) rfl rfl rfl (by decide +kernel) (by decide) rfl c8 rfl rfl hl.1 (Nat.le_of_ble_eq_true rfl) dX8_apart_29 ⟨Nat.zero_le _, Nat.zero_le _⟩ (fun H locs w => ?_)
    refine lv_if_eq (tgt := 48) hx hb dX8_apart_32 (by decide) (fun c9 => ?_) (fun c9 => ?_)
    · have hk := ok_p c9 hk
      exact wjx_X8_apart_48 X M M _ hr hlk hR hq hz hst ht r0 i2 i3 i4 i5 r6 k0 _ _ _ w (lv_sub hl [1, 2, 3, 4, 5, 6, 0] rfl) hk
    · have hk := ok_n c9 hk
      refine lv_aload hx hb dX8_apart_35 (lv_at hl 6 rfl) ?_
      refine lv_iload_n hx hb dX8_apart_37 rfl (lv_at hl 3 rfl) ?_
      obtain ⟨q52, e53, hk⟩ := ok_b hk
      refine zVi X w (n := 1) (As := [.int i3]) (rest := []) (ci := 0) (C := RX0) (T := TX0) (N := 7) (c_X0_isState l D cy G M r6 i3 e53) (gzV wm_X8_151 wi_X0_isState ws_X0_isState wn_X0 wc_X0_isState) rfl rfl rfl (by decide +kernel) (by decide) rfl c8 rfl rfl hl.1 (Nat.le_of_ble_eq_true rfl) dX8_apart_38 ⟨Nat.zero_le _, Nat.zero_le _⟩ (fun H locs w => ?_)
      refine lv_if_eq (tgt := 48) hx hb dX8_apart_41 (by decide) (fun c54 => ?_) (fun c54 => ?_)
      · have hk := ok_p c54 hk
        exact wjx_X8_apart_48 X M M _ hr hlk hR hq hz hst ht r0 i2 i3 i4 i5 r6 k0 _ _ _ w (lv_sub hl [1, 2, 3, 4, 5, 6, 0] rfl) hk
      · have hk := ok_n c54 hk
        refine lv_iconst (v := 1) hx hb dX8_apart_44 (by decide) ?_
        refine lv_goto (tgt := 49) hx hb dX8_apart_45 (by decide) ?_
        exact wjx_X8_apart_49 X M M _ hr hlk hR hq hz hst ht r0 i2 i3 i4 i5 r6 k0 (1 : Int32) _ _ _ w (lv_sub hl [1, 2, 3, 4, 5, 6, 0] rfl) hk
set_option maxHeartbeats 4000000 in
set_option maxRecDepth 100000 in
theorem wjx_X8_apart_23 {p : Program} {l : Launch} {e : Env} {s : State} {m : MethodId} {args : Array Value} {below : List Frame} {meth : Method} {c : Code} {D : va_G} {cy : Cyy} {A : Nat → Prop} {G : Gg} (X : Cx p m c cX8_apart 9 s args wz_X8_apart RX8 D cy) (M0 M : Mm) (Qo : (Option Int64) × Mm → Prop) (hr : meth.sig.returnType = (some .long)) (hlk : meth.locks = false) {x0 : (Option Int64) × Mm} (hR : ∀ x, Qo x → x = x0) (hq : x0.1 = none) (hz : ZQ A s) (hst : l.stackTraces = false) (ht : ∀ x ∈ c.exceptionTable.toList, False) (r0 : Nat) (i2 : Int32) (i3 : Int32) (i4 : Int32) (i5 : Int32) (r6 : Nat)  (H : Heap) (locs : List Loc) (ls : Array Slot) (w : Wo s D cy A G M H locs) (hl : lv_has ls 9 [(0, .ref r0), (2, .int i2), (3, .int i3), (4, .int i4), (5, .int i5), (6, .ref r6)]) (hk : OK (jn_X8_apart_23 G M  r0 i2 i3 i4 i5 r6) Qo) : W p l e rx_X8_apart s m args below meth c H locs 0 0 (vx_MQ below QF (XCx D cy G A x0.2) args s 1 6 A) (F0 m 23 ls []) := by
    have hx := X.1.1
    have hb := X.1.2.1
    unfold jn_X8_apart_23 at hk
    refine lv_iconst (v := 0) hx hb dX8_apart_23 (by decide) ?_
    exact wjx_X8_apart_24 X M M _ hr hlk hR hq hz hst ht r0 i2 i3 i4 i5 r6 (0 : Int32) _ _ _ w (lv_sub hl [0, 1, 2, 3, 4, 5] rfl) hk
set_option maxHeartbeats 4000000 in
set_option maxRecDepth 100000 in
theorem x_X8_apart (l : Launch) (hst : l.stackTraces = false) (D : va_G) (cy : Cyy) (G : Gg) (M : Mm) (r0 : Nat) (i1 : Int32) (i2 : Int32) (i3 : Int32) (i4 : Int32) (i5 : Int32) {q : (Option Int64) × Mm} (hm : f_X8_apart G M r0 i1 i2 i3 i4 i5 = some q) (hq : q.1 = none) : XT l yX8_apart wz_X8_apart rx_X8_apart D cy G M [.ref r0, .int i1, .int i2, .int i3, .int i4, .int i5] q.2 := by
  refine XT_of (cc := cX8_apart) (nL := 9) (ret := (some .long)) (own := RX8) (lv := [(0, .ref r0), (1, .int i1), (2, .int i2), (3, .int i3), (4, .int i4), (5, .int i5)]) (by decide) rfl rfl (Nat.le_of_ble_eq_true rfl) rfl ?_
  intro p e s m args below meth c A ls X hr hlk hz ht w hl
  have hx := X.1.1
  have hb := X.1.2.1
  obtain ⟨Qo, hR, hk⟩ : ∃ Qo : (Option Int64) × Mm → Prop, (∀ x, Qo x → x = q) ∧ OK (f_X8_apart G M r0 i1 i2 i3 i4 i5) Qo := ⟨fun x => x = q, fun _ h => h, q, hm, rfl⟩
  unfold f_X8_apart at hk
  refine lv_aload_n hx hb dX8_apart_0 rfl (lv_at hl 0 rfl) ?_
  refine lv_iload_n hx hb dX8_apart_1 rfl (lv_at hl 1 rfl) ?_
  refine lv_iload hx hb dX8_apart_2 (lv_at hl 5 rfl) ?_
  obtain ⟨c3, hk⟩ := ok_c hk
  obtain ⟨q1, e2, hk⟩ := ok_b hk
  rcases q1 with _ | r4
  · have hk := hR _ (ok_s (ok_e0 hk))
    exact zVx X hlk hz ht w (n := 2) (As := [.int i1, .int i5]) (rest := []) (ci := 8) (C := RX8) (T := TX8) (N := 10) (x_X8_neededChain l hst D cy G M r0 i1 i5 e2 rfl) (gzV wm_X8_163 wi_X8_neededChain ws_X8_neededChain wn_X8 wc_X8_neededChain) rfl rfl rfl (by decide +kernel) (by decide) rfl c3 rfl rfl hl.1 (Nat.le_of_ble_eq_true rfl) dX8_apart_4 (by decide) (pr2 hk)
  · have hk := ok_e1 hk
    refine zVp X w (n := 2) (As := [.int i1, .int i5]) (rest := []) (ci := 8) (C := RX8) (T := TX8) (N := 10) (c_X8_neededChain l D cy G M r0 i1 i5 e2 rfl) (gzV wm_X8_163 wi_X8_neededChain ws_X8_neededChain wn_X8 wc_X8_neededChain) rfl rfl rfl (by decide +kernel) (by decide) rfl c3 rfl rfl hl.1 (Nat.le_of_ble_eq_true rfl) dX8_apart_4 ⟨Nat.zero_le _, Nat.zero_le _⟩ (fun H locs w => ?_)
    refine lv_astore (lv' := [(6, .ref r4), (0, .ref r0), (1, .int i1), (2, .int i2), (3, .int i3), (4, .int i4), (5, .int i5)]) hx hb dX8_apart_7 hl (by decide) rfl (fun ls hl => ?_)
    refine lv_iload_n hx hb dX8_apart_9 rfl (lv_at hl 3 rfl) ?_
    refine lv_iconst (v := (-1)) hx hb dX8_apart_10 (by decide) ?_
    refine lv_icmp_ne (tgt := 23) hx hb dX8_apart_11 (by decide) (fun c5 => ?_) (fun c5 => ?_)
    · have hk := ok_n c5 hk
      exact wjx_X8_apart_23 X M M _ hr hlk hR hq hz hst ht r0 i2 i3 i4 i5 r4 _ _ _ w (lv_sub hl [1, 3, 4, 5, 6, 0] rfl) hk
    · have hk := ok_p c5 hk
      refine lv_iload_n hx hb dX8_apart_14 rfl (lv_at hl 4 rfl) ?_
      refine lv_iconst (v := (-1)) hx hb dX8_apart_15 (by decide) ?_
      refine lv_icmp_ne (tgt := 23) hx hb dX8_apart_16 (by decide) (fun c55 => ?_) (fun c55 => ?_)
      · have hk := ok_n c55 hk
        exact wjx_X8_apart_23 X M M _ hr hlk hR hq hz hst ht r0 i2 i3 i4 i5 r4 _ _ _ w (lv_sub hl [1, 3, 4, 5, 6, 0] rfl) hk
      · have hk := ok_p c55 hk
        refine lv_iconst (v := 1) hx hb dX8_apart_19 (by decide) ?_
        refine lv_goto (tgt := 24) hx hb dX8_apart_20 (by decide) ?_
        exact wjx_X8_apart_24 X M M _ hr hlk hR hq hz hst ht r0 i2 i3 i4 i5 r4 (1 : Int32) _ _ _ w (lv_sub hl [1, 3, 4, 5, 6, 0] rfl) hk
abbrev rm_X8_when : Room := { frames := 4, cells := 0, slots := 0, locals := 116 }
set_option maxHeartbeats 4000000 in
set_option maxRecDepth 100000 in
theorem c_X8_when (l : Launch) (D : va_G) (cy : Cyy) (G : Gg) (M : Mm) (r0 : Nat) (i1 : Int32) (i2 : Int32) (i3 : Int32) {q : Int32 × Mm} (hm : f_X8_when G M r0 i1 i2 i3 = some q) : CI l yX8_when wz_X8_when rm_X8_when D cy G M [.ref r0, .int i1, .int i2, .int i3] q.1 q.2 := by
  refine Met_of (Qf := fun A => QI D cy G A q.1 q.2) (cc := cX8_when) (nL := 5) (ret := (some .int)) (own := RX8) (lv := [(0, .ref r0), (1, .int i1), (2, .int i2), (3, .int i3)]) (by decide) rfl rfl (Nat.le_of_ble_eq_true rfl) rfl ?_
  intro p e s m args below meth c A ls X hr hlk w hl
  have hx := X.1.1
  have hb := X.1.2.1
  obtain ⟨Qo, hR, hk⟩ : ∃ Qo : Int32 × Mm → Prop, (∀ x, Qo x → x = q) ∧ OK (f_X8_when G M r0 i1 i2 i3) Qo := ⟨fun x => x = q, fun _ h => h, q, hm, rfl⟩
  unfold f_X8_when at hk
  refine lv_aload_n hx hb dX8_when_0 rfl (lv_at hl 0 rfl) ?_
  refine lv_iload_n hx hb dX8_when_1 rfl (lv_at hl 1 rfl) ?_
  obtain ⟨c3, hk⟩ := ok_c hk
  obtain ⟨q1, e2, hk⟩ := ok_b hk
  refine zVp X w (n := 1) (As := [.int i1]) (rest := []) (ci := 8) (C := RX8) (T := TX8) (N := 10) (c_X8_chainIn l D cy G M r0 i1 e2) (gzV wm_X8_95 wi_X8_chainIn ws_X8_chainIn wn_X8 wc_X8_chainIn) rfl rfl rfl (by decide +kernel) (by decide) rfl c3 rfl rfl hl.1 (Nat.le_of_ble_eq_true rfl) dX8_when_2 ⟨Nat.zero_le _, Nat.zero_le _⟩ (fun H locs w => ?_)
  rcases q1 with _ | r4
  · have hk := ok_e0 hk
    refine lv_astoreN (lv' := [(4, .null), (0, .ref r0), (1, .int i1), (2, .int i2), (3, .int i3)]) hx hb dX8_when_5 hl (by decide) rfl (fun ls hl => ?_)
    refine lv_aloadN hx hb dX8_when_7 (lv_at hl 0 rfl) ?_
    refine lv_ifnullN (tgt := 33) hx hb dX8_when_9 (by decide) ?_
    refine lv_iconst (v := (-1)) hx hb dX8_when_33 (by decide) ?_
    have hk := hR _ (ok_s hk)
    exact zri X hr hlk w dX8_when_34 (pr1 hk) (pr2 hk)
  · have hk := ok_e1 hk
    refine lv_astore (lv' := [(4, .ref r4), (0, .ref r0), (1, .int i1), (2, .int i2), (3, .int i3)]) hx hb dX8_when_5 hl (by decide) rfl (fun ls hl => ?_)
    refine lv_aload hx hb dX8_when_7 (lv_at hl 0 rfl) ?_
    refine lv_ifnull hx hb dX8_when_9 ?_
    refine lv_iload_n hx hb dX8_when_12 rfl (lv_at hl 3 rfl) ?_
    refine lv_if_lt (tgt := 33) hx hb dX8_when_13 (by decide) (fun c5 => ?_) (fun c5 => ?_)
    · have hk := ok_p c5 hk
      refine lv_iconst (v := (-1)) hx hb dX8_when_33 (by decide) ?_
      have hk := hR _ (ok_s hk)
      exact zri X hr hlk w dX8_when_34 (pr1 hk) (pr2 hk)
    · have hk := ok_n c5 hk
      refine lv_iload_n hx hb dX8_when_16 rfl (lv_at hl 3 rfl) ?_
      refine lv_iload_n hx hb dX8_when_17 rfl (lv_at hl 4 rfl) ?_
      refine lv_icmp_gt (tgt := 33) hx hb dX8_when_18 (by decide) (fun c6 => ?_) (fun c6 => ?_)
      · have hk := ok_p c6 hk
        refine lv_iconst (v := (-1)) hx hb dX8_when_33 (by decide) ?_
        have hk := hR _ (ok_s hk)
        exact zri X hr hlk w dX8_when_34 (pr1 hk) (pr2 hk)
      · have hk := ok_n c6 hk
        refine lv_iload_n hx hb dX8_when_21 rfl (lv_at hl 4 rfl) ?_
        refine lv_iconst (v := 1) hx hb dX8_when_22 (by decide) ?_
        refine lv_icmp_lt (tgt := 33) hx hb dX8_when_23 (by decide) (fun c7 => ?_) (fun c7 => ?_)
        · have hk := ok_p c7 hk
          refine lv_iconst (v := (-1)) hx hb dX8_when_33 (by decide) ?_
          have hk := hR _ (ok_s hk)
          exact zri X hr hlk w dX8_when_34 (pr1 hk) (pr2 hk)
        · have hk := ok_n c7 hk
          refine lv_iload_n hx hb dX8_when_26 rfl (lv_at hl 4 rfl) ?_
          refine lv_sipush (v := 1000) hx hb dX8_when_27 (by decide) ?_
          refine lv_icmp_le (tgt := 35) hx hb dX8_when_30 (by decide) (fun c8 => ?_) (fun c8 => ?_)
          · have hk := ok_p c8 hk
            refine lv_aload_n hx hb dX8_when_35 rfl (lv_at hl 1 rfl) ?_
            obtain ⟨r9, e10, hk⟩ := ok_b hk
            refine zgr X w 8 6 45 (C := RX8) (T := TX8) (N := 10) rfl ui_X8 (by decide) rfl (tb wf_X8_45) dX8_when_36 c3 e10 ?_
            refine lv_aload hx hb dX8_when_39 (lv_at hl 0 rfl) ?_
            refine lv_iload_n hx hb dX8_when_41 rfl (lv_at hl 3 rfl) ?_
            refine lv_iload_n hx hb dX8_when_42 rfl (lv_at hl 4 rfl) ?_
            obtain ⟨c13, hk⟩ := ok_c hk
            obtain ⟨q11, e12, hk⟩ := ok_b hk
            refine zVi X w (n := 3) (As := [.ref r4, .int i2, .int i3]) (rest := []) (ci := 7) (C := RX7) (T := TX7) (N := 3) (c_X7_firstNear l D cy G M r9 r4 i2 i3 e12) (gzV wm_X8_203 wi_X7_firstNear ws_X7_firstNear wn_X7 wc_X7_firstNear) rfl rfl rfl (by decide +kernel) (by decide) rfl c13 rfl rfl hl.1 (Nat.le_of_ble_eq_true rfl) dX8_when_43 ⟨Nat.zero_le _, Nat.zero_le _⟩ (fun H locs w => ?_)
            have hk := hR _ (ok_s hk)
            exact zri X hr hlk w dX8_when_46 (pr1 hk) (pr2 hk)
          · have hk := ok_n c8 hk
            refine lv_iconst (v := (-1)) hx hb dX8_when_33 (by decide) ?_
            have hk := hR _ (ok_s hk)
            exact zri X hr hlk w dX8_when_34 (pr1 hk) (pr2 hk)
abbrev rm_X8_stay : Room := { frames := 7, cells := 0, slots := 0, locals := 104 }
abbrev rx_X8_stay : Room := { frames := 7, cells := 1, slots := 6, locals := 104 }
set_option maxHeartbeats 4000000 in
set_option maxRecDepth 100000 in
theorem c_X8_stay (l : Launch) (D : va_G) (cy : Cyy) (G : Gg) (M : Mm) (r0 : Nat) (i1 : Int32) (i2 : Int32) (i3 : Int32) {q : (Option Int64) × Mm} (hm : f_X8_stay G M r0 i1 i2 i3 = some q) {r : Int64} (hq : q.1 = some r) : CL l yX8_stay wz_X8_stay rm_X8_stay D cy G M [.ref r0, .int i1, .int i2, .int i3] r q.2 := by
  refine Met_of (Qf := fun A => QL D cy G A r q.2) (cc := cX8_stay) (nL := 5) (ret := (some .long)) (own := RX8) (lv := [(0, .ref r0), (1, .int i1), (2, .int i2), (3, .int i3)]) (by decide) rfl rfl (Nat.le_of_ble_eq_true rfl) rfl ?_
  intro p e s m args below meth c A ls X hr hlk w hl
  have hx := X.1.1
  have hb := X.1.2.1
  obtain ⟨Qo, hR, hk⟩ : ∃ Qo : (Option Int64) × Mm → Prop, (∀ x, Qo x → x = q) ∧ OK (f_X8_stay G M r0 i1 i2 i3) Qo := ⟨fun x => x = q, fun _ h => h, q, hm, rfl⟩
  unfold f_X8_stay at hk
  refine lv_aload_n hx hb dX8_stay_0 rfl (lv_at hl 0 rfl) ?_
  refine lv_iload_n hx hb dX8_stay_1 rfl (lv_at hl 1 rfl) ?_
  refine lv_iload_n hx hb dX8_stay_2 rfl (lv_at hl 3 rfl) ?_
  obtain ⟨c3, hk⟩ := ok_c hk
  obtain ⟨q1, e2, hk⟩ := ok_b hk
  rcases q1 with _ | r4
  · have hk := hR _ (ok_s (ok_e0 hk))
    exact absurd ((pr1 hk).trans hq) (fun h => by cases h)
  · have hk := ok_e1 hk
    refine zVp X w (n := 2) (As := [.int i1, .int i3]) (rest := []) (ci := 8) (C := RX8) (T := TX8) (N := 10) (c_X8_neededChain l D cy G M r0 i1 i3 e2 rfl) (gzV wm_X8_163 wi_X8_neededChain ws_X8_neededChain wn_X8 wc_X8_neededChain) rfl rfl rfl (by decide +kernel) (by decide) rfl c3 rfl rfl hl.1 (Nat.le_of_ble_eq_true rfl) dX8_stay_3 ⟨Nat.zero_le _, Nat.zero_le _⟩ (fun H locs w => ?_)
    refine lv_astore (lv' := [(4, .ref r4), (0, .ref r0), (1, .int i1), (2, .int i2), (3, .int i3)]) hx hb dX8_stay_6 hl (by decide) rfl (fun ls hl => ?_)
    refine lv_aload hx hb dX8_stay_8 (lv_at hl 0 rfl) ?_
    refine lv_iload_n hx hb dX8_stay_10 rfl (lv_at hl 3 rfl) ?_
    obtain ⟨c7, hk⟩ := ok_c hk
    obtain ⟨q5, e6, hk⟩ := ok_b hk
    refine zVi X w (n := 1) (As := [.int i2]) (rest := []) (ci := 0) (C := RX0) (T := TX0) (N := 7) (c_X0_isState l D cy G M r4 i2 e6) (gzV wm_X8_151 wi_X0_isState ws_X0_isState wn_X0 wc_X0_isState) rfl rfl rfl (by decide +kernel) (by decide) rfl c7 rfl rfl hl.1 (Nat.le_of_ble_eq_true rfl) dX8_stay_11 ⟨Nat.zero_le _, Nat.zero_le _⟩ (fun H locs w => ?_)
    refine lv_if_eq (tgt := 27) hx hb dX8_stay_14 (by decide) (fun c8 => ?_) (fun c8 => ?_)
    · have hk := ok_p c8 hk
      have hk := hR _ (ok_s hk)
      exact absurd ((pr1 hk).trans hq) (fun h => by cases h)
    · have hk := ok_n c8 hk
      refine lv_aload hx hb dX8_stay_17 (lv_at hl 0 rfl) ?_
      refine zgNl X w 0 6 207 "BlendBench" (C := RX0) (T := TX0) (N := 7) rfl ui_X0 (by decide) rfl (by decide +kernel) dX8_stay_19 c7 ?_
      refine lv_lconst (v := 0) hx hb dX8_stay_22 (by decide) ?_
      refine W.lcmp hx hb dX8_stay_23 ?_
      refine lv_if_ne (tgt := 35) hx hb dX8_stay_24 (by decide) (fun c9 => ?_) (fun c9 => ?_)
      · have hk := ok_n c9 hk
        refine lv_aload_n hx hb dX8_stay_35 rfl (lv_at hl 1 rfl) ?_
        obtain ⟨r10, e11, hk⟩ := ok_b hk
        refine zgr X w 8 9 66 (C := RX8) (T := TX8) (N := 10) rfl ui_X8 (by decide) rfl (tb wf_X8_66) dX8_stay_36 c3 e11 ?_
        refine lv_aload hx hb dX8_stay_39 (lv_at hl 0 rfl) ?_
        obtain ⟨r12, e13, hk⟩ := ok_b hk
        refine zgNr X w 0 5 210 "BlendBench" (C := RX0) (T := TX0) (N := 7) rfl ui_X0 (by decide) rfl (by decide +kernel) dX8_stay_41 c7 e13 ?_
        refine lv_iload_n hx hb dX8_stay_44 rfl (lv_at hl 3 rfl) ?_
        obtain ⟨c14, hk⟩ := ok_c hk
        obtain ⟨c15, hk⟩ := ok_c hk
        refine zal X w dX8_stay_45 c14 c15 ?_
        refine lv_aload hx hb dX8_stay_46 (lv_at hl 0 rfl) ?_
        refine zgNl X w 0 6 207 "BlendBench" (C := RX0) (T := TX0) (N := 7) rfl ui_X0 (by decide) rfl (by decide +kernel) dX8_stay_48 c7 ?_
        obtain ⟨c18, hk⟩ := ok_c hk
        obtain ⟨q16, e17, hk⟩ := ok_b hk
        refine zVv X w (n := 2) (As := [.long (M.2.1 r12 (Int32.toNatClampNeg i2)), .long (M.2.1 r4 6)]) (rest := []) (ci := 1) (C := RX1) (T := TX1) (N := 2) (c_X1_put l D cy G M r10 (M.2.1 r12 (Int32.toNatClampNeg i2)) (M.2.1 r4 6) e17) (gzV wm_X8_182 wi_X1_put ws_X1_put wn_X1 wc_X1_put) rfl rfl rfl (by decide +kernel) (by decide) rfl c18 rfl rfl hl.1 (Nat.le_of_ble_eq_true rfl) dX8_stay_51 ⟨Nat.zero_le _, Nat.zero_le _⟩ (fun H locs w => ?_)
        refine lv_aload_n hx hb dX8_stay_54 rfl (lv_at hl 1 rfl) ?_
        obtain ⟨r19, e20, hk⟩ := ok_b hk
        refine zgr X w 8 9 66 (C := RX8) (T := TX8) (N := 10) rfl ui_X8 (by decide) rfl (tb wf_X8_66) dX8_stay_55 c3 e20 ?_
        refine lv_iload_n hx hb dX8_stay_58 rfl (lv_at hl 4 rfl) ?_
        obtain ⟨c23, hk⟩ := ok_c hk
        obtain ⟨q21, e22, hk⟩ := ok_b hk
        refine zVl X w (n := 1) (As := [.int i3]) (rest := []) (ci := 1) (C := RX1) (T := TX1) (N := 2) (c_X1_told l D cy G q16 r19 i3 e22) (gzV wm_X8_186 wi_X1_told ws_X1_told wn_X1 wc_X1_told) rfl rfl rfl (by decide +kernel) (by decide) rfl c23 rfl rfl hl.1 (Nat.le_of_ble_eq_true rfl) dX8_stay_59 ⟨Nat.zero_le _, Nat.zero_le _⟩ (fun H locs w => ?_)
        have hk := hR _ (ok_s hk)
        exact zrl X hr hlk w dX8_stay_62 (Option.some.inj ((pr1 hk).trans hq)) (pr2 hk)
      · have hk := ok_p c9 hk
        have hk := hR _ (ok_s hk)
        exact absurd ((pr1 hk).trans hq) (fun h => by cases h)
set_option maxHeartbeats 4000000 in
set_option maxRecDepth 100000 in
theorem x_X8_stay (l : Launch) (hst : l.stackTraces = false) (D : va_G) (cy : Cyy) (G : Gg) (M : Mm) (r0 : Nat) (i1 : Int32) (i2 : Int32) (i3 : Int32) {q : (Option Int64) × Mm} (hm : f_X8_stay G M r0 i1 i2 i3 = some q) (hq : q.1 = none) : XT l yX8_stay wz_X8_stay rx_X8_stay D cy G M [.ref r0, .int i1, .int i2, .int i3] q.2 := by
  refine XT_of (cc := cX8_stay) (nL := 5) (ret := (some .long)) (own := RX8) (lv := [(0, .ref r0), (1, .int i1), (2, .int i2), (3, .int i3)]) (by decide) rfl rfl (Nat.le_of_ble_eq_true rfl) rfl ?_
  intro p e s m args below meth c A ls X hr hlk hz ht w hl
  have hx := X.1.1
  have hb := X.1.2.1
  obtain ⟨Qo, hR, hk⟩ : ∃ Qo : (Option Int64) × Mm → Prop, (∀ x, Qo x → x = q) ∧ OK (f_X8_stay G M r0 i1 i2 i3) Qo := ⟨fun x => x = q, fun _ h => h, q, hm, rfl⟩
  unfold f_X8_stay at hk
  refine lv_aload_n hx hb dX8_stay_0 rfl (lv_at hl 0 rfl) ?_
  refine lv_iload_n hx hb dX8_stay_1 rfl (lv_at hl 1 rfl) ?_
  refine lv_iload_n hx hb dX8_stay_2 rfl (lv_at hl 3 rfl) ?_
  obtain ⟨c3, hk⟩ := ok_c hk
  obtain ⟨q1, e2, hk⟩ := ok_b hk
  rcases q1 with _ | r4
  · have hk := hR _ (ok_s (ok_e0 hk))
    exact zVx X hlk hz ht w (n := 2) (As := [.int i1, .int i3]) (rest := []) (ci := 8) (C := RX8) (T := TX8) (N := 10) (x_X8_neededChain l hst D cy G M r0 i1 i3 e2 rfl) (gzV wm_X8_163 wi_X8_neededChain ws_X8_neededChain wn_X8 wc_X8_neededChain) rfl rfl rfl (by decide +kernel) (by decide) rfl c3 rfl rfl hl.1 (Nat.le_of_ble_eq_true rfl) dX8_stay_3 (by decide) (pr2 hk)
  · have hk := ok_e1 hk
    refine zVp X w (n := 2) (As := [.int i1, .int i3]) (rest := []) (ci := 8) (C := RX8) (T := TX8) (N := 10) (c_X8_neededChain l D cy G M r0 i1 i3 e2 rfl) (gzV wm_X8_163 wi_X8_neededChain ws_X8_neededChain wn_X8 wc_X8_neededChain) rfl rfl rfl (by decide +kernel) (by decide) rfl c3 rfl rfl hl.1 (Nat.le_of_ble_eq_true rfl) dX8_stay_3 ⟨Nat.zero_le _, Nat.zero_le _⟩ (fun H locs w => ?_)
    refine lv_astore (lv' := [(4, .ref r4), (0, .ref r0), (1, .int i1), (2, .int i2), (3, .int i3)]) hx hb dX8_stay_6 hl (by decide) rfl (fun ls hl => ?_)
    refine lv_aload hx hb dX8_stay_8 (lv_at hl 0 rfl) ?_
    refine lv_iload_n hx hb dX8_stay_10 rfl (lv_at hl 3 rfl) ?_
    obtain ⟨c7, hk⟩ := ok_c hk
    obtain ⟨q5, e6, hk⟩ := ok_b hk
    refine zVi X w (n := 1) (As := [.int i2]) (rest := []) (ci := 0) (C := RX0) (T := TX0) (N := 7) (c_X0_isState l D cy G M r4 i2 e6) (gzV wm_X8_151 wi_X0_isState ws_X0_isState wn_X0 wc_X0_isState) rfl rfl rfl (by decide +kernel) (by decide) rfl c7 rfl rfl hl.1 (Nat.le_of_ble_eq_true rfl) dX8_stay_11 ⟨Nat.zero_le _, Nat.zero_le _⟩ (fun H locs w => ?_)
    refine lv_if_eq (tgt := 27) hx hb dX8_stay_14 (by decide) (fun c8 => ?_) (fun c8 => ?_)
    · have hk := ok_p c8 hk
      have hk := hR _ (ok_s hk)
      exact zthrow X hlk hz hst ht w hl.1 dX8_stay_27 dX8_stay_30 dX8_stay_31 dX8_stay_34 (by decide) (Nat.le_of_ble_eq_true rfl) (by decide) (by decide) (pr2 hk)
    · have hk := ok_n c8 hk
      refine lv_aload hx hb dX8_stay_17 (lv_at hl 0 rfl) ?_
      refine zgNl X w 0 6 207 "BlendBench" (C := RX0) (T := TX0) (N := 7) rfl ui_X0 (by decide) rfl (by decide +kernel) dX8_stay_19 c7 ?_
      refine lv_lconst (v := 0) hx hb dX8_stay_22 (by decide) ?_
      refine W.lcmp hx hb dX8_stay_23 ?_
      refine lv_if_ne (tgt := 35) hx hb dX8_stay_24 (by decide) (fun c9 => ?_) (fun c9 => ?_)
      · have hk := ok_n c9 hk
        refine lv_aload_n hx hb dX8_stay_35 rfl (lv_at hl 1 rfl) ?_
        obtain ⟨r10, e11, hk⟩ := ok_b hk
        refine zgr X w 8 9 66 (C := RX8) (T := TX8) (N := 10) rfl ui_X8 (by decide) rfl (tb wf_X8_66) dX8_stay_36 c3 e11 ?_
        refine lv_aload hx hb dX8_stay_39 (lv_at hl 0 rfl) ?_
        obtain ⟨r12, e13, hk⟩ := ok_b hk
        refine zgNr X w 0 5 210 "BlendBench" (C := RX0) (T := TX0) (N := 7) rfl ui_X0 (by decide) rfl (by decide +kernel) dX8_stay_41 c7 e13 ?_
        refine lv_iload_n hx hb dX8_stay_44 rfl (lv_at hl 3 rfl) ?_
        obtain ⟨c14, hk⟩ := ok_c hk
        obtain ⟨c15, hk⟩ := ok_c hk
        refine zal X w dX8_stay_45 c14 c15 ?_
        refine lv_aload hx hb dX8_stay_46 (lv_at hl 0 rfl) ?_
        refine zgNl X w 0 6 207 "BlendBench" (C := RX0) (T := TX0) (N := 7) rfl ui_X0 (by decide) rfl (by decide +kernel) dX8_stay_48 c7 ?_
        obtain ⟨c18, hk⟩ := ok_c hk
        obtain ⟨q16, e17, hk⟩ := ok_b hk
        refine zVv X w (n := 2) (As := [.long (M.2.1 r12 (Int32.toNatClampNeg i2)), .long (M.2.1 r4 6)]) (rest := []) (ci := 1) (C := RX1) (T := TX1) (N := 2) (c_X1_put l D cy G M r10 (M.2.1 r12 (Int32.toNatClampNeg i2)) (M.2.1 r4 6) e17) (gzV wm_X8_182 wi_X1_put ws_X1_put wn_X1 wc_X1_put) rfl rfl rfl (by decide +kernel) (by decide) rfl c18 rfl rfl hl.1 (Nat.le_of_ble_eq_true rfl) dX8_stay_51 ⟨Nat.zero_le _, Nat.zero_le _⟩ (fun H locs w => ?_)
        refine lv_aload_n hx hb dX8_stay_54 rfl (lv_at hl 1 rfl) ?_
        obtain ⟨r19, e20, hk⟩ := ok_b hk
        refine zgr X w 8 9 66 (C := RX8) (T := TX8) (N := 10) rfl ui_X8 (by decide) rfl (tb wf_X8_66) dX8_stay_55 c3 e20 ?_
        refine lv_iload_n hx hb dX8_stay_58 rfl (lv_at hl 4 rfl) ?_
        obtain ⟨c23, hk⟩ := ok_c hk
        obtain ⟨q21, e22, hk⟩ := ok_b hk
        refine zVl X w (n := 1) (As := [.int i3]) (rest := []) (ci := 1) (C := RX1) (T := TX1) (N := 2) (c_X1_told l D cy G q16 r19 i3 e22) (gzV wm_X8_186 wi_X1_told ws_X1_told wn_X1 wc_X1_told) rfl rfl rfl (by decide +kernel) (by decide) rfl c23 rfl rfl hl.1 (Nat.le_of_ble_eq_true rfl) dX8_stay_59 ⟨Nat.zero_le _, Nat.zero_le _⟩ (fun H locs w => ?_)
        have hk := hR _ (ok_s hk)
        exact absurd ((pr1 hk).trans hq) (fun h => by cases h)
      · have hk := ok_p c9 hk
        have hk := hR _ (ok_s hk)
        exact zthrow X hlk hz hst ht w hl.1 dX8_stay_27 dX8_stay_30 dX8_stay_31 dX8_stay_34 (by decide) (Nat.le_of_ble_eq_true rfl) (by decide) (by decide) (pr2 hk)
abbrev rm_X8_steps : Room := { frames := 7, cells := 0, slots := 0, locals := 143 }
abbrev rx_X8_steps : Room := { frames := 7, cells := 1, slots := 6, locals := 143 }
set_option maxHeartbeats 4000000 in
set_option maxRecDepth 100000 in
theorem c_X8_steps (l : Launch) (D : va_G) (cy : Cyy) (G : Gg) (M : Mm) (r0 : Nat) (i1 : Int32) (i2 : Int32) (i3 : Int32) (i4 : Int32) {q : (Option Int64) × Mm} (hm : f_X8_steps G M r0 i1 i2 i3 i4 = some q) {r : Int64} (hq : q.1 = some r) : CL l yX8_steps wz_X8_steps rm_X8_steps D cy G M [.ref r0, .int i1, .int i2, .int i3, .int i4] r q.2 := by
  refine Met_of (Qf := fun A => QL D cy G A r q.2) (cc := cX8_steps) (nL := 6) (ret := (some .long)) (own := RX8) (lv := [(0, .ref r0), (1, .int i1), (2, .int i2), (3, .int i3), (4, .int i4)]) (by decide) rfl rfl (Nat.le_of_ble_eq_true rfl) rfl ?_
  intro p e s m args below meth c A ls X hr hlk w hl
  have hx := X.1.1
  have hb := X.1.2.1
  obtain ⟨Qo, hR, hk⟩ : ∃ Qo : (Option Int64) × Mm → Prop, (∀ x, Qo x → x = q) ∧ OK (f_X8_steps G M r0 i1 i2 i3 i4) Qo := ⟨fun x => x = q, fun _ h => h, q, hm, rfl⟩
  unfold f_X8_steps at hk
  refine lv_aload_n hx hb dX8_steps_0 rfl (lv_at hl 0 rfl) ?_
  refine lv_iload_n hx hb dX8_steps_1 rfl (lv_at hl 1 rfl) ?_
  refine lv_iload hx hb dX8_steps_2 (lv_at hl 4 rfl) ?_
  obtain ⟨c3, hk⟩ := ok_c hk
  obtain ⟨q1, e2, hk⟩ := ok_b hk
  rcases q1 with _ | r4
  · have hk := hR _ (ok_s (ok_e0 hk))
    exact absurd ((pr1 hk).trans hq) (fun h => by cases h)
  · have hk := ok_e1 hk
    refine zVp X w (n := 2) (As := [.int i1, .int i4]) (rest := []) (ci := 8) (C := RX8) (T := TX8) (N := 10) (c_X8_neededChain l D cy G M r0 i1 i4 e2 rfl) (gzV wm_X8_163 wi_X8_neededChain ws_X8_neededChain wn_X8 wc_X8_neededChain) rfl rfl rfl (by decide +kernel) (by decide) rfl c3 rfl rfl hl.1 (Nat.le_of_ble_eq_true rfl) dX8_steps_4 ⟨Nat.zero_le _, Nat.zero_le _⟩ (fun H locs w => ?_)
    refine lv_astore (lv' := [(5, .ref r4), (0, .ref r0), (1, .int i1), (2, .int i2), (3, .int i3), (4, .int i4)]) hx hb dX8_steps_7 hl (by decide) rfl (fun ls hl => ?_)
    refine lv_aload hx hb dX8_steps_9 (lv_at hl 0 rfl) ?_
    refine lv_iload_n hx hb dX8_steps_11 rfl (lv_at hl 3 rfl) ?_
    obtain ⟨c7, hk⟩ := ok_c hk
    obtain ⟨q5, e6, hk⟩ := ok_b hk
    refine zVi X w (n := 1) (As := [.int i2]) (rest := []) (ci := 0) (C := RX0) (T := TX0) (N := 7) (c_X0_isState l D cy G M r4 i2 e6) (gzV wm_X8_151 wi_X0_isState ws_X0_isState wn_X0 wc_X0_isState) rfl rfl rfl (by decide +kernel) (by decide) rfl c7 rfl rfl hl.1 (Nat.le_of_ble_eq_true rfl) dX8_steps_12 ⟨Nat.zero_le _, Nat.zero_le _⟩ (fun H locs w => ?_)
    refine lv_if_eq (tgt := 45) hx hb dX8_steps_15 (by decide) (fun c8 => ?_) (fun c8 => ?_)
    · have hk := ok_p c8 hk
      have hk := hR _ (ok_s hk)
      exact absurd ((pr1 hk).trans hq) (fun h => by cases h)
    · have hk := ok_n c8 hk
      refine lv_aload hx hb dX8_steps_18 (lv_at hl 0 rfl) ?_
      refine lv_iload_n hx hb dX8_steps_20 rfl (lv_at hl 4 rfl) ?_
      obtain ⟨q9, e10, hk⟩ := ok_b hk
      refine zVi X w (n := 1) (As := [.int i3]) (rest := []) (ci := 0) (C := RX0) (T := TX0) (N := 7) (c_X0_isSet l D cy G M r4 i3 e10) (gzV wm_X8_214 wi_X0_isSet ws_X0_isSet wn_X0 wc_X0_isSet) rfl rfl rfl (by decide +kernel) (by decide) rfl c7 rfl rfl hl.1 (Nat.le_of_ble_eq_true rfl) dX8_steps_21 ⟨Nat.zero_le _, Nat.zero_le _⟩ (fun H locs w => ?_)
      refine lv_if_eq (tgt := 45) hx hb dX8_steps_24 (by decide) (fun c11 => ?_) (fun c11 => ?_)
      · have hk := ok_p c11 hk
        have hk := hR _ (ok_s hk)
        exact absurd ((pr1 hk).trans hq) (fun h => by cases h)
      · have hk := ok_n c11 hk
        refine lv_aload_n hx hb dX8_steps_27 rfl (lv_at hl 1 rfl) ?_
        obtain ⟨r12, e13, hk⟩ := ok_b hk
        refine zgr X w 8 7 52 (C := RX8) (T := TX8) (N := 10) rfl ui_X8 (by decide) rfl (tb wf_X8_52) dX8_steps_28 c3 e13 ?_
        refine lv_aload hx hb dX8_steps_31 (lv_at hl 0 rfl) ?_
        refine lv_iload_n hx hb dX8_steps_33 rfl (lv_at hl 3 rfl) ?_
        refine lv_iload_n hx hb dX8_steps_34 rfl (lv_at hl 4 rfl) ?_
        refine lv_aload_n hx hb dX8_steps_35 rfl (lv_at hl 1 rfl) ?_
        obtain ⟨r14, e15, hk⟩ := ok_b hk
        refine zgr X w 8 9 66 (C := RX8) (T := TX8) (N := 10) rfl ui_X8 (by decide) rfl (tb wf_X8_66) dX8_steps_36 c3 e15 ?_
        obtain ⟨c18, hk⟩ := ok_c hk
        obtain ⟨q16, e17, hk⟩ := ok_b hk
        refine zVi X w (n := 4) (As := [.ref r4, .int i2, .int i3, .ref r14]) (rest := []) (ci := 2) (C := RX2) (T := TX2) (N := 2) (c_X2_findSteps l D cy G M r12 r4 i2 i3 r14 e17) (gzV wm_X8_217 wi_X2_findSteps ws_X2_findSteps wn_X2 wc_X2_findSteps) rfl rfl rfl (by decide +kernel) (by decide) rfl c18 rfl rfl hl.1 (Nat.le_of_ble_eq_true rfl) dX8_steps_39 ⟨Nat.zero_le _, Nat.zero_le _⟩ (fun H locs w => ?_)
        refine lv_if_ne (tgt := 53) hx hb dX8_steps_42 (by decide) (fun c19 => ?_) (fun c19 => ?_)
        · have hk := ok_n c19 hk
          refine lv_aload_n hx hb dX8_steps_53 rfl (lv_at hl 1 rfl) ?_
          obtain ⟨r20, e21, hk⟩ := ok_b hk
          refine zgr X w 8 9 66 (C := RX8) (T := TX8) (N := 10) rfl ui_X8 (by decide) rfl (tb wf_X8_66) dX8_steps_54 c3 e21 ?_
          refine lv_iload hx hb dX8_steps_57 (lv_at hl 5 rfl) ?_
          obtain ⟨c24, hk⟩ := ok_c hk
          obtain ⟨q22, e23, hk⟩ := ok_b hk
          refine zVl X w (n := 1) (As := [.int i4]) (rest := []) (ci := 1) (C := RX1) (T := TX1) (N := 2) (c_X1_told l D cy G q16.2 r20 i4 e23) (gzV wm_X8_186 wi_X1_told ws_X1_told wn_X1 wc_X1_told) rfl rfl rfl (by decide +kernel) (by decide) rfl c24 rfl rfl hl.1 (Nat.le_of_ble_eq_true rfl) dX8_steps_59 ⟨Nat.zero_le _, Nat.zero_le _⟩ (fun H locs w => ?_)
          have hk := hR _ (ok_s hk)
          exact zrl X hr hlk w dX8_steps_62 (Option.some.inj ((pr1 hk).trans hq)) (pr2 hk)
        · have hk := ok_p c19 hk
          have hk := hR _ (ok_s hk)
          exact absurd ((pr1 hk).trans hq) (fun h => by cases h)
set_option maxHeartbeats 4000000 in
set_option maxRecDepth 100000 in
theorem x_X8_steps (l : Launch) (hst : l.stackTraces = false) (D : va_G) (cy : Cyy) (G : Gg) (M : Mm) (r0 : Nat) (i1 : Int32) (i2 : Int32) (i3 : Int32) (i4 : Int32) {q : (Option Int64) × Mm} (hm : f_X8_steps G M r0 i1 i2 i3 i4 = some q) (hq : q.1 = none) : XT l yX8_steps wz_X8_steps rx_X8_steps D cy G M [.ref r0, .int i1, .int i2, .int i3, .int i4] q.2 := by
  refine XT_of (cc := cX8_steps) (nL := 6) (ret := (some .long)) (own := RX8) (lv := [(0, .ref r0), (1, .int i1), (2, .int i2), (3, .int i3), (4, .int i4)]) (by decide) rfl rfl (Nat.le_of_ble_eq_true rfl) rfl ?_
  intro p e s m args below meth c A ls X hr hlk hz ht w hl
  have hx := X.1.1
  have hb := X.1.2.1
  obtain ⟨Qo, hR, hk⟩ : ∃ Qo : (Option Int64) × Mm → Prop, (∀ x, Qo x → x = q) ∧ OK (f_X8_steps G M r0 i1 i2 i3 i4) Qo := ⟨fun x => x = q, fun _ h => h, q, hm, rfl⟩
  unfold f_X8_steps at hk
  refine lv_aload_n hx hb dX8_steps_0 rfl (lv_at hl 0 rfl) ?_
  refine lv_iload_n hx hb dX8_steps_1 rfl (lv_at hl 1 rfl) ?_
  refine lv_iload hx hb dX8_steps_2 (lv_at hl 4 rfl) ?_
  obtain ⟨c3, hk⟩ := ok_c hk
  obtain ⟨q1, e2, hk⟩ := ok_b hk
  rcases q1 with _ | r4
  · have hk := hR _ (ok_s (ok_e0 hk))
    exact zVx X hlk hz ht w (n := 2) (As := [.int i1, .int i4]) (rest := []) (ci := 8) (C := RX8) (T := TX8) (N := 10) (x_X8_neededChain l hst D cy G M r0 i1 i4 e2 rfl) (gzV wm_X8_163 wi_X8_neededChain ws_X8_neededChain wn_X8 wc_X8_neededChain) rfl rfl rfl (by decide +kernel) (by decide) rfl c3 rfl rfl hl.1 (Nat.le_of_ble_eq_true rfl) dX8_steps_4 (by decide) (pr2 hk)
  · have hk := ok_e1 hk
    refine zVp X w (n := 2) (As := [.int i1, .int i4]) (rest := []) (ci := 8) (C := RX8) (T := TX8) (N := 10) (c_X8_neededChain l D cy G M r0 i1 i4 e2 rfl) (gzV wm_X8_163 wi_X8_neededChain ws_X8_neededChain wn_X8 wc_X8_neededChain) rfl rfl rfl (by decide +kernel) (by decide) rfl c3 rfl rfl hl.1 (Nat.le_of_ble_eq_true rfl) dX8_steps_4 ⟨Nat.zero_le _, Nat.zero_le _⟩ (fun H locs w => ?_)
    refine lv_astore (lv' := [(5, .ref r4), (0, .ref r0), (1, .int i1), (2, .int i2), (3, .int i3), (4, .int i4)]) hx hb dX8_steps_7 hl (by decide) rfl (fun ls hl => ?_)
    refine lv_aload hx hb dX8_steps_9 (lv_at hl 0 rfl) ?_
    refine lv_iload_n hx hb dX8_steps_11 rfl (lv_at hl 3 rfl) ?_
    obtain ⟨c7, hk⟩ := ok_c hk
    obtain ⟨q5, e6, hk⟩ := ok_b hk
    refine zVi X w (n := 1) (As := [.int i2]) (rest := []) (ci := 0) (C := RX0) (T := TX0) (N := 7) (c_X0_isState l D cy G M r4 i2 e6) (gzV wm_X8_151 wi_X0_isState ws_X0_isState wn_X0 wc_X0_isState) rfl rfl rfl (by decide +kernel) (by decide) rfl c7 rfl rfl hl.1 (Nat.le_of_ble_eq_true rfl) dX8_steps_12 ⟨Nat.zero_le _, Nat.zero_le _⟩ (fun H locs w => ?_)
    refine lv_if_eq (tgt := 45) hx hb dX8_steps_15 (by decide) (fun c8 => ?_) (fun c8 => ?_)
    · have hk := ok_p c8 hk
      have hk := hR _ (ok_s hk)
      exact zthrow X hlk hz hst ht w hl.1 dX8_steps_45 dX8_steps_48 dX8_steps_49 dX8_steps_52 (by decide) (Nat.le_of_ble_eq_true rfl) (by decide) (by decide) (pr2 hk)
    · have hk := ok_n c8 hk
      refine lv_aload hx hb dX8_steps_18 (lv_at hl 0 rfl) ?_
      refine lv_iload_n hx hb dX8_steps_20 rfl (lv_at hl 4 rfl) ?_
      obtain ⟨q9, e10, hk⟩ := ok_b hk
      refine zVi X w (n := 1) (As := [.int i3]) (rest := []) (ci := 0) (C := RX0) (T := TX0) (N := 7) (c_X0_isSet l D cy G M r4 i3 e10) (gzV wm_X8_214 wi_X0_isSet ws_X0_isSet wn_X0 wc_X0_isSet) rfl rfl rfl (by decide +kernel) (by decide) rfl c7 rfl rfl hl.1 (Nat.le_of_ble_eq_true rfl) dX8_steps_21 ⟨Nat.zero_le _, Nat.zero_le _⟩ (fun H locs w => ?_)
      refine lv_if_eq (tgt := 45) hx hb dX8_steps_24 (by decide) (fun c11 => ?_) (fun c11 => ?_)
      · have hk := ok_p c11 hk
        have hk := hR _ (ok_s hk)
        exact zthrow X hlk hz hst ht w hl.1 dX8_steps_45 dX8_steps_48 dX8_steps_49 dX8_steps_52 (by decide) (Nat.le_of_ble_eq_true rfl) (by decide) (by decide) (pr2 hk)
      · have hk := ok_n c11 hk
        refine lv_aload_n hx hb dX8_steps_27 rfl (lv_at hl 1 rfl) ?_
        obtain ⟨r12, e13, hk⟩ := ok_b hk
        refine zgr X w 8 7 52 (C := RX8) (T := TX8) (N := 10) rfl ui_X8 (by decide) rfl (tb wf_X8_52) dX8_steps_28 c3 e13 ?_
        refine lv_aload hx hb dX8_steps_31 (lv_at hl 0 rfl) ?_
        refine lv_iload_n hx hb dX8_steps_33 rfl (lv_at hl 3 rfl) ?_
        refine lv_iload_n hx hb dX8_steps_34 rfl (lv_at hl 4 rfl) ?_
        refine lv_aload_n hx hb dX8_steps_35 rfl (lv_at hl 1 rfl) ?_
        obtain ⟨r14, e15, hk⟩ := ok_b hk
        refine zgr X w 8 9 66 (C := RX8) (T := TX8) (N := 10) rfl ui_X8 (by decide) rfl (tb wf_X8_66) dX8_steps_36 c3 e15 ?_
        obtain ⟨c18, hk⟩ := ok_c hk
        obtain ⟨q16, e17, hk⟩ := ok_b hk
        refine zVi X w (n := 4) (As := [.ref r4, .int i2, .int i3, .ref r14]) (rest := []) (ci := 2) (C := RX2) (T := TX2) (N := 2) (c_X2_findSteps l D cy G M r12 r4 i2 i3 r14 e17) (gzV wm_X8_217 wi_X2_findSteps ws_X2_findSteps wn_X2 wc_X2_findSteps) rfl rfl rfl (by decide +kernel) (by decide) rfl c18 rfl rfl hl.1 (Nat.le_of_ble_eq_true rfl) dX8_steps_39 ⟨Nat.zero_le _, Nat.zero_le _⟩ (fun H locs w => ?_)
        refine lv_if_ne (tgt := 53) hx hb dX8_steps_42 (by decide) (fun c19 => ?_) (fun c19 => ?_)
        · have hk := ok_n c19 hk
          refine lv_aload_n hx hb dX8_steps_53 rfl (lv_at hl 1 rfl) ?_
          obtain ⟨r20, e21, hk⟩ := ok_b hk
          refine zgr X w 8 9 66 (C := RX8) (T := TX8) (N := 10) rfl ui_X8 (by decide) rfl (tb wf_X8_66) dX8_steps_54 c3 e21 ?_
          refine lv_iload hx hb dX8_steps_57 (lv_at hl 5 rfl) ?_
          obtain ⟨c24, hk⟩ := ok_c hk
          obtain ⟨q22, e23, hk⟩ := ok_b hk
          refine zVl X w (n := 1) (As := [.int i4]) (rest := []) (ci := 1) (C := RX1) (T := TX1) (N := 2) (c_X1_told l D cy G q16.2 r20 i4 e23) (gzV wm_X8_186 wi_X1_told ws_X1_told wn_X1 wc_X1_told) rfl rfl rfl (by decide +kernel) (by decide) rfl c24 rfl rfl hl.1 (Nat.le_of_ble_eq_true rfl) dX8_steps_59 ⟨Nat.zero_le _, Nat.zero_le _⟩ (fun H locs w => ?_)
          have hk := hR _ (ok_s hk)
          exact absurd ((pr1 hk).trans hq) (fun h => by cases h)
        · have hk := ok_p c19 hk
          have hk := hR _ (ok_s hk)
          exact zthrow X hlk hz hst ht w hl.1 dX8_steps_45 dX8_steps_48 dX8_steps_49 dX8_steps_52 (by decide) (Nat.le_of_ble_eq_true rfl) (by decide) (by decide) (pr2 hk)
abbrev rm_X8_ahead : Room := { frames := 7, cells := 0, slots := 0, locals := 145 }
abbrev rx_X8_ahead : Room := { frames := 7, cells := 1, slots := 6, locals := 145 }
set_option maxHeartbeats 4000000 in
set_option maxRecDepth 100000 in
theorem c_X8_ahead (l : Launch) (D : va_G) (cy : Cyy) (G : Gg) (M : Mm) (r0 : Nat) (i1 : Int32) (i2 : Int32) (i3 : Int32) (i4 : Int32) (i5 : Int32) {q : (Option Int64) × Mm} (hm : f_X8_ahead G M r0 i1 i2 i3 i4 i5 = some q) {r : Int64} (hq : q.1 = some r) : CL l yX8_ahead wz_X8_ahead rm_X8_ahead D cy G M [.ref r0, .int i1, .int i2, .int i3, .int i4, .int i5] r q.2 := by
  refine Met_of (Qf := fun A => QL D cy G A r q.2) (cc := cX8_ahead) (nL := 7) (ret := (some .long)) (own := RX8) (lv := [(0, .ref r0), (1, .int i1), (2, .int i2), (3, .int i3), (4, .int i4), (5, .int i5)]) (by decide) rfl rfl (Nat.le_of_ble_eq_true rfl) rfl ?_
  intro p e s m args below meth c A ls X hr hlk w hl
  have hx := X.1.1
  have hb := X.1.2.1
  obtain ⟨Qo, hR, hk⟩ : ∃ Qo : (Option Int64) × Mm → Prop, (∀ x, Qo x → x = q) ∧ OK (f_X8_ahead G M r0 i1 i2 i3 i4 i5) Qo := ⟨fun x => x = q, fun _ h => h, q, hm, rfl⟩
  unfold f_X8_ahead at hk
  refine lv_aload_n hx hb dX8_ahead_0 rfl (lv_at hl 0 rfl) ?_
  refine lv_iload_n hx hb dX8_ahead_1 rfl (lv_at hl 1 rfl) ?_
  refine lv_iload hx hb dX8_ahead_2 (lv_at hl 5 rfl) ?_
  obtain ⟨c3, hk⟩ := ok_c hk
  obtain ⟨q1, e2, hk⟩ := ok_b hk
  rcases q1 with _ | r4
  · have hk := hR _ (ok_s (ok_e0 hk))
    exact absurd ((pr1 hk).trans hq) (fun h => by cases h)
  · have hk := ok_e1 hk
    refine zVp X w (n := 2) (As := [.int i1, .int i5]) (rest := []) (ci := 8) (C := RX8) (T := TX8) (N := 10) (c_X8_neededChain l D cy G M r0 i1 i5 e2 rfl) (gzV wm_X8_163 wi_X8_neededChain ws_X8_neededChain wn_X8 wc_X8_neededChain) rfl rfl rfl (by decide +kernel) (by decide) rfl c3 rfl rfl hl.1 (Nat.le_of_ble_eq_true rfl) dX8_ahead_4 ⟨Nat.zero_le _, Nat.zero_le _⟩ (fun H locs w => ?_)
    refine lv_astore (lv' := [(6, .ref r4), (0, .ref r0), (1, .int i1), (2, .int i2), (3, .int i3), (4, .int i4), (5, .int i5)]) hx hb dX8_ahead_7 hl (by decide) rfl (fun ls hl => ?_)
    refine lv_aload hx hb dX8_ahead_9 (lv_at hl 0 rfl) ?_
    refine lv_iload_n hx hb dX8_ahead_11 rfl (lv_at hl 3 rfl) ?_
    obtain ⟨c7, hk⟩ := ok_c hk
    obtain ⟨q5, e6, hk⟩ := ok_b hk
    refine zVi X w (n := 1) (As := [.int i2]) (rest := []) (ci := 0) (C := RX0) (T := TX0) (N := 7) (c_X0_isState l D cy G M r4 i2 e6) (gzV wm_X8_151 wi_X0_isState ws_X0_isState wn_X0 wc_X0_isState) rfl rfl rfl (by decide +kernel) (by decide) rfl c7 rfl rfl hl.1 (Nat.le_of_ble_eq_true rfl) dX8_ahead_12 ⟨Nat.zero_le _, Nat.zero_le _⟩ (fun H locs w => ?_)
    refine lv_if_eq (tgt := 44) hx hb dX8_ahead_15 (by decide) (fun c8 => ?_) (fun c8 => ?_)
    · have hk := ok_p c8 hk
      have hk := hR _ (ok_s hk)
      exact absurd ((pr1 hk).trans hq) (fun h => by cases h)
    · have hk := ok_n c8 hk
      refine lv_aload hx hb dX8_ahead_18 (lv_at hl 0 rfl) ?_
      refine lv_iload_n hx hb dX8_ahead_20 rfl (lv_at hl 4 rfl) ?_
      obtain ⟨q9, e10, hk⟩ := ok_b hk
      refine zVi X w (n := 1) (As := [.int i3]) (rest := []) (ci := 0) (C := RX0) (T := TX0) (N := 7) (c_X0_isSet l D cy G M r4 i3 e10) (gzV wm_X8_214 wi_X0_isSet ws_X0_isSet wn_X0 wc_X0_isSet) rfl rfl rfl (by decide +kernel) (by decide) rfl c7 rfl rfl hl.1 (Nat.le_of_ble_eq_true rfl) dX8_ahead_21 ⟨Nat.zero_le _, Nat.zero_le _⟩ (fun H locs w => ?_)
      refine lv_if_eq (tgt := 44) hx hb dX8_ahead_24 (by decide) (fun c11 => ?_) (fun c11 => ?_)
      · have hk := ok_p c11 hk
        have hk := hR _ (ok_s hk)
        exact absurd ((pr1 hk).trans hq) (fun h => by cases h)
      · have hk := ok_n c11 hk
        refine lv_aload hx hb dX8_ahead_27 (lv_at hl 0 rfl) ?_
        refine lv_iload hx hb dX8_ahead_29 (lv_at hl 5 rfl) ?_
        obtain ⟨q12, e13, hk⟩ := ok_b hk
        refine zVi X w (n := 1) (As := [.int i4]) (rest := []) (ci := 0) (C := RX0) (T := TX0) (N := 7) (c_X0_isSet l D cy G M r4 i4 e13) (gzV wm_X8_214 wi_X0_isSet ws_X0_isSet wn_X0 wc_X0_isSet) rfl rfl rfl (by decide +kernel) (by decide) rfl c7 rfl rfl hl.1 (Nat.le_of_ble_eq_true rfl) dX8_ahead_31 ⟨Nat.zero_le _, Nat.zero_le _⟩ (fun H locs w => ?_)
        refine lv_if_eq (tgt := 44) hx hb dX8_ahead_34 (by decide) (fun c14 => ?_) (fun c14 => ?_)
        · have hk := ok_p c14 hk
          have hk := hR _ (ok_s hk)
          exact absurd ((pr1 hk).trans hq) (fun h => by cases h)
        · have hk := ok_n c14 hk
          refine lv_iload_n hx hb dX8_ahead_37 rfl (lv_at hl 4 rfl) ?_
          refine lv_iload hx hb dX8_ahead_38 (lv_at hl 5 rfl) ?_
          refine lv_iand hx hb dX8_ahead_40 ?_
          refine lv_if_eq (tgt := 52) hx hb dX8_ahead_41 (by decide) (fun c15 => ?_) (fun c15 => ?_)
          · have hk := ok_p c15 hk
            refine lv_aload_n hx hb dX8_ahead_52 rfl (lv_at hl 1 rfl) ?_
            obtain ⟨r16, e17, hk⟩ := ok_b hk
            refine zgr X w 8 7 52 (C := RX8) (T := TX8) (N := 10) rfl ui_X8 (by decide) rfl (tb wf_X8_52) dX8_ahead_53 c3 e17 ?_
            refine lv_aload hx hb dX8_ahead_56 (lv_at hl 0 rfl) ?_
            refine lv_iload_n hx hb dX8_ahead_58 rfl (lv_at hl 3 rfl) ?_
            refine lv_iload_n hx hb dX8_ahead_59 rfl (lv_at hl 4 rfl) ?_
            refine lv_iload hx hb dX8_ahead_60 (lv_at hl 5 rfl) ?_
            refine lv_aload_n hx hb dX8_ahead_62 rfl (lv_at hl 1 rfl) ?_
            obtain ⟨r18, e19, hk⟩ := ok_b hk
            refine zgr X w 8 9 66 (C := RX8) (T := TX8) (N := 10) rfl ui_X8 (by decide) rfl (tb wf_X8_66) dX8_ahead_63 c3 e19 ?_
            obtain ⟨c22, hk⟩ := ok_c hk
            obtain ⟨q20, e21, hk⟩ := ok_b hk
            refine zVv X w (n := 5) (As := [.ref r4, .int i2, .int i3, .int i4, .ref r18]) (rest := []) (ci := 2) (C := RX2) (T := TX2) (N := 2) (c_X2_findAhead l D cy G M r16 r4 i2 i3 i4 r18 e21) (gzV wm_X8_221 wi_X2_findAhead ws_X2_findAhead wn_X2 wc_X2_findAhead) rfl rfl rfl (by decide +kernel) (by decide) rfl c22 rfl rfl hl.1 (Nat.le_of_ble_eq_true rfl) dX8_ahead_66 ⟨Nat.zero_le _, Nat.zero_le _⟩ (fun H locs w => ?_)
            refine lv_aload_n hx hb dX8_ahead_69 rfl (lv_at hl 1 rfl) ?_
            obtain ⟨r23, e24, hk⟩ := ok_b hk
            refine zgr X w 8 9 66 (C := RX8) (T := TX8) (N := 10) rfl ui_X8 (by decide) rfl (tb wf_X8_66) dX8_ahead_70 c3 e24 ?_
            refine lv_iload hx hb dX8_ahead_73 (lv_at hl 6 rfl) ?_
            obtain ⟨c27, hk⟩ := ok_c hk
            obtain ⟨q25, e26, hk⟩ := ok_b hk
            refine zVl X w (n := 1) (As := [.int i5]) (rest := []) (ci := 1) (C := RX1) (T := TX1) (N := 2) (c_X1_told l D cy G q20 r23 i5 e26) (gzV wm_X8_186 wi_X1_told ws_X1_told wn_X1 wc_X1_told) rfl rfl rfl (by decide +kernel) (by decide) rfl c27 rfl rfl hl.1 (Nat.le_of_ble_eq_true rfl) dX8_ahead_75 ⟨Nat.zero_le _, Nat.zero_le _⟩ (fun H locs w => ?_)
            have hk := hR _ (ok_s hk)
            exact zrl X hr hlk w dX8_ahead_78 (Option.some.inj ((pr1 hk).trans hq)) (pr2 hk)
          · have hk := ok_n c15 hk
            have hk := hR _ (ok_s hk)
            exact absurd ((pr1 hk).trans hq) (fun h => by cases h)
set_option maxHeartbeats 4000000 in
set_option maxRecDepth 100000 in
theorem x_X8_ahead (l : Launch) (hst : l.stackTraces = false) (D : va_G) (cy : Cyy) (G : Gg) (M : Mm) (r0 : Nat) (i1 : Int32) (i2 : Int32) (i3 : Int32) (i4 : Int32) (i5 : Int32) {q : (Option Int64) × Mm} (hm : f_X8_ahead G M r0 i1 i2 i3 i4 i5 = some q) (hq : q.1 = none) : XT l yX8_ahead wz_X8_ahead rx_X8_ahead D cy G M [.ref r0, .int i1, .int i2, .int i3, .int i4, .int i5] q.2 := by
  refine XT_of (cc := cX8_ahead) (nL := 7) (ret := (some .long)) (own := RX8) (lv := [(0, .ref r0), (1, .int i1), (2, .int i2), (3, .int i3), (4, .int i4), (5, .int i5)]) (by decide) rfl rfl (Nat.le_of_ble_eq_true rfl) rfl ?_
  intro p e s m args below meth c A ls X hr hlk hz ht w hl
  have hx := X.1.1
  have hb := X.1.2.1
  obtain ⟨Qo, hR, hk⟩ : ∃ Qo : (Option Int64) × Mm → Prop, (∀ x, Qo x → x = q) ∧ OK (f_X8_ahead G M r0 i1 i2 i3 i4 i5) Qo := ⟨fun x => x = q, fun _ h => h, q, hm, rfl⟩
  unfold f_X8_ahead at hk
  refine lv_aload_n hx hb dX8_ahead_0 rfl (lv_at hl 0 rfl) ?_
  refine lv_iload_n hx hb dX8_ahead_1 rfl (lv_at hl 1 rfl) ?_
  refine lv_iload hx hb dX8_ahead_2 (lv_at hl 5 rfl) ?_
  obtain ⟨c3, hk⟩ := ok_c hk
  obtain ⟨q1, e2, hk⟩ := ok_b hk
  rcases q1 with _ | r4
  · have hk := hR _ (ok_s (ok_e0 hk))
    exact zVx X hlk hz ht w (n := 2) (As := [.int i1, .int i5]) (rest := []) (ci := 8) (C := RX8) (T := TX8) (N := 10) (x_X8_neededChain l hst D cy G M r0 i1 i5 e2 rfl) (gzV wm_X8_163 wi_X8_neededChain ws_X8_neededChain wn_X8 wc_X8_neededChain) rfl rfl rfl (by decide +kernel) (by decide) rfl c3 rfl rfl hl.1 (Nat.le_of_ble_eq_true rfl) dX8_ahead_4 (by decide) (pr2 hk)
  · have hk := ok_e1 hk
    refine zVp X w (n := 2) (As := [.int i1, .int i5]) (rest := []) (ci := 8) (C := RX8) (T := TX8) (N := 10) (c_X8_neededChain l D cy G M r0 i1 i5 e2 rfl) (gzV wm_X8_163 wi_X8_neededChain ws_X8_neededChain wn_X8 wc_X8_neededChain) rfl rfl rfl (by decide +kernel) (by decide) rfl c3 rfl rfl hl.1 (Nat.le_of_ble_eq_true rfl) dX8_ahead_4 ⟨Nat.zero_le _, Nat.zero_le _⟩ (fun H locs w => ?_)
    refine lv_astore (lv' := [(6, .ref r4), (0, .ref r0), (1, .int i1), (2, .int i2), (3, .int i3), (4, .int i4), (5, .int i5)]) hx hb dX8_ahead_7 hl (by decide) rfl (fun ls hl => ?_)
    refine lv_aload hx hb dX8_ahead_9 (lv_at hl 0 rfl) ?_
    refine lv_iload_n hx hb dX8_ahead_11 rfl (lv_at hl 3 rfl) ?_
    obtain ⟨c7, hk⟩ := ok_c hk
    obtain ⟨q5, e6, hk⟩ := ok_b hk
    refine zVi X w (n := 1) (As := [.int i2]) (rest := []) (ci := 0) (C := RX0) (T := TX0) (N := 7) (c_X0_isState l D cy G M r4 i2 e6) (gzV wm_X8_151 wi_X0_isState ws_X0_isState wn_X0 wc_X0_isState) rfl rfl rfl (by decide +kernel) (by decide) rfl c7 rfl rfl hl.1 (Nat.le_of_ble_eq_true rfl) dX8_ahead_12 ⟨Nat.zero_le _, Nat.zero_le _⟩ (fun H locs w => ?_)
    refine lv_if_eq (tgt := 44) hx hb dX8_ahead_15 (by decide) (fun c8 => ?_) (fun c8 => ?_)
    · have hk := ok_p c8 hk
      have hk := hR _ (ok_s hk)
      exact zthrow X hlk hz hst ht w hl.1 dX8_ahead_44 dX8_ahead_47 dX8_ahead_48 dX8_ahead_51 (by decide) (Nat.le_of_ble_eq_true rfl) (by decide) (by decide) (pr2 hk)
    · have hk := ok_n c8 hk
      refine lv_aload hx hb dX8_ahead_18 (lv_at hl 0 rfl) ?_
      refine lv_iload_n hx hb dX8_ahead_20 rfl (lv_at hl 4 rfl) ?_
      obtain ⟨q9, e10, hk⟩ := ok_b hk
      refine zVi X w (n := 1) (As := [.int i3]) (rest := []) (ci := 0) (C := RX0) (T := TX0) (N := 7) (c_X0_isSet l D cy G M r4 i3 e10) (gzV wm_X8_214 wi_X0_isSet ws_X0_isSet wn_X0 wc_X0_isSet) rfl rfl rfl (by decide +kernel) (by decide) rfl c7 rfl rfl hl.1 (Nat.le_of_ble_eq_true rfl) dX8_ahead_21 ⟨Nat.zero_le _, Nat.zero_le _⟩ (fun H locs w => ?_)
      refine lv_if_eq (tgt := 44) hx hb dX8_ahead_24 (by decide) (fun c11 => ?_) (fun c11 => ?_)
      · have hk := ok_p c11 hk
        have hk := hR _ (ok_s hk)
        exact zthrow X hlk hz hst ht w hl.1 dX8_ahead_44 dX8_ahead_47 dX8_ahead_48 dX8_ahead_51 (by decide) (Nat.le_of_ble_eq_true rfl) (by decide) (by decide) (pr2 hk)
      · have hk := ok_n c11 hk
        refine lv_aload hx hb dX8_ahead_27 (lv_at hl 0 rfl) ?_
        refine lv_iload hx hb dX8_ahead_29 (lv_at hl 5 rfl) ?_
        obtain ⟨q12, e13, hk⟩ := ok_b hk
        refine zVi X w (n := 1) (As := [.int i4]) (rest := []) (ci := 0) (C := RX0) (T := TX0) (N := 7) (c_X0_isSet l D cy G M r4 i4 e13) (gzV wm_X8_214 wi_X0_isSet ws_X0_isSet wn_X0 wc_X0_isSet) rfl rfl rfl (by decide +kernel) (by decide) rfl c7 rfl rfl hl.1 (Nat.le_of_ble_eq_true rfl) dX8_ahead_31 ⟨Nat.zero_le _, Nat.zero_le _⟩ (fun H locs w => ?_)
        refine lv_if_eq (tgt := 44) hx hb dX8_ahead_34 (by decide) (fun c14 => ?_) (fun c14 => ?_)
        · have hk := ok_p c14 hk
          have hk := hR _ (ok_s hk)
          exact zthrow X hlk hz hst ht w hl.1 dX8_ahead_44 dX8_ahead_47 dX8_ahead_48 dX8_ahead_51 (by decide) (Nat.le_of_ble_eq_true rfl) (by decide) (by decide) (pr2 hk)
        · have hk := ok_n c14 hk
          refine lv_iload_n hx hb dX8_ahead_37 rfl (lv_at hl 4 rfl) ?_
          refine lv_iload hx hb dX8_ahead_38 (lv_at hl 5 rfl) ?_
          refine lv_iand hx hb dX8_ahead_40 ?_
          refine lv_if_eq (tgt := 52) hx hb dX8_ahead_41 (by decide) (fun c15 => ?_) (fun c15 => ?_)
          · have hk := ok_p c15 hk
            refine lv_aload_n hx hb dX8_ahead_52 rfl (lv_at hl 1 rfl) ?_
            obtain ⟨r16, e17, hk⟩ := ok_b hk
            refine zgr X w 8 7 52 (C := RX8) (T := TX8) (N := 10) rfl ui_X8 (by decide) rfl (tb wf_X8_52) dX8_ahead_53 c3 e17 ?_
            refine lv_aload hx hb dX8_ahead_56 (lv_at hl 0 rfl) ?_
            refine lv_iload_n hx hb dX8_ahead_58 rfl (lv_at hl 3 rfl) ?_
            refine lv_iload_n hx hb dX8_ahead_59 rfl (lv_at hl 4 rfl) ?_
            refine lv_iload hx hb dX8_ahead_60 (lv_at hl 5 rfl) ?_
            refine lv_aload_n hx hb dX8_ahead_62 rfl (lv_at hl 1 rfl) ?_
            obtain ⟨r18, e19, hk⟩ := ok_b hk
            refine zgr X w 8 9 66 (C := RX8) (T := TX8) (N := 10) rfl ui_X8 (by decide) rfl (tb wf_X8_66) dX8_ahead_63 c3 e19 ?_
            obtain ⟨c22, hk⟩ := ok_c hk
            obtain ⟨q20, e21, hk⟩ := ok_b hk
            refine zVv X w (n := 5) (As := [.ref r4, .int i2, .int i3, .int i4, .ref r18]) (rest := []) (ci := 2) (C := RX2) (T := TX2) (N := 2) (c_X2_findAhead l D cy G M r16 r4 i2 i3 i4 r18 e21) (gzV wm_X8_221 wi_X2_findAhead ws_X2_findAhead wn_X2 wc_X2_findAhead) rfl rfl rfl (by decide +kernel) (by decide) rfl c22 rfl rfl hl.1 (Nat.le_of_ble_eq_true rfl) dX8_ahead_66 ⟨Nat.zero_le _, Nat.zero_le _⟩ (fun H locs w => ?_)
            refine lv_aload_n hx hb dX8_ahead_69 rfl (lv_at hl 1 rfl) ?_
            obtain ⟨r23, e24, hk⟩ := ok_b hk
            refine zgr X w 8 9 66 (C := RX8) (T := TX8) (N := 10) rfl ui_X8 (by decide) rfl (tb wf_X8_66) dX8_ahead_70 c3 e24 ?_
            refine lv_iload hx hb dX8_ahead_73 (lv_at hl 6 rfl) ?_
            obtain ⟨c27, hk⟩ := ok_c hk
            obtain ⟨q25, e26, hk⟩ := ok_b hk
            refine zVl X w (n := 1) (As := [.int i5]) (rest := []) (ci := 1) (C := RX1) (T := TX1) (N := 2) (c_X1_told l D cy G q20 r23 i5 e26) (gzV wm_X8_186 wi_X1_told ws_X1_told wn_X1 wc_X1_told) rfl rfl rfl (by decide +kernel) (by decide) rfl c27 rfl rfl hl.1 (Nat.le_of_ble_eq_true rfl) dX8_ahead_75 ⟨Nat.zero_le _, Nat.zero_le _⟩ (fun H locs w => ?_)
            have hk := hR _ (ok_s hk)
            exact absurd ((pr1 hk).trans hq) (fun h => by cases h)
          · have hk := ok_n c15 hk
            have hk := hR _ (ok_s hk)
            exact zthrow X hlk hz hst ht w hl.1 dX8_ahead_44 dX8_ahead_47 dX8_ahead_48 dX8_ahead_51 (by decide) (Nat.le_of_ble_eq_true rfl) (by decide) (by decide) (pr2 hk)
abbrev rm_X8_narrow : Room := { frames := 7, cells := 0, slots := 0, locals := 129 }
abbrev rx_X8_narrow : Room := { frames := 7, cells := 1, slots := 6, locals := 129 }
set_option maxHeartbeats 4000000 in
set_option maxRecDepth 100000 in
theorem c_X8_narrow (l : Launch) (D : va_G) (cy : Cyy) (G : Gg) (M : Mm) (r0 : Nat) (i1 : Int32) (i2 : Int32) {q : (Option Int64) × Mm} (hm : f_X8_narrow G M r0 i1 i2 = some q) {r : Int64} (hq : q.1 = some r) : CL l yX8_narrow wz_X8_narrow rm_X8_narrow D cy G M [.ref r0, .int i1, .int i2] r q.2 := by
  refine Met_of (Qf := fun A => QL D cy G A r q.2) (cc := cX8_narrow) (nL := 4) (ret := (some .long)) (own := RX8) (lv := [(0, .ref r0), (1, .int i1), (2, .int i2)]) (by decide) rfl rfl (Nat.le_of_ble_eq_true rfl) rfl ?_
  intro p e s m args below meth c A ls X hr hlk w hl
  have hx := X.1.1
  have hb := X.1.2.1
  obtain ⟨Qo, hR, hk⟩ : ∃ Qo : (Option Int64) × Mm → Prop, (∀ x, Qo x → x = q) ∧ OK (f_X8_narrow G M r0 i1 i2) Qo := ⟨fun x => x = q, fun _ h => h, q, hm, rfl⟩
  unfold f_X8_narrow at hk
  refine lv_aload_n hx hb dX8_narrow_0 rfl (lv_at hl 0 rfl) ?_
  refine lv_iload_n hx hb dX8_narrow_1 rfl (lv_at hl 1 rfl) ?_
  refine lv_iload_n hx hb dX8_narrow_2 rfl (lv_at hl 2 rfl) ?_
  obtain ⟨c3, hk⟩ := ok_c hk
  obtain ⟨q1, e2, hk⟩ := ok_b hk
  rcases q1 with _ | r4
  · have hk := hR _ (ok_s (ok_e0 hk))
    exact absurd ((pr1 hk).trans hq) (fun h => by cases h)
  · have hk := ok_e1 hk
    refine zVp X w (n := 2) (As := [.int i1, .int i2]) (rest := []) (ci := 8) (C := RX8) (T := TX8) (N := 10) (c_X8_neededChain l D cy G M r0 i1 i2 e2 rfl) (gzV wm_X8_163 wi_X8_neededChain ws_X8_neededChain wn_X8 wc_X8_neededChain) rfl rfl rfl (by decide +kernel) (by decide) rfl c3 rfl rfl hl.1 (Nat.le_of_ble_eq_true rfl) dX8_narrow_3 ⟨Nat.zero_le _, Nat.zero_le _⟩ (fun H locs w => ?_)
    refine lv_astore_n (lv' := [(3, .ref r4), (0, .ref r0), (1, .int i1), (2, .int i2)]) hx hb dX8_narrow_6 rfl hl (by decide) rfl (fun ls hl => ?_)
    refine lv_aload_n hx hb dX8_narrow_7 rfl (lv_at hl 1 rfl) ?_
    obtain ⟨r5, e6, hk⟩ := ok_b hk
    refine zgr X w 8 8 59 (C := RX8) (T := TX8) (N := 10) rfl ui_X8 (by decide) rfl (tb wf_X8_59) dX8_narrow_8 c3 e6 ?_
    refine lv_aload_n hx hb dX8_narrow_11 rfl (lv_at hl 0 rfl) ?_
    obtain ⟨c9, hk⟩ := ok_c hk
    obtain ⟨q7, e8, hk⟩ := ok_b hk
    refine zVi X w (n := 1) (As := [.ref r4]) (rest := []) (ci := 4) (C := RX4) (T := TX4) (N := 3) (c_X4_find l D cy G M r5 r4 e8) (gzV wm_X8_225 wi_X4_find ws_X4_find wn_X4 wc_X4_find) rfl rfl rfl (by decide +kernel) (by decide) rfl c9 rfl rfl hl.1 (Nat.le_of_ble_eq_true rfl) dX8_narrow_12 ⟨Nat.zero_le _, Nat.zero_le _⟩ (fun H locs w => ?_)
    refine lv_if_ne (tgt := 26) hx hb dX8_narrow_15 (by decide) (fun c10 => ?_) (fun c10 => ?_)
    · have hk := ok_n c10 hk
      refine lv_aload_n hx hb dX8_narrow_26 rfl (lv_at hl 1 rfl) ?_
      obtain ⟨r11, e12, hk⟩ := ok_b hk
      refine zgr X w 8 9 66 (C := RX8) (T := TX8) (N := 10) rfl ui_X8 (by decide) rfl (tb wf_X8_66) dX8_narrow_27 c3 e12 ?_
      refine lv_aload_n hx hb dX8_narrow_30 rfl (lv_at hl 1 rfl) ?_
      obtain ⟨r13, e14, hk⟩ := ok_b hk
      refine zgr X w 8 8 59 (C := RX8) (T := TX8) (N := 10) rfl ui_X8 (by decide) rfl (tb wf_X8_59) dX8_narrow_31 c3 e14 ?_
      obtain ⟨c15, hk⟩ := ok_c hk
      refine zgNl X w 4 1 229 "BlendBench" (C := RX4) (T := TX4) (N := 3) rfl ui_X4 (by decide) rfl (by decide +kernel) dX8_narrow_34 c15 ?_
      refine lv_aload_n hx hb dX8_narrow_37 rfl (lv_at hl 0 rfl) ?_
      obtain ⟨c16, hk⟩ := ok_c hk
      refine zgNi X w 0 1 132 "BlendBench" (C := RX0) (T := TX0) (N := 7) rfl ui_X0 (by decide) rfl (by decide +kernel) dX8_narrow_38 c16 ?_
      refine lv_i2l hx hb dX8_narrow_41 rfl ?_
      refine lv_aload_n hx hb dX8_narrow_42 rfl (lv_at hl 1 rfl) ?_
      refine zgr X w 8 8 59 (C := RX8) (T := TX8) (N := 10) rfl ui_X8 (by decide) rfl (tb wf_X8_59) dX8_narrow_43 c3 e14 ?_
      refine zgNl X w 4 2 232 "BlendBench" (C := RX4) (T := TX4) (N := 3) rfl ui_X4 (by decide) rfl (by decide +kernel) dX8_narrow_46 c15 ?_
      refine lv_lmul hx hb dX8_narrow_49 ?_
      obtain ⟨c19, hk⟩ := ok_c hk
      obtain ⟨q17, e18, hk⟩ := ok_b hk
      refine zVv X w (n := 2) (As := [.long (q7.2.2.1 r13 1), .long ((Int32.toInt64 (q7.2.1 r4 1)) * (q7.2.2.1 r13 2))]) (rest := []) (ci := 1) (C := RX1) (T := TX1) (N := 2) (c_X1_put l D cy G q7.2 r11 (q7.2.2.1 r13 1) ((Int32.toInt64 (q7.2.1 r4 1)) * (q7.2.2.1 r13 2)) e18) (gzV wm_X8_182 wi_X1_put ws_X1_put wn_X1 wc_X1_put) rfl rfl rfl (by decide +kernel) (by decide) rfl c19 rfl rfl hl.1 (Nat.le_of_ble_eq_true rfl) dX8_narrow_50 ⟨Nat.zero_le _, Nat.zero_le _⟩ (fun H locs w => ?_)
      refine lv_aload_n hx hb dX8_narrow_53 rfl (lv_at hl 1 rfl) ?_
      obtain ⟨r20, e21, hk⟩ := ok_b hk
      refine zgr X w 8 9 66 (C := RX8) (T := TX8) (N := 10) rfl ui_X8 (by decide) rfl (tb wf_X8_66) dX8_narrow_54 c3 e21 ?_
      refine lv_iload_n hx hb dX8_narrow_57 rfl (lv_at hl 3 rfl) ?_
      obtain ⟨c24, hk⟩ := ok_c hk
      obtain ⟨q22, e23, hk⟩ := ok_b hk
      refine zVl X w (n := 1) (As := [.int i2]) (rest := []) (ci := 1) (C := RX1) (T := TX1) (N := 2) (c_X1_told l D cy G q17 r20 i2 e23) (gzV wm_X8_186 wi_X1_told ws_X1_told wn_X1 wc_X1_told) rfl rfl rfl (by decide +kernel) (by decide) rfl c24 rfl rfl hl.1 (Nat.le_of_ble_eq_true rfl) dX8_narrow_58 ⟨Nat.zero_le _, Nat.zero_le _⟩ (fun H locs w => ?_)
      have hk := hR _ (ok_s hk)
      exact zrl X hr hlk w dX8_narrow_61 (Option.some.inj ((pr1 hk).trans hq)) (pr2 hk)
    · have hk := ok_p c10 hk
      have hk := hR _ (ok_s hk)
      exact absurd ((pr1 hk).trans hq) (fun h => by cases h)
set_option maxHeartbeats 4000000 in
set_option maxRecDepth 100000 in
theorem x_X8_narrow (l : Launch) (hst : l.stackTraces = false) (D : va_G) (cy : Cyy) (G : Gg) (M : Mm) (r0 : Nat) (i1 : Int32) (i2 : Int32) {q : (Option Int64) × Mm} (hm : f_X8_narrow G M r0 i1 i2 = some q) (hq : q.1 = none) : XT l yX8_narrow wz_X8_narrow rx_X8_narrow D cy G M [.ref r0, .int i1, .int i2] q.2 := by
  refine XT_of (cc := cX8_narrow) (nL := 4) (ret := (some .long)) (own := RX8) (lv := [(0, .ref r0), (1, .int i1), (2, .int i2)]) (by decide) rfl rfl (Nat.le_of_ble_eq_true rfl) rfl ?_
  intro p e s m args below meth c A ls X hr hlk hz ht w hl
  have hx := X.1.1
  have hb := X.1.2.1
  obtain ⟨Qo, hR, hk⟩ : ∃ Qo : (Option Int64) × Mm → Prop, (∀ x, Qo x → x = q) ∧ OK (f_X8_narrow G M r0 i1 i2) Qo := ⟨fun x => x = q, fun _ h => h, q, hm, rfl⟩
  unfold f_X8_narrow at hk
  refine lv_aload_n hx hb dX8_narrow_0 rfl (lv_at hl 0 rfl) ?_
  refine lv_iload_n hx hb dX8_narrow_1 rfl (lv_at hl 1 rfl) ?_
  refine lv_iload_n hx hb dX8_narrow_2 rfl (lv_at hl 2 rfl) ?_
  obtain ⟨c3, hk⟩ := ok_c hk
  obtain ⟨q1, e2, hk⟩ := ok_b hk
  rcases q1 with _ | r4
  · have hk := hR _ (ok_s (ok_e0 hk))
    exact zVx X hlk hz ht w (n := 2) (As := [.int i1, .int i2]) (rest := []) (ci := 8) (C := RX8) (T := TX8) (N := 10) (x_X8_neededChain l hst D cy G M r0 i1 i2 e2 rfl) (gzV wm_X8_163 wi_X8_neededChain ws_X8_neededChain wn_X8 wc_X8_neededChain) rfl rfl rfl (by decide +kernel) (by decide) rfl c3 rfl rfl hl.1 (Nat.le_of_ble_eq_true rfl) dX8_narrow_3 (by decide) (pr2 hk)
  · have hk := ok_e1 hk
    refine zVp X w (n := 2) (As := [.int i1, .int i2]) (rest := []) (ci := 8) (C := RX8) (T := TX8) (N := 10) (c_X8_neededChain l D cy G M r0 i1 i2 e2 rfl) (gzV wm_X8_163 wi_X8_neededChain ws_X8_neededChain wn_X8 wc_X8_neededChain) rfl rfl rfl (by decide +kernel) (by decide) rfl c3 rfl rfl hl.1 (Nat.le_of_ble_eq_true rfl) dX8_narrow_3 ⟨Nat.zero_le _, Nat.zero_le _⟩ (fun H locs w => ?_)
    refine lv_astore_n (lv' := [(3, .ref r4), (0, .ref r0), (1, .int i1), (2, .int i2)]) hx hb dX8_narrow_6 rfl hl (by decide) rfl (fun ls hl => ?_)
    refine lv_aload_n hx hb dX8_narrow_7 rfl (lv_at hl 1 rfl) ?_
    obtain ⟨r5, e6, hk⟩ := ok_b hk
    refine zgr X w 8 8 59 (C := RX8) (T := TX8) (N := 10) rfl ui_X8 (by decide) rfl (tb wf_X8_59) dX8_narrow_8 c3 e6 ?_
    refine lv_aload_n hx hb dX8_narrow_11 rfl (lv_at hl 0 rfl) ?_
    obtain ⟨c9, hk⟩ := ok_c hk
    obtain ⟨q7, e8, hk⟩ := ok_b hk
    refine zVi X w (n := 1) (As := [.ref r4]) (rest := []) (ci := 4) (C := RX4) (T := TX4) (N := 3) (c_X4_find l D cy G M r5 r4 e8) (gzV wm_X8_225 wi_X4_find ws_X4_find wn_X4 wc_X4_find) rfl rfl rfl (by decide +kernel) (by decide) rfl c9 rfl rfl hl.1 (Nat.le_of_ble_eq_true rfl) dX8_narrow_12 ⟨Nat.zero_le _, Nat.zero_le _⟩ (fun H locs w => ?_)
    refine lv_if_ne (tgt := 26) hx hb dX8_narrow_15 (by decide) (fun c10 => ?_) (fun c10 => ?_)
    · have hk := ok_n c10 hk
      refine lv_aload_n hx hb dX8_narrow_26 rfl (lv_at hl 1 rfl) ?_
      obtain ⟨r11, e12, hk⟩ := ok_b hk
      refine zgr X w 8 9 66 (C := RX8) (T := TX8) (N := 10) rfl ui_X8 (by decide) rfl (tb wf_X8_66) dX8_narrow_27 c3 e12 ?_
      refine lv_aload_n hx hb dX8_narrow_30 rfl (lv_at hl 1 rfl) ?_
      obtain ⟨r13, e14, hk⟩ := ok_b hk
      refine zgr X w 8 8 59 (C := RX8) (T := TX8) (N := 10) rfl ui_X8 (by decide) rfl (tb wf_X8_59) dX8_narrow_31 c3 e14 ?_
      obtain ⟨c15, hk⟩ := ok_c hk
      refine zgNl X w 4 1 229 "BlendBench" (C := RX4) (T := TX4) (N := 3) rfl ui_X4 (by decide) rfl (by decide +kernel) dX8_narrow_34 c15 ?_
      refine lv_aload_n hx hb dX8_narrow_37 rfl (lv_at hl 0 rfl) ?_
      obtain ⟨c16, hk⟩ := ok_c hk
      refine zgNi X w 0 1 132 "BlendBench" (C := RX0) (T := TX0) (N := 7) rfl ui_X0 (by decide) rfl (by decide +kernel) dX8_narrow_38 c16 ?_
      refine lv_i2l hx hb dX8_narrow_41 rfl ?_
      refine lv_aload_n hx hb dX8_narrow_42 rfl (lv_at hl 1 rfl) ?_
      refine zgr X w 8 8 59 (C := RX8) (T := TX8) (N := 10) rfl ui_X8 (by decide) rfl (tb wf_X8_59) dX8_narrow_43 c3 e14 ?_
      refine zgNl X w 4 2 232 "BlendBench" (C := RX4) (T := TX4) (N := 3) rfl ui_X4 (by decide) rfl (by decide +kernel) dX8_narrow_46 c15 ?_
      refine lv_lmul hx hb dX8_narrow_49 ?_
      obtain ⟨c19, hk⟩ := ok_c hk
      obtain ⟨q17, e18, hk⟩ := ok_b hk
      refine zVv X w (n := 2) (As := [.long (q7.2.2.1 r13 1), .long ((Int32.toInt64 (q7.2.1 r4 1)) * (q7.2.2.1 r13 2))]) (rest := []) (ci := 1) (C := RX1) (T := TX1) (N := 2) (c_X1_put l D cy G q7.2 r11 (q7.2.2.1 r13 1) ((Int32.toInt64 (q7.2.1 r4 1)) * (q7.2.2.1 r13 2)) e18) (gzV wm_X8_182 wi_X1_put ws_X1_put wn_X1 wc_X1_put) rfl rfl rfl (by decide +kernel) (by decide) rfl c19 rfl rfl hl.1 (Nat.le_of_ble_eq_true rfl) dX8_narrow_50 ⟨Nat.zero_le _, Nat.zero_le _⟩ (fun H locs w => ?_)
      refine lv_aload_n hx hb dX8_narrow_53 rfl (lv_at hl 1 rfl) ?_
      obtain ⟨r20, e21, hk⟩ := ok_b hk
      refine zgr X w 8 9 66 (C := RX8) (T := TX8) (N := 10) rfl ui_X8 (by decide) rfl (tb wf_X8_66) dX8_narrow_54 c3 e21 ?_
      refine lv_iload_n hx hb dX8_narrow_57 rfl (lv_at hl 3 rfl) ?_
      obtain ⟨c24, hk⟩ := ok_c hk
      obtain ⟨q22, e23, hk⟩ := ok_b hk
      refine zVl X w (n := 1) (As := [.int i2]) (rest := []) (ci := 1) (C := RX1) (T := TX1) (N := 2) (c_X1_told l D cy G q17 r20 i2 e23) (gzV wm_X8_186 wi_X1_told ws_X1_told wn_X1 wc_X1_told) rfl rfl rfl (by decide +kernel) (by decide) rfl c24 rfl rfl hl.1 (Nat.le_of_ble_eq_true rfl) dX8_narrow_58 ⟨Nat.zero_le _, Nat.zero_le _⟩ (fun H locs w => ?_)
      have hk := hR _ (ok_s hk)
      exact absurd ((pr1 hk).trans hq) (fun h => by cases h)
    · have hk := ok_p c10 hk
      have hk := hR _ (ok_s hk)
      exact zthrow X hlk hz hst ht w hl.1 dX8_narrow_18 dX8_narrow_21 dX8_narrow_22 dX8_narrow_25 (by decide) (Nat.le_of_ble_eq_true rfl) (by decide) (by decide) (pr2 hk)
abbrev rm_X8_cut : Room := { frames := 6, cells := 0, slots := 0, locals := 129 }
set_option maxHeartbeats 4000000 in
set_option maxRecDepth 100000 in
theorem c_X8_cut (l : Launch) (D : va_G) (cy : Cyy) (G : Gg) (M : Mm) (r0 : Nat) (i1 : Int32) {q : Int32 × Mm} (hm : f_X8_cut G M r0 i1 = some q) : CI l yX8_cut wz_X8_cut rm_X8_cut D cy G M [.ref r0, .int i1] q.1 q.2 := by
  refine Met_of (Qf := fun A => QI D cy G A q.1 q.2) (cc := cX8_cut) (nL := 3) (ret := (some .int)) (own := RX8) (lv := [(0, .ref r0), (1, .int i1)]) (by decide) rfl rfl (Nat.le_of_ble_eq_true rfl) rfl ?_
  intro p e s m args below meth c A ls X hr hlk w hl
  have hx := X.1.1
  have hb := X.1.2.1
  obtain ⟨Qo, hR, hk⟩ : ∃ Qo : Int32 × Mm → Prop, (∀ x, Qo x → x = q) ∧ OK (f_X8_cut G M r0 i1) Qo := ⟨fun x => x = q, fun _ h => h, q, hm, rfl⟩
  unfold f_X8_cut at hk
  refine lv_aload_n hx hb dX8_cut_0 rfl (lv_at hl 0 rfl) ?_
  refine lv_iload_n hx hb dX8_cut_1 rfl (lv_at hl 1 rfl) ?_
  obtain ⟨c3, hk⟩ := ok_c hk
  obtain ⟨q1, e2, hk⟩ := ok_b hk
  refine zVp X w (n := 1) (As := [.int i1]) (rest := []) (ci := 8) (C := RX8) (T := TX8) (N := 10) (c_X8_chainIn l D cy G M r0 i1 e2) (gzV wm_X8_95 wi_X8_chainIn ws_X8_chainIn wn_X8 wc_X8_chainIn) rfl rfl rfl (by decide +kernel) (by decide) rfl c3 rfl rfl hl.1 (Nat.le_of_ble_eq_true rfl) dX8_cut_2 ⟨Nat.zero_le _, Nat.zero_le _⟩ (fun H locs w => ?_)
  rcases q1 with _ | r4
  · have hk := ok_e0 hk
    refine lv_astore_nN (lv' := [(2, .null), (0, .ref r0), (1, .int i1)]) hx hb dX8_cut_5 rfl hl (by decide) rfl (fun ls hl => ?_)
    refine lv_aload_nN hx hb dX8_cut_6 rfl (lv_at hl 0 rfl) ?_
    refine lv_ifnullN (tgt := 31) hx hb dX8_cut_7 (by decide) ?_
    refine lv_iconst (v := (-1)) hx hb dX8_cut_31 (by decide) ?_
    have hk := hR _ (ok_s hk)
    exact zri X hr hlk w dX8_cut_32 (pr1 hk) (pr2 hk)
  · have hk := ok_e1 hk
    refine lv_astore_n (lv' := [(2, .ref r4), (0, .ref r0), (1, .int i1)]) hx hb dX8_cut_5 rfl hl (by decide) rfl (fun ls hl => ?_)
    refine lv_aload_n hx hb dX8_cut_6 rfl (lv_at hl 0 rfl) ?_
    refine lv_ifnull hx hb dX8_cut_7 ?_
    refine lv_aload_n hx hb dX8_cut_10 rfl (lv_at hl 1 rfl) ?_
    obtain ⟨r5, e6, hk⟩ := ok_b hk
    refine zgr X w 8 8 59 (C := RX8) (T := TX8) (N := 10) rfl ui_X8 (by decide) rfl (tb wf_X8_59) dX8_cut_11 c3 e6 ?_
    refine lv_aload_n hx hb dX8_cut_14 rfl (lv_at hl 0 rfl) ?_
    obtain ⟨c9, hk⟩ := ok_c hk
    obtain ⟨q7, e8, hk⟩ := ok_b hk
    refine zVi X w (n := 1) (As := [.ref r4]) (rest := []) (ci := 4) (C := RX4) (T := TX4) (N := 3) (c_X4_find l D cy G M r5 r4 e8) (gzV wm_X8_225 wi_X4_find ws_X4_find wn_X4 wc_X4_find) rfl rfl rfl (by decide +kernel) (by decide) rfl c9 rfl rfl hl.1 (Nat.le_of_ble_eq_true rfl) dX8_cut_15 ⟨Nat.zero_le _, Nat.zero_le _⟩ (fun H locs w => ?_)
    refine lv_if_eq (tgt := 31) hx hb dX8_cut_18 (by decide) (fun c10 => ?_) (fun c10 => ?_)
    · have hk := ok_p c10 hk
      refine lv_iconst (v := (-1)) hx hb dX8_cut_31 (by decide) ?_
      have hk := hR _ (ok_s hk)
      exact zri X hr hlk w dX8_cut_32 (pr1 hk) (pr2 hk)
    · have hk := ok_n c10 hk
      refine lv_aload_n hx hb dX8_cut_21 rfl (lv_at hl 1 rfl) ?_
      obtain ⟨r11, e12, hk⟩ := ok_b hk
      refine zgr X w 8 8 59 (C := RX8) (T := TX8) (N := 10) rfl ui_X8 (by decide) rfl (tb wf_X8_59) dX8_cut_22 c3 e12 ?_
      obtain ⟨c13, hk⟩ := ok_c hk
      refine zgNi X w 4 0 235 "BlendBench" (C := RX4) (T := TX4) (N := 3) rfl ui_X4 (by decide) rfl (by decide +kernel) dX8_cut_25 c13 ?_
      refine lv_goto (tgt := 32) hx hb dX8_cut_28 (by decide) ?_
      have hk := hR _ (ok_s hk)
      exact zri X hr hlk w dX8_cut_32 (pr1 hk) (pr2 hk)
abbrev rm_X8_filledSlots : Room := { frames := 0, cells := 0, slots := 0, locals := 0 }
set_option maxHeartbeats 4000000 in
set_option maxRecDepth 100000 in
theorem wb_X8_filledSlots_4 {p : Program} {l : Launch} {e : Env} {s : State} {m : MethodId} {args : Array Value} {below : List Frame} {meth : Method} {c : Code} {D : va_G} {cy : Cyy} {A : Nat → Prop} {G : Gg} (X : Cx p m c cX8_filledSlots 3 s args wz_X8_filledSlots RX8 D cy) {Q : State → Prop} (M : Mm) (r0 : Nat) (Qo : Int32 → Prop)  (hE : ∀ (y : Int32), Qo (y) → ∀ (H : Heap) (locs : List Loc) (ls : Array Slot), Wo s D cy A G M H locs → lv_has ls 3 [(1, .int y)] → W p l e rm_X8_filledSlots s m args below meth c H locs 0 0 Q (F0 m 31 ls [])) (rec : Int32 → Int32 → Option (Int32)) (hrec : ∀ (i1 : Int32) (i2 : Int32) (H : Heap) (locs : List Loc) (ls : Array Slot), Wo s D cy A G M H locs → lv_has ls 3 [(0, .ref r0), (1, .int i1), (2, .int i2)] → OK (rec i1 i2) Qo → W p l e rm_X8_filledSlots s m args below meth c H locs 0 0 Q (F0 m 4 ls [])) (i1 : Int32) (i2 : Int32) (H : Heap) (locs : List Loc) (ls : Array Slot) (w : Wo s D cy A G M H locs) (hl : lv_has ls 3 [(0, .ref r0), (1, .int i1), (2, .int i2)]) (hk : OK (bd_X8_filledSlots_4 G M r0 rec i1 i2) Qo) : W p l e rm_X8_filledSlots s m args below meth c H locs 0 0 Q (F0 m 4 ls []) := by
    have hx := X.1.1
    have hb := X.1.2.1
    unfold bd_X8_filledSlots_4 at hk
    refine lv_iload_n hx hb dX8_filledSlots_4 rfl (lv_at hl 2 rfl) ?_
    refine lv_bipush (v := 6) hx hb dX8_filledSlots_5 (by decide) ?_
    refine lv_icmp_ge (tgt := 31) hx hb dX8_filledSlots_7 (by decide) (fun c1 => ?_) (fun c1 => ?_)
    · have hk := ok_p c1 hk
      exact hE i1 (ok_s hk) _ _ _ w (lv_sub hl [1] rfl)
    · have hk := ok_n c1 hk
      refine lv_aload_n hx hb dX8_filledSlots_10 rfl (lv_at hl 0 rfl) ?_
      obtain ⟨c2, hk⟩ := ok_c hk
      obtain ⟨r3, e4, hk⟩ := ok_b hk
      refine zgr X w 8 3 26 (C := RX8) (T := TX8) (N := 10) rfl ui_X8 (by decide) rfl (tb wf_X8_26) dX8_filledSlots_11 c2 e4 ?_
      refine lv_iload_n hx hb dX8_filledSlots_14 rfl (lv_at hl 2 rfl) ?_
      obtain ⟨c5, hk⟩ := ok_c hk
      obtain ⟨c6, hk⟩ := ok_c hk
      obtain ⟨r7, e8, hk⟩ := ok_b hk
      refine zar X w dX8_filledSlots_15 c5 c6 e8 ?_
      obtain ⟨c9, hk⟩ := ok_c hk
      refine zgNi X w 0 0 111 "BlendBench" (C := RX0) (T := TX0) (N := 7) rfl ui_X0 (by decide) rfl (by decide +kernel) dX8_filledSlots_16 c9 ?_
      refine lv_if_le (tgt := 25) hx hb dX8_filledSlots_19 (by decide) (fun c10 => ?_) (fun c10 => ?_)
      · have hk := ok_p c10 hk
        refine lv_iinc (v := (i2 + 1)) (lv' := [(2, .int (i2 + 1)), (0, .ref r0), (1, .int i1)]) hx hb dX8_filledSlots_25 hl (k := 2) rfl rfl (by decide) rfl (fun ls hl => ?_)
        refine lv_goto (tgt := 4) hx hb dX8_filledSlots_28 (by decide) ?_
        exact hrec i1 (i2 + 1) _ _ _ w (lv_sub hl [1, 2, 0] rfl) hk
      · have hk := ok_n c10 hk
        refine lv_iinc (v := (i1 + 1)) (lv' := [(1, .int (i1 + 1)), (0, .ref r0), (2, .int i2)]) hx hb dX8_filledSlots_22 hl (k := 1) rfl rfl (by decide) rfl (fun ls hl => ?_)
        refine lv_iinc (v := (i2 + 1)) (lv' := [(2, .int (i2 + 1)), (1, .int (i1 + 1)), (0, .ref r0)]) hx hb dX8_filledSlots_25 hl (k := 2) rfl rfl (by decide) rfl (fun ls hl => ?_)
        refine lv_goto (tgt := 4) hx hb dX8_filledSlots_28 (by decide) ?_
        exact hrec (i1 + 1) (i2 + 1) _ _ _ w (lv_sub hl [2, 1, 0] rfl) hk
theorem wl_X8_filledSlots_4 {p : Program} {l : Launch} {e : Env} {s : State} {m : MethodId} {args : Array Value} {below : List Frame} {meth : Method} {c : Code} {D : va_G} {cy : Cyy} {A : Nat → Prop} {G : Gg} (X : Cx p m c cX8_filledSlots 3 s args wz_X8_filledSlots RX8 D cy) {Q : State → Prop} (M : Mm) (r0 : Nat) (Qo : Int32 → Prop)  (hE : ∀ (y : Int32), Qo (y) → ∀ (H : Heap) (locs : List Loc) (ls : Array Slot), Wo s D cy A G M H locs → lv_has ls 3 [(1, .int y)] → W p l e rm_X8_filledSlots s m args below meth c H locs 0 0 Q (F0 m 31 ls [])) : ∀ (n : Nat) (i1 : Int32) (i2 : Int32) (H : Heap) (locs : List Loc) (ls : Array Slot), Wo s D cy A G M H locs → lv_has ls 3 [(0, .ref r0), (1, .int i1), (2, .int i2)] → OK (lp_X8_filledSlots_4 G M r0 n i1 i2) Qo → W p l e rm_X8_filledSlots s m args below meth c H locs 0 0 Q (F0 m 4 ls []) := by
  intro n
  induction n with
  | zero => intro i1 i2 H locs ls w hl hk; exact ok_0 hk
  | succ n ih => intro i1 i2 H locs ls w hl hk; exact wb_X8_filledSlots_4 X M r0 Qo hE  (lp_X8_filledSlots_4 G M r0 n) ih i1 i2 H locs ls w hl hk
set_option maxHeartbeats 4000000 in
set_option maxRecDepth 100000 in
theorem c_X8_filledSlots (l : Launch) (D : va_G) (cy : Cyy) (G : Gg) (M : Mm) (r0 : Nat) {q : Int32} (hm : f_X8_filledSlots G M r0 = some q) : CI l yX8_filledSlots wz_X8_filledSlots rm_X8_filledSlots D cy G M [.ref r0] q M := by
  refine Met_of (Qf := fun A => QI D cy G A q M) (cc := cX8_filledSlots) (nL := 3) (ret := (some .int)) (own := RX8) (lv := [(0, .ref r0)]) (by decide) rfl rfl (Nat.le_of_ble_eq_true rfl) rfl ?_
  intro p e s m args below meth c A ls X hr hlk w hl
  have hx := X.1.1
  have hb := X.1.2.1
  obtain ⟨Qo, hR, hk⟩ : ∃ Qo : Int32 → Prop, (∀ x, Qo x → x = q) ∧ OK (f_X8_filledSlots G M r0) Qo := ⟨fun x => x = q, fun _ h => h, q, hm, rfl⟩
  unfold f_X8_filledSlots at hk
  refine lv_iconst (v := 0) hx hb dX8_filledSlots_0 (by decide) ?_
  refine lv_istore_n (lv' := [(1, .int (0 : Int32)), (0, .ref r0)]) hx hb dX8_filledSlots_1 rfl hl (by decide) rfl (fun ls hl => ?_)
  refine lv_iconst (v := 0) hx hb dX8_filledSlots_2 (by decide) ?_
  refine lv_istore_n (lv' := [(2, .int (0 : Int32)), (1, .int (0 : Int32)), (0, .ref r0)]) hx hb dX8_filledSlots_3 rfl hl (by decide) rfl (fun ls hl => ?_)
  refine wl_X8_filledSlots_4 X M r0 (Qo := _) (fun q11 hk H locs ls w hl => ?_) FU (0 : Int32) (0 : Int32) _ _ _ w (lv_sub hl [2, 1, 0] rfl) (ok_b hk)
  refine lv_iload_n hx hb dX8_filledSlots_31 rfl (lv_at hl 0 rfl) ?_
  have hk := hR _ (ok_s hk)
  exact zri X hr hlk w dX8_filledSlots_32 hk rfl
abbrev rm_X8_count : Room := { frames := 1, cells := 0, slots := 0, locals := 22 }
set_option maxHeartbeats 4000000 in
set_option maxRecDepth 100000 in
theorem c_X8_count (l : Launch) (D : va_G) (cy : Cyy) (G : Gg) (M : Mm) (r0 : Nat) (i1 : Int32) {q : Int32} (hm : f_X8_count G M r0 i1 = some q) : CI l yX8_count wz_X8_count rm_X8_count D cy G M [.ref r0, .int i1] q M := by
  refine Met_of (Qf := fun A => QI D cy G A q M) (cc := cX8_count) (nL := 2) (ret := (some .int)) (own := RX8) (lv := [(0, .ref r0), (1, .int i1)]) (by decide) rfl rfl (Nat.le_of_ble_eq_true rfl) rfl ?_
  intro p e s m args below meth c A ls X hr hlk w hl
  have hx := X.1.1
  have hb := X.1.2.1
  obtain ⟨Qo, hR, hk⟩ : ∃ Qo : Int32 → Prop, (∀ x, Qo x → x = q) ∧ OK (f_X8_count G M r0 i1) Qo := ⟨fun x => x = q, fun _ h => h, q, hm, rfl⟩
  unfold f_X8_count at hk
  refine lv_iload_n hx hb dX8_count_0 rfl (lv_at hl 1 rfl) ?_
  by_cases s1 : i1 = 0
  · have hk := ok_p s1 hk
    refine lv_tableIn (off := 27) (tgt := 28) hx hb dX8_count_1 (by rw [s1]; decide) (by rw [s1]; decide) (by rw [s1]; rfl) (by decide) ?_
    refine lv_aload_n hx hb dX8_count_28 rfl (lv_at hl 0 rfl) ?_
    obtain ⟨c4, hk⟩ := ok_c hk
    obtain ⟨q2, e3, hk⟩ := ok_b hk
    refine zVi X w (n := 0) (As := []) (rest := []) (ci := 8) (C := RX8) (T := TX8) (N := 10) (c_X8_filledSlots l D cy G M r0 e3) (gzV wm_X8_238 wi_X8_filledSlots ws_X8_filledSlots wn_X8 wc_X8_filledSlots) rfl rfl rfl (by decide +kernel) (by decide) rfl c4 rfl rfl hl.1 (Nat.le_of_ble_eq_true rfl) dX8_count_29 ⟨Nat.zero_le _, Nat.zero_le _⟩ (fun H locs w => ?_)
    have hk := hR _ (ok_s hk)
    exact zri X hr hlk w dX8_count_32 hk rfl
  · have hk := ok_n s1 hk
    by_cases s5 : i1 = 1
    · have hk := ok_p s5 hk
      refine lv_tableIn (off := 32) (tgt := 33) hx hb dX8_count_1 (by rw [s5]; decide) (by rw [s5]; decide) (by rw [s5]; rfl) (by decide) ?_
      refine lv_aload_n hx hb dX8_count_33 rfl (lv_at hl 0 rfl) ?_
      obtain ⟨c6, hk⟩ := ok_c hk
      obtain ⟨r7, e8, hk⟩ := ok_b hk
      refine zgr X w 8 0 10 (C := RX8) (T := TX8) (N := 10) rfl ui_X8 (by decide) rfl (tb wf_X8_10) dX8_count_34 c6 e8 ?_
      obtain ⟨c9, hk⟩ := ok_c hk
      refine zgNi X w 6 1 78 "BlendBench" (C := RX6) (T := TX6) (N := 2) rfl ui_X6 (by decide) rfl (by decide +kernel) dX8_count_37 c9 ?_
      have hk := hR _ (ok_s hk)
      exact zri X hr hlk w dX8_count_40 hk rfl
    · have hk := ok_n s5 hk
      by_cases s10 : i1 = 2
      · have hk := ok_p s10 hk
        refine lv_tableIn (off := 40) (tgt := 41) hx hb dX8_count_1 (by rw [s10]; decide) (by rw [s10]; decide) (by rw [s10]; rfl) (by decide) ?_
        refine lv_aload_n hx hb dX8_count_41 rfl (lv_at hl 0 rfl) ?_
        obtain ⟨c11, hk⟩ := ok_c hk
        refine zgi X w 8 2 20 (C := RX8) (T := TX8) (N := 10) rfl ui_X8 (by decide) rfl (tb wf_X8_20) dX8_count_42 c11 ?_
        have hk := hR _ (ok_s hk)
        exact zri X hr hlk w dX8_count_45 hk rfl
      · have hk := ok_n s10 hk
        refine lv_tableOut (tgt := 46) hx hb dX8_count_1 (by have h0 := sw_ne (k := 0) (by decide) s1; have h1 := sw_ne (k := 1) (by decide) s5; have h2 := sw_ne (k := 2) (by decide) s10; omega) (by decide) ?_
        refine lv_iconst (v := (-1)) hx hb dX8_count_46 (by decide) ?_
        have hk := hR _ (ok_s hk)
        exact zri X hr hlk w dX8_count_47 hk rfl
abbrev rm_X9_thrown : Room := { frames := 0, cells := 0, slots := 0, locals := 0 }
set_option maxHeartbeats 4000000 in
set_option maxRecDepth 100000 in
theorem c_X9_thrown (l : Launch) (D : va_G) (cy : Cyy) (G : Gg) (M : Mm) (r0 : Nat) {q : Int32} (hm : f_X9_thrown G M r0 = some q) : CI l yX9_thrown wz_X9_thrown rm_X9_thrown D cy G M [.ref r0] q M := by
  refine Met_of (Qf := fun A => QI D cy G A q M) (cc := cX9_thrown) (nL := 1) (ret := (some .int)) (own := RX9) (lv := [(0, .ref r0)]) (by decide) rfl rfl (Nat.le_of_ble_eq_true rfl) rfl ?_
  intro p e s m args below meth c A ls X hr hlk w hl
  have hx := X.1.1
  have hb := X.1.2.1
  obtain ⟨Qo, hR, hk⟩ : ∃ Qo : Int32 → Prop, (∀ x, Qo x → x = q) ∧ OK (f_X9_thrown G M r0) Qo := ⟨fun x => x = q, fun _ h => h, q, hm, rfl⟩
  unfold f_X9_thrown at hk
  refine lv_aload_n hx hb dX9_thrown_0 rfl (lv_at hl 0 rfl) ?_
  obtain ⟨c1, hk⟩ := ok_c hk
  refine zgi X w 9 0 59 (C := RX9) (T := TX9) (N := 23) rfl ui_X9 (by decide) rfl (tb wf_X9_59) dX9_thrown_1 c1 ?_
  have hk := hR _ (ok_s hk)
  exact zri X hr hlk w dX9_thrown_4 hk rfl
abbrev rm_X9_refuse : Room := { frames := 0, cells := 0, slots := 0, locals := 0 }
set_option maxHeartbeats 4000000 in
set_option maxRecDepth 100000 in
theorem c_X9_refuse (l : Launch) (D : va_G) (cy : Cyy) (G : Gg) (M : Mm) (r0 : Nat) {q : Int32 × Mm} (hm : f_X9_refuse G M r0 = some q) : CI l yX9_refuse wz_X9_refuse rm_X9_refuse D cy G M [.ref r0] q.1 q.2 := by
  refine Met_of (Qf := fun A => QI D cy G A q.1 q.2) (cc := cX9_refuse) (nL := 1) (ret := (some .int)) (own := RX9) (lv := [(0, .ref r0)]) (by decide) rfl rfl (Nat.le_of_ble_eq_true rfl) rfl ?_
  intro p e s m args below meth c A ls X hr hlk w hl
  have hx := X.1.1
  have hb := X.1.2.1
  obtain ⟨Qo, hR, hk⟩ : ∃ Qo : Int32 × Mm → Prop, (∀ x, Qo x → x = q) ∧ OK (f_X9_refuse G M r0) Qo := ⟨fun x => x = q, fun _ h => h, q, hm, rfl⟩
  unfold f_X9_refuse at hk
  refine lv_aload_n hx hb dX9_refuse_0 rfl (lv_at hl 0 rfl) ?_
  refine lv_iconst (v := 1) hx hb dX9_refuse_1 (by decide) ?_
  obtain ⟨c1, hk⟩ := ok_c hk
  refine zpi X w 9 0 59 tyX9 (C := RX9) (T := TX9) (N := 23) rfl ui_X9 tyX9_ok nmX9 (by decide) rfl (tb wf_X9_59) rfl rfl dX9_refuse_2 c1 (fun H locs w => ?_)
  refine lv_iconst (v := 0) hx hb dX9_refuse_5 (by decide) ?_
  have hk := hR _ (ok_s hk)
  exact zri X hr hlk w dX9_refuse_6 (pr1 hk) (pr2 hk)
abbrev rm_X9_come : Room := { frames := 0, cells := 0, slots := 0, locals := 0 }
set_option maxHeartbeats 4000000 in
set_option maxRecDepth 100000 in
theorem wb_X9_come_3 {p : Program} {l : Launch} {e : Env} {s : State} {m : MethodId} {args : Array Value} {below : List Frame} {meth : Method} {c : Code} {D : va_G} {cy : Cyy} {A : Nat → Prop} {G : Gg} (X : Cx p m c cX9_come 3 s args wz_X9_come RX9 D cy) {Q : State → Prop} (r0 : Nat) (i1 : Int32) (Qo : Mm → Prop)  (hE : ∀ (y : Mm), Qo (y) → ∀ (H : Heap) (locs : List Loc) (ls : Array Slot), Wo s D cy A G y H locs → lv_has ls 3 [] → W p l e rm_X9_come s m args below meth c H locs 0 0 Q (F0 m 39 ls [])) (rec : Int32 → Mm → Option (Mm)) (hrec : ∀ (i2 : Int32) (M : Mm) (H : Heap) (locs : List Loc) (ls : Array Slot), Wo s D cy A G M H locs → lv_has ls 3 [(0, .ref r0), (1, .int i1), (2, .int i2)] → OK (rec i2 M) Qo → W p l e rm_X9_come s m args below meth c H locs 0 0 Q (F0 m 3 ls [])) (i2 : Int32) (M : Mm) (H : Heap) (locs : List Loc) (ls : Array Slot) (w : Wo s D cy A G M H locs) (hl : lv_has ls 3 [(0, .ref r0), (1, .int i1), (2, .int i2)]) (hk : OK (bd_X9_come_3 G r0 i1 rec i2 M) Qo) : W p l e rm_X9_come s m args below meth c H locs 0 0 Q (F0 m 3 ls []) := by
    have hx := X.1.1
    have hb := X.1.2.1
    unfold bd_X9_come_3 at hk
    refine lv_iload_n hx hb dX9_come_3 rfl (lv_at hl 2 rfl) ?_
    refine lv_if_lt (tgt := 39) hx hb dX9_come_4 (by decide) (fun c1 => ?_) (fun c1 => ?_)
    · have hk := ok_p c1 hk
      exact hE M (ok_s hk) _ _ _ w (lv_sub hl [] rfl)
    · have hk := ok_n c1 hk
      refine lv_aload_n hx hb dX9_come_7 rfl (lv_at hl 0 rfl) ?_
      obtain ⟨c2, hk⟩ := ok_c hk
      obtain ⟨r3, e4, hk⟩ := ok_b hk
      refine zgr X w 9 1 7 (C := RX9) (T := TX9) (N := 23) rfl ui_X9 (by decide) rfl (tb wf_X9_7) dX9_come_8 c2 e4 ?_
      refine lv_aload_n hx hb dX9_come_11 rfl (lv_at hl 0 rfl) ?_
      refine zgi X w 9 2 63 (C := RX9) (T := TX9) (N := 23) rfl ui_X9 (by decide) rfl (tb wf_X9_63) dX9_come_12 c2 ?_
      refine lv_iload_n hx hb dX9_come_15 rfl (lv_at hl 1 rfl) ?_
      refine lv_iload_n hx hb dX9_come_16 rfl (lv_at hl 2 rfl) ?_
      refine lv_iushr hx hb dX9_come_17 rfl ?_
      refine lv_sipush (v := 255) hx hb dX9_come_18 (by decide) ?_
      refine lv_iand hx hb dX9_come_21 ?_
      obtain ⟨c5, hk⟩ := ok_c hk
      obtain ⟨c6, hk⟩ := ok_c hk
      refine zsi X w dX9_come_22 c5 c6 (fun H locs w => ?_)
      refine lv_aload_n hx hb dX9_come_23 rfl (lv_at hl 0 rfl) ?_
      refine lv_dup hx hb dX9_come_24 rfl ?_
      refine zgi X w 9 2 63 (C := RX9) (T := TX9) (N := 23) rfl ui_X9 (by decide) rfl (tb wf_X9_63) dX9_come_25 c2 ?_
      refine lv_iconst (v := 1) hx hb dX9_come_28 (by decide) ?_
      refine lv_iadd hx hb dX9_come_29 ?_
      refine zpi X w 9 2 63 tyX9 (C := RX9) (T := TX9) (N := 23) rfl ui_X9 tyX9_ok nmX9 (by decide) rfl (tb wf_X9_63) rfl rfl dX9_come_30 c2 (fun H locs w => ?_)
      refine lv_iinc (v := (i2 + (-8))) (lv' := [(2, .int (i2 + (-8))), (0, .ref r0), (1, .int i1)]) hx hb dX9_come_33 hl (k := 2) rfl rfl (by decide) rfl (fun ls hl => ?_)
      refine lv_goto (tgt := 3) hx hb dX9_come_36 (by decide) ?_
      exact hrec (i2 + (-8)) (mwI (mwI M r3 (Int32.toNatClampNeg (M.1 r0 2)) (((Int32.toUInt32 i1 >>> (Int32.toUInt32 i2 &&& Int32.toUInt32 31)).toInt32) &&& (255 : Int32))) r0 2 (((mwI M r3 (Int32.toNatClampNeg (M.1 r0 2)) (((Int32.toUInt32 i1 >>> (Int32.toUInt32 i2 &&& Int32.toUInt32 31)).toInt32) &&& (255 : Int32))).1 r0 2) + (1 : Int32))) _ _ _ w (lv_sub hl [1, 2, 0] rfl) hk
theorem wl_X9_come_3 {p : Program} {l : Launch} {e : Env} {s : State} {m : MethodId} {args : Array Value} {below : List Frame} {meth : Method} {c : Code} {D : va_G} {cy : Cyy} {A : Nat → Prop} {G : Gg} (X : Cx p m c cX9_come 3 s args wz_X9_come RX9 D cy) {Q : State → Prop} (r0 : Nat) (i1 : Int32) (Qo : Mm → Prop)  (hE : ∀ (y : Mm), Qo (y) → ∀ (H : Heap) (locs : List Loc) (ls : Array Slot), Wo s D cy A G y H locs → lv_has ls 3 [] → W p l e rm_X9_come s m args below meth c H locs 0 0 Q (F0 m 39 ls [])) : ∀ (n : Nat) (i2 : Int32) (M : Mm) (H : Heap) (locs : List Loc) (ls : Array Slot), Wo s D cy A G M H locs → lv_has ls 3 [(0, .ref r0), (1, .int i1), (2, .int i2)] → OK (lp_X9_come_3 G r0 i1 n i2 M) Qo → W p l e rm_X9_come s m args below meth c H locs 0 0 Q (F0 m 3 ls []) := by
  intro n
  induction n with
  | zero => intro i2 M H locs ls w hl hk; exact ok_0 hk
  | succ n ih => intro i2 M H locs ls w hl hk; exact wb_X9_come_3 X r0 i1 Qo hE  (lp_X9_come_3 G r0 i1 n) ih i2 M H locs ls w hl hk
set_option maxHeartbeats 4000000 in
set_option maxRecDepth 100000 in
theorem c_X9_come (l : Launch) (D : va_G) (cy : Cyy) (G : Gg) (M : Mm) (r0 : Nat) (i1 : Int32) {q : Mm} (hm : f_X9_come G M r0 i1 = some q) : CV l yX9_come wz_X9_come rm_X9_come D cy G M [.ref r0, .int i1] q := by
  refine Met_of (Qf := fun A => QV D cy G A q) (cc := cX9_come) (nL := 3) (ret := none) (own := RX9) (lv := [(0, .ref r0), (1, .int i1)]) (by decide) rfl rfl (Nat.le_of_ble_eq_true rfl) rfl ?_
  intro p e s m args below meth c A ls X hr hlk w hl
  have hx := X.1.1
  have hb := X.1.2.1
  obtain ⟨Qo, hR, hk⟩ : ∃ Qo : Mm → Prop, (∀ x, Qo x → x = q) ∧ OK (f_X9_come G M r0 i1) Qo := ⟨fun x => x = q, fun _ h => h, q, hm, rfl⟩
  unfold f_X9_come at hk
  refine lv_bipush (v := 24) hx hb dX9_come_0 (by decide) ?_
  refine lv_istore_n (lv' := [(2, .int (24 : Int32)), (0, .ref r0), (1, .int i1)]) hx hb dX9_come_2 rfl hl (by decide) rfl (fun ls hl => ?_)
  refine wl_X9_come_3 X r0 i1 (Qo := _) (fun q7 hk H locs ls w hl => ?_) FU (24 : Int32) M _ _ _ w (lv_sub hl [1, 2, 0] rfl) (ok_b hk)
  have hk := hR _ (ok_s hk)
  exact zrv X hr hlk w dX9_come_39 hk
abbrev rm_X9_feed : Room := { frames := 1, cells := 0, slots := 0, locals := 22 }
set_option maxHeartbeats 4000000 in
set_option maxRecDepth 100000 in
theorem c_X9_feed (l : Launch) (D : va_G) (cy : Cyy) (G : Gg) (M : Mm) (r0 : Nat) (i1 : Int32) (i2 : Int32) (i3 : Int32) (i4 : Int32) (i5 : Int32) {q : Int32 × Mm} (hm : f_X9_feed G M r0 i1 i2 i3 i4 i5 = some q) : CI l yX9_feed wz_X9_feed rm_X9_feed D cy G M [.ref r0, .int i1, .int i2, .int i3, .int i4, .int i5] q.1 q.2 := by
  refine Met_of (Qf := fun A => QI D cy G A q.1 q.2) (cc := cX9_feed) (nL := 6) (ret := (some .int)) (own := RX9) (lv := [(0, .ref r0), (1, .int i1), (2, .int i2), (3, .int i3), (4, .int i4), (5, .int i5)]) (by decide) rfl rfl (Nat.le_of_ble_eq_true rfl) rfl ?_
  intro p e s m args below meth c A ls X hr hlk w hl
  have hx := X.1.1
  have hb := X.1.2.1
  obtain ⟨Qo, hR, hk⟩ : ∃ Qo : Int32 × Mm → Prop, (∀ x, Qo x → x = q) ∧ OK (f_X9_feed G M r0 i1 i2 i3 i4 i5) Qo := ⟨fun x => x = q, fun _ h => h, q, hm, rfl⟩
  unfold f_X9_feed at hk
  refine lv_aload_n hx hb dX9_feed_0 rfl (lv_at hl 0 rfl) ?_
  refine lv_iconst (v := 0) hx hb dX9_feed_1 (by decide) ?_
  obtain ⟨c1, hk⟩ := ok_c hk
  refine zpi X w 9 0 59 tyX9 (C := RX9) (T := TX9) (N := 23) rfl ui_X9 tyX9_ok nmX9 (by decide) rfl (tb wf_X9_59) rfl rfl dX9_feed_2 c1 (fun H locs w => ?_)
  refine lv_aload_n hx hb dX9_feed_5 rfl (lv_at hl 0 rfl) ?_
  refine zgi X w 9 2 63 (C := RX9) (T := TX9) (N := 23) rfl ui_X9 (by decide) rfl (tb wf_X9_63) dX9_feed_6 c1 ?_
  refine lv_bipush (v := 20) hx hb dX9_feed_9 (by decide) ?_
  refine lv_iadd hx hb dX9_feed_11 ?_
  refine lv_bipush (v := 80) hx hb dX9_feed_12 (by decide) ?_
  refine lv_icmp_le (tgt := 19) hx hb dX9_feed_14 (by decide) (fun c2 => ?_) (fun c2 => ?_)
  · have hk := ok_p c2 hk
    refine lv_aload_n hx hb dX9_feed_19 rfl (lv_at hl 0 rfl) ?_
    refine lv_iload_n hx hb dX9_feed_20 rfl (lv_at hl 1 rfl) ?_
    obtain ⟨q3, e4, hk⟩ := ok_b hk
    refine zVv X w (n := 1) (As := [.int i1]) (rest := []) (ci := 9) (C := RX9) (T := TX9) (N := 23) (c_X9_come l D cy G (mwI M r0 0 (0 : Int32)) r0 i1 e4) (gzV wm_X9_66 wi_X9_come ws_X9_come wn_X9 wc_X9_come) rfl rfl rfl (by decide +kernel) (by decide) rfl c1 rfl rfl hl.1 (Nat.le_of_ble_eq_true rfl) dX9_feed_21 ⟨Nat.zero_le _, Nat.zero_le _⟩ (fun H locs w => ?_)
    refine lv_aload_n hx hb dX9_feed_24 rfl (lv_at hl 0 rfl) ?_
    refine lv_iload_n hx hb dX9_feed_25 rfl (lv_at hl 2 rfl) ?_
    obtain ⟨q5, e6, hk⟩ := ok_b hk
    refine zVv X w (n := 1) (As := [.int i2]) (rest := []) (ci := 9) (C := RX9) (T := TX9) (N := 23) (c_X9_come l D cy G q3 r0 i2 e6) (gzV wm_X9_66 wi_X9_come ws_X9_come wn_X9 wc_X9_come) rfl rfl rfl (by decide +kernel) (by decide) rfl c1 rfl rfl hl.1 (Nat.le_of_ble_eq_true rfl) dX9_feed_26 ⟨Nat.zero_le _, Nat.zero_le _⟩ (fun H locs w => ?_)
    refine lv_aload_n hx hb dX9_feed_29 rfl (lv_at hl 0 rfl) ?_
    refine lv_iload_n hx hb dX9_feed_30 rfl (lv_at hl 3 rfl) ?_
    obtain ⟨q7, e8, hk⟩ := ok_b hk
    refine zVv X w (n := 1) (As := [.int i3]) (rest := []) (ci := 9) (C := RX9) (T := TX9) (N := 23) (c_X9_come l D cy G q5 r0 i3 e8) (gzV wm_X9_66 wi_X9_come ws_X9_come wn_X9 wc_X9_come) rfl rfl rfl (by decide +kernel) (by decide) rfl c1 rfl rfl hl.1 (Nat.le_of_ble_eq_true rfl) dX9_feed_31 ⟨Nat.zero_le _, Nat.zero_le _⟩ (fun H locs w => ?_)
    refine lv_aload_n hx hb dX9_feed_34 rfl (lv_at hl 0 rfl) ?_
    refine lv_iload hx hb dX9_feed_35 (lv_at hl 4 rfl) ?_
    obtain ⟨q9, e10, hk⟩ := ok_b hk
    refine zVv X w (n := 1) (As := [.int i4]) (rest := []) (ci := 9) (C := RX9) (T := TX9) (N := 23) (c_X9_come l D cy G q7 r0 i4 e10) (gzV wm_X9_66 wi_X9_come ws_X9_come wn_X9 wc_X9_come) rfl rfl rfl (by decide +kernel) (by decide) rfl c1 rfl rfl hl.1 (Nat.le_of_ble_eq_true rfl) dX9_feed_37 ⟨Nat.zero_le _, Nat.zero_le _⟩ (fun H locs w => ?_)
    refine lv_aload_n hx hb dX9_feed_40 rfl (lv_at hl 0 rfl) ?_
    refine lv_iload hx hb dX9_feed_41 (lv_at hl 5 rfl) ?_
    obtain ⟨q11, e12, hk⟩ := ok_b hk
    refine zVv X w (n := 1) (As := [.int i5]) (rest := []) (ci := 9) (C := RX9) (T := TX9) (N := 23) (c_X9_come l D cy G q9 r0 i5 e12) (gzV wm_X9_66 wi_X9_come ws_X9_come wn_X9 wc_X9_come) rfl rfl rfl (by decide +kernel) (by decide) rfl c1 rfl rfl hl.1 (Nat.le_of_ble_eq_true rfl) dX9_feed_43 ⟨Nat.zero_le _, Nat.zero_le _⟩ (fun H locs w => ?_)
    refine lv_aload_n hx hb dX9_feed_46 rfl (lv_at hl 0 rfl) ?_
    refine zgi X w 9 2 63 (C := RX9) (T := TX9) (N := 23) rfl ui_X9 (by decide) rfl (tb wf_X9_63) dX9_feed_47 c1 ?_
    have hk := hR _ (ok_s hk)
    exact zri X hr hlk w dX9_feed_50 (pr1 hk) (pr2 hk)
  · have hk := ok_n c2 hk
    refine lv_iconst (v := (-1)) hx hb dX9_feed_17 (by decide) ?_
    have hk := hR _ (ok_s hk)
    exact zri X hr hlk w dX9_feed_18 (pr1 hk) (pr2 hk)
abbrev rm_X9_end : Room := { frames := 0, cells := 0, slots := 0, locals := 0 }
set_option maxHeartbeats 4000000 in
set_option maxRecDepth 100000 in
theorem c_X9_end (l : Launch) (D : va_G) (cy : Cyy) (G : Gg) (M : Mm) (r0 : Nat) (i1 : Int32) {q : Int32 × Mm} (hm : f_X9_end G M r0 i1 = some q) : CI l yX9_end wz_X9_end rm_X9_end D cy G M [.ref r0, .int i1] q.1 q.2 := by
  refine Met_of (Qf := fun A => QI D cy G A q.1 q.2) (cc := cX9_end) (nL := 2) (ret := (some .boolean)) (own := RX9) (lv := [(0, .ref r0), (1, .int i1)]) (by decide) rfl rfl (Nat.le_of_ble_eq_true rfl) rfl ?_
  intro p e s m args below meth c A ls X hr hlk w hl
  have hx := X.1.1
  have hb := X.1.2.1
  obtain ⟨Qo, hR, hk⟩ : ∃ Qo : Int32 × Mm → Prop, (∀ x, Qo x → x = q) ∧ OK (f_X9_end G M r0 i1) Qo := ⟨fun x => x = q, fun _ h => h, q, hm, rfl⟩
  unfold f_X9_end at hk
  refine lv_aload_n hx hb dX9_end_0 rfl (lv_at hl 0 rfl) ?_
  refine lv_iconst (v := 0) hx hb dX9_end_1 (by decide) ?_
  obtain ⟨c1, hk⟩ := ok_c hk
  refine zpi X w 9 0 59 tyX9 (C := RX9) (T := TX9) (N := 23) rfl ui_X9 tyX9_ok nmX9 (by decide) rfl (tb wf_X9_59) rfl rfl dX9_end_2 c1 (fun H locs w => ?_)
  refine lv_iload_n hx hb dX9_end_5 rfl (lv_at hl 1 rfl) ?_
  refine lv_if_lt (tgt := 17) hx hb dX9_end_6 (by decide) (fun c2 => ?_) (fun c2 => ?_)
  · have hk := ok_p c2 hk
    refine lv_iconst (v := 0) hx hb dX9_end_17 (by decide) ?_
    have hk := hR _ (ok_s hk)
    exact zrz X hr hlk w dX9_end_18 (by decide) (pr1 hk) (pr2 hk)
  · have hk := ok_n c2 hk
    refine lv_iload_n hx hb dX9_end_9 rfl (lv_at hl 1 rfl) ?_
    refine lv_aload_n hx hb dX9_end_10 rfl (lv_at hl 0 rfl) ?_
    refine zgi X w 9 2 63 (C := RX9) (T := TX9) (N := 23) rfl ui_X9 (by decide) rfl (tb wf_X9_63) dX9_end_11 c1 ?_
    refine lv_icmp_le (tgt := 19) hx hb dX9_end_14 (by decide) (fun c3 => ?_) (fun c3 => ?_)
    · have hk := ok_p c3 hk
      refine lv_aload_n hx hb dX9_end_19 rfl (lv_at hl 0 rfl) ?_
      refine lv_iload_n hx hb dX9_end_20 rfl (lv_at hl 1 rfl) ?_
      refine zpi X w 9 2 63 tyX9 (C := RX9) (T := TX9) (N := 23) rfl ui_X9 tyX9_ok nmX9 (by decide) rfl (tb wf_X9_63) rfl rfl dX9_end_21 c1 (fun H locs w => ?_)
      refine lv_iconst (v := 1) hx hb dX9_end_24 (by decide) ?_
      have hk := hR _ (ok_s hk)
      exact zrz X hr hlk w dX9_end_25 (by decide) (pr1 hk) (pr2 hk)
    · have hk := ok_n c3 hk
      refine lv_iconst (v := 0) hx hb dX9_end_17 (by decide) ?_
      have hk := hR _ (ok_s hk)
      exact zrz X hr hlk w dX9_end_18 (by decide) (pr1 hk) (pr2 hk)
abbrev rm_X9_common : Room := { frames := 0, cells := 0, slots := 0, locals := 0 }
set_option maxHeartbeats 4000000 in
set_option maxRecDepth 100000 in
theorem wb_X9_common_28 {p : Program} {l : Launch} {e : Env} {s : State} {m : MethodId} {args : Array Value} {below : List Frame} {meth : Method} {c : Code} {D : va_G} {cy : Cyy} {A : Nat → Prop} {G : Gg} (X : Cx p m c cX9_common 10 s args wz_X9_common RX9 D cy) {Q : State → Prop} (M : Mm)  (Qo : Int64 → Prop)  (hE : ∀ (y : Int64), Qo (y) → ∀ (H : Heap) (locs : List Loc) (ls : Array Slot), Wo s D cy A G M H locs → lv_has ls 10 [(4, .long y)] → W p l e rm_X9_common s m args below meth c H locs 0 0 Q (F0 m 53 ls [])) (rec : Int64 → Int64 → Option (Int64)) (hrec : ∀ (l4 : Int64) (l6 : Int64) (H : Heap) (locs : List Loc) (ls : Array Slot), Wo s D cy A G M H locs → lv_has ls 10 [(4, .long l4), (6, .long l6)] → OK (rec l4 l6) Qo → W p l e rm_X9_common s m args below meth c H locs 0 0 Q (F0 m 28 ls [])) (l4 : Int64) (l6 : Int64) (H : Heap) (locs : List Loc) (ls : Array Slot) (w : Wo s D cy A G M H locs) (hl : lv_has ls 10 [(4, .long l4), (6, .long l6)]) (hk : OK (bd_X9_common_28  rec l4 l6) Qo) : W p l e rm_X9_common s m args below meth c H locs 0 0 Q (F0 m 28 ls []) := by
    have hx := X.1.1
    have hb := X.1.2.1
    unfold bd_X9_common_28 at hk
    refine lv_lload hx hb dX9_common_28 (lv_at hl 1 rfl) ?_
    refine lv_lconst (v := 0) hx hb dX9_common_30 (by decide) ?_
    refine W.lcmp hx hb dX9_common_31 ?_
    refine lv_if_eq (tgt := 53) hx hb dX9_common_32 (by decide) (fun c3 => ?_) (fun c3 => ?_)
    · have hk := ok_p c3 hk
      exact hE l4 (ok_s hk) _ _ _ w (lv_sub hl [0] rfl)
    · have hk := ok_n c3 hk
      refine lv_lload hx hb dX9_common_35 (lv_at hl 0 rfl) ?_
      refine lv_lload hx hb dX9_common_37 (lv_at hl 1 rfl) ?_
      obtain ⟨c4, hk⟩ := ok_c hk
      refine lv_lrem hx hb dX9_common_39 c4 ?_
      refine lv_lstore (lv' := [(8, .long (l4 - l4 / l6 * l6)), (4, .long l4), (6, .long l6)]) hx hb dX9_common_40 hl (by decide) rfl (fun ls hl => ?_)
      refine lv_lload hx hb dX9_common_42 (lv_at hl 2 rfl) ?_
      refine lv_lstore (lv' := [(4, .long l6), (8, .long (l4 - l4 / l6 * l6)), (6, .long l6)]) hx hb dX9_common_44 hl (by decide) rfl (fun ls hl => ?_)
      refine lv_lload hx hb dX9_common_46 (lv_at hl 1 rfl) ?_
      refine lv_lstore (lv' := [(6, .long (l4 - l4 / l6 * l6)), (4, .long l6), (8, .long (l4 - l4 / l6 * l6))]) hx hb dX9_common_48 hl (by decide) rfl (fun ls hl => ?_)
      refine lv_goto (tgt := 28) hx hb dX9_common_50 (by decide) ?_
      exact hrec l6 (l4 - l4 / l6 * l6) _ _ _ w (lv_sub hl [1, 0] rfl) hk
theorem wl_X9_common_28 {p : Program} {l : Launch} {e : Env} {s : State} {m : MethodId} {args : Array Value} {below : List Frame} {meth : Method} {c : Code} {D : va_G} {cy : Cyy} {A : Nat → Prop} {G : Gg} (X : Cx p m c cX9_common 10 s args wz_X9_common RX9 D cy) {Q : State → Prop} (M : Mm)  (Qo : Int64 → Prop)  (hE : ∀ (y : Int64), Qo (y) → ∀ (H : Heap) (locs : List Loc) (ls : Array Slot), Wo s D cy A G M H locs → lv_has ls 10 [(4, .long y)] → W p l e rm_X9_common s m args below meth c H locs 0 0 Q (F0 m 53 ls [])) : ∀ (n : Nat) (l4 : Int64) (l6 : Int64) (H : Heap) (locs : List Loc) (ls : Array Slot), Wo s D cy A G M H locs → lv_has ls 10 [(4, .long l4), (6, .long l6)] → OK (lp_X9_common_28  n l4 l6) Qo → W p l e rm_X9_common s m args below meth c H locs 0 0 Q (F0 m 28 ls []) := by
  intro n
  induction n with
  | zero => intro l4 l6 H locs ls w hl hk; exact ok_0 hk
  | succ n ih => intro l4 l6 H locs ls w hl hk; exact wb_X9_common_28 X M  Qo hE  (lp_X9_common_28  n) ih l4 l6 H locs ls w hl hk
set_option maxHeartbeats 4000000 in
set_option maxRecDepth 100000 in
theorem c_X9_common (l : Launch) (D : va_G) (cy : Cyy) (G : Gg) (M : Mm) (l0 : Int64) (l2 : Int64) {q : Int64} (hm : f_X9_common l0 l2 = some q) : CL l yX9_common wz_X9_common rm_X9_common D cy G M [.long l0, .long l2] q M := by
  refine Met_of (Qf := fun A => QL D cy G A q M) (cc := cX9_common) (nL := 10) (ret := (some .long)) (own := RX9) (lv := [(0, .long l0), (2, .long l2)]) (by decide) rfl rfl (Nat.le_of_ble_eq_true rfl) rfl ?_
  intro p e s m args below meth c A ls X hr hlk w hl
  have hx := X.1.1
  have hb := X.1.2.1
  obtain ⟨Qo, hR, hk⟩ : ∃ Qo : Int64 → Prop, (∀ x, Qo x → x = q) ∧ OK (f_X9_common l0 l2) Qo := ⟨fun x => x = q, fun _ h => h, q, hm, rfl⟩
  unfold f_X9_common at hk
  refine lv_lload_n hx hb dX9_common_0 rfl (lv_at hl 0 rfl) ?_
  refine lv_lconst (v := 0) hx hb dX9_common_1 (by decide) ?_
  refine W.lcmp hx hb dX9_common_2 ?_
  refine lv_if_ge (tgt := 11) hx hb dX9_common_3 (by decide) (fun c1 => ?_) (fun c1 => ?_)
  · have hk := ok_p c1 hk
    refine lv_lload_n hx hb dX9_common_11 rfl (lv_at hl 0 rfl) ?_
    refine lv_lstore (lv' := [(4, .long l0), (0, .long l0), (2, .long l2)]) hx hb dX9_common_12 hl (by decide) rfl (fun ls hl => ?_)
    refine lv_lload_n hx hb dX9_common_14 rfl (lv_at hl 2 rfl) ?_
    refine lv_lconst (v := 0) hx hb dX9_common_15 (by decide) ?_
    refine W.lcmp hx hb dX9_common_16 ?_
    refine lv_if_ge (tgt := 25) hx hb dX9_common_17 (by decide) (fun c2 => ?_) (fun c2 => ?_)
    · have hk := ok_p c2 hk
      refine lv_lload_n hx hb dX9_common_25 rfl (lv_at hl 2 rfl) ?_
      refine lv_lstore (lv' := [(6, .long l2), (4, .long l0), (0, .long l0), (2, .long l2)]) hx hb dX9_common_26 hl (by decide) rfl (fun ls hl => ?_)
      refine wl_X9_common_28 X M  (Qo := _) (fun q5 hk H locs ls w hl => ?_) FU l0 l2 _ _ _ w (lv_sub hl [1, 0] rfl) (ok_b hk)
      refine lv_lload hx hb dX9_common_53 (lv_at hl 0 rfl) ?_
      have hk := hR _ (ok_s hk)
      exact zrl X hr hlk w dX9_common_55 hk rfl
    · have hk := ok_n c2 hk
      refine lv_lload_n hx hb dX9_common_20 rfl (lv_at hl 2 rfl) ?_
      refine lv_lneg hx hb dX9_common_21 ?_
      refine lv_goto (tgt := 26) hx hb dX9_common_22 (by decide) ?_
      refine lv_lstore (lv' := [(6, .long (-l2)), (4, .long l0), (0, .long l0), (2, .long l2)]) hx hb dX9_common_26 hl (by decide) rfl (fun ls hl => ?_)
      refine wl_X9_common_28 X M  (Qo := _) (fun q6 hk H locs ls w hl => ?_) FU l0 (-l2) _ _ _ w (lv_sub hl [1, 0] rfl) (ok_b hk)
      refine lv_lload hx hb dX9_common_53 (lv_at hl 0 rfl) ?_
      have hk := hR _ (ok_s hk)
      exact zrl X hr hlk w dX9_common_55 hk rfl
  · have hk := ok_n c1 hk
    refine lv_lload_n hx hb dX9_common_6 rfl (lv_at hl 0 rfl) ?_
    refine lv_lneg hx hb dX9_common_7 ?_
    refine lv_goto (tgt := 12) hx hb dX9_common_8 (by decide) ?_
    refine lv_lstore (lv' := [(4, .long (-l0)), (0, .long l0), (2, .long l2)]) hx hb dX9_common_12 hl (by decide) rfl (fun ls hl => ?_)
    refine lv_lload_n hx hb dX9_common_14 rfl (lv_at hl 2 rfl) ?_
    refine lv_lconst (v := 0) hx hb dX9_common_15 (by decide) ?_
    refine W.lcmp hx hb dX9_common_16 ?_
    refine lv_if_ge (tgt := 25) hx hb dX9_common_17 (by decide) (fun c7 => ?_) (fun c7 => ?_)
    · have hk := ok_p c7 hk
      refine lv_lload_n hx hb dX9_common_25 rfl (lv_at hl 2 rfl) ?_
      refine lv_lstore (lv' := [(6, .long l2), (4, .long (-l0)), (0, .long l0), (2, .long l2)]) hx hb dX9_common_26 hl (by decide) rfl (fun ls hl => ?_)
      refine wl_X9_common_28 X M  (Qo := _) (fun q8 hk H locs ls w hl => ?_) FU (-l0) l2 _ _ _ w (lv_sub hl [1, 0] rfl) (ok_b hk)
      refine lv_lload hx hb dX9_common_53 (lv_at hl 0 rfl) ?_
      have hk := hR _ (ok_s hk)
      exact zrl X hr hlk w dX9_common_55 hk rfl
    · have hk := ok_n c7 hk
      refine lv_lload_n hx hb dX9_common_20 rfl (lv_at hl 2 rfl) ?_
      refine lv_lneg hx hb dX9_common_21 ?_
      refine lv_goto (tgt := 26) hx hb dX9_common_22 (by decide) ?_
      refine lv_lstore (lv' := [(6, .long (-l2)), (4, .long (-l0)), (0, .long l0), (2, .long l2)]) hx hb dX9_common_26 hl (by decide) rfl (fun ls hl => ?_)
      refine wl_X9_common_28 X M  (Qo := _) (fun q9 hk H locs ls w hl => ?_) FU (-l0) (-l2) _ _ _ w (lv_sub hl [1, 0] rfl) (ok_b hk)
      refine lv_lload hx hb dX9_common_53 (lv_at hl 0 rfl) ?_
      have hk := hR _ (ok_s hk)
      exact zrl X hr hlk w dX9_common_55 hk rfl
abbrev rm_X9_has : Room := { frames := 0, cells := 0, slots := 0, locals := 0 }
set_option maxHeartbeats 4000000 in
set_option maxRecDepth 100000 in
theorem c_X9_has (l : Launch) (D : va_G) (cy : Cyy) (G : Gg) (M : Mm) (r0 : Nat) (i1 : Int32) {q : Int32} (hm : f_X9_has G M r0 i1 = some q) : CI l yX9_has wz_X9_has rm_X9_has D cy G M [.ref r0, .int i1] q M := by
  refine Met_of (Qf := fun A => QI D cy G A q M) (cc := cX9_has) (nL := 2) (ret := (some .boolean)) (own := RX9) (lv := [(0, .ref r0), (1, .int i1)]) (by decide) rfl rfl (Nat.le_of_ble_eq_true rfl) rfl ?_
  intro p e s m args below meth c A ls X hr hlk w hl
  have hx := X.1.1
  have hb := X.1.2.1
  obtain ⟨Qo, hR, hk⟩ : ∃ Qo : Int32 → Prop, (∀ x, Qo x → x = q) ∧ OK (f_X9_has G M r0 i1) Qo := ⟨fun x => x = q, fun _ h => h, q, hm, rfl⟩
  unfold f_X9_has at hk
  refine lv_iload_n hx hb dX9_has_0 rfl (lv_at hl 1 rfl) ?_
  refine lv_if_lt (tgt := 23) hx hb dX9_has_1 (by decide) (fun c1 => ?_) (fun c1 => ?_)
  · have hk := ok_p c1 hk
    refine lv_iconst (v := 0) hx hb dX9_has_23 (by decide) ?_
    have hk := hR _ (ok_s hk)
    exact zrz X hr hlk w dX9_has_24 (by decide) hk rfl
  · have hk := ok_n c1 hk
    refine lv_iload_n hx hb dX9_has_4 rfl (lv_at hl 1 rfl) ?_
    refine lv_bipush (v := 6) hx hb dX9_has_5 (by decide) ?_
    refine lv_icmp_ge (tgt := 23) hx hb dX9_has_7 (by decide) (fun c2 => ?_) (fun c2 => ?_)
    · have hk := ok_p c2 hk
      refine lv_iconst (v := 0) hx hb dX9_has_23 (by decide) ?_
      have hk := hR _ (ok_s hk)
      exact zrz X hr hlk w dX9_has_24 (by decide) hk rfl
    · have hk := ok_n c2 hk
      refine lv_aload_n hx hb dX9_has_10 rfl (lv_at hl 0 rfl) ?_
      obtain ⟨c3, hk⟩ := ok_c hk
      obtain ⟨r4, e5, hk⟩ := ok_b hk
      refine zgr X w 9 3 13 (C := RX9) (T := TX9) (N := 23) rfl ui_X9 (by decide) rfl (tb wf_X9_13) dX9_has_11 c3 e5 ?_
      refine lv_iload_n hx hb dX9_has_14 rfl (lv_at hl 1 rfl) ?_
      obtain ⟨c6, hk⟩ := ok_c hk
      obtain ⟨c7, hk⟩ := ok_c hk
      refine zai X w dX9_has_15 c6 c7 ?_
      refine lv_if_le (tgt := 23) hx hb dX9_has_16 (by decide) (fun c8 => ?_) (fun c8 => ?_)
      · have hk := ok_p c8 hk
        refine lv_iconst (v := 0) hx hb dX9_has_23 (by decide) ?_
        have hk := hR _ (ok_s hk)
        exact zrz X hr hlk w dX9_has_24 (by decide) hk rfl
      · have hk := ok_n c8 hk
        refine lv_iconst (v := 1) hx hb dX9_has_19 (by decide) ?_
        refine lv_goto (tgt := 24) hx hb dX9_has_20 (by decide) ?_
        have hk := hR _ (ok_s hk)
        exact zrz X hr hlk w dX9_has_24 (by decide) hk rfl
abbrev rm_X9_isSlot : Room := { frames := 0, cells := 0, slots := 0, locals := 0 }
set_option maxHeartbeats 4000000 in
set_option maxRecDepth 100000 in
theorem c_X9_isSlot (l : Launch) (D : va_G) (cy : Cyy) (G : Gg) (M : Mm) (i0 : Int32) {q : Int32} (hm : f_X9_isSlot i0 = some q) : CI l yX9_isSlot wz_X9_isSlot rm_X9_isSlot D cy G M [.int i0] q M := by
  refine Met_of (Qf := fun A => QI D cy G A q M) (cc := cX9_isSlot) (nL := 1) (ret := (some .boolean)) (own := RX9) (lv := [(0, .int i0)]) (by decide) rfl rfl (Nat.le_of_ble_eq_true rfl) rfl ?_
  intro p e s m args below meth c A ls X hr hlk w hl
  have hx := X.1.1
  have hb := X.1.2.1
  obtain ⟨Qo, hR, hk⟩ : ∃ Qo : Int32 → Prop, (∀ x, Qo x → x = q) ∧ OK (f_X9_isSlot i0) Qo := ⟨fun x => x = q, fun _ h => h, q, hm, rfl⟩
  unfold f_X9_isSlot at hk
  refine lv_iload_n hx hb dX9_isSlot_0 rfl (lv_at hl 0 rfl) ?_
  refine lv_if_lt (tgt := 14) hx hb dX9_isSlot_1 (by decide) (fun c1 => ?_) (fun c1 => ?_)
  · have hk := ok_p c1 hk
    refine lv_iconst (v := 0) hx hb dX9_isSlot_14 (by decide) ?_
    have hk := hR _ (ok_s hk)
    exact zrz X hr hlk w dX9_isSlot_15 (by decide) hk rfl
  · have hk := ok_n c1 hk
    refine lv_iload_n hx hb dX9_isSlot_4 rfl (lv_at hl 0 rfl) ?_
    refine lv_bipush (v := 6) hx hb dX9_isSlot_5 (by decide) ?_
    refine lv_icmp_ge (tgt := 14) hx hb dX9_isSlot_7 (by decide) (fun c2 => ?_) (fun c2 => ?_)
    · have hk := ok_p c2 hk
      refine lv_iconst (v := 0) hx hb dX9_isSlot_14 (by decide) ?_
      have hk := hR _ (ok_s hk)
      exact zrz X hr hlk w dX9_isSlot_15 (by decide) hk rfl
    · have hk := ok_n c2 hk
      refine lv_iconst (v := 1) hx hb dX9_isSlot_10 (by decide) ?_
      refine lv_goto (tgt := 15) hx hb dX9_isSlot_11 (by decide) ?_
      have hk := hR _ (ok_s hk)
      exact zrz X hr hlk w dX9_isSlot_15 (by decide) hk rfl
