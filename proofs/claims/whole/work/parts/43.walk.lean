abbrev rm_X8_isBelow : Room := { frames := 0, cells := 0, slots := 0, locals := 0 }
set_option maxHeartbeats 4000000 in
set_option maxRecDepth 100000 in
theorem wb_X8_isBelow_17 {p : Program} {l : Launch} {e : Env} {s : State} {m : MethodId} {args : Array Value} {below : List Frame} {meth : Method} {c : Code} {D : va_G} {cy : Cyy} {A : Nat → Prop} {G : Gg} (X : Cx p m c cX8_isBelow 25 s args wz_X8_isBelow RX8 D cy) (M : Mm)  (Qo : (Int32) ⊕ (Int64 × Int64) → Prop) (hr : meth.sig.returnType = (some .boolean)) (hlk : meth.locks = false) {x0 : Int32} (hR : ∀ x, Qo (.inl x) → x = x0) (hE : ∀ (y : Int64 × Int64), Qo (.inr y) → ∀ (H : Heap) (locs : List Loc) (ls : Array Slot), Wo s D cy A G M H locs → lv_has ls 25 [(10, .long y.1), (14, .long y.2)] → W p l e rm_X8_isBelow s m args below meth c H locs 0 0 (MQ below (QI D cy G A x0 M) args s 0 0 A) (F0 m 111 ls [])) (rec : Int64 → Int64 → Int64 → Int64 → Int32 → Option ((Int32) ⊕ (Int64 × Int64))) (hrec : ∀ (l8 : Int64) (l10 : Int64) (l12 : Int64) (l14 : Int64) (i16 : Int32) (H : Heap) (locs : List Loc) (ls : Array Slot), Wo s D cy A G M H locs → lv_has ls 25 [(8, .long l8), (10, .long l10), (12, .long l12), (14, .long l14), (16, .int i16)] → OK (rec l8 l10 l12 l14 i16) Qo → W p l e rm_X8_isBelow s m args below meth c H locs 0 0 (MQ below (QI D cy G A x0 M) args s 0 0 A) (F0 m 17 ls [])) (l8 : Int64) (l10 : Int64) (l12 : Int64) (l14 : Int64) (i16 : Int32) (H : Heap) (locs : List Loc) (ls : Array Slot) (w : Wo s D cy A G M H locs) (hl : lv_has ls 25 [(8, .long l8), (10, .long l10), (12, .long l12), (14, .long l14), (16, .int i16)]) (hk : OK (bd_X8_isBelow_17  rec l8 l10 l12 l14 i16) Qo) : W p l e rm_X8_isBelow s m args below meth c H locs 0 0 (MQ below (QI D cy G A x0 M) args s 0 0 A) (F0 m 17 ls []) := by
    have hx := X.1.1
    have hb := X.1.2.1
    unfold bd_X8_isBelow_17 at hk
    refine lv_iload hx hb dX8_isBelow_17 (lv_at hl 4 rfl) ?_
    refine lv_sipush (v := 200) hx hb dX8_isBelow_19 (by decide) ?_
    refine lv_icmp_ge (tgt := 111) hx hb dX8_isBelow_22 (by decide) (fun c1 => ?_) (fun c1 => ?_)
    · have hk := ok_p c1 hk
      exact hE (l10, l14) (ok_s hk) _ _ _ w (lv_sub hl [1, 3] rfl)
    · have hk := ok_n c1 hk
      refine lv_lload hx hb dX8_isBelow_25 (lv_at hl 1 rfl) ?_
      refine lv_lconst (v := 0) hx hb dX8_isBelow_27 (by decide) ?_
      refine W.lcmp hx hb dX8_isBelow_28 ?_
      refine lv_if_eq (tgt := 111) hx hb dX8_isBelow_29 (by decide) (fun c2 => ?_) (fun c2 => ?_)
      · have hk := ok_p c2 hk
        exact hE (l10, l14) (ok_s hk) _ _ _ w (lv_sub hl [1, 3] rfl)
      · have hk := ok_n c2 hk
        refine lv_lload hx hb dX8_isBelow_32 (lv_at hl 3 rfl) ?_
        refine lv_lconst (v := 0) hx hb dX8_isBelow_34 (by decide) ?_
        refine W.lcmp hx hb dX8_isBelow_35 ?_
        refine lv_if_eq (tgt := 111) hx hb dX8_isBelow_36 (by decide) (fun c3 => ?_) (fun c3 => ?_)
        · have hk := ok_p c3 hk
          exact hE (l10, l14) (ok_s hk) _ _ _ w (lv_sub hl [1, 3] rfl)
        · have hk := ok_n c3 hk
          refine lv_lload hx hb dX8_isBelow_39 (lv_at hl 0 rfl) ?_
          refine lv_lload hx hb dX8_isBelow_41 (lv_at hl 1 rfl) ?_
          obtain ⟨c4, hk⟩ := ok_c hk
          refine lv_ldiv hx hb dX8_isBelow_43 c4 ?_
          refine lv_lstore (lv' := [(17, .long (l8 / l10)), (8, .long l8), (10, .long l10), (12, .long l12), (14, .long l14), (16, .int i16)]) hx hb dX8_isBelow_44 hl (by decide) rfl (fun ls hl => ?_)
          refine lv_lload hx hb dX8_isBelow_46 (lv_at hl 3 rfl) ?_
          refine lv_lload hx hb dX8_isBelow_48 (lv_at hl 4 rfl) ?_
          obtain ⟨c5, hk⟩ := ok_c hk
          refine lv_ldiv hx hb dX8_isBelow_50 c5 ?_
          refine lv_lstore (lv' := [(19, .long (l12 / l14)), (17, .long (l8 / l10)), (8, .long l8), (10, .long l10), (12, .long l12), (14, .long l14), (16, .int i16)]) hx hb dX8_isBelow_51 hl (by decide) rfl (fun ls hl => ?_)
          refine lv_lload hx hb dX8_isBelow_53 (lv_at hl 1 rfl) ?_
          refine lv_lload hx hb dX8_isBelow_55 (lv_at hl 0 rfl) ?_
          refine W.lcmp hx hb dX8_isBelow_57 ?_
          refine lv_if_eq (tgt := 75) hx hb dX8_isBelow_58 (by decide) (fun c6 => ?_) (fun c6 => ?_)
          · have hk := ok_p c6 hk
            refine lv_lload hx hb dX8_isBelow_75 (lv_at hl 2 rfl) ?_
            refine lv_lload hx hb dX8_isBelow_77 (lv_at hl 3 rfl) ?_
            refine lv_lrem hx hb dX8_isBelow_79 c4 ?_
            refine lv_lstore (lv' := [(21, .long (l8 - l8 / l10 * l10)), (19, .long (l12 / l14)), (17, .long (l8 / l10)), (8, .long l8), (10, .long l10), (12, .long l12), (14, .long l14), (16, .int i16)]) hx hb dX8_isBelow_80 hl (by decide) rfl (fun ls hl => ?_)
            refine lv_lload hx hb dX8_isBelow_82 (lv_at hl 5 rfl) ?_
            refine lv_lload hx hb dX8_isBelow_84 (lv_at hl 6 rfl) ?_
            refine lv_lrem hx hb dX8_isBelow_86 c5 ?_
            refine lv_lstore (lv' := [(23, .long (l12 - l12 / l14 * l14)), (21, .long (l8 - l8 / l10 * l10)), (19, .long (l12 / l14)), (17, .long (l8 / l10)), (8, .long l8), (10, .long l10), (12, .long l12), (14, .long l14), (16, .int i16)]) hx hb dX8_isBelow_87 hl (by decide) rfl (fun ls hl => ?_)
            refine lv_lload hx hb dX8_isBelow_89 (lv_at hl 7 rfl) ?_
            refine lv_lstore (lv' := [(8, .long l14), (23, .long (l12 - l12 / l14 * l14)), (21, .long (l8 - l8 / l10 * l10)), (19, .long (l12 / l14)), (17, .long (l8 / l10)), (10, .long l10), (12, .long l12), (14, .long l14), (16, .int i16)]) hx hb dX8_isBelow_91 hl (by decide) rfl (fun ls hl => ?_)
            refine lv_lload hx hb dX8_isBelow_93 (lv_at hl 5 rfl) ?_
            refine lv_lstore (lv' := [(12, .long l10), (8, .long l14), (23, .long (l12 - l12 / l14 * l14)), (21, .long (l8 - l8 / l10 * l10)), (19, .long (l12 / l14)), (17, .long (l8 / l10)), (10, .long l10), (14, .long l14), (16, .int i16)]) hx hb dX8_isBelow_95 hl (by decide) rfl (fun ls hl => ?_)
            refine lv_lload hx hb dX8_isBelow_97 (lv_at hl 2 rfl) ?_
            refine lv_lstore (lv' := [(10, .long (l12 - l12 / l14 * l14)), (12, .long l10), (8, .long l14), (23, .long (l12 - l12 / l14 * l14)), (21, .long (l8 - l8 / l10 * l10)), (19, .long (l12 / l14)), (17, .long (l8 / l10)), (14, .long l14), (16, .int i16)]) hx hb dX8_isBelow_99 hl (by decide) rfl (fun ls hl => ?_)
            refine lv_lload hx hb dX8_isBelow_101 (lv_at hl 4 rfl) ?_
            refine lv_lstore (lv' := [(14, .long (l8 - l8 / l10 * l10)), (10, .long (l12 - l12 / l14 * l14)), (12, .long l10), (8, .long l14), (23, .long (l12 - l12 / l14 * l14)), (21, .long (l8 - l8 / l10 * l10)), (19, .long (l12 / l14)), (17, .long (l8 / l10)), (16, .int i16)]) hx hb dX8_isBelow_103 hl (by decide) rfl (fun ls hl => ?_)
            refine lv_iinc (v := (i16 + 1)) (lv' := [(16, .int (i16 + 1)), (14, .long (l8 - l8 / l10 * l10)), (10, .long (l12 - l12 / l14 * l14)), (12, .long l10), (8, .long l14), (23, .long (l12 - l12 / l14 * l14)), (21, .long (l8 - l8 / l10 * l10)), (19, .long (l12 / l14)), (17, .long (l8 / l10))]) hx hb dX8_isBelow_105 hl (k := 8) rfl rfl (by decide) rfl (fun ls hl => ?_)
            refine lv_goto (tgt := 17) hx hb dX8_isBelow_108 (by decide) ?_
            exact hrec l14 (l12 - l12 / l14 * l14) l10 (l8 - l8 / l10 * l10) (i16 + 1) _ _ _ w (lv_sub hl [4, 2, 3, 1, 0] rfl) hk
          · have hk := ok_n c6 hk
            refine lv_lload hx hb dX8_isBelow_61 (lv_at hl 1 rfl) ?_
            refine lv_lload hx hb dX8_isBelow_63 (lv_at hl 0 rfl) ?_
            refine W.lcmp hx hb dX8_isBelow_65 ?_
            refine lv_if_ge (tgt := 73) hx hb dX8_isBelow_66 (by decide) (fun c7 => ?_) (fun c7 => ?_)
            · have hk := ok_p c7 hk
              refine lv_iconst (v := 0) hx hb dX8_isBelow_73 (by decide) ?_
              have hk := hR _ (ok_s hk)
              exact zrz X hr hlk w dX8_isBelow_74 (by decide) hk rfl
            · have hk := ok_n c7 hk
              refine lv_iconst (v := 1) hx hb dX8_isBelow_69 (by decide) ?_
              refine lv_goto (tgt := 74) hx hb dX8_isBelow_70 (by decide) ?_
              have hk := hR _ (ok_s hk)
              exact zrz X hr hlk w dX8_isBelow_74 (by decide) hk rfl
theorem wl_X8_isBelow_17 {p : Program} {l : Launch} {e : Env} {s : State} {m : MethodId} {args : Array Value} {below : List Frame} {meth : Method} {c : Code} {D : va_G} {cy : Cyy} {A : Nat → Prop} {G : Gg} (X : Cx p m c cX8_isBelow 25 s args wz_X8_isBelow RX8 D cy) (M : Mm)  (Qo : (Int32) ⊕ (Int64 × Int64) → Prop) (hr : meth.sig.returnType = (some .boolean)) (hlk : meth.locks = false) {x0 : Int32} (hR : ∀ x, Qo (.inl x) → x = x0) (hE : ∀ (y : Int64 × Int64), Qo (.inr y) → ∀ (H : Heap) (locs : List Loc) (ls : Array Slot), Wo s D cy A G M H locs → lv_has ls 25 [(10, .long y.1), (14, .long y.2)] → W p l e rm_X8_isBelow s m args below meth c H locs 0 0 (MQ below (QI D cy G A x0 M) args s 0 0 A) (F0 m 111 ls [])) : ∀ (n : Nat) (l8 : Int64) (l10 : Int64) (l12 : Int64) (l14 : Int64) (i16 : Int32) (H : Heap) (locs : List Loc) (ls : Array Slot), Wo s D cy A G M H locs → lv_has ls 25 [(8, .long l8), (10, .long l10), (12, .long l12), (14, .long l14), (16, .int i16)] → OK (lp_X8_isBelow_17  n l8 l10 l12 l14 i16) Qo → W p l e rm_X8_isBelow s m args below meth c H locs 0 0 (MQ below (QI D cy G A x0 M) args s 0 0 A) (F0 m 17 ls []) := by
  intro n
  induction n with
  | zero => intro l8 l10 l12 l14 i16 H locs ls w hl hk; exact ok_0 hk
  | succ n ih => intro l8 l10 l12 l14 i16 H locs ls w hl hk; exact wb_X8_isBelow_17 X M  Qo hr hlk hR hE  (lp_X8_isBelow_17  n) ih l8 l10 l12 l14 i16 H locs ls w hl hk
set_option maxHeartbeats 4000000 in
set_option maxRecDepth 100000 in
theorem wj_X8_isBelow_111 {p : Program} {l : Launch} {e : Env} {s : State} {m : MethodId} {args : Array Value} {below : List Frame} {meth : Method} {c : Code} {D : va_G} {cy : Cyy} {A : Nat → Prop} {G : Gg} (X : Cx p m c cX8_isBelow 25 s args wz_X8_isBelow RX8 D cy) (M0 M : Mm) (Qo : Int32 → Prop) (hr : meth.sig.returnType = (some .boolean)) (hlk : meth.locks = false) {x0 : Int32} (hR : ∀ x, Qo x → x = x0)  (l10 : Int64) (l14 : Int64)  (H : Heap) (locs : List Loc) (ls : Array Slot) (w : Wo s D cy A G M H locs) (hl : lv_has ls 25 [(10, .long l10), (14, .long l14)]) (hk : OK (jn_X8_isBelow_111  l10 l14) Qo) : W p l e rm_X8_isBelow s m args below meth c H locs 0 0 (MQ below (QI D cy G A x0 M) args s 0 0 A) (F0 m 111 ls []) := by
    have hx := X.1.1
    have hb := X.1.2.1
    unfold jn_X8_isBelow_111 at hk
    refine lv_lload hx hb dX8_isBelow_111 (lv_at hl 1 rfl) ?_
    refine lv_lconst (v := 0) hx hb dX8_isBelow_113 (by decide) ?_
    refine W.lcmp hx hb dX8_isBelow_114 ?_
    refine lv_if_ne (tgt := 129) hx hb dX8_isBelow_115 (by decide) (fun c11 => ?_) (fun c11 => ?_)
    · have hk := ok_n c11 hk
      refine lv_iconst (v := 0) hx hb dX8_isBelow_129 (by decide) ?_
      have hk := hR _ (ok_s hk)
      exact zrz X hr hlk w dX8_isBelow_130 (by decide) hk rfl
    · have hk := ok_p c11 hk
      refine lv_lload hx hb dX8_isBelow_118 (lv_at hl 0 rfl) ?_
      refine lv_lconst (v := 0) hx hb dX8_isBelow_120 (by decide) ?_
      refine W.lcmp hx hb dX8_isBelow_121 ?_
      refine lv_if_eq (tgt := 129) hx hb dX8_isBelow_122 (by decide) (fun c12 => ?_) (fun c12 => ?_)
      · have hk := ok_p c12 hk
        refine lv_iconst (v := 0) hx hb dX8_isBelow_129 (by decide) ?_
        have hk := hR _ (ok_s hk)
        exact zrz X hr hlk w dX8_isBelow_130 (by decide) hk rfl
      · have hk := ok_n c12 hk
        refine lv_iconst (v := 1) hx hb dX8_isBelow_125 (by decide) ?_
        refine lv_goto (tgt := 130) hx hb dX8_isBelow_126 (by decide) ?_
        have hk := hR _ (ok_s hk)
        exact zrz X hr hlk w dX8_isBelow_130 (by decide) hk rfl
set_option maxHeartbeats 4000000 in
set_option maxRecDepth 100000 in
theorem c_X8_isBelow (l : Launch) (D : va_G) (cy : Cyy) (G : Gg) (M : Mm) (l0 : Int64) (l2 : Int64) (l4 : Int64) (l6 : Int64) {q : Int32} (hm : f_X8_isBelow l0 l2 l4 l6 = some q) : CI l yX8_isBelow wz_X8_isBelow rm_X8_isBelow D cy G M [.long l0, .long l2, .long l4, .long l6] q M := by
  refine Met_of (Qf := fun A => QI D cy G A q M) (cc := cX8_isBelow) (nL := 25) (ret := (some .boolean)) (own := RX8) (lv := [(0, .long l0), (2, .long l2), (4, .long l4), (6, .long l6)]) (by decide) rfl rfl (Nat.le_of_ble_eq_true rfl) rfl ?_
  intro p e s m args below meth c A ls X hr hlk w hl
  have hx := X.1.1
  have hb := X.1.2.1
  obtain ⟨Qo, hR, hk⟩ : ∃ Qo : Int32 → Prop, (∀ x, Qo x → x = q) ∧ OK (f_X8_isBelow l0 l2 l4 l6) Qo := ⟨fun x => x = q, fun _ h => h, q, hm, rfl⟩
  unfold f_X8_isBelow at hk
  refine lv_lload_n hx hb dX8_isBelow_0 rfl (lv_at hl 0 rfl) ?_
  refine lv_lstore (lv' := [(8, .long l0), (0, .long l0), (2, .long l2), (4, .long l4), (6, .long l6)]) hx hb dX8_isBelow_1 hl (by decide) rfl (fun ls hl => ?_)
  refine lv_lload_n hx hb dX8_isBelow_3 rfl (lv_at hl 2 rfl) ?_
  refine lv_lstore (lv' := [(10, .long l2), (8, .long l0), (0, .long l0), (2, .long l2), (4, .long l4), (6, .long l6)]) hx hb dX8_isBelow_4 hl (by decide) rfl (fun ls hl => ?_)
  refine lv_lload hx hb dX8_isBelow_6 (lv_at hl 4 rfl) ?_
  refine lv_lstore (lv' := [(12, .long l4), (10, .long l2), (8, .long l0), (0, .long l0), (2, .long l2), (4, .long l4), (6, .long l6)]) hx hb dX8_isBelow_8 hl (by decide) rfl (fun ls hl => ?_)
  refine lv_lload hx hb dX8_isBelow_10 (lv_at hl 6 rfl) ?_
  refine lv_lstore (lv' := [(14, .long l6), (12, .long l4), (10, .long l2), (8, .long l0), (0, .long l0), (2, .long l2), (4, .long l4), (6, .long l6)]) hx hb dX8_isBelow_12 hl (by decide) rfl (fun ls hl => ?_)
  refine lv_iconst (v := 0) hx hb dX8_isBelow_14 (by decide) ?_
  refine lv_istore (lv' := [(16, .int (0 : Int32)), (14, .long l6), (12, .long l4), (10, .long l2), (8, .long l0), (0, .long l0), (2, .long l2), (4, .long l4), (6, .long l6)]) hx hb dX8_isBelow_15 hl (by decide) rfl (fun ls hl => ?_)
  refine wl_X8_isBelow_17 X M  (Qo := _) hr hlk (fun x h => hR x (ok_s (show OK (some x) Qo from h))) (fun y9 hk H locs ls w hl => ?_) FU l0 l2 l4 l6 (0 : Int32) _ _ _ w (lv_sub hl [4, 3, 2, 1, 0] rfl) (ok_b hk)
  have hk := ok_r hk
  exact wj_X8_isBelow_111 X M M _ hr hlk hR y9.1 y9.2 _ _ _ w (lv_sub hl [0, 1] rfl) hk
abbrev rm_X4_weigh : Room := { frames := 3, cells := 0, slots := 0, locals := 70 }
set_option maxHeartbeats 4000000 in
set_option maxRecDepth 100000 in
theorem c_X4_weigh (l : Launch) (D : va_G) (cy : Cyy) (G : Gg) (M : Mm) (r0 : Nat) (r1 : Nat) (i2 : Int32) {q : Mm} (hm : f_X4_weigh G M r0 r1 i2 = some q) : CV l yX4_weigh wz_X4_weigh rm_X4_weigh D cy G M [.ref r0, .ref r1, .int i2] q := by
  refine Met_of (Qf := fun A => QV D cy G A q) (cc := cX4_weigh) (nL := 7) (ret := none) (own := RX4) (lv := [(0, .ref r0), (1, .ref r1), (2, .int i2)]) (by decide) rfl rfl (Nat.le_of_ble_eq_true rfl) rfl ?_
  intro p e s m args below meth c A ls X hr hlk w hl
  have hx := X.1.1
  have hb := X.1.2.1
  obtain ⟨Qo, hR, hk⟩ : ∃ Qo : Mm → Prop, (∀ x, Qo x → x = q) ∧ OK (f_X4_weigh G M r0 r1 i2) Qo := ⟨fun x => x = q, fun _ h => h, q, hm, rfl⟩
  unfold f_X4_weigh at hk
  refine lv_aload_n hx hb dX4_weigh_0 rfl (lv_at hl 1 rfl) ?_
  refine lv_iload_n hx hb dX4_weigh_1 rfl (lv_at hl 2 rfl) ?_
  obtain ⟨c3, hk⟩ := ok_c hk
  obtain ⟨q1, e2, hk⟩ := ok_b hk
  refine zVl X w (n := 1) (As := [.int i2]) (rest := []) (ci := 0) (C := RX0) (T := TX0) (N := 7) (c_X0_shareOf l D cy G M r1 i2 e2) (gzV wm_X4_37 wi_X0_shareOf ws_X0_shareOf wn_X0 wc_X0_shareOf) rfl rfl rfl (by decide +kernel) (by decide) rfl c3 rfl rfl hl.1 (Nat.le_of_ble_eq_true rfl) dX4_weigh_2 ⟨Nat.zero_le _, Nat.zero_le _⟩ (fun H locs w => ?_)
  refine lv_lstore_n (lv' := [(3, .long q1), (0, .ref r0), (1, .ref r1), (2, .int i2)]) hx hb dX4_weigh_5 rfl hl (by decide) rfl (fun ls hl => ?_)
  refine lv_lload_n hx hb dX4_weigh_6 rfl (lv_at hl 0 rfl) ?_
  refine lv_lconst (v := 0) hx hb dX4_weigh_7 (by decide) ?_
  refine W.lcmp hx hb dX4_weigh_8 ?_
  refine lv_if_le (tgt := 23) hx hb dX4_weigh_9 (by decide) (fun c4 => ?_) (fun c4 => ?_)
  · have hk := ok_p c4 hk
    have hk := hR _ (ok_s hk)
    exact zrv X hr hlk w dX4_weigh_23 hk
  · have hk := ok_n c4 hk
    refine lv_lload_n hx hb dX4_weigh_12 rfl (lv_at hl 0 rfl) ?_
    refine lv_aload_n hx hb dX4_weigh_13 rfl (lv_at hl 2 rfl) ?_
    refine zgNl X w 0 6 41 "BlendBench" (C := RX0) (T := TX0) (N := 7) rfl ui_X0 (by decide) rfl (by decide +kernel) dX4_weigh_14 c3 ?_
    refine lv_lload_n hx hb dX4_weigh_17 rfl (lv_at hl 0 rfl) ?_
    refine lv_lsub hx hb dX4_weigh_18 ?_
    refine W.lcmp hx hb dX4_weigh_19 ?_
    refine lv_if_le (tgt := 24) hx hb dX4_weigh_20 (by decide) (fun c5 => ?_) (fun c5 => ?_)
    · have hk := ok_p c5 hk
      refine lv_aload_n hx hb dX4_weigh_24 rfl (lv_at hl 2 rfl) ?_
      refine lv_iload_n hx hb dX4_weigh_25 rfl (lv_at hl 3 rfl) ?_
      obtain ⟨q6, e7, hk⟩ := ok_b hk
      refine zVl X w (n := 1) (As := [.int i2]) (rest := []) (ci := 0) (C := RX0) (T := TX0) (N := 7) (c_X0_flowOutOf l D cy G M r1 i2 e7) (gzV wm_X4_44 wi_X0_flowOutOf ws_X0_flowOutOf wn_X0 wc_X0_flowOutOf) rfl rfl rfl (by decide +kernel) (by decide) rfl c3 rfl rfl hl.1 (Nat.le_of_ble_eq_true rfl) dX4_weigh_26 ⟨Nat.zero_le _, Nat.zero_le _⟩ (fun H locs w => ?_)
      refine lv_lstore (lv' := [(5, .long q6), (3, .long q1), (0, .ref r0), (1, .ref r1), (2, .int i2)]) hx hb dX4_weigh_29 hl (by decide) rfl (fun ls hl => ?_)
      refine lv_aload_n hx hb dX4_weigh_31 rfl (lv_at hl 2 rfl) ?_
      obtain ⟨c8, hk⟩ := ok_c hk
      refine zgi X w 4 0 7 (C := RX4) (T := TX4) (N := 3) rfl ui_X4 (by decide) rfl (tb wf_X4_7) dX4_weigh_32 c8 ?_
      refine lv_if_eq (tgt := 55) hx hb dX4_weigh_35 (by decide) (fun c9 => ?_) (fun c9 => ?_)
      · have hk := ok_p c9 hk
        refine lv_aload_n hx hb dX4_weigh_55 rfl (lv_at hl 2 rfl) ?_
        refine lv_iload_n hx hb dX4_weigh_56 rfl (lv_at hl 4 rfl) ?_
        refine zpi X w 4 0 7 tyX4 (C := RX4) (T := TX4) (N := 3) rfl ui_X4 tyX4_ok nmX4 (by decide) rfl (tb wf_X4_7) rfl rfl dX4_weigh_57 c8 (fun H locs w => ?_)
        refine lv_aload_n hx hb dX4_weigh_60 rfl (lv_at hl 2 rfl) ?_
        refine lv_lload hx hb dX4_weigh_61 (lv_at hl 0 rfl) ?_
        refine zpl X w 4 1 13 tyX4 (C := RX4) (T := TX4) (N := 3) rfl ui_X4 tyX4_ok nmX4 (by decide) rfl (tb wf_X4_13) rfl rfl dX4_weigh_63 c8 (fun H locs w => ?_)
        refine lv_aload_n hx hb dX4_weigh_66 rfl (lv_at hl 2 rfl) ?_
        refine lv_lload_n hx hb dX4_weigh_67 rfl (lv_at hl 1 rfl) ?_
        refine zpl X w 4 2 17 tyX4 (C := RX4) (T := TX4) (N := 3) rfl ui_X4 tyX4_ok nmX4 (by decide) rfl (tb wf_X4_17) rfl rfl dX4_weigh_68 c8 (fun H locs w => ?_)
        have hk := hR _ (ok_s hk)
        exact zrv X hr hlk w dX4_weigh_71 hk
      · have hk := ok_n c9 hk
        refine lv_lload hx hb dX4_weigh_38 (lv_at hl 0 rfl) ?_
        refine lv_lload_n hx hb dX4_weigh_40 rfl (lv_at hl 1 rfl) ?_
        refine lv_aload_n hx hb dX4_weigh_41 rfl (lv_at hl 2 rfl) ?_
        refine zgl X w 4 1 13 (C := RX4) (T := TX4) (N := 3) rfl ui_X4 (by decide) rfl (tb wf_X4_13) dX4_weigh_42 c8 ?_
        refine lv_aload_n hx hb dX4_weigh_45 rfl (lv_at hl 2 rfl) ?_
        refine zgl X w 4 2 17 (C := RX4) (T := TX4) (N := 3) rfl ui_X4 (by decide) rfl (tb wf_X4_17) dX4_weigh_46 c8 ?_
        obtain ⟨q10, e11, hk⟩ := ok_b hk
        refine zNi X w (n := 4) (As := [.long q6, .long q1, .long (M.2.1 r0 1), .long (M.2.1 r0 2)]) (rest := []) (host := "BlendBench") (c_X8_isBelow l D cy G M q6 q1 (M.2.1 r0 1) (M.2.1 r0 2) e11) (gzN wc_X8_isBelow) rfl rfl rfl (by decide +kernel) (tb wn_X8) (tb wt_X8_isBelow) (by decide +kernel) (by decide) rfl rfl hl.1 (Nat.le_of_ble_eq_true rfl) dX4_weigh_49 ⟨Nat.zero_le _, Nat.zero_le _⟩ (fun H locs w => ?_)
        refine lv_if_eq (tgt := 71) hx hb dX4_weigh_52 (by decide) (fun c12 => ?_) (fun c12 => ?_)
        · have hk := ok_p c12 hk
          have hk := hR _ (ok_s hk)
          exact zrv X hr hlk w dX4_weigh_71 hk
        · have hk := ok_n c12 hk
          refine lv_aload_n hx hb dX4_weigh_55 rfl (lv_at hl 2 rfl) ?_
          refine lv_iload_n hx hb dX4_weigh_56 rfl (lv_at hl 4 rfl) ?_
          refine zpi X w 4 0 7 tyX4 (C := RX4) (T := TX4) (N := 3) rfl ui_X4 tyX4_ok nmX4 (by decide) rfl (tb wf_X4_7) rfl rfl dX4_weigh_57 c8 (fun H locs w => ?_)
          refine lv_aload_n hx hb dX4_weigh_60 rfl (lv_at hl 2 rfl) ?_
          refine lv_lload hx hb dX4_weigh_61 (lv_at hl 0 rfl) ?_
          refine zpl X w 4 1 13 tyX4 (C := RX4) (T := TX4) (N := 3) rfl ui_X4 tyX4_ok nmX4 (by decide) rfl (tb wf_X4_13) rfl rfl dX4_weigh_63 c8 (fun H locs w => ?_)
          refine lv_aload_n hx hb dX4_weigh_66 rfl (lv_at hl 2 rfl) ?_
          refine lv_lload_n hx hb dX4_weigh_67 rfl (lv_at hl 1 rfl) ?_
          refine zpl X w 4 2 17 tyX4 (C := RX4) (T := TX4) (N := 3) rfl ui_X4 tyX4_ok nmX4 (by decide) rfl (tb wf_X4_17) rfl rfl dX4_weigh_68 c8 (fun H locs w => ?_)
          have hk := hR _ (ok_s hk)
          exact zrv X hr hlk w dX4_weigh_71 hk
    · have hk := ok_n c5 hk
      have hk := hR _ (ok_s hk)
      exact zrv X hr hlk w dX4_weigh_23 hk
abbrev rm_X4_find : Room := { frames := 5, cells := 0, slots := 0, locals := 107 }
set_option maxHeartbeats 4000000 in
set_option maxRecDepth 100000 in
theorem wb_X4_find_24 {p : Program} {l : Launch} {e : Env} {s : State} {m : MethodId} {args : Array Value} {below : List Frame} {meth : Method} {c : Code} {D : va_G} {cy : Cyy} {A : Nat → Prop} {G : Gg} (X : Cx p m c cX4_find 3 s args wz_X4_find RX4 D cy) {Q : State → Prop} (r0 : Nat) (r1 : Nat) (Qo : Mm → Prop)  (hE : ∀ (y : Mm), Qo (y) → ∀ (H : Heap) (locs : List Loc) (ls : Array Slot), Wo s D cy A G y H locs → lv_has ls 3 [(0, .ref r0)] → W p l e rm_X4_find s m args below meth c H locs 0 0 Q (F0 m 44 ls [])) (rec : Int32 → Mm → Option (Mm)) (hrec : ∀ (i2 : Int32) (M : Mm) (H : Heap) (locs : List Loc) (ls : Array Slot), Wo s D cy A G M H locs → lv_has ls 3 [(0, .ref r0), (1, .ref r1), (2, .int i2)] → OK (rec i2 M) Qo → W p l e rm_X4_find s m args below meth c H locs 0 0 Q (F0 m 24 ls [])) (i2 : Int32) (M : Mm) (H : Heap) (locs : List Loc) (ls : Array Slot) (w : Wo s D cy A G M H locs) (hl : lv_has ls 3 [(0, .ref r0), (1, .ref r1), (2, .int i2)]) (hk : OK (bd_X4_find_24 G r0 r1 rec i2 M) Qo) : W p l e rm_X4_find s m args below meth c H locs 0 0 Q (F0 m 24 ls []) := by
    have hx := X.1.1
    have hb := X.1.2.1
    unfold bd_X4_find_24 at hk
    refine lv_iload_n hx hb dX4_find_24 rfl (lv_at hl 2 rfl) ?_
    refine lv_aload_n hx hb dX4_find_25 rfl (lv_at hl 1 rfl) ?_
    obtain ⟨c9, hk⟩ := ok_c hk
    obtain ⟨q7, e8, hk⟩ := ok_b hk
    refine zVi X w (n := 0) (As := []) (rest := [.int i2]) (ci := 0) (C := RX0) (T := TX0) (N := 7) (c_X0_allStates l D cy G M r1 e8) (gzV wm_X4_29 wi_X0_allStates ws_X0_allStates wn_X0 wc_X0_allStates) rfl rfl rfl (by decide +kernel) (by decide) rfl c9 rfl rfl hl.1 (Nat.le_of_ble_eq_true rfl) dX4_find_26 ⟨Nat.zero_le _, Nat.zero_le _⟩ (fun H locs w => ?_)
    refine lv_icmp_ge (tgt := 44) hx hb dX4_find_29 (by decide) (fun c10 => ?_) (fun c10 => ?_)
    · have hk := ok_p c10 hk
      exact hE M (ok_s hk) _ _ _ w (lv_sub hl [0] rfl)
    · have hk := ok_n c10 hk
      refine lv_aload_n hx hb dX4_find_32 rfl (lv_at hl 0 rfl) ?_
      refine lv_aload_n hx hb dX4_find_33 rfl (lv_at hl 1 rfl) ?_
      refine lv_iload_n hx hb dX4_find_34 rfl (lv_at hl 2 rfl) ?_
      obtain ⟨c13, hk⟩ := ok_c hk
      obtain ⟨q11, e12, hk⟩ := ok_b hk
      refine zVv X w (n := 2) (As := [.ref r1, .int i2]) (rest := []) (ci := 4) (C := RX4) (T := TX4) (N := 3) (c_X4_weigh l D cy G M r0 r1 i2 e12) (gzV wm_X4_33 wi_X4_weigh ws_X4_weigh wn_X4 wc_X4_weigh) rfl rfl rfl (by decide +kernel) (by decide) rfl c13 rfl rfl hl.1 (Nat.le_of_ble_eq_true rfl) dX4_find_35 ⟨Nat.zero_le _, Nat.zero_le _⟩ (fun H locs w => ?_)
      refine lv_iinc (v := (i2 + 1)) (lv' := [(2, .int (i2 + 1)), (0, .ref r0), (1, .ref r1)]) hx hb dX4_find_38 hl (k := 2) rfl rfl (by decide) rfl (fun ls hl => ?_)
      refine lv_goto (tgt := 24) hx hb dX4_find_41 (by decide) ?_
      exact hrec (i2 + 1) q11 _ _ _ w (lv_sub hl [1, 2, 0] rfl) hk
theorem wl_X4_find_24 {p : Program} {l : Launch} {e : Env} {s : State} {m : MethodId} {args : Array Value} {below : List Frame} {meth : Method} {c : Code} {D : va_G} {cy : Cyy} {A : Nat → Prop} {G : Gg} (X : Cx p m c cX4_find 3 s args wz_X4_find RX4 D cy) {Q : State → Prop} (r0 : Nat) (r1 : Nat) (Qo : Mm → Prop)  (hE : ∀ (y : Mm), Qo (y) → ∀ (H : Heap) (locs : List Loc) (ls : Array Slot), Wo s D cy A G y H locs → lv_has ls 3 [(0, .ref r0)] → W p l e rm_X4_find s m args below meth c H locs 0 0 Q (F0 m 44 ls [])) : ∀ (n : Nat) (i2 : Int32) (M : Mm) (H : Heap) (locs : List Loc) (ls : Array Slot), Wo s D cy A G M H locs → lv_has ls 3 [(0, .ref r0), (1, .ref r1), (2, .int i2)] → OK (lp_X4_find_24 G r0 r1 n i2 M) Qo → W p l e rm_X4_find s m args below meth c H locs 0 0 Q (F0 m 24 ls []) := by
  intro n
  induction n with
  | zero => intro i2 M H locs ls w hl hk; exact ok_0 hk
  | succ n ih => intro i2 M H locs ls w hl hk; exact wb_X4_find_24 X r0 r1 Qo hE  (lp_X4_find_24 G r0 r1 n) ih i2 M H locs ls w hl hk
set_option maxHeartbeats 4000000 in
set_option maxRecDepth 100000 in
theorem c_X4_find (l : Launch) (D : va_G) (cy : Cyy) (G : Gg) (M : Mm) (r0 : Nat) (r1 : Nat) {q : Int32 × Mm} (hm : f_X4_find G M r0 r1 = some q) : CI l yX4_find wz_X4_find rm_X4_find D cy G M [.ref r0, .ref r1] q.1 q.2 := by
  refine Met_of (Qf := fun A => QI D cy G A q.1 q.2) (cc := cX4_find) (nL := 3) (ret := (some .boolean)) (own := RX4) (lv := [(0, .ref r0), (1, .ref r1)]) (by decide) rfl rfl (Nat.le_of_ble_eq_true rfl) rfl ?_
  intro p e s m args below meth c A ls X hr hlk w hl
  have hx := X.1.1
  have hb := X.1.2.1
  obtain ⟨Qo, hR, hk⟩ : ∃ Qo : Int32 × Mm → Prop, (∀ x, Qo x → x = q) ∧ OK (f_X4_find G M r0 r1) Qo := ⟨fun x => x = q, fun _ h => h, q, hm, rfl⟩
  unfold f_X4_find at hk
  refine lv_aload_n hx hb dX4_find_0 rfl (lv_at hl 0 rfl) ?_
  refine lv_iconst (v := 0) hx hb dX4_find_1 (by decide) ?_
  obtain ⟨c1, hk⟩ := ok_c hk
  refine zpi X w 4 0 7 tyX4 (C := RX4) (T := TX4) (N := 3) rfl ui_X4 tyX4_ok nmX4 (by decide) rfl (tb wf_X4_7) rfl rfl dX4_find_2 c1 (fun H locs w => ?_)
  refine lv_aload_n hx hb dX4_find_5 rfl (lv_at hl 1 rfl) ?_
  obtain ⟨c2, hk⟩ := ok_c hk
  refine zgNi X w 0 0 20 "BlendBench" (C := RX0) (T := TX0) (N := 7) rfl ui_X0 (by decide) rfl (by decide +kernel) dX4_find_6 c2 ?_
  refine lv_iconst (v := 2) hx hb dX4_find_9 (by decide) ?_
  refine lv_icmp_lt (tgt := 20) hx hb dX4_find_10 (by decide) (fun c3 => ?_) (fun c3 => ?_)
  · have hk := ok_p c3 hk
    refine lv_iconst (v := 0) hx hb dX4_find_20 (by decide) ?_
    have hk := hR _ (ok_s hk)
    exact zrz X hr hlk w dX4_find_21 (by decide) (pr1 hk) (pr2 hk)
  · have hk := ok_n c3 hk
    refine lv_aload_n hx hb dX4_find_13 rfl (lv_at hl 1 rfl) ?_
    obtain ⟨q4, e5, hk⟩ := ok_b hk
    refine zVi X w (n := 0) (As := []) (rest := []) (ci := 0) (C := RX0) (T := TX0) (N := 7) (c_X0_isWhole l D cy G (mwI M r0 0 (0 : Int32)) r1 e5) (gzV wm_X4_25 wi_X0_isWhole ws_X0_isWhole wn_X0 wc_X0_isWhole) rfl rfl rfl (by decide +kernel) (by decide) rfl c2 rfl rfl hl.1 (Nat.le_of_ble_eq_true rfl) dX4_find_14 ⟨Nat.zero_le _, Nat.zero_le _⟩ (fun H locs w => ?_)
    refine lv_if_ne (tgt := 22) hx hb dX4_find_17 (by decide) (fun c6 => ?_) (fun c6 => ?_)
    · have hk := ok_n c6 hk
      refine lv_iconst (v := 1) hx hb dX4_find_22 (by decide) ?_
      refine lv_istore_n (lv' := [(2, .int (1 : Int32)), (0, .ref r0), (1, .ref r1)]) hx hb dX4_find_23 rfl hl (by decide) rfl (fun ls hl => ?_)
      refine wl_X4_find_24 X r0 r1 (Qo := _) (fun q14 hk H locs ls w hl => ?_) FU (1 : Int32) (mwI M r0 0 (0 : Int32)) _ _ _ w (lv_sub hl [1, 2, 0] rfl) (ok_b hk)
      refine lv_aload_n hx hb dX4_find_44 rfl (lv_at hl 0 rfl) ?_
      refine zgi X w 4 0 7 (C := RX4) (T := TX4) (N := 3) rfl ui_X4 (by decide) rfl (tb wf_X4_7) dX4_find_45 c1 ?_
      refine lv_if_eq (tgt := 55) hx hb dX4_find_48 (by decide) (fun c15 => ?_) (fun c15 => ?_)
      · have hk := ok_p c15 hk
        refine lv_iconst (v := 0) hx hb dX4_find_55 (by decide) ?_
        have hk := hR _ (ok_s hk)
        exact zrz X hr hlk w dX4_find_56 (by decide) (pr1 hk) (pr2 hk)
      · have hk := ok_n c15 hk
        refine lv_iconst (v := 1) hx hb dX4_find_51 (by decide) ?_
        refine lv_goto (tgt := 56) hx hb dX4_find_52 (by decide) ?_
        have hk := hR _ (ok_s hk)
        exact zrz X hr hlk w dX4_find_56 (by decide) (pr1 hk) (pr2 hk)
    · have hk := ok_p c6 hk
      refine lv_iconst (v := 0) hx hb dX4_find_20 (by decide) ?_
      have hk := hR _ (ok_s hk)
      exact zrz X hr hlk w dX4_find_21 (by decide) (pr1 hk) (pr2 hk)
abbrev rm_X5_membersWith : Room := { frames := 0, cells := 0, slots := 0, locals := 0 }
set_option maxHeartbeats 4000000 in
set_option maxRecDepth 100000 in
theorem wb_X5_membersWith_4 {p : Program} {l : Launch} {e : Env} {s : State} {m : MethodId} {args : Array Value} {below : List Frame} {meth : Method} {c : Code} {D : va_G} {cy : Cyy} {A : Nat → Prop} {G : Gg} (X : Cx p m c cX5_membersWith 4 s args wz_X5_membersWith RX5 D cy) {Q : State → Prop} (M : Mm) (r0 : Nat) (i1 : Int32) (Qo : Int32 → Prop)  (hE : ∀ (y : Int32), Qo (y) → ∀ (H : Heap) (locs : List Loc) (ls : Array Slot), Wo s D cy A G M H locs → lv_has ls 4 [(2, .int y)] → W p l e rm_X5_membersWith s m args below meth c H locs 0 0 Q (F0 m 43 ls [])) (rec : Int32 → Int32 → Option (Int32)) (hrec : ∀ (i2 : Int32) (i3 : Int32) (H : Heap) (locs : List Loc) (ls : Array Slot), Wo s D cy A G M H locs → lv_has ls 4 [(0, .ref r0), (1, .int i1), (2, .int i2), (3, .int i3)] → OK (rec i2 i3) Qo → W p l e rm_X5_membersWith s m args below meth c H locs 0 0 Q (F0 m 4 ls [])) (i2 : Int32) (i3 : Int32) (H : Heap) (locs : List Loc) (ls : Array Slot) (w : Wo s D cy A G M H locs) (hl : lv_has ls 4 [(0, .ref r0), (1, .int i1), (2, .int i2), (3, .int i3)]) (hk : OK (bd_X5_membersWith_4 G M r0 i1 rec i2 i3) Qo) : W p l e rm_X5_membersWith s m args below meth c H locs 0 0 Q (F0 m 4 ls []) := by
    have hx := X.1.1
    have hb := X.1.2.1
    unfold bd_X5_membersWith_4 at hk
    refine lv_iload_n hx hb dX5_membersWith_4 rfl (lv_at hl 3 rfl) ?_
    refine lv_aload_n hx hb dX5_membersWith_5 rfl (lv_at hl 0 rfl) ?_
    obtain ⟨c1, hk⟩ := ok_c hk
    refine zgi X w 5 2 18 (C := RX5) (T := TX5) (N := 4) rfl ui_X5 (by decide) rfl (tb wf_X5_18) dX5_membersWith_6 c1 ?_
    refine lv_icmp_ge (tgt := 43) hx hb dX5_membersWith_9 (by decide) (fun c2 => ?_) (fun c2 => ?_)
    · have hk := ok_p c2 hk
      exact hE i2 (ok_s hk) _ _ _ w (lv_sub hl [2] rfl)
    · have hk := ok_n c2 hk
      refine lv_iload_n hx hb dX5_membersWith_12 rfl (lv_at hl 2 rfl) ?_
      refine lv_aload_n hx hb dX5_membersWith_13 rfl (lv_at hl 0 rfl) ?_
      obtain ⟨r3, e4, hk⟩ := ok_b hk
      refine zgr X w 5 0 9 (C := RX5) (T := TX5) (N := 4) rfl ui_X5 (by decide) rfl (tb wf_X5_9) dX5_membersWith_14 c1 e4 ?_
      refine lv_iload_n hx hb dX5_membersWith_17 rfl (lv_at hl 3 rfl) ?_
      obtain ⟨c5, hk⟩ := ok_c hk
      obtain ⟨c6, hk⟩ := ok_c hk
      refine zai X w dX5_membersWith_18 c5 c6 ?_
      refine lv_aload_n hx hb dX5_membersWith_19 rfl (lv_at hl 0 rfl) ?_
      refine zgr X w 5 0 9 (C := RX5) (T := TX5) (N := 4) rfl ui_X5 (by decide) rfl (tb wf_X5_9) dX5_membersWith_20 c1 e4 ?_
      refine lv_iload_n hx hb dX5_membersWith_23 rfl (lv_at hl 1 rfl) ?_
      obtain ⟨c7, hk⟩ := ok_c hk
      refine zai X w dX5_membersWith_24 c5 c7 ?_
      refine lv_icmp_ne (tgt := 34) hx hb dX5_membersWith_25 (by decide) (fun c8 => ?_) (fun c8 => ?_)
      · have hk := ok_n c8 hk
        refine lv_iconst (v := 0) hx hb dX5_membersWith_34 (by decide) ?_
        refine lv_ior hx hb dX5_membersWith_35 ?_
        refine lv_istore_n (lv' := [(2, .int (i2 ||| (0 : Int32))), (0, .ref r0), (1, .int i1), (3, .int i3)]) hx hb dX5_membersWith_36 rfl hl (by decide) rfl (fun ls hl => ?_)
        refine lv_iinc (v := (i3 + 1)) (lv' := [(3, .int (i3 + 1)), (2, .int (i2 ||| (0 : Int32))), (0, .ref r0), (1, .int i1)]) hx hb dX5_membersWith_37 hl (k := 3) rfl rfl (by decide) rfl (fun ls hl => ?_)
        refine lv_goto (tgt := 4) hx hb dX5_membersWith_40 (by decide) ?_
        exact hrec (i2 ||| (0 : Int32)) (i3 + 1) _ _ _ w (lv_sub hl [2, 3, 1, 0] rfl) hk
      · have hk := ok_p c8 hk
        refine lv_iconst (v := 1) hx hb dX5_membersWith_28 (by decide) ?_
        refine lv_iload_n hx hb dX5_membersWith_29 rfl (lv_at hl 3 rfl) ?_
        refine lv_ishl hx hb dX5_membersWith_30 ?_
        refine lv_goto (tgt := 35) hx hb dX5_membersWith_31 (by decide) ?_
        refine lv_ior hx hb dX5_membersWith_35 ?_
        refine lv_istore_n (lv' := [(2, .int (i2 ||| ((1 : Int32) <<< (i3 &&& 31)))), (0, .ref r0), (1, .int i1), (3, .int i3)]) hx hb dX5_membersWith_36 rfl hl (by decide) rfl (fun ls hl => ?_)
        refine lv_iinc (v := (i3 + 1)) (lv' := [(3, .int (i3 + 1)), (2, .int (i2 ||| ((1 : Int32) <<< (i3 &&& 31)))), (0, .ref r0), (1, .int i1)]) hx hb dX5_membersWith_37 hl (k := 3) rfl rfl (by decide) rfl (fun ls hl => ?_)
        refine lv_goto (tgt := 4) hx hb dX5_membersWith_40 (by decide) ?_
        exact hrec (i2 ||| ((1 : Int32) <<< (i3 &&& 31))) (i3 + 1) _ _ _ w (lv_sub hl [2, 3, 1, 0] rfl) hk
theorem wl_X5_membersWith_4 {p : Program} {l : Launch} {e : Env} {s : State} {m : MethodId} {args : Array Value} {below : List Frame} {meth : Method} {c : Code} {D : va_G} {cy : Cyy} {A : Nat → Prop} {G : Gg} (X : Cx p m c cX5_membersWith 4 s args wz_X5_membersWith RX5 D cy) {Q : State → Prop} (M : Mm) (r0 : Nat) (i1 : Int32) (Qo : Int32 → Prop)  (hE : ∀ (y : Int32), Qo (y) → ∀ (H : Heap) (locs : List Loc) (ls : Array Slot), Wo s D cy A G M H locs → lv_has ls 4 [(2, .int y)] → W p l e rm_X5_membersWith s m args below meth c H locs 0 0 Q (F0 m 43 ls [])) : ∀ (n : Nat) (i2 : Int32) (i3 : Int32) (H : Heap) (locs : List Loc) (ls : Array Slot), Wo s D cy A G M H locs → lv_has ls 4 [(0, .ref r0), (1, .int i1), (2, .int i2), (3, .int i3)] → OK (lp_X5_membersWith_4 G M r0 i1 n i2 i3) Qo → W p l e rm_X5_membersWith s m args below meth c H locs 0 0 Q (F0 m 4 ls []) := by
  intro n
  induction n with
  | zero => intro i2 i3 H locs ls w hl hk; exact ok_0 hk
  | succ n ih => intro i2 i3 H locs ls w hl hk; exact wb_X5_membersWith_4 X M r0 i1 Qo hE  (lp_X5_membersWith_4 G M r0 i1 n) ih i2 i3 H locs ls w hl hk
set_option maxHeartbeats 4000000 in
set_option maxRecDepth 100000 in
theorem c_X5_membersWith (l : Launch) (D : va_G) (cy : Cyy) (G : Gg) (M : Mm) (r0 : Nat) (i1 : Int32) {q : Int32} (hm : f_X5_membersWith G M r0 i1 = some q) : CI l yX5_membersWith wz_X5_membersWith rm_X5_membersWith D cy G M [.ref r0, .int i1] q M := by
  refine Met_of (Qf := fun A => QI D cy G A q M) (cc := cX5_membersWith) (nL := 4) (ret := (some .int)) (own := RX5) (lv := [(0, .ref r0), (1, .int i1)]) (by decide) rfl rfl (Nat.le_of_ble_eq_true rfl) rfl ?_
  intro p e s m args below meth c A ls X hr hlk w hl
  have hx := X.1.1
  have hb := X.1.2.1
  obtain ⟨Qo, hR, hk⟩ : ∃ Qo : Int32 → Prop, (∀ x, Qo x → x = q) ∧ OK (f_X5_membersWith G M r0 i1) Qo := ⟨fun x => x = q, fun _ h => h, q, hm, rfl⟩
  unfold f_X5_membersWith at hk
  refine lv_iconst (v := 0) hx hb dX5_membersWith_0 (by decide) ?_
  refine lv_istore_n (lv' := [(2, .int (0 : Int32)), (0, .ref r0), (1, .int i1)]) hx hb dX5_membersWith_1 rfl hl (by decide) rfl (fun ls hl => ?_)
  refine lv_iconst (v := 0) hx hb dX5_membersWith_2 (by decide) ?_
  refine lv_istore_n (lv' := [(3, .int (0 : Int32)), (2, .int (0 : Int32)), (0, .ref r0), (1, .int i1)]) hx hb dX5_membersWith_3 rfl hl (by decide) rfl (fun ls hl => ?_)
  refine wl_X5_membersWith_4 X M r0 i1 (Qo := _) (fun q9 hk H locs ls w hl => ?_) FU (0 : Int32) (0 : Int32) _ _ _ w (lv_sub hl [2, 3, 1, 0] rfl) (ok_b hk)
  refine lv_iload_n hx hb dX5_membersWith_43 rfl (lv_at hl 0 rfl) ?_
  have hk := hR _ (ok_s hk)
  exact zri X hr hlk w dX5_membersWith_44 hk rfl
abbrev rm_X5_areLike : Room := { frames := 2, cells := 0, slots := 0, locals := 46 }
set_option maxHeartbeats 4000000 in
set_option maxRecDepth 100000 in
theorem wb_X5_areLike_25 {p : Program} {l : Launch} {e : Env} {s : State} {m : MethodId} {args : Array Value} {below : List Frame} {meth : Method} {c : Code} {D : va_G} {cy : Cyy} {A : Nat → Prop} {G : Gg} (X : Cx p m c cX5_areLike 7 s args wz_X5_areLike RX5 D cy) {Q : State → Prop} (M : Mm) (r0 : Nat) (r1 : Nat) (i2 : Int32) (i3 : Int32) (Qo : Int32 → Prop)  (hE : ∀ (y : Int32), Qo (y) → ∀ (H : Heap) (locs : List Loc) (ls : Array Slot), Wo s D cy A G M H locs → lv_has ls 7 [(4, .int y)] → W p l e rm_X5_areLike s m args below meth c H locs 0 0 Q (F0 m 77 ls [])) (rec : Int32 → Int32 → Option (Int32)) (hrec : ∀ (i4 : Int32) (i5 : Int32) (H : Heap) (locs : List Loc) (ls : Array Slot), Wo s D cy A G M H locs → lv_has ls 7 [(0, .ref r0), (1, .ref r1), (2, .int i2), (3, .int i3), (4, .int i4), (5, .int i5)] → OK (rec i4 i5) Qo → W p l e rm_X5_areLike s m args below meth c H locs 0 0 Q (F0 m 25 ls [])) (i4 : Int32) (i5 : Int32) (H : Heap) (locs : List Loc) (ls : Array Slot) (w : Wo s D cy A G M H locs) (hl : lv_has ls 7 [(0, .ref r0), (1, .ref r1), (2, .int i2), (3, .int i3), (4, .int i4), (5, .int i5)]) (hk : OK (bd_X5_areLike_25 G M r0 r1 i2 i3 rec i4 i5) Qo) : W p l e rm_X5_areLike s m args below meth c H locs 0 0 Q (F0 m 25 ls []) := by
    have hx := X.1.1
    have hb := X.1.2.1
    unfold bd_X5_areLike_25 at hk
    refine lv_iload hx hb dX5_areLike_25 (lv_at hl 5 rfl) ?_
    refine lv_aload_n hx hb dX5_areLike_27 rfl (lv_at hl 0 rfl) ?_
    obtain ⟨c8, hk⟩ := ok_c hk
    refine zgi X w 5 2 18 (C := RX5) (T := TX5) (N := 4) rfl ui_X5 (by decide) rfl (tb wf_X5_18) dX5_areLike_28 c8 ?_
    refine lv_icmp_ge (tgt := 77) hx hb dX5_areLike_31 (by decide) (fun c9 => ?_) (fun c9 => ?_)
    · have hk := ok_p c9 hk
      exact hE i4 (ok_s hk) _ _ _ w (lv_sub hl [4] rfl)
    · have hk := ok_n c9 hk
      refine lv_iload hx hb dX5_areLike_34 (lv_at hl 4 rfl) ?_
      refine lv_if_eq (tgt := 77) hx hb dX5_areLike_36 (by decide) (fun c10 => ?_) (fun c10 => ?_)
      · have hk := ok_p c10 hk
        exact hE i4 (ok_s hk) _ _ _ w (lv_sub hl [4] rfl)
      · have hk := ok_n c10 hk
        refine lv_aload_n hx hb dX5_areLike_39 rfl (lv_at hl 0 rfl) ?_
        refine lv_iload hx hb dX5_areLike_40 (lv_at hl 5 rfl) ?_
        obtain ⟨q11, e12, hk⟩ := ok_b hk
        refine zVi X w (n := 1) (As := [.int i5]) (rest := []) (ci := 5) (C := RX5) (T := TX5) (N := 4) (c_X5_membersWith l D cy G M r0 i5 e12) (gzV wm_X5_52 wi_X5_membersWith ws_X5_membersWith wn_X5 wc_X5_membersWith) rfl rfl rfl (by decide +kernel) (by decide) rfl c8 rfl rfl hl.1 (Nat.le_of_ble_eq_true rfl) dX5_areLike_42 ⟨Nat.zero_le _, Nat.zero_le _⟩ (fun H locs w => ?_)
        refine lv_istore (lv' := [(6, .int q11), (0, .ref r0), (1, .ref r1), (2, .int i2), (3, .int i3), (4, .int i4), (5, .int i5)]) hx hb dX5_areLike_45 hl (by decide) rfl (fun ls hl => ?_)
        refine lv_aload_n hx hb dX5_areLike_47 rfl (lv_at hl 2 rfl) ?_
        refine lv_iload_n hx hb dX5_areLike_48 rfl (lv_at hl 3 rfl) ?_
        refine lv_iload hx hb dX5_areLike_49 (lv_at hl 0 rfl) ?_
        obtain ⟨c15, hk⟩ := ok_c hk
        obtain ⟨q13, e14, hk⟩ := ok_b hk
        refine zVi X w (n := 2) (As := [.int i2, .int q11]) (rest := []) (ci := 0) (C := RX0) (T := TX0) (N := 7) (c_X0_into l D cy G M r1 i2 q11 e14) (gzV wm_X5_55 wi_X0_into ws_X0_into wn_X0 wc_X0_into) rfl rfl rfl (by decide +kernel) (by decide) rfl c15 rfl rfl hl.1 (Nat.le_of_ble_eq_true rfl) dX5_areLike_51 ⟨Nat.zero_le _, Nat.zero_le _⟩ (fun H locs w => ?_)
        refine lv_aload_n hx hb dX5_areLike_54 rfl (lv_at hl 2 rfl) ?_
        refine lv_iload_n hx hb dX5_areLike_55 rfl (lv_at hl 4 rfl) ?_
        refine lv_iload hx hb dX5_areLike_56 (lv_at hl 0 rfl) ?_
        obtain ⟨q16, e17, hk⟩ := ok_b hk
        refine zVi X w (n := 2) (As := [.int i3, .int q11]) (rest := [.int q13]) (ci := 0) (C := RX0) (T := TX0) (N := 7) (c_X0_into l D cy G M r1 i3 q11 e17) (gzV wm_X5_55 wi_X0_into ws_X0_into wn_X0 wc_X0_into) rfl rfl rfl (by decide +kernel) (by decide) rfl c15 rfl rfl hl.1 (Nat.le_of_ble_eq_true rfl) dX5_areLike_58 ⟨Nat.zero_le _, Nat.zero_le _⟩ (fun H locs w => ?_)
        refine lv_icmp_ne (tgt := 68) hx hb dX5_areLike_61 (by decide) (fun c18 => ?_) (fun c18 => ?_)
        · have hk := ok_n c18 hk
          refine lv_iconst (v := 0) hx hb dX5_areLike_68 (by decide) ?_
          refine lv_istore (lv' := [(4, .int (0 : Int32)), (6, .int q11), (0, .ref r0), (1, .ref r1), (2, .int i2), (3, .int i3), (5, .int i5)]) hx hb dX5_areLike_69 hl (by decide) rfl (fun ls hl => ?_)
          refine lv_iinc (v := (i5 + 1)) (lv' := [(5, .int (i5 + 1)), (4, .int (0 : Int32)), (6, .int q11), (0, .ref r0), (1, .ref r1), (2, .int i2), (3, .int i3)]) hx hb dX5_areLike_71 hl (k := 6) rfl rfl (by decide) rfl (fun ls hl => ?_)
          refine lv_goto (tgt := 25) hx hb dX5_areLike_74 (by decide) ?_
          exact hrec (0 : Int32) (i5 + 1) _ _ _ w (lv_sub hl [3, 4, 5, 6, 1, 0] rfl) hk
        · have hk := ok_p c18 hk
          refine lv_iconst (v := 1) hx hb dX5_areLike_64 (by decide) ?_
          refine lv_goto (tgt := 69) hx hb dX5_areLike_65 (by decide) ?_
          refine lv_istore (lv' := [(4, .int (1 : Int32)), (6, .int q11), (0, .ref r0), (1, .ref r1), (2, .int i2), (3, .int i3), (5, .int i5)]) hx hb dX5_areLike_69 hl (by decide) rfl (fun ls hl => ?_)
          refine lv_iinc (v := (i5 + 1)) (lv' := [(5, .int (i5 + 1)), (4, .int (1 : Int32)), (6, .int q11), (0, .ref r0), (1, .ref r1), (2, .int i2), (3, .int i3)]) hx hb dX5_areLike_71 hl (k := 6) rfl rfl (by decide) rfl (fun ls hl => ?_)
          refine lv_goto (tgt := 25) hx hb dX5_areLike_74 (by decide) ?_
          exact hrec (1 : Int32) (i5 + 1) _ _ _ w (lv_sub hl [3, 4, 5, 6, 1, 0] rfl) hk
theorem wl_X5_areLike_25 {p : Program} {l : Launch} {e : Env} {s : State} {m : MethodId} {args : Array Value} {below : List Frame} {meth : Method} {c : Code} {D : va_G} {cy : Cyy} {A : Nat → Prop} {G : Gg} (X : Cx p m c cX5_areLike 7 s args wz_X5_areLike RX5 D cy) {Q : State → Prop} (M : Mm) (r0 : Nat) (r1 : Nat) (i2 : Int32) (i3 : Int32) (Qo : Int32 → Prop)  (hE : ∀ (y : Int32), Qo (y) → ∀ (H : Heap) (locs : List Loc) (ls : Array Slot), Wo s D cy A G M H locs → lv_has ls 7 [(4, .int y)] → W p l e rm_X5_areLike s m args below meth c H locs 0 0 Q (F0 m 77 ls [])) : ∀ (n : Nat) (i4 : Int32) (i5 : Int32) (H : Heap) (locs : List Loc) (ls : Array Slot), Wo s D cy A G M H locs → lv_has ls 7 [(0, .ref r0), (1, .ref r1), (2, .int i2), (3, .int i3), (4, .int i4), (5, .int i5)] → OK (lp_X5_areLike_25 G M r0 r1 i2 i3 n i4 i5) Qo → W p l e rm_X5_areLike s m args below meth c H locs 0 0 Q (F0 m 25 ls []) := by
  intro n
  induction n with
  | zero => intro i4 i5 H locs ls w hl hk; exact ok_0 hk
  | succ n ih => intro i4 i5 H locs ls w hl hk; exact wb_X5_areLike_25 X M r0 r1 i2 i3 Qo hE  (lp_X5_areLike_25 G M r0 r1 i2 i3 n) ih i4 i5 H locs ls w hl hk
set_option maxHeartbeats 4000000 in
set_option maxRecDepth 100000 in
theorem c_X5_areLike (l : Launch) (D : va_G) (cy : Cyy) (G : Gg) (M : Mm) (r0 : Nat) (r1 : Nat) (i2 : Int32) (i3 : Int32) {q : Int32} (hm : f_X5_areLike G M r0 r1 i2 i3 = some q) : CI l yX5_areLike wz_X5_areLike rm_X5_areLike D cy G M [.ref r0, .ref r1, .int i2, .int i3] q M := by
  refine Met_of (Qf := fun A => QI D cy G A q M) (cc := cX5_areLike) (nL := 7) (ret := (some .boolean)) (own := RX5) (lv := [(0, .ref r0), (1, .ref r1), (2, .int i2), (3, .int i3)]) (by decide) rfl rfl (Nat.le_of_ble_eq_true rfl) rfl ?_
  intro p e s m args below meth c A ls X hr hlk w hl
  have hx := X.1.1
  have hb := X.1.2.1
  obtain ⟨Qo, hR, hk⟩ : ∃ Qo : Int32 → Prop, (∀ x, Qo x → x = q) ∧ OK (f_X5_areLike G M r0 r1 i2 i3) Qo := ⟨fun x => x = q, fun _ h => h, q, hm, rfl⟩
  unfold f_X5_areLike at hk
  refine lv_aload_n hx hb dX5_areLike_0 rfl (lv_at hl 0 rfl) ?_
  obtain ⟨c1, hk⟩ := ok_c hk
  obtain ⟨r2, e3, hk⟩ := ok_b hk
  refine zgr X w 5 0 9 (C := RX5) (T := TX5) (N := 4) rfl ui_X5 (by decide) rfl (tb wf_X5_9) dX5_areLike_1 c1 e3 ?_
  refine lv_iload_n hx hb dX5_areLike_4 rfl (lv_at hl 2 rfl) ?_
  obtain ⟨c4, hk⟩ := ok_c hk
  obtain ⟨c5, hk⟩ := ok_c hk
  refine zai X w dX5_areLike_5 c4 c5 ?_
  refine lv_aload_n hx hb dX5_areLike_6 rfl (lv_at hl 0 rfl) ?_
  refine zgr X w 5 0 9 (C := RX5) (T := TX5) (N := 4) rfl ui_X5 (by decide) rfl (tb wf_X5_9) dX5_areLike_7 c1 e3 ?_
  refine lv_iload_n hx hb dX5_areLike_10 rfl (lv_at hl 3 rfl) ?_
  obtain ⟨c6, hk⟩ := ok_c hk
  refine zai X w dX5_areLike_11 c4 c6 ?_
  refine lv_icmp_ne (tgt := 19) hx hb dX5_areLike_12 (by decide) (fun c7 => ?_) (fun c7 => ?_)
  · have hk := ok_n c7 hk
    refine lv_iconst (v := 0) hx hb dX5_areLike_19 (by decide) ?_
    refine lv_istore (lv' := [(4, .int (0 : Int32)), (0, .ref r0), (1, .ref r1), (2, .int i2), (3, .int i3)]) hx hb dX5_areLike_20 hl (by decide) rfl (fun ls hl => ?_)
    refine lv_iconst (v := 0) hx hb dX5_areLike_22 (by decide) ?_
    refine lv_istore (lv' := [(5, .int (0 : Int32)), (4, .int (0 : Int32)), (0, .ref r0), (1, .ref r1), (2, .int i2), (3, .int i3)]) hx hb dX5_areLike_23 hl (by decide) rfl (fun ls hl => ?_)
    refine wl_X5_areLike_25 X M r0 r1 i2 i3 (Qo := _) (fun q19 hk H locs ls w hl => ?_) FU (0 : Int32) (0 : Int32) _ _ _ w (lv_sub hl [2, 3, 4, 5, 1, 0] rfl) (ok_b hk)
    refine lv_iload hx hb dX5_areLike_77 (lv_at hl 0 rfl) ?_
    obtain ⟨c20, hk⟩ := ok_c hk
    have hk := hR _ (ok_s hk)
    exact zrz X hr hlk w dX5_areLike_79 c20 hk rfl
  · have hk := ok_p c7 hk
    refine lv_iconst (v := 1) hx hb dX5_areLike_15 (by decide) ?_
    refine lv_goto (tgt := 20) hx hb dX5_areLike_16 (by decide) ?_
    refine lv_istore (lv' := [(4, .int (1 : Int32)), (0, .ref r0), (1, .ref r1), (2, .int i2), (3, .int i3)]) hx hb dX5_areLike_20 hl (by decide) rfl (fun ls hl => ?_)
    refine lv_iconst (v := 0) hx hb dX5_areLike_22 (by decide) ?_
    refine lv_istore (lv' := [(5, .int (0 : Int32)), (4, .int (1 : Int32)), (0, .ref r0), (1, .ref r1), (2, .int i2), (3, .int i3)]) hx hb dX5_areLike_23 hl (by decide) rfl (fun ls hl => ?_)
    refine wl_X5_areLike_25 X M r0 r1 i2 i3 (Qo := _) (fun q21 hk H locs ls w hl => ?_) FU (1 : Int32) (0 : Int32) _ _ _ w (lv_sub hl [2, 3, 4, 5, 1, 0] rfl) (ok_b hk)
    refine lv_iload hx hb dX5_areLike_77 (lv_at hl 0 rfl) ?_
    obtain ⟨c22, hk⟩ := ok_c hk
    have hk := hR _ (ok_s hk)
    exact zrz X hr hlk w dX5_areLike_79 c22 hk rfl
abbrev rm_X5_firstLike : Room := { frames := 3, cells := 0, slots := 0, locals := 72 }
set_option maxHeartbeats 4000000 in
set_option maxRecDepth 100000 in
theorem wb_X5_firstLike_2 {p : Program} {l : Launch} {e : Env} {s : State} {m : MethodId} {args : Array Value} {below : List Frame} {meth : Method} {c : Code} {D : va_G} {cy : Cyy} {A : Nat → Prop} {G : Gg} (X : Cx p m c cX5_firstLike 4 s args wz_X5_firstLike RX5 D cy) (M : Mm) (r0 : Nat) (r1 : Nat) (i2 : Int32) (Qo : (Int32) ⊕ (Unit) → Prop) (hr : meth.sig.returnType = (some .int)) (hlk : meth.locks = false) {x0 : Int32} (hR : ∀ x, Qo (.inl x) → x = x0) (hE : ∀ (y : Unit), Qo (.inr y) → ∀ (H : Heap) (locs : List Loc) (ls : Array Slot), Wo s D cy A G M H locs → lv_has ls 4 [(2, .int i2)] → W p l e rm_X5_firstLike s m args below meth c H locs 0 0 (MQ below (QI D cy G A x0 M) args s 0 0 A) (F0 m 25 ls [])) (rec : Int32 → Option ((Int32) ⊕ (Unit))) (hrec : ∀ (i3 : Int32) (H : Heap) (locs : List Loc) (ls : Array Slot), Wo s D cy A G M H locs → lv_has ls 4 [(0, .ref r0), (1, .ref r1), (2, .int i2), (3, .int i3)] → OK (rec i3) Qo → W p l e rm_X5_firstLike s m args below meth c H locs 0 0 (MQ below (QI D cy G A x0 M) args s 0 0 A) (F0 m 2 ls [])) (i3 : Int32) (H : Heap) (locs : List Loc) (ls : Array Slot) (w : Wo s D cy A G M H locs) (hl : lv_has ls 4 [(0, .ref r0), (1, .ref r1), (2, .int i2), (3, .int i3)]) (hk : OK (bd_X5_firstLike_2 G M r0 r1 i2 rec i3) Qo) : W p l e rm_X5_firstLike s m args below meth c H locs 0 0 (MQ below (QI D cy G A x0 M) args s 0 0 A) (F0 m 2 ls []) := by
    have hx := X.1.1
    have hb := X.1.2.1
    unfold bd_X5_firstLike_2 at hk
    refine lv_iload_n hx hb dX5_firstLike_2 rfl (lv_at hl 3 rfl) ?_
    refine lv_iload_n hx hb dX5_firstLike_3 rfl (lv_at hl 2 rfl) ?_
    refine lv_icmp_ge (tgt := 25) hx hb dX5_firstLike_4 (by decide) (fun c1 => ?_) (fun c1 => ?_)
    · have hk := ok_p c1 hk
      exact hE () (ok_s hk) _ _ _ w (lv_sub hl [2] rfl)
    · have hk := ok_n c1 hk
      refine lv_aload_n hx hb dX5_firstLike_7 rfl (lv_at hl 0 rfl) ?_
      refine lv_aload_n hx hb dX5_firstLike_8 rfl (lv_at hl 1 rfl) ?_
      refine lv_iload_n hx hb dX5_firstLike_9 rfl (lv_at hl 2 rfl) ?_
      refine lv_iload_n hx hb dX5_firstLike_10 rfl (lv_at hl 3 rfl) ?_
      obtain ⟨c4, hk⟩ := ok_c hk
      obtain ⟨q2, e3, hk⟩ := ok_b hk
      refine zVi X w (n := 3) (As := [.ref r1, .int i2, .int i3]) (rest := []) (ci := 5) (C := RX5) (T := TX5) (N := 4) (c_X5_areLike l D cy G M r0 r1 i2 i3 e3) (gzV wm_X5_48 wi_X5_areLike ws_X5_areLike wn_X5 wc_X5_areLike) rfl rfl rfl (by decide +kernel) (by decide) rfl c4 rfl rfl hl.1 (Nat.le_of_ble_eq_true rfl) dX5_firstLike_11 ⟨Nat.zero_le _, Nat.zero_le _⟩ (fun H locs w => ?_)
      refine lv_if_eq (tgt := 19) hx hb dX5_firstLike_14 (by decide) (fun c5 => ?_) (fun c5 => ?_)
      · have hk := ok_p c5 hk
        refine lv_iinc (v := (i3 + 1)) (lv' := [(3, .int (i3 + 1)), (0, .ref r0), (1, .ref r1), (2, .int i2)]) hx hb dX5_firstLike_19 hl (k := 3) rfl rfl (by decide) rfl (fun ls hl => ?_)
        refine lv_goto (tgt := 2) hx hb dX5_firstLike_22 (by decide) ?_
        exact hrec (i3 + 1) _ _ _ w (lv_sub hl [1, 2, 3, 0] rfl) hk
      · have hk := ok_n c5 hk
        refine lv_iload_n hx hb dX5_firstLike_17 rfl (lv_at hl 3 rfl) ?_
        have hk := hR _ (ok_s hk)
        exact zri X hr hlk w dX5_firstLike_18 hk rfl
theorem wl_X5_firstLike_2 {p : Program} {l : Launch} {e : Env} {s : State} {m : MethodId} {args : Array Value} {below : List Frame} {meth : Method} {c : Code} {D : va_G} {cy : Cyy} {A : Nat → Prop} {G : Gg} (X : Cx p m c cX5_firstLike 4 s args wz_X5_firstLike RX5 D cy) (M : Mm) (r0 : Nat) (r1 : Nat) (i2 : Int32) (Qo : (Int32) ⊕ (Unit) → Prop) (hr : meth.sig.returnType = (some .int)) (hlk : meth.locks = false) {x0 : Int32} (hR : ∀ x, Qo (.inl x) → x = x0) (hE : ∀ (y : Unit), Qo (.inr y) → ∀ (H : Heap) (locs : List Loc) (ls : Array Slot), Wo s D cy A G M H locs → lv_has ls 4 [(2, .int i2)] → W p l e rm_X5_firstLike s m args below meth c H locs 0 0 (MQ below (QI D cy G A x0 M) args s 0 0 A) (F0 m 25 ls [])) : ∀ (n : Nat) (i3 : Int32) (H : Heap) (locs : List Loc) (ls : Array Slot), Wo s D cy A G M H locs → lv_has ls 4 [(0, .ref r0), (1, .ref r1), (2, .int i2), (3, .int i3)] → OK (lp_X5_firstLike_2 G M r0 r1 i2 n i3) Qo → W p l e rm_X5_firstLike s m args below meth c H locs 0 0 (MQ below (QI D cy G A x0 M) args s 0 0 A) (F0 m 2 ls []) := by
  intro n
  induction n with
  | zero => intro i3 H locs ls w hl hk; exact ok_0 hk
  | succ n ih => intro i3 H locs ls w hl hk; exact wb_X5_firstLike_2 X M r0 r1 i2 Qo hr hlk hR hE  (lp_X5_firstLike_2 G M r0 r1 i2 n) ih i3 H locs ls w hl hk
set_option maxHeartbeats 4000000 in
set_option maxRecDepth 100000 in
theorem c_X5_firstLike (l : Launch) (D : va_G) (cy : Cyy) (G : Gg) (M : Mm) (r0 : Nat) (r1 : Nat) (i2 : Int32) {q : Int32} (hm : f_X5_firstLike G M r0 r1 i2 = some q) : CI l yX5_firstLike wz_X5_firstLike rm_X5_firstLike D cy G M [.ref r0, .ref r1, .int i2] q M := by
  refine Met_of (Qf := fun A => QI D cy G A q M) (cc := cX5_firstLike) (nL := 4) (ret := (some .int)) (own := RX5) (lv := [(0, .ref r0), (1, .ref r1), (2, .int i2)]) (by decide) rfl rfl (Nat.le_of_ble_eq_true rfl) rfl ?_
  intro p e s m args below meth c A ls X hr hlk w hl
  have hx := X.1.1
  have hb := X.1.2.1
  obtain ⟨Qo, hR, hk⟩ : ∃ Qo : Int32 → Prop, (∀ x, Qo x → x = q) ∧ OK (f_X5_firstLike G M r0 r1 i2) Qo := ⟨fun x => x = q, fun _ h => h, q, hm, rfl⟩
  unfold f_X5_firstLike at hk
  refine lv_iconst (v := 0) hx hb dX5_firstLike_0 (by decide) ?_
  refine lv_istore_n (lv' := [(3, .int (0 : Int32)), (0, .ref r0), (1, .ref r1), (2, .int i2)]) hx hb dX5_firstLike_1 rfl hl (by decide) rfl (fun ls hl => ?_)
  refine wl_X5_firstLike_2 X M r0 r1 i2 (Qo := _) hr hlk (fun x h => hR x (ok_s (show OK (some x) Qo from h))) (fun y7 hk H locs ls w hl => ?_) FU (0 : Int32) _ _ _ w (lv_sub hl [1, 2, 3, 0] rfl) (ok_b hk)
  have hk := ok_r hk
  refine lv_iload_n hx hb dX5_firstLike_25 rfl (lv_at hl 0 rfl) ?_
  have hk := hR _ (ok_s hk)
  exact zri X hr hlk w dX5_firstLike_26 hk rfl
abbrev rm_X5_splitOnce : Room := { frames := 4, cells := 0, slots := 0, locals := 95 }
set_option maxHeartbeats 4000000 in
set_option maxRecDepth 100000 in
theorem wb_X5_splitOnce_7 {p : Program} {l : Launch} {e : Env} {s : State} {m : MethodId} {args : Array Value} {below : List Frame} {meth : Method} {c : Code} {D : va_G} {cy : Cyy} {A : Nat → Prop} {G : Gg} (X : Cx p m c cX5_splitOnce 4 s args wz_X5_splitOnce RX5 D cy) {Q : State → Prop} (r0 : Nat) (r1 : Nat) (Qo : Mm → Prop)  (hE : ∀ (y : Mm), Qo (y) → ∀ (H : Heap) (locs : List Loc) (ls : Array Slot), Wo s D cy A G y H locs → lv_has ls 4 [(0, .ref r0)] → W p l e rm_X5_splitOnce s m args below meth c H locs 0 0 Q (F0 m 68 ls [])) (rec : Int32 → Mm → Option (Mm)) (hrec : ∀ (i2 : Int32) (M : Mm) (H : Heap) (locs : List Loc) (ls : Array Slot), Wo s D cy A G M H locs → lv_has ls 4 [(0, .ref r0), (1, .ref r1), (2, .int i2)] → OK (rec i2 M) Qo → W p l e rm_X5_splitOnce s m args below meth c H locs 0 0 Q (F0 m 7 ls [])) (i2 : Int32) (M : Mm) (H : Heap) (locs : List Loc) (ls : Array Slot) (w : Wo s D cy A G M H locs) (hl : lv_has ls 4 [(0, .ref r0), (1, .ref r1), (2, .int i2)]) (hk : OK (bd_X5_splitOnce_7 G r0 r1 rec i2 M) Qo) : W p l e rm_X5_splitOnce s m args below meth c H locs 0 0 Q (F0 m 7 ls []) := by
    have hx := X.1.1
    have hb := X.1.2.1
    unfold bd_X5_splitOnce_7 at hk
    refine lv_iload_n hx hb dX5_splitOnce_7 rfl (lv_at hl 2 rfl) ?_
    refine lv_aload_n hx hb dX5_splitOnce_8 rfl (lv_at hl 0 rfl) ?_
    obtain ⟨c2, hk⟩ := ok_c hk
    refine zgi X w 5 2 18 (C := RX5) (T := TX5) (N := 4) rfl ui_X5 (by decide) rfl (tb wf_X5_18) dX5_splitOnce_9 c2 ?_
    refine lv_icmp_ge (tgt := 68) hx hb dX5_splitOnce_12 (by decide) (fun c3 => ?_) (fun c3 => ?_)
    · have hk := ok_p c3 hk
      exact hE M (ok_s hk) _ _ _ w (lv_sub hl [0] rfl)
    · have hk := ok_n c3 hk
      refine lv_aload_n hx hb dX5_splitOnce_15 rfl (lv_at hl 0 rfl) ?_
      refine lv_aload_n hx hb dX5_splitOnce_16 rfl (lv_at hl 1 rfl) ?_
      refine lv_iload_n hx hb dX5_splitOnce_17 rfl (lv_at hl 2 rfl) ?_
      obtain ⟨q4, e5, hk⟩ := ok_b hk
      refine zVi X w (n := 2) (As := [.ref r1, .int i2]) (rest := []) (ci := 5) (C := RX5) (T := TX5) (N := 4) (c_X5_firstLike l D cy G M r0 r1 i2 e5) (gzV wm_X5_38 wi_X5_firstLike ws_X5_firstLike wn_X5 wc_X5_firstLike) rfl rfl rfl (by decide +kernel) (by decide) rfl c2 rfl rfl hl.1 (Nat.le_of_ble_eq_true rfl) dX5_splitOnce_18 ⟨Nat.zero_le _, Nat.zero_le _⟩ (fun H locs w => ?_)
      refine lv_istore_n (lv' := [(3, .int q4), (0, .ref r0), (1, .ref r1), (2, .int i2)]) hx hb dX5_splitOnce_21 rfl hl (by decide) rfl (fun ls hl => ?_)
      refine lv_iload_n hx hb dX5_splitOnce_22 rfl (lv_at hl 0 rfl) ?_
      refine lv_iload_n hx hb dX5_splitOnce_23 rfl (lv_at hl 3 rfl) ?_
      refine lv_icmp_ge (tgt := 42) hx hb dX5_splitOnce_24 (by decide) (fun c6 => ?_) (fun c6 => ?_)
      · have hk := ok_p c6 hk
        refine lv_aload_n hx hb dX5_splitOnce_42 rfl (lv_at hl 1 rfl) ?_
        obtain ⟨r7, e8, hk⟩ := ok_b hk
        refine zgr X w 5 1 15 (C := RX5) (T := TX5) (N := 4) rfl ui_X5 (by decide) rfl (tb wf_X5_15) dX5_splitOnce_43 c2 e8 ?_
        refine lv_iload_n hx hb dX5_splitOnce_46 rfl (lv_at hl 3 rfl) ?_
        refine lv_aload_n hx hb dX5_splitOnce_47 rfl (lv_at hl 1 rfl) ?_
        refine zgi X w 5 3 22 (C := RX5) (T := TX5) (N := 4) rfl ui_X5 (by decide) rfl (tb wf_X5_22) dX5_splitOnce_48 c2 ?_
        obtain ⟨c9, hk⟩ := ok_c hk
        obtain ⟨c10, hk⟩ := ok_c hk
        refine zsi X w dX5_splitOnce_51 c9 c10 (fun H locs w => ?_)
        refine lv_aload_n hx hb dX5_splitOnce_52 rfl (lv_at hl 1 rfl) ?_
        refine lv_dup hx hb dX5_splitOnce_53 rfl ?_
        refine zgi X w 5 3 22 (C := RX5) (T := TX5) (N := 4) rfl ui_X5 (by decide) rfl (tb wf_X5_22) dX5_splitOnce_54 c2 ?_
        refine lv_iconst (v := 1) hx hb dX5_splitOnce_57 (by decide) ?_
        refine lv_iadd hx hb dX5_splitOnce_58 ?_
        refine zpi X w 5 3 22 tyX5 (C := RX5) (T := TX5) (N := 4) rfl ui_X5 tyX5_ok nmX5 (by decide) rfl (tb wf_X5_22) rfl rfl dX5_splitOnce_59 c2 (fun H locs w => ?_)
        refine lv_iinc (v := (i2 + 1)) (lv' := [(2, .int (i2 + 1)), (3, .int q4), (0, .ref r0), (1, .ref r1)]) hx hb dX5_splitOnce_62 hl (k := 3) rfl rfl (by decide) rfl (fun ls hl => ?_)
        refine lv_goto (tgt := 7) hx hb dX5_splitOnce_65 (by decide) ?_
        exact hrec (i2 + 1) (mwI (mwI M r7 (Int32.toNatClampNeg i2) (M.1 r0 3)) r0 3 (((mwI M r7 (Int32.toNatClampNeg i2) (M.1 r0 3)).1 r0 3) + (1 : Int32))) _ _ _ w (lv_sub hl [2, 3, 0] rfl) hk
      · have hk := ok_n c6 hk
        refine lv_aload_n hx hb dX5_splitOnce_27 rfl (lv_at hl 1 rfl) ?_
        obtain ⟨r11, e12, hk⟩ := ok_b hk
        refine zgr X w 5 1 15 (C := RX5) (T := TX5) (N := 4) rfl ui_X5 (by decide) rfl (tb wf_X5_15) dX5_splitOnce_28 c2 e12 ?_
        refine lv_iload_n hx hb dX5_splitOnce_31 rfl (lv_at hl 3 rfl) ?_
        refine lv_aload_n hx hb dX5_splitOnce_32 rfl (lv_at hl 1 rfl) ?_
        refine zgr X w 5 1 15 (C := RX5) (T := TX5) (N := 4) rfl ui_X5 (by decide) rfl (tb wf_X5_15) dX5_splitOnce_33 c2 e12 ?_
        refine lv_iload_n hx hb dX5_splitOnce_36 rfl (lv_at hl 0 rfl) ?_
        obtain ⟨c13, hk⟩ := ok_c hk
        obtain ⟨c14, hk⟩ := ok_c hk
        refine zai X w dX5_splitOnce_37 c13 c14 ?_
        obtain ⟨c15, hk⟩ := ok_c hk
        refine zsi X w dX5_splitOnce_38 c13 c15 (fun H locs w => ?_)
        refine lv_goto (tgt := 62) hx hb dX5_splitOnce_39 (by decide) ?_
        refine lv_iinc (v := (i2 + 1)) (lv' := [(2, .int (i2 + 1)), (3, .int q4), (0, .ref r0), (1, .ref r1)]) hx hb dX5_splitOnce_62 hl (k := 3) rfl rfl (by decide) rfl (fun ls hl => ?_)
        refine lv_goto (tgt := 7) hx hb dX5_splitOnce_65 (by decide) ?_
        exact hrec (i2 + 1) (mwI M r11 (Int32.toNatClampNeg i2) (M.1 r11 (Int32.toNatClampNeg q4))) _ _ _ w (lv_sub hl [2, 3, 0] rfl) hk
theorem wl_X5_splitOnce_7 {p : Program} {l : Launch} {e : Env} {s : State} {m : MethodId} {args : Array Value} {below : List Frame} {meth : Method} {c : Code} {D : va_G} {cy : Cyy} {A : Nat → Prop} {G : Gg} (X : Cx p m c cX5_splitOnce 4 s args wz_X5_splitOnce RX5 D cy) {Q : State → Prop} (r0 : Nat) (r1 : Nat) (Qo : Mm → Prop)  (hE : ∀ (y : Mm), Qo (y) → ∀ (H : Heap) (locs : List Loc) (ls : Array Slot), Wo s D cy A G y H locs → lv_has ls 4 [(0, .ref r0)] → W p l e rm_X5_splitOnce s m args below meth c H locs 0 0 Q (F0 m 68 ls [])) : ∀ (n : Nat) (i2 : Int32) (M : Mm) (H : Heap) (locs : List Loc) (ls : Array Slot), Wo s D cy A G M H locs → lv_has ls 4 [(0, .ref r0), (1, .ref r1), (2, .int i2)] → OK (lp_X5_splitOnce_7 G r0 r1 n i2 M) Qo → W p l e rm_X5_splitOnce s m args below meth c H locs 0 0 Q (F0 m 7 ls []) := by
  intro n
  induction n with
  | zero => intro i2 M H locs ls w hl hk; exact ok_0 hk
  | succ n ih => intro i2 M H locs ls w hl hk; exact wb_X5_splitOnce_7 X r0 r1 Qo hE  (lp_X5_splitOnce_7 G r0 r1 n) ih i2 M H locs ls w hl hk
set_option maxHeartbeats 4000000 in
set_option maxRecDepth 100000 in
theorem c_X5_splitOnce (l : Launch) (D : va_G) (cy : Cyy) (G : Gg) (M : Mm) (r0 : Nat) (r1 : Nat) {q : Mm} (hm : f_X5_splitOnce G M r0 r1 = some q) : CV l yX5_splitOnce wz_X5_splitOnce rm_X5_splitOnce D cy G M [.ref r0, .ref r1] q := by
  refine Met_of (Qf := fun A => QV D cy G A q) (cc := cX5_splitOnce) (nL := 4) (ret := none) (own := RX5) (lv := [(0, .ref r0), (1, .ref r1)]) (by decide) rfl rfl (Nat.le_of_ble_eq_true rfl) rfl ?_
  intro p e s m args below meth c A ls X hr hlk w hl
  have hx := X.1.1
  have hb := X.1.2.1
  obtain ⟨Qo, hR, hk⟩ : ∃ Qo : Mm → Prop, (∀ x, Qo x → x = q) ∧ OK (f_X5_splitOnce G M r0 r1) Qo := ⟨fun x => x = q, fun _ h => h, q, hm, rfl⟩
  unfold f_X5_splitOnce at hk
  refine lv_aload_n hx hb dX5_splitOnce_0 rfl (lv_at hl 0 rfl) ?_
  refine lv_iconst (v := 0) hx hb dX5_splitOnce_1 (by decide) ?_
  obtain ⟨c1, hk⟩ := ok_c hk
  refine zpi X w 5 3 22 tyX5 (C := RX5) (T := TX5) (N := 4) rfl ui_X5 tyX5_ok nmX5 (by decide) rfl (tb wf_X5_22) rfl rfl dX5_splitOnce_2 c1 (fun H locs w => ?_)
  refine lv_iconst (v := 0) hx hb dX5_splitOnce_5 (by decide) ?_
  refine lv_istore_n (lv' := [(2, .int (0 : Int32)), (0, .ref r0), (1, .ref r1)]) hx hb dX5_splitOnce_6 rfl hl (by decide) rfl (fun ls hl => ?_)
  refine wl_X5_splitOnce_7 X r0 r1 (Qo := _) (fun q16 hk H locs ls w hl => ?_) FU (0 : Int32) (mwI M r0 3 (0 : Int32)) _ _ _ w (lv_sub hl [1, 2, 0] rfl) (ok_b hk)
  refine lv_aload_n hx hb dX5_splitOnce_68 rfl (lv_at hl 0 rfl) ?_
  obtain ⟨r17, e18, hk⟩ := ok_b hk
  refine zgr X w 5 1 15 (C := RX5) (T := TX5) (N := 4) rfl ui_X5 (by decide) rfl (tb wf_X5_15) dX5_splitOnce_69 c1 e18 ?_
  refine lv_iconst (v := 0) hx hb dX5_splitOnce_72 (by decide) ?_
  refine lv_aload_n hx hb dX5_splitOnce_73 rfl (lv_at hl 0 rfl) ?_
  obtain ⟨r19, e20, hk⟩ := ok_b hk
  refine zgr X w 5 0 9 (C := RX5) (T := TX5) (N := 4) rfl ui_X5 (by decide) rfl (tb wf_X5_9) dX5_splitOnce_74 c1 e20 ?_
  refine lv_iconst (v := 0) hx hb dX5_splitOnce_77 (by decide) ?_
  refine lv_aload_n hx hb dX5_splitOnce_78 rfl (lv_at hl 0 rfl) ?_
  refine zgi X w 5 2 18 (C := RX5) (T := TX5) (N := 4) rfl ui_X5 (by decide) rfl (tb wf_X5_18) dX5_splitOnce_79 c1 ?_
  obtain ⟨c21, hk⟩ := ok_c hk
  obtain ⟨c22, hk⟩ := ok_c hk
  obtain ⟨c23, hk⟩ := ok_c hk
  obtain ⟨c24, hk⟩ := ok_c hk
  obtain ⟨c25, hk⟩ := ok_c hk
  obtain ⟨c26, hk⟩ := ok_c hk
  refine zcpy X w hl.1 (tb wm_X5_42) (tb wv_cpy) (tb wt_cpy) (tb wn_Sys) c21 c22 c23 c23 c24 c25 c26 (by decide) (Nat.le_of_ble_eq_true rfl) dX5_splitOnce_82 (fun H locs w => ?_)
  have hk := hR _ (ok_s hk)
  exact zrv X hr hlk w dX5_splitOnce_85 hk
abbrev rm_X5_split : Room := { frames := 5, cells := 0, slots := 0, locals := 118 }
set_option maxHeartbeats 4000000 in
set_option maxRecDepth 100000 in
theorem wb_X5_split_10 {p : Program} {l : Launch} {e : Env} {s : State} {m : MethodId} {args : Array Value} {below : List Frame} {meth : Method} {c : Code} {D : va_G} {cy : Cyy} {A : Nat → Prop} {G : Gg} (X : Cx p m c cX5_split 5 s args wz_X5_split RX5 D cy) {Q : State → Prop} (r0 : Nat) (r1 : Nat) (r2 : Nat) (Qo : Mm → Prop)  (hE : ∀ (y : Mm), Qo (y) → ∀ (H : Heap) (locs : List Loc) (ls : Array Slot), Wo s D cy A G y H locs → lv_has ls 5 [(0, .ref r0), (1, .ref r1)] → W p l e rm_X5_split s m args below meth c H locs 0 0 Q (F0 m 35 ls [])) (rec : Int32 → Mm → Option (Mm)) (hrec : ∀ (i3 : Int32) (M : Mm) (H : Heap) (locs : List Loc) (ls : Array Slot), Wo s D cy A G M H locs → lv_has ls 5 [(0, .ref r0), (1, .ref r1), (2, .ref r2), (3, .int i3)] → OK (rec i3 M) Qo → W p l e rm_X5_split s m args below meth c H locs 0 0 Q (F0 m 10 ls [])) (i3 : Int32) (M : Mm) (H : Heap) (locs : List Loc) (ls : Array Slot) (w : Wo s D cy A G M H locs) (hl : lv_has ls 5 [(0, .ref r0), (1, .ref r1), (2, .ref r2), (3, .int i3)]) (hk : OK (bd_X5_split_10 G r0 r1 r2 rec i3 M) Qo) : W p l e rm_X5_split s m args below meth c H locs 0 0 Q (F0 m 10 ls []) := by
    have hx := X.1.1
    have hb := X.1.2.1
    unfold bd_X5_split_10 at hk
    refine lv_iload_n hx hb dX5_split_10 rfl (lv_at hl 3 rfl) ?_
    refine lv_aload_n hx hb dX5_split_11 rfl (lv_at hl 0 rfl) ?_
    obtain ⟨c3, hk⟩ := ok_c hk
    refine zgi X w 5 2 18 (C := RX5) (T := TX5) (N := 4) rfl ui_X5 (by decide) rfl (tb wf_X5_18) dX5_split_12 c3 ?_
    refine lv_icmp_ge (tgt := 35) hx hb dX5_split_15 (by decide) (fun c4 => ?_) (fun c4 => ?_)
    · have hk := ok_p c4 hk
      exact hE M (ok_s hk) _ _ _ w (lv_sub hl [0, 1] rfl)
    · have hk := ok_n c4 hk
      refine lv_aload_n hx hb dX5_split_18 rfl (lv_at hl 0 rfl) ?_
      obtain ⟨r5, e6, hk⟩ := ok_b hk
      refine zgr X w 5 0 9 (C := RX5) (T := TX5) (N := 4) rfl ui_X5 (by decide) rfl (tb wf_X5_9) dX5_split_19 c3 e6 ?_
      refine lv_iload_n hx hb dX5_split_22 rfl (lv_at hl 3 rfl) ?_
      refine lv_aload_n hx hb dX5_split_23 rfl (lv_at hl 2 rfl) ?_
      refine lv_iload_n hx hb dX5_split_24 rfl (lv_at hl 3 rfl) ?_
      obtain ⟨c9, hk⟩ := ok_c hk
      obtain ⟨q7, e8, hk⟩ := ok_b hk
      refine zVi X w (n := 1) (As := [.int i3]) (rest := [.int i3, .ref r5]) (ci := 6) (C := RX6) (T := TX6) (N := 2) (c_X6_at l D cy G M r2 i3 e8) (gzV wm_X5_28 wi_X6_at ws_X6_at wn_X6 wc_X6_at) rfl rfl rfl (by decide +kernel) (by decide) rfl c9 rfl rfl hl.1 (Nat.le_of_ble_eq_true rfl) dX5_split_25 ⟨Nat.zero_le _, Nat.zero_le _⟩ (fun H locs w => ?_)
      obtain ⟨c10, hk⟩ := ok_c hk
      obtain ⟨c11, hk⟩ := ok_c hk
      refine zsi X w dX5_split_28 c10 c11 (fun H locs w => ?_)
      refine lv_iinc (v := (i3 + 1)) (lv' := [(3, .int (i3 + 1)), (0, .ref r0), (1, .ref r1), (2, .ref r2)]) hx hb dX5_split_29 hl (k := 3) rfl rfl (by decide) rfl (fun ls hl => ?_)
      refine lv_goto (tgt := 10) hx hb dX5_split_32 (by decide) ?_
      exact hrec (i3 + 1) (mwI M r5 (Int32.toNatClampNeg i3) q7) _ _ _ w (lv_sub hl [1, 2, 3, 0] rfl) hk
theorem wl_X5_split_10 {p : Program} {l : Launch} {e : Env} {s : State} {m : MethodId} {args : Array Value} {below : List Frame} {meth : Method} {c : Code} {D : va_G} {cy : Cyy} {A : Nat → Prop} {G : Gg} (X : Cx p m c cX5_split 5 s args wz_X5_split RX5 D cy) {Q : State → Prop} (r0 : Nat) (r1 : Nat) (r2 : Nat) (Qo : Mm → Prop)  (hE : ∀ (y : Mm), Qo (y) → ∀ (H : Heap) (locs : List Loc) (ls : Array Slot), Wo s D cy A G y H locs → lv_has ls 5 [(0, .ref r0), (1, .ref r1)] → W p l e rm_X5_split s m args below meth c H locs 0 0 Q (F0 m 35 ls [])) : ∀ (n : Nat) (i3 : Int32) (M : Mm) (H : Heap) (locs : List Loc) (ls : Array Slot), Wo s D cy A G M H locs → lv_has ls 5 [(0, .ref r0), (1, .ref r1), (2, .ref r2), (3, .int i3)] → OK (lp_X5_split_10 G r0 r1 r2 n i3 M) Qo → W p l e rm_X5_split s m args below meth c H locs 0 0 Q (F0 m 10 ls []) := by
  intro n
  induction n with
  | zero => intro i3 M H locs ls w hl hk; exact ok_0 hk
  | succ n ih => intro i3 M H locs ls w hl hk; exact wb_X5_split_10 X r0 r1 r2 Qo hE  (lp_X5_split_10 G r0 r1 r2 n) ih i3 M H locs ls w hl hk
set_option maxHeartbeats 4000000 in
set_option maxRecDepth 100000 in
theorem wb_X5_split_45 {p : Program} {l : Launch} {e : Env} {s : State} {m : MethodId} {args : Array Value} {below : List Frame} {meth : Method} {c : Code} {D : va_G} {cy : Cyy} {A : Nat → Prop} {G : Gg} (X : Cx p m c cX5_split 5 s args wz_X5_split RX5 D cy) {Q : State → Prop} (r0 : Nat) (r1 : Nat) (Qo : Mm → Prop)  (hE : ∀ (y : Mm), Qo (y) → ∀ (H : Heap) (locs : List Loc) (ls : Array Slot), Wo s D cy A G y H locs → lv_has ls 5 [] → W p l e rm_X5_split s m args below meth c H locs 0 0 Q (F0 m 76 ls [])) (rec : Int32 → Int32 → Mm → Option (Mm)) (hrec : ∀ (i3 : Int32) (i4 : Int32) (M : Mm) (H : Heap) (locs : List Loc) (ls : Array Slot), Wo s D cy A G M H locs → lv_has ls 5 [(0, .ref r0), (1, .ref r1), (3, .int i3), (4, .int i4)] → OK (rec i3 i4 M) Qo → W p l e rm_X5_split s m args below meth c H locs 0 0 Q (F0 m 45 ls [])) (i3 : Int32) (i4 : Int32) (M : Mm) (H : Heap) (locs : List Loc) (ls : Array Slot) (w : Wo s D cy A G M H locs) (hl : lv_has ls 5 [(0, .ref r0), (1, .ref r1), (3, .int i3), (4, .int i4)]) (hk : OK (bd_X5_split_45 G r0 r1 rec i3 i4 M) Qo) : W p l e rm_X5_split s m args below meth c H locs 0 0 Q (F0 m 45 ls []) := by
    have hx := X.1.1
    have hb := X.1.2.1
    unfold bd_X5_split_45 at hk
    refine lv_iload hx hb dX5_split_45 (lv_at hl 3 rfl) ?_
    refine lv_bipush (v := 8) hx hb dX5_split_47 (by decide) ?_
    refine lv_icmp_gt (tgt := 76) hx hb dX5_split_49 (by decide) (fun c13 => ?_) (fun c13 => ?_)
    · have hk := ok_p c13 hk
      exact hE M (ok_s hk) _ _ _ w (lv_sub hl [] rfl)
    · have hk := ok_n c13 hk
      refine lv_aload_n hx hb dX5_split_52 rfl (lv_at hl 0 rfl) ?_
      obtain ⟨c14, hk⟩ := ok_c hk
      refine zgi X w 5 3 22 (C := RX5) (T := TX5) (N := 4) rfl ui_X5 (by decide) rfl (tb wf_X5_22) dX5_split_53 c14 ?_
      refine lv_iload_n hx hb dX5_split_56 rfl (lv_at hl 2 rfl) ?_
      refine lv_icmp_eq (tgt := 76) hx hb dX5_split_57 (by decide) (fun c15 => ?_) (fun c15 => ?_)
      · have hk := ok_p c15 hk
        exact hE M (ok_s hk) _ _ _ w (lv_sub hl [] rfl)
      · have hk := ok_n c15 hk
        refine lv_aload_n hx hb dX5_split_60 rfl (lv_at hl 0 rfl) ?_
        refine zgi X w 5 3 22 (C := RX5) (T := TX5) (N := 4) rfl ui_X5 (by decide) rfl (tb wf_X5_22) dX5_split_61 c14 ?_
        refine lv_istore_n (lv' := [(3, .int (M.1 r0 3)), (0, .ref r0), (1, .ref r1), (4, .int i4)]) hx hb dX5_split_64 rfl hl (by decide) rfl (fun ls hl => ?_)
        refine lv_aload_n hx hb dX5_split_65 rfl (lv_at hl 1 rfl) ?_
        refine lv_aload_n hx hb dX5_split_66 rfl (lv_at hl 2 rfl) ?_
        obtain ⟨q16, e17, hk⟩ := ok_b hk
        refine zVv X w (n := 1) (As := [.ref r1]) (rest := []) (ci := 5) (C := RX5) (T := TX5) (N := 4) (c_X5_splitOnce l D cy G M r0 r1 e17) (gzV wm_X5_34 wi_X5_splitOnce ws_X5_splitOnce wn_X5 wc_X5_splitOnce) rfl rfl rfl (by decide +kernel) (by decide) rfl c14 rfl rfl hl.1 (Nat.le_of_ble_eq_true rfl) dX5_split_67 ⟨Nat.zero_le _, Nat.zero_le _⟩ (fun H locs w => ?_)
        refine lv_iinc (v := (i4 + 1)) (lv' := [(4, .int (i4 + 1)), (3, .int (M.1 r0 3)), (0, .ref r0), (1, .ref r1)]) hx hb dX5_split_70 hl (k := 3) rfl rfl (by decide) rfl (fun ls hl => ?_)
        refine lv_goto (tgt := 45) hx hb dX5_split_73 (by decide) ?_
        exact hrec (M.1 r0 3) (i4 + 1) q16 _ _ _ w (lv_sub hl [2, 3, 1, 0] rfl) hk
theorem wl_X5_split_45 {p : Program} {l : Launch} {e : Env} {s : State} {m : MethodId} {args : Array Value} {below : List Frame} {meth : Method} {c : Code} {D : va_G} {cy : Cyy} {A : Nat → Prop} {G : Gg} (X : Cx p m c cX5_split 5 s args wz_X5_split RX5 D cy) {Q : State → Prop} (r0 : Nat) (r1 : Nat) (Qo : Mm → Prop)  (hE : ∀ (y : Mm), Qo (y) → ∀ (H : Heap) (locs : List Loc) (ls : Array Slot), Wo s D cy A G y H locs → lv_has ls 5 [] → W p l e rm_X5_split s m args below meth c H locs 0 0 Q (F0 m 76 ls [])) : ∀ (n : Nat) (i3 : Int32) (i4 : Int32) (M : Mm) (H : Heap) (locs : List Loc) (ls : Array Slot), Wo s D cy A G M H locs → lv_has ls 5 [(0, .ref r0), (1, .ref r1), (3, .int i3), (4, .int i4)] → OK (lp_X5_split_45 G r0 r1 n i3 i4 M) Qo → W p l e rm_X5_split s m args below meth c H locs 0 0 Q (F0 m 45 ls []) := by
  intro n
  induction n with
  | zero => intro i3 i4 M H locs ls w hl hk; exact ok_0 hk
  | succ n ih => intro i3 i4 M H locs ls w hl hk; exact wb_X5_split_45 X r0 r1 Qo hE  (lp_X5_split_45 G r0 r1 n) ih i3 i4 M H locs ls w hl hk
set_option maxHeartbeats 4000000 in
set_option maxRecDepth 100000 in
theorem c_X5_split (l : Launch) (D : va_G) (cy : Cyy) (G : Gg) (M : Mm) (r0 : Nat) (r1 : Nat) (r2 : Nat) {q : Mm} (hm : f_X5_split G M r0 r1 r2 = some q) : CV l yX5_split wz_X5_split rm_X5_split D cy G M [.ref r0, .ref r1, .ref r2] q := by
  refine Met_of (Qf := fun A => QV D cy G A q) (cc := cX5_split) (nL := 5) (ret := none) (own := RX5) (lv := [(0, .ref r0), (1, .ref r1), (2, .ref r2)]) (by decide) rfl rfl (Nat.le_of_ble_eq_true rfl) rfl ?_
  intro p e s m args below meth c A ls X hr hlk w hl
  have hx := X.1.1
  have hb := X.1.2.1
  obtain ⟨Qo, hR, hk⟩ : ∃ Qo : Mm → Prop, (∀ x, Qo x → x = q) ∧ OK (f_X5_split G M r0 r1 r2) Qo := ⟨fun x => x = q, fun _ h => h, q, hm, rfl⟩
  unfold f_X5_split at hk
  refine lv_aload_n hx hb dX5_split_0 rfl (lv_at hl 0 rfl) ?_
  refine lv_aload_n hx hb dX5_split_1 rfl (lv_at hl 1 rfl) ?_
  obtain ⟨c1, hk⟩ := ok_c hk
  refine zgNi X w 0 0 25 "BlendBench" (C := RX0) (T := TX0) (N := 7) rfl ui_X0 (by decide) rfl (by decide +kernel) dX5_split_2 c1 ?_
  obtain ⟨c2, hk⟩ := ok_c hk
  refine zpi X w 5 2 18 tyX5 (C := RX5) (T := TX5) (N := 4) rfl ui_X5 tyX5_ok nmX5 (by decide) rfl (tb wf_X5_18) rfl rfl dX5_split_5 c2 (fun H locs w => ?_)
  refine lv_iconst (v := 0) hx hb dX5_split_8 (by decide) ?_
  refine lv_istore_n (lv' := [(3, .int (0 : Int32)), (0, .ref r0), (1, .ref r1), (2, .ref r2)]) hx hb dX5_split_9 rfl hl (by decide) rfl (fun ls hl => ?_)
  refine wl_X5_split_10 X r0 r1 r2 (Qo := _) (fun q12 hk H locs ls w hl => ?_) FU (0 : Int32) (mwI M r0 2 (M.1 r1 0)) _ _ _ w (lv_sub hl [1, 2, 3, 0] rfl) (ok_b hk)
  refine lv_aload_n hx hb dX5_split_35 rfl (lv_at hl 0 rfl) ?_
  refine lv_iconst (v := 0) hx hb dX5_split_36 (by decide) ?_
  refine zpi X w 5 3 22 tyX5 (C := RX5) (T := TX5) (N := 4) rfl ui_X5 tyX5_ok nmX5 (by decide) rfl (tb wf_X5_22) rfl rfl dX5_split_37 c2 (fun H locs w => ?_)
  refine lv_iconst (v := (-1)) hx hb dX5_split_40 (by decide) ?_
  refine lv_istore_n (lv' := [(3, .int (-1)), (0, .ref r0), (1, .ref r1)]) hx hb dX5_split_41 rfl hl (by decide) rfl (fun ls hl => ?_)
  refine lv_iconst (v := 0) hx hb dX5_split_42 (by decide) ?_
  refine lv_istore (lv' := [(4, .int (0 : Int32)), (3, .int (-1)), (0, .ref r0), (1, .ref r1)]) hx hb dX5_split_43 hl (by decide) rfl (fun ls hl => ?_)
  refine wl_X5_split_45 X r0 r1 (Qo := _) (fun q18 hk H locs ls w hl => ?_) FU (-1) (0 : Int32) (mwI q12 r0 3 (0 : Int32)) _ _ _ w (lv_sub hl [2, 3, 1, 0] rfl) (ok_b hk)
  have hk := hR _ (ok_s hk)
  exact zrv X hr hlk w dX5_split_76 hk
abbrev rm_X5_tellTo : Room := { frames := 0, cells := 0, slots := 0, locals := 0 }
set_option maxHeartbeats 4000000 in
set_option maxRecDepth 100000 in
theorem wb_X5_tellTo_2 {p : Program} {l : Launch} {e : Env} {s : State} {m : MethodId} {args : Array Value} {below : List Frame} {meth : Method} {c : Code} {D : va_G} {cy : Cyy} {A : Nat → Prop} {G : Gg} (X : Cx p m c cX5_tellTo 3 s args wz_X5_tellTo RX5 D cy) {Q : State → Prop} (r0 : Nat) (r1 : Nat) (Qo : Mm → Prop)  (hE : ∀ (y : Mm), Qo (y) → ∀ (H : Heap) (locs : List Loc) (ls : Array Slot), Wo s D cy A G y H locs → lv_has ls 3 [(0, .ref r0)] → W p l e rm_X5_tellTo s m args below meth c H locs 0 0 Q (F0 m 31 ls [])) (rec : Int32 → Mm → Option (Mm)) (hrec : ∀ (i2 : Int32) (M : Mm) (H : Heap) (locs : List Loc) (ls : Array Slot), Wo s D cy A G M H locs → lv_has ls 3 [(0, .ref r0), (1, .ref r1), (2, .int i2)] → OK (rec i2 M) Qo → W p l e rm_X5_tellTo s m args below meth c H locs 0 0 Q (F0 m 2 ls [])) (i2 : Int32) (M : Mm) (H : Heap) (locs : List Loc) (ls : Array Slot) (w : Wo s D cy A G M H locs) (hl : lv_has ls 3 [(0, .ref r0), (1, .ref r1), (2, .int i2)]) (hk : OK (bd_X5_tellTo_2 G r0 r1 rec i2 M) Qo) : W p l e rm_X5_tellTo s m args below meth c H locs 0 0 Q (F0 m 2 ls []) := by
    have hx := X.1.1
    have hb := X.1.2.1
    unfold bd_X5_tellTo_2 at hk
    refine lv_iload_n hx hb dX5_tellTo_2 rfl (lv_at hl 2 rfl) ?_
    refine lv_aload_n hx hb dX5_tellTo_3 rfl (lv_at hl 0 rfl) ?_
    obtain ⟨c1, hk⟩ := ok_c hk
    refine zgi X w 5 2 18 (C := RX5) (T := TX5) (N := 4) rfl ui_X5 (by decide) rfl (tb wf_X5_18) dX5_tellTo_4 c1 ?_
    refine lv_icmp_ge (tgt := 31) hx hb dX5_tellTo_7 (by decide) (fun c2 => ?_) (fun c2 => ?_)
    · have hk := ok_p c2 hk
      exact hE M (ok_s hk) _ _ _ w (lv_sub hl [0] rfl)
    · have hk := ok_n c2 hk
      refine lv_iload_n hx hb dX5_tellTo_10 rfl (lv_at hl 2 rfl) ?_
      refine lv_aload_n hx hb dX5_tellTo_11 rfl (lv_at hl 1 rfl) ?_
      obtain ⟨c3, hk⟩ := ok_c hk
      refine zni X w dX5_tellTo_12 c3 ?_
      refine lv_icmp_ge (tgt := 31) hx hb dX5_tellTo_13 (by decide) (fun c4 => ?_) (fun c4 => ?_)
      · have hk := ok_p c4 hk
        exact hE M (ok_s hk) _ _ _ w (lv_sub hl [0] rfl)
      · have hk := ok_n c4 hk
        refine lv_aload_n hx hb dX5_tellTo_16 rfl (lv_at hl 1 rfl) ?_
        refine lv_iload_n hx hb dX5_tellTo_17 rfl (lv_at hl 2 rfl) ?_
        refine lv_aload_n hx hb dX5_tellTo_18 rfl (lv_at hl 0 rfl) ?_
        obtain ⟨r5, e6, hk⟩ := ok_b hk
        refine zgr X w 5 0 9 (C := RX5) (T := TX5) (N := 4) rfl ui_X5 (by decide) rfl (tb wf_X5_9) dX5_tellTo_19 c1 e6 ?_
        refine lv_iload_n hx hb dX5_tellTo_22 rfl (lv_at hl 2 rfl) ?_
        obtain ⟨c7, hk⟩ := ok_c hk
        obtain ⟨c8, hk⟩ := ok_c hk
        refine zai X w dX5_tellTo_23 c7 c8 ?_
        obtain ⟨c9, hk⟩ := ok_c hk
        refine zsi X w dX5_tellTo_24 c3 c9 (fun H locs w => ?_)
        refine lv_iinc (v := (i2 + 1)) (lv' := [(2, .int (i2 + 1)), (0, .ref r0), (1, .ref r1)]) hx hb dX5_tellTo_25 hl (k := 2) rfl rfl (by decide) rfl (fun ls hl => ?_)
        refine lv_goto (tgt := 2) hx hb dX5_tellTo_28 (by decide) ?_
        exact hrec (i2 + 1) (mwI M r1 (Int32.toNatClampNeg i2) (M.1 r5 (Int32.toNatClampNeg i2))) _ _ _ w (lv_sub hl [1, 2, 0] rfl) hk
theorem wl_X5_tellTo_2 {p : Program} {l : Launch} {e : Env} {s : State} {m : MethodId} {args : Array Value} {below : List Frame} {meth : Method} {c : Code} {D : va_G} {cy : Cyy} {A : Nat → Prop} {G : Gg} (X : Cx p m c cX5_tellTo 3 s args wz_X5_tellTo RX5 D cy) {Q : State → Prop} (r0 : Nat) (r1 : Nat) (Qo : Mm → Prop)  (hE : ∀ (y : Mm), Qo (y) → ∀ (H : Heap) (locs : List Loc) (ls : Array Slot), Wo s D cy A G y H locs → lv_has ls 3 [(0, .ref r0)] → W p l e rm_X5_tellTo s m args below meth c H locs 0 0 Q (F0 m 31 ls [])) : ∀ (n : Nat) (i2 : Int32) (M : Mm) (H : Heap) (locs : List Loc) (ls : Array Slot), Wo s D cy A G M H locs → lv_has ls 3 [(0, .ref r0), (1, .ref r1), (2, .int i2)] → OK (lp_X5_tellTo_2 G r0 r1 n i2 M) Qo → W p l e rm_X5_tellTo s m args below meth c H locs 0 0 Q (F0 m 2 ls []) := by
  intro n
  induction n with
  | zero => intro i2 M H locs ls w hl hk; exact ok_0 hk
  | succ n ih => intro i2 M H locs ls w hl hk; exact wb_X5_tellTo_2 X r0 r1 Qo hE  (lp_X5_tellTo_2 G r0 r1 n) ih i2 M H locs ls w hl hk
set_option maxHeartbeats 4000000 in
set_option maxRecDepth 100000 in
theorem c_X5_tellTo (l : Launch) (D : va_G) (cy : Cyy) (G : Gg) (M : Mm) (r0 : Nat) (r1 : Nat) {q : Int32 × Mm} (hm : f_X5_tellTo G M r0 r1 = some q) : CI l yX5_tellTo wz_X5_tellTo rm_X5_tellTo D cy G M [.ref r0, .ref r1] q.1 q.2 := by
  refine Met_of (Qf := fun A => QI D cy G A q.1 q.2) (cc := cX5_tellTo) (nL := 3) (ret := (some .int)) (own := RX5) (lv := [(0, .ref r0), (1, .ref r1)]) (by decide) rfl rfl (Nat.le_of_ble_eq_true rfl) rfl ?_
  intro p e s m args below meth c A ls X hr hlk w hl
  have hx := X.1.1
  have hb := X.1.2.1
  obtain ⟨Qo, hR, hk⟩ : ∃ Qo : Int32 × Mm → Prop, (∀ x, Qo x → x = q) ∧ OK (f_X5_tellTo G M r0 r1) Qo := ⟨fun x => x = q, fun _ h => h, q, hm, rfl⟩
  unfold f_X5_tellTo at hk
  refine lv_iconst (v := 0) hx hb dX5_tellTo_0 (by decide) ?_
  refine lv_istore_n (lv' := [(2, .int (0 : Int32)), (0, .ref r0), (1, .ref r1)]) hx hb dX5_tellTo_1 rfl hl (by decide) rfl (fun ls hl => ?_)
  refine wl_X5_tellTo_2 X r0 r1 (Qo := _) (fun q10 hk H locs ls w hl => ?_) FU (0 : Int32) M _ _ _ w (lv_sub hl [1, 2, 0] rfl) (ok_b hk)
  refine lv_aload_n hx hb dX5_tellTo_31 rfl (lv_at hl 0 rfl) ?_
  obtain ⟨c11, hk⟩ := ok_c hk
  refine zgi X w 5 2 18 (C := RX5) (T := TX5) (N := 4) rfl ui_X5 (by decide) rfl (tb wf_X5_18) dX5_tellTo_32 c11 ?_
  have hk := hR _ (ok_s hk)
  exact zri X hr hlk w dX5_tellTo_35 (pr1 hk) (pr2 hk)
abbrev rm_X6_hasRoomFor : Room := { frames := 0, cells := 0, slots := 0, locals := 0 }
set_option maxHeartbeats 4000000 in
set_option maxRecDepth 100000 in
theorem c_X6_hasRoomFor (l : Launch) (D : va_G) (cy : Cyy) (G : Gg) (M : Mm) (r0 : Nat) (i1 : Int32) {q : Int32} (hm : f_X6_hasRoomFor G M r0 i1 = some q) : CI l yX6_hasRoomFor wz_X6_hasRoomFor rm_X6_hasRoomFor D cy G M [.ref r0, .int i1] q M := by
  refine Met_of (Qf := fun A => QI D cy G A q M) (cc := cX6_hasRoomFor) (nL := 2) (ret := (some .boolean)) (own := RX6) (lv := [(0, .ref r0), (1, .int i1)]) (by decide) rfl rfl (Nat.le_of_ble_eq_true rfl) rfl ?_
  intro p e s m args below meth c A ls X hr hlk w hl
  have hx := X.1.1
  have hb := X.1.2.1
  obtain ⟨Qo, hR, hk⟩ : ∃ Qo : Int32 → Prop, (∀ x, Qo x → x = q) ∧ OK (f_X6_hasRoomFor G M r0 i1) Qo := ⟨fun x => x = q, fun _ h => h, q, hm, rfl⟩
  unfold f_X6_hasRoomFor at hk
  refine lv_aload_n hx hb dX6_hasRoomFor_0 rfl (lv_at hl 0 rfl) ?_
  obtain ⟨c1, hk⟩ := ok_c hk
  refine zgi X w 6 1 15 (C := RX6) (T := TX6) (N := 2) rfl ui_X6 (by decide) rfl (tb wf_X6_15) dX6_hasRoomFor_1 c1 ?_
  refine lv_iload_n hx hb dX6_hasRoomFor_4 rfl (lv_at hl 1 rfl) ?_
  refine lv_iconst (v := 4) hx hb dX6_hasRoomFor_5 (by decide) ?_
  refine lv_imul hx hb dX6_hasRoomFor_6 ?_
  refine lv_iadd hx hb dX6_hasRoomFor_7 ?_
  refine lv_bipush (v := 80) hx hb dX6_hasRoomFor_8 (by decide) ?_
  refine lv_icmp_gt (tgt := 17) hx hb dX6_hasRoomFor_10 (by decide) (fun c2 => ?_) (fun c2 => ?_)
  · have hk := ok_p c2 hk
    refine lv_iconst (v := 0) hx hb dX6_hasRoomFor_17 (by decide) ?_
    have hk := hR _ (ok_s hk)
    exact zrz X hr hlk w dX6_hasRoomFor_18 (by decide) hk rfl
  · have hk := ok_n c2 hk
    refine lv_iconst (v := 1) hx hb dX6_hasRoomFor_13 (by decide) ?_
    refine lv_goto (tgt := 18) hx hb dX6_hasRoomFor_14 (by decide) ?_
    have hk := hR _ (ok_s hk)
    exact zrz X hr hlk w dX6_hasRoomFor_18 (by decide) hk rfl
abbrev rm_X6_append : Room := { frames := 0, cells := 0, slots := 0, locals := 0 }
set_option maxHeartbeats 4000000 in
set_option maxRecDepth 100000 in
theorem wb_X6_append_3 {p : Program} {l : Launch} {e : Env} {s : State} {m : MethodId} {args : Array Value} {below : List Frame} {meth : Method} {c : Code} {D : va_G} {cy : Cyy} {A : Nat → Prop} {G : Gg} (X : Cx p m c cX6_append 3 s args wz_X6_append RX6 D cy) {Q : State → Prop} (r0 : Nat) (i1 : Int32) (Qo : Mm → Prop)  (hE : ∀ (y : Mm), Qo (y) → ∀ (H : Heap) (locs : List Loc) (ls : Array Slot), Wo s D cy A G y H locs → lv_has ls 3 [] → W p l e rm_X6_append s m args below meth c H locs 0 0 Q (F0 m 48 ls [])) (rec : Int32 → Mm → Option (Mm)) (hrec : ∀ (i2 : Int32) (M : Mm) (H : Heap) (locs : List Loc) (ls : Array Slot), Wo s D cy A G M H locs → lv_has ls 3 [(0, .ref r0), (1, .int i1), (2, .int i2)] → OK (rec i2 M) Qo → W p l e rm_X6_append s m args below meth c H locs 0 0 Q (F0 m 3 ls [])) (i2 : Int32) (M : Mm) (H : Heap) (locs : List Loc) (ls : Array Slot) (w : Wo s D cy A G M H locs) (hl : lv_has ls 3 [(0, .ref r0), (1, .int i1), (2, .int i2)]) (hk : OK (bd_X6_append_3 G r0 i1 rec i2 M) Qo) : W p l e rm_X6_append s m args below meth c H locs 0 0 Q (F0 m 3 ls []) := by
    have hx := X.1.1
    have hb := X.1.2.1
    unfold bd_X6_append_3 at hk
    refine lv_iload_n hx hb dX6_append_3 rfl (lv_at hl 2 rfl) ?_
    refine lv_if_lt (tgt := 48) hx hb dX6_append_4 (by decide) (fun c1 => ?_) (fun c1 => ?_)
    · have hk := ok_p c1 hk
      exact hE M (ok_s hk) _ _ _ w (lv_sub hl [] rfl)
    · have hk := ok_n c1 hk
      refine lv_aload_n hx hb dX6_append_7 rfl (lv_at hl 0 rfl) ?_
      obtain ⟨c2, hk⟩ := ok_c hk
      refine zgi X w 6 1 15 (C := RX6) (T := TX6) (N := 2) rfl ui_X6 (by decide) rfl (tb wf_X6_15) dX6_append_8 c2 ?_
      refine lv_bipush (v := 80) hx hb dX6_append_11 (by decide) ?_
      refine lv_icmp_ge (tgt := 48) hx hb dX6_append_13 (by decide) (fun c3 => ?_) (fun c3 => ?_)
      · have hk := ok_p c3 hk
        exact hE M (ok_s hk) _ _ _ w (lv_sub hl [] rfl)
      · have hk := ok_n c3 hk
        refine lv_aload_n hx hb dX6_append_16 rfl (lv_at hl 0 rfl) ?_
        obtain ⟨r4, e5, hk⟩ := ok_b hk
        refine zgr X w 6 0 9 (C := RX6) (T := TX6) (N := 2) rfl ui_X6 (by decide) rfl (tb wf_X6_9) dX6_append_17 c2 e5 ?_
        refine lv_aload_n hx hb dX6_append_20 rfl (lv_at hl 0 rfl) ?_
        refine zgi X w 6 1 15 (C := RX6) (T := TX6) (N := 2) rfl ui_X6 (by decide) rfl (tb wf_X6_15) dX6_append_21 c2 ?_
        refine lv_iload_n hx hb dX6_append_24 rfl (lv_at hl 1 rfl) ?_
        refine lv_iload_n hx hb dX6_append_25 rfl (lv_at hl 2 rfl) ?_
        refine lv_iushr hx hb dX6_append_26 rfl ?_
        refine lv_sipush (v := 255) hx hb dX6_append_27 (by decide) ?_
        refine lv_iand hx hb dX6_append_30 ?_
        obtain ⟨c6, hk⟩ := ok_c hk
        obtain ⟨c7, hk⟩ := ok_c hk
        refine zsi X w dX6_append_31 c6 c7 (fun H locs w => ?_)
        refine lv_aload_n hx hb dX6_append_32 rfl (lv_at hl 0 rfl) ?_
        refine lv_dup hx hb dX6_append_33 rfl ?_
        refine zgi X w 6 1 15 (C := RX6) (T := TX6) (N := 2) rfl ui_X6 (by decide) rfl (tb wf_X6_15) dX6_append_34 c2 ?_
        refine lv_iconst (v := 1) hx hb dX6_append_37 (by decide) ?_
        refine lv_iadd hx hb dX6_append_38 ?_
        refine zpi X w 6 1 15 tyX6 (C := RX6) (T := TX6) (N := 2) rfl ui_X6 tyX6_ok nmX6 (by decide) rfl (tb wf_X6_15) rfl rfl dX6_append_39 c2 (fun H locs w => ?_)
        refine lv_iinc (v := (i2 + (-8))) (lv' := [(2, .int (i2 + (-8))), (0, .ref r0), (1, .int i1)]) hx hb dX6_append_42 hl (k := 2) rfl rfl (by decide) rfl (fun ls hl => ?_)
        refine lv_goto (tgt := 3) hx hb dX6_append_45 (by decide) ?_
        exact hrec (i2 + (-8)) (mwI (mwI M r4 (Int32.toNatClampNeg (M.1 r0 1)) (((Int32.toUInt32 i1 >>> (Int32.toUInt32 i2 &&& Int32.toUInt32 31)).toInt32) &&& (255 : Int32))) r0 1 (((mwI M r4 (Int32.toNatClampNeg (M.1 r0 1)) (((Int32.toUInt32 i1 >>> (Int32.toUInt32 i2 &&& Int32.toUInt32 31)).toInt32) &&& (255 : Int32))).1 r0 1) + (1 : Int32))) _ _ _ w (lv_sub hl [1, 2, 0] rfl) hk
theorem wl_X6_append_3 {p : Program} {l : Launch} {e : Env} {s : State} {m : MethodId} {args : Array Value} {below : List Frame} {meth : Method} {c : Code} {D : va_G} {cy : Cyy} {A : Nat → Prop} {G : Gg} (X : Cx p m c cX6_append 3 s args wz_X6_append RX6 D cy) {Q : State → Prop} (r0 : Nat) (i1 : Int32) (Qo : Mm → Prop)  (hE : ∀ (y : Mm), Qo (y) → ∀ (H : Heap) (locs : List Loc) (ls : Array Slot), Wo s D cy A G y H locs → lv_has ls 3 [] → W p l e rm_X6_append s m args below meth c H locs 0 0 Q (F0 m 48 ls [])) : ∀ (n : Nat) (i2 : Int32) (M : Mm) (H : Heap) (locs : List Loc) (ls : Array Slot), Wo s D cy A G M H locs → lv_has ls 3 [(0, .ref r0), (1, .int i1), (2, .int i2)] → OK (lp_X6_append_3 G r0 i1 n i2 M) Qo → W p l e rm_X6_append s m args below meth c H locs 0 0 Q (F0 m 3 ls []) := by
  intro n
  induction n with
  | zero => intro i2 M H locs ls w hl hk; exact ok_0 hk
  | succ n ih => intro i2 M H locs ls w hl hk; exact wb_X6_append_3 X r0 i1 Qo hE  (lp_X6_append_3 G r0 i1 n) ih i2 M H locs ls w hl hk
set_option maxHeartbeats 4000000 in
set_option maxRecDepth 100000 in
theorem c_X6_append (l : Launch) (D : va_G) (cy : Cyy) (G : Gg) (M : Mm) (r0 : Nat) (i1 : Int32) {q : Mm} (hm : f_X6_append G M r0 i1 = some q) : CV l yX6_append wz_X6_append rm_X6_append D cy G M [.ref r0, .int i1] q := by
  refine Met_of (Qf := fun A => QV D cy G A q) (cc := cX6_append) (nL := 3) (ret := none) (own := RX6) (lv := [(0, .ref r0), (1, .int i1)]) (by decide) rfl rfl (Nat.le_of_ble_eq_true rfl) rfl ?_
  intro p e s m args below meth c A ls X hr hlk w hl
  have hx := X.1.1
  have hb := X.1.2.1
  obtain ⟨Qo, hR, hk⟩ : ∃ Qo : Mm → Prop, (∀ x, Qo x → x = q) ∧ OK (f_X6_append G M r0 i1) Qo := ⟨fun x => x = q, fun _ h => h, q, hm, rfl⟩
  unfold f_X6_append at hk
  refine lv_bipush (v := 24) hx hb dX6_append_0 (by decide) ?_
  refine lv_istore_n (lv' := [(2, .int (24 : Int32)), (0, .ref r0), (1, .int i1)]) hx hb dX6_append_2 rfl hl (by decide) rfl (fun ls hl => ?_)
  refine wl_X6_append_3 X r0 i1 (Qo := _) (fun q8 hk H locs ls w hl => ?_) FU (24 : Int32) M _ _ _ w (lv_sub hl [1, 2, 0] rfl) (ok_b hk)
  have hk := hR _ (ok_s hk)
  exact zrv X hr hlk w dX6_append_48 hk
abbrev rm_X6_shorten : Room := { frames := 0, cells := 0, slots := 0, locals := 0 }
set_option maxHeartbeats 4000000 in
set_option maxRecDepth 100000 in
theorem c_X6_shorten (l : Launch) (D : va_G) (cy : Cyy) (G : Gg) (M : Mm) (r0 : Nat) (i1 : Int32) {q : Int32 × Mm} (hm : f_X6_shorten G M r0 i1 = some q) : CI l yX6_shorten wz_X6_shorten rm_X6_shorten D cy G M [.ref r0, .int i1] q.1 q.2 := by
  refine Met_of (Qf := fun A => QI D cy G A q.1 q.2) (cc := cX6_shorten) (nL := 2) (ret := (some .boolean)) (own := RX6) (lv := [(0, .ref r0), (1, .int i1)]) (by decide) rfl rfl (Nat.le_of_ble_eq_true rfl) rfl ?_
  intro p e s m args below meth c A ls X hr hlk w hl
  have hx := X.1.1
  have hb := X.1.2.1
  obtain ⟨Qo, hR, hk⟩ : ∃ Qo : Int32 × Mm → Prop, (∀ x, Qo x → x = q) ∧ OK (f_X6_shorten G M r0 i1) Qo := ⟨fun x => x = q, fun _ h => h, q, hm, rfl⟩
  unfold f_X6_shorten at hk
  refine lv_iload_n hx hb dX6_shorten_0 rfl (lv_at hl 1 rfl) ?_
  refine lv_if_lt (tgt := 12) hx hb dX6_shorten_1 (by decide) (fun c1 => ?_) (fun c1 => ?_)
  · have hk := ok_p c1 hk
    refine lv_iconst (v := 0) hx hb dX6_shorten_12 (by decide) ?_
    have hk := hR _ (ok_s hk)
    exact zrz X hr hlk w dX6_shorten_13 (by decide) (pr1 hk) (pr2 hk)
  · have hk := ok_n c1 hk
    refine lv_iload_n hx hb dX6_shorten_4 rfl (lv_at hl 1 rfl) ?_
    refine lv_aload_n hx hb dX6_shorten_5 rfl (lv_at hl 0 rfl) ?_
    obtain ⟨c2, hk⟩ := ok_c hk
    refine zgi X w 6 1 15 (C := RX6) (T := TX6) (N := 2) rfl ui_X6 (by decide) rfl (tb wf_X6_15) dX6_shorten_6 c2 ?_
    refine lv_icmp_le (tgt := 14) hx hb dX6_shorten_9 (by decide) (fun c3 => ?_) (fun c3 => ?_)
    · have hk := ok_p c3 hk
      refine lv_aload_n hx hb dX6_shorten_14 rfl (lv_at hl 0 rfl) ?_
      refine lv_iload_n hx hb dX6_shorten_15 rfl (lv_at hl 1 rfl) ?_
      refine zpi X w 6 1 15 tyX6 (C := RX6) (T := TX6) (N := 2) rfl ui_X6 tyX6_ok nmX6 (by decide) rfl (tb wf_X6_15) rfl rfl dX6_shorten_16 c2 (fun H locs w => ?_)
      refine lv_iconst (v := 1) hx hb dX6_shorten_19 (by decide) ?_
      have hk := hR _ (ok_s hk)
      exact zrz X hr hlk w dX6_shorten_20 (by decide) (pr1 hk) (pr2 hk)
    · have hk := ok_n c3 hk
      refine lv_iconst (v := 0) hx hb dX6_shorten_12 (by decide) ?_
      have hk := hR _ (ok_s hk)
      exact zrz X hr hlk w dX6_shorten_13 (by decide) (pr1 hk) (pr2 hk)
abbrev rm_X7_begin : Room := { frames := 0, cells := 0, slots := 0, locals := 0 }
set_option maxHeartbeats 4000000 in
set_option maxRecDepth 100000 in
theorem wb_X7_begin_2 {p : Program} {l : Launch} {e : Env} {s : State} {m : MethodId} {args : Array Value} {below : List Frame} {meth : Method} {c : Code} {D : va_G} {cy : Cyy} {A : Nat → Prop} {G : Gg} (X : Cx p m c cX7_begin 2 s args wz_X7_begin RX7 D cy) {Q : State → Prop} (r0 : Nat) (Qo : Mm → Prop)  (hE : ∀ (y : Mm), Qo (y) → ∀ (H : Heap) (locs : List Loc) (ls : Array Slot), Wo s D cy A G y H locs → lv_has ls 2 [(0, .ref r0)] → W p l e rm_X7_begin s m args below meth c H locs 0 0 Q (F0 m 32 ls [])) (rec : Int32 → Mm → Option (Mm)) (hrec : ∀ (i1 : Int32) (M : Mm) (H : Heap) (locs : List Loc) (ls : Array Slot), Wo s D cy A G M H locs → lv_has ls 2 [(0, .ref r0), (1, .int i1)] → OK (rec i1 M) Qo → W p l e rm_X7_begin s m args below meth c H locs 0 0 Q (F0 m 2 ls [])) (i1 : Int32) (M : Mm) (H : Heap) (locs : List Loc) (ls : Array Slot) (w : Wo s D cy A G M H locs) (hl : lv_has ls 2 [(0, .ref r0), (1, .int i1)]) (hk : OK (bd_X7_begin_2 G r0 rec i1 M) Qo) : W p l e rm_X7_begin s m args below meth c H locs 0 0 Q (F0 m 2 ls []) := by
    have hx := X.1.1
    have hb := X.1.2.1
    unfold bd_X7_begin_2 at hk
    refine lv_iload_n hx hb dX7_begin_2 rfl (lv_at hl 1 rfl) ?_
    refine lv_bipush (v := 64) hx hb dX7_begin_3 (by decide) ?_
    refine lv_icmp_ge (tgt := 32) hx hb dX7_begin_5 (by decide) (fun c1 => ?_) (fun c1 => ?_)
    · have hk := ok_p c1 hk
      exact hE M (ok_s hk) _ _ _ w (lv_sub hl [0] rfl)
    · have hk := ok_n c1 hk
      refine lv_aload_n hx hb dX7_begin_8 rfl (lv_at hl 0 rfl) ?_
      obtain ⟨c2, hk⟩ := ok_c hk
      obtain ⟨r3, e4, hk⟩ := ok_b hk
      refine zgr X w 7 0 9 (C := RX7) (T := TX7) (N := 3) rfl ui_X7 (by decide) rfl (tb wf_X7_9) dX7_begin_9 c2 e4 ?_
      refine lv_iload_n hx hb dX7_begin_12 rfl (lv_at hl 1 rfl) ?_
      refine lv_iload_n hx hb dX7_begin_13 rfl (lv_at hl 1 rfl) ?_
      refine lv_bipush (v := 9) hx hb dX7_begin_14 (by decide) ?_
      obtain ⟨c5, hk⟩ := ok_c hk
      refine lv_irem hx hb dX7_begin_16 c5 ?_
      refine lv_if_ne (tgt := 24) hx hb dX7_begin_17 (by decide) (fun c6 => ?_) (fun c6 => ?_)
      · have hk := ok_n c6 hk
        refine lv_lconst (v := 0) hx hb dX7_begin_24 (by decide) ?_
        obtain ⟨c7, hk⟩ := ok_c hk
        obtain ⟨c8, hk⟩ := ok_c hk
        refine zsl X w dX7_begin_25 c7 c8 (fun H locs w => ?_)
        refine lv_iinc (v := (i1 + 1)) (lv' := [(1, .int (i1 + 1)), (0, .ref r0)]) hx hb dX7_begin_26 hl (k := 1) rfl rfl (by decide) rfl (fun ls hl => ?_)
        refine lv_goto (tgt := 2) hx hb dX7_begin_29 (by decide) ?_
        exact hrec (i1 + 1) (mwJ M r3 (Int32.toNatClampNeg i1) (0 : Int64)) _ _ _ w (lv_sub hl [1, 0] rfl) hk
      · have hk := ok_p c6 hk
        refine lv_lconst (v := 1) hx hb dX7_begin_20 (by decide) ?_
        refine lv_goto (tgt := 25) hx hb dX7_begin_21 (by decide) ?_
        obtain ⟨c9, hk⟩ := ok_c hk
        obtain ⟨c10, hk⟩ := ok_c hk
        refine zsl X w dX7_begin_25 c9 c10 (fun H locs w => ?_)
        refine lv_iinc (v := (i1 + 1)) (lv' := [(1, .int (i1 + 1)), (0, .ref r0)]) hx hb dX7_begin_26 hl (k := 1) rfl rfl (by decide) rfl (fun ls hl => ?_)
        refine lv_goto (tgt := 2) hx hb dX7_begin_29 (by decide) ?_
        exact hrec (i1 + 1) (mwJ M r3 (Int32.toNatClampNeg i1) (1 : Int64)) _ _ _ w (lv_sub hl [1, 0] rfl) hk
theorem wl_X7_begin_2 {p : Program} {l : Launch} {e : Env} {s : State} {m : MethodId} {args : Array Value} {below : List Frame} {meth : Method} {c : Code} {D : va_G} {cy : Cyy} {A : Nat → Prop} {G : Gg} (X : Cx p m c cX7_begin 2 s args wz_X7_begin RX7 D cy) {Q : State → Prop} (r0 : Nat) (Qo : Mm → Prop)  (hE : ∀ (y : Mm), Qo (y) → ∀ (H : Heap) (locs : List Loc) (ls : Array Slot), Wo s D cy A G y H locs → lv_has ls 2 [(0, .ref r0)] → W p l e rm_X7_begin s m args below meth c H locs 0 0 Q (F0 m 32 ls [])) : ∀ (n : Nat) (i1 : Int32) (M : Mm) (H : Heap) (locs : List Loc) (ls : Array Slot), Wo s D cy A G M H locs → lv_has ls 2 [(0, .ref r0), (1, .int i1)] → OK (lp_X7_begin_2 G r0 n i1 M) Qo → W p l e rm_X7_begin s m args below meth c H locs 0 0 Q (F0 m 2 ls []) := by
  intro n
  induction n with
  | zero => intro i1 M H locs ls w hl hk; exact ok_0 hk
  | succ n ih => intro i1 M H locs ls w hl hk; exact wb_X7_begin_2 X r0 Qo hE  (lp_X7_begin_2 G r0 n) ih i1 M H locs ls w hl hk
set_option maxHeartbeats 4000000 in
set_option maxRecDepth 100000 in
theorem c_X7_begin (l : Launch) (D : va_G) (cy : Cyy) (G : Gg) (M : Mm) (r0 : Nat) {q : Mm} (hm : f_X7_begin G M r0 = some q) : CV l yX7_begin wz_X7_begin rm_X7_begin D cy G M [.ref r0] q := by
  refine Met_of (Qf := fun A => QV D cy G A q) (cc := cX7_begin) (nL := 2) (ret := none) (own := RX7) (lv := [(0, .ref r0)]) (by decide) rfl rfl (Nat.le_of_ble_eq_true rfl) rfl ?_
  intro p e s m args below meth c A ls X hr hlk w hl
  have hx := X.1.1
  have hb := X.1.2.1
  obtain ⟨Qo, hR, hk⟩ : ∃ Qo : Mm → Prop, (∀ x, Qo x → x = q) ∧ OK (f_X7_begin G M r0) Qo := ⟨fun x => x = q, fun _ h => h, q, hm, rfl⟩
  unfold f_X7_begin at hk
  refine lv_iconst (v := 0) hx hb dX7_begin_0 (by decide) ?_
  refine lv_istore_n (lv' := [(1, .int (0 : Int32)), (0, .ref r0)]) hx hb dX7_begin_1 rfl hl (by decide) rfl (fun ls hl => ?_)
  refine wl_X7_begin_2 X r0 (Qo := _) (fun q11 hk H locs ls w hl => ?_) FU (0 : Int32) M _ _ _ w (lv_sub hl [1, 0] rfl) (ok_b hk)
  refine lv_aload_n hx hb dX7_begin_32 rfl (lv_at hl 0 rfl) ?_
  refine lv_lconst (v := 1) hx hb dX7_begin_33 (by decide) ?_
  obtain ⟨c12, hk⟩ := ok_c hk
  refine zpl X w 7 2 18 tyX7 (C := RX7) (T := TX7) (N := 3) rfl ui_X7 tyX7_ok nmX7 (by decide) rfl (tb wf_X7_18) rfl rfl dX7_begin_34 c12 (fun H locs w => ?_)
  have hk := hR _ (ok_s hk)
  exact zrv X hr hlk w dX7_begin_37 hk
abbrev rm_X7_moveRow : Room := { frames := 0, cells := 0, slots := 0, locals := 0 }
set_option maxHeartbeats 4000000 in
set_option maxRecDepth 100000 in
theorem wb_X7_moveRow_8 {p : Program} {l : Launch} {e : Env} {s : State} {m : MethodId} {args : Array Value} {below : List Frame} {meth : Method} {c : Code} {D : va_G} {cy : Cyy} {A : Nat → Prop} {G : Gg} (X : Cx p m c cX7_moveRow 6 s args wz_X7_moveRow RX7 D cy) {Q : State → Prop} (r0 : Nat) (r1 : Nat) (i3 : Int32) (Qo : Mm → Prop)  (hE : ∀ (y : Mm), Qo (y) → ∀ (H : Heap) (locs : List Loc) (ls : Array Slot), Wo s D cy A G y H locs → lv_has ls 6 [(0, .ref r0), (1, .ref r1), (3, .int i3)] → W p l e rm_X7_moveRow s m args below meth c H locs 0 0 Q (F0 m 49 ls [])) (rec : Int32 → Mm → Option (Mm)) (hrec : ∀ (i4 : Int32) (M : Mm) (H : Heap) (locs : List Loc) (ls : Array Slot), Wo s D cy A G M H locs → lv_has ls 6 [(0, .ref r0), (1, .ref r1), (3, .int i3), (4, .int i4)] → OK (rec i4 M) Qo → W p l e rm_X7_moveRow s m args below meth c H locs 0 0 Q (F0 m 8 ls [])) (i4 : Int32) (M : Mm) (H : Heap) (locs : List Loc) (ls : Array Slot) (w : Wo s D cy A G M H locs) (hl : lv_has ls 6 [(0, .ref r0), (1, .ref r1), (3, .int i3), (4, .int i4)]) (hk : OK (bd_X7_moveRow_8 G r0 r1 i3 rec i4 M) Qo) : W p l e rm_X7_moveRow s m args below meth c H locs 0 0 Q (F0 m 8 ls []) := by
    have hx := X.1.1
    have hb := X.1.2.1
    unfold bd_X7_moveRow_8 at hk
    refine lv_iload hx hb dX7_moveRow_8 (lv_at hl 3 rfl) ?_
    refine lv_aload_n hx hb dX7_moveRow_10 rfl (lv_at hl 1 rfl) ?_
    obtain ⟨c1, hk⟩ := ok_c hk
    refine zgNi X w 0 0 29 "BlendBench" (C := RX0) (T := TX0) (N := 7) rfl ui_X0 (by decide) rfl (by decide +kernel) dX7_moveRow_11 c1 ?_
    refine lv_icmp_ge (tgt := 49) hx hb dX7_moveRow_14 (by decide) (fun c2 => ?_) (fun c2 => ?_)
    · have hk := ok_p c2 hk
      exact hE M (ok_s hk) _ _ _ w (lv_sub hl [0, 1, 2] rfl)
    · have hk := ok_n c2 hk
      refine lv_aload_n hx hb dX7_moveRow_17 rfl (lv_at hl 0 rfl) ?_
      obtain ⟨c3, hk⟩ := ok_c hk
      obtain ⟨r4, e5, hk⟩ := ok_b hk
      refine zgr X w 7 1 15 (C := RX7) (T := TX7) (N := 3) rfl ui_X7 (by decide) rfl (tb wf_X7_15) dX7_moveRow_18 c3 e5 ?_
      refine lv_iload hx hb dX7_moveRow_21 (lv_at hl 3 rfl) ?_
      refine lv_aload_n hx hb dX7_moveRow_23 rfl (lv_at hl 0 rfl) ?_
      obtain ⟨r6, e7, hk⟩ := ok_b hk
      refine zgr X w 7 0 9 (C := RX7) (T := TX7) (N := 3) rfl ui_X7 (by decide) rfl (tb wf_X7_9) dX7_moveRow_24 c3 e7 ?_
      refine lv_iload_n hx hb dX7_moveRow_27 rfl (lv_at hl 2 rfl) ?_
      refine lv_iload hx hb dX7_moveRow_28 (lv_at hl 3 rfl) ?_
      refine lv_iadd hx hb dX7_moveRow_30 ?_
      obtain ⟨c8, hk⟩ := ok_c hk
      obtain ⟨c9, hk⟩ := ok_c hk
      refine zal X w dX7_moveRow_31 c8 c9 ?_
      obtain ⟨c10, hk⟩ := ok_c hk
      obtain ⟨c11, hk⟩ := ok_c hk
      refine zsl X w dX7_moveRow_32 c10 c11 (fun H locs w => ?_)
      refine lv_aload_n hx hb dX7_moveRow_33 rfl (lv_at hl 0 rfl) ?_
      refine zgr X w 7 0 9 (C := RX7) (T := TX7) (N := 3) rfl ui_X7 (by decide) rfl (tb wf_X7_9) dX7_moveRow_34 c3 e7 ?_
      refine lv_iload_n hx hb dX7_moveRow_37 rfl (lv_at hl 2 rfl) ?_
      refine lv_iload hx hb dX7_moveRow_38 (lv_at hl 3 rfl) ?_
      refine lv_iadd hx hb dX7_moveRow_40 ?_
      refine lv_lconst (v := 0) hx hb dX7_moveRow_41 (by decide) ?_
      refine zsl X w dX7_moveRow_42 c8 c9 (fun H locs w => ?_)
      refine lv_iinc (v := (i4 + 1)) (lv' := [(4, .int (i4 + 1)), (0, .ref r0), (1, .ref r1), (3, .int i3)]) hx hb dX7_moveRow_43 hl (k := 3) rfl rfl (by decide) rfl (fun ls hl => ?_)
      refine lv_goto (tgt := 8) hx hb dX7_moveRow_46 (by decide) ?_
      exact hrec (i4 + 1) (mwJ (mwJ M r4 (Int32.toNatClampNeg i4) (M.2.1 r6 (Int32.toNatClampNeg (i3 + i4)))) r6 (Int32.toNatClampNeg (i3 + i4)) (0 : Int64)) _ _ _ w (lv_sub hl [1, 2, 3, 0] rfl) hk
theorem wl_X7_moveRow_8 {p : Program} {l : Launch} {e : Env} {s : State} {m : MethodId} {args : Array Value} {below : List Frame} {meth : Method} {c : Code} {D : va_G} {cy : Cyy} {A : Nat → Prop} {G : Gg} (X : Cx p m c cX7_moveRow 6 s args wz_X7_moveRow RX7 D cy) {Q : State → Prop} (r0 : Nat) (r1 : Nat) (i3 : Int32) (Qo : Mm → Prop)  (hE : ∀ (y : Mm), Qo (y) → ∀ (H : Heap) (locs : List Loc) (ls : Array Slot), Wo s D cy A G y H locs → lv_has ls 6 [(0, .ref r0), (1, .ref r1), (3, .int i3)] → W p l e rm_X7_moveRow s m args below meth c H locs 0 0 Q (F0 m 49 ls [])) : ∀ (n : Nat) (i4 : Int32) (M : Mm) (H : Heap) (locs : List Loc) (ls : Array Slot), Wo s D cy A G M H locs → lv_has ls 6 [(0, .ref r0), (1, .ref r1), (3, .int i3), (4, .int i4)] → OK (lp_X7_moveRow_8 G r0 r1 i3 n i4 M) Qo → W p l e rm_X7_moveRow s m args below meth c H locs 0 0 Q (F0 m 8 ls []) := by
  intro n
  induction n with
  | zero => intro i4 M H locs ls w hl hk; exact ok_0 hk
  | succ n ih => intro i4 M H locs ls w hl hk; exact wb_X7_moveRow_8 X r0 r1 i3 Qo hE  (lp_X7_moveRow_8 G r0 r1 i3 n) ih i4 M H locs ls w hl hk
set_option maxHeartbeats 4000000 in
set_option maxRecDepth 100000 in
theorem wb_X7_moveRow_64 {p : Program} {l : Launch} {e : Env} {s : State} {m : MethodId} {args : Array Value} {below : List Frame} {meth : Method} {c : Code} {D : va_G} {cy : Cyy} {A : Nat → Prop} {G : Gg} (X : Cx p m c cX7_moveRow 6 s args wz_X7_moveRow RX7 D cy) {Q : State → Prop} (r0 : Nat) (r1 : Nat) (i3 : Int32) (i4 : Int32) (Qo : Mm → Prop)  (hE : ∀ (y : Mm), Qo (y) → ∀ (H : Heap) (locs : List Loc) (ls : Array Slot), Wo s D cy A G y H locs → lv_has ls 6 [(0, .ref r0), (1, .ref r1), (3, .int i3), (4, .int i4)] → W p l e rm_X7_moveRow s m args below meth c H locs 0 0 Q (F0 m 125 ls [])) (rec : Int32 → Mm → Option (Mm)) (hrec : ∀ (i5 : Int32) (M : Mm) (H : Heap) (locs : List Loc) (ls : Array Slot), Wo s D cy A G M H locs → lv_has ls 6 [(0, .ref r0), (1, .ref r1), (3, .int i3), (4, .int i4), (5, .int i5)] → OK (rec i5 M) Qo → W p l e rm_X7_moveRow s m args below meth c H locs 0 0 Q (F0 m 64 ls [])) (i5 : Int32) (M : Mm) (H : Heap) (locs : List Loc) (ls : Array Slot) (w : Wo s D cy A G M H locs) (hl : lv_has ls 6 [(0, .ref r0), (1, .ref r1), (3, .int i3), (4, .int i4), (5, .int i5)]) (hk : OK (bd_X7_moveRow_64 G r0 r1 i3 i4 rec i5 M) Qo) : W p l e rm_X7_moveRow s m args below meth c H locs 0 0 Q (F0 m 64 ls []) := by
    have hx := X.1.1
    have hb := X.1.2.1
    unfold bd_X7_moveRow_64 at hk
    refine lv_iload hx hb dX7_moveRow_64 (lv_at hl 4 rfl) ?_
    refine lv_aload_n hx hb dX7_moveRow_66 rfl (lv_at hl 1 rfl) ?_
    obtain ⟨c15, hk⟩ := ok_c hk
    refine zgNi X w 0 0 29 "BlendBench" (C := RX0) (T := TX0) (N := 7) rfl ui_X0 (by decide) rfl (by decide +kernel) dX7_moveRow_67 c15 ?_
    refine lv_icmp_ge (tgt := 125) hx hb dX7_moveRow_70 (by decide) (fun c16 => ?_) (fun c16 => ?_)
    · have hk := ok_p c16 hk
      exact hE M (ok_s hk) _ _ _ w (lv_sub hl [0, 1, 2, 3] rfl)
    · have hk := ok_n c16 hk
      refine lv_aload_n hx hb dX7_moveRow_73 rfl (lv_at hl 0 rfl) ?_
      obtain ⟨c17, hk⟩ := ok_c hk
      obtain ⟨r18, e19, hk⟩ := ok_b hk
      refine zgr X w 7 1 15 (C := RX7) (T := TX7) (N := 3) rfl ui_X7 (by decide) rfl (tb wf_X7_15) dX7_moveRow_74 c17 e19 ?_
      refine lv_iload hx hb dX7_moveRow_77 (lv_at hl 3 rfl) ?_
      obtain ⟨c20, hk⟩ := ok_c hk
      obtain ⟨c21, hk⟩ := ok_c hk
      refine zal X w dX7_moveRow_79 c20 c21 ?_
      refine lv_lconst (v := 0) hx hb dX7_moveRow_80 (by decide) ?_
      refine W.lcmp hx hb dX7_moveRow_81 ?_
      refine lv_if_eq (tgt := 125) hx hb dX7_moveRow_82 (by decide) (fun c22 => ?_) (fun c22 => ?_)
      · have hk := ok_p c22 hk
        exact hE M (ok_s hk) _ _ _ w (lv_sub hl [0, 1, 2, 3] rfl)
      · have hk := ok_n c22 hk
        refine lv_aload_n hx hb dX7_moveRow_85 rfl (lv_at hl 0 rfl) ?_
        obtain ⟨r23, e24, hk⟩ := ok_b hk
        refine zgr X w 7 0 9 (C := RX7) (T := TX7) (N := 3) rfl ui_X7 (by decide) rfl (tb wf_X7_9) dX7_moveRow_86 c17 e24 ?_
        refine lv_iload_n hx hb dX7_moveRow_89 rfl (lv_at hl 2 rfl) ?_
        refine lv_iload hx hb dX7_moveRow_90 (lv_at hl 4 rfl) ?_
        refine lv_iadd hx hb dX7_moveRow_92 ?_
        refine lv_dup2_11 hx hb dX7_moveRow_93 rfl rfl ?_
        obtain ⟨c25, hk⟩ := ok_c hk
        obtain ⟨c26, hk⟩ := ok_c hk
        refine zal X w dX7_moveRow_94 c25 c26 ?_
        refine lv_aload_n hx hb dX7_moveRow_95 rfl (lv_at hl 0 rfl) ?_
        refine zgr X w 7 1 15 (C := RX7) (T := TX7) (N := 3) rfl ui_X7 (by decide) rfl (tb wf_X7_15) dX7_moveRow_96 c17 e19 ?_
        refine lv_iload hx hb dX7_moveRow_99 (lv_at hl 3 rfl) ?_
        refine zal X w dX7_moveRow_101 c20 c21 ?_
        refine lv_aload_n hx hb dX7_moveRow_102 rfl (lv_at hl 1 rfl) ?_
        obtain ⟨r27, e28, hk⟩ := ok_b hk
        refine zgNr X w 0 2 45 "BlendBench" (C := RX0) (T := TX0) (N := 7) rfl ui_X0 (by decide) rfl (by decide +kernel) dX7_moveRow_103 c15 e28 ?_
        refine lv_iload hx hb dX7_moveRow_106 (lv_at hl 3 rfl) ?_
        refine lv_bipush (v := 8) hx hb dX7_moveRow_108 (by decide) ?_
        refine lv_imul hx hb dX7_moveRow_110 ?_
        refine lv_iload hx hb dX7_moveRow_111 (lv_at hl 4 rfl) ?_
        refine lv_iadd hx hb dX7_moveRow_113 ?_
        obtain ⟨c29, hk⟩ := ok_c hk
        obtain ⟨c30, hk⟩ := ok_c hk
        refine zai X w dX7_moveRow_114 c29 c30 ?_
        refine lv_i2l hx hb dX7_moveRow_115 rfl ?_
        refine lv_lmul hx hb dX7_moveRow_116 ?_
        refine lv_ladd hx hb dX7_moveRow_117 ?_
        refine zsl X w dX7_moveRow_118 c25 c26 (fun H locs w => ?_)
        refine lv_iinc (v := (i5 + 1)) (lv' := [(5, .int (i5 + 1)), (0, .ref r0), (1, .ref r1), (3, .int i3), (4, .int i4)]) hx hb dX7_moveRow_119 hl (k := 4) rfl rfl (by decide) rfl (fun ls hl => ?_)
        refine lv_goto (tgt := 64) hx hb dX7_moveRow_122 (by decide) ?_
        exact hrec (i5 + 1) (mwJ M r23 (Int32.toNatClampNeg (i3 + i5)) ((M.2.1 r23 (Int32.toNatClampNeg (i3 + i5))) + ((M.2.1 r18 (Int32.toNatClampNeg i4)) * (Int32.toInt64 (M.1 r27 (Int32.toNatClampNeg ((i4 * (8 : Int32)) + i5))))))) _ _ _ w (lv_sub hl [1, 2, 3, 4, 0] rfl) hk
theorem wl_X7_moveRow_64 {p : Program} {l : Launch} {e : Env} {s : State} {m : MethodId} {args : Array Value} {below : List Frame} {meth : Method} {c : Code} {D : va_G} {cy : Cyy} {A : Nat → Prop} {G : Gg} (X : Cx p m c cX7_moveRow 6 s args wz_X7_moveRow RX7 D cy) {Q : State → Prop} (r0 : Nat) (r1 : Nat) (i3 : Int32) (i4 : Int32) (Qo : Mm → Prop)  (hE : ∀ (y : Mm), Qo (y) → ∀ (H : Heap) (locs : List Loc) (ls : Array Slot), Wo s D cy A G y H locs → lv_has ls 6 [(0, .ref r0), (1, .ref r1), (3, .int i3), (4, .int i4)] → W p l e rm_X7_moveRow s m args below meth c H locs 0 0 Q (F0 m 125 ls [])) : ∀ (n : Nat) (i5 : Int32) (M : Mm) (H : Heap) (locs : List Loc) (ls : Array Slot), Wo s D cy A G M H locs → lv_has ls 6 [(0, .ref r0), (1, .ref r1), (3, .int i3), (4, .int i4), (5, .int i5)] → OK (lp_X7_moveRow_64 G r0 r1 i3 i4 n i5 M) Qo → W p l e rm_X7_moveRow s m args below meth c H locs 0 0 Q (F0 m 64 ls []) := by
  intro n
  induction n with
  | zero => intro i5 M H locs ls w hl hk; exact ok_0 hk
  | succ n ih => intro i5 M H locs ls w hl hk; exact wb_X7_moveRow_64 X r0 r1 i3 i4 Qo hE  (lp_X7_moveRow_64 G r0 r1 i3 i4 n) ih i5 M H locs ls w hl hk
set_option maxHeartbeats 4000000 in
set_option maxRecDepth 100000 in
theorem wb_X7_moveRow_52 {p : Program} {l : Launch} {e : Env} {s : State} {m : MethodId} {args : Array Value} {below : List Frame} {meth : Method} {c : Code} {D : va_G} {cy : Cyy} {A : Nat → Prop} {G : Gg} (X : Cx p m c cX7_moveRow 6 s args wz_X7_moveRow RX7 D cy) {Q : State → Prop} (r0 : Nat) (r1 : Nat) (i3 : Int32) (Qo : Mm → Prop)  (hE : ∀ (y : Mm), Qo (y) → ∀ (H : Heap) (locs : List Loc) (ls : Array Slot), Wo s D cy A G y H locs → lv_has ls 6 [] → W p l e rm_X7_moveRow s m args below meth c H locs 0 0 Q (F0 m 131 ls [])) (rec : Int32 → Mm → Option (Mm)) (hrec : ∀ (i4 : Int32) (M : Mm) (H : Heap) (locs : List Loc) (ls : Array Slot), Wo s D cy A G M H locs → lv_has ls 6 [(0, .ref r0), (1, .ref r1), (3, .int i3), (4, .int i4)] → OK (rec i4 M) Qo → W p l e rm_X7_moveRow s m args below meth c H locs 0 0 Q (F0 m 52 ls [])) (i4 : Int32) (M : Mm) (H : Heap) (locs : List Loc) (ls : Array Slot) (w : Wo s D cy A G M H locs) (hl : lv_has ls 6 [(0, .ref r0), (1, .ref r1), (3, .int i3), (4, .int i4)]) (hk : OK (bd_X7_moveRow_52 G r0 r1 i3 rec i4 M) Qo) : W p l e rm_X7_moveRow s m args below meth c H locs 0 0 Q (F0 m 52 ls []) := by
    have hx := X.1.1
    have hb := X.1.2.1
    unfold bd_X7_moveRow_52 at hk
    refine lv_iload hx hb dX7_moveRow_52 (lv_at hl 3 rfl) ?_
    refine lv_aload_n hx hb dX7_moveRow_54 rfl (lv_at hl 1 rfl) ?_
    obtain ⟨c13, hk⟩ := ok_c hk
    refine zgNi X w 0 0 29 "BlendBench" (C := RX0) (T := TX0) (N := 7) rfl ui_X0 (by decide) rfl (by decide +kernel) dX7_moveRow_55 c13 ?_
    refine lv_icmp_ge (tgt := 131) hx hb dX7_moveRow_58 (by decide) (fun c14 => ?_) (fun c14 => ?_)
    · have hk := ok_p c14 hk
      exact hE M (ok_s hk) _ _ _ w (lv_sub hl [] rfl)
    · have hk := ok_n c14 hk
      refine lv_iconst (v := 0) hx hb dX7_moveRow_61 (by decide) ?_
      refine lv_istore (lv' := [(5, .int (0 : Int32)), (0, .ref r0), (1, .ref r1), (3, .int i3), (4, .int i4)]) hx hb dX7_moveRow_62 hl (by decide) rfl (fun ls hl => ?_)
      refine wl_X7_moveRow_64 X r0 r1 i3 i4 (Qo := _) (fun q31 hk H locs ls w hl => ?_) FU (0 : Int32) M _ _ _ w (lv_sub hl [1, 2, 3, 4, 0] rfl) (ok_b hk)
      refine lv_iinc (v := (i4 + 1)) (lv' := [(4, .int (i4 + 1)), (0, .ref r0), (1, .ref r1), (3, .int i3)]) hx hb dX7_moveRow_125 hl (k := 3) rfl rfl (by decide) rfl (fun ls hl => ?_)
      refine lv_goto (tgt := 52) hx hb dX7_moveRow_128 (by decide) ?_
      exact hrec (i4 + 1) q31 _ _ _ w (lv_sub hl [1, 2, 3, 0] rfl) hk
theorem wl_X7_moveRow_52 {p : Program} {l : Launch} {e : Env} {s : State} {m : MethodId} {args : Array Value} {below : List Frame} {meth : Method} {c : Code} {D : va_G} {cy : Cyy} {A : Nat → Prop} {G : Gg} (X : Cx p m c cX7_moveRow 6 s args wz_X7_moveRow RX7 D cy) {Q : State → Prop} (r0 : Nat) (r1 : Nat) (i3 : Int32) (Qo : Mm → Prop)  (hE : ∀ (y : Mm), Qo (y) → ∀ (H : Heap) (locs : List Loc) (ls : Array Slot), Wo s D cy A G y H locs → lv_has ls 6 [] → W p l e rm_X7_moveRow s m args below meth c H locs 0 0 Q (F0 m 131 ls [])) : ∀ (n : Nat) (i4 : Int32) (M : Mm) (H : Heap) (locs : List Loc) (ls : Array Slot), Wo s D cy A G M H locs → lv_has ls 6 [(0, .ref r0), (1, .ref r1), (3, .int i3), (4, .int i4)] → OK (lp_X7_moveRow_52 G r0 r1 i3 n i4 M) Qo → W p l e rm_X7_moveRow s m args below meth c H locs 0 0 Q (F0 m 52 ls []) := by
  intro n
  induction n with
  | zero => intro i4 M H locs ls w hl hk; exact ok_0 hk
  | succ n ih => intro i4 M H locs ls w hl hk; exact wb_X7_moveRow_52 X r0 r1 i3 Qo hE  (lp_X7_moveRow_52 G r0 r1 i3 n) ih i4 M H locs ls w hl hk
set_option maxHeartbeats 4000000 in
set_option maxRecDepth 100000 in
theorem c_X7_moveRow (l : Launch) (D : va_G) (cy : Cyy) (G : Gg) (M : Mm) (r0 : Nat) (r1 : Nat) (i2 : Int32) {q : Mm} (hm : f_X7_moveRow G M r0 r1 i2 = some q) : CV l yX7_moveRow wz_X7_moveRow rm_X7_moveRow D cy G M [.ref r0, .ref r1, .int i2] q := by
  refine Met_of (Qf := fun A => QV D cy G A q) (cc := cX7_moveRow) (nL := 6) (ret := none) (own := RX7) (lv := [(0, .ref r0), (1, .ref r1), (2, .int i2)]) (by decide) rfl rfl (Nat.le_of_ble_eq_true rfl) rfl ?_
  intro p e s m args below meth c A ls X hr hlk w hl
  have hx := X.1.1
  have hb := X.1.2.1
  obtain ⟨Qo, hR, hk⟩ : ∃ Qo : Mm → Prop, (∀ x, Qo x → x = q) ∧ OK (f_X7_moveRow G M r0 r1 i2) Qo := ⟨fun x => x = q, fun _ h => h, q, hm, rfl⟩
  unfold f_X7_moveRow at hk
  refine lv_iload_n hx hb dX7_moveRow_0 rfl (lv_at hl 2 rfl) ?_
  refine lv_bipush (v := 8) hx hb dX7_moveRow_1 (by decide) ?_
  refine lv_imul hx hb dX7_moveRow_3 ?_
  refine lv_istore_n (lv' := [(3, .int (i2 * (8 : Int32))), (0, .ref r0), (1, .ref r1), (2, .int i2)]) hx hb dX7_moveRow_4 rfl hl (by decide) rfl (fun ls hl => ?_)
  refine lv_iconst (v := 0) hx hb dX7_moveRow_5 (by decide) ?_
  refine lv_istore (lv' := [(4, .int (0 : Int32)), (3, .int (i2 * (8 : Int32))), (0, .ref r0), (1, .ref r1), (2, .int i2)]) hx hb dX7_moveRow_6 hl (by decide) rfl (fun ls hl => ?_)
  refine wl_X7_moveRow_8 X r0 r1 (i2 * (8 : Int32)) (Qo := _) (fun q12 hk H locs ls w hl => ?_) FU (0 : Int32) M _ _ _ w (lv_sub hl [2, 3, 1, 0] rfl) (ok_b hk)
  refine lv_iconst (v := 0) hx hb dX7_moveRow_49 (by decide) ?_
  refine lv_istore (lv' := [(4, .int (0 : Int32)), (0, .ref r0), (1, .ref r1), (3, .int (i2 * (8 : Int32)))]) hx hb dX7_moveRow_50 hl (by decide) rfl (fun ls hl => ?_)
  refine wl_X7_moveRow_52 X r0 r1 (i2 * (8 : Int32)) (Qo := _) (fun q32 hk H locs ls w hl => ?_) FU (0 : Int32) q12 _ _ _ w (lv_sub hl [1, 2, 3, 0] rfl) (ok_b hk)
  have hk := hR _ (ok_s hk)
  exact zrv X hr hlk w dX7_moveRow_131 hk
abbrev rm_X7_goOnce : Room := { frames := 1, cells := 0, slots := 0, locals := 25 }
set_option maxHeartbeats 4000000 in
set_option maxRecDepth 100000 in
theorem wb_X7_goOnce_2 {p : Program} {l : Launch} {e : Env} {s : State} {m : MethodId} {args : Array Value} {below : List Frame} {meth : Method} {c : Code} {D : va_G} {cy : Cyy} {A : Nat → Prop} {G : Gg} (X : Cx p m c cX7_goOnce 4 s args wz_X7_goOnce RX7 D cy) {Q : State → Prop} (r0 : Nat) (r1 : Nat) (i2 : Int32) (Qo : Mm → Prop)  (hE : ∀ (y : Mm), Qo (y) → ∀ (H : Heap) (locs : List Loc) (ls : Array Slot), Wo s D cy A G y H locs → lv_has ls 4 [(0, .ref r0), (1, .ref r1)] → W p l e rm_X7_goOnce s m args below meth c H locs 0 0 Q (F0 m 30 ls [])) (rec : Int32 → Mm → Option (Mm)) (hrec : ∀ (i3 : Int32) (M : Mm) (H : Heap) (locs : List Loc) (ls : Array Slot), Wo s D cy A G M H locs → lv_has ls 4 [(0, .ref r0), (1, .ref r1), (2, .int i2), (3, .int i3)] → OK (rec i3 M) Qo → W p l e rm_X7_goOnce s m args below meth c H locs 0 0 Q (F0 m 2 ls [])) (i3 : Int32) (M : Mm) (H : Heap) (locs : List Loc) (ls : Array Slot) (w : Wo s D cy A G M H locs) (hl : lv_has ls 4 [(0, .ref r0), (1, .ref r1), (2, .int i2), (3, .int i3)]) (hk : OK (bd_X7_goOnce_2 G r0 r1 i2 rec i3 M) Qo) : W p l e rm_X7_goOnce s m args below meth c H locs 0 0 Q (F0 m 2 ls []) := by
    have hx := X.1.1
    have hb := X.1.2.1
    unfold bd_X7_goOnce_2 at hk
    refine lv_iload_n hx hb dX7_goOnce_2 rfl (lv_at hl 3 rfl) ?_
    refine lv_aload_n hx hb dX7_goOnce_3 rfl (lv_at hl 1 rfl) ?_
    obtain ⟨c1, hk⟩ := ok_c hk
    refine zgNi X w 0 0 29 "BlendBench" (C := RX0) (T := TX0) (N := 7) rfl ui_X0 (by decide) rfl (by decide +kernel) dX7_goOnce_4 c1 ?_
    refine lv_icmp_ge (tgt := 30) hx hb dX7_goOnce_7 (by decide) (fun c2 => ?_) (fun c2 => ?_)
    · have hk := ok_p c2 hk
      exact hE M (ok_s hk) _ _ _ w (lv_sub hl [0, 1] rfl)
    · have hk := ok_n c2 hk
      refine lv_iload_n hx hb dX7_goOnce_10 rfl (lv_at hl 2 rfl) ?_
      refine lv_iload_n hx hb dX7_goOnce_11 rfl (lv_at hl 3 rfl) ?_
      obtain ⟨q3, e4, hk⟩ := ok_b hk
      refine zNi X w (n := 2) (As := [.int i2, .int i3]) (rest := []) (host := "BlendBench") (c_X8_has l D cy G M i2 i3 e4) (gzN wc_X8_has) rfl rfl rfl (by decide +kernel) (tb wn_X8) (tb wt_X8_has) (by decide +kernel) (by decide) rfl rfl hl.1 (Nat.le_of_ble_eq_true rfl) dX7_goOnce_12 ⟨Nat.zero_le _, Nat.zero_le _⟩ (fun H locs w => ?_)
      refine lv_if_eq (tgt := 24) hx hb dX7_goOnce_15 (by decide) (fun c5 => ?_) (fun c5 => ?_)
      · have hk := ok_p c5 hk
        refine lv_iinc (v := (i3 + 1)) (lv' := [(3, .int (i3 + 1)), (0, .ref r0), (1, .ref r1), (2, .int i2)]) hx hb dX7_goOnce_24 hl (k := 3) rfl rfl (by decide) rfl (fun ls hl => ?_)
        refine lv_goto (tgt := 2) hx hb dX7_goOnce_27 (by decide) ?_
        exact hrec (i3 + 1) M _ _ _ w (lv_sub hl [1, 2, 3, 0] rfl) hk
      · have hk := ok_n c5 hk
        refine lv_aload_n hx hb dX7_goOnce_18 rfl (lv_at hl 0 rfl) ?_
        refine lv_aload_n hx hb dX7_goOnce_19 rfl (lv_at hl 1 rfl) ?_
        refine lv_iload_n hx hb dX7_goOnce_20 rfl (lv_at hl 3 rfl) ?_
        obtain ⟨c8, hk⟩ := ok_c hk
        obtain ⟨q6, e7, hk⟩ := ok_b hk
        refine zVv X w (n := 2) (As := [.ref r1, .int i3]) (rest := []) (ci := 7) (C := RX7) (T := TX7) (N := 3) (c_X7_moveRow l D cy G M r0 r1 i3 e7) (gzV wm_X7_39 wi_X7_moveRow ws_X7_moveRow wn_X7 wc_X7_moveRow) rfl rfl rfl (by decide +kernel) (by decide) rfl c8 rfl rfl hl.1 (Nat.le_of_ble_eq_true rfl) dX7_goOnce_21 ⟨Nat.zero_le _, Nat.zero_le _⟩ (fun H locs w => ?_)
        refine lv_iinc (v := (i3 + 1)) (lv' := [(3, .int (i3 + 1)), (0, .ref r0), (1, .ref r1), (2, .int i2)]) hx hb dX7_goOnce_24 hl (k := 3) rfl rfl (by decide) rfl (fun ls hl => ?_)
        refine lv_goto (tgt := 2) hx hb dX7_goOnce_27 (by decide) ?_
        exact hrec (i3 + 1) q6 _ _ _ w (lv_sub hl [1, 2, 3, 0] rfl) hk
theorem wl_X7_goOnce_2 {p : Program} {l : Launch} {e : Env} {s : State} {m : MethodId} {args : Array Value} {below : List Frame} {meth : Method} {c : Code} {D : va_G} {cy : Cyy} {A : Nat → Prop} {G : Gg} (X : Cx p m c cX7_goOnce 4 s args wz_X7_goOnce RX7 D cy) {Q : State → Prop} (r0 : Nat) (r1 : Nat) (i2 : Int32) (Qo : Mm → Prop)  (hE : ∀ (y : Mm), Qo (y) → ∀ (H : Heap) (locs : List Loc) (ls : Array Slot), Wo s D cy A G y H locs → lv_has ls 4 [(0, .ref r0), (1, .ref r1)] → W p l e rm_X7_goOnce s m args below meth c H locs 0 0 Q (F0 m 30 ls [])) : ∀ (n : Nat) (i3 : Int32) (M : Mm) (H : Heap) (locs : List Loc) (ls : Array Slot), Wo s D cy A G M H locs → lv_has ls 4 [(0, .ref r0), (1, .ref r1), (2, .int i2), (3, .int i3)] → OK (lp_X7_goOnce_2 G r0 r1 i2 n i3 M) Qo → W p l e rm_X7_goOnce s m args below meth c H locs 0 0 Q (F0 m 2 ls []) := by
  intro n
  induction n with
  | zero => intro i3 M H locs ls w hl hk; exact ok_0 hk
  | succ n ih => intro i3 M H locs ls w hl hk; exact wb_X7_goOnce_2 X r0 r1 i2 Qo hE  (lp_X7_goOnce_2 G r0 r1 i2 n) ih i3 M H locs ls w hl hk
set_option maxHeartbeats 4000000 in
set_option maxRecDepth 100000 in
theorem c_X7_goOnce (l : Launch) (D : va_G) (cy : Cyy) (G : Gg) (M : Mm) (r0 : Nat) (r1 : Nat) (i2 : Int32) {q : Mm} (hm : f_X7_goOnce G M r0 r1 i2 = some q) : CV l yX7_goOnce wz_X7_goOnce rm_X7_goOnce D cy G M [.ref r0, .ref r1, .int i2] q := by
  refine Met_of (Qf := fun A => QV D cy G A q) (cc := cX7_goOnce) (nL := 4) (ret := none) (own := RX7) (lv := [(0, .ref r0), (1, .ref r1), (2, .int i2)]) (by decide) rfl rfl (Nat.le_of_ble_eq_true rfl) rfl ?_
  intro p e s m args below meth c A ls X hr hlk w hl
  have hx := X.1.1
  have hb := X.1.2.1
  obtain ⟨Qo, hR, hk⟩ : ∃ Qo : Mm → Prop, (∀ x, Qo x → x = q) ∧ OK (f_X7_goOnce G M r0 r1 i2) Qo := ⟨fun x => x = q, fun _ h => h, q, hm, rfl⟩
  unfold f_X7_goOnce at hk
  refine lv_iconst (v := 0) hx hb dX7_goOnce_0 (by decide) ?_
  refine lv_istore_n (lv' := [(3, .int (0 : Int32)), (0, .ref r0), (1, .ref r1), (2, .int i2)]) hx hb dX7_goOnce_1 rfl hl (by decide) rfl (fun ls hl => ?_)
  refine wl_X7_goOnce_2 X r0 r1 i2 (Qo := _) (fun q9 hk H locs ls w hl => ?_) FU (0 : Int32) M _ _ _ w (lv_sub hl [1, 2, 3, 0] rfl) (ok_b hk)
  refine lv_aload_n hx hb dX7_goOnce_30 rfl (lv_at hl 0 rfl) ?_
  refine lv_dup hx hb dX7_goOnce_31 rfl ?_
  obtain ⟨c10, hk⟩ := ok_c hk
  refine zgl X w 7 2 18 (C := RX7) (T := TX7) (N := 3) rfl ui_X7 (by decide) rfl (tb wf_X7_18) dX7_goOnce_32 c10 ?_
  refine lv_aload_n hx hb dX7_goOnce_35 rfl (lv_at hl 1 rfl) ?_
  obtain ⟨c11, hk⟩ := ok_c hk
  refine zgNi X w 0 1 42 "BlendBench" (C := RX0) (T := TX0) (N := 7) rfl ui_X0 (by decide) rfl (by decide +kernel) dX7_goOnce_36 c11 ?_
  refine lv_i2l hx hb dX7_goOnce_39 rfl ?_
  refine lv_lmul hx hb dX7_goOnce_40 ?_
  refine zpl X w 7 2 18 tyX7 (C := RX7) (T := TX7) (N := 3) rfl ui_X7 tyX7_ok nmX7 (by decide) rfl (tb wf_X7_18) rfl rfl dX7_goOnce_41 c10 (fun H locs w => ?_)
  have hk := hR _ (ok_s hk)
  exact zrv X hr hlk w dX7_goOnce_44 hk
abbrev rm_X7_go : Room := { frames := 2, cells := 0, slots := 0, locals := 48 }
set_option maxHeartbeats 4000000 in
set_option maxRecDepth 100000 in
theorem wb_X7_go_7 {p : Program} {l : Launch} {e : Env} {s : State} {m : MethodId} {args : Array Value} {below : List Frame} {meth : Method} {c : Code} {D : va_G} {cy : Cyy} {A : Nat → Prop} {G : Gg} (X : Cx p m c cX7_go 5 s args wz_X7_go RX7 D cy) {Q : State → Prop} (r0 : Nat) (r1 : Nat) (i2 : Int32) (i3 : Int32) (Qo : Mm → Prop)  (hE : ∀ (y : Mm), Qo (y) → ∀ (H : Heap) (locs : List Loc) (ls : Array Slot), Wo s D cy A G y H locs → lv_has ls 5 [] → W p l e rm_X7_go s m args below meth c H locs 0 0 Q (F0 m 32 ls [])) (rec : Int32 → Mm → Option (Mm)) (hrec : ∀ (i4 : Int32) (M : Mm) (H : Heap) (locs : List Loc) (ls : Array Slot), Wo s D cy A G M H locs → lv_has ls 5 [(0, .ref r0), (1, .ref r1), (2, .int i2), (3, .int i3), (4, .int i4)] → OK (rec i4 M) Qo → W p l e rm_X7_go s m args below meth c H locs 0 0 Q (F0 m 7 ls [])) (i4 : Int32) (M : Mm) (H : Heap) (locs : List Loc) (ls : Array Slot) (w : Wo s D cy A G M H locs) (hl : lv_has ls 5 [(0, .ref r0), (1, .ref r1), (2, .int i2), (3, .int i3), (4, .int i4)]) (hk : OK (bd_X7_go_7 G r0 r1 i2 i3 rec i4 M) Qo) : W p l e rm_X7_go s m args below meth c H locs 0 0 Q (F0 m 7 ls []) := by
    have hx := X.1.1
    have hb := X.1.2.1
    unfold bd_X7_go_7 at hk
    refine lv_iload hx hb dX7_go_7 (lv_at hl 4 rfl) ?_
    refine lv_iload_n hx hb dX7_go_9 rfl (lv_at hl 3 rfl) ?_
    refine lv_icmp_ge (tgt := 32) hx hb dX7_go_10 (by decide) (fun c4 => ?_) (fun c4 => ?_)
    · have hk := ok_p c4 hk
      exact hE M (ok_s hk) _ _ _ w (lv_sub hl [] rfl)
    · have hk := ok_n c4 hk
      refine lv_iload hx hb dX7_go_13 (lv_at hl 4 rfl) ?_
      refine lv_bipush (v := 20) hx hb dX7_go_15 (by decide) ?_
      refine lv_icmp_ge (tgt := 32) hx hb dX7_go_17 (by decide) (fun c5 => ?_) (fun c5 => ?_)
      · have hk := ok_p c5 hk
        exact hE M (ok_s hk) _ _ _ w (lv_sub hl [] rfl)
      · have hk := ok_n c5 hk
        refine lv_aload_n hx hb dX7_go_20 rfl (lv_at hl 0 rfl) ?_
        refine lv_aload_n hx hb dX7_go_21 rfl (lv_at hl 1 rfl) ?_
        refine lv_iload_n hx hb dX7_go_22 rfl (lv_at hl 2 rfl) ?_
        obtain ⟨c8, hk⟩ := ok_c hk
        obtain ⟨q6, e7, hk⟩ := ok_b hk
        refine zVv X w (n := 2) (As := [.ref r1, .int i2]) (rest := []) (ci := 7) (C := RX7) (T := TX7) (N := 3) (c_X7_goOnce l D cy G M r0 r1 i2 e7) (gzV wm_X7_25 wi_X7_goOnce ws_X7_goOnce wn_X7 wc_X7_goOnce) rfl rfl rfl (by decide +kernel) (by decide) rfl c8 rfl rfl hl.1 (Nat.le_of_ble_eq_true rfl) dX7_go_23 ⟨Nat.zero_le _, Nat.zero_le _⟩ (fun H locs w => ?_)
        refine lv_iinc (v := (i4 + 1)) (lv' := [(4, .int (i4 + 1)), (0, .ref r0), (1, .ref r1), (2, .int i2), (3, .int i3)]) hx hb dX7_go_26 hl (k := 4) rfl rfl (by decide) rfl (fun ls hl => ?_)
        refine lv_goto (tgt := 7) hx hb dX7_go_29 (by decide) ?_
        exact hrec (i4 + 1) q6 _ _ _ w (lv_sub hl [1, 2, 3, 4, 0] rfl) hk
theorem wl_X7_go_7 {p : Program} {l : Launch} {e : Env} {s : State} {m : MethodId} {args : Array Value} {below : List Frame} {meth : Method} {c : Code} {D : va_G} {cy : Cyy} {A : Nat → Prop} {G : Gg} (X : Cx p m c cX7_go 5 s args wz_X7_go RX7 D cy) {Q : State → Prop} (r0 : Nat) (r1 : Nat) (i2 : Int32) (i3 : Int32) (Qo : Mm → Prop)  (hE : ∀ (y : Mm), Qo (y) → ∀ (H : Heap) (locs : List Loc) (ls : Array Slot), Wo s D cy A G y H locs → lv_has ls 5 [] → W p l e rm_X7_go s m args below meth c H locs 0 0 Q (F0 m 32 ls [])) : ∀ (n : Nat) (i4 : Int32) (M : Mm) (H : Heap) (locs : List Loc) (ls : Array Slot), Wo s D cy A G M H locs → lv_has ls 5 [(0, .ref r0), (1, .ref r1), (2, .int i2), (3, .int i3), (4, .int i4)] → OK (lp_X7_go_7 G r0 r1 i2 i3 n i4 M) Qo → W p l e rm_X7_go s m args below meth c H locs 0 0 Q (F0 m 7 ls []) := by
  intro n
  induction n with
  | zero => intro i4 M H locs ls w hl hk; exact ok_0 hk
  | succ n ih => intro i4 M H locs ls w hl hk; exact wb_X7_go_7 X r0 r1 i2 i3 Qo hE  (lp_X7_go_7 G r0 r1 i2 i3 n) ih i4 M H locs ls w hl hk
set_option maxHeartbeats 4000000 in
set_option maxRecDepth 100000 in
theorem c_X7_go (l : Launch) (D : va_G) (cy : Cyy) (G : Gg) (M : Mm) (r0 : Nat) (r1 : Nat) (i2 : Int32) (i3 : Int32) {q : Mm} (hm : f_X7_go G M r0 r1 i2 i3 = some q) : CV l yX7_go wz_X7_go rm_X7_go D cy G M [.ref r0, .ref r1, .int i2, .int i3] q := by
  refine Met_of (Qf := fun A => QV D cy G A q) (cc := cX7_go) (nL := 5) (ret := none) (own := RX7) (lv := [(0, .ref r0), (1, .ref r1), (2, .int i2), (3, .int i3)]) (by decide) rfl rfl (Nat.le_of_ble_eq_true rfl) rfl ?_
  intro p e s m args below meth c A ls X hr hlk w hl
  have hx := X.1.1
  have hb := X.1.2.1
  obtain ⟨Qo, hR, hk⟩ : ∃ Qo : Mm → Prop, (∀ x, Qo x → x = q) ∧ OK (f_X7_go G M r0 r1 i2 i3) Qo := ⟨fun x => x = q, fun _ h => h, q, hm, rfl⟩
  unfold f_X7_go at hk
  refine lv_aload_n hx hb dX7_go_0 rfl (lv_at hl 0 rfl) ?_
  obtain ⟨c3, hk⟩ := ok_c hk
  obtain ⟨q1, e2, hk⟩ := ok_b hk
  refine zVv X w (n := 0) (As := []) (rest := []) (ci := 7) (C := RX7) (T := TX7) (N := 3) (c_X7_begin l D cy G M r0 e2) (gzV wm_X7_22 wi_X7_begin ws_X7_begin wn_X7 wc_X7_begin) rfl rfl rfl (by decide +kernel) (by decide) rfl c3 rfl rfl hl.1 (Nat.le_of_ble_eq_true rfl) dX7_go_1 ⟨Nat.zero_le _, Nat.zero_le _⟩ (fun H locs w => ?_)
  refine lv_iconst (v := 0) hx hb dX7_go_4 (by decide) ?_
  refine lv_istore (lv' := [(4, .int (0 : Int32)), (0, .ref r0), (1, .ref r1), (2, .int i2), (3, .int i3)]) hx hb dX7_go_5 hl (by decide) rfl (fun ls hl => ?_)
  refine wl_X7_go_7 X r0 r1 i2 i3 (Qo := _) (fun q9 hk H locs ls w hl => ?_) FU (0 : Int32) q1 _ _ _ w (lv_sub hl [1, 2, 3, 4, 0] rfl) (ok_b hk)
  have hk := hR _ (ok_s hk)
  exact zrv X hr hlk w dX7_go_32 hk
abbrev rm_X7_at : Room := { frames := 0, cells := 0, slots := 0, locals := 0 }
set_option maxHeartbeats 4000000 in
set_option maxRecDepth 100000 in
theorem c_X7_at (l : Launch) (D : va_G) (cy : Cyy) (G : Gg) (M : Mm) (r0 : Nat) (i1 : Int32) (i2 : Int32) {q : Int64} (hm : f_X7_at G M r0 i1 i2 = some q) : CL l yX7_at wz_X7_at rm_X7_at D cy G M [.ref r0, .int i1, .int i2] q M := by
  refine Met_of (Qf := fun A => QL D cy G A q M) (cc := cX7_at) (nL := 3) (ret := (some .long)) (own := RX7) (lv := [(0, .ref r0), (1, .int i1), (2, .int i2)]) (by decide) rfl rfl (Nat.le_of_ble_eq_true rfl) rfl ?_
  intro p e s m args below meth c A ls X hr hlk w hl
  have hx := X.1.1
  have hb := X.1.2.1
  obtain ⟨Qo, hR, hk⟩ : ∃ Qo : Int64 → Prop, (∀ x, Qo x → x = q) ∧ OK (f_X7_at G M r0 i1 i2) Qo := ⟨fun x => x = q, fun _ h => h, q, hm, rfl⟩
  unfold f_X7_at at hk
  refine lv_iload_n hx hb dX7_at_0 rfl (lv_at hl 1 rfl) ?_
  refine lv_if_lt (tgt := 34) hx hb dX7_at_1 (by decide) (fun c1 => ?_) (fun c1 => ?_)
  · have hk := ok_p c1 hk
    refine lv_lconst (v := 0) hx hb dX7_at_34 (by decide) ?_
    have hk := hR _ (ok_s hk)
    exact zrl X hr hlk w dX7_at_35 hk rfl
  · have hk := ok_n c1 hk
    refine lv_iload_n hx hb dX7_at_4 rfl (lv_at hl 1 rfl) ?_
    refine lv_bipush (v := 8) hx hb dX7_at_5 (by decide) ?_
    refine lv_icmp_ge (tgt := 34) hx hb dX7_at_7 (by decide) (fun c2 => ?_) (fun c2 => ?_)
    · have hk := ok_p c2 hk
      refine lv_lconst (v := 0) hx hb dX7_at_34 (by decide) ?_
      have hk := hR _ (ok_s hk)
      exact zrl X hr hlk w dX7_at_35 hk rfl
    · have hk := ok_n c2 hk
      refine lv_iload_n hx hb dX7_at_10 rfl (lv_at hl 2 rfl) ?_
      refine lv_if_lt (tgt := 34) hx hb dX7_at_11 (by decide) (fun c3 => ?_) (fun c3 => ?_)
      · have hk := ok_p c3 hk
        refine lv_lconst (v := 0) hx hb dX7_at_34 (by decide) ?_
        have hk := hR _ (ok_s hk)
        exact zrl X hr hlk w dX7_at_35 hk rfl
      · have hk := ok_n c3 hk
        refine lv_iload_n hx hb dX7_at_14 rfl (lv_at hl 2 rfl) ?_
        refine lv_bipush (v := 8) hx hb dX7_at_15 (by decide) ?_
        refine lv_icmp_ge (tgt := 34) hx hb dX7_at_17 (by decide) (fun c4 => ?_) (fun c4 => ?_)
        · have hk := ok_p c4 hk
          refine lv_lconst (v := 0) hx hb dX7_at_34 (by decide) ?_
          have hk := hR _ (ok_s hk)
          exact zrl X hr hlk w dX7_at_35 hk rfl
        · have hk := ok_n c4 hk
          refine lv_aload_n hx hb dX7_at_20 rfl (lv_at hl 0 rfl) ?_
          obtain ⟨c5, hk⟩ := ok_c hk
          obtain ⟨r6, e7, hk⟩ := ok_b hk
          refine zgr X w 7 0 9 (C := RX7) (T := TX7) (N := 3) rfl ui_X7 (by decide) rfl (tb wf_X7_9) dX7_at_21 c5 e7 ?_
          refine lv_iload_n hx hb dX7_at_24 rfl (lv_at hl 1 rfl) ?_
          refine lv_bipush (v := 8) hx hb dX7_at_25 (by decide) ?_
          refine lv_imul hx hb dX7_at_27 ?_
          refine lv_iload_n hx hb dX7_at_28 rfl (lv_at hl 2 rfl) ?_
          refine lv_iadd hx hb dX7_at_29 ?_
          obtain ⟨c8, hk⟩ := ok_c hk
          obtain ⟨c9, hk⟩ := ok_c hk
          refine zal X w dX7_at_30 c8 c9 ?_
          refine lv_goto (tgt := 35) hx hb dX7_at_31 (by decide) ?_
          have hk := hR _ (ok_s hk)
          exact zrl X hr hlk w dX7_at_35 hk rfl
abbrev rm_X7_gap : Room := { frames := 1, cells := 0, slots := 0, locals := 40 }
set_option maxHeartbeats 4000000 in
set_option maxRecDepth 100000 in
theorem wb_X7_gap_25 {p : Program} {l : Launch} {e : Env} {s : State} {m : MethodId} {args : Array Value} {below : List Frame} {meth : Method} {c : Code} {D : va_G} {cy : Cyy} {A : Nat → Prop} {G : Gg} (X : Cx p m c cX7_gap 7 s args wz_X7_gap RX7 D cy) {Q : State → Prop} (M : Mm) (r0 : Nat) (r1 : Nat) (i2 : Int32) (i3 : Int32) (Qo : Int64 → Prop)  (hE : ∀ (y : Int64), Qo (y) → ∀ (H : Heap) (locs : List Loc) (ls : Array Slot), Wo s D cy A G M H locs → lv_has ls 7 [(4, .long y)] → W p l e rm_X7_gap s m args below meth c H locs 0 0 Q (F0 m 73 ls [])) (rec : Int64 → Int32 → Option (Int64)) (hrec : ∀ (l4 : Int64) (i6 : Int32) (H : Heap) (locs : List Loc) (ls : Array Slot), Wo s D cy A G M H locs → lv_has ls 7 [(0, .ref r0), (1, .ref r1), (2, .int i2), (3, .int i3), (4, .long l4), (6, .int i6)] → OK (rec l4 i6) Qo → W p l e rm_X7_gap s m args below meth c H locs 0 0 Q (F0 m 25 ls [])) (l4 : Int64) (i6 : Int32) (H : Heap) (locs : List Loc) (ls : Array Slot) (w : Wo s D cy A G M H locs) (hl : lv_has ls 7 [(0, .ref r0), (1, .ref r1), (2, .int i2), (3, .int i3), (4, .long l4), (6, .int i6)]) (hk : OK (bd_X7_gap_25 G M r0 r1 i2 i3 rec l4 i6) Qo) : W p l e rm_X7_gap s m args below meth c H locs 0 0 Q (F0 m 25 ls []) := by
    have hx := X.1.1
    have hb := X.1.2.1
    unfold bd_X7_gap_25 at hk
    refine lv_iload hx hb dX7_gap_25 (lv_at hl 5 rfl) ?_
    refine lv_aload_n hx hb dX7_gap_27 rfl (lv_at hl 1 rfl) ?_
    obtain ⟨c8, hk⟩ := ok_c hk
    refine zgNi X w 0 0 29 "BlendBench" (C := RX0) (T := TX0) (N := 7) rfl ui_X0 (by decide) rfl (by decide +kernel) dX7_gap_28 c8 ?_
    refine lv_icmp_ge (tgt := 73) hx hb dX7_gap_31 (by decide) (fun c9 => ?_) (fun c9 => ?_)
    · have hk := ok_p c9 hk
      exact hE l4 (ok_s hk) _ _ _ w (lv_sub hl [4] rfl)
    · have hk := ok_n c9 hk
      refine lv_lload hx hb dX7_gap_34 (lv_at hl 4 rfl) ?_
      refine lv_aload_n hx hb dX7_gap_36 rfl (lv_at hl 0 rfl) ?_
      obtain ⟨c10, hk⟩ := ok_c hk
      obtain ⟨r11, e12, hk⟩ := ok_b hk
      refine zgr X w 7 0 9 (C := RX7) (T := TX7) (N := 3) rfl ui_X7 (by decide) rfl (tb wf_X7_9) dX7_gap_37 c10 e12 ?_
      refine lv_iload_n hx hb dX7_gap_40 rfl (lv_at hl 2 rfl) ?_
      refine lv_bipush (v := 8) hx hb dX7_gap_41 (by decide) ?_
      refine lv_imul hx hb dX7_gap_43 ?_
      refine lv_iload hx hb dX7_gap_44 (lv_at hl 5 rfl) ?_
      refine lv_iadd hx hb dX7_gap_46 ?_
      obtain ⟨c13, hk⟩ := ok_c hk
      obtain ⟨c14, hk⟩ := ok_c hk
      refine zal X w dX7_gap_47 c13 c14 ?_
      refine lv_aload_n hx hb dX7_gap_48 rfl (lv_at hl 0 rfl) ?_
      refine zgr X w 7 0 9 (C := RX7) (T := TX7) (N := 3) rfl ui_X7 (by decide) rfl (tb wf_X7_9) dX7_gap_49 c10 e12 ?_
      refine lv_iload_n hx hb dX7_gap_52 rfl (lv_at hl 3 rfl) ?_
      refine lv_bipush (v := 8) hx hb dX7_gap_53 (by decide) ?_
      refine lv_imul hx hb dX7_gap_55 ?_
      refine lv_iload hx hb dX7_gap_56 (lv_at hl 5 rfl) ?_
      refine lv_iadd hx hb dX7_gap_58 ?_
      obtain ⟨c15, hk⟩ := ok_c hk
      refine zal X w dX7_gap_59 c13 c15 ?_
      refine lv_lsub hx hb dX7_gap_60 ?_
      refine zabs X hl.1 (tb wm_X7_53) (tb wt_abs) (tb wn_Math) (tb wc_abs) (by decide) (Nat.le_of_ble_eq_true rfl) (Nat.zero_le _) (Nat.zero_le _) dX7_gap_61 ?_
      refine lv_ladd hx hb dX7_gap_64 ?_
      refine lv_lstore (lv' := [(4, .long (l4 + (if 0 < ((M.2.1 r11 (Int32.toNatClampNeg ((i2 * (8 : Int32)) + i6))) - (M.2.1 r11 (Int32.toNatClampNeg ((i3 * (8 : Int32)) + i6)))) then ((M.2.1 r11 (Int32.toNatClampNeg ((i2 * (8 : Int32)) + i6))) - (M.2.1 r11 (Int32.toNatClampNeg ((i3 * (8 : Int32)) + i6)))) else -((M.2.1 r11 (Int32.toNatClampNeg ((i2 * (8 : Int32)) + i6))) - (M.2.1 r11 (Int32.toNatClampNeg ((i3 * (8 : Int32)) + i6))))))), (0, .ref r0), (1, .ref r1), (2, .int i2), (3, .int i3), (6, .int i6)]) hx hb dX7_gap_65 hl (by decide) rfl (fun ls hl => ?_)
      refine lv_iinc (v := (i6 + 1)) (lv' := [(6, .int (i6 + 1)), (4, .long (l4 + (if 0 < ((M.2.1 r11 (Int32.toNatClampNeg ((i2 * (8 : Int32)) + i6))) - (M.2.1 r11 (Int32.toNatClampNeg ((i3 * (8 : Int32)) + i6)))) then ((M.2.1 r11 (Int32.toNatClampNeg ((i2 * (8 : Int32)) + i6))) - (M.2.1 r11 (Int32.toNatClampNeg ((i3 * (8 : Int32)) + i6)))) else -((M.2.1 r11 (Int32.toNatClampNeg ((i2 * (8 : Int32)) + i6))) - (M.2.1 r11 (Int32.toNatClampNeg ((i3 * (8 : Int32)) + i6))))))), (0, .ref r0), (1, .ref r1), (2, .int i2), (3, .int i3)]) hx hb dX7_gap_67 hl (k := 5) rfl rfl (by decide) rfl (fun ls hl => ?_)
      refine lv_goto (tgt := 25) hx hb dX7_gap_70 (by decide) ?_
      exact hrec (l4 + (if 0 < ((M.2.1 r11 (Int32.toNatClampNeg ((i2 * (8 : Int32)) + i6))) - (M.2.1 r11 (Int32.toNatClampNeg ((i3 * (8 : Int32)) + i6)))) then ((M.2.1 r11 (Int32.toNatClampNeg ((i2 * (8 : Int32)) + i6))) - (M.2.1 r11 (Int32.toNatClampNeg ((i3 * (8 : Int32)) + i6)))) else -((M.2.1 r11 (Int32.toNatClampNeg ((i2 * (8 : Int32)) + i6))) - (M.2.1 r11 (Int32.toNatClampNeg ((i3 * (8 : Int32)) + i6)))))) (i6 + 1) _ _ _ w (lv_sub hl [2, 3, 4, 5, 1, 0] rfl) hk
theorem wl_X7_gap_25 {p : Program} {l : Launch} {e : Env} {s : State} {m : MethodId} {args : Array Value} {below : List Frame} {meth : Method} {c : Code} {D : va_G} {cy : Cyy} {A : Nat → Prop} {G : Gg} (X : Cx p m c cX7_gap 7 s args wz_X7_gap RX7 D cy) {Q : State → Prop} (M : Mm) (r0 : Nat) (r1 : Nat) (i2 : Int32) (i3 : Int32) (Qo : Int64 → Prop)  (hE : ∀ (y : Int64), Qo (y) → ∀ (H : Heap) (locs : List Loc) (ls : Array Slot), Wo s D cy A G M H locs → lv_has ls 7 [(4, .long y)] → W p l e rm_X7_gap s m args below meth c H locs 0 0 Q (F0 m 73 ls [])) : ∀ (n : Nat) (l4 : Int64) (i6 : Int32) (H : Heap) (locs : List Loc) (ls : Array Slot), Wo s D cy A G M H locs → lv_has ls 7 [(0, .ref r0), (1, .ref r1), (2, .int i2), (3, .int i3), (4, .long l4), (6, .int i6)] → OK (lp_X7_gap_25 G M r0 r1 i2 i3 n l4 i6) Qo → W p l e rm_X7_gap s m args below meth c H locs 0 0 Q (F0 m 25 ls []) := by
  intro n
  induction n with
  | zero => intro l4 i6 H locs ls w hl hk; exact ok_0 hk
  | succ n ih => intro l4 i6 H locs ls w hl hk; exact wb_X7_gap_25 X M r0 r1 i2 i3 Qo hE  (lp_X7_gap_25 G M r0 r1 i2 i3 n) ih l4 i6 H locs ls w hl hk
set_option maxHeartbeats 4000000 in
set_option maxRecDepth 100000 in
theorem c_X7_gap (l : Launch) (D : va_G) (cy : Cyy) (G : Gg) (M : Mm) (r0 : Nat) (r1 : Nat) (i2 : Int32) (i3 : Int32) {q : Int64} (hm : f_X7_gap G M r0 r1 i2 i3 = some q) : CL l yX7_gap wz_X7_gap rm_X7_gap D cy G M [.ref r0, .ref r1, .int i2, .int i3] q M := by
  refine Met_of (Qf := fun A => QL D cy G A q M) (cc := cX7_gap) (nL := 7) (ret := (some .long)) (own := RX7) (lv := [(0, .ref r0), (1, .ref r1), (2, .int i2), (3, .int i3)]) (by decide) rfl rfl (Nat.le_of_ble_eq_true rfl) rfl ?_
  intro p e s m args below meth c A ls X hr hlk w hl
  have hx := X.1.1
  have hb := X.1.2.1
  obtain ⟨Qo, hR, hk⟩ : ∃ Qo : Int64 → Prop, (∀ x, Qo x → x = q) ∧ OK (f_X7_gap G M r0 r1 i2 i3) Qo := ⟨fun x => x = q, fun _ h => h, q, hm, rfl⟩
  unfold f_X7_gap at hk
  refine lv_lconst (v := 0) hx hb dX7_gap_0 (by decide) ?_
  refine lv_lstore (lv' := [(4, .long (0 : Int64)), (0, .ref r0), (1, .ref r1), (2, .int i2), (3, .int i3)]) hx hb dX7_gap_1 hl (by decide) rfl (fun ls hl => ?_)
  refine lv_aload_n hx hb dX7_gap_3 rfl (lv_at hl 2 rfl) ?_
  refine lv_iload_n hx hb dX7_gap_4 rfl (lv_at hl 3 rfl) ?_
  obtain ⟨c3, hk⟩ := ok_c hk
  obtain ⟨q1, e2, hk⟩ := ok_b hk
  refine zVi X w (n := 1) (As := [.int i2]) (rest := []) (ci := 0) (C := RX0) (T := TX0) (N := 7) (c_X0_isState l D cy G M r1 i2 e2) (gzV wm_X7_49 wi_X0_isState ws_X0_isState wn_X0 wc_X0_isState) rfl rfl rfl (by decide +kernel) (by decide) rfl c3 rfl rfl hl.1 (Nat.le_of_ble_eq_true rfl) dX7_gap_5 ⟨Nat.zero_le _, Nat.zero_le _⟩ (fun H locs w => ?_)
  refine lv_if_eq (tgt := 19) hx hb dX7_gap_8 (by decide) (fun c4 => ?_) (fun c4 => ?_)
  · have hk := ok_p c4 hk
    refine lv_lload hx hb dX7_gap_19 (lv_at hl 0 rfl) ?_
    have hk := hR _ (ok_s hk)
    exact zrl X hr hlk w dX7_gap_21 hk rfl
  · have hk := ok_n c4 hk
    refine lv_aload_n hx hb dX7_gap_11 rfl (lv_at hl 2 rfl) ?_
    refine lv_iload_n hx hb dX7_gap_12 rfl (lv_at hl 4 rfl) ?_
    obtain ⟨q5, e6, hk⟩ := ok_b hk
    refine zVi X w (n := 1) (As := [.int i3]) (rest := []) (ci := 0) (C := RX0) (T := TX0) (N := 7) (c_X0_isState l D cy G M r1 i3 e6) (gzV wm_X7_49 wi_X0_isState ws_X0_isState wn_X0 wc_X0_isState) rfl rfl rfl (by decide +kernel) (by decide) rfl c3 rfl rfl hl.1 (Nat.le_of_ble_eq_true rfl) dX7_gap_13 ⟨Nat.zero_le _, Nat.zero_le _⟩ (fun H locs w => ?_)
    refine lv_if_ne (tgt := 22) hx hb dX7_gap_16 (by decide) (fun c7 => ?_) (fun c7 => ?_)
    · have hk := ok_n c7 hk
      refine lv_iconst (v := 0) hx hb dX7_gap_22 (by decide) ?_
      refine lv_istore (lv' := [(6, .int (0 : Int32)), (4, .long (0 : Int64)), (0, .ref r0), (1, .ref r1), (2, .int i2), (3, .int i3)]) hx hb dX7_gap_23 hl (by decide) rfl (fun ls hl => ?_)
      refine wl_X7_gap_25 X M r0 r1 i2 i3 (Qo := _) (fun q16 hk H locs ls w hl => ?_) FU (0 : Int64) (0 : Int32) _ _ _ w (lv_sub hl [2, 3, 4, 5, 1, 0] rfl) (ok_b hk)
      refine lv_lload hx hb dX7_gap_73 (lv_at hl 0 rfl) ?_
      have hk := hR _ (ok_s hk)
      exact zrl X hr hlk w dX7_gap_75 hk rfl
    · have hk := ok_p c7 hk
      refine lv_lload hx hb dX7_gap_19 (lv_at hl 0 rfl) ?_
      have hk := hR _ (ok_s hk)
      exact zrl X hr hlk w dX7_gap_21 hk rfl
