abbrev rm_X9_steps : Room := { frames := 3, cells := 0, slots := 0, locals := 95 }
set_option maxHeartbeats 4000000 in
set_option maxRecDepth 100000 in
theorem wb_X9_steps_67 {p : Program} {l : Launch} {e : Env} {s : State} {m : MethodId} {args : Array Value} {below : List Frame} {meth : Method} {c : Code} {D : va_G} {cy : Cyy} {A : Nat → Prop} {G : Gg} (X : Cx p m c cX9_steps 11 s args wz_X9_steps RX9 D cy) (M : Mm) (r0 : Nat) (i1 : Int32) (i2 : Int32) (i3 : Int32) (i4 : Int32) (i5 : Int32) (Qo : (Int64 × Mm) ⊕ (Unit) → Prop) (hr : meth.sig.returnType = (some .long)) (hlk : meth.locks = false) {x0 : Int64 × Mm} (hR : ∀ x, Qo (.inl x) → x = x0) (hE : ∀ (y : Unit), Qo (.inr y) → ∀ (H : Heap) (locs : List Loc) (ls : Array Slot), Wo s D cy A G M H locs → lv_has ls 11 [(0, .ref r0), (1, .int i1), (2, .int i2), (4, .int i4), (5, .int i5)] → W p l e rm_X9_steps s m args below meth c H locs 0 0 (MQ below (QL D cy G A x0.1 x0.2) args s 0 0 A) (F0 m 113 ls [])) (rec : Int32 → Option ((Int64 × Mm) ⊕ (Unit))) (hrec : ∀ (i6 : Int32) (H : Heap) (locs : List Loc) (ls : Array Slot), Wo s D cy A G M H locs → lv_has ls 11 [(0, .ref r0), (1, .int i1), (2, .int i2), (3, .int i3), (4, .int i4), (5, .int i5), (6, .int i6)] → OK (rec i6) Qo → W p l e rm_X9_steps s m args below meth c H locs 0 0 (MQ below (QL D cy G A x0.1 x0.2) args s 0 0 A) (F0 m 67 ls [])) (i6 : Int32) (H : Heap) (locs : List Loc) (ls : Array Slot) (w : Wo s D cy A G M H locs) (hl : lv_has ls 11 [(0, .ref r0), (1, .int i1), (2, .int i2), (3, .int i3), (4, .int i4), (5, .int i5), (6, .int i6)]) (hk : OK (bd_X9_steps_67 G M r0 i1 i2 i3 i4 i5 rec i6) Qo) : W p l e rm_X9_steps s m args below meth c H locs 0 0 (MQ below (QL D cy G A x0.1 x0.2) args s 0 0 A) (F0 m 67 ls []) := by
    have hx := X.1.1
    have hb := X.1.2.1
    unfold bd_X9_steps_67 at hk
    refine lv_iload hx hb dX9_steps_67 (lv_at hl 6 rfl) ?_
    refine lv_aload_n hx hb dX9_steps_69 rfl (lv_at hl 0 rfl) ?_
    obtain ⟨c20, hk⟩ := ok_c hk
    obtain ⟨r21, e22, hk⟩ := ok_b hk
    refine zgr X w 9 3 13 (C := RX9) (T := TX9) (N := 23) rfl ui_X9 (by decide) rfl (tb wf_X9_13) dX9_steps_70 c20 e22 ?_
    refine lv_iload_n hx hb dX9_steps_73 rfl (lv_at hl 1 rfl) ?_
    obtain ⟨c23, hk⟩ := ok_c hk
    obtain ⟨c24, hk⟩ := ok_c hk
    refine zai X w dX9_steps_74 c23 c24 ?_
    refine lv_icmp_ge (tgt := 113) hx hb dX9_steps_75 (by decide) (fun c25 => ?_) (fun c25 => ?_)
    · have hk := ok_p c25 hk
      exact hE () (ok_s hk) _ _ _ w (lv_sub hl [0, 1, 2, 4, 5] rfl)
    · have hk := ok_n c25 hk
      refine lv_iload hx hb dX9_steps_78 (lv_at hl 5 rfl) ?_
      refine lv_iload hx hb dX9_steps_80 (lv_at hl 6 rfl) ?_
      refine lv_ishr hx hb dX9_steps_82 ?_
      refine lv_iconst (v := 1) hx hb dX9_steps_83 (by decide) ?_
      refine lv_iand hx hb dX9_steps_84 ?_
      refine lv_iconst (v := 1) hx hb dX9_steps_85 (by decide) ?_
      refine lv_icmp_ne (tgt := 107) hx hb dX9_steps_86 (by decide) (fun c26 => ?_) (fun c26 => ?_)
      · have hk := ok_n c26 hk
        refine lv_iinc (v := (i6 + 1)) (lv' := [(6, .int (i6 + 1)), (0, .ref r0), (1, .int i1), (2, .int i2), (3, .int i3), (4, .int i4), (5, .int i5)]) hx hb dX9_steps_107 hl (k := 6) rfl rfl (by decide) rfl (fun ls hl => ?_)
        refine lv_goto (tgt := 67) hx hb dX9_steps_110 (by decide) ?_
        exact hrec (i6 + 1) _ _ _ w (lv_sub hl [1, 2, 3, 4, 5, 6, 0] rfl) hk
      · have hk := ok_p c26 hk
        refine lv_aload_n hx hb dX9_steps_89 rfl (lv_at hl 0 rfl) ?_
        obtain ⟨r27, e28, hk⟩ := ok_b hk
        refine zgr X w 9 6 22 (C := RX9) (T := TX9) (N := 23) rfl ui_X9 (by decide) rfl (tb wf_X9_22) dX9_steps_90 c20 e28 ?_
        refine lv_iload hx hb dX9_steps_93 (lv_at hl 6 rfl) ?_
        obtain ⟨c29, hk⟩ := ok_c hk
        obtain ⟨c30, hk⟩ := ok_c hk
        refine zai X w dX9_steps_95 c29 c30 ?_
        refine lv_iload_n hx hb dX9_steps_96 rfl (lv_at hl 3 rfl) ?_
        refine lv_iand hx hb dX9_steps_97 ?_
        refine lv_if_ne (tgt := 107) hx hb dX9_steps_98 (by decide) (fun c31 => ?_) (fun c31 => ?_)
        · have hk := ok_n c31 hk
          refine lv_iinc (v := (i6 + 1)) (lv' := [(6, .int (i6 + 1)), (0, .ref r0), (1, .int i1), (2, .int i2), (3, .int i3), (4, .int i4), (5, .int i5)]) hx hb dX9_steps_107 hl (k := 6) rfl rfl (by decide) rfl (fun ls hl => ?_)
          refine lv_goto (tgt := 67) hx hb dX9_steps_110 (by decide) ?_
          exact hrec (i6 + 1) _ _ _ w (lv_sub hl [1, 2, 3, 4, 5, 6, 0] rfl) hk
        · have hk := ok_p c31 hk
          refine lv_aload_n hx hb dX9_steps_101 rfl (lv_at hl 0 rfl) ?_
          obtain ⟨q32, e33, hk⟩ := ok_b hk
          refine zVi X w (n := 0) (As := []) (rest := []) (ci := 9) (C := RX9) (T := TX9) (N := 23) (c_X9_refuse l D cy G M r0 e33) (gzV wm_X9_156 wi_X9_refuse ws_X9_refuse wn_X9 wc_X9_refuse) rfl rfl rfl (by decide +kernel) (by decide) rfl c20 rfl rfl hl.1 (Nat.le_of_ble_eq_true rfl) dX9_steps_102 ⟨Nat.zero_le _, Nat.zero_le _⟩ (fun H locs w => ?_)
          refine lv_i2l hx hb dX9_steps_105 rfl ?_
          have hk := hR _ (ok_s hk)
          exact zrl X hr hlk w dX9_steps_106 (pr1 hk) (pr2 hk)
theorem wl_X9_steps_67 {p : Program} {l : Launch} {e : Env} {s : State} {m : MethodId} {args : Array Value} {below : List Frame} {meth : Method} {c : Code} {D : va_G} {cy : Cyy} {A : Nat → Prop} {G : Gg} (X : Cx p m c cX9_steps 11 s args wz_X9_steps RX9 D cy) (M : Mm) (r0 : Nat) (i1 : Int32) (i2 : Int32) (i3 : Int32) (i4 : Int32) (i5 : Int32) (Qo : (Int64 × Mm) ⊕ (Unit) → Prop) (hr : meth.sig.returnType = (some .long)) (hlk : meth.locks = false) {x0 : Int64 × Mm} (hR : ∀ x, Qo (.inl x) → x = x0) (hE : ∀ (y : Unit), Qo (.inr y) → ∀ (H : Heap) (locs : List Loc) (ls : Array Slot), Wo s D cy A G M H locs → lv_has ls 11 [(0, .ref r0), (1, .int i1), (2, .int i2), (4, .int i4), (5, .int i5)] → W p l e rm_X9_steps s m args below meth c H locs 0 0 (MQ below (QL D cy G A x0.1 x0.2) args s 0 0 A) (F0 m 113 ls [])) : ∀ (n : Nat) (i6 : Int32) (H : Heap) (locs : List Loc) (ls : Array Slot), Wo s D cy A G M H locs → lv_has ls 11 [(0, .ref r0), (1, .int i1), (2, .int i2), (3, .int i3), (4, .int i4), (5, .int i5), (6, .int i6)] → OK (lp_X9_steps_67 G M r0 i1 i2 i3 i4 i5 n i6) Qo → W p l e rm_X9_steps s m args below meth c H locs 0 0 (MQ below (QL D cy G A x0.1 x0.2) args s 0 0 A) (F0 m 67 ls []) := by
  intro n
  induction n with
  | zero => intro i6 H locs ls w hl hk; exact ok_0 hk
  | succ n ih => intro i6 H locs ls w hl hk; exact wb_X9_steps_67 X M r0 i1 i2 i3 i4 i5 Qo hr hlk hR hE  (lp_X9_steps_67 G M r0 i1 i2 i3 i4 i5 n) ih i6 H locs ls w hl hk
set_option maxHeartbeats 4000000 in
set_option maxRecDepth 100000 in
theorem wb_X9_steps_137 {p : Program} {l : Launch} {e : Env} {s : State} {m : MethodId} {args : Array Value} {below : List Frame} {meth : Method} {c : Code} {D : va_G} {cy : Cyy} {A : Nat → Prop} {G : Gg} (X : Cx p m c cX9_steps 11 s args wz_X9_steps RX9 D cy) {Q : State → Prop} (r0 : Nat) (i1 : Int32) (i2 : Int32) (i4 : Int32) (i6 : Int32) (i7 : Int32) (Qo : Int32 × Mm → Prop)  (hE : ∀ (y : Int32 × Mm), Qo (y) → ∀ (H : Heap) (locs : List Loc) (ls : Array Slot), Wo s D cy A G y.2 H locs → lv_has ls 11 [(0, .ref r0), (4, .int i4), (7, .int i7), (8, .int y.1)] → W p l e rm_X9_steps s m args below meth c H locs 0 0 Q (F0 m 179 ls [])) (rec : Int32 → Int32 → Mm → Option (Int32 × Mm)) (hrec : ∀ (i8 : Int32) (i9 : Int32) (M : Mm) (H : Heap) (locs : List Loc) (ls : Array Slot), Wo s D cy A G M H locs → lv_has ls 11 [(0, .ref r0), (1, .int i1), (2, .int i2), (4, .int i4), (6, .int i6), (7, .int i7), (8, .int i8), (9, .int i9)] → OK (rec i8 i9 M) Qo → W p l e rm_X9_steps s m args below meth c H locs 0 0 Q (F0 m 137 ls [])) (i8 : Int32) (i9 : Int32) (M : Mm) (H : Heap) (locs : List Loc) (ls : Array Slot) (w : Wo s D cy A G M H locs) (hl : lv_has ls 11 [(0, .ref r0), (1, .int i1), (2, .int i2), (4, .int i4), (6, .int i6), (7, .int i7), (8, .int i8), (9, .int i9)]) (hk : OK (bd_X9_steps_137 G r0 i1 i2 i4 i6 i7 rec i8 i9 M) Qo) : W p l e rm_X9_steps s m args below meth c H locs 0 0 Q (F0 m 137 ls []) := by
    have hx := X.1.1
    have hb := X.1.2.1
    unfold bd_X9_steps_137 at hk
    refine lv_iload hx hb dX9_steps_137 (lv_at hl 7 rfl) ?_
    refine lv_iload hx hb dX9_steps_139 (lv_at hl 4 rfl) ?_
    refine lv_icmp_ge (tgt := 179) hx hb dX9_steps_141 (by decide) (fun c41 => ?_) (fun c41 => ?_)
    · have hk := ok_p c41 hk
      exact hE (i8, M) (ok_s hk) _ _ _ w (lv_sub hl [0, 3, 5, 6] rfl)
    · have hk := ok_n c41 hk
      refine lv_aload_n hx hb dX9_steps_144 rfl (lv_at hl 0 rfl) ?_
      obtain ⟨c42, hk⟩ := ok_c hk
      obtain ⟨r43, e44, hk⟩ := ok_b hk
      refine zgr X w 9 10 32 (C := RX9) (T := TX9) (N := 23) rfl ui_X9 (by decide) rfl (tb wf_X9_32) dX9_steps_145 c42 e44 ?_
      refine lv_iload hx hb dX9_steps_148 (lv_at hl 7 rfl) ?_
      refine lv_aload_n hx hb dX9_steps_150 rfl (lv_at hl 0 rfl) ?_
      obtain ⟨r45, e46, hk⟩ := ok_b hk
      refine zgr X w 9 4 16 (C := RX9) (T := TX9) (N := 23) rfl ui_X9 (by decide) rfl (tb wf_X9_16) dX9_steps_151 c42 e46 ?_
      refine lv_iload_n hx hb dX9_steps_154 rfl (lv_at hl 1 rfl) ?_
      obtain ⟨c47, hk⟩ := ok_c hk
      obtain ⟨c48, hk⟩ := ok_c hk
      refine zai X w dX9_steps_155 c47 c48 ?_
      refine lv_i2l hx hb dX9_steps_156 rfl ?_
      obtain ⟨c49, hk⟩ := ok_c hk
      obtain ⟨c50, hk⟩ := ok_c hk
      refine zsl X w dX9_steps_157 c49 c50 (fun H locs w => ?_)
      refine lv_aload_n hx hb dX9_steps_158 rfl (lv_at hl 0 rfl) ?_
      obtain ⟨r51, e52, hk⟩ := ok_b hk
      refine zgr X w 9 13 41 (C := RX9) (T := TX9) (N := 23) rfl ui_X9 (by decide) rfl (tb wf_X9_41) dX9_steps_159 c42 e52 ?_
      refine lv_iload hx hb dX9_steps_162 (lv_at hl 7 rfl) ?_
      obtain ⟨c53, hk⟩ := ok_c hk
      obtain ⟨c54, hk⟩ := ok_c hk
      refine zai X w dX9_steps_164 c53 c54 ?_
      refine lv_iload_n hx hb dX9_steps_165 rfl (lv_at hl 2 rfl) ?_
      refine lv_icmp_ne (tgt := 173) hx hb dX9_steps_166 (by decide) (fun c55 => ?_) (fun c55 => ?_)
      · have hk := ok_n c55 hk
        refine lv_iinc (v := (i9 + 1)) (lv' := [(9, .int (i9 + 1)), (0, .ref r0), (1, .int i1), (2, .int i2), (4, .int i4), (6, .int i6), (7, .int i7), (8, .int i8)]) hx hb dX9_steps_173 hl (k := 7) rfl rfl (by decide) rfl (fun ls hl => ?_)
        refine lv_goto (tgt := 137) hx hb dX9_steps_176 (by decide) ?_
        exact hrec i8 (i9 + 1) (mwJ M r43 (Int32.toNatClampNeg i9) (Int32.toInt64 (M.1 r45 (Int32.toNatClampNeg i1)))) _ _ _ w (lv_sub hl [1, 2, 3, 4, 5, 6, 7, 0] rfl) hk
      · have hk := ok_p c55 hk
        refine lv_iload hx hb dX9_steps_169 (lv_at hl 7 rfl) ?_
        refine lv_istore (lv' := [(8, .int i9), (0, .ref r0), (1, .int i1), (2, .int i2), (4, .int i4), (6, .int i6), (7, .int i7), (9, .int i9)]) hx hb dX9_steps_171 hl (by decide) rfl (fun ls hl => ?_)
        refine lv_iinc (v := (i9 + 1)) (lv' := [(9, .int (i9 + 1)), (8, .int i9), (0, .ref r0), (1, .int i1), (2, .int i2), (4, .int i4), (6, .int i6), (7, .int i7)]) hx hb dX9_steps_173 hl (k := 7) rfl rfl (by decide) rfl (fun ls hl => ?_)
        refine lv_goto (tgt := 137) hx hb dX9_steps_176 (by decide) ?_
        exact hrec i9 (i9 + 1) (mwJ M r43 (Int32.toNatClampNeg i9) (Int32.toInt64 (M.1 r45 (Int32.toNatClampNeg i1)))) _ _ _ w (lv_sub hl [2, 3, 4, 5, 6, 7, 1, 0] rfl) hk
theorem wl_X9_steps_137 {p : Program} {l : Launch} {e : Env} {s : State} {m : MethodId} {args : Array Value} {below : List Frame} {meth : Method} {c : Code} {D : va_G} {cy : Cyy} {A : Nat → Prop} {G : Gg} (X : Cx p m c cX9_steps 11 s args wz_X9_steps RX9 D cy) {Q : State → Prop} (r0 : Nat) (i1 : Int32) (i2 : Int32) (i4 : Int32) (i6 : Int32) (i7 : Int32) (Qo : Int32 × Mm → Prop)  (hE : ∀ (y : Int32 × Mm), Qo (y) → ∀ (H : Heap) (locs : List Loc) (ls : Array Slot), Wo s D cy A G y.2 H locs → lv_has ls 11 [(0, .ref r0), (4, .int i4), (7, .int i7), (8, .int y.1)] → W p l e rm_X9_steps s m args below meth c H locs 0 0 Q (F0 m 179 ls [])) : ∀ (n : Nat) (i8 : Int32) (i9 : Int32) (M : Mm) (H : Heap) (locs : List Loc) (ls : Array Slot), Wo s D cy A G M H locs → lv_has ls 11 [(0, .ref r0), (1, .int i1), (2, .int i2), (4, .int i4), (6, .int i6), (7, .int i7), (8, .int i8), (9, .int i9)] → OK (lp_X9_steps_137 G r0 i1 i2 i4 i6 i7 n i8 i9 M) Qo → W p l e rm_X9_steps s m args below meth c H locs 0 0 Q (F0 m 137 ls []) := by
  intro n
  induction n with
  | zero => intro i8 i9 M H locs ls w hl hk; exact ok_0 hk
  | succ n ih => intro i8 i9 M H locs ls w hl hk; exact wb_X9_steps_137 X r0 i1 i2 i4 i6 i7 Qo hE  (lp_X9_steps_137 G r0 i1 i2 i4 i6 i7 n) ih i8 i9 M H locs ls w hl hk
set_option maxHeartbeats 4000000 in
set_option maxRecDepth 100000 in
theorem c_X9_steps (l : Launch) (D : va_G) (cy : Cyy) (G : Gg) (M : Mm) (r0 : Nat) (i1 : Int32) (i2 : Int32) (i3 : Int32) (i4 : Int32) {q : Int64 × Mm} (hm : f_X9_steps G M r0 i1 i2 i3 i4 = some q) : CL l yX9_steps wz_X9_steps rm_X9_steps D cy G M [.ref r0, .int i1, .int i2, .int i3, .int i4] q.1 q.2 := by
  refine Met_of (Qf := fun A => QL D cy G A q.1 q.2) (cc := cX9_steps) (nL := 11) (ret := (some .long)) (own := RX9) (lv := [(0, .ref r0), (1, .int i1), (2, .int i2), (3, .int i3), (4, .int i4)]) (by decide) rfl rfl (Nat.le_of_ble_eq_true rfl) rfl ?_
  intro p e s m args below meth c A ls X hr hlk w hl
  have hx := X.1.1
  have hb := X.1.2.1
  obtain ⟨Qo, hR, hk⟩ : ∃ Qo : Int64 × Mm → Prop, (∀ x, Qo x → x = q) ∧ OK (f_X9_steps G M r0 i1 i2 i3 i4) Qo := ⟨fun x => x = q, fun _ h => h, q, hm, rfl⟩
  unfold f_X9_steps at hk
  refine lv_aload_n hx hb dX9_steps_0 rfl (lv_at hl 0 rfl) ?_
  refine lv_iload_n hx hb dX9_steps_1 rfl (lv_at hl 1 rfl) ?_
  refine lv_iload_n hx hb dX9_steps_2 rfl (lv_at hl 2 rfl) ?_
  obtain ⟨c3, hk⟩ := ok_c hk
  obtain ⟨q1, e2, hk⟩ := ok_b hk
  refine zVi X w (n := 2) (As := [.int i1, .int i2]) (rest := []) (ci := 9) (C := RX9) (T := TX9) (N := 23) (c_X9_isState l D cy G M r0 i1 i2 e2) (gzV wm_X9_171 wi_X9_isState ws_X9_isState wn_X9 wc_X9_isState) rfl rfl rfl (by decide +kernel) (by decide) rfl c3 rfl rfl hl.1 (Nat.le_of_ble_eq_true rfl) dX9_steps_3 ⟨Nat.zero_le _, Nat.zero_le _⟩ (fun H locs w => ?_)
  refine lv_if_eq (tgt := 26) hx hb dX9_steps_6 (by decide) (fun c4 => ?_) (fun c4 => ?_)
  · have hk := ok_p c4 hk
    refine lv_aload_n hx hb dX9_steps_26 rfl (lv_at hl 0 rfl) ?_
    obtain ⟨q5, e6, hk⟩ := ok_b hk
    refine zVi X w (n := 0) (As := []) (rest := []) (ci := 9) (C := RX9) (T := TX9) (N := 23) (c_X9_refuse l D cy G M r0 e6) (gzV wm_X9_156 wi_X9_refuse ws_X9_refuse wn_X9 wc_X9_refuse) rfl rfl rfl (by decide +kernel) (by decide) rfl c3 rfl rfl hl.1 (Nat.le_of_ble_eq_true rfl) dX9_steps_27 ⟨Nat.zero_le _, Nat.zero_le _⟩ (fun H locs w => ?_)
    refine lv_i2l hx hb dX9_steps_30 rfl ?_
    have hk := hR _ (ok_s hk)
    exact zrl X hr hlk w dX9_steps_31 (pr1 hk) (pr2 hk)
  · have hk := ok_n c4 hk
    refine lv_aload_n hx hb dX9_steps_9 rfl (lv_at hl 0 rfl) ?_
    refine lv_iload_n hx hb dX9_steps_10 rfl (lv_at hl 1 rfl) ?_
    refine lv_iload_n hx hb dX9_steps_11 rfl (lv_at hl 3 rfl) ?_
    obtain ⟨q7, e8, hk⟩ := ok_b hk
    refine zVi X w (n := 2) (As := [.int i1, .int i3]) (rest := []) (ci := 9) (C := RX9) (T := TX9) (N := 23) (c_X9_isSet l D cy G M r0 i1 i3 e8) (gzV wm_X9_209 wi_X9_isSet ws_X9_isSet wn_X9 wc_X9_isSet) rfl rfl rfl (by decide +kernel) (by decide) rfl c3 rfl rfl hl.1 (Nat.le_of_ble_eq_true rfl) dX9_steps_12 ⟨Nat.zero_le _, Nat.zero_le _⟩ (fun H locs w => ?_)
    refine lv_if_eq (tgt := 26) hx hb dX9_steps_15 (by decide) (fun c9 => ?_) (fun c9 => ?_)
    · have hk := ok_p c9 hk
      refine lv_aload_n hx hb dX9_steps_26 rfl (lv_at hl 0 rfl) ?_
      obtain ⟨q10, e11, hk⟩ := ok_b hk
      refine zVi X w (n := 0) (As := []) (rest := []) (ci := 9) (C := RX9) (T := TX9) (N := 23) (c_X9_refuse l D cy G M r0 e11) (gzV wm_X9_156 wi_X9_refuse ws_X9_refuse wn_X9 wc_X9_refuse) rfl rfl rfl (by decide +kernel) (by decide) rfl c3 rfl rfl hl.1 (Nat.le_of_ble_eq_true rfl) dX9_steps_27 ⟨Nat.zero_le _, Nat.zero_le _⟩ (fun H locs w => ?_)
      refine lv_i2l hx hb dX9_steps_30 rfl ?_
      have hk := hR _ (ok_s hk)
      exact zrl X hr hlk w dX9_steps_31 (pr1 hk) (pr2 hk)
    · have hk := ok_n c9 hk
      refine lv_iload hx hb dX9_steps_18 (lv_at hl 4 rfl) ?_
      obtain ⟨q12, e13, hk⟩ := ok_b hk
      refine zSi X w (n := 1) (As := [.int i4]) (rest := []) (c_X9_isWhat l D cy G M i4 e13) (gzS wm_X9_184 wt_X9_isWhat wn_X9 wc_X9_isWhat) rfl rfl rfl (by decide +kernel) (by decide) rfl rfl hl.1 (Nat.le_of_ble_eq_true rfl) dX9_steps_20 ⟨Nat.zero_le _, Nat.zero_le _⟩ (fun H locs w => ?_)
      refine lv_if_ne (tgt := 32) hx hb dX9_steps_23 (by decide) (fun c14 => ?_) (fun c14 => ?_)
      · have hk := ok_n c14 hk
        refine lv_iload_n hx hb dX9_steps_32 rfl (lv_at hl 3 rfl) ?_
        refine lv_iload_n hx hb dX9_steps_33 rfl (lv_at hl 2 rfl) ?_
        refine lv_ishr hx hb dX9_steps_34 ?_
        refine lv_iconst (v := 1) hx hb dX9_steps_35 (by decide) ?_
        refine lv_iand hx hb dX9_steps_36 ?_
        refine lv_iconst (v := 1) hx hb dX9_steps_37 (by decide) ?_
        refine lv_icmp_ne (tgt := 50) hx hb dX9_steps_38 (by decide) (fun c15 => ?_) (fun c15 => ?_)
        · have hk := ok_n c15 hk
          refine lv_aload_n hx hb dX9_steps_50 rfl (lv_at hl 0 rfl) ?_
          refine lv_iload_n hx hb dX9_steps_51 rfl (lv_at hl 1 rfl) ?_
          obtain ⟨q16, e17, hk⟩ := ok_b hk
          refine zVv X w (n := 1) (As := [.int i1]) (rest := []) (ci := 9) (C := RX9) (T := TX9) (N := 23) (c_X9_reach l D cy G M r0 i1 e17) (gzV wm_X9_137 wi_X9_reach ws_X9_reach wn_X9 wc_X9_reach) rfl rfl rfl (by decide +kernel) (by decide) rfl c3 rfl rfl hl.1 (Nat.le_of_ble_eq_true rfl) dX9_steps_52 ⟨Nat.zero_le _, Nat.zero_le _⟩ (fun H locs w => ?_)
          refine lv_aload_n hx hb dX9_steps_55 rfl (lv_at hl 0 rfl) ?_
          refine lv_iload_n hx hb dX9_steps_56 rfl (lv_at hl 1 rfl) ?_
          refine lv_iload_n hx hb dX9_steps_57 rfl (lv_at hl 2 rfl) ?_
          refine lv_iload_n hx hb dX9_steps_58 rfl (lv_at hl 3 rfl) ?_
          obtain ⟨q18, e19, hk⟩ := ok_b hk
          refine zVi X w (n := 3) (As := [.int i1, .int i2, .int i3]) (rest := []) (ci := 9) (C := RX9) (T := TX9) (N := 23) (c_X9_roams l D cy G q16 r0 i1 i2 i3 e19) (gzV wm_X9_212 wi_X9_roams ws_X9_roams wn_X9 wc_X9_roams) rfl rfl rfl (by decide +kernel) (by decide) rfl c3 rfl rfl hl.1 (Nat.le_of_ble_eq_true rfl) dX9_steps_59 ⟨Nat.zero_le _, Nat.zero_le _⟩ (fun H locs w => ?_)
          refine lv_istore (lv' := [(5, .int q18), (0, .ref r0), (1, .int i1), (2, .int i2), (3, .int i3), (4, .int i4)]) hx hb dX9_steps_62 hl (by decide) rfl (fun ls hl => ?_)
          refine lv_iconst (v := 0) hx hb dX9_steps_64 (by decide) ?_
          refine lv_istore (lv' := [(6, .int (0 : Int32)), (5, .int q18), (0, .ref r0), (1, .int i1), (2, .int i2), (3, .int i3), (4, .int i4)]) hx hb dX9_steps_65 hl (by decide) rfl (fun ls hl => ?_)
          refine wl_X9_steps_67 X q16 r0 i1 i2 i3 i4 q18 (Qo := _) hr hlk (fun x h => hR x (ok_s (show OK (some x) Qo from h))) (fun y35 hk H locs ls w hl => ?_) FU (0 : Int32) _ _ _ w (lv_sub hl [2, 3, 4, 5, 6, 1, 0] rfl) (ok_b hk)
          have hk := ok_r hk
          refine lv_aload_n hx hb dX9_steps_113 rfl (lv_at hl 0 rfl) ?_
          refine lv_iload hx hb dX9_steps_114 (lv_at hl 4 rfl) ?_
          obtain ⟨q37, e38, hk⟩ := ok_b hk
          refine zVi X w (n := 1) (As := [.int q18]) (rest := []) (ci := 9) (C := RX9) (T := TX9) (N := 23) (c_X9_list l D cy G q16 r0 q18 e38) (gzV wm_X9_126 wi_X9_list ws_X9_list wn_X9 wc_X9_list) rfl rfl rfl (by decide +kernel) (by decide) rfl c3 rfl rfl hl.1 (Nat.le_of_ble_eq_true rfl) dX9_steps_116 ⟨Nat.zero_le _, Nat.zero_le _⟩ (fun H locs w => ?_)
          refine lv_istore (lv' := [(6, .int q37.1), (0, .ref r0), (1, .int i1), (2, .int i2), (4, .int i4), (5, .int q18)]) hx hb dX9_steps_119 hl (by decide) rfl (fun ls hl => ?_)
          refine lv_aload_n hx hb dX9_steps_121 rfl (lv_at hl 1 rfl) ?_
          refine lv_iload_n hx hb dX9_steps_122 rfl (lv_at hl 2 rfl) ?_
          refine lv_iload hx hb dX9_steps_123 (lv_at hl 0 rfl) ?_
          refine lv_iconst (v := (-1)) hx hb dX9_steps_125 (by decide) ?_
          obtain ⟨q39, e40, hk⟩ := ok_b hk
          refine zVi X w (n := 3) (As := [.int i1, .int q37.1, .int (-1)]) (rest := []) (ci := 9) (C := RX9) (T := TX9) (N := 23) (c_X9_lay l D cy G q37.2 r0 i1 q37.1 (-1) e40) (gzV wm_X9_130 wi_X9_lay ws_X9_lay wn_X9 wc_X9_lay) rfl rfl rfl (by decide +kernel) (by decide) rfl c3 rfl rfl hl.1 (Nat.le_of_ble_eq_true rfl) dX9_steps_126 ⟨Nat.zero_le _, Nat.zero_le _⟩ (fun H locs w => ?_)
          refine lv_istore (lv' := [(7, .int q39.1), (6, .int q37.1), (0, .ref r0), (1, .int i1), (2, .int i2), (4, .int i4), (5, .int q18)]) hx hb dX9_steps_129 hl (by decide) rfl (fun ls hl => ?_)
          refine lv_iconst (v := 0) hx hb dX9_steps_131 (by decide) ?_
          refine lv_istore (lv' := [(8, .int (0 : Int32)), (7, .int q39.1), (6, .int q37.1), (0, .ref r0), (1, .int i1), (2, .int i2), (4, .int i4), (5, .int q18)]) hx hb dX9_steps_132 hl (by decide) rfl (fun ls hl => ?_)
          refine lv_iconst (v := 0) hx hb dX9_steps_134 (by decide) ?_
          refine lv_istore (lv' := [(9, .int (0 : Int32)), (8, .int (0 : Int32)), (7, .int q39.1), (6, .int q37.1), (0, .ref r0), (1, .int i1), (2, .int i2), (4, .int i4), (5, .int q18)]) hx hb dX9_steps_135 hl (by decide) rfl (fun ls hl => ?_)
          refine wl_X9_steps_137 X r0 i1 i2 i4 q37.1 q39.1 (Qo := _) (fun q56 hk H locs ls w hl => ?_) FU (0 : Int32) (0 : Int32) q39.2 _ _ _ w (lv_sub hl [4, 5, 6, 7, 3, 2, 1, 0] rfl) (ok_b hk)
          refine lv_aload_n hx hb dX9_steps_179 rfl (lv_at hl 0 rfl) ?_
          refine lv_iload hx hb dX9_steps_180 (lv_at hl 2 rfl) ?_
          refine lv_iconst (v := (-1)) hx hb dX9_steps_182 (by decide) ?_
          obtain ⟨q57, e58, hk⟩ := ok_b hk
          refine zVl X w (n := 2) (As := [.int q39.1, .int (-1)]) (rest := []) (ci := 9) (C := RX9) (T := TX9) (N := 23) (c_X9_determinant l D cy G q56.2 r0 q39.1 (-1) e58) (gzV wm_X9_133 wi_X9_determinant ws_X9_determinant wn_X9 wc_X9_determinant) rfl rfl rfl (by decide +kernel) (by decide) rfl c3 rfl rfl hl.1 (Nat.le_of_ble_eq_true rfl) dX9_steps_183 ⟨Nat.zero_le _, Nat.zero_le _⟩ (fun H locs w => ?_)
          refine lv_lstore (lv' := [(9, .long q57.1), (0, .ref r0), (4, .int i4), (7, .int q39.1), (8, .int q56.1)]) hx hb dX9_steps_186 hl (by decide) rfl (fun ls hl => ?_)
          refine lv_aload_n hx hb dX9_steps_188 rfl (lv_at hl 1 rfl) ?_
          refine lv_aload_n hx hb dX9_steps_189 rfl (lv_at hl 1 rfl) ?_
          refine lv_iload hx hb dX9_steps_190 (lv_at hl 3 rfl) ?_
          refine lv_iload hx hb dX9_steps_192 (lv_at hl 4 rfl) ?_
          obtain ⟨q59, e60, hk⟩ := ok_b hk
          refine zVl X w (n := 2) (As := [.int q39.1, .int q56.1]) (rest := [.ref r0]) (ci := 9) (C := RX9) (T := TX9) (N := 23) (c_X9_determinant l D cy G q57.2 r0 q39.1 q56.1 e60) (gzV wm_X9_133 wi_X9_determinant ws_X9_determinant wn_X9 wc_X9_determinant) rfl rfl rfl (by decide +kernel) (by decide) rfl c3 rfl rfl hl.1 (Nat.le_of_ble_eq_true rfl) dX9_steps_194 ⟨Nat.zero_le _, Nat.zero_le _⟩ (fun H locs w => ?_)
          refine lv_lload hx hb dX9_steps_197 (lv_at hl 0 rfl) ?_
          refine lv_iload hx hb dX9_steps_199 (lv_at hl 2 rfl) ?_
          obtain ⟨q61, e62, hk⟩ := ok_b hk
          refine zVl X w (n := 3) (As := [.long q59.1, .long q57.1, .int i4]) (rest := []) (ci := 9) (C := RX9) (T := TX9) (N := 23) (c_X9_told l D cy G q59.2 r0 q59.1 q57.1 i4 e62) (gzV wm_X9_190 wi_X9_told ws_X9_told wn_X9 wc_X9_told) rfl rfl rfl (by decide +kernel) (by decide) rfl c3 rfl rfl hl.1 (Nat.le_of_ble_eq_true rfl) dX9_steps_201 ⟨Nat.zero_le _, Nat.zero_le _⟩ (fun H locs w => ?_)
          have hk := hR _ (ok_s hk)
          exact zrl X hr hlk w dX9_steps_204 (pr1 hk) (pr2 hk)
        · have hk := ok_p c15 hk
          refine lv_aload_n hx hb dX9_steps_41 rfl (lv_at hl 0 rfl) ?_
          refine lv_lconst (v := 0) hx hb dX9_steps_42 (by decide) ?_
          refine lv_lconst (v := 1) hx hb dX9_steps_43 (by decide) ?_
          refine lv_iload hx hb dX9_steps_44 (lv_at hl 4 rfl) ?_
          obtain ⟨q63, e64, hk⟩ := ok_b hk
          refine zVl X w (n := 3) (As := [.long (0 : Int64), .long (1 : Int64), .int i4]) (rest := []) (ci := 9) (C := RX9) (T := TX9) (N := 23) (c_X9_told l D cy G M r0 (0 : Int64) (1 : Int64) i4 e64) (gzV wm_X9_190 wi_X9_told ws_X9_told wn_X9 wc_X9_told) rfl rfl rfl (by decide +kernel) (by decide) rfl c3 rfl rfl hl.1 (Nat.le_of_ble_eq_true rfl) dX9_steps_46 ⟨Nat.zero_le _, Nat.zero_le _⟩ (fun H locs w => ?_)
          have hk := hR _ (ok_s hk)
          exact zrl X hr hlk w dX9_steps_49 (pr1 hk) (pr2 hk)
      · have hk := ok_p c14 hk
        refine lv_aload_n hx hb dX9_steps_26 rfl (lv_at hl 0 rfl) ?_
        obtain ⟨q65, e66, hk⟩ := ok_b hk
        refine zVi X w (n := 0) (As := []) (rest := []) (ci := 9) (C := RX9) (T := TX9) (N := 23) (c_X9_refuse l D cy G M r0 e66) (gzV wm_X9_156 wi_X9_refuse ws_X9_refuse wn_X9 wc_X9_refuse) rfl rfl rfl (by decide +kernel) (by decide) rfl c3 rfl rfl hl.1 (Nat.le_of_ble_eq_true rfl) dX9_steps_27 ⟨Nat.zero_le _, Nat.zero_le _⟩ (fun H locs w => ?_)
        refine lv_i2l hx hb dX9_steps_30 rfl ?_
        have hk := hR _ (ok_s hk)
        exact zrl X hr hlk w dX9_steps_31 (pr1 hk) (pr2 hk)
abbrev rm_X9_comes : Room := { frames := 1, cells := 0, slots := 0, locals := 23 }
set_option maxHeartbeats 4000000 in
set_option maxRecDepth 100000 in
theorem wb_X9_comes_17 {p : Program} {l : Launch} {e : Env} {s : State} {m : MethodId} {args : Array Value} {below : List Frame} {meth : Method} {c : Code} {D : va_G} {cy : Cyy} {A : Nat → Prop} {G : Gg} (X : Cx p m c cX9_comes 6 s args wz_X9_comes RX9 D cy) (M : Mm) (r0 : Nat) (i1 : Int32) (i2 : Int32) (i3 : Int32) (i4 : Int32) (Qo : (Int32) ⊕ (Unit) → Prop) (hr : meth.sig.returnType = (some .boolean)) (hlk : meth.locks = false) {x0 : Int32} (hR : ∀ x, Qo (.inl x) → x = x0) (hE : ∀ (y : Unit), Qo (.inr y) → ∀ (H : Heap) (locs : List Loc) (ls : Array Slot), Wo s D cy A G M H locs → lv_has ls 6 [(0, .ref r0), (1, .int i1), (2, .int i2), (3, .int i3), (4, .int i4)] → W p l e rm_X9_comes s m args below meth c H locs 0 0 (MQ below (QI D cy G A x0 M) args s 0 0 A) (F0 m 68 ls [])) (rec : Int32 → Option ((Int32) ⊕ (Unit))) (hrec : ∀ (i5 : Int32) (H : Heap) (locs : List Loc) (ls : Array Slot), Wo s D cy A G M H locs → lv_has ls 6 [(0, .ref r0), (1, .int i1), (2, .int i2), (3, .int i3), (4, .int i4), (5, .int i5)] → OK (rec i5) Qo → W p l e rm_X9_comes s m args below meth c H locs 0 0 (MQ below (QI D cy G A x0 M) args s 0 0 A) (F0 m 17 ls [])) (i5 : Int32) (H : Heap) (locs : List Loc) (ls : Array Slot) (w : Wo s D cy A G M H locs) (hl : lv_has ls 6 [(0, .ref r0), (1, .int i1), (2, .int i2), (3, .int i3), (4, .int i4), (5, .int i5)]) (hk : OK (bd_X9_comes_17 G M r0 i1 i2 i3 i4 rec i5) Qo) : W p l e rm_X9_comes s m args below meth c H locs 0 0 (MQ below (QI D cy G A x0 M) args s 0 0 A) (F0 m 17 ls []) := by
    have hx := X.1.1
    have hb := X.1.2.1
    unfold bd_X9_comes_17 at hk
    refine lv_iload hx hb dX9_comes_17 (lv_at hl 5 rfl) ?_
    refine lv_aload_n hx hb dX9_comes_19 rfl (lv_at hl 0 rfl) ?_
    obtain ⟨c7, hk⟩ := ok_c hk
    obtain ⟨r8, e9, hk⟩ := ok_b hk
    refine zgr X w 9 3 13 (C := RX9) (T := TX9) (N := 23) rfl ui_X9 (by decide) rfl (tb wf_X9_13) dX9_comes_20 c7 e9 ?_
    refine lv_iload_n hx hb dX9_comes_23 rfl (lv_at hl 1 rfl) ?_
    obtain ⟨c10, hk⟩ := ok_c hk
    obtain ⟨c11, hk⟩ := ok_c hk
    refine zai X w dX9_comes_24 c10 c11 ?_
    refine lv_icmp_ge (tgt := 68) hx hb dX9_comes_25 (by decide) (fun c12 => ?_) (fun c12 => ?_)
    · have hk := ok_p c12 hk
      exact hE () (ok_s hk) _ _ _ w (lv_sub hl [0, 1, 2, 3, 4] rfl)
    · have hk := ok_n c12 hk
      refine lv_iload_n hx hb dX9_comes_28 rfl (lv_at hl 2 rfl) ?_
      refine lv_iload hx hb dX9_comes_29 (lv_at hl 4 rfl) ?_
      refine lv_ishr hx hb dX9_comes_31 ?_
      refine lv_iconst (v := 1) hx hb dX9_comes_32 (by decide) ?_
      refine lv_iand hx hb dX9_comes_33 ?_
      refine lv_iconst (v := 1) hx hb dX9_comes_34 (by decide) ?_
      refine lv_icmp_ne (tgt := 62) hx hb dX9_comes_35 (by decide) (fun c13 => ?_) (fun c13 => ?_)
      · have hk := ok_n c13 hk
        refine lv_iinc (v := (i5 + 1)) (lv' := [(5, .int (i5 + 1)), (0, .ref r0), (1, .int i1), (2, .int i2), (3, .int i3), (4, .int i4)]) hx hb dX9_comes_62 hl (k := 5) rfl rfl (by decide) rfl (fun ls hl => ?_)
        refine lv_goto (tgt := 17) hx hb dX9_comes_65 (by decide) ?_
        exact hrec (i5 + 1) _ _ _ w (lv_sub hl [1, 2, 3, 4, 5, 0] rfl) hk
      · have hk := ok_p c13 hk
        refine lv_iload_n hx hb dX9_comes_38 rfl (lv_at hl 3 rfl) ?_
        refine lv_iload hx hb dX9_comes_39 (lv_at hl 5 rfl) ?_
        refine lv_ishr hx hb dX9_comes_41 ?_
        refine lv_iconst (v := 1) hx hb dX9_comes_42 (by decide) ?_
        refine lv_iand hx hb dX9_comes_43 ?_
        refine lv_iconst (v := 1) hx hb dX9_comes_44 (by decide) ?_
        refine lv_icmp_ne (tgt := 62) hx hb dX9_comes_45 (by decide) (fun c14 => ?_) (fun c14 => ?_)
        · have hk := ok_n c14 hk
          refine lv_iinc (v := (i5 + 1)) (lv' := [(5, .int (i5 + 1)), (0, .ref r0), (1, .int i1), (2, .int i2), (3, .int i3), (4, .int i4)]) hx hb dX9_comes_62 hl (k := 5) rfl rfl (by decide) rfl (fun ls hl => ?_)
          refine lv_goto (tgt := 17) hx hb dX9_comes_65 (by decide) ?_
          exact hrec (i5 + 1) _ _ _ w (lv_sub hl [1, 2, 3, 4, 5, 0] rfl) hk
        · have hk := ok_p c14 hk
          refine lv_aload_n hx hb dX9_comes_48 rfl (lv_at hl 0 rfl) ?_
          refine lv_iload_n hx hb dX9_comes_49 rfl (lv_at hl 1 rfl) ?_
          refine lv_iload hx hb dX9_comes_50 (lv_at hl 4 rfl) ?_
          refine lv_iload hx hb dX9_comes_52 (lv_at hl 5 rfl) ?_
          obtain ⟨q15, e16, hk⟩ := ok_b hk
          refine zVi X w (n := 3) (As := [.int i1, .int i4, .int i5]) (rest := []) (ci := 9) (C := RX9) (T := TX9) (N := 23) (c_X9_at l D cy G M r0 i1 i4 i5 e16) (gzV wm_X9_70 wi_X9_at ws_X9_at wn_X9 wc_X9_at) rfl rfl rfl (by decide +kernel) (by decide) rfl c7 rfl rfl hl.1 (Nat.le_of_ble_eq_true rfl) dX9_comes_54 ⟨Nat.zero_le _, Nat.zero_le _⟩ (fun H locs w => ?_)
          refine lv_if_le (tgt := 62) hx hb dX9_comes_57 (by decide) (fun c17 => ?_) (fun c17 => ?_)
          · have hk := ok_p c17 hk
            refine lv_iinc (v := (i5 + 1)) (lv' := [(5, .int (i5 + 1)), (0, .ref r0), (1, .int i1), (2, .int i2), (3, .int i3), (4, .int i4)]) hx hb dX9_comes_62 hl (k := 5) rfl rfl (by decide) rfl (fun ls hl => ?_)
            refine lv_goto (tgt := 17) hx hb dX9_comes_65 (by decide) ?_
            exact hrec (i5 + 1) _ _ _ w (lv_sub hl [1, 2, 3, 4, 5, 0] rfl) hk
          · have hk := ok_n c17 hk
            refine lv_iconst (v := 1) hx hb dX9_comes_60 (by decide) ?_
            have hk := hR _ (ok_s hk)
            exact zrz X hr hlk w dX9_comes_61 (by decide) hk rfl
theorem wl_X9_comes_17 {p : Program} {l : Launch} {e : Env} {s : State} {m : MethodId} {args : Array Value} {below : List Frame} {meth : Method} {c : Code} {D : va_G} {cy : Cyy} {A : Nat → Prop} {G : Gg} (X : Cx p m c cX9_comes 6 s args wz_X9_comes RX9 D cy) (M : Mm) (r0 : Nat) (i1 : Int32) (i2 : Int32) (i3 : Int32) (i4 : Int32) (Qo : (Int32) ⊕ (Unit) → Prop) (hr : meth.sig.returnType = (some .boolean)) (hlk : meth.locks = false) {x0 : Int32} (hR : ∀ x, Qo (.inl x) → x = x0) (hE : ∀ (y : Unit), Qo (.inr y) → ∀ (H : Heap) (locs : List Loc) (ls : Array Slot), Wo s D cy A G M H locs → lv_has ls 6 [(0, .ref r0), (1, .int i1), (2, .int i2), (3, .int i3), (4, .int i4)] → W p l e rm_X9_comes s m args below meth c H locs 0 0 (MQ below (QI D cy G A x0 M) args s 0 0 A) (F0 m 68 ls [])) : ∀ (n : Nat) (i5 : Int32) (H : Heap) (locs : List Loc) (ls : Array Slot), Wo s D cy A G M H locs → lv_has ls 6 [(0, .ref r0), (1, .int i1), (2, .int i2), (3, .int i3), (4, .int i4), (5, .int i5)] → OK (lp_X9_comes_17 G M r0 i1 i2 i3 i4 n i5) Qo → W p l e rm_X9_comes s m args below meth c H locs 0 0 (MQ below (QI D cy G A x0 M) args s 0 0 A) (F0 m 17 ls []) := by
  intro n
  induction n with
  | zero => intro i5 H locs ls w hl hk; exact ok_0 hk
  | succ n ih => intro i5 H locs ls w hl hk; exact wb_X9_comes_17 X M r0 i1 i2 i3 i4 Qo hr hlk hR hE  (lp_X9_comes_17 G M r0 i1 i2 i3 i4 n) ih i5 H locs ls w hl hk
set_option maxHeartbeats 4000000 in
set_option maxRecDepth 100000 in
theorem wb_X9_comes_3 {p : Program} {l : Launch} {e : Env} {s : State} {m : MethodId} {args : Array Value} {below : List Frame} {meth : Method} {c : Code} {D : va_G} {cy : Cyy} {A : Nat → Prop} {G : Gg} (X : Cx p m c cX9_comes 6 s args wz_X9_comes RX9 D cy) (M : Mm) (r0 : Nat) (i1 : Int32) (i2 : Int32) (i3 : Int32) (Qo : (Int32) ⊕ (Unit) → Prop) (hr : meth.sig.returnType = (some .boolean)) (hlk : meth.locks = false) {x0 : Int32} (hR : ∀ x, Qo (.inl x) → x = x0) (hE : ∀ (y : Unit), Qo (.inr y) → ∀ (H : Heap) (locs : List Loc) (ls : Array Slot), Wo s D cy A G M H locs → lv_has ls 6 [] → W p l e rm_X9_comes s m args below meth c H locs 0 0 (MQ below (QI D cy G A x0 M) args s 0 0 A) (F0 m 74 ls [])) (rec : Int32 → Option ((Int32) ⊕ (Unit))) (hrec : ∀ (i4 : Int32) (H : Heap) (locs : List Loc) (ls : Array Slot), Wo s D cy A G M H locs → lv_has ls 6 [(0, .ref r0), (1, .int i1), (2, .int i2), (3, .int i3), (4, .int i4)] → OK (rec i4) Qo → W p l e rm_X9_comes s m args below meth c H locs 0 0 (MQ below (QI D cy G A x0 M) args s 0 0 A) (F0 m 3 ls [])) (i4 : Int32) (H : Heap) (locs : List Loc) (ls : Array Slot) (w : Wo s D cy A G M H locs) (hl : lv_has ls 6 [(0, .ref r0), (1, .int i1), (2, .int i2), (3, .int i3), (4, .int i4)]) (hk : OK (bd_X9_comes_3 G M r0 i1 i2 i3 rec i4) Qo) : W p l e rm_X9_comes s m args below meth c H locs 0 0 (MQ below (QI D cy G A x0 M) args s 0 0 A) (F0 m 3 ls []) := by
    have hx := X.1.1
    have hb := X.1.2.1
    unfold bd_X9_comes_3 at hk
    refine lv_iload hx hb dX9_comes_3 (lv_at hl 4 rfl) ?_
    refine lv_aload_n hx hb dX9_comes_5 rfl (lv_at hl 0 rfl) ?_
    obtain ⟨c1, hk⟩ := ok_c hk
    obtain ⟨r2, e3, hk⟩ := ok_b hk
    refine zgr X w 9 3 13 (C := RX9) (T := TX9) (N := 23) rfl ui_X9 (by decide) rfl (tb wf_X9_13) dX9_comes_6 c1 e3 ?_
    refine lv_iload_n hx hb dX9_comes_9 rfl (lv_at hl 1 rfl) ?_
    obtain ⟨c4, hk⟩ := ok_c hk
    obtain ⟨c5, hk⟩ := ok_c hk
    refine zai X w dX9_comes_10 c4 c5 ?_
    refine lv_icmp_ge (tgt := 74) hx hb dX9_comes_11 (by decide) (fun c6 => ?_) (fun c6 => ?_)
    · have hk := ok_p c6 hk
      exact hE () (ok_s hk) _ _ _ w (lv_sub hl [] rfl)
    · have hk := ok_n c6 hk
      refine lv_iconst (v := 0) hx hb dX9_comes_14 (by decide) ?_
      refine lv_istore (lv' := [(5, .int (0 : Int32)), (0, .ref r0), (1, .int i1), (2, .int i2), (3, .int i3), (4, .int i4)]) hx hb dX9_comes_15 hl (by decide) rfl (fun ls hl => ?_)
      refine wl_X9_comes_17 X M r0 i1 i2 i3 i4 (Qo := _) hr hlk (fun x h => hR x (ok_s (show OK (some (.inl x)) Qo from h))) (fun y19 hk H locs ls w hl => ?_) FU (0 : Int32) _ _ _ w (lv_sub hl [1, 2, 3, 4, 5, 0] rfl) (ok_b hk)
      have hk := ok_r hk
      refine lv_iinc (v := (i4 + 1)) (lv' := [(4, .int (i4 + 1)), (0, .ref r0), (1, .int i1), (2, .int i2), (3, .int i3)]) hx hb dX9_comes_68 hl (k := 4) rfl rfl (by decide) rfl (fun ls hl => ?_)
      refine lv_goto (tgt := 3) hx hb dX9_comes_71 (by decide) ?_
      exact hrec (i4 + 1) _ _ _ w (lv_sub hl [1, 2, 3, 4, 0] rfl) hk
theorem wl_X9_comes_3 {p : Program} {l : Launch} {e : Env} {s : State} {m : MethodId} {args : Array Value} {below : List Frame} {meth : Method} {c : Code} {D : va_G} {cy : Cyy} {A : Nat → Prop} {G : Gg} (X : Cx p m c cX9_comes 6 s args wz_X9_comes RX9 D cy) (M : Mm) (r0 : Nat) (i1 : Int32) (i2 : Int32) (i3 : Int32) (Qo : (Int32) ⊕ (Unit) → Prop) (hr : meth.sig.returnType = (some .boolean)) (hlk : meth.locks = false) {x0 : Int32} (hR : ∀ x, Qo (.inl x) → x = x0) (hE : ∀ (y : Unit), Qo (.inr y) → ∀ (H : Heap) (locs : List Loc) (ls : Array Slot), Wo s D cy A G M H locs → lv_has ls 6 [] → W p l e rm_X9_comes s m args below meth c H locs 0 0 (MQ below (QI D cy G A x0 M) args s 0 0 A) (F0 m 74 ls [])) : ∀ (n : Nat) (i4 : Int32) (H : Heap) (locs : List Loc) (ls : Array Slot), Wo s D cy A G M H locs → lv_has ls 6 [(0, .ref r0), (1, .int i1), (2, .int i2), (3, .int i3), (4, .int i4)] → OK (lp_X9_comes_3 G M r0 i1 i2 i3 n i4) Qo → W p l e rm_X9_comes s m args below meth c H locs 0 0 (MQ below (QI D cy G A x0 M) args s 0 0 A) (F0 m 3 ls []) := by
  intro n
  induction n with
  | zero => intro i4 H locs ls w hl hk; exact ok_0 hk
  | succ n ih => intro i4 H locs ls w hl hk; exact wb_X9_comes_3 X M r0 i1 i2 i3 Qo hr hlk hR hE  (lp_X9_comes_3 G M r0 i1 i2 i3 n) ih i4 H locs ls w hl hk
set_option maxHeartbeats 4000000 in
set_option maxRecDepth 100000 in
theorem c_X9_comes (l : Launch) (D : va_G) (cy : Cyy) (G : Gg) (M : Mm) (r0 : Nat) (i1 : Int32) (i2 : Int32) (i3 : Int32) {q : Int32} (hm : f_X9_comes G M r0 i1 i2 i3 = some q) : CI l yX9_comes wz_X9_comes rm_X9_comes D cy G M [.ref r0, .int i1, .int i2, .int i3] q M := by
  refine Met_of (Qf := fun A => QI D cy G A q M) (cc := cX9_comes) (nL := 6) (ret := (some .boolean)) (own := RX9) (lv := [(0, .ref r0), (1, .int i1), (2, .int i2), (3, .int i3)]) (by decide) rfl rfl (Nat.le_of_ble_eq_true rfl) rfl ?_
  intro p e s m args below meth c A ls X hr hlk w hl
  have hx := X.1.1
  have hb := X.1.2.1
  obtain ⟨Qo, hR, hk⟩ : ∃ Qo : Int32 → Prop, (∀ x, Qo x → x = q) ∧ OK (f_X9_comes G M r0 i1 i2 i3) Qo := ⟨fun x => x = q, fun _ h => h, q, hm, rfl⟩
  unfold f_X9_comes at hk
  refine lv_iconst (v := 0) hx hb dX9_comes_0 (by decide) ?_
  refine lv_istore (lv' := [(4, .int (0 : Int32)), (0, .ref r0), (1, .int i1), (2, .int i2), (3, .int i3)]) hx hb dX9_comes_1 hl (by decide) rfl (fun ls hl => ?_)
  refine wl_X9_comes_3 X M r0 i1 i2 i3 (Qo := _) hr hlk (fun x h => hR x (ok_s (show OK (some x) Qo from h))) (fun y22 hk H locs ls w hl => ?_) FU (0 : Int32) _ _ _ w (lv_sub hl [1, 2, 3, 4, 0] rfl) (ok_b hk)
  have hk := ok_r hk
  refine lv_iconst (v := 0) hx hb dX9_comes_74 (by decide) ?_
  have hk := hR _ (ok_s hk)
  exact zrz X hr hlk w dX9_comes_75 (by decide) hk rfl
abbrev rm_X9_ahead : Room := { frames := 3, cells := 0, slots := 0, locals := 95 }
set_option maxHeartbeats 4000000 in
set_option maxRecDepth 100000 in
theorem wb_X9_ahead_101 {p : Program} {l : Launch} {e : Env} {s : State} {m : MethodId} {args : Array Value} {below : List Frame} {meth : Method} {c : Code} {D : va_G} {cy : Cyy} {A : Nat → Prop} {G : Gg} (X : Cx p m c cX9_ahead 13 s args wz_X9_ahead RX9 D cy) {Q : State → Prop} (M : Mm) (r0 : Nat) (i1 : Int32) (i2 : Int32) (i3 : Int32) (i4 : Int32) (i5 : Int32) (i6 : Int32) (Qo : Int32 → Prop)  (hE : ∀ (y : Int32), Qo (y) → ∀ (H : Heap) (locs : List Loc) (ls : Array Slot), Wo s D cy A G M H locs → lv_has ls 13 [(0, .ref r0), (1, .int i1), (2, .int i2), (3, .int i3), (5, .int i5), (7, .int y)] → W p l e rm_X9_ahead s m args below meth c H locs 0 0 Q (F0 m 158 ls [])) (rec : Int32 → Int32 → Option (Int32)) (hrec : ∀ (i7 : Int32) (i8 : Int32) (H : Heap) (locs : List Loc) (ls : Array Slot), Wo s D cy A G M H locs → lv_has ls 13 [(0, .ref r0), (1, .int i1), (2, .int i2), (3, .int i3), (4, .int i4), (5, .int i5), (6, .int i6), (7, .int i7), (8, .int i8)] → OK (rec i7 i8) Qo → W p l e rm_X9_ahead s m args below meth c H locs 0 0 Q (F0 m 101 ls [])) (i7 : Int32) (i8 : Int32) (H : Heap) (locs : List Loc) (ls : Array Slot) (w : Wo s D cy A G M H locs) (hl : lv_has ls 13 [(0, .ref r0), (1, .int i1), (2, .int i2), (3, .int i3), (4, .int i4), (5, .int i5), (6, .int i6), (7, .int i7), (8, .int i8)]) (hk : OK (bd_X9_ahead_101 G M r0 i1 i2 i3 i4 i5 i6 rec i7 i8) Qo) : W p l e rm_X9_ahead s m args below meth c H locs 0 0 Q (F0 m 101 ls []) := by
    have hx := X.1.1
    have hb := X.1.2.1
    unfold bd_X9_ahead_101 at hk
    refine lv_iload hx hb dX9_ahead_101 (lv_at hl 8 rfl) ?_
    refine lv_aload_n hx hb dX9_ahead_103 rfl (lv_at hl 0 rfl) ?_
    obtain ⟨c26, hk⟩ := ok_c hk
    obtain ⟨r27, e28, hk⟩ := ok_b hk
    refine zgr X w 9 3 13 (C := RX9) (T := TX9) (N := 23) rfl ui_X9 (by decide) rfl (tb wf_X9_13) dX9_ahead_104 c26 e28 ?_
    refine lv_iload_n hx hb dX9_ahead_107 rfl (lv_at hl 1 rfl) ?_
    obtain ⟨c29, hk⟩ := ok_c hk
    obtain ⟨c30, hk⟩ := ok_c hk
    refine zai X w dX9_ahead_108 c29 c30 ?_
    refine lv_icmp_ge (tgt := 158) hx hb dX9_ahead_109 (by decide) (fun c31 => ?_) (fun c31 => ?_)
    · have hk := ok_p c31 hk
      exact hE i7 (ok_s hk) _ _ _ w (lv_sub hl [0, 1, 2, 3, 5, 7] rfl)
    · have hk := ok_n c31 hk
      refine lv_iload hx hb dX9_ahead_112 (lv_at hl 6 rfl) ?_
      refine lv_iload hx hb dX9_ahead_114 (lv_at hl 8 rfl) ?_
      refine lv_ishr hx hb dX9_ahead_116 ?_
      refine lv_iconst (v := 1) hx hb dX9_ahead_117 (by decide) ?_
      refine lv_iand hx hb dX9_ahead_118 ?_
      refine lv_iconst (v := 1) hx hb dX9_ahead_119 (by decide) ?_
      refine lv_icmp_ne (tgt := 152) hx hb dX9_ahead_120 (by decide) (fun c32 => ?_) (fun c32 => ?_)
      · have hk := ok_n c32 hk
        refine lv_iinc (v := (i8 + 1)) (lv' := [(8, .int (i8 + 1)), (0, .ref r0), (1, .int i1), (2, .int i2), (3, .int i3), (4, .int i4), (5, .int i5), (6, .int i6), (7, .int i7)]) hx hb dX9_ahead_152 hl (k := 8) rfl rfl (by decide) rfl (fun ls hl => ?_)
        refine lv_goto (tgt := 101) hx hb dX9_ahead_155 (by decide) ?_
        exact hrec i7 (i8 + 1) _ _ _ w (lv_sub hl [1, 2, 3, 4, 5, 6, 7, 8, 0] rfl) hk
      · have hk := ok_p c32 hk
        refine lv_aload_n hx hb dX9_ahead_123 rfl (lv_at hl 0 rfl) ?_
        refine lv_iload_n hx hb dX9_ahead_124 rfl (lv_at hl 1 rfl) ?_
        refine lv_aload_n hx hb dX9_ahead_125 rfl (lv_at hl 0 rfl) ?_
        refine lv_iload_n hx hb dX9_ahead_126 rfl (lv_at hl 1 rfl) ?_
        refine lv_iload hx hb dX9_ahead_127 (lv_at hl 8 rfl) ?_
        refine lv_iload_n hx hb dX9_ahead_129 rfl (lv_at hl 3 rfl) ?_
        refine lv_iload hx hb dX9_ahead_130 (lv_at hl 4 rfl) ?_
        refine lv_ior hx hb dX9_ahead_132 ?_
        obtain ⟨q33, e34, hk⟩ := ok_b hk
        refine zVi X w (n := 3) (As := [.int i1, .int i8, .int (i3 ||| i4)]) (rest := [.int i1, .ref r0]) (ci := 9) (C := RX9) (T := TX9) (N := 23) (c_X9_roams l D cy G M r0 i1 i8 (i3 ||| i4) e34) (gzV wm_X9_212 wi_X9_roams ws_X9_roams wn_X9 wc_X9_roams) rfl rfl rfl (by decide +kernel) (by decide) rfl c26 rfl rfl hl.1 (Nat.le_of_ble_eq_true rfl) dX9_ahead_133 ⟨Nat.zero_le _, Nat.zero_le _⟩ (fun H locs w => ?_)
        refine lv_iload_n hx hb dX9_ahead_136 rfl (lv_at hl 3 rfl) ?_
        obtain ⟨q35, e36, hk⟩ := ok_b hk
        refine zVi X w (n := 3) (As := [.int i1, .int q33, .int i3]) (rest := []) (ci := 9) (C := RX9) (T := TX9) (N := 23) (c_X9_comes l D cy G M r0 i1 q33 i3 e36) (gzV wm_X9_215 wi_X9_comes ws_X9_comes wn_X9 wc_X9_comes) rfl rfl rfl (by decide +kernel) (by decide) rfl c26 rfl rfl hl.1 (Nat.le_of_ble_eq_true rfl) dX9_ahead_137 ⟨Nat.zero_le _, Nat.zero_le _⟩ (fun H locs w => ?_)
        refine lv_if_eq (tgt := 152) hx hb dX9_ahead_140 (by decide) (fun c37 => ?_) (fun c37 => ?_)
        · have hk := ok_p c37 hk
          refine lv_iinc (v := (i8 + 1)) (lv' := [(8, .int (i8 + 1)), (0, .ref r0), (1, .int i1), (2, .int i2), (3, .int i3), (4, .int i4), (5, .int i5), (6, .int i6), (7, .int i7)]) hx hb dX9_ahead_152 hl (k := 8) rfl rfl (by decide) rfl (fun ls hl => ?_)
          refine lv_goto (tgt := 101) hx hb dX9_ahead_155 (by decide) ?_
          exact hrec i7 (i8 + 1) _ _ _ w (lv_sub hl [1, 2, 3, 4, 5, 6, 7, 8, 0] rfl) hk
        · have hk := ok_n c37 hk
          refine lv_iload hx hb dX9_ahead_143 (lv_at hl 7 rfl) ?_
          refine lv_iconst (v := 1) hx hb dX9_ahead_145 (by decide) ?_
          refine lv_iload hx hb dX9_ahead_146 (lv_at hl 8 rfl) ?_
          refine lv_ishl hx hb dX9_ahead_148 ?_
          refine lv_ior hx hb dX9_ahead_149 ?_
          refine lv_istore (lv' := [(7, .int (i7 ||| ((1 : Int32) <<< (i8 &&& 31)))), (0, .ref r0), (1, .int i1), (2, .int i2), (3, .int i3), (4, .int i4), (5, .int i5), (6, .int i6), (8, .int i8)]) hx hb dX9_ahead_150 hl (by decide) rfl (fun ls hl => ?_)
          refine lv_iinc (v := (i8 + 1)) (lv' := [(8, .int (i8 + 1)), (7, .int (i7 ||| ((1 : Int32) <<< (i8 &&& 31)))), (0, .ref r0), (1, .int i1), (2, .int i2), (3, .int i3), (4, .int i4), (5, .int i5), (6, .int i6)]) hx hb dX9_ahead_152 hl (k := 8) rfl rfl (by decide) rfl (fun ls hl => ?_)
          refine lv_goto (tgt := 101) hx hb dX9_ahead_155 (by decide) ?_
          exact hrec (i7 ||| ((1 : Int32) <<< (i8 &&& 31))) (i8 + 1) _ _ _ w (lv_sub hl [2, 3, 4, 5, 6, 7, 8, 1, 0] rfl) hk
theorem wl_X9_ahead_101 {p : Program} {l : Launch} {e : Env} {s : State} {m : MethodId} {args : Array Value} {below : List Frame} {meth : Method} {c : Code} {D : va_G} {cy : Cyy} {A : Nat → Prop} {G : Gg} (X : Cx p m c cX9_ahead 13 s args wz_X9_ahead RX9 D cy) {Q : State → Prop} (M : Mm) (r0 : Nat) (i1 : Int32) (i2 : Int32) (i3 : Int32) (i4 : Int32) (i5 : Int32) (i6 : Int32) (Qo : Int32 → Prop)  (hE : ∀ (y : Int32), Qo (y) → ∀ (H : Heap) (locs : List Loc) (ls : Array Slot), Wo s D cy A G M H locs → lv_has ls 13 [(0, .ref r0), (1, .int i1), (2, .int i2), (3, .int i3), (5, .int i5), (7, .int y)] → W p l e rm_X9_ahead s m args below meth c H locs 0 0 Q (F0 m 158 ls [])) : ∀ (n : Nat) (i7 : Int32) (i8 : Int32) (H : Heap) (locs : List Loc) (ls : Array Slot), Wo s D cy A G M H locs → lv_has ls 13 [(0, .ref r0), (1, .int i1), (2, .int i2), (3, .int i3), (4, .int i4), (5, .int i5), (6, .int i6), (7, .int i7), (8, .int i8)] → OK (lp_X9_ahead_101 G M r0 i1 i2 i3 i4 i5 i6 n i7 i8) Qo → W p l e rm_X9_ahead s m args below meth c H locs 0 0 Q (F0 m 101 ls []) := by
  intro n
  induction n with
  | zero => intro i7 i8 H locs ls w hl hk; exact ok_0 hk
  | succ n ih => intro i7 i8 H locs ls w hl hk; exact wb_X9_ahead_101 X M r0 i1 i2 i3 i4 i5 i6 Qo hE  (lp_X9_ahead_101 G M r0 i1 i2 i3 i4 i5 i6 n) ih i7 i8 H locs ls w hl hk
set_option maxHeartbeats 4000000 in
set_option maxRecDepth 100000 in
theorem wb_X9_ahead_218 {p : Program} {l : Launch} {e : Env} {s : State} {m : MethodId} {args : Array Value} {below : List Frame} {meth : Method} {c : Code} {D : va_G} {cy : Cyy} {A : Nat → Prop} {G : Gg} (X : Cx p m c cX9_ahead 13 s args wz_X9_ahead RX9 D cy) {Q : State → Prop} (r0 : Nat) (i1 : Int32) (i2 : Int32) (i3 : Int32) (i5 : Int32) (i8 : Int32) (i9 : Int32) (i10 : Int32) (i11 : Int32) (Qo : Mm → Prop)  (hE : ∀ (y : Mm), Qo (y) → ∀ (H : Heap) (locs : List Loc) (ls : Array Slot), Wo s D cy A G y H locs → lv_has ls 13 [(0, .ref r0), (1, .int i1), (2, .int i2), (3, .int i3), (5, .int i5), (8, .int i8), (9, .int i9), (10, .int i10), (11, .int i11)] → W p l e rm_X9_ahead s m args below meth c H locs 0 0 Q (F0 m 270 ls [])) (rec : Int32 → Mm → Option (Mm)) (hrec : ∀ (i12 : Int32) (M : Mm) (H : Heap) (locs : List Loc) (ls : Array Slot), Wo s D cy A G M H locs → lv_has ls 13 [(0, .ref r0), (1, .int i1), (2, .int i2), (3, .int i3), (5, .int i5), (8, .int i8), (9, .int i9), (10, .int i10), (11, .int i11), (12, .int i12)] → OK (rec i12 M) Qo → W p l e rm_X9_ahead s m args below meth c H locs 0 0 Q (F0 m 218 ls [])) (i12 : Int32) (M : Mm) (H : Heap) (locs : List Loc) (ls : Array Slot) (w : Wo s D cy A G M H locs) (hl : lv_has ls 13 [(0, .ref r0), (1, .int i1), (2, .int i2), (3, .int i3), (5, .int i5), (8, .int i8), (9, .int i9), (10, .int i10), (11, .int i11), (12, .int i12)]) (hk : OK (bd_X9_ahead_218 G r0 i1 i2 i3 i5 i8 i9 i10 i11 rec i12 M) Qo) : W p l e rm_X9_ahead s m args below meth c H locs 0 0 Q (F0 m 218 ls []) := by
    have hx := X.1.1
    have hb := X.1.2.1
    unfold bd_X9_ahead_218 at hk
    refine lv_iload hx hb dX9_ahead_218 (lv_at hl 9 rfl) ?_
    refine lv_aload_n hx hb dX9_ahead_220 rfl (lv_at hl 0 rfl) ?_
    obtain ⟨c50, hk⟩ := ok_c hk
    obtain ⟨r51, e52, hk⟩ := ok_b hk
    refine zgr X w 9 3 13 (C := RX9) (T := TX9) (N := 23) rfl ui_X9 (by decide) rfl (tb wf_X9_13) dX9_ahead_221 c50 e52 ?_
    refine lv_iload_n hx hb dX9_ahead_224 rfl (lv_at hl 1 rfl) ?_
    obtain ⟨c53, hk⟩ := ok_c hk
    obtain ⟨c54, hk⟩ := ok_c hk
    refine zai X w dX9_ahead_225 c53 c54 ?_
    refine lv_icmp_ge (tgt := 270) hx hb dX9_ahead_226 (by decide) (fun c55 => ?_) (fun c55 => ?_)
    · have hk := ok_p c55 hk
      exact hE M (ok_s hk) _ _ _ w (lv_sub hl [0, 1, 2, 3, 4, 5, 6, 7, 8] rfl)
    · have hk := ok_n c55 hk
      refine lv_iload_n hx hb dX9_ahead_229 rfl (lv_at hl 3 rfl) ?_
      refine lv_iload hx hb dX9_ahead_230 (lv_at hl 9 rfl) ?_
      refine lv_ishr hx hb dX9_ahead_232 ?_
      refine lv_iconst (v := 1) hx hb dX9_ahead_233 (by decide) ?_
      refine lv_iand hx hb dX9_ahead_234 ?_
      refine lv_iconst (v := 1) hx hb dX9_ahead_235 (by decide) ?_
      refine lv_icmp_ne (tgt := 264) hx hb dX9_ahead_236 (by decide) (fun c56 => ?_) (fun c56 => ?_)
      · have hk := ok_n c56 hk
        refine lv_iinc (v := (i12 + 1)) (lv' := [(12, .int (i12 + 1)), (0, .ref r0), (1, .int i1), (2, .int i2), (3, .int i3), (5, .int i5), (8, .int i8), (9, .int i9), (10, .int i10), (11, .int i11)]) hx hb dX9_ahead_264 hl (k := 9) rfl rfl (by decide) rfl (fun ls hl => ?_)
        refine lv_goto (tgt := 218) hx hb dX9_ahead_267 (by decide) ?_
        exact hrec (i12 + 1) M _ _ _ w (lv_sub hl [1, 2, 3, 4, 5, 6, 7, 8, 9, 0] rfl) hk
      · have hk := ok_p c56 hk
        refine lv_aload_n hx hb dX9_ahead_239 rfl (lv_at hl 0 rfl) ?_
        obtain ⟨r57, e58, hk⟩ := ok_b hk
        refine zgr X w 9 10 32 (C := RX9) (T := TX9) (N := 23) rfl ui_X9 (by decide) rfl (tb wf_X9_32) dX9_ahead_240 c50 e58 ?_
        refine lv_iload hx hb dX9_ahead_243 (lv_at hl 8 rfl) ?_
        refine lv_dup2_11 hx hb dX9_ahead_245 rfl rfl ?_
        obtain ⟨c59, hk⟩ := ok_c hk
        obtain ⟨c60, hk⟩ := ok_c hk
        refine zal X w dX9_ahead_246 c59 c60 ?_
        refine lv_aload_n hx hb dX9_ahead_247 rfl (lv_at hl 0 rfl) ?_
        refine lv_iload_n hx hb dX9_ahead_248 rfl (lv_at hl 1 rfl) ?_
        refine lv_aload_n hx hb dX9_ahead_249 rfl (lv_at hl 0 rfl) ?_
        obtain ⟨r61, e62, hk⟩ := ok_b hk
        refine zgr X w 9 13 41 (C := RX9) (T := TX9) (N := 23) rfl ui_X9 (by decide) rfl (tb wf_X9_41) dX9_ahead_250 c50 e62 ?_
        refine lv_iload hx hb dX9_ahead_253 (lv_at hl 8 rfl) ?_
        obtain ⟨c63, hk⟩ := ok_c hk
        obtain ⟨c64, hk⟩ := ok_c hk
        refine zai X w dX9_ahead_255 c63 c64 ?_
        refine lv_iload hx hb dX9_ahead_256 (lv_at hl 9 rfl) ?_
        obtain ⟨q65, e66, hk⟩ := ok_b hk
        refine zVi X w (n := 3) (As := [.int i1, .int (M.1 r61 (Int32.toNatClampNeg i11)), .int i12]) (rest := [.long (M.2.1 r57 (Int32.toNatClampNeg i11)), .int i11, .ref r57]) (ci := 9) (C := RX9) (T := TX9) (N := 23) (c_X9_at l D cy G M r0 i1 (M.1 r61 (Int32.toNatClampNeg i11)) i12 e66) (gzV wm_X9_70 wi_X9_at ws_X9_at wn_X9 wc_X9_at) rfl rfl rfl (by decide +kernel) (by decide) rfl c50 rfl rfl hl.1 (Nat.le_of_ble_eq_true rfl) dX9_ahead_258 ⟨Nat.zero_le _, Nat.zero_le _⟩ (fun H locs w => ?_)
        refine lv_i2l hx hb dX9_ahead_261 rfl ?_
        refine lv_ladd hx hb dX9_ahead_262 ?_
        refine zsl X w dX9_ahead_263 c59 c60 (fun H locs w => ?_)
        refine lv_iinc (v := (i12 + 1)) (lv' := [(12, .int (i12 + 1)), (0, .ref r0), (1, .int i1), (2, .int i2), (3, .int i3), (5, .int i5), (8, .int i8), (9, .int i9), (10, .int i10), (11, .int i11)]) hx hb dX9_ahead_264 hl (k := 9) rfl rfl (by decide) rfl (fun ls hl => ?_)
        refine lv_goto (tgt := 218) hx hb dX9_ahead_267 (by decide) ?_
        exact hrec (i12 + 1) (mwJ M r57 (Int32.toNatClampNeg i11) ((M.2.1 r57 (Int32.toNatClampNeg i11)) + (Int32.toInt64 q65))) _ _ _ w (lv_sub hl [1, 2, 3, 4, 5, 6, 7, 8, 9, 0] rfl) hk
theorem wl_X9_ahead_218 {p : Program} {l : Launch} {e : Env} {s : State} {m : MethodId} {args : Array Value} {below : List Frame} {meth : Method} {c : Code} {D : va_G} {cy : Cyy} {A : Nat → Prop} {G : Gg} (X : Cx p m c cX9_ahead 13 s args wz_X9_ahead RX9 D cy) {Q : State → Prop} (r0 : Nat) (i1 : Int32) (i2 : Int32) (i3 : Int32) (i5 : Int32) (i8 : Int32) (i9 : Int32) (i10 : Int32) (i11 : Int32) (Qo : Mm → Prop)  (hE : ∀ (y : Mm), Qo (y) → ∀ (H : Heap) (locs : List Loc) (ls : Array Slot), Wo s D cy A G y H locs → lv_has ls 13 [(0, .ref r0), (1, .int i1), (2, .int i2), (3, .int i3), (5, .int i5), (8, .int i8), (9, .int i9), (10, .int i10), (11, .int i11)] → W p l e rm_X9_ahead s m args below meth c H locs 0 0 Q (F0 m 270 ls [])) : ∀ (n : Nat) (i12 : Int32) (M : Mm) (H : Heap) (locs : List Loc) (ls : Array Slot), Wo s D cy A G M H locs → lv_has ls 13 [(0, .ref r0), (1, .int i1), (2, .int i2), (3, .int i3), (5, .int i5), (8, .int i8), (9, .int i9), (10, .int i10), (11, .int i11), (12, .int i12)] → OK (lp_X9_ahead_218 G r0 i1 i2 i3 i5 i8 i9 i10 i11 n i12 M) Qo → W p l e rm_X9_ahead s m args below meth c H locs 0 0 Q (F0 m 218 ls []) := by
  intro n
  induction n with
  | zero => intro i12 M H locs ls w hl hk; exact ok_0 hk
  | succ n ih => intro i12 M H locs ls w hl hk; exact wb_X9_ahead_218 X r0 i1 i2 i3 i5 i8 i9 i10 i11 Qo hE  (lp_X9_ahead_218 G r0 i1 i2 i3 i5 i8 i9 i10 i11 n) ih i12 M H locs ls w hl hk
set_option maxHeartbeats 4000000 in
set_option maxRecDepth 100000 in
theorem wb_X9_ahead_200 {p : Program} {l : Launch} {e : Env} {s : State} {m : MethodId} {args : Array Value} {below : List Frame} {meth : Method} {c : Code} {D : va_G} {cy : Cyy} {A : Nat → Prop} {G : Gg} (X : Cx p m c cX9_ahead 13 s args wz_X9_ahead RX9 D cy) {Q : State → Prop} (r0 : Nat) (i1 : Int32) (i2 : Int32) (i3 : Int32) (i5 : Int32) (i8 : Int32) (i9 : Int32) (Qo : Int32 × Mm → Prop)  (hE : ∀ (y : Int32 × Mm), Qo (y) → ∀ (H : Heap) (locs : List Loc) (ls : Array Slot), Wo s D cy A G y.2 H locs → lv_has ls 13 [(0, .ref r0), (5, .int i5), (9, .int i9), (10, .int y.1)] → W p l e rm_X9_ahead s m args below meth c H locs 0 0 Q (F0 m 291 ls [])) (rec : Int32 → Int32 → Mm → Option (Int32 × Mm)) (hrec : ∀ (i10 : Int32) (i11 : Int32) (M : Mm) (H : Heap) (locs : List Loc) (ls : Array Slot), Wo s D cy A G M H locs → lv_has ls 13 [(0, .ref r0), (1, .int i1), (2, .int i2), (3, .int i3), (5, .int i5), (8, .int i8), (9, .int i9), (10, .int i10), (11, .int i11)] → OK (rec i10 i11 M) Qo → W p l e rm_X9_ahead s m args below meth c H locs 0 0 Q (F0 m 200 ls [])) (i10 : Int32) (i11 : Int32) (M : Mm) (H : Heap) (locs : List Loc) (ls : Array Slot) (w : Wo s D cy A G M H locs) (hl : lv_has ls 13 [(0, .ref r0), (1, .int i1), (2, .int i2), (3, .int i3), (5, .int i5), (8, .int i8), (9, .int i9), (10, .int i10), (11, .int i11)]) (hk : OK (bd_X9_ahead_200 G r0 i1 i2 i3 i5 i8 i9 rec i10 i11 M) Qo) : W p l e rm_X9_ahead s m args below meth c H locs 0 0 Q (F0 m 200 ls []) := by
    have hx := X.1.1
    have hb := X.1.2.1
    unfold bd_X9_ahead_200 at hk
    refine lv_iload hx hb dX9_ahead_200 (lv_at hl 8 rfl) ?_
    refine lv_iload hx hb dX9_ahead_202 (lv_at hl 5 rfl) ?_
    refine lv_icmp_ge (tgt := 291) hx hb dX9_ahead_204 (by decide) (fun c44 => ?_) (fun c44 => ?_)
    · have hk := ok_p c44 hk
      exact hE (i10, M) (ok_s hk) _ _ _ w (lv_sub hl [0, 4, 6, 7] rfl)
    · have hk := ok_n c44 hk
      refine lv_aload_n hx hb dX9_ahead_207 rfl (lv_at hl 0 rfl) ?_
      obtain ⟨c45, hk⟩ := ok_c hk
      obtain ⟨r46, e47, hk⟩ := ok_b hk
      refine zgr X w 9 10 32 (C := RX9) (T := TX9) (N := 23) rfl ui_X9 (by decide) rfl (tb wf_X9_32) dX9_ahead_208 c45 e47 ?_
      refine lv_iload hx hb dX9_ahead_211 (lv_at hl 8 rfl) ?_
      refine lv_lconst (v := 0) hx hb dX9_ahead_213 (by decide) ?_
      obtain ⟨c48, hk⟩ := ok_c hk
      obtain ⟨c49, hk⟩ := ok_c hk
      refine zsl X w dX9_ahead_214 c48 c49 (fun H locs w => ?_)
      refine lv_iconst (v := 0) hx hb dX9_ahead_215 (by decide) ?_
      refine lv_istore (lv' := [(12, .int (0 : Int32)), (0, .ref r0), (1, .int i1), (2, .int i2), (3, .int i3), (5, .int i5), (8, .int i8), (9, .int i9), (10, .int i10), (11, .int i11)]) hx hb dX9_ahead_216 hl (by decide) rfl (fun ls hl => ?_)
      refine wl_X9_ahead_218 X r0 i1 i2 i3 i5 i8 i9 i10 i11 (Qo := _) (fun q67 hk H locs ls w hl => ?_) FU (0 : Int32) (mwJ M r46 (Int32.toNatClampNeg i11) (0 : Int64)) _ _ _ w (lv_sub hl [1, 2, 3, 4, 5, 6, 7, 8, 9, 0] rfl) (ok_b hk)
      refine lv_aload_n hx hb dX9_ahead_270 rfl (lv_at hl 0 rfl) ?_
      obtain ⟨r68, e69, hk⟩ := ok_b hk
      refine zgr X w 9 13 41 (C := RX9) (T := TX9) (N := 23) rfl ui_X9 (by decide) rfl (tb wf_X9_41) dX9_ahead_271 c45 e69 ?_
      refine lv_iload hx hb dX9_ahead_274 (lv_at hl 8 rfl) ?_
      obtain ⟨c70, hk⟩ := ok_c hk
      obtain ⟨c71, hk⟩ := ok_c hk
      refine zai X w dX9_ahead_276 c70 c71 ?_
      refine lv_iload_n hx hb dX9_ahead_277 rfl (lv_at hl 2 rfl) ?_
      refine lv_icmp_ne (tgt := 285) hx hb dX9_ahead_278 (by decide) (fun c72 => ?_) (fun c72 => ?_)
      · have hk := ok_n c72 hk
        refine lv_iinc (v := (i11 + 1)) (lv' := [(11, .int (i11 + 1)), (0, .ref r0), (1, .int i1), (2, .int i2), (3, .int i3), (5, .int i5), (8, .int i8), (9, .int i9), (10, .int i10)]) hx hb dX9_ahead_285 hl (k := 8) rfl rfl (by decide) rfl (fun ls hl => ?_)
        refine lv_goto (tgt := 200) hx hb dX9_ahead_288 (by decide) ?_
        exact hrec i10 (i11 + 1) q67 _ _ _ w (lv_sub hl [1, 2, 3, 4, 5, 6, 7, 8, 0] rfl) hk
      · have hk := ok_p c72 hk
        refine lv_iload hx hb dX9_ahead_281 (lv_at hl 8 rfl) ?_
        refine lv_istore (lv' := [(10, .int i11), (0, .ref r0), (1, .int i1), (2, .int i2), (3, .int i3), (5, .int i5), (8, .int i8), (9, .int i9), (11, .int i11)]) hx hb dX9_ahead_283 hl (by decide) rfl (fun ls hl => ?_)
        refine lv_iinc (v := (i11 + 1)) (lv' := [(11, .int (i11 + 1)), (10, .int i11), (0, .ref r0), (1, .int i1), (2, .int i2), (3, .int i3), (5, .int i5), (8, .int i8), (9, .int i9)]) hx hb dX9_ahead_285 hl (k := 8) rfl rfl (by decide) rfl (fun ls hl => ?_)
        refine lv_goto (tgt := 200) hx hb dX9_ahead_288 (by decide) ?_
        exact hrec i11 (i11 + 1) q67 _ _ _ w (lv_sub hl [2, 3, 4, 5, 6, 7, 8, 1, 0] rfl) hk
theorem wl_X9_ahead_200 {p : Program} {l : Launch} {e : Env} {s : State} {m : MethodId} {args : Array Value} {below : List Frame} {meth : Method} {c : Code} {D : va_G} {cy : Cyy} {A : Nat → Prop} {G : Gg} (X : Cx p m c cX9_ahead 13 s args wz_X9_ahead RX9 D cy) {Q : State → Prop} (r0 : Nat) (i1 : Int32) (i2 : Int32) (i3 : Int32) (i5 : Int32) (i8 : Int32) (i9 : Int32) (Qo : Int32 × Mm → Prop)  (hE : ∀ (y : Int32 × Mm), Qo (y) → ∀ (H : Heap) (locs : List Loc) (ls : Array Slot), Wo s D cy A G y.2 H locs → lv_has ls 13 [(0, .ref r0), (5, .int i5), (9, .int i9), (10, .int y.1)] → W p l e rm_X9_ahead s m args below meth c H locs 0 0 Q (F0 m 291 ls [])) : ∀ (n : Nat) (i10 : Int32) (i11 : Int32) (M : Mm) (H : Heap) (locs : List Loc) (ls : Array Slot), Wo s D cy A G M H locs → lv_has ls 13 [(0, .ref r0), (1, .int i1), (2, .int i2), (3, .int i3), (5, .int i5), (8, .int i8), (9, .int i9), (10, .int i10), (11, .int i11)] → OK (lp_X9_ahead_200 G r0 i1 i2 i3 i5 i8 i9 n i10 i11 M) Qo → W p l e rm_X9_ahead s m args below meth c H locs 0 0 Q (F0 m 200 ls []) := by
  intro n
  induction n with
  | zero => intro i10 i11 M H locs ls w hl hk; exact ok_0 hk
  | succ n ih => intro i10 i11 M H locs ls w hl hk; exact wb_X9_ahead_200 X r0 i1 i2 i3 i5 i8 i9 Qo hE  (lp_X9_ahead_200 G r0 i1 i2 i3 i5 i8 i9 n) ih i10 i11 M H locs ls w hl hk
set_option maxHeartbeats 4000000 in
set_option maxRecDepth 100000 in
theorem c_X9_ahead (l : Launch) (D : va_G) (cy : Cyy) (G : Gg) (M : Mm) (r0 : Nat) (i1 : Int32) (i2 : Int32) (i3 : Int32) (i4 : Int32) (i5 : Int32) {q : Int64 × Mm} (hm : f_X9_ahead G M r0 i1 i2 i3 i4 i5 = some q) : CL l yX9_ahead wz_X9_ahead rm_X9_ahead D cy G M [.ref r0, .int i1, .int i2, .int i3, .int i4, .int i5] q.1 q.2 := by
  refine Met_of (Qf := fun A => QL D cy G A q.1 q.2) (cc := cX9_ahead) (nL := 13) (ret := (some .long)) (own := RX9) (lv := [(0, .ref r0), (1, .int i1), (2, .int i2), (3, .int i3), (4, .int i4), (5, .int i5)]) (by decide) rfl rfl (Nat.le_of_ble_eq_true rfl) rfl ?_
  intro p e s m args below meth c A ls X hr hlk w hl
  have hx := X.1.1
  have hb := X.1.2.1
  obtain ⟨Qo, hR, hk⟩ : ∃ Qo : Int64 × Mm → Prop, (∀ x, Qo x → x = q) ∧ OK (f_X9_ahead G M r0 i1 i2 i3 i4 i5) Qo := ⟨fun x => x = q, fun _ h => h, q, hm, rfl⟩
  unfold f_X9_ahead at hk
  refine lv_aload_n hx hb dX9_ahead_0 rfl (lv_at hl 0 rfl) ?_
  refine lv_iload_n hx hb dX9_ahead_1 rfl (lv_at hl 1 rfl) ?_
  refine lv_iload_n hx hb dX9_ahead_2 rfl (lv_at hl 2 rfl) ?_
  obtain ⟨c3, hk⟩ := ok_c hk
  obtain ⟨q1, e2, hk⟩ := ok_b hk
  refine zVi X w (n := 2) (As := [.int i1, .int i2]) (rest := []) (ci := 9) (C := RX9) (T := TX9) (N := 23) (c_X9_isState l D cy G M r0 i1 i2 e2) (gzV wm_X9_171 wi_X9_isState ws_X9_isState wn_X9 wc_X9_isState) rfl rfl rfl (by decide +kernel) (by decide) rfl c3 rfl rfl hl.1 (Nat.le_of_ble_eq_true rfl) dX9_ahead_3 ⟨Nat.zero_le _, Nat.zero_le _⟩ (fun H locs w => ?_)
  refine lv_if_eq (tgt := 43) hx hb dX9_ahead_6 (by decide) (fun c4 => ?_) (fun c4 => ?_)
  · have hk := ok_p c4 hk
    refine lv_aload_n hx hb dX9_ahead_43 rfl (lv_at hl 0 rfl) ?_
    obtain ⟨q5, e6, hk⟩ := ok_b hk
    refine zVi X w (n := 0) (As := []) (rest := []) (ci := 9) (C := RX9) (T := TX9) (N := 23) (c_X9_refuse l D cy G M r0 e6) (gzV wm_X9_156 wi_X9_refuse ws_X9_refuse wn_X9 wc_X9_refuse) rfl rfl rfl (by decide +kernel) (by decide) rfl c3 rfl rfl hl.1 (Nat.le_of_ble_eq_true rfl) dX9_ahead_44 ⟨Nat.zero_le _, Nat.zero_le _⟩ (fun H locs w => ?_)
    refine lv_i2l hx hb dX9_ahead_47 rfl ?_
    have hk := hR _ (ok_s hk)
    exact zrl X hr hlk w dX9_ahead_48 (pr1 hk) (pr2 hk)
  · have hk := ok_n c4 hk
    refine lv_aload_n hx hb dX9_ahead_9 rfl (lv_at hl 0 rfl) ?_
    refine lv_iload_n hx hb dX9_ahead_10 rfl (lv_at hl 1 rfl) ?_
    refine lv_iload_n hx hb dX9_ahead_11 rfl (lv_at hl 3 rfl) ?_
    obtain ⟨q7, e8, hk⟩ := ok_b hk
    refine zVi X w (n := 2) (As := [.int i1, .int i3]) (rest := []) (ci := 9) (C := RX9) (T := TX9) (N := 23) (c_X9_isSet l D cy G M r0 i1 i3 e8) (gzV wm_X9_209 wi_X9_isSet ws_X9_isSet wn_X9 wc_X9_isSet) rfl rfl rfl (by decide +kernel) (by decide) rfl c3 rfl rfl hl.1 (Nat.le_of_ble_eq_true rfl) dX9_ahead_12 ⟨Nat.zero_le _, Nat.zero_le _⟩ (fun H locs w => ?_)
    refine lv_if_eq (tgt := 43) hx hb dX9_ahead_15 (by decide) (fun c9 => ?_) (fun c9 => ?_)
    · have hk := ok_p c9 hk
      refine lv_aload_n hx hb dX9_ahead_43 rfl (lv_at hl 0 rfl) ?_
      obtain ⟨q10, e11, hk⟩ := ok_b hk
      refine zVi X w (n := 0) (As := []) (rest := []) (ci := 9) (C := RX9) (T := TX9) (N := 23) (c_X9_refuse l D cy G M r0 e11) (gzV wm_X9_156 wi_X9_refuse ws_X9_refuse wn_X9 wc_X9_refuse) rfl rfl rfl (by decide +kernel) (by decide) rfl c3 rfl rfl hl.1 (Nat.le_of_ble_eq_true rfl) dX9_ahead_44 ⟨Nat.zero_le _, Nat.zero_le _⟩ (fun H locs w => ?_)
      refine lv_i2l hx hb dX9_ahead_47 rfl ?_
      have hk := hR _ (ok_s hk)
      exact zrl X hr hlk w dX9_ahead_48 (pr1 hk) (pr2 hk)
    · have hk := ok_n c9 hk
      refine lv_aload_n hx hb dX9_ahead_18 rfl (lv_at hl 0 rfl) ?_
      refine lv_iload_n hx hb dX9_ahead_19 rfl (lv_at hl 1 rfl) ?_
      refine lv_iload hx hb dX9_ahead_20 (lv_at hl 4 rfl) ?_
      obtain ⟨q12, e13, hk⟩ := ok_b hk
      refine zVi X w (n := 2) (As := [.int i1, .int i4]) (rest := []) (ci := 9) (C := RX9) (T := TX9) (N := 23) (c_X9_isSet l D cy G M r0 i1 i4 e13) (gzV wm_X9_209 wi_X9_isSet ws_X9_isSet wn_X9 wc_X9_isSet) rfl rfl rfl (by decide +kernel) (by decide) rfl c3 rfl rfl hl.1 (Nat.le_of_ble_eq_true rfl) dX9_ahead_22 ⟨Nat.zero_le _, Nat.zero_le _⟩ (fun H locs w => ?_)
      refine lv_if_eq (tgt := 43) hx hb dX9_ahead_25 (by decide) (fun c14 => ?_) (fun c14 => ?_)
      · have hk := ok_p c14 hk
        refine lv_aload_n hx hb dX9_ahead_43 rfl (lv_at hl 0 rfl) ?_
        obtain ⟨q15, e16, hk⟩ := ok_b hk
        refine zVi X w (n := 0) (As := []) (rest := []) (ci := 9) (C := RX9) (T := TX9) (N := 23) (c_X9_refuse l D cy G M r0 e16) (gzV wm_X9_156 wi_X9_refuse ws_X9_refuse wn_X9 wc_X9_refuse) rfl rfl rfl (by decide +kernel) (by decide) rfl c3 rfl rfl hl.1 (Nat.le_of_ble_eq_true rfl) dX9_ahead_44 ⟨Nat.zero_le _, Nat.zero_le _⟩ (fun H locs w => ?_)
        refine lv_i2l hx hb dX9_ahead_47 rfl ?_
        have hk := hR _ (ok_s hk)
        exact zrl X hr hlk w dX9_ahead_48 (pr1 hk) (pr2 hk)
      · have hk := ok_n c14 hk
        refine lv_iload_n hx hb dX9_ahead_28 rfl (lv_at hl 3 rfl) ?_
        refine lv_iload hx hb dX9_ahead_29 (lv_at hl 4 rfl) ?_
        refine lv_iand hx hb dX9_ahead_31 ?_
        refine lv_if_ne (tgt := 43) hx hb dX9_ahead_32 (by decide) (fun c17 => ?_) (fun c17 => ?_)
        · have hk := ok_n c17 hk
          refine lv_aload_n hx hb dX9_ahead_43 rfl (lv_at hl 0 rfl) ?_
          obtain ⟨q18, e19, hk⟩ := ok_b hk
          refine zVi X w (n := 0) (As := []) (rest := []) (ci := 9) (C := RX9) (T := TX9) (N := 23) (c_X9_refuse l D cy G M r0 e19) (gzV wm_X9_156 wi_X9_refuse ws_X9_refuse wn_X9 wc_X9_refuse) rfl rfl rfl (by decide +kernel) (by decide) rfl c3 rfl rfl hl.1 (Nat.le_of_ble_eq_true rfl) dX9_ahead_44 ⟨Nat.zero_le _, Nat.zero_le _⟩ (fun H locs w => ?_)
          refine lv_i2l hx hb dX9_ahead_47 rfl ?_
          have hk := hR _ (ok_s hk)
          exact zrl X hr hlk w dX9_ahead_48 (pr1 hk) (pr2 hk)
        · have hk := ok_p c17 hk
          refine lv_iload hx hb dX9_ahead_35 (lv_at hl 5 rfl) ?_
          obtain ⟨q20, e21, hk⟩ := ok_b hk
          refine zSi X w (n := 1) (As := [.int i5]) (rest := []) (c_X9_isWhat l D cy G M i5 e21) (gzS wm_X9_184 wt_X9_isWhat wn_X9 wc_X9_isWhat) rfl rfl rfl (by decide +kernel) (by decide) rfl rfl hl.1 (Nat.le_of_ble_eq_true rfl) dX9_ahead_37 ⟨Nat.zero_le _, Nat.zero_le _⟩ (fun H locs w => ?_)
          refine lv_if_ne (tgt := 49) hx hb dX9_ahead_40 (by decide) (fun c22 => ?_) (fun c22 => ?_)
          · have hk := ok_n c22 hk
            refine lv_iload_n hx hb dX9_ahead_49 rfl (lv_at hl 3 rfl) ?_
            refine lv_iload hx hb dX9_ahead_50 (lv_at hl 4 rfl) ?_
            refine lv_ior hx hb dX9_ahead_52 ?_
            refine lv_iload_n hx hb dX9_ahead_53 rfl (lv_at hl 2 rfl) ?_
            refine lv_ishr hx hb dX9_ahead_54 ?_
            refine lv_iconst (v := 1) hx hb dX9_ahead_55 (by decide) ?_
            refine lv_iand hx hb dX9_ahead_56 ?_
            refine lv_iconst (v := 1) hx hb dX9_ahead_57 (by decide) ?_
            refine lv_icmp_ne (tgt := 83) hx hb dX9_ahead_58 (by decide) (fun c23 => ?_) (fun c23 => ?_)
            · have hk := ok_n c23 hk
              refine lv_aload_n hx hb dX9_ahead_83 rfl (lv_at hl 0 rfl) ?_
              refine lv_iload_n hx hb dX9_ahead_84 rfl (lv_at hl 1 rfl) ?_
              refine lv_iload_n hx hb dX9_ahead_85 rfl (lv_at hl 2 rfl) ?_
              refine lv_iload_n hx hb dX9_ahead_86 rfl (lv_at hl 3 rfl) ?_
              refine lv_iload hx hb dX9_ahead_87 (lv_at hl 4 rfl) ?_
              refine lv_ior hx hb dX9_ahead_89 ?_
              obtain ⟨q24, e25, hk⟩ := ok_b hk
              refine zVi X w (n := 3) (As := [.int i1, .int i2, .int (i3 ||| i4)]) (rest := []) (ci := 9) (C := RX9) (T := TX9) (N := 23) (c_X9_roams l D cy G M r0 i1 i2 (i3 ||| i4) e25) (gzV wm_X9_212 wi_X9_roams ws_X9_roams wn_X9 wc_X9_roams) rfl rfl rfl (by decide +kernel) (by decide) rfl c3 rfl rfl hl.1 (Nat.le_of_ble_eq_true rfl) dX9_ahead_90 ⟨Nat.zero_le _, Nat.zero_le _⟩ (fun H locs w => ?_)
              refine lv_istore (lv' := [(6, .int q24), (0, .ref r0), (1, .int i1), (2, .int i2), (3, .int i3), (4, .int i4), (5, .int i5)]) hx hb dX9_ahead_93 hl (by decide) rfl (fun ls hl => ?_)
              refine lv_iconst (v := 0) hx hb dX9_ahead_95 (by decide) ?_
              refine lv_istore (lv' := [(7, .int (0 : Int32)), (6, .int q24), (0, .ref r0), (1, .int i1), (2, .int i2), (3, .int i3), (4, .int i4), (5, .int i5)]) hx hb dX9_ahead_96 hl (by decide) rfl (fun ls hl => ?_)
              refine lv_iconst (v := 0) hx hb dX9_ahead_98 (by decide) ?_
              refine lv_istore (lv' := [(8, .int (0 : Int32)), (7, .int (0 : Int32)), (6, .int q24), (0, .ref r0), (1, .int i1), (2, .int i2), (3, .int i3), (4, .int i4), (5, .int i5)]) hx hb dX9_ahead_99 hl (by decide) rfl (fun ls hl => ?_)
              refine wl_X9_ahead_101 X M r0 i1 i2 i3 i4 i5 q24 (Qo := _) (fun q38 hk H locs ls w hl => ?_) FU (0 : Int32) (0 : Int32) _ _ _ w (lv_sub hl [3, 4, 5, 6, 7, 8, 2, 1, 0] rfl) (ok_b hk)
              refine lv_iload hx hb dX9_ahead_158 (lv_at hl 5 rfl) ?_
              refine lv_iload_n hx hb dX9_ahead_160 rfl (lv_at hl 2 rfl) ?_
              refine lv_ishr hx hb dX9_ahead_161 ?_
              refine lv_iconst (v := 1) hx hb dX9_ahead_162 (by decide) ?_
              refine lv_iand hx hb dX9_ahead_163 ?_
              refine lv_if_ne (tgt := 176) hx hb dX9_ahead_164 (by decide) (fun c39 => ?_) (fun c39 => ?_)
              · have hk := ok_n c39 hk
                refine lv_aload_n hx hb dX9_ahead_176 rfl (lv_at hl 0 rfl) ?_
                refine lv_iload hx hb dX9_ahead_177 (lv_at hl 5 rfl) ?_
                obtain ⟨q40, e41, hk⟩ := ok_b hk
                refine zVi X w (n := 1) (As := [.int q38]) (rest := []) (ci := 9) (C := RX9) (T := TX9) (N := 23) (c_X9_list l D cy G M r0 q38 e41) (gzV wm_X9_126 wi_X9_list ws_X9_list wn_X9 wc_X9_list) rfl rfl rfl (by decide +kernel) (by decide) rfl c3 rfl rfl hl.1 (Nat.le_of_ble_eq_true rfl) dX9_ahead_179 ⟨Nat.zero_le _, Nat.zero_le _⟩ (fun H locs w => ?_)
                refine lv_istore (lv' := [(8, .int q40.1), (0, .ref r0), (1, .int i1), (2, .int i2), (3, .int i3), (5, .int i5), (7, .int q38)]) hx hb dX9_ahead_182 hl (by decide) rfl (fun ls hl => ?_)
                refine lv_aload_n hx hb dX9_ahead_184 rfl (lv_at hl 1 rfl) ?_
                refine lv_iload_n hx hb dX9_ahead_185 rfl (lv_at hl 2 rfl) ?_
                refine lv_iload hx hb dX9_ahead_186 (lv_at hl 0 rfl) ?_
                refine lv_iconst (v := (-1)) hx hb dX9_ahead_188 (by decide) ?_
                obtain ⟨q42, e43, hk⟩ := ok_b hk
                refine zVi X w (n := 3) (As := [.int i1, .int q40.1, .int (-1)]) (rest := []) (ci := 9) (C := RX9) (T := TX9) (N := 23) (c_X9_lay l D cy G q40.2 r0 i1 q40.1 (-1) e43) (gzV wm_X9_130 wi_X9_lay ws_X9_lay wn_X9 wc_X9_lay) rfl rfl rfl (by decide +kernel) (by decide) rfl c3 rfl rfl hl.1 (Nat.le_of_ble_eq_true rfl) dX9_ahead_189 ⟨Nat.zero_le _, Nat.zero_le _⟩ (fun H locs w => ?_)
                refine lv_istore (lv' := [(9, .int q42.1), (8, .int q40.1), (0, .ref r0), (1, .int i1), (2, .int i2), (3, .int i3), (5, .int i5), (7, .int q38)]) hx hb dX9_ahead_192 hl (by decide) rfl (fun ls hl => ?_)
                refine lv_iconst (v := 0) hx hb dX9_ahead_194 (by decide) ?_
                refine lv_istore (lv' := [(10, .int (0 : Int32)), (9, .int q42.1), (8, .int q40.1), (0, .ref r0), (1, .int i1), (2, .int i2), (3, .int i3), (5, .int i5), (7, .int q38)]) hx hb dX9_ahead_195 hl (by decide) rfl (fun ls hl => ?_)
                refine lv_iconst (v := 0) hx hb dX9_ahead_197 (by decide) ?_
                refine lv_istore (lv' := [(11, .int (0 : Int32)), (10, .int (0 : Int32)), (9, .int q42.1), (8, .int q40.1), (0, .ref r0), (1, .int i1), (2, .int i2), (3, .int i3), (5, .int i5), (7, .int q38)]) hx hb dX9_ahead_198 hl (by decide) rfl (fun ls hl => ?_)
                refine wl_X9_ahead_200 X r0 i1 i2 i3 i5 q40.1 q42.1 (Qo := _) (fun q73 hk H locs ls w hl => ?_) FU (0 : Int32) (0 : Int32) q42.2 _ _ _ w (lv_sub hl [4, 5, 6, 7, 8, 3, 2, 1, 0] rfl) (ok_b hk)
                refine lv_aload_n hx hb dX9_ahead_291 rfl (lv_at hl 0 rfl) ?_
                refine lv_iload hx hb dX9_ahead_292 (lv_at hl 2 rfl) ?_
                refine lv_iconst (v := (-1)) hx hb dX9_ahead_294 (by decide) ?_
                obtain ⟨q74, e75, hk⟩ := ok_b hk
                refine zVl X w (n := 2) (As := [.int q42.1, .int (-1)]) (rest := []) (ci := 9) (C := RX9) (T := TX9) (N := 23) (c_X9_determinant l D cy G q73.2 r0 q42.1 (-1) e75) (gzV wm_X9_133 wi_X9_determinant ws_X9_determinant wn_X9 wc_X9_determinant) rfl rfl rfl (by decide +kernel) (by decide) rfl c3 rfl rfl hl.1 (Nat.le_of_ble_eq_true rfl) dX9_ahead_295 ⟨Nat.zero_le _, Nat.zero_le _⟩ (fun H locs w => ?_)
                refine lv_lstore (lv' := [(11, .long q74.1), (0, .ref r0), (5, .int i5), (9, .int q42.1), (10, .int q73.1)]) hx hb dX9_ahead_298 hl (by decide) rfl (fun ls hl => ?_)
                refine lv_aload_n hx hb dX9_ahead_300 rfl (lv_at hl 1 rfl) ?_
                refine lv_aload_n hx hb dX9_ahead_301 rfl (lv_at hl 1 rfl) ?_
                refine lv_iload hx hb dX9_ahead_302 (lv_at hl 3 rfl) ?_
                refine lv_iload hx hb dX9_ahead_304 (lv_at hl 4 rfl) ?_
                obtain ⟨q76, e77, hk⟩ := ok_b hk
                refine zVl X w (n := 2) (As := [.int q42.1, .int q73.1]) (rest := [.ref r0]) (ci := 9) (C := RX9) (T := TX9) (N := 23) (c_X9_determinant l D cy G q74.2 r0 q42.1 q73.1 e77) (gzV wm_X9_133 wi_X9_determinant ws_X9_determinant wn_X9 wc_X9_determinant) rfl rfl rfl (by decide +kernel) (by decide) rfl c3 rfl rfl hl.1 (Nat.le_of_ble_eq_true rfl) dX9_ahead_306 ⟨Nat.zero_le _, Nat.zero_le _⟩ (fun H locs w => ?_)
                refine lv_lload hx hb dX9_ahead_309 (lv_at hl 0 rfl) ?_
                refine lv_iload hx hb dX9_ahead_311 (lv_at hl 2 rfl) ?_
                obtain ⟨q78, e79, hk⟩ := ok_b hk
                refine zVl X w (n := 3) (As := [.long q76.1, .long q74.1, .int i5]) (rest := []) (ci := 9) (C := RX9) (T := TX9) (N := 23) (c_X9_told l D cy G q76.2 r0 q76.1 q74.1 i5 e79) (gzV wm_X9_190 wi_X9_told ws_X9_told wn_X9 wc_X9_told) rfl rfl rfl (by decide +kernel) (by decide) rfl c3 rfl rfl hl.1 (Nat.le_of_ble_eq_true rfl) dX9_ahead_313 ⟨Nat.zero_le _, Nat.zero_le _⟩ (fun H locs w => ?_)
                have hk := hR _ (ok_s hk)
                exact zrl X hr hlk w dX9_ahead_316 (pr1 hk) (pr2 hk)
              · have hk := ok_p c39 hk
                refine lv_aload_n hx hb dX9_ahead_167 rfl (lv_at hl 0 rfl) ?_
                refine lv_lconst (v := 0) hx hb dX9_ahead_168 (by decide) ?_
                refine lv_lconst (v := 1) hx hb dX9_ahead_169 (by decide) ?_
                refine lv_iload hx hb dX9_ahead_170 (lv_at hl 4 rfl) ?_
                obtain ⟨q80, e81, hk⟩ := ok_b hk
                refine zVl X w (n := 3) (As := [.long (0 : Int64), .long (1 : Int64), .int i5]) (rest := []) (ci := 9) (C := RX9) (T := TX9) (N := 23) (c_X9_told l D cy G M r0 (0 : Int64) (1 : Int64) i5 e81) (gzV wm_X9_190 wi_X9_told ws_X9_told wn_X9 wc_X9_told) rfl rfl rfl (by decide +kernel) (by decide) rfl c3 rfl rfl hl.1 (Nat.le_of_ble_eq_true rfl) dX9_ahead_172 ⟨Nat.zero_le _, Nat.zero_le _⟩ (fun H locs w => ?_)
                have hk := hR _ (ok_s hk)
                exact zrl X hr hlk w dX9_ahead_175 (pr1 hk) (pr2 hk)
            · have hk := ok_p c23 hk
              refine lv_aload_n hx hb dX9_ahead_61 rfl (lv_at hl 0 rfl) ?_
              refine lv_iload_n hx hb dX9_ahead_62 rfl (lv_at hl 3 rfl) ?_
              refine lv_iload_n hx hb dX9_ahead_63 rfl (lv_at hl 2 rfl) ?_
              refine lv_ishr hx hb dX9_ahead_64 ?_
              refine lv_iconst (v := 1) hx hb dX9_ahead_65 (by decide) ?_
              refine lv_iand hx hb dX9_ahead_66 ?_
              refine lv_iconst (v := 1) hx hb dX9_ahead_67 (by decide) ?_
              refine lv_icmp_ne (tgt := 75) hx hb dX9_ahead_68 (by decide) (fun c82 => ?_) (fun c82 => ?_)
              · have hk := ok_n c82 hk
                refine lv_lconst (v := 0) hx hb dX9_ahead_75 (by decide) ?_
                refine lv_lconst (v := 1) hx hb dX9_ahead_76 (by decide) ?_
                refine lv_iload hx hb dX9_ahead_77 (lv_at hl 5 rfl) ?_
                obtain ⟨q83, e84, hk⟩ := ok_b hk
                refine zVl X w (n := 3) (As := [.long (0 : Int64), .long (1 : Int64), .int i5]) (rest := []) (ci := 9) (C := RX9) (T := TX9) (N := 23) (c_X9_told l D cy G M r0 (0 : Int64) (1 : Int64) i5 e84) (gzV wm_X9_190 wi_X9_told ws_X9_told wn_X9 wc_X9_told) rfl rfl rfl (by decide +kernel) (by decide) rfl c3 rfl rfl hl.1 (Nat.le_of_ble_eq_true rfl) dX9_ahead_79 ⟨Nat.zero_le _, Nat.zero_le _⟩ (fun H locs w => ?_)
                have hk := hR _ (ok_s hk)
                exact zrl X hr hlk w dX9_ahead_82 (pr1 hk) (pr2 hk)
              · have hk := ok_p c82 hk
                refine lv_lconst (v := 1) hx hb dX9_ahead_71 (by decide) ?_
                refine lv_goto (tgt := 76) hx hb dX9_ahead_72 (by decide) ?_
                refine lv_lconst (v := 1) hx hb dX9_ahead_76 (by decide) ?_
                refine lv_iload hx hb dX9_ahead_77 (lv_at hl 5 rfl) ?_
                obtain ⟨q85, e86, hk⟩ := ok_b hk
                refine zVl X w (n := 3) (As := [.long (1 : Int64), .long (1 : Int64), .int i5]) (rest := []) (ci := 9) (C := RX9) (T := TX9) (N := 23) (c_X9_told l D cy G M r0 (1 : Int64) (1 : Int64) i5 e86) (gzV wm_X9_190 wi_X9_told ws_X9_told wn_X9 wc_X9_told) rfl rfl rfl (by decide +kernel) (by decide) rfl c3 rfl rfl hl.1 (Nat.le_of_ble_eq_true rfl) dX9_ahead_79 ⟨Nat.zero_le _, Nat.zero_le _⟩ (fun H locs w => ?_)
                have hk := hR _ (ok_s hk)
                exact zrl X hr hlk w dX9_ahead_82 (pr1 hk) (pr2 hk)
          · have hk := ok_p c22 hk
            refine lv_aload_n hx hb dX9_ahead_43 rfl (lv_at hl 0 rfl) ?_
            obtain ⟨q87, e88, hk⟩ := ok_b hk
            refine zVi X w (n := 0) (As := []) (rest := []) (ci := 9) (C := RX9) (T := TX9) (N := 23) (c_X9_refuse l D cy G M r0 e88) (gzV wm_X9_156 wi_X9_refuse ws_X9_refuse wn_X9 wc_X9_refuse) rfl rfl rfl (by decide +kernel) (by decide) rfl c3 rfl rfl hl.1 (Nat.le_of_ble_eq_true rfl) dX9_ahead_44 ⟨Nat.zero_le _, Nat.zero_le _⟩ (fun H locs w => ?_)
            refine lv_i2l hx hb dX9_ahead_47 rfl ?_
            have hk := hR _ (ok_s hk)
            exact zrl X hr hlk w dX9_ahead_48 (pr1 hk) (pr2 hk)
abbrev rm_X9_isLess : Room := { frames := 0, cells := 0, slots := 0, locals := 0 }
set_option maxHeartbeats 4000000 in
set_option maxRecDepth 100000 in
theorem wb_X9_isLess_17 {p : Program} {l : Launch} {e : Env} {s : State} {m : MethodId} {args : Array Value} {below : List Frame} {meth : Method} {c : Code} {D : va_G} {cy : Cyy} {A : Nat → Prop} {G : Gg} (X : Cx p m c cX9_isLess 21 s args wz_X9_isLess RX9 D cy) {Q : State → Prop} (M : Mm)  (Qo : Int64 × Int64 × Int64 × Int64 × Int32 → Prop)  (hE : ∀ (y : Int64 × Int64 × Int64 × Int64 × Int32), Qo (y) → ∀ (H : Heap) (locs : List Loc) (ls : Array Slot), Wo s D cy A G M H locs → lv_has ls 21 [(8, .long y.1), (10, .long y.2.1), (12, .long y.2.2.1), (14, .long y.2.2.2.1), (16, .int y.2.2.2.2)] → W p l e rm_X9_isLess s m args below meth c H locs 0 0 Q (F0 m 90 ls [])) (rec : Int64 → Int64 → Int64 → Int64 → Int32 → Option (Int64 × Int64 × Int64 × Int64 × Int32)) (hrec : ∀ (l8 : Int64) (l10 : Int64) (l12 : Int64) (l14 : Int64) (i16 : Int32) (H : Heap) (locs : List Loc) (ls : Array Slot), Wo s D cy A G M H locs → lv_has ls 21 [(8, .long l8), (10, .long l10), (12, .long l12), (14, .long l14), (16, .int i16)] → OK (rec l8 l10 l12 l14 i16) Qo → W p l e rm_X9_isLess s m args below meth c H locs 0 0 Q (F0 m 17 ls [])) (l8 : Int64) (l10 : Int64) (l12 : Int64) (l14 : Int64) (i16 : Int32) (H : Heap) (locs : List Loc) (ls : Array Slot) (w : Wo s D cy A G M H locs) (hl : lv_has ls 21 [(8, .long l8), (10, .long l10), (12, .long l12), (14, .long l14), (16, .int i16)]) (hk : OK (bd_X9_isLess_17  rec l8 l10 l12 l14 i16) Qo) : W p l e rm_X9_isLess s m args below meth c H locs 0 0 Q (F0 m 17 ls []) := by
    have hx := X.1.1
    have hb := X.1.2.1
    unfold bd_X9_isLess_17 at hk
    refine lv_lload hx hb dX9_isLess_17 (lv_at hl 1 rfl) ?_
    refine lv_lconst (v := 0) hx hb dX9_isLess_19 (by decide) ?_
    refine W.lcmp hx hb dX9_isLess_20 ?_
    refine lv_if_eq (tgt := 90) hx hb dX9_isLess_21 (by decide) (fun c1 => ?_) (fun c1 => ?_)
    · have hk := ok_p c1 hk
      exact hE (l8, l10, l12, l14, i16) (ok_s hk) _ _ _ w (lv_sub hl [0, 1, 2, 3, 4] rfl)
    · have hk := ok_n c1 hk
      refine lv_lload hx hb dX9_isLess_24 (lv_at hl 3 rfl) ?_
      refine lv_lconst (v := 0) hx hb dX9_isLess_26 (by decide) ?_
      refine W.lcmp hx hb dX9_isLess_27 ?_
      refine lv_if_eq (tgt := 90) hx hb dX9_isLess_28 (by decide) (fun c2 => ?_) (fun c2 => ?_)
      · have hk := ok_p c2 hk
        exact hE (l8, l10, l12, l14, i16) (ok_s hk) _ _ _ w (lv_sub hl [0, 1, 2, 3, 4] rfl)
      · have hk := ok_n c2 hk
        refine lv_lload hx hb dX9_isLess_31 (lv_at hl 0 rfl) ?_
        refine lv_lload hx hb dX9_isLess_33 (lv_at hl 1 rfl) ?_
        obtain ⟨c3, hk⟩ := ok_c hk
        refine lv_ldiv hx hb dX9_isLess_35 c3 ?_
        refine lv_lload hx hb dX9_isLess_36 (lv_at hl 2 rfl) ?_
        refine lv_lload hx hb dX9_isLess_38 (lv_at hl 3 rfl) ?_
        obtain ⟨c4, hk⟩ := ok_c hk
        refine lv_ldiv hx hb dX9_isLess_40 c4 ?_
        refine W.lcmp hx hb dX9_isLess_41 ?_
        refine lv_if_ne (tgt := 90) hx hb dX9_isLess_42 (by decide) (fun c5 => ?_) (fun c5 => ?_)
        · have hk := ok_n c5 hk
          exact hE (l8, l10, l12, l14, i16) (ok_s hk) _ _ _ w (lv_sub hl [0, 1, 2, 3, 4] rfl)
        · have hk := ok_p c5 hk
          refine lv_lload hx hb dX9_isLess_45 (lv_at hl 0 rfl) ?_
          refine lv_lload hx hb dX9_isLess_47 (lv_at hl 1 rfl) ?_
          refine lv_lrem hx hb dX9_isLess_49 c3 ?_
          refine lv_lstore (lv' := [(17, .long (l8 - l8 / l10 * l10)), (8, .long l8), (10, .long l10), (12, .long l12), (14, .long l14), (16, .int i16)]) hx hb dX9_isLess_50 hl (by decide) rfl (fun ls hl => ?_)
          refine lv_lload hx hb dX9_isLess_52 (lv_at hl 3 rfl) ?_
          refine lv_lload hx hb dX9_isLess_54 (lv_at hl 4 rfl) ?_
          refine lv_lrem hx hb dX9_isLess_56 c4 ?_
          refine lv_lstore (lv' := [(19, .long (l12 - l12 / l14 * l14)), (17, .long (l8 - l8 / l10 * l10)), (8, .long l8), (10, .long l10), (12, .long l12), (14, .long l14), (16, .int i16)]) hx hb dX9_isLess_57 hl (by decide) rfl (fun ls hl => ?_)
          refine lv_lload hx hb dX9_isLess_59 (lv_at hl 3 rfl) ?_
          refine lv_lstore (lv' := [(8, .long l10), (19, .long (l12 - l12 / l14 * l14)), (17, .long (l8 - l8 / l10 * l10)), (10, .long l10), (12, .long l12), (14, .long l14), (16, .int i16)]) hx hb dX9_isLess_61 hl (by decide) rfl (fun ls hl => ?_)
          refine lv_lload hx hb dX9_isLess_63 (lv_at hl 2 rfl) ?_
          refine lv_lstore (lv' := [(10, .long (l8 - l8 / l10 * l10)), (8, .long l10), (19, .long (l12 - l12 / l14 * l14)), (17, .long (l8 - l8 / l10 * l10)), (12, .long l12), (14, .long l14), (16, .int i16)]) hx hb dX9_isLess_65 hl (by decide) rfl (fun ls hl => ?_)
          refine lv_lload hx hb dX9_isLess_67 (lv_at hl 5 rfl) ?_
          refine lv_lstore (lv' := [(12, .long l14), (10, .long (l8 - l8 / l10 * l10)), (8, .long l10), (19, .long (l12 - l12 / l14 * l14)), (17, .long (l8 - l8 / l10 * l10)), (14, .long l14), (16, .int i16)]) hx hb dX9_isLess_69 hl (by decide) rfl (fun ls hl => ?_)
          refine lv_lload hx hb dX9_isLess_71 (lv_at hl 3 rfl) ?_
          refine lv_lstore (lv' := [(14, .long (l12 - l12 / l14 * l14)), (12, .long l14), (10, .long (l8 - l8 / l10 * l10)), (8, .long l10), (19, .long (l12 - l12 / l14 * l14)), (17, .long (l8 - l8 / l10 * l10)), (16, .int i16)]) hx hb dX9_isLess_73 hl (by decide) rfl (fun ls hl => ?_)
          refine lv_iload hx hb dX9_isLess_75 (lv_at hl 6 rfl) ?_
          refine lv_if_ne (tgt := 84) hx hb dX9_isLess_77 (by decide) (fun c6 => ?_) (fun c6 => ?_)
          · have hk := ok_n c6 hk
            refine lv_iconst (v := 0) hx hb dX9_isLess_84 (by decide) ?_
            refine lv_istore (lv' := [(16, .int (0 : Int32)), (14, .long (l12 - l12 / l14 * l14)), (12, .long l14), (10, .long (l8 - l8 / l10 * l10)), (8, .long l10), (19, .long (l12 - l12 / l14 * l14)), (17, .long (l8 - l8 / l10 * l10))]) hx hb dX9_isLess_85 hl (by decide) rfl (fun ls hl => ?_)
            refine lv_goto (tgt := 17) hx hb dX9_isLess_87 (by decide) ?_
            exact hrec l10 (l8 - l8 / l10 * l10) l14 (l12 - l12 / l14 * l14) (0 : Int32) _ _ _ w (lv_sub hl [4, 3, 2, 1, 0] rfl) hk
          · have hk := ok_p c6 hk
            refine lv_iconst (v := 1) hx hb dX9_isLess_80 (by decide) ?_
            refine lv_goto (tgt := 85) hx hb dX9_isLess_81 (by decide) ?_
            refine lv_istore (lv' := [(16, .int (1 : Int32)), (14, .long (l12 - l12 / l14 * l14)), (12, .long l14), (10, .long (l8 - l8 / l10 * l10)), (8, .long l10), (19, .long (l12 - l12 / l14 * l14)), (17, .long (l8 - l8 / l10 * l10))]) hx hb dX9_isLess_85 hl (by decide) rfl (fun ls hl => ?_)
            refine lv_goto (tgt := 17) hx hb dX9_isLess_87 (by decide) ?_
            exact hrec l10 (l8 - l8 / l10 * l10) l14 (l12 - l12 / l14 * l14) (1 : Int32) _ _ _ w (lv_sub hl [4, 3, 2, 1, 0] rfl) hk
theorem wl_X9_isLess_17 {p : Program} {l : Launch} {e : Env} {s : State} {m : MethodId} {args : Array Value} {below : List Frame} {meth : Method} {c : Code} {D : va_G} {cy : Cyy} {A : Nat → Prop} {G : Gg} (X : Cx p m c cX9_isLess 21 s args wz_X9_isLess RX9 D cy) {Q : State → Prop} (M : Mm)  (Qo : Int64 × Int64 × Int64 × Int64 × Int32 → Prop)  (hE : ∀ (y : Int64 × Int64 × Int64 × Int64 × Int32), Qo (y) → ∀ (H : Heap) (locs : List Loc) (ls : Array Slot), Wo s D cy A G M H locs → lv_has ls 21 [(8, .long y.1), (10, .long y.2.1), (12, .long y.2.2.1), (14, .long y.2.2.2.1), (16, .int y.2.2.2.2)] → W p l e rm_X9_isLess s m args below meth c H locs 0 0 Q (F0 m 90 ls [])) : ∀ (n : Nat) (l8 : Int64) (l10 : Int64) (l12 : Int64) (l14 : Int64) (i16 : Int32) (H : Heap) (locs : List Loc) (ls : Array Slot), Wo s D cy A G M H locs → lv_has ls 21 [(8, .long l8), (10, .long l10), (12, .long l12), (14, .long l14), (16, .int i16)] → OK (lp_X9_isLess_17  n l8 l10 l12 l14 i16) Qo → W p l e rm_X9_isLess s m args below meth c H locs 0 0 Q (F0 m 17 ls []) := by
  intro n
  induction n with
  | zero => intro l8 l10 l12 l14 i16 H locs ls w hl hk; exact ok_0 hk
  | succ n ih => intro l8 l10 l12 l14 i16 H locs ls w hl hk; exact wb_X9_isLess_17 X M  Qo hE  (lp_X9_isLess_17  n) ih l8 l10 l12 l14 i16 H locs ls w hl hk
set_option maxHeartbeats 4000000 in
set_option maxRecDepth 100000 in
theorem wj_X9_isLess_104 {p : Program} {l : Launch} {e : Env} {s : State} {m : MethodId} {args : Array Value} {below : List Frame} {meth : Method} {c : Code} {D : va_G} {cy : Cyy} {A : Nat → Prop} {G : Gg} (X : Cx p m c cX9_isLess 21 s args wz_X9_isLess RX9 D cy) (M0 M : Mm) (Qo : Int32 → Prop) (hr : meth.sig.returnType = (some .boolean)) (hlk : meth.locks = false) {x0 : Int32} (hR : ∀ x, Qo x → x = x0)  (l10 : Int64) (l14 : Int64) (i16 : Int32)  (H : Heap) (locs : List Loc) (ls : Array Slot) (w : Wo s D cy A G M H locs) (hl : lv_has ls 21 [(10, .long l10), (14, .long l14), (16, .int i16)]) (hk : OK (jn_X9_isLess_104  l10 l14 i16) Qo) : W p l e rm_X9_isLess s m args below meth c H locs 0 0 (MQ below (QI D cy G A x0 M) args s 0 0 A) (F0 m 104 ls []) := by
    have hx := X.1.1
    have hb := X.1.2.1
    unfold jn_X9_isLess_104 at hk
    refine lv_lload hx hb dX9_isLess_104 (lv_at hl 0 rfl) ?_
    refine lv_lconst (v := 0) hx hb dX9_isLess_106 (by decide) ?_
    refine W.lcmp hx hb dX9_isLess_107 ?_
    refine lv_if_ne (tgt := 126) hx hb dX9_isLess_108 (by decide) (fun c9 => ?_) (fun c9 => ?_)
    · have hk := ok_n c9 hk
      refine lv_iload hx hb dX9_isLess_126 (lv_at hl 2 rfl) ?_
      refine lv_if_ne (tgt := 143) hx hb dX9_isLess_128 (by decide) (fun c10 => ?_) (fun c10 => ?_)
      · have hk := ok_n c10 hk
        refine lv_iconst (v := 0) hx hb dX9_isLess_143 (by decide) ?_
        have hk := hR _ (ok_s hk)
        exact zrz X hr hlk w dX9_isLess_144 (by decide) hk rfl
      · have hk := ok_p c10 hk
        refine lv_lload hx hb dX9_isLess_131 (lv_at hl 0 rfl) ?_
        refine lv_lload hx hb dX9_isLess_133 (lv_at hl 1 rfl) ?_
        refine W.lcmp hx hb dX9_isLess_135 ?_
        refine lv_if_eq (tgt := 143) hx hb dX9_isLess_136 (by decide) (fun c11 => ?_) (fun c11 => ?_)
        · have hk := ok_p c11 hk
          refine lv_iconst (v := 0) hx hb dX9_isLess_143 (by decide) ?_
          have hk := hR _ (ok_s hk)
          exact zrz X hr hlk w dX9_isLess_144 (by decide) hk rfl
        · have hk := ok_n c11 hk
          refine lv_iconst (v := 1) hx hb dX9_isLess_139 (by decide) ?_
          refine lv_goto (tgt := 144) hx hb dX9_isLess_140 (by decide) ?_
          have hk := hR _ (ok_s hk)
          exact zrz X hr hlk w dX9_isLess_144 (by decide) hk rfl
    · have hk := ok_p c9 hk
      refine lv_lload hx hb dX9_isLess_111 (lv_at hl 1 rfl) ?_
      refine lv_lconst (v := 0) hx hb dX9_isLess_113 (by decide) ?_
      refine W.lcmp hx hb dX9_isLess_114 ?_
      refine lv_if_eq (tgt := 143) hx hb dX9_isLess_115 (by decide) (fun c12 => ?_) (fun c12 => ?_)
      · have hk := ok_p c12 hk
        refine lv_iconst (v := 0) hx hb dX9_isLess_143 (by decide) ?_
        have hk := hR _ (ok_s hk)
        exact zrz X hr hlk w dX9_isLess_144 (by decide) hk rfl
      · have hk := ok_n c12 hk
        refine lv_iload hx hb dX9_isLess_118 (lv_at hl 2 rfl) ?_
        refine lv_if_eq (tgt := 143) hx hb dX9_isLess_120 (by decide) (fun c13 => ?_) (fun c13 => ?_)
        · have hk := ok_p c13 hk
          refine lv_iconst (v := 0) hx hb dX9_isLess_143 (by decide) ?_
          have hk := hR _ (ok_s hk)
          exact zrz X hr hlk w dX9_isLess_144 (by decide) hk rfl
        · have hk := ok_n c13 hk
          refine lv_goto (tgt := 131) hx hb dX9_isLess_123 (by decide) ?_
          refine lv_lload hx hb dX9_isLess_131 (lv_at hl 0 rfl) ?_
          refine lv_lload hx hb dX9_isLess_133 (lv_at hl 1 rfl) ?_
          refine W.lcmp hx hb dX9_isLess_135 ?_
          refine lv_if_eq (tgt := 143) hx hb dX9_isLess_136 (by decide) (fun c14 => ?_) (fun c14 => ?_)
          · have hk := ok_p c14 hk
            refine lv_iconst (v := 0) hx hb dX9_isLess_143 (by decide) ?_
            have hk := hR _ (ok_s hk)
            exact zrz X hr hlk w dX9_isLess_144 (by decide) hk rfl
          · have hk := ok_n c14 hk
            refine lv_iconst (v := 1) hx hb dX9_isLess_139 (by decide) ?_
            refine lv_goto (tgt := 144) hx hb dX9_isLess_140 (by decide) ?_
            have hk := hR _ (ok_s hk)
            exact zrz X hr hlk w dX9_isLess_144 (by decide) hk rfl
set_option maxHeartbeats 4000000 in
set_option maxRecDepth 100000 in
theorem wj_X9_isLess_90 {p : Program} {l : Launch} {e : Env} {s : State} {m : MethodId} {args : Array Value} {below : List Frame} {meth : Method} {c : Code} {D : va_G} {cy : Cyy} {A : Nat → Prop} {G : Gg} (X : Cx p m c cX9_isLess 21 s args wz_X9_isLess RX9 D cy) (M0 M : Mm) (Qo : Int32 → Prop) (hr : meth.sig.returnType = (some .boolean)) (hlk : meth.locks = false) {x0 : Int32} (hR : ∀ x, Qo x → x = x0)  (l8 : Int64) (l10 : Int64) (l12 : Int64) (l14 : Int64) (i16 : Int32)  (H : Heap) (locs : List Loc) (ls : Array Slot) (w : Wo s D cy A G M H locs) (hl : lv_has ls 21 [(8, .long l8), (10, .long l10), (12, .long l12), (14, .long l14), (16, .int i16)]) (hk : OK (jn_X9_isLess_90  l8 l10 l12 l14 i16) Qo) : W p l e rm_X9_isLess s m args below meth c H locs 0 0 (MQ below (QI D cy G A x0 M) args s 0 0 A) (F0 m 90 ls []) := by
    have hx := X.1.1
    have hb := X.1.2.1
    unfold jn_X9_isLess_90 at hk
    refine lv_lload hx hb dX9_isLess_90 (lv_at hl 1 rfl) ?_
    refine lv_lconst (v := 0) hx hb dX9_isLess_92 (by decide) ?_
    refine W.lcmp hx hb dX9_isLess_93 ?_
    refine lv_if_eq (tgt := 104) hx hb dX9_isLess_94 (by decide) (fun c8 => ?_) (fun c8 => ?_)
    · have hk := ok_p c8 hk
      exact wj_X9_isLess_104 X M M _ hr hlk hR l10 l14 i16 _ _ _ w (lv_sub hl [1, 3, 4] rfl) hk
    · have hk := ok_n c8 hk
      refine lv_lload hx hb dX9_isLess_97 (lv_at hl 3 rfl) ?_
      refine lv_lconst (v := 0) hx hb dX9_isLess_99 (by decide) ?_
      refine W.lcmp hx hb dX9_isLess_100 ?_
      refine lv_if_ne (tgt := 145) hx hb dX9_isLess_101 (by decide) (fun c15 => ?_) (fun c15 => ?_)
      · have hk := ok_n c15 hk
        refine lv_lload hx hb dX9_isLess_145 (lv_at hl 0 rfl) ?_
        refine lv_lload hx hb dX9_isLess_147 (lv_at hl 1 rfl) ?_
        obtain ⟨c16, hk⟩ := ok_c hk
        refine lv_ldiv hx hb dX9_isLess_149 c16 ?_
        refine lv_lload hx hb dX9_isLess_150 (lv_at hl 2 rfl) ?_
        refine lv_lload hx hb dX9_isLess_152 (lv_at hl 3 rfl) ?_
        obtain ⟨c17, hk⟩ := ok_c hk
        refine lv_ldiv hx hb dX9_isLess_154 c17 ?_
        refine W.lcmp hx hb dX9_isLess_155 ?_
        refine lv_if_ge (tgt := 163) hx hb dX9_isLess_156 (by decide) (fun c18 => ?_) (fun c18 => ?_)
        · have hk := ok_p c18 hk
          refine lv_iconst (v := 0) hx hb dX9_isLess_163 (by decide) ?_
          refine lv_iload hx hb dX9_isLess_164 (lv_at hl 4 rfl) ?_
          refine lv_icmp_eq (tgt := 173) hx hb dX9_isLess_166 (by decide) (fun c19 => ?_) (fun c19 => ?_)
          · have hk := ok_p c19 hk
            refine lv_iconst (v := 0) hx hb dX9_isLess_173 (by decide) ?_
            have hk := hR _ (ok_s hk)
            exact zrz X hr hlk w dX9_isLess_174 (by decide) hk rfl
          · have hk := ok_n c19 hk
            refine lv_iconst (v := 1) hx hb dX9_isLess_169 (by decide) ?_
            refine lv_goto (tgt := 174) hx hb dX9_isLess_170 (by decide) ?_
            have hk := hR _ (ok_s hk)
            exact zrz X hr hlk w dX9_isLess_174 (by decide) hk rfl
        · have hk := ok_n c18 hk
          refine lv_iconst (v := 1) hx hb dX9_isLess_159 (by decide) ?_
          refine lv_goto (tgt := 164) hx hb dX9_isLess_160 (by decide) ?_
          refine lv_iload hx hb dX9_isLess_164 (lv_at hl 4 rfl) ?_
          refine lv_icmp_eq (tgt := 173) hx hb dX9_isLess_166 (by decide) (fun c20 => ?_) (fun c20 => ?_)
          · have hk := ok_p c20 hk
            refine lv_iconst (v := 0) hx hb dX9_isLess_173 (by decide) ?_
            have hk := hR _ (ok_s hk)
            exact zrz X hr hlk w dX9_isLess_174 (by decide) hk rfl
          · have hk := ok_n c20 hk
            refine lv_iconst (v := 1) hx hb dX9_isLess_169 (by decide) ?_
            refine lv_goto (tgt := 174) hx hb dX9_isLess_170 (by decide) ?_
            have hk := hR _ (ok_s hk)
            exact zrz X hr hlk w dX9_isLess_174 (by decide) hk rfl
      · have hk := ok_p c15 hk
        exact wj_X9_isLess_104 X M M _ hr hlk hR l10 l14 i16 _ _ _ w (lv_sub hl [1, 3, 4] rfl) hk
set_option maxHeartbeats 4000000 in
set_option maxRecDepth 100000 in
theorem c_X9_isLess (l : Launch) (D : va_G) (cy : Cyy) (G : Gg) (M : Mm) (l0 : Int64) (l2 : Int64) (l4 : Int64) (l6 : Int64) {q : Int32} (hm : f_X9_isLess l0 l2 l4 l6 = some q) : CI l yX9_isLess wz_X9_isLess rm_X9_isLess D cy G M [.long l0, .long l2, .long l4, .long l6] q M := by
  refine Met_of (Qf := fun A => QI D cy G A q M) (cc := cX9_isLess) (nL := 21) (ret := (some .boolean)) (own := RX9) (lv := [(0, .long l0), (2, .long l2), (4, .long l4), (6, .long l6)]) (by decide) rfl rfl (Nat.le_of_ble_eq_true rfl) rfl ?_
  intro p e s m args below meth c A ls X hr hlk w hl
  have hx := X.1.1
  have hb := X.1.2.1
  obtain ⟨Qo, hR, hk⟩ : ∃ Qo : Int32 → Prop, (∀ x, Qo x → x = q) ∧ OK (f_X9_isLess l0 l2 l4 l6) Qo := ⟨fun x => x = q, fun _ h => h, q, hm, rfl⟩
  unfold f_X9_isLess at hk
  refine lv_lload_n hx hb dX9_isLess_0 rfl (lv_at hl 0 rfl) ?_
  refine lv_lstore (lv' := [(8, .long l0), (0, .long l0), (2, .long l2), (4, .long l4), (6, .long l6)]) hx hb dX9_isLess_1 hl (by decide) rfl (fun ls hl => ?_)
  refine lv_lload_n hx hb dX9_isLess_3 rfl (lv_at hl 2 rfl) ?_
  refine lv_lstore (lv' := [(10, .long l2), (8, .long l0), (0, .long l0), (2, .long l2), (4, .long l4), (6, .long l6)]) hx hb dX9_isLess_4 hl (by decide) rfl (fun ls hl => ?_)
  refine lv_lload hx hb dX9_isLess_6 (lv_at hl 4 rfl) ?_
  refine lv_lstore (lv' := [(12, .long l4), (10, .long l2), (8, .long l0), (0, .long l0), (2, .long l2), (4, .long l4), (6, .long l6)]) hx hb dX9_isLess_8 hl (by decide) rfl (fun ls hl => ?_)
  refine lv_lload hx hb dX9_isLess_10 (lv_at hl 6 rfl) ?_
  refine lv_lstore (lv' := [(14, .long l6), (12, .long l4), (10, .long l2), (8, .long l0), (0, .long l0), (2, .long l2), (4, .long l4), (6, .long l6)]) hx hb dX9_isLess_12 hl (by decide) rfl (fun ls hl => ?_)
  refine lv_iconst (v := 0) hx hb dX9_isLess_14 (by decide) ?_
  refine lv_istore (lv' := [(16, .int (0 : Int32)), (14, .long l6), (12, .long l4), (10, .long l2), (8, .long l0), (0, .long l0), (2, .long l2), (4, .long l4), (6, .long l6)]) hx hb dX9_isLess_15 hl (by decide) rfl (fun ls hl => ?_)
  refine wl_X9_isLess_17 X M  (Qo := _) (fun q7 hk H locs ls w hl => ?_) FU l0 l2 l4 l6 (0 : Int32) _ _ _ w (lv_sub hl [4, 3, 2, 1, 0] rfl) (ok_b hk)
  exact wj_X9_isLess_90 X M M _ hr hlk hR q7.1 q7.2.1 q7.2.2.1 q7.2.2.2.1 q7.2.2.2.2 _ _ _ w (lv_sub hl [0, 1, 2, 3, 4] rfl) hk
abbrev rm_X9_narrowest : Room := { frames := 4, cells := 0, slots := 0, locals := 121 }
set_option maxHeartbeats 4000000 in
set_option maxRecDepth 100000 in
theorem wb_X9_narrowest_104 {p : Program} {l : Launch} {e : Env} {s : State} {m : MethodId} {args : Array Value} {below : List Frame} {meth : Method} {c : Code} {D : va_G} {cy : Cyy} {A : Nat → Prop} {G : Gg} (X : Cx p m c cX9_narrowest 11 s args wz_X9_narrowest RX9 D cy) {Q : State → Prop} (M : Mm) (r0 : Nat) (i1 : Int32) (i2 : Int32) (i3 : Int32) (i4 : Int32) (l5 : Int64) (i9 : Int32) (Qo : Int64 → Prop)  (hE : ∀ (y : Int64), Qo (y) → ∀ (H : Heap) (locs : List Loc) (ls : Array Slot), Wo s D cy A G M H locs → lv_has ls 11 [(0, .ref r0), (1, .int i1), (2, .int i2), (3, .int i3), (4, .int i4), (5, .long l5), (7, .long y), (9, .int i9)] → W p l e rm_X9_narrowest s m args below meth c H locs 0 0 Q (F0 m 149 ls [])) (rec : Int64 → Int32 → Option (Int64)) (hrec : ∀ (l7 : Int64) (i10 : Int32) (H : Heap) (locs : List Loc) (ls : Array Slot), Wo s D cy A G M H locs → lv_has ls 11 [(0, .ref r0), (1, .int i1), (2, .int i2), (3, .int i3), (4, .int i4), (5, .long l5), (7, .long l7), (9, .int i9), (10, .int i10)] → OK (rec l7 i10) Qo → W p l e rm_X9_narrowest s m args below meth c H locs 0 0 Q (F0 m 104 ls [])) (l7 : Int64) (i10 : Int32) (H : Heap) (locs : List Loc) (ls : Array Slot) (w : Wo s D cy A G M H locs) (hl : lv_has ls 11 [(0, .ref r0), (1, .int i1), (2, .int i2), (3, .int i3), (4, .int i4), (5, .long l5), (7, .long l7), (9, .int i9), (10, .int i10)]) (hk : OK (bd_X9_narrowest_104 G M r0 i1 i2 i3 i4 l5 i9 rec l7 i10) Qo) : W p l e rm_X9_narrowest s m args below meth c H locs 0 0 Q (F0 m 104 ls []) := by
    have hx := X.1.1
    have hb := X.1.2.1
    unfold bd_X9_narrowest_104 at hk
    refine lv_iload hx hb dX9_narrowest_104 (lv_at hl 8 rfl) ?_
    refine lv_iload_n hx hb dX9_narrowest_106 rfl (lv_at hl 2 rfl) ?_
    refine lv_icmp_ge (tgt := 149) hx hb dX9_narrowest_107 (by decide) (fun c27 => ?_) (fun c27 => ?_)
    · have hk := ok_p c27 hk
      exact hE l7 (ok_s hk) _ _ _ w (lv_sub hl [0, 1, 2, 3, 4, 5, 6, 7] rfl)
    · have hk := ok_n c27 hk
      refine lv_iload hx hb dX9_narrowest_110 (lv_at hl 4 rfl) ?_
      refine lv_iload hx hb dX9_narrowest_112 (lv_at hl 8 rfl) ?_
      refine lv_ishr hx hb dX9_narrowest_114 ?_
      refine lv_iconst (v := 1) hx hb dX9_narrowest_115 (by decide) ?_
      refine lv_iand hx hb dX9_narrowest_116 ?_
      refine lv_if_ne (tgt := 143) hx hb dX9_narrowest_117 (by decide) (fun c28 => ?_) (fun c28 => ?_)
      · have hk := ok_n c28 hk
        refine lv_iinc (v := (i10 + 1)) (lv' := [(10, .int (i10 + 1)), (0, .ref r0), (1, .int i1), (2, .int i2), (3, .int i3), (4, .int i4), (5, .long l5), (7, .long l7), (9, .int i9)]) hx hb dX9_narrowest_143 hl (k := 8) rfl rfl (by decide) rfl (fun ls hl => ?_)
        refine lv_goto (tgt := 104) hx hb dX9_narrowest_146 (by decide) ?_
        exact hrec l7 (i10 + 1) _ _ _ w (lv_sub hl [1, 2, 3, 4, 5, 6, 7, 8, 0] rfl) hk
      · have hk := ok_p c28 hk
        refine lv_lload hx hb dX9_narrowest_120 (lv_at hl 6 rfl) ?_
        refine lv_aload_n hx hb dX9_narrowest_122 rfl (lv_at hl 0 rfl) ?_
        obtain ⟨c29, hk⟩ := ok_c hk
        obtain ⟨r30, e31, hk⟩ := ok_b hk
        refine zgr X w 9 12 38 (C := RX9) (T := TX9) (N := 23) rfl ui_X9 (by decide) rfl (tb wf_X9_38) dX9_narrowest_123 c29 e31 ?_
        refine lv_iload hx hb dX9_narrowest_126 (lv_at hl 7 rfl) ?_
        obtain ⟨c32, hk⟩ := ok_c hk
        obtain ⟨c33, hk⟩ := ok_c hk
        refine zal X w dX9_narrowest_128 c32 c33 ?_
        refine lv_aload_n hx hb dX9_narrowest_129 rfl (lv_at hl 0 rfl) ?_
        refine lv_iload_n hx hb dX9_narrowest_130 rfl (lv_at hl 1 rfl) ?_
        refine lv_iload hx hb dX9_narrowest_131 (lv_at hl 7 rfl) ?_
        refine lv_iload hx hb dX9_narrowest_133 (lv_at hl 8 rfl) ?_
        obtain ⟨q34, e35, hk⟩ := ok_b hk
        refine zVi X w (n := 3) (As := [.int i1, .int i9, .int i10]) (rest := [.long (M.2.1 r30 (Int32.toNatClampNeg i9)), .long l7]) (ci := 9) (C := RX9) (T := TX9) (N := 23) (c_X9_at l D cy G M r0 i1 i9 i10 e35) (gzV wm_X9_70 wi_X9_at ws_X9_at wn_X9 wc_X9_at) rfl rfl rfl (by decide +kernel) (by decide) rfl c29 rfl rfl hl.1 (Nat.le_of_ble_eq_true rfl) dX9_narrowest_135 ⟨Nat.zero_le _, Nat.zero_le _⟩ (fun H locs w => ?_)
        refine lv_i2l hx hb dX9_narrowest_138 rfl ?_
        refine lv_lmul hx hb dX9_narrowest_139 ?_
        refine lv_ladd hx hb dX9_narrowest_140 ?_
        refine lv_lstore (lv' := [(7, .long (l7 + ((M.2.1 r30 (Int32.toNatClampNeg i9)) * (Int32.toInt64 q34)))), (0, .ref r0), (1, .int i1), (2, .int i2), (3, .int i3), (4, .int i4), (5, .long l5), (9, .int i9), (10, .int i10)]) hx hb dX9_narrowest_141 hl (by decide) rfl (fun ls hl => ?_)
        refine lv_iinc (v := (i10 + 1)) (lv' := [(10, .int (i10 + 1)), (7, .long (l7 + ((M.2.1 r30 (Int32.toNatClampNeg i9)) * (Int32.toInt64 q34)))), (0, .ref r0), (1, .int i1), (2, .int i2), (3, .int i3), (4, .int i4), (5, .long l5), (9, .int i9)]) hx hb dX9_narrowest_143 hl (k := 8) rfl rfl (by decide) rfl (fun ls hl => ?_)
        refine lv_goto (tgt := 104) hx hb dX9_narrowest_146 (by decide) ?_
        exact hrec (l7 + ((M.2.1 r30 (Int32.toNatClampNeg i9)) * (Int32.toInt64 q34))) (i10 + 1) _ _ _ w (lv_sub hl [2, 3, 4, 5, 6, 7, 1, 8, 0] rfl) hk
theorem wl_X9_narrowest_104 {p : Program} {l : Launch} {e : Env} {s : State} {m : MethodId} {args : Array Value} {below : List Frame} {meth : Method} {c : Code} {D : va_G} {cy : Cyy} {A : Nat → Prop} {G : Gg} (X : Cx p m c cX9_narrowest 11 s args wz_X9_narrowest RX9 D cy) {Q : State → Prop} (M : Mm) (r0 : Nat) (i1 : Int32) (i2 : Int32) (i3 : Int32) (i4 : Int32) (l5 : Int64) (i9 : Int32) (Qo : Int64 → Prop)  (hE : ∀ (y : Int64), Qo (y) → ∀ (H : Heap) (locs : List Loc) (ls : Array Slot), Wo s D cy A G M H locs → lv_has ls 11 [(0, .ref r0), (1, .int i1), (2, .int i2), (3, .int i3), (4, .int i4), (5, .long l5), (7, .long y), (9, .int i9)] → W p l e rm_X9_narrowest s m args below meth c H locs 0 0 Q (F0 m 149 ls [])) : ∀ (n : Nat) (l7 : Int64) (i10 : Int32) (H : Heap) (locs : List Loc) (ls : Array Slot), Wo s D cy A G M H locs → lv_has ls 11 [(0, .ref r0), (1, .int i1), (2, .int i2), (3, .int i3), (4, .int i4), (5, .long l5), (7, .long l7), (9, .int i9), (10, .int i10)] → OK (lp_X9_narrowest_104 G M r0 i1 i2 i3 i4 l5 i9 n l7 i10) Qo → W p l e rm_X9_narrowest s m args below meth c H locs 0 0 Q (F0 m 104 ls []) := by
  intro n
  induction n with
  | zero => intro l7 i10 H locs ls w hl hk; exact ok_0 hk
  | succ n ih => intro l7 i10 H locs ls w hl hk; exact wb_X9_narrowest_104 X M r0 i1 i2 i3 i4 l5 i9 Qo hE  (lp_X9_narrowest_104 G M r0 i1 i2 i3 i4 l5 i9 n) ih l7 i10 H locs ls w hl hk
set_option maxHeartbeats 4000000 in
set_option maxRecDepth 100000 in
theorem wb_X9_narrowest_70 {p : Program} {l : Launch} {e : Env} {s : State} {m : MethodId} {args : Array Value} {below : List Frame} {meth : Method} {c : Code} {D : va_G} {cy : Cyy} {A : Nat → Prop} {G : Gg} (X : Cx p m c cX9_narrowest 11 s args wz_X9_narrowest RX9 D cy) {Q : State → Prop} (M : Mm) (r0 : Nat) (i1 : Int32) (i2 : Int32) (i3 : Int32) (i4 : Int32) (Qo : Int64 × Int64 → Prop)  (hE : ∀ (y : Int64 × Int64), Qo (y) → ∀ (H : Heap) (locs : List Loc) (ls : Array Slot), Wo s D cy A G M H locs → lv_has ls 11 [(0, .ref r0), (1, .int i1), (2, .int i2), (3, .int i3), (4, .int i4), (5, .long y.1), (7, .long y.2)] → W p l e rm_X9_narrowest s m args below meth c H locs 0 0 Q (F0 m 155 ls [])) (rec : Int64 → Int64 → Int32 → Option (Int64 × Int64)) (hrec : ∀ (l5 : Int64) (l7 : Int64) (i9 : Int32) (H : Heap) (locs : List Loc) (ls : Array Slot), Wo s D cy A G M H locs → lv_has ls 11 [(0, .ref r0), (1, .int i1), (2, .int i2), (3, .int i3), (4, .int i4), (5, .long l5), (7, .long l7), (9, .int i9)] → OK (rec l5 l7 i9) Qo → W p l e rm_X9_narrowest s m args below meth c H locs 0 0 Q (F0 m 70 ls [])) (l5 : Int64) (l7 : Int64) (i9 : Int32) (H : Heap) (locs : List Loc) (ls : Array Slot) (w : Wo s D cy A G M H locs) (hl : lv_has ls 11 [(0, .ref r0), (1, .int i1), (2, .int i2), (3, .int i3), (4, .int i4), (5, .long l5), (7, .long l7), (9, .int i9)]) (hk : OK (bd_X9_narrowest_70 G M r0 i1 i2 i3 i4 rec l5 l7 i9) Qo) : W p l e rm_X9_narrowest s m args below meth c H locs 0 0 Q (F0 m 70 ls []) := by
    have hx := X.1.1
    have hb := X.1.2.1
    unfold bd_X9_narrowest_70 at hk
    refine lv_iload hx hb dX9_narrowest_70 (lv_at hl 7 rfl) ?_
    refine lv_iload_n hx hb dX9_narrowest_72 rfl (lv_at hl 2 rfl) ?_
    refine lv_icmp_ge (tgt := 155) hx hb dX9_narrowest_73 (by decide) (fun c20 => ?_) (fun c20 => ?_)
    · have hk := ok_p c20 hk
      exact hE (l5, l7) (ok_s hk) _ _ _ w (lv_sub hl [0, 1, 2, 3, 4, 5, 6] rfl)
    · have hk := ok_n c20 hk
      refine lv_iload hx hb dX9_narrowest_76 (lv_at hl 4 rfl) ?_
      refine lv_iload hx hb dX9_narrowest_78 (lv_at hl 7 rfl) ?_
      refine lv_ishr hx hb dX9_narrowest_80 ?_
      refine lv_iconst (v := 1) hx hb dX9_narrowest_81 (by decide) ?_
      refine lv_iand hx hb dX9_narrowest_82 ?_
      refine lv_if_ne (tgt := 89) hx hb dX9_narrowest_83 (by decide) (fun c21 => ?_) (fun c21 => ?_)
      · have hk := ok_n c21 hk
        refine lv_lload hx hb dX9_narrowest_89 (lv_at hl 5 rfl) ?_
        refine lv_aload_n hx hb dX9_narrowest_91 rfl (lv_at hl 0 rfl) ?_
        obtain ⟨c22, hk⟩ := ok_c hk
        obtain ⟨r23, e24, hk⟩ := ok_b hk
        refine zgr X w 9 12 38 (C := RX9) (T := TX9) (N := 23) rfl ui_X9 (by decide) rfl (tb wf_X9_38) dX9_narrowest_92 c22 e24 ?_
        refine lv_iload hx hb dX9_narrowest_95 (lv_at hl 7 rfl) ?_
        obtain ⟨c25, hk⟩ := ok_c hk
        obtain ⟨c26, hk⟩ := ok_c hk
        refine zal X w dX9_narrowest_97 c25 c26 ?_
        refine lv_ladd hx hb dX9_narrowest_98 ?_
        refine lv_lstore (lv' := [(5, .long (l5 + (M.2.1 r23 (Int32.toNatClampNeg i9)))), (0, .ref r0), (1, .int i1), (2, .int i2), (3, .int i3), (4, .int i4), (7, .long l7), (9, .int i9)]) hx hb dX9_narrowest_99 hl (by decide) rfl (fun ls hl => ?_)
        refine lv_iconst (v := 0) hx hb dX9_narrowest_101 (by decide) ?_
        refine lv_istore (lv' := [(10, .int (0 : Int32)), (5, .long (l5 + (M.2.1 r23 (Int32.toNatClampNeg i9)))), (0, .ref r0), (1, .int i1), (2, .int i2), (3, .int i3), (4, .int i4), (7, .long l7), (9, .int i9)]) hx hb dX9_narrowest_102 hl (by decide) rfl (fun ls hl => ?_)
        refine wl_X9_narrowest_104 X M r0 i1 i2 i3 i4 (l5 + (M.2.1 r23 (Int32.toNatClampNeg i9))) i9 (Qo := _) (fun q36 hk H locs ls w hl => ?_) FU l7 (0 : Int32) _ _ _ w (lv_sub hl [2, 3, 4, 5, 6, 1, 7, 8, 0] rfl) (ok_b hk)
        refine lv_iinc (v := (i9 + 1)) (lv' := [(9, .int (i9 + 1)), (0, .ref r0), (1, .int i1), (2, .int i2), (3, .int i3), (4, .int i4), (5, .long (l5 + (M.2.1 r23 (Int32.toNatClampNeg i9)))), (7, .long q36)]) hx hb dX9_narrowest_149 hl (k := 7) rfl rfl (by decide) rfl (fun ls hl => ?_)
        refine lv_goto (tgt := 70) hx hb dX9_narrowest_152 (by decide) ?_
        exact hrec (l5 + (M.2.1 r23 (Int32.toNatClampNeg i9))) q36 (i9 + 1) _ _ _ w (lv_sub hl [1, 2, 3, 4, 5, 6, 7, 0] rfl) hk
      · have hk := ok_p c21 hk
        refine lv_goto (tgt := 149) hx hb dX9_narrowest_86 (by decide) ?_
        refine lv_iinc (v := (i9 + 1)) (lv' := [(9, .int (i9 + 1)), (0, .ref r0), (1, .int i1), (2, .int i2), (3, .int i3), (4, .int i4), (5, .long l5), (7, .long l7)]) hx hb dX9_narrowest_149 hl (k := 7) rfl rfl (by decide) rfl (fun ls hl => ?_)
        refine lv_goto (tgt := 70) hx hb dX9_narrowest_152 (by decide) ?_
        exact hrec l5 l7 (i9 + 1) _ _ _ w (lv_sub hl [1, 2, 3, 4, 5, 6, 7, 0] rfl) hk
theorem wl_X9_narrowest_70 {p : Program} {l : Launch} {e : Env} {s : State} {m : MethodId} {args : Array Value} {below : List Frame} {meth : Method} {c : Code} {D : va_G} {cy : Cyy} {A : Nat → Prop} {G : Gg} (X : Cx p m c cX9_narrowest 11 s args wz_X9_narrowest RX9 D cy) {Q : State → Prop} (M : Mm) (r0 : Nat) (i1 : Int32) (i2 : Int32) (i3 : Int32) (i4 : Int32) (Qo : Int64 × Int64 → Prop)  (hE : ∀ (y : Int64 × Int64), Qo (y) → ∀ (H : Heap) (locs : List Loc) (ls : Array Slot), Wo s D cy A G M H locs → lv_has ls 11 [(0, .ref r0), (1, .int i1), (2, .int i2), (3, .int i3), (4, .int i4), (5, .long y.1), (7, .long y.2)] → W p l e rm_X9_narrowest s m args below meth c H locs 0 0 Q (F0 m 155 ls [])) : ∀ (n : Nat) (l5 : Int64) (l7 : Int64) (i9 : Int32) (H : Heap) (locs : List Loc) (ls : Array Slot), Wo s D cy A G M H locs → lv_has ls 11 [(0, .ref r0), (1, .int i1), (2, .int i2), (3, .int i3), (4, .int i4), (5, .long l5), (7, .long l7), (9, .int i9)] → OK (lp_X9_narrowest_70 G M r0 i1 i2 i3 i4 n l5 l7 i9) Qo → W p l e rm_X9_narrowest s m args below meth c H locs 0 0 Q (F0 m 70 ls []) := by
  intro n
  induction n with
  | zero => intro l5 l7 i9 H locs ls w hl hk; exact ok_0 hk
  | succ n ih => intro l5 l7 i9 H locs ls w hl hk; exact wb_X9_narrowest_70 X M r0 i1 i2 i3 i4 Qo hE  (lp_X9_narrowest_70 G M r0 i1 i2 i3 i4 n) ih l5 l7 i9 H locs ls w hl hk
set_option maxHeartbeats 4000000 in
set_option maxRecDepth 100000 in
theorem wj_X9_narrowest_206 {p : Program} {l : Launch} {e : Env} {s : State} {m : MethodId} {args : Array Value} {below : List Frame} {meth : Method} {c : Code} {D : va_G} {cy : Cyy} {A : Nat → Prop} {G : Gg} (X : Cx p m c cX9_narrowest 11 s args wz_X9_narrowest RX9 D cy) {Q : State → Prop} (r0 : Nat) (i1 : Int32) (i2 : Int32) (Qo : Int32 × Mm → Prop)  (hE : ∀ (y : Int32 × Mm), Qo (y) → ∀ (H : Heap) (locs : List Loc) (ls : Array Slot), Wo s D cy A G y.2 H locs → lv_has ls 11 [(3, .int y.1)] → W p l e rm_X9_narrowest s m args below meth c H locs 0 0 Q (F0 m 235 ls [])) (rec : Int32 → Int32 → Mm → Option (Int32 × Mm)) (hrec : ∀ (i3 : Int32) (i4 : Int32) (M : Mm) (H : Heap) (locs : List Loc) (ls : Array Slot), Wo s D cy A G M H locs → lv_has ls 11 [(0, .ref r0), (1, .int i1), (2, .int i2), (3, .int i3), (4, .int i4)] → OK (rec i3 i4 M) Qo → W p l e rm_X9_narrowest s m args below meth c H locs 0 0 Q (F0 m 53 ls [])) (i4 : Int32) (l5 : Int64) (l7 : Int64)  (M : Mm) (H : Heap) (locs : List Loc) (ls : Array Slot) (w : Wo s D cy A G M H locs) (hl : lv_has ls 11 [(0, .ref r0), (1, .int i1), (2, .int i2), (4, .int i4), (5, .long l5), (7, .long l7)]) (hk : OK (jn_X9_narrowest_206 G M rec r0 i1 i2 i4 l5 l7) Qo) : W p l e rm_X9_narrowest s m args below meth c H locs 0 0 Q (F0 m 206 ls []) := by
    have hx := X.1.1
    have hb := X.1.2.1
    unfold jn_X9_narrowest_206 at hk
    refine lv_iload hx hb dX9_narrowest_206 (lv_at hl 3 rfl) ?_
    refine lv_istore_n (lv' := [(3, .int i4), (0, .ref r0), (1, .int i1), (2, .int i2), (4, .int i4), (5, .long l5), (7, .long l7)]) hx hb dX9_narrowest_208 rfl hl (by decide) rfl (fun ls hl => ?_)
    refine lv_aload_n hx hb dX9_narrowest_209 rfl (lv_at hl 1 rfl) ?_
    refine lv_lload hx hb dX9_narrowest_210 (lv_at hl 6 rfl) ?_
    obtain ⟨c43, hk⟩ := ok_c hk
    refine zpl X w 9 21 218 tyX9 (C := RX9) (T := TX9) (N := 23) rfl ui_X9 tyX9_ok nmX9 (by decide) rfl (tb wf_X9_218) rfl rfl dX9_narrowest_212 c43 (fun H locs w => ?_)
    refine lv_aload_n hx hb dX9_narrowest_215 rfl (lv_at hl 1 rfl) ?_
    refine lv_lload hx hb dX9_narrowest_216 (lv_at hl 5 rfl) ?_
    refine lv_aload_n hx hb dX9_narrowest_218 rfl (lv_at hl 1 rfl) ?_
    obtain ⟨r44, e45, hk⟩ := ok_b hk
    refine zgr X w 9 4 16 (C := RX9) (T := TX9) (N := 23) rfl ui_X9 (by decide) rfl (tb wf_X9_16) dX9_narrowest_219 c43 e45 ?_
    refine lv_iload_n hx hb dX9_narrowest_222 rfl (lv_at hl 2 rfl) ?_
    obtain ⟨c46, hk⟩ := ok_c hk
    obtain ⟨c47, hk⟩ := ok_c hk
    refine zai X w dX9_narrowest_223 c46 c47 ?_
    refine lv_i2l hx hb dX9_narrowest_224 rfl ?_
    refine lv_lmul hx hb dX9_narrowest_225 ?_
    refine zpl X w 9 22 221 tyX9 (C := RX9) (T := TX9) (N := 23) rfl ui_X9 tyX9_ok nmX9 (by decide) rfl (tb wf_X9_221) rfl rfl dX9_narrowest_226 c43 (fun H locs w => ?_)
    refine lv_iinc (v := (i4 + 1)) (lv' := [(4, .int (i4 + 1)), (3, .int i4), (0, .ref r0), (1, .int i1), (2, .int i2), (5, .long l5), (7, .long l7)]) hx hb dX9_narrowest_229 hl (k := 4) rfl rfl (by decide) rfl (fun ls hl => ?_)
    refine lv_goto (tgt := 53) hx hb dX9_narrowest_232 (by decide) ?_
    exact hrec i4 (i4 + 1) (mwJ (mwJ M r0 21 l7) r0 22 (l5 * (Int32.toInt64 ((mwJ M r0 21 l7).1 r44 (Int32.toNatClampNeg i1))))) _ _ _ w (lv_sub hl [2, 3, 4, 1, 0] rfl) hk
set_option maxHeartbeats 4000000 in
set_option maxRecDepth 100000 in
theorem wb_X9_narrowest_53 {p : Program} {l : Launch} {e : Env} {s : State} {m : MethodId} {args : Array Value} {below : List Frame} {meth : Method} {c : Code} {D : va_G} {cy : Cyy} {A : Nat → Prop} {G : Gg} (X : Cx p m c cX9_narrowest 11 s args wz_X9_narrowest RX9 D cy) {Q : State → Prop} (r0 : Nat) (i1 : Int32) (i2 : Int32) (Qo : Int32 × Mm → Prop)  (hE : ∀ (y : Int32 × Mm), Qo (y) → ∀ (H : Heap) (locs : List Loc) (ls : Array Slot), Wo s D cy A G y.2 H locs → lv_has ls 11 [(3, .int y.1)] → W p l e rm_X9_narrowest s m args below meth c H locs 0 0 Q (F0 m 235 ls [])) (rec : Int32 → Int32 → Mm → Option (Int32 × Mm)) (hrec : ∀ (i3 : Int32) (i4 : Int32) (M : Mm) (H : Heap) (locs : List Loc) (ls : Array Slot), Wo s D cy A G M H locs → lv_has ls 11 [(0, .ref r0), (1, .int i1), (2, .int i2), (3, .int i3), (4, .int i4)] → OK (rec i3 i4 M) Qo → W p l e rm_X9_narrowest s m args below meth c H locs 0 0 Q (F0 m 53 ls [])) (i3 : Int32) (i4 : Int32) (M : Mm) (H : Heap) (locs : List Loc) (ls : Array Slot) (w : Wo s D cy A G M H locs) (hl : lv_has ls 11 [(0, .ref r0), (1, .int i1), (2, .int i2), (3, .int i3), (4, .int i4)]) (hk : OK (bd_X9_narrowest_53 G r0 i1 i2 rec i3 i4 M) Qo) : W p l e rm_X9_narrowest s m args below meth c H locs 0 0 Q (F0 m 53 ls []) := by
    have hx := X.1.1
    have hb := X.1.2.1
    unfold bd_X9_narrowest_53 at hk
    refine lv_iload hx hb dX9_narrowest_53 (lv_at hl 4 rfl) ?_
    refine lv_iconst (v := 1) hx hb dX9_narrowest_55 (by decide) ?_
    refine lv_iload_n hx hb dX9_narrowest_56 rfl (lv_at hl 2 rfl) ?_
    refine lv_ishl hx hb dX9_narrowest_57 ?_
    refine lv_icmp_ge (tgt := 235) hx hb dX9_narrowest_58 (by decide) (fun c19 => ?_) (fun c19 => ?_)
    · have hk := ok_p c19 hk
      exact hE (i3, M) (ok_s hk) _ _ _ w (lv_sub hl [3] rfl)
    · have hk := ok_n c19 hk
      refine lv_lconst (v := 0) hx hb dX9_narrowest_61 (by decide) ?_
      refine lv_lstore (lv' := [(5, .long (0 : Int64)), (0, .ref r0), (1, .int i1), (2, .int i2), (3, .int i3), (4, .int i4)]) hx hb dX9_narrowest_62 hl (by decide) rfl (fun ls hl => ?_)
      refine lv_lconst (v := 0) hx hb dX9_narrowest_64 (by decide) ?_
      refine lv_lstore (lv' := [(7, .long (0 : Int64)), (5, .long (0 : Int64)), (0, .ref r0), (1, .int i1), (2, .int i2), (3, .int i3), (4, .int i4)]) hx hb dX9_narrowest_65 hl (by decide) rfl (fun ls hl => ?_)
      refine lv_iconst (v := 0) hx hb dX9_narrowest_67 (by decide) ?_
      refine lv_istore (lv' := [(9, .int (0 : Int32)), (7, .long (0 : Int64)), (5, .long (0 : Int64)), (0, .ref r0), (1, .int i1), (2, .int i2), (3, .int i3), (4, .int i4)]) hx hb dX9_narrowest_68 hl (by decide) rfl (fun ls hl => ?_)
      refine wl_X9_narrowest_70 X M r0 i1 i2 i3 i4 (Qo := _) (fun q37 hk H locs ls w hl => ?_) FU (0 : Int64) (0 : Int64) (0 : Int32) _ _ _ w (lv_sub hl [3, 4, 5, 6, 7, 2, 1, 0] rfl) (ok_b hk)
      refine zldc2 X (v := 2) (tb wk_X9_106) dX9_narrowest_155 ?_
      refine lv_lload hx hb dX9_narrowest_158 (lv_at hl 5 rfl) ?_
      refine lv_lmul hx hb dX9_narrowest_160 ?_
      refine lv_aload_n hx hb dX9_narrowest_161 rfl (lv_at hl 0 rfl) ?_
      obtain ⟨c40, hk⟩ := ok_c hk
      obtain ⟨q38, e39, hk⟩ := ok_b hk
      refine zVl X w (n := 0) (As := []) (rest := [.long ((2 : Int64) * q37.1)]) (ci := 9) (C := RX9) (T := TX9) (N := 23) (c_X9_allWeights l D cy G M r0 e39) (gzV wm_X9_205 wi_X9_allWeights ws_X9_allWeights wn_X9 wc_X9_allWeights) rfl rfl rfl (by decide +kernel) (by decide) rfl c40 rfl rfl hl.1 (Nat.le_of_ble_eq_true rfl) dX9_narrowest_162 ⟨Nat.zero_le _, Nat.zero_le _⟩ (fun H locs w => ?_)
      refine W.lcmp hx hb dX9_narrowest_165 ?_
      refine lv_if_le (tgt := 172) hx hb dX9_narrowest_166 (by decide) (fun c41 => ?_) (fun c41 => ?_)
      · have hk := ok_p c41 hk
        refine lv_iload_n hx hb dX9_narrowest_172 rfl (lv_at hl 3 rfl) ?_
        refine lv_iconst (v := (-1)) hx hb dX9_narrowest_173 (by decide) ?_
        refine lv_icmp_eq (tgt := 206) hx hb dX9_narrowest_174 (by decide) (fun c42 => ?_) (fun c42 => ?_)
        · have hk := ok_p c42 hk
          exact wj_X9_narrowest_206 X r0 i1 i2 Qo hE rec hrec i4 q37.1 q37.2 M _ _ _ w (lv_sub hl [0, 1, 2, 4, 5, 6] rfl) hk
        · have hk := ok_n c42 hk
          refine lv_lload hx hb dX9_narrowest_177 (lv_at hl 6 rfl) ?_
          refine lv_lload hx hb dX9_narrowest_179 (lv_at hl 5 rfl) ?_
          refine lv_aload_n hx hb dX9_narrowest_181 rfl (lv_at hl 0 rfl) ?_
          obtain ⟨r48, e49, hk⟩ := ok_b hk
          refine zgr X w 9 4 16 (C := RX9) (T := TX9) (N := 23) rfl ui_X9 (by decide) rfl (tb wf_X9_16) dX9_narrowest_182 c40 e49 ?_
          refine lv_iload_n hx hb dX9_narrowest_185 rfl (lv_at hl 1 rfl) ?_
          obtain ⟨c50, hk⟩ := ok_c hk
          obtain ⟨c51, hk⟩ := ok_c hk
          refine zai X w dX9_narrowest_186 c50 c51 ?_
          refine lv_i2l hx hb dX9_narrowest_187 rfl ?_
          refine lv_lmul hx hb dX9_narrowest_188 ?_
          refine lv_aload_n hx hb dX9_narrowest_189 rfl (lv_at hl 0 rfl) ?_
          refine zgl X w 9 21 218 (C := RX9) (T := TX9) (N := 23) rfl ui_X9 (by decide) rfl (tb wf_X9_218) dX9_narrowest_190 c40 ?_
          refine lv_aload_n hx hb dX9_narrowest_193 rfl (lv_at hl 0 rfl) ?_
          refine zgl X w 9 22 221 (C := RX9) (T := TX9) (N := 23) rfl ui_X9 (by decide) rfl (tb wf_X9_221) dX9_narrowest_194 c40 ?_
          obtain ⟨q52, e53, hk⟩ := ok_b hk
          refine zSi X w (n := 4) (As := [.long q37.2, .long (q37.1 * (Int32.toInt64 (M.1 r48 (Int32.toNatClampNeg i1)))), .long (M.2.1 r0 21), .long (M.2.1 r0 22)]) (rest := []) (c_X9_isLess l D cy G M q37.2 (q37.1 * (Int32.toInt64 (M.1 r48 (Int32.toNatClampNeg i1)))) (M.2.1 r0 21) (M.2.1 r0 22) e53) (gzS wm_X9_224 wt_X9_isLess wn_X9 wc_X9_isLess) rfl rfl rfl (by decide +kernel) (by decide) rfl rfl hl.1 (Nat.le_of_ble_eq_true rfl) dX9_narrowest_197 ⟨Nat.zero_le _, Nat.zero_le _⟩ (fun H locs w => ?_)
          refine lv_if_ne (tgt := 206) hx hb dX9_narrowest_200 (by decide) (fun c54 => ?_) (fun c54 => ?_)
          · have hk := ok_n c54 hk
            exact wj_X9_narrowest_206 X r0 i1 i2 Qo hE rec hrec i4 q37.1 q37.2 M _ _ _ w (lv_sub hl [0, 1, 2, 4, 5, 6] rfl) hk
          · have hk := ok_p c54 hk
            refine lv_goto (tgt := 229) hx hb dX9_narrowest_203 (by decide) ?_
            refine lv_iinc (v := (i4 + 1)) (lv' := [(4, .int (i4 + 1)), (0, .ref r0), (1, .int i1), (2, .int i2), (3, .int i3), (5, .long q37.1), (7, .long q37.2)]) hx hb dX9_narrowest_229 hl (k := 4) rfl rfl (by decide) rfl (fun ls hl => ?_)
            refine lv_goto (tgt := 53) hx hb dX9_narrowest_232 (by decide) ?_
            exact hrec i3 (i4 + 1) M _ _ _ w (lv_sub hl [1, 2, 3, 4, 0] rfl) hk
      · have hk := ok_n c41 hk
        refine lv_goto (tgt := 229) hx hb dX9_narrowest_169 (by decide) ?_
        refine lv_iinc (v := (i4 + 1)) (lv' := [(4, .int (i4 + 1)), (0, .ref r0), (1, .int i1), (2, .int i2), (3, .int i3), (5, .long q37.1), (7, .long q37.2)]) hx hb dX9_narrowest_229 hl (k := 4) rfl rfl (by decide) rfl (fun ls hl => ?_)
        refine lv_goto (tgt := 53) hx hb dX9_narrowest_232 (by decide) ?_
        exact hrec i3 (i4 + 1) M _ _ _ w (lv_sub hl [1, 2, 3, 4, 0] rfl) hk
theorem wl_X9_narrowest_53 {p : Program} {l : Launch} {e : Env} {s : State} {m : MethodId} {args : Array Value} {below : List Frame} {meth : Method} {c : Code} {D : va_G} {cy : Cyy} {A : Nat → Prop} {G : Gg} (X : Cx p m c cX9_narrowest 11 s args wz_X9_narrowest RX9 D cy) {Q : State → Prop} (r0 : Nat) (i1 : Int32) (i2 : Int32) (Qo : Int32 × Mm → Prop)  (hE : ∀ (y : Int32 × Mm), Qo (y) → ∀ (H : Heap) (locs : List Loc) (ls : Array Slot), Wo s D cy A G y.2 H locs → lv_has ls 11 [(3, .int y.1)] → W p l e rm_X9_narrowest s m args below meth c H locs 0 0 Q (F0 m 235 ls [])) : ∀ (n : Nat) (i3 : Int32) (i4 : Int32) (M : Mm) (H : Heap) (locs : List Loc) (ls : Array Slot), Wo s D cy A G M H locs → lv_has ls 11 [(0, .ref r0), (1, .int i1), (2, .int i2), (3, .int i3), (4, .int i4)] → OK (lp_X9_narrowest_53 G r0 i1 i2 n i3 i4 M) Qo → W p l e rm_X9_narrowest s m args below meth c H locs 0 0 Q (F0 m 53 ls []) := by
  intro n
  induction n with
  | zero => intro i3 i4 M H locs ls w hl hk; exact ok_0 hk
  | succ n ih => intro i3 i4 M H locs ls w hl hk; exact wb_X9_narrowest_53 X r0 i1 i2 Qo hE  (lp_X9_narrowest_53 G r0 i1 i2 n) ih i3 i4 M H locs ls w hl hk
set_option maxHeartbeats 4000000 in
set_option maxRecDepth 100000 in
theorem c_X9_narrowest (l : Launch) (D : va_G) (cy : Cyy) (G : Gg) (M : Mm) (r0 : Nat) (i1 : Int32) {q : Int32 × Mm} (hm : f_X9_narrowest G M r0 i1 = some q) : CI l yX9_narrowest wz_X9_narrowest rm_X9_narrowest D cy G M [.ref r0, .int i1] q.1 q.2 := by
  refine Met_of (Qf := fun A => QI D cy G A q.1 q.2) (cc := cX9_narrowest) (nL := 11) (ret := (some .int)) (own := RX9) (lv := [(0, .ref r0), (1, .int i1)]) (by decide) rfl rfl (Nat.le_of_ble_eq_true rfl) rfl ?_
  intro p e s m args below meth c A ls X hr hlk w hl
  have hx := X.1.1
  have hb := X.1.2.1
  obtain ⟨Qo, hR, hk⟩ : ∃ Qo : Int32 × Mm → Prop, (∀ x, Qo x → x = q) ∧ OK (f_X9_narrowest G M r0 i1) Qo := ⟨fun x => x = q, fun _ h => h, q, hm, rfl⟩
  unfold f_X9_narrowest at hk
  refine lv_aload_n hx hb dX9_narrowest_0 rfl (lv_at hl 0 rfl) ?_
  refine lv_iload_n hx hb dX9_narrowest_1 rfl (lv_at hl 1 rfl) ?_
  obtain ⟨c3, hk⟩ := ok_c hk
  obtain ⟨q1, e2, hk⟩ := ok_b hk
  refine zVi X w (n := 1) (As := [.int i1]) (rest := []) (ci := 9) (C := RX9) (T := TX9) (N := 23) (c_X9_has l D cy G M r0 i1 e2) (gzV wm_X9_89 wi_X9_has ws_X9_has wn_X9 wc_X9_has) rfl rfl rfl (by decide +kernel) (by decide) rfl c3 rfl rfl hl.1 (Nat.le_of_ble_eq_true rfl) dX9_narrowest_2 ⟨Nat.zero_le _, Nat.zero_le _⟩ (fun H locs w => ?_)
  refine lv_if_eq (tgt := 18) hx hb dX9_narrowest_5 (by decide) (fun c4 => ?_) (fun c4 => ?_)
  · have hk := ok_p c4 hk
    refine lv_iconst (v := (-1)) hx hb dX9_narrowest_18 (by decide) ?_
    have hk := hR _ (ok_s hk)
    exact zri X hr hlk w dX9_narrowest_19 (pr1 hk) (pr2 hk)
  · have hk := ok_n c4 hk
    refine lv_aload_n hx hb dX9_narrowest_8 rfl (lv_at hl 0 rfl) ?_
    obtain ⟨r5, e6, hk⟩ := ok_b hk
    refine zgr X w 9 3 13 (C := RX9) (T := TX9) (N := 23) rfl ui_X9 (by decide) rfl (tb wf_X9_13) dX9_narrowest_9 c3 e6 ?_
    refine lv_iload_n hx hb dX9_narrowest_12 rfl (lv_at hl 1 rfl) ?_
    obtain ⟨c7, hk⟩ := ok_c hk
    obtain ⟨c8, hk⟩ := ok_c hk
    refine zai X w dX9_narrowest_13 c7 c8 ?_
    refine lv_iconst (v := 2) hx hb dX9_narrowest_14 (by decide) ?_
    refine lv_icmp_ge (tgt := 20) hx hb dX9_narrowest_15 (by decide) (fun c9 => ?_) (fun c9 => ?_)
    · have hk := ok_p c9 hk
      refine lv_aload_n hx hb dX9_narrowest_20 rfl (lv_at hl 0 rfl) ?_
      refine lv_iload_n hx hb dX9_narrowest_21 rfl (lv_at hl 1 rfl) ?_
      obtain ⟨q10, e11, hk⟩ := ok_b hk
      refine zVv X w (n := 1) (As := [.int i1]) (rest := []) (ci := 9) (C := RX9) (T := TX9) (N := 23) (c_X9_reach l D cy G M r0 i1 e11) (gzV wm_X9_137 wi_X9_reach ws_X9_reach wn_X9 wc_X9_reach) rfl rfl rfl (by decide +kernel) (by decide) rfl c3 rfl rfl hl.1 (Nat.le_of_ble_eq_true rfl) dX9_narrowest_22 ⟨Nat.zero_le _, Nat.zero_le _⟩ (fun H locs w => ?_)
      refine lv_aload_n hx hb dX9_narrowest_25 rfl (lv_at hl 0 rfl) ?_
      refine zgi X w 9 8 92 (C := RX9) (T := TX9) (N := 23) rfl ui_X9 (by decide) rfl (tb wf_X9_92) dX9_narrowest_26 c3 ?_
      refine lv_iconst (v := 1) hx hb dX9_narrowest_29 (by decide) ?_
      refine lv_icmp_le (tgt := 35) hx hb dX9_narrowest_30 (by decide) (fun c12 => ?_) (fun c12 => ?_)
      · have hk := ok_p c12 hk
        refine lv_aload_n hx hb dX9_narrowest_35 rfl (lv_at hl 0 rfl) ?_
        refine lv_iload_n hx hb dX9_narrowest_36 rfl (lv_at hl 1 rfl) ?_
        refine lv_iconst (v := 0) hx hb dX9_narrowest_37 (by decide) ?_
        obtain ⟨q13, e14, hk⟩ := ok_b hk
        refine zVv X w (n := 2) (As := [.int i1, .int (0 : Int32)]) (rest := []) (ci := 9) (C := RX9) (T := TX9) (N := 23) (c_X9_weigh l D cy G q10 r0 i1 (0 : Int32) e14) (gzV wm_X9_140 wi_X9_weigh ws_X9_weigh wn_X9 wc_X9_weigh) rfl rfl rfl (by decide +kernel) (by decide) rfl c3 rfl rfl hl.1 (Nat.le_of_ble_eq_true rfl) dX9_narrowest_38 ⟨Nat.zero_le _, Nat.zero_le _⟩ (fun H locs w => ?_)
        refine lv_aload_n hx hb dX9_narrowest_41 rfl (lv_at hl 0 rfl) ?_
        obtain ⟨r15, e16, hk⟩ := ok_b hk
        refine zgr X w 9 3 13 (C := RX9) (T := TX9) (N := 23) rfl ui_X9 (by decide) rfl (tb wf_X9_13) dX9_narrowest_42 c3 e16 ?_
        refine lv_iload_n hx hb dX9_narrowest_45 rfl (lv_at hl 1 rfl) ?_
        obtain ⟨c17, hk⟩ := ok_c hk
        obtain ⟨c18, hk⟩ := ok_c hk
        refine zai X w dX9_narrowest_46 c17 c18 ?_
        refine lv_istore_n (lv' := [(2, .int (q13.1 r15 (Int32.toNatClampNeg i1))), (0, .ref r0), (1, .int i1)]) hx hb dX9_narrowest_47 rfl hl (by decide) rfl (fun ls hl => ?_)
        refine lv_iconst (v := (-1)) hx hb dX9_narrowest_48 (by decide) ?_
        refine lv_istore_n (lv' := [(3, .int (-1)), (2, .int (q13.1 r15 (Int32.toNatClampNeg i1))), (0, .ref r0), (1, .int i1)]) hx hb dX9_narrowest_49 rfl hl (by decide) rfl (fun ls hl => ?_)
        refine lv_iconst (v := 1) hx hb dX9_narrowest_50 (by decide) ?_
        refine lv_istore (lv' := [(4, .int (1 : Int32)), (3, .int (-1)), (2, .int (q13.1 r15 (Int32.toNatClampNeg i1))), (0, .ref r0), (1, .int i1)]) hx hb dX9_narrowest_51 hl (by decide) rfl (fun ls hl => ?_)
        refine wl_X9_narrowest_53 X r0 i1 (q13.1 r15 (Int32.toNatClampNeg i1)) (Qo := _) (fun q55 hk H locs ls w hl => ?_) FU (-1) (1 : Int32) q13 _ _ _ w (lv_sub hl [3, 4, 2, 1, 0] rfl) (ok_b hk)
        refine lv_iload_n hx hb dX9_narrowest_235 rfl (lv_at hl 0 rfl) ?_
        have hk := hR _ (ok_s hk)
        exact zri X hr hlk w dX9_narrowest_236 (pr1 hk) (pr2 hk)
      · have hk := ok_n c12 hk
        refine lv_iconst (v := (-1)) hx hb dX9_narrowest_33 (by decide) ?_
        have hk := hR _ (ok_s hk)
        exact zri X hr hlk w dX9_narrowest_34 (pr1 hk) (pr2 hk)
    · have hk := ok_n c9 hk
      refine lv_iconst (v := (-1)) hx hb dX9_narrowest_18 (by decide) ?_
      have hk := hR _ (ok_s hk)
      exact zri X hr hlk w dX9_narrowest_19 (pr1 hk) (pr2 hk)
abbrev rm_X9_narrow : Room := { frames := 5, cells := 0, slots := 0, locals := 151 }
set_option maxHeartbeats 4000000 in
set_option maxRecDepth 100000 in
theorem c_X9_narrow (l : Launch) (D : va_G) (cy : Cyy) (G : Gg) (M : Mm) (r0 : Nat) (i1 : Int32) (i2 : Int32) {q : Int64 × Mm} (hm : f_X9_narrow G M r0 i1 i2 = some q) : CL l yX9_narrow wz_X9_narrow rm_X9_narrow D cy G M [.ref r0, .int i1, .int i2] q.1 q.2 := by
  refine Met_of (Qf := fun A => QL D cy G A q.1 q.2) (cc := cX9_narrow) (nL := 3) (ret := (some .long)) (own := RX9) (lv := [(0, .ref r0), (1, .int i1), (2, .int i2)]) (by decide) rfl rfl (Nat.le_of_ble_eq_true rfl) rfl ?_
  intro p e s m args below meth c A ls X hr hlk w hl
  have hx := X.1.1
  have hb := X.1.2.1
  obtain ⟨Qo, hR, hk⟩ : ∃ Qo : Int64 × Mm → Prop, (∀ x, Qo x → x = q) ∧ OK (f_X9_narrow G M r0 i1 i2) Qo := ⟨fun x => x = q, fun _ h => h, q, hm, rfl⟩
  unfold f_X9_narrow at hk
  refine lv_iload_n hx hb dX9_narrow_0 rfl (lv_at hl 2 rfl) ?_
  obtain ⟨q1, e2, hk⟩ := ok_b hk
  refine zSi X w (n := 1) (As := [.int i2]) (rest := []) (c_X9_isWhat l D cy G M i2 e2) (gzS wm_X9_184 wt_X9_isWhat wn_X9 wc_X9_isWhat) rfl rfl rfl (by decide +kernel) (by decide) rfl rfl hl.1 (Nat.le_of_ble_eq_true rfl) dX9_narrow_1 ⟨Nat.zero_le _, Nat.zero_le _⟩ (fun H locs w => ?_)
  refine lv_if_eq (tgt := 16) hx hb dX9_narrow_4 (by decide) (fun c3 => ?_) (fun c3 => ?_)
  · have hk := ok_p c3 hk
    refine lv_aload_n hx hb dX9_narrow_16 rfl (lv_at hl 0 rfl) ?_
    obtain ⟨c6, hk⟩ := ok_c hk
    obtain ⟨q4, e5, hk⟩ := ok_b hk
    refine zVi X w (n := 0) (As := []) (rest := []) (ci := 9) (C := RX9) (T := TX9) (N := 23) (c_X9_refuse l D cy G M r0 e5) (gzV wm_X9_156 wi_X9_refuse ws_X9_refuse wn_X9 wc_X9_refuse) rfl rfl rfl (by decide +kernel) (by decide) rfl c6 rfl rfl hl.1 (Nat.le_of_ble_eq_true rfl) dX9_narrow_17 ⟨Nat.zero_le _, Nat.zero_le _⟩ (fun H locs w => ?_)
    refine lv_i2l hx hb dX9_narrow_20 rfl ?_
    have hk := hR _ (ok_s hk)
    exact zrl X hr hlk w dX9_narrow_21 (pr1 hk) (pr2 hk)
  · have hk := ok_n c3 hk
    refine lv_aload_n hx hb dX9_narrow_7 rfl (lv_at hl 0 rfl) ?_
    refine lv_iload_n hx hb dX9_narrow_8 rfl (lv_at hl 1 rfl) ?_
    obtain ⟨c9, hk⟩ := ok_c hk
    obtain ⟨q7, e8, hk⟩ := ok_b hk
    refine zVi X w (n := 1) (As := [.int i1]) (rest := []) (ci := 9) (C := RX9) (T := TX9) (N := 23) (c_X9_narrowest l D cy G M r0 i1 e8) (gzV wm_X9_228 wi_X9_narrowest ws_X9_narrowest wn_X9 wc_X9_narrowest) rfl rfl rfl (by decide +kernel) (by decide) rfl c9 rfl rfl hl.1 (Nat.le_of_ble_eq_true rfl) dX9_narrow_9 ⟨Nat.zero_le _, Nat.zero_le _⟩ (fun H locs w => ?_)
    refine lv_iconst (v := (-1)) hx hb dX9_narrow_12 (by decide) ?_
    refine lv_icmp_ne (tgt := 22) hx hb dX9_narrow_13 (by decide) (fun c10 => ?_) (fun c10 => ?_)
    · have hk := ok_n c10 hk
      refine lv_aload_n hx hb dX9_narrow_22 rfl (lv_at hl 0 rfl) ?_
      refine lv_aload_n hx hb dX9_narrow_23 rfl (lv_at hl 0 rfl) ?_
      refine zgl X w 9 21 218 (C := RX9) (T := TX9) (N := 23) rfl ui_X9 (by decide) rfl (tb wf_X9_218) dX9_narrow_24 c9 ?_
      refine lv_aload_n hx hb dX9_narrow_27 rfl (lv_at hl 0 rfl) ?_
      refine zgl X w 9 22 221 (C := RX9) (T := TX9) (N := 23) rfl ui_X9 (by decide) rfl (tb wf_X9_221) dX9_narrow_28 c9 ?_
      refine lv_iload_n hx hb dX9_narrow_31 rfl (lv_at hl 2 rfl) ?_
      obtain ⟨q11, e12, hk⟩ := ok_b hk
      refine zVl X w (n := 3) (As := [.long (q7.2.2.1 r0 21), .long (q7.2.2.1 r0 22), .int i2]) (rest := []) (ci := 9) (C := RX9) (T := TX9) (N := 23) (c_X9_told l D cy G q7.2 r0 (q7.2.2.1 r0 21) (q7.2.2.1 r0 22) i2 e12) (gzV wm_X9_190 wi_X9_told ws_X9_told wn_X9 wc_X9_told) rfl rfl rfl (by decide +kernel) (by decide) rfl c9 rfl rfl hl.1 (Nat.le_of_ble_eq_true rfl) dX9_narrow_32 ⟨Nat.zero_le _, Nat.zero_le _⟩ (fun H locs w => ?_)
      have hk := hR _ (ok_s hk)
      exact zrl X hr hlk w dX9_narrow_35 (pr1 hk) (pr2 hk)
    · have hk := ok_p c10 hk
      refine lv_aload_n hx hb dX9_narrow_16 rfl (lv_at hl 0 rfl) ?_
      obtain ⟨q13, e14, hk⟩ := ok_b hk
      refine zVi X w (n := 0) (As := []) (rest := []) (ci := 9) (C := RX9) (T := TX9) (N := 23) (c_X9_refuse l D cy G q7.2 r0 e14) (gzV wm_X9_156 wi_X9_refuse ws_X9_refuse wn_X9 wc_X9_refuse) rfl rfl rfl (by decide +kernel) (by decide) rfl c9 rfl rfl hl.1 (Nat.le_of_ble_eq_true rfl) dX9_narrow_17 ⟨Nat.zero_le _, Nat.zero_le _⟩ (fun H locs w => ?_)
      refine lv_i2l hx hb dX9_narrow_20 rfl ?_
      have hk := hR _ (ok_s hk)
      exact zrl X hr hlk w dX9_narrow_21 (pr1 hk) (pr2 hk)
abbrev rm_X9_cut : Room := { frames := 5, cells := 0, slots := 0, locals := 151 }
set_option maxHeartbeats 4000000 in
set_option maxRecDepth 100000 in
theorem c_X9_cut (l : Launch) (D : va_G) (cy : Cyy) (G : Gg) (M : Mm) (r0 : Nat) (i1 : Int32) {q : Int32 × Mm} (hm : f_X9_cut G M r0 i1 = some q) : CI l yX9_cut wz_X9_cut rm_X9_cut D cy G M [.ref r0, .int i1] q.1 q.2 := by
  refine Met_of (Qf := fun A => QI D cy G A q.1 q.2) (cc := cX9_cut) (nL := 2) (ret := (some .int)) (own := RX9) (lv := [(0, .ref r0), (1, .int i1)]) (by decide) rfl rfl (Nat.le_of_ble_eq_true rfl) rfl ?_
  intro p e s m args below meth c A ls X hr hlk w hl
  have hx := X.1.1
  have hb := X.1.2.1
  obtain ⟨Qo, hR, hk⟩ : ∃ Qo : Int32 × Mm → Prop, (∀ x, Qo x → x = q) ∧ OK (f_X9_cut G M r0 i1) Qo := ⟨fun x => x = q, fun _ h => h, q, hm, rfl⟩
  unfold f_X9_cut at hk
  refine lv_aload_n hx hb dX9_cut_0 rfl (lv_at hl 0 rfl) ?_
  refine lv_iconst (v := 0) hx hb dX9_cut_1 (by decide) ?_
  obtain ⟨c1, hk⟩ := ok_c hk
  refine zpi X w 9 0 59 tyX9 (C := RX9) (T := TX9) (N := 23) rfl ui_X9 tyX9_ok nmX9 (by decide) rfl (tb wf_X9_59) rfl rfl dX9_cut_2 c1 (fun H locs w => ?_)
  refine lv_aload_n hx hb dX9_cut_5 rfl (lv_at hl 0 rfl) ?_
  refine lv_iload_n hx hb dX9_cut_6 rfl (lv_at hl 1 rfl) ?_
  obtain ⟨q2, e3, hk⟩ := ok_b hk
  refine zVi X w (n := 1) (As := [.int i1]) (rest := []) (ci := 9) (C := RX9) (T := TX9) (N := 23) (c_X9_narrowest l D cy G (mwI M r0 0 (0 : Int32)) r0 i1 e3) (gzV wm_X9_228 wi_X9_narrowest ws_X9_narrowest wn_X9 wc_X9_narrowest) rfl rfl rfl (by decide +kernel) (by decide) rfl c1 rfl rfl hl.1 (Nat.le_of_ble_eq_true rfl) dX9_cut_7 ⟨Nat.zero_le _, Nat.zero_le _⟩ (fun H locs w => ?_)
  have hk := hR _ (ok_s hk)
  exact zri X hr hlk w dX9_cut_10 (pr1 hk) (pr2 hk)
