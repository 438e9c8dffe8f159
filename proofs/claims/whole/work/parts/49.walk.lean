abbrev rm_X9_isState : Room := { frames := 1, cells := 0, slots := 0, locals := 21 }
set_option maxHeartbeats 4000000 in
set_option maxRecDepth 100000 in
theorem c_X9_isState (l : Launch) (D : va_G) (cy : Cyy) (G : Gg) (M : Mm) (r0 : Nat) (i1 : Int32) (i2 : Int32) {q : Int32} (hm : f_X9_isState G M r0 i1 i2 = some q) : CI l yX9_isState wz_X9_isState rm_X9_isState D cy G M [.ref r0, .int i1, .int i2] q M := by
  refine Met_of (Qf := fun A => QI D cy G A q M) (cc := cX9_isState) (nL := 3) (ret := (some .boolean)) (own := RX9) (lv := [(0, .ref r0), (1, .int i1), (2, .int i2)]) (by decide) rfl rfl (Nat.le_of_ble_eq_true rfl) rfl ?_
  intro p e s m args below meth c A ls X hr hlk w hl
  have hx := X.1.1
  have hb := X.1.2.1
  obtain ⟨Qo, hR, hk⟩ : ∃ Qo : Int32 → Prop, (∀ x, Qo x → x = q) ∧ OK (f_X9_isState G M r0 i1 i2) Qo := ⟨fun x => x = q, fun _ h => h, q, hm, rfl⟩
  unfold f_X9_isState at hk
  refine lv_aload_n hx hb dX9_isState_0 rfl (lv_at hl 0 rfl) ?_
  refine lv_iload_n hx hb dX9_isState_1 rfl (lv_at hl 1 rfl) ?_
  obtain ⟨c3, hk⟩ := ok_c hk
  obtain ⟨q1, e2, hk⟩ := ok_b hk
  refine zVi X w (n := 1) (As := [.int i1]) (rest := []) (ci := 9) (C := RX9) (T := TX9) (N := 23) (c_X9_has l D cy G M r0 i1 e2) (gzV wm_X9_89 wi_X9_has ws_X9_has wn_X9 wc_X9_has) rfl rfl rfl (by decide +kernel) (by decide) rfl c3 rfl rfl hl.1 (Nat.le_of_ble_eq_true rfl) dX9_isState_2 ⟨Nat.zero_le _, Nat.zero_le _⟩ (fun H locs w => ?_)
  refine lv_if_eq (tgt := 26) hx hb dX9_isState_5 (by decide) (fun c4 => ?_) (fun c4 => ?_)
  · have hk := ok_p c4 hk
    refine lv_iconst (v := 0) hx hb dX9_isState_26 (by decide) ?_
    have hk := hR _ (ok_s hk)
    exact zrz X hr hlk w dX9_isState_27 (by decide) hk rfl
  · have hk := ok_n c4 hk
    refine lv_iload_n hx hb dX9_isState_8 rfl (lv_at hl 2 rfl) ?_
    refine lv_if_lt (tgt := 26) hx hb dX9_isState_9 (by decide) (fun c5 => ?_) (fun c5 => ?_)
    · have hk := ok_p c5 hk
      refine lv_iconst (v := 0) hx hb dX9_isState_26 (by decide) ?_
      have hk := hR _ (ok_s hk)
      exact zrz X hr hlk w dX9_isState_27 (by decide) hk rfl
    · have hk := ok_n c5 hk
      refine lv_iload_n hx hb dX9_isState_12 rfl (lv_at hl 2 rfl) ?_
      refine lv_aload_n hx hb dX9_isState_13 rfl (lv_at hl 0 rfl) ?_
      obtain ⟨r6, e7, hk⟩ := ok_b hk
      refine zgr X w 9 3 13 (C := RX9) (T := TX9) (N := 23) rfl ui_X9 (by decide) rfl (tb wf_X9_13) dX9_isState_14 c3 e7 ?_
      refine lv_iload_n hx hb dX9_isState_17 rfl (lv_at hl 1 rfl) ?_
      obtain ⟨c8, hk⟩ := ok_c hk
      obtain ⟨c9, hk⟩ := ok_c hk
      refine zai X w dX9_isState_18 c8 c9 ?_
      refine lv_icmp_ge (tgt := 26) hx hb dX9_isState_19 (by decide) (fun c10 => ?_) (fun c10 => ?_)
      · have hk := ok_p c10 hk
        refine lv_iconst (v := 0) hx hb dX9_isState_26 (by decide) ?_
        have hk := hR _ (ok_s hk)
        exact zrz X hr hlk w dX9_isState_27 (by decide) hk rfl
      · have hk := ok_n c10 hk
        refine lv_iconst (v := 1) hx hb dX9_isState_22 (by decide) ?_
        refine lv_goto (tgt := 27) hx hb dX9_isState_23 (by decide) ?_
        have hk := hR _ (ok_s hk)
        exact zrz X hr hlk w dX9_isState_27 (by decide) hk rfl
abbrev rm_X9_state : Room := { frames := 2, cells := 0, slots := 0, locals := 59 }
set_option maxHeartbeats 4000000 in
set_option maxRecDepth 100000 in
theorem c_X9_state (l : Launch) (D : va_G) (cy : Cyy) (G : Gg) (M : Mm) (r0 : Nat) (i1 : Int32) (i2 : Int32) (i3 : Int32) {q : Int32 × Mm} (hm : f_X9_state G M r0 i1 i2 i3 = some q) : CI l yX9_state wz_X9_state rm_X9_state D cy G M [.ref r0, .int i1, .int i2, .int i3] q.1 q.2 := by
  refine Met_of (Qf := fun A => QI D cy G A q.1 q.2) (cc := cX9_state) (nL := 4) (ret := (some .int)) (own := RX9) (lv := [(0, .ref r0), (1, .int i1), (2, .int i2), (3, .int i3)]) (by decide) rfl rfl (Nat.le_of_ble_eq_true rfl) rfl ?_
  intro p e s m args below meth c A ls X hr hlk w hl
  have hx := X.1.1
  have hb := X.1.2.1
  obtain ⟨Qo, hR, hk⟩ : ∃ Qo : Int32 × Mm → Prop, (∀ x, Qo x → x = q) ∧ OK (f_X9_state G M r0 i1 i2 i3) Qo := ⟨fun x => x = q, fun _ h => h, q, hm, rfl⟩
  unfold f_X9_state at hk
  refine lv_aload_n hx hb dX9_state_0 rfl (lv_at hl 0 rfl) ?_
  refine lv_iconst (v := 0) hx hb dX9_state_1 (by decide) ?_
  obtain ⟨c1, hk⟩ := ok_c hk
  refine zpi X w 9 0 59 tyX9 (C := RX9) (T := TX9) (N := 23) rfl ui_X9 tyX9_ok nmX9 (by decide) rfl (tb wf_X9_59) rfl rfl dX9_state_2 c1 (fun H locs w => ?_)
  refine lv_aload_n hx hb dX9_state_5 rfl (lv_at hl 0 rfl) ?_
  refine lv_iload_n hx hb dX9_state_6 rfl (lv_at hl 1 rfl) ?_
  refine lv_iload_n hx hb dX9_state_7 rfl (lv_at hl 2 rfl) ?_
  obtain ⟨q2, e3, hk⟩ := ok_b hk
  refine zVi X w (n := 2) (As := [.int i1, .int i2]) (rest := []) (ci := 9) (C := RX9) (T := TX9) (N := 23) (c_X9_isState l D cy G (mwI M r0 0 (0 : Int32)) r0 i1 i2 e3) (gzV wm_X9_171 wi_X9_isState ws_X9_isState wn_X9 wc_X9_isState) rfl rfl rfl (by decide +kernel) (by decide) rfl c1 rfl rfl hl.1 (Nat.le_of_ble_eq_true rfl) dX9_state_8 ⟨Nat.zero_le _, Nat.zero_le _⟩ (fun H locs w => ?_)
  refine lv_if_eq (tgt := 23) hx hb dX9_state_11 (by decide) (fun c4 => ?_) (fun c4 => ?_)
  · have hk := ok_p c4 hk
    refine lv_iconst (v := (-1)) hx hb dX9_state_23 (by decide) ?_
    have hk := hR _ (ok_s hk)
    exact zri X hr hlk w dX9_state_24 (pr1 hk) (pr2 hk)
  · have hk := ok_n c4 hk
    refine lv_iload_n hx hb dX9_state_14 rfl (lv_at hl 3 rfl) ?_
    refine lv_if_lt (tgt := 23) hx hb dX9_state_15 (by decide) (fun c5 => ?_) (fun c5 => ?_)
    · have hk := ok_p c5 hk
      refine lv_iconst (v := (-1)) hx hb dX9_state_23 (by decide) ?_
      have hk := hR _ (ok_s hk)
      exact zri X hr hlk w dX9_state_24 (pr1 hk) (pr2 hk)
    · have hk := ok_n c5 hk
      refine lv_iload_n hx hb dX9_state_18 rfl (lv_at hl 3 rfl) ?_
      refine lv_iconst (v := 2) hx hb dX9_state_19 (by decide) ?_
      refine lv_icmp_le (tgt := 25) hx hb dX9_state_20 (by decide) (fun c6 => ?_) (fun c6 => ?_)
      · have hk := ok_p c6 hk
        refine lv_iload_n hx hb dX9_state_25 rfl (lv_at hl 3 rfl) ?_
        refine lv_iconst (v := 2) hx hb dX9_state_26 (by decide) ?_
        refine lv_icmp_ne (tgt := 37) hx hb dX9_state_27 (by decide) (fun c7 => ?_) (fun c7 => ?_)
        · have hk := ok_n c7 hk
          refine lv_aload_n hx hb dX9_state_37 rfl (lv_at hl 0 rfl) ?_
          refine lv_iload_n hx hb dX9_state_38 rfl (lv_at hl 1 rfl) ?_
          obtain ⟨q8, e9, hk⟩ := ok_b hk
          refine zVv X w (n := 1) (As := [.int i1]) (rest := []) (ci := 9) (C := RX9) (T := TX9) (N := 23) (c_X9_reach l D cy G (mwI M r0 0 (0 : Int32)) r0 i1 e9) (gzV wm_X9_137 wi_X9_reach ws_X9_reach wn_X9 wc_X9_reach) rfl rfl rfl (by decide +kernel) (by decide) rfl c1 rfl rfl hl.1 (Nat.le_of_ble_eq_true rfl) dX9_state_39 ⟨Nat.zero_le _, Nat.zero_le _⟩ (fun H locs w => ?_)
          refine lv_iload_n hx hb dX9_state_42 rfl (lv_at hl 3 rfl) ?_
          refine lv_if_ne (tgt := 55) hx hb dX9_state_43 (by decide) (fun c10 => ?_) (fun c10 => ?_)
          · have hk := ok_n c10 hk
            refine lv_aload_n hx hb dX9_state_55 rfl (lv_at hl 0 rfl) ?_
            refine lv_aload_n hx hb dX9_state_56 rfl (lv_at hl 0 rfl) ?_
            obtain ⟨r11, e12, hk⟩ := ok_b hk
            refine zgr X w 9 3 13 (C := RX9) (T := TX9) (N := 23) rfl ui_X9 (by decide) rfl (tb wf_X9_13) dX9_state_57 c1 e12 ?_
            refine lv_iload_n hx hb dX9_state_60 rfl (lv_at hl 1 rfl) ?_
            obtain ⟨c13, hk⟩ := ok_c hk
            obtain ⟨c14, hk⟩ := ok_c hk
            refine zai X w dX9_state_61 c13 c14 ?_
            refine lv_aload_n hx hb dX9_state_62 rfl (lv_at hl 0 rfl) ?_
            obtain ⟨r15, e16, hk⟩ := ok_b hk
            refine zgr X w 9 7 25 (C := RX9) (T := TX9) (N := 23) rfl ui_X9 (by decide) rfl (tb wf_X9_25) dX9_state_63 c1 e16 ?_
            refine lv_iload_n hx hb dX9_state_66 rfl (lv_at hl 2 rfl) ?_
            obtain ⟨c17, hk⟩ := ok_c hk
            obtain ⟨c18, hk⟩ := ok_c hk
            refine zai X w dX9_state_67 c17 c18 ?_
            obtain ⟨q19, e20, hk⟩ := ok_b hk
            refine zVi X w (n := 2) (As := [.int (q8.1 r11 (Int32.toNatClampNeg i1)), .int (q8.1 r15 (Int32.toNatClampNeg i2))]) (rest := []) (ci := 9) (C := RX9) (T := TX9) (N := 23) (c_X9_isClosed l D cy G q8 r0 (q8.1 r11 (Int32.toNatClampNeg i1)) (q8.1 r15 (Int32.toNatClampNeg i2)) e20) (gzV wm_X9_103 wi_X9_isClosed ws_X9_isClosed wn_X9 wc_X9_isClosed) rfl rfl rfl (by decide +kernel) (by decide) rfl c1 rfl rfl hl.1 (Nat.le_of_ble_eq_true rfl) dX9_state_68 ⟨Nat.zero_le _, Nat.zero_le _⟩ (fun H locs w => ?_)
            refine lv_if_eq (tgt := 78) hx hb dX9_state_71 (by decide) (fun c21 => ?_) (fun c21 => ?_)
            · have hk := ok_p c21 hk
              refine lv_iconst (v := 0) hx hb dX9_state_78 (by decide) ?_
              have hk := hR _ (ok_s hk)
              exact zri X hr hlk w dX9_state_79 (pr1 hk) (pr2 hk)
            · have hk := ok_n c21 hk
              refine lv_iconst (v := 1) hx hb dX9_state_74 (by decide) ?_
              refine lv_goto (tgt := 79) hx hb dX9_state_75 (by decide) ?_
              have hk := hR _ (ok_s hk)
              exact zri X hr hlk w dX9_state_79 (pr1 hk) (pr2 hk)
          · have hk := ok_p c10 hk
            refine lv_aload_n hx hb dX9_state_46 rfl (lv_at hl 0 rfl) ?_
            obtain ⟨r22, e23, hk⟩ := ok_b hk
            refine zgr X w 9 7 25 (C := RX9) (T := TX9) (N := 23) rfl ui_X9 (by decide) rfl (tb wf_X9_25) dX9_state_47 c1 e23 ?_
            refine lv_iload_n hx hb dX9_state_50 rfl (lv_at hl 2 rfl) ?_
            obtain ⟨c24, hk⟩ := ok_c hk
            obtain ⟨c25, hk⟩ := ok_c hk
            refine zai X w dX9_state_51 c24 c25 ?_
            refine lv_goto (tgt := 79) hx hb dX9_state_52 (by decide) ?_
            have hk := hR _ (ok_s hk)
            exact zri X hr hlk w dX9_state_79 (pr1 hk) (pr2 hk)
        · have hk := ok_p c7 hk
          refine lv_aload_n hx hb dX9_state_30 rfl (lv_at hl 0 rfl) ?_
          refine lv_iload_n hx hb dX9_state_31 rfl (lv_at hl 1 rfl) ?_
          refine lv_iload_n hx hb dX9_state_32 rfl (lv_at hl 2 rfl) ?_
          obtain ⟨q26, e27, hk⟩ := ok_b hk
          refine zVi X w (n := 2) (As := [.int i1, .int i2]) (rest := []) (ci := 9) (C := RX9) (T := TX9) (N := 23) (c_X9_beat l D cy G (mwI M r0 0 (0 : Int32)) r0 i1 i2 e27) (gzV wm_X9_165 wi_X9_beat ws_X9_beat wn_X9 wc_X9_beat) rfl rfl rfl (by decide +kernel) (by decide) rfl c1 rfl rfl hl.1 (Nat.le_of_ble_eq_true rfl) dX9_state_33 ⟨Nat.zero_le _, Nat.zero_le _⟩ (fun H locs w => ?_)
          have hk := hR _ (ok_s hk)
          exact zri X hr hlk w dX9_state_36 (pr1 hk) (pr2 hk)
      · have hk := ok_n c6 hk
        refine lv_iconst (v := (-1)) hx hb dX9_state_23 (by decide) ?_
        have hk := hR _ (ok_s hk)
        exact zri X hr hlk w dX9_state_24 (pr1 hk) (pr2 hk)
abbrev rm_X9_step : Room := { frames := 1, cells := 0, slots := 0, locals := 23 }
set_option maxHeartbeats 4000000 in
set_option maxRecDepth 100000 in
theorem wb_X9_step_29 {p : Program} {l : Launch} {e : Env} {s : State} {m : MethodId} {args : Array Value} {below : List Frame} {meth : Method} {c : Code} {D : va_G} {cy : Cyy} {A : Nat → Prop} {G : Gg} (X : Cx p m c cX9_step 8 s args wz_X9_step RX9 D cy) {Q : State → Prop} (M : Mm) (r0 : Nat) (i1 : Int32) (i2 : Int32) (i3 : Int32) (i4 : Int32) (Qo : Int64 → Prop)  (hE : ∀ (y : Int64), Qo (y) → ∀ (H : Heap) (locs : List Loc) (ls : Array Slot), Wo s D cy A G M H locs → lv_has ls 8 [(0, .ref r0), (1, .int i1), (2, .int i2), (3, .int i3), (4, .int i4), (5, .long y)] → W p l e rm_X9_step s m args below meth c H locs 0 0 Q (F0 m 69 ls [])) (rec : Int64 → Int32 → Option (Int64)) (hrec : ∀ (l5 : Int64) (i7 : Int32) (H : Heap) (locs : List Loc) (ls : Array Slot), Wo s D cy A G M H locs → lv_has ls 8 [(0, .ref r0), (1, .int i1), (2, .int i2), (3, .int i3), (4, .int i4), (5, .long l5), (7, .int i7)] → OK (rec l5 i7) Qo → W p l e rm_X9_step s m args below meth c H locs 0 0 Q (F0 m 29 ls [])) (l5 : Int64) (i7 : Int32) (H : Heap) (locs : List Loc) (ls : Array Slot) (w : Wo s D cy A G M H locs) (hl : lv_has ls 8 [(0, .ref r0), (1, .int i1), (2, .int i2), (3, .int i3), (4, .int i4), (5, .long l5), (7, .int i7)]) (hk : OK (bd_X9_step_29 G M r0 i1 i2 i3 i4 rec l5 i7) Qo) : W p l e rm_X9_step s m args below meth c H locs 0 0 Q (F0 m 29 ls []) := by
    have hx := X.1.1
    have hb := X.1.2.1
    unfold bd_X9_step_29 at hk
    refine lv_iload hx hb dX9_step_29 (lv_at hl 6 rfl) ?_
    refine lv_iload_n hx hb dX9_step_31 rfl (lv_at hl 2 rfl) ?_
    refine lv_icmp_ge (tgt := 69) hx hb dX9_step_32 (by decide) (fun c8 => ?_) (fun c8 => ?_)
    · have hk := ok_p c8 hk
      exact hE l5 (ok_s hk) _ _ _ w (lv_sub hl [0, 1, 2, 3, 4, 5] rfl)
    · have hk := ok_n c8 hk
      refine lv_lload hx hb dX9_step_35 (lv_at hl 5 rfl) ?_
      refine lv_aload_n hx hb dX9_step_37 rfl (lv_at hl 0 rfl) ?_
      obtain ⟨c9, hk⟩ := ok_c hk
      obtain ⟨r10, e11, hk⟩ := ok_b hk
      refine zgr X w 9 18 53 (C := RX9) (T := TX9) (N := 23) rfl ui_X9 (by decide) rfl (tb wf_X9_53) dX9_step_38 c9 e11 ?_
      refine lv_bipush (v := 8) hx hb dX9_step_41 (by decide) ?_
      refine lv_iload_n hx hb dX9_step_43 rfl (lv_at hl 3 rfl) ?_
      refine lv_imul hx hb dX9_step_44 ?_
      refine lv_iload hx hb dX9_step_45 (lv_at hl 6 rfl) ?_
      refine lv_iadd hx hb dX9_step_47 ?_
      obtain ⟨c12, hk⟩ := ok_c hk
      obtain ⟨c13, hk⟩ := ok_c hk
      refine zal X w dX9_step_48 c12 c13 ?_
      refine lv_aload_n hx hb dX9_step_49 rfl (lv_at hl 0 rfl) ?_
      refine lv_iload_n hx hb dX9_step_50 rfl (lv_at hl 1 rfl) ?_
      refine lv_iload hx hb dX9_step_51 (lv_at hl 6 rfl) ?_
      refine lv_iload hx hb dX9_step_53 (lv_at hl 4 rfl) ?_
      obtain ⟨q14, e15, hk⟩ := ok_b hk
      refine zVi X w (n := 3) (As := [.int i1, .int i7, .int i4]) (rest := [.long (M.2.1 r10 (Int32.toNatClampNeg (((8 : Int32) * i3) + i7))), .long l5]) (ci := 9) (C := RX9) (T := TX9) (N := 23) (c_X9_at l D cy G M r0 i1 i7 i4 e15) (gzV wm_X9_70 wi_X9_at ws_X9_at wn_X9 wc_X9_at) rfl rfl rfl (by decide +kernel) (by decide) rfl c9 rfl rfl hl.1 (Nat.le_of_ble_eq_true rfl) dX9_step_55 ⟨Nat.zero_le _, Nat.zero_le _⟩ (fun H locs w => ?_)
      refine lv_i2l hx hb dX9_step_58 rfl ?_
      refine lv_lmul hx hb dX9_step_59 ?_
      refine lv_ladd hx hb dX9_step_60 ?_
      refine lv_lstore (lv' := [(5, .long (l5 + ((M.2.1 r10 (Int32.toNatClampNeg (((8 : Int32) * i3) + i7))) * (Int32.toInt64 q14)))), (0, .ref r0), (1, .int i1), (2, .int i2), (3, .int i3), (4, .int i4), (7, .int i7)]) hx hb dX9_step_61 hl (by decide) rfl (fun ls hl => ?_)
      refine lv_iinc (v := (i7 + 1)) (lv' := [(7, .int (i7 + 1)), (5, .long (l5 + ((M.2.1 r10 (Int32.toNatClampNeg (((8 : Int32) * i3) + i7))) * (Int32.toInt64 q14)))), (0, .ref r0), (1, .int i1), (2, .int i2), (3, .int i3), (4, .int i4)]) hx hb dX9_step_63 hl (k := 6) rfl rfl (by decide) rfl (fun ls hl => ?_)
      refine lv_goto (tgt := 29) hx hb dX9_step_66 (by decide) ?_
      exact hrec (l5 + ((M.2.1 r10 (Int32.toNatClampNeg (((8 : Int32) * i3) + i7))) * (Int32.toInt64 q14))) (i7 + 1) _ _ _ w (lv_sub hl [2, 3, 4, 5, 6, 1, 0] rfl) hk
theorem wl_X9_step_29 {p : Program} {l : Launch} {e : Env} {s : State} {m : MethodId} {args : Array Value} {below : List Frame} {meth : Method} {c : Code} {D : va_G} {cy : Cyy} {A : Nat → Prop} {G : Gg} (X : Cx p m c cX9_step 8 s args wz_X9_step RX9 D cy) {Q : State → Prop} (M : Mm) (r0 : Nat) (i1 : Int32) (i2 : Int32) (i3 : Int32) (i4 : Int32) (Qo : Int64 → Prop)  (hE : ∀ (y : Int64), Qo (y) → ∀ (H : Heap) (locs : List Loc) (ls : Array Slot), Wo s D cy A G M H locs → lv_has ls 8 [(0, .ref r0), (1, .int i1), (2, .int i2), (3, .int i3), (4, .int i4), (5, .long y)] → W p l e rm_X9_step s m args below meth c H locs 0 0 Q (F0 m 69 ls [])) : ∀ (n : Nat) (l5 : Int64) (i7 : Int32) (H : Heap) (locs : List Loc) (ls : Array Slot), Wo s D cy A G M H locs → lv_has ls 8 [(0, .ref r0), (1, .int i1), (2, .int i2), (3, .int i3), (4, .int i4), (5, .long l5), (7, .int i7)] → OK (lp_X9_step_29 G M r0 i1 i2 i3 i4 n l5 i7) Qo → W p l e rm_X9_step s m args below meth c H locs 0 0 Q (F0 m 29 ls []) := by
  intro n
  induction n with
  | zero => intro l5 i7 H locs ls w hl hk; exact ok_0 hk
  | succ n ih => intro l5 i7 H locs ls w hl hk; exact wb_X9_step_29 X M r0 i1 i2 i3 i4 Qo hE  (lp_X9_step_29 G M r0 i1 i2 i3 i4 n) ih l5 i7 H locs ls w hl hk
set_option maxHeartbeats 4000000 in
set_option maxRecDepth 100000 in
theorem wb_X9_step_17 {p : Program} {l : Launch} {e : Env} {s : State} {m : MethodId} {args : Array Value} {below : List Frame} {meth : Method} {c : Code} {D : va_G} {cy : Cyy} {A : Nat → Prop} {G : Gg} (X : Cx p m c cX9_step 8 s args wz_X9_step RX9 D cy) {Q : State → Prop} (r0 : Nat) (i1 : Int32) (i2 : Int32) (i3 : Int32) (Qo : Mm → Prop)  (hE : ∀ (y : Mm), Qo (y) → ∀ (H : Heap) (locs : List Loc) (ls : Array Slot), Wo s D cy A G y H locs → lv_has ls 8 [(0, .ref r0), (1, .int i1), (2, .int i2), (3, .int i3)] → W p l e rm_X9_step s m args below meth c H locs 0 0 Q (F0 m 89 ls [])) (rec : Int32 → Mm → Option (Mm)) (hrec : ∀ (i4 : Int32) (M : Mm) (H : Heap) (locs : List Loc) (ls : Array Slot), Wo s D cy A G M H locs → lv_has ls 8 [(0, .ref r0), (1, .int i1), (2, .int i2), (3, .int i3), (4, .int i4)] → OK (rec i4 M) Qo → W p l e rm_X9_step s m args below meth c H locs 0 0 Q (F0 m 17 ls [])) (i4 : Int32) (M : Mm) (H : Heap) (locs : List Loc) (ls : Array Slot) (w : Wo s D cy A G M H locs) (hl : lv_has ls 8 [(0, .ref r0), (1, .int i1), (2, .int i2), (3, .int i3), (4, .int i4)]) (hk : OK (bd_X9_step_17 G r0 i1 i2 i3 rec i4 M) Qo) : W p l e rm_X9_step s m args below meth c H locs 0 0 Q (F0 m 17 ls []) := by
    have hx := X.1.1
    have hb := X.1.2.1
    unfold bd_X9_step_17 at hk
    refine lv_iload hx hb dX9_step_17 (lv_at hl 4 rfl) ?_
    refine lv_iload_n hx hb dX9_step_19 rfl (lv_at hl 2 rfl) ?_
    refine lv_icmp_ge (tgt := 89) hx hb dX9_step_20 (by decide) (fun c7 => ?_) (fun c7 => ?_)
    · have hk := ok_p c7 hk
      exact hE M (ok_s hk) _ _ _ w (lv_sub hl [0, 1, 2, 3] rfl)
    · have hk := ok_n c7 hk
      refine lv_lconst (v := 0) hx hb dX9_step_23 (by decide) ?_
      refine lv_lstore (lv' := [(5, .long (0 : Int64)), (0, .ref r0), (1, .int i1), (2, .int i2), (3, .int i3), (4, .int i4)]) hx hb dX9_step_24 hl (by decide) rfl (fun ls hl => ?_)
      refine lv_iconst (v := 0) hx hb dX9_step_26 (by decide) ?_
      refine lv_istore (lv' := [(7, .int (0 : Int32)), (5, .long (0 : Int64)), (0, .ref r0), (1, .int i1), (2, .int i2), (3, .int i3), (4, .int i4)]) hx hb dX9_step_27 hl (by decide) rfl (fun ls hl => ?_)
      refine wl_X9_step_29 X M r0 i1 i2 i3 i4 (Qo := _) (fun q16 hk H locs ls w hl => ?_) FU (0 : Int64) (0 : Int32) _ _ _ w (lv_sub hl [2, 3, 4, 5, 6, 1, 0] rfl) (ok_b hk)
      refine lv_aload_n hx hb dX9_step_69 rfl (lv_at hl 0 rfl) ?_
      obtain ⟨c17, hk⟩ := ok_c hk
      obtain ⟨r18, e19, hk⟩ := ok_b hk
      refine zgr X w 9 19 56 (C := RX9) (T := TX9) (N := 23) rfl ui_X9 (by decide) rfl (tb wf_X9_56) dX9_step_70 c17 e19 ?_
      refine lv_bipush (v := 8) hx hb dX9_step_73 (by decide) ?_
      refine lv_iload_n hx hb dX9_step_75 rfl (lv_at hl 3 rfl) ?_
      refine lv_imul hx hb dX9_step_76 ?_
      refine lv_iload hx hb dX9_step_77 (lv_at hl 4 rfl) ?_
      refine lv_iadd hx hb dX9_step_79 ?_
      refine lv_lload hx hb dX9_step_80 (lv_at hl 5 rfl) ?_
      obtain ⟨c20, hk⟩ := ok_c hk
      obtain ⟨c21, hk⟩ := ok_c hk
      refine zsl X w dX9_step_82 c20 c21 (fun H locs w => ?_)
      refine lv_iinc (v := (i4 + 1)) (lv' := [(4, .int (i4 + 1)), (0, .ref r0), (1, .int i1), (2, .int i2), (3, .int i3), (5, .long q16)]) hx hb dX9_step_83 hl (k := 4) rfl rfl (by decide) rfl (fun ls hl => ?_)
      refine lv_goto (tgt := 17) hx hb dX9_step_86 (by decide) ?_
      exact hrec (i4 + 1) (mwJ M r18 (Int32.toNatClampNeg (((8 : Int32) * i3) + i4)) q16) _ _ _ w (lv_sub hl [1, 2, 3, 4, 0] rfl) hk
theorem wl_X9_step_17 {p : Program} {l : Launch} {e : Env} {s : State} {m : MethodId} {args : Array Value} {below : List Frame} {meth : Method} {c : Code} {D : va_G} {cy : Cyy} {A : Nat → Prop} {G : Gg} (X : Cx p m c cX9_step 8 s args wz_X9_step RX9 D cy) {Q : State → Prop} (r0 : Nat) (i1 : Int32) (i2 : Int32) (i3 : Int32) (Qo : Mm → Prop)  (hE : ∀ (y : Mm), Qo (y) → ∀ (H : Heap) (locs : List Loc) (ls : Array Slot), Wo s D cy A G y H locs → lv_has ls 8 [(0, .ref r0), (1, .int i1), (2, .int i2), (3, .int i3)] → W p l e rm_X9_step s m args below meth c H locs 0 0 Q (F0 m 89 ls [])) : ∀ (n : Nat) (i4 : Int32) (M : Mm) (H : Heap) (locs : List Loc) (ls : Array Slot), Wo s D cy A G M H locs → lv_has ls 8 [(0, .ref r0), (1, .int i1), (2, .int i2), (3, .int i3), (4, .int i4)] → OK (lp_X9_step_17 G r0 i1 i2 i3 n i4 M) Qo → W p l e rm_X9_step s m args below meth c H locs 0 0 Q (F0 m 17 ls []) := by
  intro n
  induction n with
  | zero => intro i4 M H locs ls w hl hk; exact ok_0 hk
  | succ n ih => intro i4 M H locs ls w hl hk; exact wb_X9_step_17 X r0 i1 i2 i3 Qo hE  (lp_X9_step_17 G r0 i1 i2 i3 n) ih i4 M H locs ls w hl hk
set_option maxHeartbeats 4000000 in
set_option maxRecDepth 100000 in
theorem wb_X9_step_9 {p : Program} {l : Launch} {e : Env} {s : State} {m : MethodId} {args : Array Value} {below : List Frame} {meth : Method} {c : Code} {D : va_G} {cy : Cyy} {A : Nat → Prop} {G : Gg} (X : Cx p m c cX9_step 8 s args wz_X9_step RX9 D cy) {Q : State → Prop} (r0 : Nat) (i1 : Int32) (i2 : Int32) (Qo : Mm → Prop)  (hE : ∀ (y : Mm), Qo (y) → ∀ (H : Heap) (locs : List Loc) (ls : Array Slot), Wo s D cy A G y H locs → lv_has ls 8 [(0, .ref r0), (1, .int i1)] → W p l e rm_X9_step s m args below meth c H locs 0 0 Q (F0 m 95 ls [])) (rec : Int32 → Mm → Option (Mm)) (hrec : ∀ (i3 : Int32) (M : Mm) (H : Heap) (locs : List Loc) (ls : Array Slot), Wo s D cy A G M H locs → lv_has ls 8 [(0, .ref r0), (1, .int i1), (2, .int i2), (3, .int i3)] → OK (rec i3 M) Qo → W p l e rm_X9_step s m args below meth c H locs 0 0 Q (F0 m 9 ls [])) (i3 : Int32) (M : Mm) (H : Heap) (locs : List Loc) (ls : Array Slot) (w : Wo s D cy A G M H locs) (hl : lv_has ls 8 [(0, .ref r0), (1, .int i1), (2, .int i2), (3, .int i3)]) (hk : OK (bd_X9_step_9 G r0 i1 i2 rec i3 M) Qo) : W p l e rm_X9_step s m args below meth c H locs 0 0 Q (F0 m 9 ls []) := by
    have hx := X.1.1
    have hb := X.1.2.1
    unfold bd_X9_step_9 at hk
    refine lv_iload_n hx hb dX9_step_9 rfl (lv_at hl 3 rfl) ?_
    refine lv_iload_n hx hb dX9_step_10 rfl (lv_at hl 2 rfl) ?_
    refine lv_icmp_ge (tgt := 95) hx hb dX9_step_11 (by decide) (fun c6 => ?_) (fun c6 => ?_)
    · have hk := ok_p c6 hk
      exact hE M (ok_s hk) _ _ _ w (lv_sub hl [0, 1] rfl)
    · have hk := ok_n c6 hk
      refine lv_iconst (v := 0) hx hb dX9_step_14 (by decide) ?_
      refine lv_istore (lv' := [(4, .int (0 : Int32)), (0, .ref r0), (1, .int i1), (2, .int i2), (3, .int i3)]) hx hb dX9_step_15 hl (by decide) rfl (fun ls hl => ?_)
      refine wl_X9_step_17 X r0 i1 i2 i3 (Qo := _) (fun q22 hk H locs ls w hl => ?_) FU (0 : Int32) M _ _ _ w (lv_sub hl [1, 2, 3, 4, 0] rfl) (ok_b hk)
      refine lv_iinc (v := (i3 + 1)) (lv' := [(3, .int (i3 + 1)), (0, .ref r0), (1, .int i1), (2, .int i2)]) hx hb dX9_step_89 hl (k := 3) rfl rfl (by decide) rfl (fun ls hl => ?_)
      refine lv_goto (tgt := 9) hx hb dX9_step_92 (by decide) ?_
      exact hrec (i3 + 1) q22 _ _ _ w (lv_sub hl [1, 2, 3, 0] rfl) hk
theorem wl_X9_step_9 {p : Program} {l : Launch} {e : Env} {s : State} {m : MethodId} {args : Array Value} {below : List Frame} {meth : Method} {c : Code} {D : va_G} {cy : Cyy} {A : Nat → Prop} {G : Gg} (X : Cx p m c cX9_step 8 s args wz_X9_step RX9 D cy) {Q : State → Prop} (r0 : Nat) (i1 : Int32) (i2 : Int32) (Qo : Mm → Prop)  (hE : ∀ (y : Mm), Qo (y) → ∀ (H : Heap) (locs : List Loc) (ls : Array Slot), Wo s D cy A G y H locs → lv_has ls 8 [(0, .ref r0), (1, .int i1)] → W p l e rm_X9_step s m args below meth c H locs 0 0 Q (F0 m 95 ls [])) : ∀ (n : Nat) (i3 : Int32) (M : Mm) (H : Heap) (locs : List Loc) (ls : Array Slot), Wo s D cy A G M H locs → lv_has ls 8 [(0, .ref r0), (1, .int i1), (2, .int i2), (3, .int i3)] → OK (lp_X9_step_9 G r0 i1 i2 n i3 M) Qo → W p l e rm_X9_step s m args below meth c H locs 0 0 Q (F0 m 9 ls []) := by
  intro n
  induction n with
  | zero => intro i3 M H locs ls w hl hk; exact ok_0 hk
  | succ n ih => intro i3 M H locs ls w hl hk; exact wb_X9_step_9 X r0 i1 i2 Qo hE  (lp_X9_step_9 G r0 i1 i2 n) ih i3 M H locs ls w hl hk
set_option maxHeartbeats 4000000 in
set_option maxRecDepth 100000 in
theorem wb_X9_step_97 {p : Program} {l : Launch} {e : Env} {s : State} {m : MethodId} {args : Array Value} {below : List Frame} {meth : Method} {c : Code} {D : va_G} {cy : Cyy} {A : Nat → Prop} {G : Gg} (X : Cx p m c cX9_step 8 s args wz_X9_step RX9 D cy) {Q : State → Prop} (r0 : Nat) (i1 : Int32) (Qo : Mm → Prop)  (hE : ∀ (y : Mm), Qo (y) → ∀ (H : Heap) (locs : List Loc) (ls : Array Slot), Wo s D cy A G y H locs → lv_has ls 8 [(0, .ref r0), (1, .int i1)] → W p l e rm_X9_step s m args below meth c H locs 0 0 Q (F0 m 121 ls [])) (rec : Int32 → Mm → Option (Mm)) (hrec : ∀ (i3 : Int32) (M : Mm) (H : Heap) (locs : List Loc) (ls : Array Slot), Wo s D cy A G M H locs → lv_has ls 8 [(0, .ref r0), (1, .int i1), (3, .int i3)] → OK (rec i3 M) Qo → W p l e rm_X9_step s m args below meth c H locs 0 0 Q (F0 m 97 ls [])) (i3 : Int32) (M : Mm) (H : Heap) (locs : List Loc) (ls : Array Slot) (w : Wo s D cy A G M H locs) (hl : lv_has ls 8 [(0, .ref r0), (1, .int i1), (3, .int i3)]) (hk : OK (bd_X9_step_97 G r0 i1 rec i3 M) Qo) : W p l e rm_X9_step s m args below meth c H locs 0 0 Q (F0 m 97 ls []) := by
    have hx := X.1.1
    have hb := X.1.2.1
    unfold bd_X9_step_97 at hk
    refine lv_iload_n hx hb dX9_step_97 rfl (lv_at hl 2 rfl) ?_
    refine lv_bipush (v := 64) hx hb dX9_step_98 (by decide) ?_
    refine lv_icmp_ge (tgt := 121) hx hb dX9_step_100 (by decide) (fun c24 => ?_) (fun c24 => ?_)
    · have hk := ok_p c24 hk
      exact hE M (ok_s hk) _ _ _ w (lv_sub hl [0, 1] rfl)
    · have hk := ok_n c24 hk
      refine lv_aload_n hx hb dX9_step_103 rfl (lv_at hl 0 rfl) ?_
      obtain ⟨c25, hk⟩ := ok_c hk
      obtain ⟨r26, e27, hk⟩ := ok_b hk
      refine zgr X w 9 18 53 (C := RX9) (T := TX9) (N := 23) rfl ui_X9 (by decide) rfl (tb wf_X9_53) dX9_step_104 c25 e27 ?_
      refine lv_iload_n hx hb dX9_step_107 rfl (lv_at hl 2 rfl) ?_
      refine lv_aload_n hx hb dX9_step_108 rfl (lv_at hl 0 rfl) ?_
      obtain ⟨r28, e29, hk⟩ := ok_b hk
      refine zgr X w 9 19 56 (C := RX9) (T := TX9) (N := 23) rfl ui_X9 (by decide) rfl (tb wf_X9_56) dX9_step_109 c25 e29 ?_
      refine lv_iload_n hx hb dX9_step_112 rfl (lv_at hl 2 rfl) ?_
      obtain ⟨c30, hk⟩ := ok_c hk
      obtain ⟨c31, hk⟩ := ok_c hk
      refine zal X w dX9_step_113 c30 c31 ?_
      obtain ⟨c32, hk⟩ := ok_c hk
      obtain ⟨c33, hk⟩ := ok_c hk
      refine zsl X w dX9_step_114 c32 c33 (fun H locs w => ?_)
      refine lv_iinc (v := (i3 + 1)) (lv' := [(3, .int (i3 + 1)), (0, .ref r0), (1, .int i1)]) hx hb dX9_step_115 hl (k := 2) rfl rfl (by decide) rfl (fun ls hl => ?_)
      refine lv_goto (tgt := 97) hx hb dX9_step_118 (by decide) ?_
      exact hrec (i3 + 1) (mwJ M r26 (Int32.toNatClampNeg i3) (M.2.1 r28 (Int32.toNatClampNeg i3))) _ _ _ w (lv_sub hl [1, 2, 0] rfl) hk
theorem wl_X9_step_97 {p : Program} {l : Launch} {e : Env} {s : State} {m : MethodId} {args : Array Value} {below : List Frame} {meth : Method} {c : Code} {D : va_G} {cy : Cyy} {A : Nat → Prop} {G : Gg} (X : Cx p m c cX9_step 8 s args wz_X9_step RX9 D cy) {Q : State → Prop} (r0 : Nat) (i1 : Int32) (Qo : Mm → Prop)  (hE : ∀ (y : Mm), Qo (y) → ∀ (H : Heap) (locs : List Loc) (ls : Array Slot), Wo s D cy A G y H locs → lv_has ls 8 [(0, .ref r0), (1, .int i1)] → W p l e rm_X9_step s m args below meth c H locs 0 0 Q (F0 m 121 ls [])) : ∀ (n : Nat) (i3 : Int32) (M : Mm) (H : Heap) (locs : List Loc) (ls : Array Slot), Wo s D cy A G M H locs → lv_has ls 8 [(0, .ref r0), (1, .int i1), (3, .int i3)] → OK (lp_X9_step_97 G r0 i1 n i3 M) Qo → W p l e rm_X9_step s m args below meth c H locs 0 0 Q (F0 m 97 ls []) := by
  intro n
  induction n with
  | zero => intro i3 M H locs ls w hl hk; exact ok_0 hk
  | succ n ih => intro i3 M H locs ls w hl hk; exact wb_X9_step_97 X r0 i1 Qo hE  (lp_X9_step_97 G r0 i1 n) ih i3 M H locs ls w hl hk
set_option maxHeartbeats 4000000 in
set_option maxRecDepth 100000 in
theorem c_X9_step (l : Launch) (D : va_G) (cy : Cyy) (G : Gg) (M : Mm) (r0 : Nat) (i1 : Int32) {q : Mm} (hm : f_X9_step G M r0 i1 = some q) : CV l yX9_step wz_X9_step rm_X9_step D cy G M [.ref r0, .int i1] q := by
  refine Met_of (Qf := fun A => QV D cy G A q) (cc := cX9_step) (nL := 8) (ret := none) (own := RX9) (lv := [(0, .ref r0), (1, .int i1)]) (by decide) rfl rfl (Nat.le_of_ble_eq_true rfl) rfl ?_
  intro p e s m args below meth c A ls X hr hlk w hl
  have hx := X.1.1
  have hb := X.1.2.1
  obtain ⟨Qo, hR, hk⟩ : ∃ Qo : Mm → Prop, (∀ x, Qo x → x = q) ∧ OK (f_X9_step G M r0 i1) Qo := ⟨fun x => x = q, fun _ h => h, q, hm, rfl⟩
  unfold f_X9_step at hk
  refine lv_aload_n hx hb dX9_step_0 rfl (lv_at hl 0 rfl) ?_
  obtain ⟨c1, hk⟩ := ok_c hk
  obtain ⟨r2, e3, hk⟩ := ok_b hk
  refine zgr X w 9 3 13 (C := RX9) (T := TX9) (N := 23) rfl ui_X9 (by decide) rfl (tb wf_X9_13) dX9_step_1 c1 e3 ?_
  refine lv_iload_n hx hb dX9_step_4 rfl (lv_at hl 1 rfl) ?_
  obtain ⟨c4, hk⟩ := ok_c hk
  obtain ⟨c5, hk⟩ := ok_c hk
  refine zai X w dX9_step_5 c4 c5 ?_
  refine lv_istore_n (lv' := [(2, .int (M.1 r2 (Int32.toNatClampNeg i1))), (0, .ref r0), (1, .int i1)]) hx hb dX9_step_6 rfl hl (by decide) rfl (fun ls hl => ?_)
  refine lv_iconst (v := 0) hx hb dX9_step_7 (by decide) ?_
  refine lv_istore_n (lv' := [(3, .int (0 : Int32)), (2, .int (M.1 r2 (Int32.toNatClampNeg i1))), (0, .ref r0), (1, .int i1)]) hx hb dX9_step_8 rfl hl (by decide) rfl (fun ls hl => ?_)
  refine wl_X9_step_9 X r0 i1 (M.1 r2 (Int32.toNatClampNeg i1)) (Qo := _) (fun q23 hk H locs ls w hl => ?_) FU (0 : Int32) M _ _ _ w (lv_sub hl [2, 3, 1, 0] rfl) (ok_b hk)
  refine lv_iconst (v := 0) hx hb dX9_step_95 (by decide) ?_
  refine lv_istore_n (lv' := [(3, .int (0 : Int32)), (0, .ref r0), (1, .int i1)]) hx hb dX9_step_96 rfl hl (by decide) rfl (fun ls hl => ?_)
  refine wl_X9_step_97 X r0 i1 (Qo := _) (fun q34 hk H locs ls w hl => ?_) FU (0 : Int32) q23 _ _ _ w (lv_sub hl [1, 2, 0] rfl) (ok_b hk)
  refine lv_aload_n hx hb dX9_step_121 rfl (lv_at hl 0 rfl) ?_
  refine lv_dup hx hb dX9_step_122 rfl ?_
  refine zgl X w 9 20 174 (C := RX9) (T := TX9) (N := 23) rfl ui_X9 (by decide) rfl (tb wf_X9_174) dX9_step_123 c1 ?_
  refine lv_aload_n hx hb dX9_step_126 rfl (lv_at hl 0 rfl) ?_
  obtain ⟨r35, e36, hk⟩ := ok_b hk
  refine zgr X w 9 4 16 (C := RX9) (T := TX9) (N := 23) rfl ui_X9 (by decide) rfl (tb wf_X9_16) dX9_step_127 c1 e36 ?_
  refine lv_iload_n hx hb dX9_step_130 rfl (lv_at hl 1 rfl) ?_
  obtain ⟨c37, hk⟩ := ok_c hk
  obtain ⟨c38, hk⟩ := ok_c hk
  refine zai X w dX9_step_131 c37 c38 ?_
  refine lv_i2l hx hb dX9_step_132 rfl ?_
  refine lv_lmul hx hb dX9_step_133 ?_
  refine zpl X w 9 20 174 tyX9 (C := RX9) (T := TX9) (N := 23) rfl ui_X9 tyX9_ok nmX9 (by decide) rfl (tb wf_X9_174) rfl rfl dX9_step_134 c1 (fun H locs w => ?_)
  have hk := hR _ (ok_s hk)
  exact zrv X hr hlk w dX9_step_137 hk
abbrev rm_X9_begin : Room := { frames := 0, cells := 0, slots := 0, locals := 0 }
set_option maxHeartbeats 4000000 in
set_option maxRecDepth 100000 in
theorem wb_X9_begin_10 {p : Program} {l : Launch} {e : Env} {s : State} {m : MethodId} {args : Array Value} {below : List Frame} {meth : Method} {c : Code} {D : va_G} {cy : Cyy} {A : Nat → Prop} {G : Gg} (X : Cx p m c cX9_begin 3 s args wz_X9_begin RX9 D cy) {Q : State → Prop} (r0 : Nat) (i1 : Int32) (Qo : Mm → Prop)  (hE : ∀ (y : Mm), Qo (y) → ∀ (H : Heap) (locs : List Loc) (ls : Array Slot), Wo s D cy A G y H locs → lv_has ls 3 [(0, .ref r0), (1, .int i1)] → W p l e rm_X9_begin s m args below meth c H locs 0 0 Q (F0 m 43 ls [])) (rec : Int32 → Mm → Option (Mm)) (hrec : ∀ (i2 : Int32) (M : Mm) (H : Heap) (locs : List Loc) (ls : Array Slot), Wo s D cy A G M H locs → lv_has ls 3 [(0, .ref r0), (1, .int i1), (2, .int i2)] → OK (rec i2 M) Qo → W p l e rm_X9_begin s m args below meth c H locs 0 0 Q (F0 m 10 ls [])) (i2 : Int32) (M : Mm) (H : Heap) (locs : List Loc) (ls : Array Slot) (w : Wo s D cy A G M H locs) (hl : lv_has ls 3 [(0, .ref r0), (1, .int i1), (2, .int i2)]) (hk : OK (bd_X9_begin_10 G r0 i1 rec i2 M) Qo) : W p l e rm_X9_begin s m args below meth c H locs 0 0 Q (F0 m 10 ls []) := by
    have hx := X.1.1
    have hb := X.1.2.1
    unfold bd_X9_begin_10 at hk
    refine lv_iload_n hx hb dX9_begin_10 rfl (lv_at hl 2 rfl) ?_
    refine lv_bipush (v := 8) hx hb dX9_begin_11 (by decide) ?_
    refine lv_icmp_ge (tgt := 43) hx hb dX9_begin_13 (by decide) (fun c2 => ?_) (fun c2 => ?_)
    · have hk := ok_p c2 hk
      exact hE M (ok_s hk) _ _ _ w (lv_sub hl [0, 1] rfl)
    · have hk := ok_n c2 hk
      refine lv_aload_n hx hb dX9_begin_16 rfl (lv_at hl 0 rfl) ?_
      obtain ⟨c3, hk⟩ := ok_c hk
      obtain ⟨r4, e5, hk⟩ := ok_b hk
      refine zgr X w 9 18 53 (C := RX9) (T := TX9) (N := 23) rfl ui_X9 (by decide) rfl (tb wf_X9_53) dX9_begin_17 c3 e5 ?_
      refine lv_bipush (v := 8) hx hb dX9_begin_20 (by decide) ?_
      refine lv_iload_n hx hb dX9_begin_22 rfl (lv_at hl 1 rfl) ?_
      refine lv_imul hx hb dX9_begin_23 ?_
      refine lv_iload_n hx hb dX9_begin_24 rfl (lv_at hl 2 rfl) ?_
      refine lv_iadd hx hb dX9_begin_25 ?_
      refine lv_iload_n hx hb dX9_begin_26 rfl (lv_at hl 1 rfl) ?_
      refine lv_iload_n hx hb dX9_begin_27 rfl (lv_at hl 2 rfl) ?_
      refine lv_icmp_ne (tgt := 35) hx hb dX9_begin_28 (by decide) (fun c6 => ?_) (fun c6 => ?_)
      · have hk := ok_n c6 hk
        refine lv_lconst (v := 0) hx hb dX9_begin_35 (by decide) ?_
        obtain ⟨c7, hk⟩ := ok_c hk
        obtain ⟨c8, hk⟩ := ok_c hk
        refine zsl X w dX9_begin_36 c7 c8 (fun H locs w => ?_)
        refine lv_iinc (v := (i2 + 1)) (lv' := [(2, .int (i2 + 1)), (0, .ref r0), (1, .int i1)]) hx hb dX9_begin_37 hl (k := 2) rfl rfl (by decide) rfl (fun ls hl => ?_)
        refine lv_goto (tgt := 10) hx hb dX9_begin_40 (by decide) ?_
        exact hrec (i2 + 1) (mwJ M r4 (Int32.toNatClampNeg (((8 : Int32) * i1) + i2)) (0 : Int64)) _ _ _ w (lv_sub hl [1, 2, 0] rfl) hk
      · have hk := ok_p c6 hk
        refine lv_lconst (v := 1) hx hb dX9_begin_31 (by decide) ?_
        refine lv_goto (tgt := 36) hx hb dX9_begin_32 (by decide) ?_
        obtain ⟨c9, hk⟩ := ok_c hk
        obtain ⟨c10, hk⟩ := ok_c hk
        refine zsl X w dX9_begin_36 c9 c10 (fun H locs w => ?_)
        refine lv_iinc (v := (i2 + 1)) (lv' := [(2, .int (i2 + 1)), (0, .ref r0), (1, .int i1)]) hx hb dX9_begin_37 hl (k := 2) rfl rfl (by decide) rfl (fun ls hl => ?_)
        refine lv_goto (tgt := 10) hx hb dX9_begin_40 (by decide) ?_
        exact hrec (i2 + 1) (mwJ M r4 (Int32.toNatClampNeg (((8 : Int32) * i1) + i2)) (1 : Int64)) _ _ _ w (lv_sub hl [1, 2, 0] rfl) hk
theorem wl_X9_begin_10 {p : Program} {l : Launch} {e : Env} {s : State} {m : MethodId} {args : Array Value} {below : List Frame} {meth : Method} {c : Code} {D : va_G} {cy : Cyy} {A : Nat → Prop} {G : Gg} (X : Cx p m c cX9_begin 3 s args wz_X9_begin RX9 D cy) {Q : State → Prop} (r0 : Nat) (i1 : Int32) (Qo : Mm → Prop)  (hE : ∀ (y : Mm), Qo (y) → ∀ (H : Heap) (locs : List Loc) (ls : Array Slot), Wo s D cy A G y H locs → lv_has ls 3 [(0, .ref r0), (1, .int i1)] → W p l e rm_X9_begin s m args below meth c H locs 0 0 Q (F0 m 43 ls [])) : ∀ (n : Nat) (i2 : Int32) (M : Mm) (H : Heap) (locs : List Loc) (ls : Array Slot), Wo s D cy A G M H locs → lv_has ls 3 [(0, .ref r0), (1, .int i1), (2, .int i2)] → OK (lp_X9_begin_10 G r0 i1 n i2 M) Qo → W p l e rm_X9_begin s m args below meth c H locs 0 0 Q (F0 m 10 ls []) := by
  intro n
  induction n with
  | zero => intro i2 M H locs ls w hl hk; exact ok_0 hk
  | succ n ih => intro i2 M H locs ls w hl hk; exact wb_X9_begin_10 X r0 i1 Qo hE  (lp_X9_begin_10 G r0 i1 n) ih i2 M H locs ls w hl hk
set_option maxHeartbeats 4000000 in
set_option maxRecDepth 100000 in
theorem wb_X9_begin_2 {p : Program} {l : Launch} {e : Env} {s : State} {m : MethodId} {args : Array Value} {below : List Frame} {meth : Method} {c : Code} {D : va_G} {cy : Cyy} {A : Nat → Prop} {G : Gg} (X : Cx p m c cX9_begin 3 s args wz_X9_begin RX9 D cy) {Q : State → Prop} (r0 : Nat) (Qo : Mm → Prop)  (hE : ∀ (y : Mm), Qo (y) → ∀ (H : Heap) (locs : List Loc) (ls : Array Slot), Wo s D cy A G y H locs → lv_has ls 3 [(0, .ref r0)] → W p l e rm_X9_begin s m args below meth c H locs 0 0 Q (F0 m 49 ls [])) (rec : Int32 → Mm → Option (Mm)) (hrec : ∀ (i1 : Int32) (M : Mm) (H : Heap) (locs : List Loc) (ls : Array Slot), Wo s D cy A G M H locs → lv_has ls 3 [(0, .ref r0), (1, .int i1)] → OK (rec i1 M) Qo → W p l e rm_X9_begin s m args below meth c H locs 0 0 Q (F0 m 2 ls [])) (i1 : Int32) (M : Mm) (H : Heap) (locs : List Loc) (ls : Array Slot) (w : Wo s D cy A G M H locs) (hl : lv_has ls 3 [(0, .ref r0), (1, .int i1)]) (hk : OK (bd_X9_begin_2 G r0 rec i1 M) Qo) : W p l e rm_X9_begin s m args below meth c H locs 0 0 Q (F0 m 2 ls []) := by
    have hx := X.1.1
    have hb := X.1.2.1
    unfold bd_X9_begin_2 at hk
    refine lv_iload_n hx hb dX9_begin_2 rfl (lv_at hl 1 rfl) ?_
    refine lv_bipush (v := 8) hx hb dX9_begin_3 (by decide) ?_
    refine lv_icmp_ge (tgt := 49) hx hb dX9_begin_5 (by decide) (fun c1 => ?_) (fun c1 => ?_)
    · have hk := ok_p c1 hk
      exact hE M (ok_s hk) _ _ _ w (lv_sub hl [0] rfl)
    · have hk := ok_n c1 hk
      refine lv_iconst (v := 0) hx hb dX9_begin_8 (by decide) ?_
      refine lv_istore_n (lv' := [(2, .int (0 : Int32)), (0, .ref r0), (1, .int i1)]) hx hb dX9_begin_9 rfl hl (by decide) rfl (fun ls hl => ?_)
      refine wl_X9_begin_10 X r0 i1 (Qo := _) (fun q11 hk H locs ls w hl => ?_) FU (0 : Int32) M _ _ _ w (lv_sub hl [1, 2, 0] rfl) (ok_b hk)
      refine lv_iinc (v := (i1 + 1)) (lv' := [(1, .int (i1 + 1)), (0, .ref r0)]) hx hb dX9_begin_43 hl (k := 1) rfl rfl (by decide) rfl (fun ls hl => ?_)
      refine lv_goto (tgt := 2) hx hb dX9_begin_46 (by decide) ?_
      exact hrec (i1 + 1) q11 _ _ _ w (lv_sub hl [1, 0] rfl) hk
theorem wl_X9_begin_2 {p : Program} {l : Launch} {e : Env} {s : State} {m : MethodId} {args : Array Value} {below : List Frame} {meth : Method} {c : Code} {D : va_G} {cy : Cyy} {A : Nat → Prop} {G : Gg} (X : Cx p m c cX9_begin 3 s args wz_X9_begin RX9 D cy) {Q : State → Prop} (r0 : Nat) (Qo : Mm → Prop)  (hE : ∀ (y : Mm), Qo (y) → ∀ (H : Heap) (locs : List Loc) (ls : Array Slot), Wo s D cy A G y H locs → lv_has ls 3 [(0, .ref r0)] → W p l e rm_X9_begin s m args below meth c H locs 0 0 Q (F0 m 49 ls [])) : ∀ (n : Nat) (i1 : Int32) (M : Mm) (H : Heap) (locs : List Loc) (ls : Array Slot), Wo s D cy A G M H locs → lv_has ls 3 [(0, .ref r0), (1, .int i1)] → OK (lp_X9_begin_2 G r0 n i1 M) Qo → W p l e rm_X9_begin s m args below meth c H locs 0 0 Q (F0 m 2 ls []) := by
  intro n
  induction n with
  | zero => intro i1 M H locs ls w hl hk; exact ok_0 hk
  | succ n ih => intro i1 M H locs ls w hl hk; exact wb_X9_begin_2 X r0 Qo hE  (lp_X9_begin_2 G r0 n) ih i1 M H locs ls w hl hk
set_option maxHeartbeats 4000000 in
set_option maxRecDepth 100000 in
theorem c_X9_begin (l : Launch) (D : va_G) (cy : Cyy) (G : Gg) (M : Mm) (r0 : Nat) {q : Mm} (hm : f_X9_begin G M r0 = some q) : CV l yX9_begin wz_X9_begin rm_X9_begin D cy G M [.ref r0] q := by
  refine Met_of (Qf := fun A => QV D cy G A q) (cc := cX9_begin) (nL := 3) (ret := none) (own := RX9) (lv := [(0, .ref r0)]) (by decide) rfl rfl (Nat.le_of_ble_eq_true rfl) rfl ?_
  intro p e s m args below meth c A ls X hr hlk w hl
  have hx := X.1.1
  have hb := X.1.2.1
  obtain ⟨Qo, hR, hk⟩ : ∃ Qo : Mm → Prop, (∀ x, Qo x → x = q) ∧ OK (f_X9_begin G M r0) Qo := ⟨fun x => x = q, fun _ h => h, q, hm, rfl⟩
  unfold f_X9_begin at hk
  refine lv_iconst (v := 0) hx hb dX9_begin_0 (by decide) ?_
  refine lv_istore_n (lv' := [(1, .int (0 : Int32)), (0, .ref r0)]) hx hb dX9_begin_1 rfl hl (by decide) rfl (fun ls hl => ?_)
  refine wl_X9_begin_2 X r0 (Qo := _) (fun q12 hk H locs ls w hl => ?_) FU (0 : Int32) M _ _ _ w (lv_sub hl [1, 0] rfl) (ok_b hk)
  refine lv_aload_n hx hb dX9_begin_49 rfl (lv_at hl 0 rfl) ?_
  refine lv_lconst (v := 1) hx hb dX9_begin_50 (by decide) ?_
  obtain ⟨c13, hk⟩ := ok_c hk
  refine zpl X w 9 20 174 tyX9 (C := RX9) (T := TX9) (N := 23) rfl ui_X9 tyX9_ok nmX9 (by decide) rfl (tb wf_X9_174) rfl rfl dX9_begin_51 c13 (fun H locs w => ?_)
  have hk := hR _ (ok_s hk)
  exact zrv X hr hlk w dX9_begin_54 hk
abbrev rm_X9_go : Room := { frames := 2, cells := 0, slots := 0, locals := 50 }
set_option maxHeartbeats 4000000 in
set_option maxRecDepth 100000 in
theorem wb_X9_go_6 {p : Program} {l : Launch} {e : Env} {s : State} {m : MethodId} {args : Array Value} {below : List Frame} {meth : Method} {c : Code} {D : va_G} {cy : Cyy} {A : Nat → Prop} {G : Gg} (X : Cx p m c cX9_go 4 s args wz_X9_go RX9 D cy) {Q : State → Prop} (r0 : Nat) (i1 : Int32) (i2 : Int32) (Qo : Mm → Prop)  (hE : ∀ (y : Mm), Qo (y) → ∀ (H : Heap) (locs : List Loc) (ls : Array Slot), Wo s D cy A G y H locs → lv_has ls 4 [] → W p l e rm_X9_go s m args below meth c H locs 0 0 Q (F0 m 22 ls [])) (rec : Int32 → Mm → Option (Mm)) (hrec : ∀ (i3 : Int32) (M : Mm) (H : Heap) (locs : List Loc) (ls : Array Slot), Wo s D cy A G M H locs → lv_has ls 4 [(0, .ref r0), (1, .int i1), (2, .int i2), (3, .int i3)] → OK (rec i3 M) Qo → W p l e rm_X9_go s m args below meth c H locs 0 0 Q (F0 m 6 ls [])) (i3 : Int32) (M : Mm) (H : Heap) (locs : List Loc) (ls : Array Slot) (w : Wo s D cy A G M H locs) (hl : lv_has ls 4 [(0, .ref r0), (1, .int i1), (2, .int i2), (3, .int i3)]) (hk : OK (bd_X9_go_6 G r0 i1 i2 rec i3 M) Qo) : W p l e rm_X9_go s m args below meth c H locs 0 0 Q (F0 m 6 ls []) := by
    have hx := X.1.1
    have hb := X.1.2.1
    unfold bd_X9_go_6 at hk
    refine lv_iload_n hx hb dX9_go_6 rfl (lv_at hl 3 rfl) ?_
    refine lv_iload_n hx hb dX9_go_7 rfl (lv_at hl 2 rfl) ?_
    refine lv_icmp_ge (tgt := 22) hx hb dX9_go_8 (by decide) (fun c4 => ?_) (fun c4 => ?_)
    · have hk := ok_p c4 hk
      exact hE M (ok_s hk) _ _ _ w (lv_sub hl [] rfl)
    · have hk := ok_n c4 hk
      refine lv_aload_n hx hb dX9_go_11 rfl (lv_at hl 0 rfl) ?_
      refine lv_iload_n hx hb dX9_go_12 rfl (lv_at hl 1 rfl) ?_
      obtain ⟨c7, hk⟩ := ok_c hk
      obtain ⟨q5, e6, hk⟩ := ok_b hk
      refine zVv X w (n := 1) (As := [.int i1]) (rest := []) (ci := 9) (C := RX9) (T := TX9) (N := 23) (c_X9_step l D cy G M r0 i1 e6) (gzV wm_X9_181 wi_X9_step ws_X9_step wn_X9 wc_X9_step) rfl rfl rfl (by decide +kernel) (by decide) rfl c7 rfl rfl hl.1 (Nat.le_of_ble_eq_true rfl) dX9_go_13 ⟨Nat.zero_le _, Nat.zero_le _⟩ (fun H locs w => ?_)
      refine lv_iinc (v := (i3 + 1)) (lv' := [(3, .int (i3 + 1)), (0, .ref r0), (1, .int i1), (2, .int i2)]) hx hb dX9_go_16 hl (k := 3) rfl rfl (by decide) rfl (fun ls hl => ?_)
      refine lv_goto (tgt := 6) hx hb dX9_go_19 (by decide) ?_
      exact hrec (i3 + 1) q5 _ _ _ w (lv_sub hl [1, 2, 3, 0] rfl) hk
theorem wl_X9_go_6 {p : Program} {l : Launch} {e : Env} {s : State} {m : MethodId} {args : Array Value} {below : List Frame} {meth : Method} {c : Code} {D : va_G} {cy : Cyy} {A : Nat → Prop} {G : Gg} (X : Cx p m c cX9_go 4 s args wz_X9_go RX9 D cy) {Q : State → Prop} (r0 : Nat) (i1 : Int32) (i2 : Int32) (Qo : Mm → Prop)  (hE : ∀ (y : Mm), Qo (y) → ∀ (H : Heap) (locs : List Loc) (ls : Array Slot), Wo s D cy A G y H locs → lv_has ls 4 [] → W p l e rm_X9_go s m args below meth c H locs 0 0 Q (F0 m 22 ls [])) : ∀ (n : Nat) (i3 : Int32) (M : Mm) (H : Heap) (locs : List Loc) (ls : Array Slot), Wo s D cy A G M H locs → lv_has ls 4 [(0, .ref r0), (1, .int i1), (2, .int i2), (3, .int i3)] → OK (lp_X9_go_6 G r0 i1 i2 n i3 M) Qo → W p l e rm_X9_go s m args below meth c H locs 0 0 Q (F0 m 6 ls []) := by
  intro n
  induction n with
  | zero => intro i3 M H locs ls w hl hk; exact ok_0 hk
  | succ n ih => intro i3 M H locs ls w hl hk; exact wb_X9_go_6 X r0 i1 i2 Qo hE  (lp_X9_go_6 G r0 i1 i2 n) ih i3 M H locs ls w hl hk
set_option maxHeartbeats 4000000 in
set_option maxRecDepth 100000 in
theorem c_X9_go (l : Launch) (D : va_G) (cy : Cyy) (G : Gg) (M : Mm) (r0 : Nat) (i1 : Int32) (i2 : Int32) {q : Mm} (hm : f_X9_go G M r0 i1 i2 = some q) : CV l yX9_go wz_X9_go rm_X9_go D cy G M [.ref r0, .int i1, .int i2] q := by
  refine Met_of (Qf := fun A => QV D cy G A q) (cc := cX9_go) (nL := 4) (ret := none) (own := RX9) (lv := [(0, .ref r0), (1, .int i1), (2, .int i2)]) (by decide) rfl rfl (Nat.le_of_ble_eq_true rfl) rfl ?_
  intro p e s m args below meth c A ls X hr hlk w hl
  have hx := X.1.1
  have hb := X.1.2.1
  obtain ⟨Qo, hR, hk⟩ : ∃ Qo : Mm → Prop, (∀ x, Qo x → x = q) ∧ OK (f_X9_go G M r0 i1 i2) Qo := ⟨fun x => x = q, fun _ h => h, q, hm, rfl⟩
  unfold f_X9_go at hk
  refine lv_aload_n hx hb dX9_go_0 rfl (lv_at hl 0 rfl) ?_
  obtain ⟨c3, hk⟩ := ok_c hk
  obtain ⟨q1, e2, hk⟩ := ok_b hk
  refine zVv X w (n := 0) (As := []) (rest := []) (ci := 9) (C := RX9) (T := TX9) (N := 23) (c_X9_begin l D cy G M r0 e2) (gzV wm_X9_178 wi_X9_begin ws_X9_begin wn_X9 wc_X9_begin) rfl rfl rfl (by decide +kernel) (by decide) rfl c3 rfl rfl hl.1 (Nat.le_of_ble_eq_true rfl) dX9_go_1 ⟨Nat.zero_le _, Nat.zero_le _⟩ (fun H locs w => ?_)
  refine lv_iconst (v := 0) hx hb dX9_go_4 (by decide) ?_
  refine lv_istore_n (lv' := [(3, .int (0 : Int32)), (0, .ref r0), (1, .int i1), (2, .int i2)]) hx hb dX9_go_5 rfl hl (by decide) rfl (fun ls hl => ?_)
  refine wl_X9_go_6 X r0 i1 i2 (Qo := _) (fun q8 hk H locs ls w hl => ?_) FU (0 : Int32) q1 _ _ _ w (lv_sub hl [1, 2, 3, 0] rfl) (ok_b hk)
  have hk := hR _ (ok_s hk)
  exact zrv X hr hlk w dX9_go_22 hk
abbrev rm_X9_told : Room := { frames := 1, cells := 0, slots := 0, locals := 29 }
set_option maxHeartbeats 4000000 in
set_option maxRecDepth 100000 in
theorem c_X9_told (l : Launch) (D : va_G) (cy : Cyy) (G : Gg) (M : Mm) (r0 : Nat) (l1 : Int64) (l3 : Int64) (i5 : Int32) {q : Int64 × Mm} (hm : f_X9_told G M r0 l1 l3 i5 = some q) : CL l yX9_told wz_X9_told rm_X9_told D cy G M [.ref r0, .long l1, .long l3, .int i5] q.1 q.2 := by
  refine Met_of (Qf := fun A => QL D cy G A q.1 q.2) (cc := cX9_told) (nL := 6) (ret := (some .long)) (own := RX9) (lv := [(0, .ref r0), (1, .long l1), (3, .long l3), (5, .int i5)]) (by decide) rfl rfl (Nat.le_of_ble_eq_true rfl) rfl ?_
  intro p e s m args below meth c A ls X hr hlk w hl
  have hx := X.1.1
  have hb := X.1.2.1
  obtain ⟨Qo, hR, hk⟩ : ∃ Qo : Int64 × Mm → Prop, (∀ x, Qo x → x = q) ∧ OK (f_X9_told G M r0 l1 l3 i5) Qo := ⟨fun x => x = q, fun _ h => h, q, hm, rfl⟩
  unfold f_X9_told at hk
  refine lv_aload_n hx hb dX9_told_0 rfl (lv_at hl 0 rfl) ?_
  refine lv_iconst (v := 0) hx hb dX9_told_1 (by decide) ?_
  obtain ⟨c1, hk⟩ := ok_c hk
  refine zpi X w 9 0 59 tyX9 (C := RX9) (T := TX9) (N := 23) rfl ui_X9 tyX9_ok nmX9 (by decide) rfl (tb wf_X9_59) rfl rfl dX9_told_2 c1 (fun H locs w => ?_)
  refine lv_iload hx hb dX9_told_5 (lv_at hl 3 rfl) ?_
  refine lv_if_ne (tgt := 14) hx hb dX9_told_7 (by decide) (fun c2 => ?_) (fun c2 => ?_)
  · have hk := ok_n c2 hk
    refine lv_lload_n hx hb dX9_told_14 rfl (lv_at hl 2 rfl) ?_
    refine lv_lload_n hx hb dX9_told_15 rfl (lv_at hl 1 rfl) ?_
    refine lv_lload_n hx hb dX9_told_16 rfl (lv_at hl 2 rfl) ?_
    obtain ⟨q3, e4, hk⟩ := ok_b hk
    refine zSl X w (n := 2) (As := [.long l1, .long l3]) (rest := [.long l3]) (c_X9_common l D cy G (mwI M r0 0 (0 : Int32)) l1 l3 e4) (gzS wm_X9_74 wt_X9_common wn_X9 wc_X9_common) rfl rfl rfl (by decide +kernel) (by decide) rfl rfl hl.1 (Nat.le_of_ble_eq_true rfl) dX9_told_17 ⟨Nat.zero_le _, Nat.zero_le _⟩ (fun H locs w => ?_)
    obtain ⟨c5, hk⟩ := ok_c hk
    refine lv_ldiv hx hb dX9_told_20 c5 ?_
    have hk := hR _ (ok_s hk)
    exact zrl X hr hlk w dX9_told_21 (pr1 hk) (pr2 hk)
  · have hk := ok_p c2 hk
    refine lv_lload_n hx hb dX9_told_10 rfl (lv_at hl 1 rfl) ?_
    refine lv_goto (tgt := 15) hx hb dX9_told_11 (by decide) ?_
    refine lv_lload_n hx hb dX9_told_15 rfl (lv_at hl 1 rfl) ?_
    refine lv_lload_n hx hb dX9_told_16 rfl (lv_at hl 2 rfl) ?_
    obtain ⟨q6, e7, hk⟩ := ok_b hk
    refine zSl X w (n := 2) (As := [.long l1, .long l3]) (rest := [.long l1]) (c_X9_common l D cy G (mwI M r0 0 (0 : Int32)) l1 l3 e7) (gzS wm_X9_74 wt_X9_common wn_X9 wc_X9_common) rfl rfl rfl (by decide +kernel) (by decide) rfl rfl hl.1 (Nat.le_of_ble_eq_true rfl) dX9_told_17 ⟨Nat.zero_le _, Nat.zero_le _⟩ (fun H locs w => ?_)
    obtain ⟨c8, hk⟩ := ok_c hk
    refine lv_ldiv hx hb dX9_told_20 c8 ?_
    have hk := hR _ (ok_s hk)
    exact zrl X hr hlk w dX9_told_21 (pr1 hk) (pr2 hk)
abbrev rm_X9_isWhat : Room := { frames := 0, cells := 0, slots := 0, locals := 0 }
set_option maxHeartbeats 4000000 in
set_option maxRecDepth 100000 in
theorem c_X9_isWhat (l : Launch) (D : va_G) (cy : Cyy) (G : Gg) (M : Mm) (i0 : Int32) {q : Int32} (hm : f_X9_isWhat i0 = some q) : CI l yX9_isWhat wz_X9_isWhat rm_X9_isWhat D cy G M [.int i0] q M := by
  refine Met_of (Qf := fun A => QI D cy G A q M) (cc := cX9_isWhat) (nL := 1) (ret := (some .boolean)) (own := RX9) (lv := [(0, .int i0)]) (by decide) rfl rfl (Nat.le_of_ble_eq_true rfl) rfl ?_
  intro p e s m args below meth c A ls X hr hlk w hl
  have hx := X.1.1
  have hb := X.1.2.1
  obtain ⟨Qo, hR, hk⟩ : ∃ Qo : Int32 → Prop, (∀ x, Qo x → x = q) ∧ OK (f_X9_isWhat i0) Qo := ⟨fun x => x = q, fun _ h => h, q, hm, rfl⟩
  unfold f_X9_isWhat at hk
  refine lv_iload_n hx hb dX9_isWhat_0 rfl (lv_at hl 0 rfl) ?_
  refine lv_if_eq (tgt := 9) hx hb dX9_isWhat_1 (by decide) (fun c1 => ?_) (fun c1 => ?_)
  · have hk := ok_p c1 hk
    refine lv_iconst (v := 1) hx hb dX9_isWhat_9 (by decide) ?_
    refine lv_goto (tgt := 14) hx hb dX9_isWhat_10 (by decide) ?_
    have hk := hR _ (ok_s hk)
    exact zrz X hr hlk w dX9_isWhat_14 (by decide) hk rfl
  · have hk := ok_n c1 hk
    refine lv_iload_n hx hb dX9_isWhat_4 rfl (lv_at hl 0 rfl) ?_
    refine lv_iconst (v := 1) hx hb dX9_isWhat_5 (by decide) ?_
    refine lv_icmp_ne (tgt := 13) hx hb dX9_isWhat_6 (by decide) (fun c2 => ?_) (fun c2 => ?_)
    · have hk := ok_n c2 hk
      refine lv_iconst (v := 0) hx hb dX9_isWhat_13 (by decide) ?_
      have hk := hR _ (ok_s hk)
      exact zrz X hr hlk w dX9_isWhat_14 (by decide) hk rfl
    · have hk := ok_p c2 hk
      refine lv_iconst (v := 1) hx hb dX9_isWhat_9 (by decide) ?_
      refine lv_goto (tgt := 14) hx hb dX9_isWhat_10 (by decide) ?_
      have hk := hR _ (ok_s hk)
      exact zrz X hr hlk w dX9_isWhat_14 (by decide) hk rfl
abbrev rm_X9_chance : Room := { frames := 3, cells := 0, slots := 0, locals := 73 }
set_option maxHeartbeats 4000000 in
set_option maxRecDepth 100000 in
theorem c_X9_chance (l : Launch) (D : va_G) (cy : Cyy) (G : Gg) (M : Mm) (r0 : Nat) (i1 : Int32) (i2 : Int32) (i3 : Int32) (i4 : Int32) (i5 : Int32) {q : Int64 × Mm} (hm : f_X9_chance G M r0 i1 i2 i3 i4 i5 = some q) : CL l yX9_chance wz_X9_chance rm_X9_chance D cy G M [.ref r0, .int i1, .int i2, .int i3, .int i4, .int i5] q.1 q.2 := by
  refine Met_of (Qf := fun A => QL D cy G A q.1 q.2) (cc := cX9_chance) (nL := 6) (ret := (some .long)) (own := RX9) (lv := [(0, .ref r0), (1, .int i1), (2, .int i2), (3, .int i3), (4, .int i4), (5, .int i5)]) (by decide) rfl rfl (Nat.le_of_ble_eq_true rfl) rfl ?_
  intro p e s m args below meth c A ls X hr hlk w hl
  have hx := X.1.1
  have hb := X.1.2.1
  obtain ⟨Qo, hR, hk⟩ : ∃ Qo : Int64 × Mm → Prop, (∀ x, Qo x → x = q) ∧ OK (f_X9_chance G M r0 i1 i2 i3 i4 i5) Qo := ⟨fun x => x = q, fun _ h => h, q, hm, rfl⟩
  unfold f_X9_chance at hk
  refine lv_aload_n hx hb dX9_chance_0 rfl (lv_at hl 0 rfl) ?_
  refine lv_iload_n hx hb dX9_chance_1 rfl (lv_at hl 1 rfl) ?_
  refine lv_iload_n hx hb dX9_chance_2 rfl (lv_at hl 2 rfl) ?_
  obtain ⟨c3, hk⟩ := ok_c hk
  obtain ⟨q1, e2, hk⟩ := ok_b hk
  refine zVi X w (n := 2) (As := [.int i1, .int i2]) (rest := []) (ci := 9) (C := RX9) (T := TX9) (N := 23) (c_X9_isState l D cy G M r0 i1 i2 e2) (gzV wm_X9_171 wi_X9_isState ws_X9_isState wn_X9 wc_X9_isState) rfl rfl rfl (by decide +kernel) (by decide) rfl c3 rfl rfl hl.1 (Nat.le_of_ble_eq_true rfl) dX9_chance_3 ⟨Nat.zero_le _, Nat.zero_le _⟩ (fun H locs w => ?_)
  refine lv_if_eq (tgt := 41) hx hb dX9_chance_6 (by decide) (fun c4 => ?_) (fun c4 => ?_)
  · have hk := ok_p c4 hk
    refine lv_aload_n hx hb dX9_chance_41 rfl (lv_at hl 0 rfl) ?_
    obtain ⟨q5, e6, hk⟩ := ok_b hk
    refine zVi X w (n := 0) (As := []) (rest := []) (ci := 9) (C := RX9) (T := TX9) (N := 23) (c_X9_refuse l D cy G M r0 e6) (gzV wm_X9_156 wi_X9_refuse ws_X9_refuse wn_X9 wc_X9_refuse) rfl rfl rfl (by decide +kernel) (by decide) rfl c3 rfl rfl hl.1 (Nat.le_of_ble_eq_true rfl) dX9_chance_42 ⟨Nat.zero_le _, Nat.zero_le _⟩ (fun H locs w => ?_)
    refine lv_i2l hx hb dX9_chance_45 rfl ?_
    have hk := hR _ (ok_s hk)
    exact zrl X hr hlk w dX9_chance_46 (pr1 hk) (pr2 hk)
  · have hk := ok_n c4 hk
    refine lv_aload_n hx hb dX9_chance_9 rfl (lv_at hl 0 rfl) ?_
    refine lv_iload_n hx hb dX9_chance_10 rfl (lv_at hl 1 rfl) ?_
    refine lv_iload_n hx hb dX9_chance_11 rfl (lv_at hl 3 rfl) ?_
    obtain ⟨q7, e8, hk⟩ := ok_b hk
    refine zVi X w (n := 2) (As := [.int i1, .int i3]) (rest := []) (ci := 9) (C := RX9) (T := TX9) (N := 23) (c_X9_isState l D cy G M r0 i1 i3 e8) (gzV wm_X9_171 wi_X9_isState ws_X9_isState wn_X9 wc_X9_isState) rfl rfl rfl (by decide +kernel) (by decide) rfl c3 rfl rfl hl.1 (Nat.le_of_ble_eq_true rfl) dX9_chance_12 ⟨Nat.zero_le _, Nat.zero_le _⟩ (fun H locs w => ?_)
    refine lv_if_eq (tgt := 41) hx hb dX9_chance_15 (by decide) (fun c9 => ?_) (fun c9 => ?_)
    · have hk := ok_p c9 hk
      refine lv_aload_n hx hb dX9_chance_41 rfl (lv_at hl 0 rfl) ?_
      obtain ⟨q10, e11, hk⟩ := ok_b hk
      refine zVi X w (n := 0) (As := []) (rest := []) (ci := 9) (C := RX9) (T := TX9) (N := 23) (c_X9_refuse l D cy G M r0 e11) (gzV wm_X9_156 wi_X9_refuse ws_X9_refuse wn_X9 wc_X9_refuse) rfl rfl rfl (by decide +kernel) (by decide) rfl c3 rfl rfl hl.1 (Nat.le_of_ble_eq_true rfl) dX9_chance_42 ⟨Nat.zero_le _, Nat.zero_le _⟩ (fun H locs w => ?_)
      refine lv_i2l hx hb dX9_chance_45 rfl ?_
      have hk := hR _ (ok_s hk)
      exact zrl X hr hlk w dX9_chance_46 (pr1 hk) (pr2 hk)
    · have hk := ok_n c9 hk
      refine lv_iload hx hb dX9_chance_18 (lv_at hl 4 rfl) ?_
      refine lv_if_lt (tgt := 41) hx hb dX9_chance_20 (by decide) (fun c12 => ?_) (fun c12 => ?_)
      · have hk := ok_p c12 hk
        refine lv_aload_n hx hb dX9_chance_41 rfl (lv_at hl 0 rfl) ?_
        obtain ⟨q13, e14, hk⟩ := ok_b hk
        refine zVi X w (n := 0) (As := []) (rest := []) (ci := 9) (C := RX9) (T := TX9) (N := 23) (c_X9_refuse l D cy G M r0 e14) (gzV wm_X9_156 wi_X9_refuse ws_X9_refuse wn_X9 wc_X9_refuse) rfl rfl rfl (by decide +kernel) (by decide) rfl c3 rfl rfl hl.1 (Nat.le_of_ble_eq_true rfl) dX9_chance_42 ⟨Nat.zero_le _, Nat.zero_le _⟩ (fun H locs w => ?_)
        refine lv_i2l hx hb dX9_chance_45 rfl ?_
        have hk := hR _ (ok_s hk)
        exact zrl X hr hlk w dX9_chance_46 (pr1 hk) (pr2 hk)
      · have hk := ok_n c12 hk
        refine lv_iload hx hb dX9_chance_23 (lv_at hl 4 rfl) ?_
        refine lv_aload_n hx hb dX9_chance_25 rfl (lv_at hl 0 rfl) ?_
        refine lv_iload_n hx hb dX9_chance_26 rfl (lv_at hl 1 rfl) ?_
        obtain ⟨q15, e16, hk⟩ := ok_b hk
        refine zVi X w (n := 1) (As := [.int i1]) (rest := [.int i4]) (ci := 9) (C := RX9) (T := TX9) (N := 23) (c_X9_times l D cy G M r0 i1 e16) (gzV wm_X9_162 wi_X9_times ws_X9_times wn_X9 wc_X9_times) rfl rfl rfl (by decide +kernel) (by decide) rfl c3 rfl rfl hl.1 (Nat.le_of_ble_eq_true rfl) dX9_chance_27 ⟨Nat.zero_le _, Nat.zero_le _⟩ (fun H locs w => ?_)
        refine lv_icmp_gt (tgt := 41) hx hb dX9_chance_30 (by decide) (fun c17 => ?_) (fun c17 => ?_)
        · have hk := ok_p c17 hk
          refine lv_aload_n hx hb dX9_chance_41 rfl (lv_at hl 0 rfl) ?_
          obtain ⟨q18, e19, hk⟩ := ok_b hk
          refine zVi X w (n := 0) (As := []) (rest := []) (ci := 9) (C := RX9) (T := TX9) (N := 23) (c_X9_refuse l D cy G M r0 e19) (gzV wm_X9_156 wi_X9_refuse ws_X9_refuse wn_X9 wc_X9_refuse) rfl rfl rfl (by decide +kernel) (by decide) rfl c3 rfl rfl hl.1 (Nat.le_of_ble_eq_true rfl) dX9_chance_42 ⟨Nat.zero_le _, Nat.zero_le _⟩ (fun H locs w => ?_)
          refine lv_i2l hx hb dX9_chance_45 rfl ?_
          have hk := hR _ (ok_s hk)
          exact zrl X hr hlk w dX9_chance_46 (pr1 hk) (pr2 hk)
        · have hk := ok_n c17 hk
          refine lv_iload hx hb dX9_chance_33 (lv_at hl 5 rfl) ?_
          obtain ⟨q20, e21, hk⟩ := ok_b hk
          refine zSi X w (n := 1) (As := [.int i5]) (rest := []) (c_X9_isWhat l D cy G M i5 e21) (gzS wm_X9_184 wt_X9_isWhat wn_X9 wc_X9_isWhat) rfl rfl rfl (by decide +kernel) (by decide) rfl rfl hl.1 (Nat.le_of_ble_eq_true rfl) dX9_chance_35 ⟨Nat.zero_le _, Nat.zero_le _⟩ (fun H locs w => ?_)
          refine lv_if_ne (tgt := 47) hx hb dX9_chance_38 (by decide) (fun c22 => ?_) (fun c22 => ?_)
          · have hk := ok_n c22 hk
            refine lv_aload_n hx hb dX9_chance_47 rfl (lv_at hl 0 rfl) ?_
            refine lv_iload_n hx hb dX9_chance_48 rfl (lv_at hl 1 rfl) ?_
            refine lv_iload hx hb dX9_chance_49 (lv_at hl 4 rfl) ?_
            obtain ⟨q23, e24, hk⟩ := ok_b hk
            refine zVv X w (n := 2) (As := [.int i1, .int i4]) (rest := []) (ci := 9) (C := RX9) (T := TX9) (N := 23) (c_X9_go l D cy G M r0 i1 i4 e24) (gzV wm_X9_187 wi_X9_go ws_X9_go wn_X9 wc_X9_go) rfl rfl rfl (by decide +kernel) (by decide) rfl c3 rfl rfl hl.1 (Nat.le_of_ble_eq_true rfl) dX9_chance_51 ⟨Nat.zero_le _, Nat.zero_le _⟩ (fun H locs w => ?_)
            refine lv_aload_n hx hb dX9_chance_54 rfl (lv_at hl 0 rfl) ?_
            refine lv_aload_n hx hb dX9_chance_55 rfl (lv_at hl 0 rfl) ?_
            obtain ⟨r25, e26, hk⟩ := ok_b hk
            refine zgr X w 9 18 53 (C := RX9) (T := TX9) (N := 23) rfl ui_X9 (by decide) rfl (tb wf_X9_53) dX9_chance_56 c3 e26 ?_
            refine lv_bipush (v := 8) hx hb dX9_chance_59 (by decide) ?_
            refine lv_iload_n hx hb dX9_chance_61 rfl (lv_at hl 2 rfl) ?_
            refine lv_imul hx hb dX9_chance_62 ?_
            refine lv_iload_n hx hb dX9_chance_63 rfl (lv_at hl 3 rfl) ?_
            refine lv_iadd hx hb dX9_chance_64 ?_
            obtain ⟨c27, hk⟩ := ok_c hk
            obtain ⟨c28, hk⟩ := ok_c hk
            refine zal X w dX9_chance_65 c27 c28 ?_
            refine lv_aload_n hx hb dX9_chance_66 rfl (lv_at hl 0 rfl) ?_
            refine zgl X w 9 20 174 (C := RX9) (T := TX9) (N := 23) rfl ui_X9 (by decide) rfl (tb wf_X9_174) dX9_chance_67 c3 ?_
            refine lv_iload hx hb dX9_chance_70 (lv_at hl 5 rfl) ?_
            obtain ⟨q29, e30, hk⟩ := ok_b hk
            refine zVl X w (n := 3) (As := [.long (q23.2.1 r25 (Int32.toNatClampNeg (((8 : Int32) * i2) + i3))), .long (q23.2.1 r0 20), .int i5]) (rest := []) (ci := 9) (C := RX9) (T := TX9) (N := 23) (c_X9_told l D cy G q23 r0 (q23.2.1 r25 (Int32.toNatClampNeg (((8 : Int32) * i2) + i3))) (q23.2.1 r0 20) i5 e30) (gzV wm_X9_190 wi_X9_told ws_X9_told wn_X9 wc_X9_told) rfl rfl rfl (by decide +kernel) (by decide) rfl c3 rfl rfl hl.1 (Nat.le_of_ble_eq_true rfl) dX9_chance_72 ⟨Nat.zero_le _, Nat.zero_le _⟩ (fun H locs w => ?_)
            have hk := hR _ (ok_s hk)
            exact zrl X hr hlk w dX9_chance_75 (pr1 hk) (pr2 hk)
          · have hk := ok_p c22 hk
            refine lv_aload_n hx hb dX9_chance_41 rfl (lv_at hl 0 rfl) ?_
            obtain ⟨q31, e32, hk⟩ := ok_b hk
            refine zVi X w (n := 0) (As := []) (rest := []) (ci := 9) (C := RX9) (T := TX9) (N := 23) (c_X9_refuse l D cy G M r0 e32) (gzV wm_X9_156 wi_X9_refuse ws_X9_refuse wn_X9 wc_X9_refuse) rfl rfl rfl (by decide +kernel) (by decide) rfl c3 rfl rfl hl.1 (Nat.le_of_ble_eq_true rfl) dX9_chance_42 ⟨Nat.zero_le _, Nat.zero_le _⟩ (fun H locs w => ?_)
            refine lv_i2l hx hb dX9_chance_45 rfl ?_
            have hk := hR _ (ok_s hk)
            exact zrl X hr hlk w dX9_chance_46 (pr1 hk) (pr2 hk)
abbrev rm_X9_between : Room := { frames := 0, cells := 0, slots := 0, locals := 0 }
set_option maxHeartbeats 4000000 in
set_option maxRecDepth 100000 in
theorem wb_X9_between_6 {p : Program} {l : Launch} {e : Env} {s : State} {m : MethodId} {args : Array Value} {below : List Frame} {meth : Method} {c : Code} {D : va_G} {cy : Cyy} {A : Nat → Prop} {G : Gg} (X : Cx p m c cX9_between 9 s args wz_X9_between RX9 D cy) {Q : State → Prop} (M : Mm) (r0 : Nat) (i1 : Int32) (i2 : Int32) (i3 : Int32) (Qo : Int64 → Prop)  (hE : ∀ (y : Int64), Qo (y) → ∀ (H : Heap) (locs : List Loc) (ls : Array Slot), Wo s D cy A G M H locs → lv_has ls 9 [(4, .long y)] → W p l e rm_X9_between s m args below meth c H locs 0 0 Q (F0 m 70 ls [])) (rec : Int64 → Int32 → Option (Int64)) (hrec : ∀ (l4 : Int64) (i6 : Int32) (H : Heap) (locs : List Loc) (ls : Array Slot), Wo s D cy A G M H locs → lv_has ls 9 [(0, .ref r0), (1, .int i1), (2, .int i2), (3, .int i3), (4, .long l4), (6, .int i6)] → OK (rec l4 i6) Qo → W p l e rm_X9_between s m args below meth c H locs 0 0 Q (F0 m 6 ls [])) (l4 : Int64) (i6 : Int32) (H : Heap) (locs : List Loc) (ls : Array Slot) (w : Wo s D cy A G M H locs) (hl : lv_has ls 9 [(0, .ref r0), (1, .int i1), (2, .int i2), (3, .int i3), (4, .long l4), (6, .int i6)]) (hk : OK (bd_X9_between_6 G M r0 i1 i2 i3 rec l4 i6) Qo) : W p l e rm_X9_between s m args below meth c H locs 0 0 Q (F0 m 6 ls []) := by
    have hx := X.1.1
    have hb := X.1.2.1
    unfold bd_X9_between_6 at hk
    refine lv_iload hx hb dX9_between_6 (lv_at hl 5 rfl) ?_
    refine lv_aload_n hx hb dX9_between_8 rfl (lv_at hl 0 rfl) ?_
    obtain ⟨c1, hk⟩ := ok_c hk
    obtain ⟨r2, e3, hk⟩ := ok_b hk
    refine zgr X w 9 3 13 (C := RX9) (T := TX9) (N := 23) rfl ui_X9 (by decide) rfl (tb wf_X9_13) dX9_between_9 c1 e3 ?_
    refine lv_iload_n hx hb dX9_between_12 rfl (lv_at hl 1 rfl) ?_
    obtain ⟨c4, hk⟩ := ok_c hk
    obtain ⟨c5, hk⟩ := ok_c hk
    refine zai X w dX9_between_13 c4 c5 ?_
    refine lv_icmp_ge (tgt := 70) hx hb dX9_between_14 (by decide) (fun c6 => ?_) (fun c6 => ?_)
    · have hk := ok_p c6 hk
      exact hE l4 (ok_s hk) _ _ _ w (lv_sub hl [4] rfl)
    · have hk := ok_n c6 hk
      refine lv_aload_n hx hb dX9_between_17 rfl (lv_at hl 0 rfl) ?_
      obtain ⟨r7, e8, hk⟩ := ok_b hk
      refine zgr X w 9 18 53 (C := RX9) (T := TX9) (N := 23) rfl ui_X9 (by decide) rfl (tb wf_X9_53) dX9_between_18 c1 e8 ?_
      refine lv_bipush (v := 8) hx hb dX9_between_21 (by decide) ?_
      refine lv_iload_n hx hb dX9_between_23 rfl (lv_at hl 2 rfl) ?_
      refine lv_imul hx hb dX9_between_24 ?_
      refine lv_iload hx hb dX9_between_25 (lv_at hl 5 rfl) ?_
      refine lv_iadd hx hb dX9_between_27 ?_
      obtain ⟨c9, hk⟩ := ok_c hk
      obtain ⟨c10, hk⟩ := ok_c hk
      refine zal X w dX9_between_28 c9 c10 ?_
      refine lv_aload_n hx hb dX9_between_29 rfl (lv_at hl 0 rfl) ?_
      refine zgr X w 9 18 53 (C := RX9) (T := TX9) (N := 23) rfl ui_X9 (by decide) rfl (tb wf_X9_53) dX9_between_30 c1 e8 ?_
      refine lv_bipush (v := 8) hx hb dX9_between_33 (by decide) ?_
      refine lv_iload_n hx hb dX9_between_35 rfl (lv_at hl 3 rfl) ?_
      refine lv_imul hx hb dX9_between_36 ?_
      refine lv_iload hx hb dX9_between_37 (lv_at hl 5 rfl) ?_
      refine lv_iadd hx hb dX9_between_39 ?_
      obtain ⟨c11, hk⟩ := ok_c hk
      refine zal X w dX9_between_40 c9 c11 ?_
      refine lv_lsub hx hb dX9_between_41 ?_
      refine lv_lstore (lv' := [(7, .long ((M.2.1 r7 (Int32.toNatClampNeg (((8 : Int32) * i2) + i6))) - (M.2.1 r7 (Int32.toNatClampNeg (((8 : Int32) * i3) + i6))))), (0, .ref r0), (1, .int i1), (2, .int i2), (3, .int i3), (4, .long l4), (6, .int i6)]) hx hb dX9_between_42 hl (by decide) rfl (fun ls hl => ?_)
      refine lv_lload hx hb dX9_between_44 (lv_at hl 5 rfl) ?_
      refine lv_lload hx hb dX9_between_46 (lv_at hl 0 rfl) ?_
      refine lv_lconst (v := 0) hx hb dX9_between_48 (by decide) ?_
      refine W.lcmp hx hb dX9_between_49 ?_
      refine lv_if_ge (tgt := 59) hx hb dX9_between_50 (by decide) (fun c12 => ?_) (fun c12 => ?_)
      · have hk := ok_p c12 hk
        refine lv_lload hx hb dX9_between_59 (lv_at hl 0 rfl) ?_
        refine lv_ladd hx hb dX9_between_61 ?_
        refine lv_lstore (lv' := [(4, .long (l4 + ((M.2.1 r7 (Int32.toNatClampNeg (((8 : Int32) * i2) + i6))) - (M.2.1 r7 (Int32.toNatClampNeg (((8 : Int32) * i3) + i6)))))), (7, .long ((M.2.1 r7 (Int32.toNatClampNeg (((8 : Int32) * i2) + i6))) - (M.2.1 r7 (Int32.toNatClampNeg (((8 : Int32) * i3) + i6))))), (0, .ref r0), (1, .int i1), (2, .int i2), (3, .int i3), (6, .int i6)]) hx hb dX9_between_62 hl (by decide) rfl (fun ls hl => ?_)
        refine lv_iinc (v := (i6 + 1)) (lv' := [(6, .int (i6 + 1)), (4, .long (l4 + ((M.2.1 r7 (Int32.toNatClampNeg (((8 : Int32) * i2) + i6))) - (M.2.1 r7 (Int32.toNatClampNeg (((8 : Int32) * i3) + i6)))))), (7, .long ((M.2.1 r7 (Int32.toNatClampNeg (((8 : Int32) * i2) + i6))) - (M.2.1 r7 (Int32.toNatClampNeg (((8 : Int32) * i3) + i6))))), (0, .ref r0), (1, .int i1), (2, .int i2), (3, .int i3)]) hx hb dX9_between_64 hl (k := 6) rfl rfl (by decide) rfl (fun ls hl => ?_)
        refine lv_goto (tgt := 6) hx hb dX9_between_67 (by decide) ?_
        exact hrec (l4 + ((M.2.1 r7 (Int32.toNatClampNeg (((8 : Int32) * i2) + i6))) - (M.2.1 r7 (Int32.toNatClampNeg (((8 : Int32) * i3) + i6))))) (i6 + 1) _ _ _ w (lv_sub hl [3, 4, 5, 6, 1, 0] rfl) hk
      · have hk := ok_n c12 hk
        refine lv_lload hx hb dX9_between_53 (lv_at hl 0 rfl) ?_
        refine lv_lneg hx hb dX9_between_55 ?_
        refine lv_goto (tgt := 61) hx hb dX9_between_56 (by decide) ?_
        refine lv_ladd hx hb dX9_between_61 ?_
        refine lv_lstore (lv' := [(4, .long (l4 + (-((M.2.1 r7 (Int32.toNatClampNeg (((8 : Int32) * i2) + i6))) - (M.2.1 r7 (Int32.toNatClampNeg (((8 : Int32) * i3) + i6))))))), (7, .long ((M.2.1 r7 (Int32.toNatClampNeg (((8 : Int32) * i2) + i6))) - (M.2.1 r7 (Int32.toNatClampNeg (((8 : Int32) * i3) + i6))))), (0, .ref r0), (1, .int i1), (2, .int i2), (3, .int i3), (6, .int i6)]) hx hb dX9_between_62 hl (by decide) rfl (fun ls hl => ?_)
        refine lv_iinc (v := (i6 + 1)) (lv' := [(6, .int (i6 + 1)), (4, .long (l4 + (-((M.2.1 r7 (Int32.toNatClampNeg (((8 : Int32) * i2) + i6))) - (M.2.1 r7 (Int32.toNatClampNeg (((8 : Int32) * i3) + i6))))))), (7, .long ((M.2.1 r7 (Int32.toNatClampNeg (((8 : Int32) * i2) + i6))) - (M.2.1 r7 (Int32.toNatClampNeg (((8 : Int32) * i3) + i6))))), (0, .ref r0), (1, .int i1), (2, .int i2), (3, .int i3)]) hx hb dX9_between_64 hl (k := 6) rfl rfl (by decide) rfl (fun ls hl => ?_)
        refine lv_goto (tgt := 6) hx hb dX9_between_67 (by decide) ?_
        exact hrec (l4 + (-((M.2.1 r7 (Int32.toNatClampNeg (((8 : Int32) * i2) + i6))) - (M.2.1 r7 (Int32.toNatClampNeg (((8 : Int32) * i3) + i6)))))) (i6 + 1) _ _ _ w (lv_sub hl [3, 4, 5, 6, 1, 0] rfl) hk
theorem wl_X9_between_6 {p : Program} {l : Launch} {e : Env} {s : State} {m : MethodId} {args : Array Value} {below : List Frame} {meth : Method} {c : Code} {D : va_G} {cy : Cyy} {A : Nat → Prop} {G : Gg} (X : Cx p m c cX9_between 9 s args wz_X9_between RX9 D cy) {Q : State → Prop} (M : Mm) (r0 : Nat) (i1 : Int32) (i2 : Int32) (i3 : Int32) (Qo : Int64 → Prop)  (hE : ∀ (y : Int64), Qo (y) → ∀ (H : Heap) (locs : List Loc) (ls : Array Slot), Wo s D cy A G M H locs → lv_has ls 9 [(4, .long y)] → W p l e rm_X9_between s m args below meth c H locs 0 0 Q (F0 m 70 ls [])) : ∀ (n : Nat) (l4 : Int64) (i6 : Int32) (H : Heap) (locs : List Loc) (ls : Array Slot), Wo s D cy A G M H locs → lv_has ls 9 [(0, .ref r0), (1, .int i1), (2, .int i2), (3, .int i3), (4, .long l4), (6, .int i6)] → OK (lp_X9_between_6 G M r0 i1 i2 i3 n l4 i6) Qo → W p l e rm_X9_between s m args below meth c H locs 0 0 Q (F0 m 6 ls []) := by
  intro n
  induction n with
  | zero => intro l4 i6 H locs ls w hl hk; exact ok_0 hk
  | succ n ih => intro l4 i6 H locs ls w hl hk; exact wb_X9_between_6 X M r0 i1 i2 i3 Qo hE  (lp_X9_between_6 G M r0 i1 i2 i3 n) ih l4 i6 H locs ls w hl hk
set_option maxHeartbeats 4000000 in
set_option maxRecDepth 100000 in
theorem c_X9_between (l : Launch) (D : va_G) (cy : Cyy) (G : Gg) (M : Mm) (r0 : Nat) (i1 : Int32) (i2 : Int32) (i3 : Int32) {q : Int64} (hm : f_X9_between G M r0 i1 i2 i3 = some q) : CL l yX9_between wz_X9_between rm_X9_between D cy G M [.ref r0, .int i1, .int i2, .int i3] q M := by
  refine Met_of (Qf := fun A => QL D cy G A q M) (cc := cX9_between) (nL := 9) (ret := (some .long)) (own := RX9) (lv := [(0, .ref r0), (1, .int i1), (2, .int i2), (3, .int i3)]) (by decide) rfl rfl (Nat.le_of_ble_eq_true rfl) rfl ?_
  intro p e s m args below meth c A ls X hr hlk w hl
  have hx := X.1.1
  have hb := X.1.2.1
  obtain ⟨Qo, hR, hk⟩ : ∃ Qo : Int64 → Prop, (∀ x, Qo x → x = q) ∧ OK (f_X9_between G M r0 i1 i2 i3) Qo := ⟨fun x => x = q, fun _ h => h, q, hm, rfl⟩
  unfold f_X9_between at hk
  refine lv_lconst (v := 0) hx hb dX9_between_0 (by decide) ?_
  refine lv_lstore (lv' := [(4, .long (0 : Int64)), (0, .ref r0), (1, .int i1), (2, .int i2), (3, .int i3)]) hx hb dX9_between_1 hl (by decide) rfl (fun ls hl => ?_)
  refine lv_iconst (v := 0) hx hb dX9_between_3 (by decide) ?_
  refine lv_istore (lv' := [(6, .int (0 : Int32)), (4, .long (0 : Int64)), (0, .ref r0), (1, .int i1), (2, .int i2), (3, .int i3)]) hx hb dX9_between_4 hl (by decide) rfl (fun ls hl => ?_)
  refine wl_X9_between_6 X M r0 i1 i2 i3 (Qo := _) (fun q13 hk H locs ls w hl => ?_) FU (0 : Int64) (0 : Int32) _ _ _ w (lv_sub hl [2, 3, 4, 5, 1, 0] rfl) (ok_b hk)
  refine lv_lload hx hb dX9_between_70 (lv_at hl 0 rfl) ?_
  have hk := hR _ (ok_s hk)
  exact zrl X hr hlk w dX9_between_72 hk rfl
abbrev rm_X9_widest : Room := { frames := 1, cells := 0, slots := 0, locals := 28 }
set_option maxHeartbeats 4000000 in
set_option maxRecDepth 100000 in
theorem wb_X9_widest_19 {p : Program} {l : Launch} {e : Env} {s : State} {m : MethodId} {args : Array Value} {below : List Frame} {meth : Method} {c : Code} {D : va_G} {cy : Cyy} {A : Nat → Prop} {G : Gg} (X : Cx p m c cX9_widest 8 s args wz_X9_widest RX9 D cy) {Q : State → Prop} (M : Mm) (r0 : Nat) (i1 : Int32) (i4 : Int32) (Qo : Int64 → Prop)  (hE : ∀ (y : Int64), Qo (y) → ∀ (H : Heap) (locs : List Loc) (ls : Array Slot), Wo s D cy A G M H locs → lv_has ls 8 [(0, .ref r0), (1, .int i1), (2, .long y), (4, .int i4)] → W p l e rm_X9_widest s m args below meth c H locs 0 0 Q (F0 m 53 ls [])) (rec : Int64 → Int32 → Option (Int64)) (hrec : ∀ (l2 : Int64) (i5 : Int32) (H : Heap) (locs : List Loc) (ls : Array Slot), Wo s D cy A G M H locs → lv_has ls 8 [(0, .ref r0), (1, .int i1), (2, .long l2), (4, .int i4), (5, .int i5)] → OK (rec l2 i5) Qo → W p l e rm_X9_widest s m args below meth c H locs 0 0 Q (F0 m 19 ls [])) (l2 : Int64) (i5 : Int32) (H : Heap) (locs : List Loc) (ls : Array Slot) (w : Wo s D cy A G M H locs) (hl : lv_has ls 8 [(0, .ref r0), (1, .int i1), (2, .long l2), (4, .int i4), (5, .int i5)]) (hk : OK (bd_X9_widest_19 G M r0 i1 i4 rec l2 i5) Qo) : W p l e rm_X9_widest s m args below meth c H locs 0 0 Q (F0 m 19 ls []) := by
    have hx := X.1.1
    have hb := X.1.2.1
    unfold bd_X9_widest_19 at hk
    refine lv_iload hx hb dX9_widest_19 (lv_at hl 4 rfl) ?_
    refine lv_iload hx hb dX9_widest_21 (lv_at hl 3 rfl) ?_
    refine lv_icmp_ge (tgt := 53) hx hb dX9_widest_23 (by decide) (fun c7 => ?_) (fun c7 => ?_)
    · have hk := ok_p c7 hk
      exact hE l2 (ok_s hk) _ _ _ w (lv_sub hl [0, 1, 2, 3] rfl)
    · have hk := ok_n c7 hk
      refine lv_aload_n hx hb dX9_widest_26 rfl (lv_at hl 0 rfl) ?_
      refine lv_iload_n hx hb dX9_widest_27 rfl (lv_at hl 1 rfl) ?_
      refine lv_iload hx hb dX9_widest_28 (lv_at hl 3 rfl) ?_
      refine lv_iload hx hb dX9_widest_30 (lv_at hl 4 rfl) ?_
      obtain ⟨c10, hk⟩ := ok_c hk
      obtain ⟨q8, e9, hk⟩ := ok_b hk
      refine zVl X w (n := 3) (As := [.int i1, .int i4, .int i5]) (rest := []) (ci := 9) (C := RX9) (T := TX9) (N := 23) (c_X9_between l D cy G M r0 i1 i4 i5 e9) (gzV wm_X9_194 wi_X9_between ws_X9_between wn_X9 wc_X9_between) rfl rfl rfl (by decide +kernel) (by decide) rfl c10 rfl rfl hl.1 (Nat.le_of_ble_eq_true rfl) dX9_widest_32 ⟨Nat.zero_le _, Nat.zero_le _⟩ (fun H locs w => ?_)
      refine lv_lstore (lv' := [(6, .long q8), (0, .ref r0), (1, .int i1), (2, .long l2), (4, .int i4), (5, .int i5)]) hx hb dX9_widest_35 hl (by decide) rfl (fun ls hl => ?_)
      refine lv_lload hx hb dX9_widest_37 (lv_at hl 0 rfl) ?_
      refine lv_lload_n hx hb dX9_widest_39 rfl (lv_at hl 3 rfl) ?_
      refine W.lcmp hx hb dX9_widest_40 ?_
      refine lv_if_le (tgt := 47) hx hb dX9_widest_41 (by decide) (fun c11 => ?_) (fun c11 => ?_)
      · have hk := ok_p c11 hk
        refine lv_iinc (v := (i5 + 1)) (lv' := [(5, .int (i5 + 1)), (6, .long q8), (0, .ref r0), (1, .int i1), (2, .long l2), (4, .int i4)]) hx hb dX9_widest_47 hl (k := 5) rfl rfl (by decide) rfl (fun ls hl => ?_)
        refine lv_goto (tgt := 19) hx hb dX9_widest_50 (by decide) ?_
        exact hrec l2 (i5 + 1) _ _ _ w (lv_sub hl [2, 3, 4, 5, 0] rfl) hk
      · have hk := ok_n c11 hk
        refine lv_lload hx hb dX9_widest_44 (lv_at hl 0 rfl) ?_
        refine lv_lstore_n (lv' := [(2, .long q8), (6, .long q8), (0, .ref r0), (1, .int i1), (4, .int i4), (5, .int i5)]) hx hb dX9_widest_46 rfl hl (by decide) rfl (fun ls hl => ?_)
        refine lv_iinc (v := (i5 + 1)) (lv' := [(5, .int (i5 + 1)), (2, .long q8), (6, .long q8), (0, .ref r0), (1, .int i1), (4, .int i4)]) hx hb dX9_widest_47 hl (k := 5) rfl rfl (by decide) rfl (fun ls hl => ?_)
        refine lv_goto (tgt := 19) hx hb dX9_widest_50 (by decide) ?_
        exact hrec q8 (i5 + 1) _ _ _ w (lv_sub hl [3, 4, 1, 5, 0] rfl) hk
theorem wl_X9_widest_19 {p : Program} {l : Launch} {e : Env} {s : State} {m : MethodId} {args : Array Value} {below : List Frame} {meth : Method} {c : Code} {D : va_G} {cy : Cyy} {A : Nat → Prop} {G : Gg} (X : Cx p m c cX9_widest 8 s args wz_X9_widest RX9 D cy) {Q : State → Prop} (M : Mm) (r0 : Nat) (i1 : Int32) (i4 : Int32) (Qo : Int64 → Prop)  (hE : ∀ (y : Int64), Qo (y) → ∀ (H : Heap) (locs : List Loc) (ls : Array Slot), Wo s D cy A G M H locs → lv_has ls 8 [(0, .ref r0), (1, .int i1), (2, .long y), (4, .int i4)] → W p l e rm_X9_widest s m args below meth c H locs 0 0 Q (F0 m 53 ls [])) : ∀ (n : Nat) (l2 : Int64) (i5 : Int32) (H : Heap) (locs : List Loc) (ls : Array Slot), Wo s D cy A G M H locs → lv_has ls 8 [(0, .ref r0), (1, .int i1), (2, .long l2), (4, .int i4), (5, .int i5)] → OK (lp_X9_widest_19 G M r0 i1 i4 n l2 i5) Qo → W p l e rm_X9_widest s m args below meth c H locs 0 0 Q (F0 m 19 ls []) := by
  intro n
  induction n with
  | zero => intro l2 i5 H locs ls w hl hk; exact ok_0 hk
  | succ n ih => intro l2 i5 H locs ls w hl hk; exact wb_X9_widest_19 X M r0 i1 i4 Qo hE  (lp_X9_widest_19 G M r0 i1 i4 n) ih l2 i5 H locs ls w hl hk
set_option maxHeartbeats 4000000 in
set_option maxRecDepth 100000 in
theorem wb_X9_widest_5 {p : Program} {l : Launch} {e : Env} {s : State} {m : MethodId} {args : Array Value} {below : List Frame} {meth : Method} {c : Code} {D : va_G} {cy : Cyy} {A : Nat → Prop} {G : Gg} (X : Cx p m c cX9_widest 8 s args wz_X9_widest RX9 D cy) {Q : State → Prop} (M : Mm) (r0 : Nat) (i1 : Int32) (Qo : Int64 → Prop)  (hE : ∀ (y : Int64), Qo (y) → ∀ (H : Heap) (locs : List Loc) (ls : Array Slot), Wo s D cy A G M H locs → lv_has ls 8 [(2, .long y)] → W p l e rm_X9_widest s m args below meth c H locs 0 0 Q (F0 m 59 ls [])) (rec : Int64 → Int32 → Option (Int64)) (hrec : ∀ (l2 : Int64) (i4 : Int32) (H : Heap) (locs : List Loc) (ls : Array Slot), Wo s D cy A G M H locs → lv_has ls 8 [(0, .ref r0), (1, .int i1), (2, .long l2), (4, .int i4)] → OK (rec l2 i4) Qo → W p l e rm_X9_widest s m args below meth c H locs 0 0 Q (F0 m 5 ls [])) (l2 : Int64) (i4 : Int32) (H : Heap) (locs : List Loc) (ls : Array Slot) (w : Wo s D cy A G M H locs) (hl : lv_has ls 8 [(0, .ref r0), (1, .int i1), (2, .long l2), (4, .int i4)]) (hk : OK (bd_X9_widest_5 G M r0 i1 rec l2 i4) Qo) : W p l e rm_X9_widest s m args below meth c H locs 0 0 Q (F0 m 5 ls []) := by
    have hx := X.1.1
    have hb := X.1.2.1
    unfold bd_X9_widest_5 at hk
    refine lv_iload hx hb dX9_widest_5 (lv_at hl 3 rfl) ?_
    refine lv_aload_n hx hb dX9_widest_7 rfl (lv_at hl 0 rfl) ?_
    obtain ⟨c1, hk⟩ := ok_c hk
    obtain ⟨r2, e3, hk⟩ := ok_b hk
    refine zgr X w 9 3 13 (C := RX9) (T := TX9) (N := 23) rfl ui_X9 (by decide) rfl (tb wf_X9_13) dX9_widest_8 c1 e3 ?_
    refine lv_iload_n hx hb dX9_widest_11 rfl (lv_at hl 1 rfl) ?_
    obtain ⟨c4, hk⟩ := ok_c hk
    obtain ⟨c5, hk⟩ := ok_c hk
    refine zai X w dX9_widest_12 c4 c5 ?_
    refine lv_icmp_ge (tgt := 59) hx hb dX9_widest_13 (by decide) (fun c6 => ?_) (fun c6 => ?_)
    · have hk := ok_p c6 hk
      exact hE l2 (ok_s hk) _ _ _ w (lv_sub hl [2] rfl)
    · have hk := ok_n c6 hk
      refine lv_iconst (v := 0) hx hb dX9_widest_16 (by decide) ?_
      refine lv_istore (lv' := [(5, .int (0 : Int32)), (0, .ref r0), (1, .int i1), (2, .long l2), (4, .int i4)]) hx hb dX9_widest_17 hl (by decide) rfl (fun ls hl => ?_)
      refine wl_X9_widest_19 X M r0 i1 i4 (Qo := _) (fun q12 hk H locs ls w hl => ?_) FU l2 (0 : Int32) _ _ _ w (lv_sub hl [1, 2, 3, 4, 0] rfl) (ok_b hk)
      refine lv_iinc (v := (i4 + 1)) (lv' := [(4, .int (i4 + 1)), (0, .ref r0), (1, .int i1), (2, .long q12)]) hx hb dX9_widest_53 hl (k := 3) rfl rfl (by decide) rfl (fun ls hl => ?_)
      refine lv_goto (tgt := 5) hx hb dX9_widest_56 (by decide) ?_
      exact hrec q12 (i4 + 1) _ _ _ w (lv_sub hl [1, 2, 3, 0] rfl) hk
theorem wl_X9_widest_5 {p : Program} {l : Launch} {e : Env} {s : State} {m : MethodId} {args : Array Value} {below : List Frame} {meth : Method} {c : Code} {D : va_G} {cy : Cyy} {A : Nat → Prop} {G : Gg} (X : Cx p m c cX9_widest 8 s args wz_X9_widest RX9 D cy) {Q : State → Prop} (M : Mm) (r0 : Nat) (i1 : Int32) (Qo : Int64 → Prop)  (hE : ∀ (y : Int64), Qo (y) → ∀ (H : Heap) (locs : List Loc) (ls : Array Slot), Wo s D cy A G M H locs → lv_has ls 8 [(2, .long y)] → W p l e rm_X9_widest s m args below meth c H locs 0 0 Q (F0 m 59 ls [])) : ∀ (n : Nat) (l2 : Int64) (i4 : Int32) (H : Heap) (locs : List Loc) (ls : Array Slot), Wo s D cy A G M H locs → lv_has ls 8 [(0, .ref r0), (1, .int i1), (2, .long l2), (4, .int i4)] → OK (lp_X9_widest_5 G M r0 i1 n l2 i4) Qo → W p l e rm_X9_widest s m args below meth c H locs 0 0 Q (F0 m 5 ls []) := by
  intro n
  induction n with
  | zero => intro l2 i4 H locs ls w hl hk; exact ok_0 hk
  | succ n ih => intro l2 i4 H locs ls w hl hk; exact wb_X9_widest_5 X M r0 i1 Qo hE  (lp_X9_widest_5 G M r0 i1 n) ih l2 i4 H locs ls w hl hk
set_option maxHeartbeats 4000000 in
set_option maxRecDepth 100000 in
theorem c_X9_widest (l : Launch) (D : va_G) (cy : Cyy) (G : Gg) (M : Mm) (r0 : Nat) (i1 : Int32) {q : Int64} (hm : f_X9_widest G M r0 i1 = some q) : CL l yX9_widest wz_X9_widest rm_X9_widest D cy G M [.ref r0, .int i1] q M := by
  refine Met_of (Qf := fun A => QL D cy G A q M) (cc := cX9_widest) (nL := 8) (ret := (some .long)) (own := RX9) (lv := [(0, .ref r0), (1, .int i1)]) (by decide) rfl rfl (Nat.le_of_ble_eq_true rfl) rfl ?_
  intro p e s m args below meth c A ls X hr hlk w hl
  have hx := X.1.1
  have hb := X.1.2.1
  obtain ⟨Qo, hR, hk⟩ : ∃ Qo : Int64 → Prop, (∀ x, Qo x → x = q) ∧ OK (f_X9_widest G M r0 i1) Qo := ⟨fun x => x = q, fun _ h => h, q, hm, rfl⟩
  unfold f_X9_widest at hk
  refine lv_lconst (v := 0) hx hb dX9_widest_0 (by decide) ?_
  refine lv_lstore_n (lv' := [(2, .long (0 : Int64)), (0, .ref r0), (1, .int i1)]) hx hb dX9_widest_1 rfl hl (by decide) rfl (fun ls hl => ?_)
  refine lv_iconst (v := 0) hx hb dX9_widest_2 (by decide) ?_
  refine lv_istore (lv' := [(4, .int (0 : Int32)), (2, .long (0 : Int64)), (0, .ref r0), (1, .int i1)]) hx hb dX9_widest_3 hl (by decide) rfl (fun ls hl => ?_)
  refine wl_X9_widest_5 X M r0 i1 (Qo := _) (fun q13 hk H locs ls w hl => ?_) FU (0 : Int64) (0 : Int32) _ _ _ w (lv_sub hl [2, 3, 1, 0] rfl) (ok_b hk)
  refine lv_lload_n hx hb dX9_widest_59 rfl (lv_at hl 0 rfl) ?_
  have hk := hR _ (ok_s hk)
  exact zrl X hr hlk w dX9_widest_60 hk rfl
abbrev rm_X9_apart : Room := { frames := 3, cells := 0, slots := 0, locals := 73 }
set_option maxHeartbeats 4000000 in
set_option maxRecDepth 100000 in
theorem wj_X9_apart_48 {p : Program} {l : Launch} {e : Env} {s : State} {m : MethodId} {args : Array Value} {below : List Frame} {meth : Method} {c : Code} {D : va_G} {cy : Cyy} {A : Nat → Prop} {G : Gg} (X : Cx p m c cX9_apart 7 s args wz_X9_apart RX9 D cy) (M0 M : Mm) (Qo : Int64 × Mm → Prop) (hr : meth.sig.returnType = (some .long)) (hlk : meth.locks = false) {x0 : Int64 × Mm} (hR : ∀ x, Qo x → x = x0)  (r0 : Nat) (i1 : Int32) (i2 : Int32) (i3 : Int32) (i4 : Int32) (i5 : Int32) (i6 : Int32)  (H : Heap) (locs : List Loc) (ls : Array Slot) (w : Wo s D cy A G M H locs) (hl : lv_has ls 7 [(0, .ref r0), (1, .int i1), (2, .int i2), (3, .int i3), (4, .int i4), (5, .int i5), (6, .int i6)]) (hk : OK (jn_X9_apart_48 G M  r0 i1 i2 i3 i4 i5 i6) Qo) : W p l e rm_X9_apart s m args below meth c H locs 0 0 (MQ below (QL D cy G A x0.1 x0.2) args s 0 0 A) (F0 m 48 ls []) := by
    have hx := X.1.1
    have hb := X.1.2.1
    unfold jn_X9_apart_48 at hk
    refine lv_iload hx hb dX9_apart_48 (lv_at hl 4 rfl) ?_
    refine lv_if_lt (tgt := 71) hx hb dX9_apart_50 (by decide) (fun c9 => ?_) (fun c9 => ?_)
    · have hk := ok_p c9 hk
      refine lv_aload_n hx hb dX9_apart_71 rfl (lv_at hl 0 rfl) ?_
      obtain ⟨c12, hk⟩ := ok_c hk
      obtain ⟨q10, e11, hk⟩ := ok_b hk
      refine zVi X w (n := 0) (As := []) (rest := []) (ci := 9) (C := RX9) (T := TX9) (N := 23) (c_X9_refuse l D cy G M r0 e11) (gzV wm_X9_156 wi_X9_refuse ws_X9_refuse wn_X9 wc_X9_refuse) rfl rfl rfl (by decide +kernel) (by decide) rfl c12 rfl rfl hl.1 (Nat.le_of_ble_eq_true rfl) dX9_apart_72 ⟨Nat.zero_le _, Nat.zero_le _⟩ (fun H locs w => ?_)
      refine lv_i2l hx hb dX9_apart_75 rfl ?_
      have hk := hR _ (ok_s hk)
      exact zrl X hr hlk w dX9_apart_76 (pr1 hk) (pr2 hk)
    · have hk := ok_n c9 hk
      refine lv_iload hx hb dX9_apart_53 (lv_at hl 4 rfl) ?_
      refine lv_aload_n hx hb dX9_apart_55 rfl (lv_at hl 0 rfl) ?_
      refine lv_iload_n hx hb dX9_apart_56 rfl (lv_at hl 1 rfl) ?_
      obtain ⟨c15, hk⟩ := ok_c hk
      obtain ⟨q13, e14, hk⟩ := ok_b hk
      refine zVi X w (n := 1) (As := [.int i1]) (rest := [.int i4]) (ci := 9) (C := RX9) (T := TX9) (N := 23) (c_X9_times l D cy G M r0 i1 e14) (gzV wm_X9_162 wi_X9_times ws_X9_times wn_X9 wc_X9_times) rfl rfl rfl (by decide +kernel) (by decide) rfl c15 rfl rfl hl.1 (Nat.le_of_ble_eq_true rfl) dX9_apart_57 ⟨Nat.zero_le _, Nat.zero_le _⟩ (fun H locs w => ?_)
      refine lv_icmp_gt (tgt := 71) hx hb dX9_apart_60 (by decide) (fun c16 => ?_) (fun c16 => ?_)
      · have hk := ok_p c16 hk
        refine lv_aload_n hx hb dX9_apart_71 rfl (lv_at hl 0 rfl) ?_
        obtain ⟨q17, e18, hk⟩ := ok_b hk
        refine zVi X w (n := 0) (As := []) (rest := []) (ci := 9) (C := RX9) (T := TX9) (N := 23) (c_X9_refuse l D cy G M r0 e18) (gzV wm_X9_156 wi_X9_refuse ws_X9_refuse wn_X9 wc_X9_refuse) rfl rfl rfl (by decide +kernel) (by decide) rfl c15 rfl rfl hl.1 (Nat.le_of_ble_eq_true rfl) dX9_apart_72 ⟨Nat.zero_le _, Nat.zero_le _⟩ (fun H locs w => ?_)
        refine lv_i2l hx hb dX9_apart_75 rfl ?_
        have hk := hR _ (ok_s hk)
        exact zrl X hr hlk w dX9_apart_76 (pr1 hk) (pr2 hk)
      · have hk := ok_n c16 hk
        refine lv_iload hx hb dX9_apart_63 (lv_at hl 5 rfl) ?_
        obtain ⟨q19, e20, hk⟩ := ok_b hk
        refine zSi X w (n := 1) (As := [.int i5]) (rest := []) (c_X9_isWhat l D cy G M i5 e20) (gzS wm_X9_184 wt_X9_isWhat wn_X9 wc_X9_isWhat) rfl rfl rfl (by decide +kernel) (by decide) rfl rfl hl.1 (Nat.le_of_ble_eq_true rfl) dX9_apart_65 ⟨Nat.zero_le _, Nat.zero_le _⟩ (fun H locs w => ?_)
        refine lv_if_ne (tgt := 77) hx hb dX9_apart_68 (by decide) (fun c21 => ?_) (fun c21 => ?_)
        · have hk := ok_n c21 hk
          refine lv_aload_n hx hb dX9_apart_77 rfl (lv_at hl 0 rfl) ?_
          refine lv_iload_n hx hb dX9_apart_78 rfl (lv_at hl 1 rfl) ?_
          refine lv_iload hx hb dX9_apart_79 (lv_at hl 4 rfl) ?_
          obtain ⟨q22, e23, hk⟩ := ok_b hk
          refine zVv X w (n := 2) (As := [.int i1, .int i4]) (rest := []) (ci := 9) (C := RX9) (T := TX9) (N := 23) (c_X9_go l D cy G M r0 i1 i4 e23) (gzV wm_X9_187 wi_X9_go ws_X9_go wn_X9 wc_X9_go) rfl rfl rfl (by decide +kernel) (by decide) rfl c15 rfl rfl hl.1 (Nat.le_of_ble_eq_true rfl) dX9_apart_81 ⟨Nat.zero_le _, Nat.zero_le _⟩ (fun H locs w => ?_)
          refine lv_aload_n hx hb dX9_apart_84 rfl (lv_at hl 0 rfl) ?_
          refine lv_iload hx hb dX9_apart_85 (lv_at hl 6 rfl) ?_
          refine lv_if_eq (tgt := 98) hx hb dX9_apart_87 (by decide) (fun c24 => ?_) (fun c24 => ?_)
          · have hk := ok_p c24 hk
            refine lv_aload_n hx hb dX9_apart_98 rfl (lv_at hl 0 rfl) ?_
            refine lv_iload_n hx hb dX9_apart_99 rfl (lv_at hl 1 rfl) ?_
            refine lv_iload_n hx hb dX9_apart_100 rfl (lv_at hl 2 rfl) ?_
            refine lv_iload_n hx hb dX9_apart_101 rfl (lv_at hl 3 rfl) ?_
            obtain ⟨q25, e26, hk⟩ := ok_b hk
            refine zVl X w (n := 3) (As := [.int i1, .int i2, .int i3]) (rest := [.ref r0]) (ci := 9) (C := RX9) (T := TX9) (N := 23) (c_X9_between l D cy G q22 r0 i1 i2 i3 e26) (gzV wm_X9_194 wi_X9_between ws_X9_between wn_X9 wc_X9_between) rfl rfl rfl (by decide +kernel) (by decide) rfl c15 rfl rfl hl.1 (Nat.le_of_ble_eq_true rfl) dX9_apart_102 ⟨Nat.zero_le _, Nat.zero_le _⟩ (fun H locs w => ?_)
            refine zldc2 X (v := 2) (tb wk_X9_106) dX9_apart_105 ?_
            refine lv_aload_n hx hb dX9_apart_108 rfl (lv_at hl 0 rfl) ?_
            refine zgl X w 9 20 174 (C := RX9) (T := TX9) (N := 23) rfl ui_X9 (by decide) rfl (tb wf_X9_174) dX9_apart_109 c15 ?_
            refine lv_lmul hx hb dX9_apart_112 ?_
            refine lv_iload hx hb dX9_apart_113 (lv_at hl 5 rfl) ?_
            obtain ⟨q27, e28, hk⟩ := ok_b hk
            refine zVl X w (n := 3) (As := [.long q25, .long ((2 : Int64) * (q22.2.1 r0 20)), .int i5]) (rest := []) (ci := 9) (C := RX9) (T := TX9) (N := 23) (c_X9_told l D cy G q22 r0 q25 ((2 : Int64) * (q22.2.1 r0 20)) i5 e28) (gzV wm_X9_190 wi_X9_told ws_X9_told wn_X9 wc_X9_told) rfl rfl rfl (by decide +kernel) (by decide) rfl c15 rfl rfl hl.1 (Nat.le_of_ble_eq_true rfl) dX9_apart_115 ⟨Nat.zero_le _, Nat.zero_le _⟩ (fun H locs w => ?_)
            have hk := hR _ (ok_s hk)
            exact zrl X hr hlk w dX9_apart_118 (pr1 hk) (pr2 hk)
          · have hk := ok_n c24 hk
            refine lv_aload_n hx hb dX9_apart_90 rfl (lv_at hl 0 rfl) ?_
            refine lv_iload_n hx hb dX9_apart_91 rfl (lv_at hl 1 rfl) ?_
            obtain ⟨q29, e30, hk⟩ := ok_b hk
            refine zVl X w (n := 1) (As := [.int i1]) (rest := [.ref r0]) (ci := 9) (C := RX9) (T := TX9) (N := 23) (c_X9_widest l D cy G q22 r0 i1 e30) (gzV wm_X9_198 wi_X9_widest ws_X9_widest wn_X9 wc_X9_widest) rfl rfl rfl (by decide +kernel) (by decide) rfl c15 rfl rfl hl.1 (Nat.le_of_ble_eq_true rfl) dX9_apart_92 ⟨Nat.zero_le _, Nat.zero_le _⟩ (fun H locs w => ?_)
            refine lv_goto (tgt := 105) hx hb dX9_apart_95 (by decide) ?_
            refine zldc2 X (v := 2) (tb wk_X9_106) dX9_apart_105 ?_
            refine lv_aload_n hx hb dX9_apart_108 rfl (lv_at hl 0 rfl) ?_
            refine zgl X w 9 20 174 (C := RX9) (T := TX9) (N := 23) rfl ui_X9 (by decide) rfl (tb wf_X9_174) dX9_apart_109 c15 ?_
            refine lv_lmul hx hb dX9_apart_112 ?_
            refine lv_iload hx hb dX9_apart_113 (lv_at hl 5 rfl) ?_
            obtain ⟨q31, e32, hk⟩ := ok_b hk
            refine zVl X w (n := 3) (As := [.long q29, .long ((2 : Int64) * (q22.2.1 r0 20)), .int i5]) (rest := []) (ci := 9) (C := RX9) (T := TX9) (N := 23) (c_X9_told l D cy G q22 r0 q29 ((2 : Int64) * (q22.2.1 r0 20)) i5 e32) (gzV wm_X9_190 wi_X9_told ws_X9_told wn_X9 wc_X9_told) rfl rfl rfl (by decide +kernel) (by decide) rfl c15 rfl rfl hl.1 (Nat.le_of_ble_eq_true rfl) dX9_apart_115 ⟨Nat.zero_le _, Nat.zero_le _⟩ (fun H locs w => ?_)
            have hk := hR _ (ok_s hk)
            exact zrl X hr hlk w dX9_apart_118 (pr1 hk) (pr2 hk)
        · have hk := ok_p c21 hk
          refine lv_aload_n hx hb dX9_apart_71 rfl (lv_at hl 0 rfl) ?_
          obtain ⟨q33, e34, hk⟩ := ok_b hk
          refine zVi X w (n := 0) (As := []) (rest := []) (ci := 9) (C := RX9) (T := TX9) (N := 23) (c_X9_refuse l D cy G M r0 e34) (gzV wm_X9_156 wi_X9_refuse ws_X9_refuse wn_X9 wc_X9_refuse) rfl rfl rfl (by decide +kernel) (by decide) rfl c15 rfl rfl hl.1 (Nat.le_of_ble_eq_true rfl) dX9_apart_72 ⟨Nat.zero_le _, Nat.zero_le _⟩ (fun H locs w => ?_)
          refine lv_i2l hx hb dX9_apart_75 rfl ?_
          have hk := hR _ (ok_s hk)
          exact zrl X hr hlk w dX9_apart_76 (pr1 hk) (pr2 hk)
set_option maxHeartbeats 4000000 in
set_option maxRecDepth 100000 in
theorem wj_X9_apart_15 {p : Program} {l : Launch} {e : Env} {s : State} {m : MethodId} {args : Array Value} {below : List Frame} {meth : Method} {c : Code} {D : va_G} {cy : Cyy} {A : Nat → Prop} {G : Gg} (X : Cx p m c cX9_apart 7 s args wz_X9_apart RX9 D cy) (M0 M : Mm) (Qo : Int64 × Mm → Prop) (hr : meth.sig.returnType = (some .long)) (hlk : meth.locks = false) {x0 : Int64 × Mm} (hR : ∀ x, Qo x → x = x0)  (r0 : Nat) (i1 : Int32) (i2 : Int32) (i3 : Int32) (i4 : Int32) (i5 : Int32) (k0 : Int32) (H : Heap) (locs : List Loc) (ls : Array Slot) (w : Wo s D cy A G M H locs) (hl : lv_has ls 7 [(0, .ref r0), (1, .int i1), (2, .int i2), (3, .int i3), (4, .int i4), (5, .int i5)]) (hk : OK (jn_X9_apart_15 G M  r0 i1 i2 i3 i4 i5 k0) Qo) : W p l e rm_X9_apart s m args below meth c H locs 0 0 (MQ below (QL D cy G A x0.1 x0.2) args s 0 0 A) (F0 m 15 ls [.int k0]) := by
    have hx := X.1.1
    have hb := X.1.2.1
    unfold jn_X9_apart_15 at hk
    refine lv_istore (lv' := [(6, .int k0), (0, .ref r0), (1, .int i1), (2, .int i2), (3, .int i3), (4, .int i4), (5, .int i5)]) hx hb dX9_apart_15 hl (by decide) rfl (fun ls hl => ?_)
    refine lv_aload_n hx hb dX9_apart_17 rfl (lv_at hl 1 rfl) ?_
    refine lv_iload_n hx hb dX9_apart_18 rfl (lv_at hl 2 rfl) ?_
    obtain ⟨c4, hk⟩ := ok_c hk
    obtain ⟨q2, e3, hk⟩ := ok_b hk
    refine zVi X w (n := 1) (As := [.int i1]) (rest := []) (ci := 9) (C := RX9) (T := TX9) (N := 23) (c_X9_has l D cy G M r0 i1 e3) (gzV wm_X9_89 wi_X9_has ws_X9_has wn_X9 wc_X9_has) rfl rfl rfl (by decide +kernel) (by decide) rfl c4 rfl rfl hl.1 (Nat.le_of_ble_eq_true rfl) dX9_apart_19 ⟨Nat.zero_le _, Nat.zero_le _⟩ (fun H locs w => ?_)
    refine lv_if_eq (tgt := 71) hx hb dX9_apart_22 (by decide) (fun c5 => ?_) (fun c5 => ?_)
    · have hk := ok_p c5 hk
      refine lv_aload_n hx hb dX9_apart_71 rfl (lv_at hl 1 rfl) ?_
      obtain ⟨q6, e7, hk⟩ := ok_b hk
      refine zVi X w (n := 0) (As := []) (rest := []) (ci := 9) (C := RX9) (T := TX9) (N := 23) (c_X9_refuse l D cy G M r0 e7) (gzV wm_X9_156 wi_X9_refuse ws_X9_refuse wn_X9 wc_X9_refuse) rfl rfl rfl (by decide +kernel) (by decide) rfl c4 rfl rfl hl.1 (Nat.le_of_ble_eq_true rfl) dX9_apart_72 ⟨Nat.zero_le _, Nat.zero_le _⟩ (fun H locs w => ?_)
      refine lv_i2l hx hb dX9_apart_75 rfl ?_
      have hk := hR _ (ok_s hk)
      exact zrl X hr hlk w dX9_apart_76 (pr1 hk) (pr2 hk)
    · have hk := ok_n c5 hk
      refine lv_iload hx hb dX9_apart_25 (lv_at hl 0 rfl) ?_
      refine lv_if_ne (tgt := 48) hx hb dX9_apart_27 (by decide) (fun c8 => ?_) (fun c8 => ?_)
      · have hk := ok_n c8 hk
        exact wj_X9_apart_48 X M M _ hr hlk hR r0 i1 i2 i3 i4 i5 k0 _ _ _ w (lv_sub hl [1, 2, 3, 4, 5, 6, 0] rfl) hk
      · have hk := ok_p c8 hk
        refine lv_aload_n hx hb dX9_apart_30 rfl (lv_at hl 1 rfl) ?_
        refine lv_iload_n hx hb dX9_apart_31 rfl (lv_at hl 2 rfl) ?_
        refine lv_iload_n hx hb dX9_apart_32 rfl (lv_at hl 3 rfl) ?_
        obtain ⟨q35, e36, hk⟩ := ok_b hk
        refine zVi X w (n := 2) (As := [.int i1, .int i2]) (rest := []) (ci := 9) (C := RX9) (T := TX9) (N := 23) (c_X9_isState l D cy G M r0 i1 i2 e36) (gzV wm_X9_171 wi_X9_isState ws_X9_isState wn_X9 wc_X9_isState) rfl rfl rfl (by decide +kernel) (by decide) rfl c4 rfl rfl hl.1 (Nat.le_of_ble_eq_true rfl) dX9_apart_33 ⟨Nat.zero_le _, Nat.zero_le _⟩ (fun H locs w => ?_)
        refine lv_if_eq (tgt := 71) hx hb dX9_apart_36 (by decide) (fun c37 => ?_) (fun c37 => ?_)
        · have hk := ok_p c37 hk
          refine lv_aload_n hx hb dX9_apart_71 rfl (lv_at hl 1 rfl) ?_
          obtain ⟨q38, e39, hk⟩ := ok_b hk
          refine zVi X w (n := 0) (As := []) (rest := []) (ci := 9) (C := RX9) (T := TX9) (N := 23) (c_X9_refuse l D cy G M r0 e39) (gzV wm_X9_156 wi_X9_refuse ws_X9_refuse wn_X9 wc_X9_refuse) rfl rfl rfl (by decide +kernel) (by decide) rfl c4 rfl rfl hl.1 (Nat.le_of_ble_eq_true rfl) dX9_apart_72 ⟨Nat.zero_le _, Nat.zero_le _⟩ (fun H locs w => ?_)
          refine lv_i2l hx hb dX9_apart_75 rfl ?_
          have hk := hR _ (ok_s hk)
          exact zrl X hr hlk w dX9_apart_76 (pr1 hk) (pr2 hk)
        · have hk := ok_n c37 hk
          refine lv_aload_n hx hb dX9_apart_39 rfl (lv_at hl 1 rfl) ?_
          refine lv_iload_n hx hb dX9_apart_40 rfl (lv_at hl 2 rfl) ?_
          refine lv_iload_n hx hb dX9_apart_41 rfl (lv_at hl 4 rfl) ?_
          obtain ⟨q40, e41, hk⟩ := ok_b hk
          refine zVi X w (n := 2) (As := [.int i1, .int i3]) (rest := []) (ci := 9) (C := RX9) (T := TX9) (N := 23) (c_X9_isState l D cy G M r0 i1 i3 e41) (gzV wm_X9_171 wi_X9_isState ws_X9_isState wn_X9 wc_X9_isState) rfl rfl rfl (by decide +kernel) (by decide) rfl c4 rfl rfl hl.1 (Nat.le_of_ble_eq_true rfl) dX9_apart_42 ⟨Nat.zero_le _, Nat.zero_le _⟩ (fun H locs w => ?_)
          refine lv_if_eq (tgt := 71) hx hb dX9_apart_45 (by decide) (fun c42 => ?_) (fun c42 => ?_)
          · have hk := ok_p c42 hk
            refine lv_aload_n hx hb dX9_apart_71 rfl (lv_at hl 1 rfl) ?_
            obtain ⟨q43, e44, hk⟩ := ok_b hk
            refine zVi X w (n := 0) (As := []) (rest := []) (ci := 9) (C := RX9) (T := TX9) (N := 23) (c_X9_refuse l D cy G M r0 e44) (gzV wm_X9_156 wi_X9_refuse ws_X9_refuse wn_X9 wc_X9_refuse) rfl rfl rfl (by decide +kernel) (by decide) rfl c4 rfl rfl hl.1 (Nat.le_of_ble_eq_true rfl) dX9_apart_72 ⟨Nat.zero_le _, Nat.zero_le _⟩ (fun H locs w => ?_)
            refine lv_i2l hx hb dX9_apart_75 rfl ?_
            have hk := hR _ (ok_s hk)
            exact zrl X hr hlk w dX9_apart_76 (pr1 hk) (pr2 hk)
          · have hk := ok_n c42 hk
            exact wj_X9_apart_48 X M M _ hr hlk hR r0 i1 i2 i3 i4 i5 k0 _ _ _ w (lv_sub hl [1, 2, 3, 4, 5, 6, 0] rfl) hk
set_option maxHeartbeats 4000000 in
set_option maxRecDepth 100000 in
theorem wj_X9_apart_14 {p : Program} {l : Launch} {e : Env} {s : State} {m : MethodId} {args : Array Value} {below : List Frame} {meth : Method} {c : Code} {D : va_G} {cy : Cyy} {A : Nat → Prop} {G : Gg} (X : Cx p m c cX9_apart 7 s args wz_X9_apart RX9 D cy) (M0 M : Mm) (Qo : Int64 × Mm → Prop) (hr : meth.sig.returnType = (some .long)) (hlk : meth.locks = false) {x0 : Int64 × Mm} (hR : ∀ x, Qo x → x = x0)  (r0 : Nat) (i1 : Int32) (i2 : Int32) (i3 : Int32) (i4 : Int32) (i5 : Int32)  (H : Heap) (locs : List Loc) (ls : Array Slot) (w : Wo s D cy A G M H locs) (hl : lv_has ls 7 [(0, .ref r0), (1, .int i1), (2, .int i2), (3, .int i3), (4, .int i4), (5, .int i5)]) (hk : OK (jn_X9_apart_14 G M  r0 i1 i2 i3 i4 i5) Qo) : W p l e rm_X9_apart s m args below meth c H locs 0 0 (MQ below (QL D cy G A x0.1 x0.2) args s 0 0 A) (F0 m 14 ls []) := by
    have hx := X.1.1
    have hb := X.1.2.1
    unfold jn_X9_apart_14 at hk
    refine lv_iconst (v := 0) hx hb dX9_apart_14 (by decide) ?_
    exact wj_X9_apart_15 X M M _ hr hlk hR r0 i1 i2 i3 i4 i5 (0 : Int32) _ _ _ w (lv_sub hl [0, 1, 2, 3, 4, 5] rfl) hk
set_option maxHeartbeats 4000000 in
set_option maxRecDepth 100000 in
theorem c_X9_apart (l : Launch) (D : va_G) (cy : Cyy) (G : Gg) (M : Mm) (r0 : Nat) (i1 : Int32) (i2 : Int32) (i3 : Int32) (i4 : Int32) (i5 : Int32) {q : Int64 × Mm} (hm : f_X9_apart G M r0 i1 i2 i3 i4 i5 = some q) : CL l yX9_apart wz_X9_apart rm_X9_apart D cy G M [.ref r0, .int i1, .int i2, .int i3, .int i4, .int i5] q.1 q.2 := by
  refine Met_of (Qf := fun A => QL D cy G A q.1 q.2) (cc := cX9_apart) (nL := 7) (ret := (some .long)) (own := RX9) (lv := [(0, .ref r0), (1, .int i1), (2, .int i2), (3, .int i3), (4, .int i4), (5, .int i5)]) (by decide) rfl rfl (Nat.le_of_ble_eq_true rfl) rfl ?_
  intro p e s m args below meth c A ls X hr hlk w hl
  have hx := X.1.1
  have hb := X.1.2.1
  obtain ⟨Qo, hR, hk⟩ : ∃ Qo : Int64 × Mm → Prop, (∀ x, Qo x → x = q) ∧ OK (f_X9_apart G M r0 i1 i2 i3 i4 i5) Qo := ⟨fun x => x = q, fun _ h => h, q, hm, rfl⟩
  unfold f_X9_apart at hk
  refine lv_iload_n hx hb dX9_apart_0 rfl (lv_at hl 2 rfl) ?_
  refine lv_iconst (v := (-1)) hx hb dX9_apart_1 (by decide) ?_
  refine lv_icmp_ne (tgt := 14) hx hb dX9_apart_2 (by decide) (fun c1 => ?_) (fun c1 => ?_)
  · have hk := ok_n c1 hk
    exact wj_X9_apart_14 X M M _ hr hlk hR r0 i1 i2 i3 i4 i5 _ _ _ w (lv_sub hl [0, 1, 2, 3, 4, 5] rfl) hk
  · have hk := ok_p c1 hk
    refine lv_iload_n hx hb dX9_apart_5 rfl (lv_at hl 3 rfl) ?_
    refine lv_iconst (v := (-1)) hx hb dX9_apart_6 (by decide) ?_
    refine lv_icmp_ne (tgt := 14) hx hb dX9_apart_7 (by decide) (fun c45 => ?_) (fun c45 => ?_)
    · have hk := ok_n c45 hk
      exact wj_X9_apart_14 X M M _ hr hlk hR r0 i1 i2 i3 i4 i5 _ _ _ w (lv_sub hl [0, 1, 2, 3, 4, 5] rfl) hk
    · have hk := ok_p c45 hk
      refine lv_iconst (v := 1) hx hb dX9_apart_10 (by decide) ?_
      refine lv_goto (tgt := 15) hx hb dX9_apart_11 (by decide) ?_
      exact wj_X9_apart_15 X M M _ hr hlk hR r0 i1 i2 i3 i4 i5 (1 : Int32) _ _ _ w (lv_sub hl [0, 1, 2, 3, 4, 5] rfl) hk
abbrev rm_X9_when : Room := { frames := 2, cells := 0, slots := 0, locals := 55 }
set_option maxHeartbeats 4000000 in
set_option maxRecDepth 100000 in
theorem wb_X9_when_50 {p : Program} {l : Launch} {e : Env} {s : State} {m : MethodId} {args : Array Value} {below : List Frame} {meth : Method} {c : Code} {D : va_G} {cy : Cyy} {A : Nat → Prop} {G : Gg} (X : Cx p m c cX9_when 6 s args wz_X9_when RX9 D cy) (r0 : Nat) (i1 : Int32) (i2 : Int32) (i3 : Int32) (i4 : Int32) (Qo : (Int32 × Mm) ⊕ (Mm) → Prop) (hr : meth.sig.returnType = (some .int)) (hlk : meth.locks = false) {x0 : Int32 × Mm} (hR : ∀ x, Qo (.inl x) → x = x0) (hE : ∀ (y : Mm), Qo (.inr y) → ∀ (H : Heap) (locs : List Loc) (ls : Array Slot), Wo s D cy A G y H locs → lv_has ls 6 [] → W p l e rm_X9_when s m args below meth c H locs 0 0 (MQ below (QI D cy G A x0.1 x0.2) args s 0 0 A) (F0 m 101 ls [])) (rec : Int32 → Mm → Option ((Int32 × Mm) ⊕ (Mm))) (hrec : ∀ (i5 : Int32) (M : Mm) (H : Heap) (locs : List Loc) (ls : Array Slot), Wo s D cy A G M H locs → lv_has ls 6 [(0, .ref r0), (1, .int i1), (2, .int i2), (3, .int i3), (4, .int i4), (5, .int i5)] → OK (rec i5 M) Qo → W p l e rm_X9_when s m args below meth c H locs 0 0 (MQ below (QI D cy G A x0.1 x0.2) args s 0 0 A) (F0 m 50 ls [])) (i5 : Int32) (M : Mm) (H : Heap) (locs : List Loc) (ls : Array Slot) (w : Wo s D cy A G M H locs) (hl : lv_has ls 6 [(0, .ref r0), (1, .int i1), (2, .int i2), (3, .int i3), (4, .int i4), (5, .int i5)]) (hk : OK (bd_X9_when_50 G r0 i1 i2 i3 i4 rec i5 M) Qo) : W p l e rm_X9_when s m args below meth c H locs 0 0 (MQ below (QI D cy G A x0.1 x0.2) args s 0 0 A) (F0 m 50 ls []) := by
    have hx := X.1.1
    have hb := X.1.2.1
    unfold bd_X9_when_50 at hk
    refine lv_iload hx hb dX9_when_50 (lv_at hl 5 rfl) ?_
    refine lv_iload hx hb dX9_when_52 (lv_at hl 4 rfl) ?_
    refine lv_icmp_gt (tgt := 101) hx hb dX9_when_54 (by decide) (fun c13 => ?_) (fun c13 => ?_)
    · have hk := ok_p c13 hk
      exact hE M (ok_s hk) _ _ _ w (lv_sub hl [] rfl)
    · have hk := ok_n c13 hk
      refine lv_aload_n hx hb dX9_when_57 rfl (lv_at hl 0 rfl) ?_
      refine lv_iload_n hx hb dX9_when_58 rfl (lv_at hl 1 rfl) ?_
      obtain ⟨c16, hk⟩ := ok_c hk
      obtain ⟨q14, e15, hk⟩ := ok_b hk
      refine zVl X w (n := 1) (As := [.int i1]) (rest := []) (ci := 9) (C := RX9) (T := TX9) (N := 23) (c_X9_widest l D cy G M r0 i1 e15) (gzV wm_X9_198 wi_X9_widest ws_X9_widest wn_X9 wc_X9_widest) rfl rfl rfl (by decide +kernel) (by decide) rfl c16 rfl rfl hl.1 (Nat.le_of_ble_eq_true rfl) dX9_when_59 ⟨Nat.zero_le _, Nat.zero_le _⟩ (fun H locs w => ?_)
      refine lv_iload_n hx hb dX9_when_62 rfl (lv_at hl 3 rfl) ?_
      refine lv_i2l hx hb dX9_when_63 rfl ?_
      refine lv_lmul hx hb dX9_when_64 ?_
      refine zldc2 X (v := 2) (tb wk_X9_106) dX9_when_65 ?_
      refine lv_iload_n hx hb dX9_when_68 rfl (lv_at hl 2 rfl) ?_
      refine lv_i2l hx hb dX9_when_69 rfl ?_
      refine lv_lmul hx hb dX9_when_70 ?_
      refine lv_aload_n hx hb dX9_when_71 rfl (lv_at hl 0 rfl) ?_
      refine zgl X w 9 20 174 (C := RX9) (T := TX9) (N := 23) rfl ui_X9 (by decide) rfl (tb wf_X9_174) dX9_when_72 c16 ?_
      refine lv_lmul hx hb dX9_when_75 ?_
      refine W.lcmp hx hb dX9_when_76 ?_
      refine lv_if_gt (tgt := 83) hx hb dX9_when_77 (by decide) (fun c17 => ?_) (fun c17 => ?_)
      · have hk := ok_p c17 hk
        refine lv_iload hx hb dX9_when_83 (lv_at hl 5 rfl) ?_
        refine lv_iload hx hb dX9_when_85 (lv_at hl 4 rfl) ?_
        refine lv_icmp_ge (tgt := 95) hx hb dX9_when_87 (by decide) (fun c18 => ?_) (fun c18 => ?_)
        · have hk := ok_p c18 hk
          refine lv_iinc (v := (i5 + 1)) (lv' := [(5, .int (i5 + 1)), (0, .ref r0), (1, .int i1), (2, .int i2), (3, .int i3), (4, .int i4)]) hx hb dX9_when_95 hl (k := 5) rfl rfl (by decide) rfl (fun ls hl => ?_)
          refine lv_goto (tgt := 50) hx hb dX9_when_98 (by decide) ?_
          exact hrec (i5 + 1) M _ _ _ w (lv_sub hl [1, 2, 3, 4, 5, 0] rfl) hk
        · have hk := ok_n c18 hk
          refine lv_aload_n hx hb dX9_when_90 rfl (lv_at hl 0 rfl) ?_
          refine lv_iload_n hx hb dX9_when_91 rfl (lv_at hl 1 rfl) ?_
          obtain ⟨q19, e20, hk⟩ := ok_b hk
          refine zVv X w (n := 1) (As := [.int i1]) (rest := []) (ci := 9) (C := RX9) (T := TX9) (N := 23) (c_X9_step l D cy G M r0 i1 e20) (gzV wm_X9_181 wi_X9_step ws_X9_step wn_X9 wc_X9_step) rfl rfl rfl (by decide +kernel) (by decide) rfl c16 rfl rfl hl.1 (Nat.le_of_ble_eq_true rfl) dX9_when_92 ⟨Nat.zero_le _, Nat.zero_le _⟩ (fun H locs w => ?_)
          refine lv_iinc (v := (i5 + 1)) (lv' := [(5, .int (i5 + 1)), (0, .ref r0), (1, .int i1), (2, .int i2), (3, .int i3), (4, .int i4)]) hx hb dX9_when_95 hl (k := 5) rfl rfl (by decide) rfl (fun ls hl => ?_)
          refine lv_goto (tgt := 50) hx hb dX9_when_98 (by decide) ?_
          exact hrec (i5 + 1) q19 _ _ _ w (lv_sub hl [1, 2, 3, 4, 5, 0] rfl) hk
      · have hk := ok_n c17 hk
        refine lv_iload hx hb dX9_when_80 (lv_at hl 5 rfl) ?_
        have hk := hR _ (ok_s hk)
        exact zri X hr hlk w dX9_when_82 (pr1 hk) (pr2 hk)
theorem wl_X9_when_50 {p : Program} {l : Launch} {e : Env} {s : State} {m : MethodId} {args : Array Value} {below : List Frame} {meth : Method} {c : Code} {D : va_G} {cy : Cyy} {A : Nat → Prop} {G : Gg} (X : Cx p m c cX9_when 6 s args wz_X9_when RX9 D cy) (r0 : Nat) (i1 : Int32) (i2 : Int32) (i3 : Int32) (i4 : Int32) (Qo : (Int32 × Mm) ⊕ (Mm) → Prop) (hr : meth.sig.returnType = (some .int)) (hlk : meth.locks = false) {x0 : Int32 × Mm} (hR : ∀ x, Qo (.inl x) → x = x0) (hE : ∀ (y : Mm), Qo (.inr y) → ∀ (H : Heap) (locs : List Loc) (ls : Array Slot), Wo s D cy A G y H locs → lv_has ls 6 [] → W p l e rm_X9_when s m args below meth c H locs 0 0 (MQ below (QI D cy G A x0.1 x0.2) args s 0 0 A) (F0 m 101 ls [])) : ∀ (n : Nat) (i5 : Int32) (M : Mm) (H : Heap) (locs : List Loc) (ls : Array Slot), Wo s D cy A G M H locs → lv_has ls 6 [(0, .ref r0), (1, .int i1), (2, .int i2), (3, .int i3), (4, .int i4), (5, .int i5)] → OK (lp_X9_when_50 G r0 i1 i2 i3 i4 n i5 M) Qo → W p l e rm_X9_when s m args below meth c H locs 0 0 (MQ below (QI D cy G A x0.1 x0.2) args s 0 0 A) (F0 m 50 ls []) := by
  intro n
  induction n with
  | zero => intro i5 M H locs ls w hl hk; exact ok_0 hk
  | succ n ih => intro i5 M H locs ls w hl hk; exact wb_X9_when_50 X r0 i1 i2 i3 i4 Qo hr hlk hR hE  (lp_X9_when_50 G r0 i1 i2 i3 i4 n) ih i5 M H locs ls w hl hk
set_option maxHeartbeats 4000000 in
set_option maxRecDepth 100000 in
theorem c_X9_when (l : Launch) (D : va_G) (cy : Cyy) (G : Gg) (M : Mm) (r0 : Nat) (i1 : Int32) (i2 : Int32) (i3 : Int32) {q : Int32 × Mm} (hm : f_X9_when G M r0 i1 i2 i3 = some q) : CI l yX9_when wz_X9_when rm_X9_when D cy G M [.ref r0, .int i1, .int i2, .int i3] q.1 q.2 := by
  refine Met_of (Qf := fun A => QI D cy G A q.1 q.2) (cc := cX9_when) (nL := 6) (ret := (some .int)) (own := RX9) (lv := [(0, .ref r0), (1, .int i1), (2, .int i2), (3, .int i3)]) (by decide) rfl rfl (Nat.le_of_ble_eq_true rfl) rfl ?_
  intro p e s m args below meth c A ls X hr hlk w hl
  have hx := X.1.1
  have hb := X.1.2.1
  obtain ⟨Qo, hR, hk⟩ : ∃ Qo : Int32 × Mm → Prop, (∀ x, Qo x → x = q) ∧ OK (f_X9_when G M r0 i1 i2 i3) Qo := ⟨fun x => x = q, fun _ h => h, q, hm, rfl⟩
  unfold f_X9_when at hk
  refine lv_aload_n hx hb dX9_when_0 rfl (lv_at hl 0 rfl) ?_
  refine lv_iconst (v := 0) hx hb dX9_when_1 (by decide) ?_
  obtain ⟨c1, hk⟩ := ok_c hk
  refine zpi X w 9 0 59 tyX9 (C := RX9) (T := TX9) (N := 23) rfl ui_X9 tyX9_ok nmX9 (by decide) rfl (tb wf_X9_59) rfl rfl dX9_when_2 c1 (fun H locs w => ?_)
  refine lv_aload_n hx hb dX9_when_5 rfl (lv_at hl 0 rfl) ?_
  refine lv_iload_n hx hb dX9_when_6 rfl (lv_at hl 1 rfl) ?_
  obtain ⟨q2, e3, hk⟩ := ok_b hk
  refine zVi X w (n := 1) (As := [.int i1]) (rest := []) (ci := 9) (C := RX9) (T := TX9) (N := 23) (c_X9_has l D cy G (mwI M r0 0 (0 : Int32)) r0 i1 e3) (gzV wm_X9_89 wi_X9_has ws_X9_has wn_X9 wc_X9_has) rfl rfl rfl (by decide +kernel) (by decide) rfl c1 rfl rfl hl.1 (Nat.le_of_ble_eq_true rfl) dX9_when_7 ⟨Nat.zero_le _, Nat.zero_le _⟩ (fun H locs w => ?_)
  refine lv_if_eq (tgt := 34) hx hb dX9_when_10 (by decide) (fun c4 => ?_) (fun c4 => ?_)
  · have hk := ok_p c4 hk
    refine lv_iconst (v := (-1)) hx hb dX9_when_34 (by decide) ?_
    have hk := hR _ (ok_s hk)
    exact zri X hr hlk w dX9_when_35 (pr1 hk) (pr2 hk)
  · have hk := ok_n c4 hk
    refine lv_iload_n hx hb dX9_when_13 rfl (lv_at hl 2 rfl) ?_
    refine lv_if_lt (tgt := 34) hx hb dX9_when_14 (by decide) (fun c5 => ?_) (fun c5 => ?_)
    · have hk := ok_p c5 hk
      refine lv_iconst (v := (-1)) hx hb dX9_when_34 (by decide) ?_
      have hk := hR _ (ok_s hk)
      exact zri X hr hlk w dX9_when_35 (pr1 hk) (pr2 hk)
    · have hk := ok_n c5 hk
      refine lv_iload_n hx hb dX9_when_17 rfl (lv_at hl 2 rfl) ?_
      refine lv_iload_n hx hb dX9_when_18 rfl (lv_at hl 3 rfl) ?_
      refine lv_icmp_gt (tgt := 34) hx hb dX9_when_19 (by decide) (fun c6 => ?_) (fun c6 => ?_)
      · have hk := ok_p c6 hk
        refine lv_iconst (v := (-1)) hx hb dX9_when_34 (by decide) ?_
        have hk := hR _ (ok_s hk)
        exact zri X hr hlk w dX9_when_35 (pr1 hk) (pr2 hk)
      · have hk := ok_n c6 hk
        refine lv_iload_n hx hb dX9_when_22 rfl (lv_at hl 3 rfl) ?_
        refine lv_iconst (v := 1) hx hb dX9_when_23 (by decide) ?_
        refine lv_icmp_lt (tgt := 34) hx hb dX9_when_24 (by decide) (fun c7 => ?_) (fun c7 => ?_)
        · have hk := ok_p c7 hk
          refine lv_iconst (v := (-1)) hx hb dX9_when_34 (by decide) ?_
          have hk := hR _ (ok_s hk)
          exact zri X hr hlk w dX9_when_35 (pr1 hk) (pr2 hk)
        · have hk := ok_n c7 hk
          refine lv_iload_n hx hb dX9_when_27 rfl (lv_at hl 3 rfl) ?_
          refine lv_sipush (v := 1000) hx hb dX9_when_28 (by decide) ?_
          refine lv_icmp_le (tgt := 36) hx hb dX9_when_31 (by decide) (fun c8 => ?_) (fun c8 => ?_)
          · have hk := ok_p c8 hk
            refine lv_aload_n hx hb dX9_when_36 rfl (lv_at hl 0 rfl) ?_
            obtain ⟨q9, e10, hk⟩ := ok_b hk
            refine zVv X w (n := 0) (As := []) (rest := []) (ci := 9) (C := RX9) (T := TX9) (N := 23) (c_X9_begin l D cy G (mwI M r0 0 (0 : Int32)) r0 e10) (gzV wm_X9_178 wi_X9_begin ws_X9_begin wn_X9 wc_X9_begin) rfl rfl rfl (by decide +kernel) (by decide) rfl c1 rfl rfl hl.1 (Nat.le_of_ble_eq_true rfl) dX9_when_37 ⟨Nat.zero_le _, Nat.zero_le _⟩ (fun H locs w => ?_)
            refine lv_aload_n hx hb dX9_when_40 rfl (lv_at hl 0 rfl) ?_
            refine lv_iload_n hx hb dX9_when_41 rfl (lv_at hl 1 rfl) ?_
            obtain ⟨q11, e12, hk⟩ := ok_b hk
            refine zVi X w (n := 1) (As := [.int i1]) (rest := []) (ci := 9) (C := RX9) (T := TX9) (N := 23) (c_X9_times l D cy G q9 r0 i1 e12) (gzV wm_X9_162 wi_X9_times ws_X9_times wn_X9 wc_X9_times) rfl rfl rfl (by decide +kernel) (by decide) rfl c1 rfl rfl hl.1 (Nat.le_of_ble_eq_true rfl) dX9_when_42 ⟨Nat.zero_le _, Nat.zero_le _⟩ (fun H locs w => ?_)
            refine lv_istore (lv' := [(4, .int q11), (0, .ref r0), (1, .int i1), (2, .int i2), (3, .int i3)]) hx hb dX9_when_45 hl (by decide) rfl (fun ls hl => ?_)
            refine lv_iconst (v := 0) hx hb dX9_when_47 (by decide) ?_
            refine lv_istore (lv' := [(5, .int (0 : Int32)), (4, .int q11), (0, .ref r0), (1, .int i1), (2, .int i2), (3, .int i3)]) hx hb dX9_when_48 hl (by decide) rfl (fun ls hl => ?_)
            refine wl_X9_when_50 X r0 i1 i2 i3 q11 (Qo := _) hr hlk (fun x h => hR x (ok_s (show OK (some x) Qo from h))) (fun y22 hk H locs ls w hl => ?_) FU (0 : Int32) q9 _ _ _ w (lv_sub hl [2, 3, 4, 5, 1, 0] rfl) (ok_b hk)
            have hk := ok_r hk
            refine lv_iconst (v := (-1)) hx hb dX9_when_101 (by decide) ?_
            have hk := hR _ (ok_s hk)
            exact zri X hr hlk w dX9_when_102 (pr1 hk) (pr2 hk)
          · have hk := ok_n c8 hk
            refine lv_iconst (v := (-1)) hx hb dX9_when_34 (by decide) ?_
            have hk := hR _ (ok_s hk)
            exact zri X hr hlk w dX9_when_35 (pr1 hk) (pr2 hk)
abbrev rm_X9_stay : Room := { frames := 4, cells := 0, slots := 0, locals := 121 }
set_option maxHeartbeats 4000000 in
set_option maxRecDepth 100000 in
theorem c_X9_stay (l : Launch) (D : va_G) (cy : Cyy) (G : Gg) (M : Mm) (r0 : Nat) (i1 : Int32) (i2 : Int32) (i3 : Int32) {q : Int64 × Mm} (hm : f_X9_stay G M r0 i1 i2 i3 = some q) : CL l yX9_stay wz_X9_stay rm_X9_stay D cy G M [.ref r0, .int i1, .int i2, .int i3] q.1 q.2 := by
  refine Met_of (Qf := fun A => QL D cy G A q.1 q.2) (cc := cX9_stay) (nL := 5) (ret := (some .long)) (own := RX9) (lv := [(0, .ref r0), (1, .int i1), (2, .int i2), (3, .int i3)]) (by decide) rfl rfl (Nat.le_of_ble_eq_true rfl) rfl ?_
  intro p e s m args below meth c A ls X hr hlk w hl
  have hx := X.1.1
  have hb := X.1.2.1
  obtain ⟨Qo, hR, hk⟩ : ∃ Qo : Int64 × Mm → Prop, (∀ x, Qo x → x = q) ∧ OK (f_X9_stay G M r0 i1 i2 i3) Qo := ⟨fun x => x = q, fun _ h => h, q, hm, rfl⟩
  unfold f_X9_stay at hk
  refine lv_aload_n hx hb dX9_stay_0 rfl (lv_at hl 0 rfl) ?_
  refine lv_iload_n hx hb dX9_stay_1 rfl (lv_at hl 1 rfl) ?_
  refine lv_iload_n hx hb dX9_stay_2 rfl (lv_at hl 2 rfl) ?_
  obtain ⟨c3, hk⟩ := ok_c hk
  obtain ⟨q1, e2, hk⟩ := ok_b hk
  refine zVi X w (n := 2) (As := [.int i1, .int i2]) (rest := []) (ci := 9) (C := RX9) (T := TX9) (N := 23) (c_X9_isState l D cy G M r0 i1 i2 e2) (gzV wm_X9_171 wi_X9_isState ws_X9_isState wn_X9 wc_X9_isState) rfl rfl rfl (by decide +kernel) (by decide) rfl c3 rfl rfl hl.1 (Nat.le_of_ble_eq_true rfl) dX9_stay_3 ⟨Nat.zero_le _, Nat.zero_le _⟩ (fun H locs w => ?_)
  refine lv_if_eq (tgt := 16) hx hb dX9_stay_6 (by decide) (fun c4 => ?_) (fun c4 => ?_)
  · have hk := ok_p c4 hk
    refine lv_aload_n hx hb dX9_stay_16 rfl (lv_at hl 0 rfl) ?_
    obtain ⟨q5, e6, hk⟩ := ok_b hk
    refine zVi X w (n := 0) (As := []) (rest := []) (ci := 9) (C := RX9) (T := TX9) (N := 23) (c_X9_refuse l D cy G M r0 e6) (gzV wm_X9_156 wi_X9_refuse ws_X9_refuse wn_X9 wc_X9_refuse) rfl rfl rfl (by decide +kernel) (by decide) rfl c3 rfl rfl hl.1 (Nat.le_of_ble_eq_true rfl) dX9_stay_17 ⟨Nat.zero_le _, Nat.zero_le _⟩ (fun H locs w => ?_)
    refine lv_i2l hx hb dX9_stay_20 rfl ?_
    have hk := hR _ (ok_s hk)
    exact zrl X hr hlk w dX9_stay_21 (pr1 hk) (pr2 hk)
  · have hk := ok_n c4 hk
    refine lv_iload_n hx hb dX9_stay_9 rfl (lv_at hl 3 rfl) ?_
    obtain ⟨q7, e8, hk⟩ := ok_b hk
    refine zSi X w (n := 1) (As := [.int i3]) (rest := []) (c_X9_isWhat l D cy G M i3 e8) (gzS wm_X9_184 wt_X9_isWhat wn_X9 wc_X9_isWhat) rfl rfl rfl (by decide +kernel) (by decide) rfl rfl hl.1 (Nat.le_of_ble_eq_true rfl) dX9_stay_10 ⟨Nat.zero_le _, Nat.zero_le _⟩ (fun H locs w => ?_)
    refine lv_if_ne (tgt := 22) hx hb dX9_stay_13 (by decide) (fun c9 => ?_) (fun c9 => ?_)
    · have hk := ok_n c9 hk
      refine lv_aload_n hx hb dX9_stay_22 rfl (lv_at hl 0 rfl) ?_
      refine lv_iload_n hx hb dX9_stay_23 rfl (lv_at hl 1 rfl) ?_
      obtain ⟨q10, e11, hk⟩ := ok_b hk
      refine zVv X w (n := 1) (As := [.int i1]) (rest := []) (ci := 9) (C := RX9) (T := TX9) (N := 23) (c_X9_reach l D cy G M r0 i1 e11) (gzV wm_X9_137 wi_X9_reach ws_X9_reach wn_X9 wc_X9_reach) rfl rfl rfl (by decide +kernel) (by decide) rfl c3 rfl rfl hl.1 (Nat.le_of_ble_eq_true rfl) dX9_stay_24 ⟨Nat.zero_le _, Nat.zero_le _⟩ (fun H locs w => ?_)
      refine lv_aload_n hx hb dX9_stay_27 rfl (lv_at hl 0 rfl) ?_
      refine lv_aload_n hx hb dX9_stay_28 rfl (lv_at hl 0 rfl) ?_
      obtain ⟨r12, e13, hk⟩ := ok_b hk
      refine zgr X w 9 3 13 (C := RX9) (T := TX9) (N := 23) rfl ui_X9 (by decide) rfl (tb wf_X9_13) dX9_stay_29 c3 e13 ?_
      refine lv_iload_n hx hb dX9_stay_32 rfl (lv_at hl 1 rfl) ?_
      obtain ⟨c14, hk⟩ := ok_c hk
      obtain ⟨c15, hk⟩ := ok_c hk
      refine zai X w dX9_stay_33 c14 c15 ?_
      obtain ⟨q16, e17, hk⟩ := ok_b hk
      refine zVi X w (n := 1) (As := [.int (q10.1 r12 (Int32.toNatClampNeg i1))]) (rest := []) (ci := 9) (C := RX9) (T := TX9) (N := 23) (c_X9_closedOne l D cy G q10 r0 (q10.1 r12 (Int32.toNatClampNeg i1)) e17) (gzV wm_X9_202 wi_X9_closedOne ws_X9_closedOne wn_X9 wc_X9_closedOne) rfl rfl rfl (by decide +kernel) (by decide) rfl c3 rfl rfl hl.1 (Nat.le_of_ble_eq_true rfl) dX9_stay_34 ⟨Nat.zero_le _, Nat.zero_le _⟩ (fun H locs w => ?_)
      refine lv_istore (lv' := [(4, .int q16), (0, .ref r0), (1, .int i1), (2, .int i2), (3, .int i3)]) hx hb dX9_stay_37 hl (by decide) rfl (fun ls hl => ?_)
      refine lv_iload hx hb dX9_stay_39 (lv_at hl 0 rfl) ?_
      refine lv_iconst (v := (-1)) hx hb dX9_stay_41 (by decide) ?_
      refine lv_icmp_ne (tgt := 51) hx hb dX9_stay_42 (by decide) (fun c18 => ?_) (fun c18 => ?_)
      · have hk := ok_n c18 hk
        refine lv_aload_n hx hb dX9_stay_51 rfl (lv_at hl 1 rfl) ?_
        refine lv_iload_n hx hb dX9_stay_52 rfl (lv_at hl 2 rfl) ?_
        refine lv_iload hx hb dX9_stay_53 (lv_at hl 0 rfl) ?_
        obtain ⟨q19, e20, hk⟩ := ok_b hk
        refine zVv X w (n := 2) (As := [.int i1, .int q16]) (rest := []) (ci := 9) (C := RX9) (T := TX9) (N := 23) (c_X9_weigh l D cy G q10 r0 i1 q16 e20) (gzV wm_X9_140 wi_X9_weigh ws_X9_weigh wn_X9 wc_X9_weigh) rfl rfl rfl (by decide +kernel) (by decide) rfl c3 rfl rfl hl.1 (Nat.le_of_ble_eq_true rfl) dX9_stay_55 ⟨Nat.zero_le _, Nat.zero_le _⟩ (fun H locs w => ?_)
        refine lv_aload_n hx hb dX9_stay_58 rfl (lv_at hl 1 rfl) ?_
        refine lv_aload_n hx hb dX9_stay_59 rfl (lv_at hl 1 rfl) ?_
        obtain ⟨r21, e22, hk⟩ := ok_b hk
        refine zgr X w 9 12 38 (C := RX9) (T := TX9) (N := 23) rfl ui_X9 (by decide) rfl (tb wf_X9_38) dX9_stay_60 c3 e22 ?_
        refine lv_iload_n hx hb dX9_stay_63 rfl (lv_at hl 3 rfl) ?_
        obtain ⟨c23, hk⟩ := ok_c hk
        obtain ⟨c24, hk⟩ := ok_c hk
        refine zal X w dX9_stay_64 c23 c24 ?_
        refine lv_aload_n hx hb dX9_stay_65 rfl (lv_at hl 1 rfl) ?_
        obtain ⟨q25, e26, hk⟩ := ok_b hk
        refine zVl X w (n := 0) (As := []) (rest := [.long (q19.2.1 r21 (Int32.toNatClampNeg i2)), .ref r0]) (ci := 9) (C := RX9) (T := TX9) (N := 23) (c_X9_allWeights l D cy G q19 r0 e26) (gzV wm_X9_205 wi_X9_allWeights ws_X9_allWeights wn_X9 wc_X9_allWeights) rfl rfl rfl (by decide +kernel) (by decide) rfl c3 rfl rfl hl.1 (Nat.le_of_ble_eq_true rfl) dX9_stay_66 ⟨Nat.zero_le _, Nat.zero_le _⟩ (fun H locs w => ?_)
        refine lv_iload_n hx hb dX9_stay_69 rfl (lv_at hl 4 rfl) ?_
        obtain ⟨q27, e28, hk⟩ := ok_b hk
        refine zVl X w (n := 3) (As := [.long (q19.2.1 r21 (Int32.toNatClampNeg i2)), .long q25, .int i3]) (rest := []) (ci := 9) (C := RX9) (T := TX9) (N := 23) (c_X9_told l D cy G q19 r0 (q19.2.1 r21 (Int32.toNatClampNeg i2)) q25 i3 e28) (gzV wm_X9_190 wi_X9_told ws_X9_told wn_X9 wc_X9_told) rfl rfl rfl (by decide +kernel) (by decide) rfl c3 rfl rfl hl.1 (Nat.le_of_ble_eq_true rfl) dX9_stay_70 ⟨Nat.zero_le _, Nat.zero_le _⟩ (fun H locs w => ?_)
        have hk := hR _ (ok_s hk)
        exact zrl X hr hlk w dX9_stay_73 (pr1 hk) (pr2 hk)
      · have hk := ok_p c18 hk
        refine lv_aload_n hx hb dX9_stay_45 rfl (lv_at hl 1 rfl) ?_
        obtain ⟨q29, e30, hk⟩ := ok_b hk
        refine zVi X w (n := 0) (As := []) (rest := []) (ci := 9) (C := RX9) (T := TX9) (N := 23) (c_X9_refuse l D cy G q10 r0 e30) (gzV wm_X9_156 wi_X9_refuse ws_X9_refuse wn_X9 wc_X9_refuse) rfl rfl rfl (by decide +kernel) (by decide) rfl c3 rfl rfl hl.1 (Nat.le_of_ble_eq_true rfl) dX9_stay_46 ⟨Nat.zero_le _, Nat.zero_le _⟩ (fun H locs w => ?_)
        refine lv_i2l hx hb dX9_stay_49 rfl ?_
        have hk := hR _ (ok_s hk)
        exact zrl X hr hlk w dX9_stay_50 (pr1 hk) (pr2 hk)
    · have hk := ok_p c9 hk
      refine lv_aload_n hx hb dX9_stay_16 rfl (lv_at hl 0 rfl) ?_
      obtain ⟨q31, e32, hk⟩ := ok_b hk
      refine zVi X w (n := 0) (As := []) (rest := []) (ci := 9) (C := RX9) (T := TX9) (N := 23) (c_X9_refuse l D cy G M r0 e32) (gzV wm_X9_156 wi_X9_refuse ws_X9_refuse wn_X9 wc_X9_refuse) rfl rfl rfl (by decide +kernel) (by decide) rfl c3 rfl rfl hl.1 (Nat.le_of_ble_eq_true rfl) dX9_stay_17 ⟨Nat.zero_le _, Nat.zero_le _⟩ (fun H locs w => ?_)
      refine lv_i2l hx hb dX9_stay_20 rfl ?_
      have hk := hR _ (ok_s hk)
      exact zrl X hr hlk w dX9_stay_21 (pr1 hk) (pr2 hk)
abbrev rm_X9_roams : Room := { frames := 1, cells := 0, slots := 0, locals := 23 }
set_option maxHeartbeats 4000000 in
set_option maxRecDepth 100000 in
theorem wb_X9_roams_47 {p : Program} {l : Launch} {e : Env} {s : State} {m : MethodId} {args : Array Value} {below : List Frame} {meth : Method} {c : Code} {D : va_G} {cy : Cyy} {A : Nat → Prop} {G : Gg} (X : Cx p m c cX9_roams 9 s args wz_X9_roams RX9 D cy) {Q : State → Prop} (M : Mm) (r0 : Nat) (i1 : Int32) (i3 : Int32) (i6 : Int32) (i7 : Int32) (Qo : Int32 → Prop)  (hE : ∀ (y : Int32), Qo (y) → ∀ (H : Heap) (locs : List Loc) (ls : Array Slot), Wo s D cy A G M H locs → lv_has ls 9 [(0, .ref r0), (1, .int i1), (3, .int i3), (4, .int y), (6, .int i6), (7, .int i7)] → W p l e rm_X9_roams s m args below meth c H locs 0 0 Q (F0 m 94 ls [])) (rec : Int32 → Int32 → Option (Int32)) (hrec : ∀ (i4 : Int32) (i8 : Int32) (H : Heap) (locs : List Loc) (ls : Array Slot), Wo s D cy A G M H locs → lv_has ls 9 [(0, .ref r0), (1, .int i1), (3, .int i3), (4, .int i4), (6, .int i6), (7, .int i7), (8, .int i8)] → OK (rec i4 i8) Qo → W p l e rm_X9_roams s m args below meth c H locs 0 0 Q (F0 m 47 ls [])) (i4 : Int32) (i8 : Int32) (H : Heap) (locs : List Loc) (ls : Array Slot) (w : Wo s D cy A G M H locs) (hl : lv_has ls 9 [(0, .ref r0), (1, .int i1), (3, .int i3), (4, .int i4), (6, .int i6), (7, .int i7), (8, .int i8)]) (hk : OK (bd_X9_roams_47 G M r0 i1 i3 i6 i7 rec i4 i8) Qo) : W p l e rm_X9_roams s m args below meth c H locs 0 0 Q (F0 m 47 ls []) := by
    have hx := X.1.1
    have hb := X.1.2.1
    unfold bd_X9_roams_47 at hk
    refine lv_iload hx hb dX9_roams_47 (lv_at hl 6 rfl) ?_
    refine lv_aload_n hx hb dX9_roams_49 rfl (lv_at hl 0 rfl) ?_
    obtain ⟨c9, hk⟩ := ok_c hk
    obtain ⟨r10, e11, hk⟩ := ok_b hk
    refine zgr X w 9 3 13 (C := RX9) (T := TX9) (N := 23) rfl ui_X9 (by decide) rfl (tb wf_X9_13) dX9_roams_50 c9 e11 ?_
    refine lv_iload_n hx hb dX9_roams_53 rfl (lv_at hl 1 rfl) ?_
    obtain ⟨c12, hk⟩ := ok_c hk
    obtain ⟨c13, hk⟩ := ok_c hk
    refine zai X w dX9_roams_54 c12 c13 ?_
    refine lv_icmp_ge (tgt := 94) hx hb dX9_roams_55 (by decide) (fun c14 => ?_) (fun c14 => ?_)
    · have hk := ok_p c14 hk
      exact hE i4 (ok_s hk) _ _ _ w (lv_sub hl [0, 1, 2, 3, 4, 5] rfl)
    · have hk := ok_n c14 hk
      refine lv_aload_n hx hb dX9_roams_58 rfl (lv_at hl 0 rfl) ?_
      refine lv_iload_n hx hb dX9_roams_59 rfl (lv_at hl 1 rfl) ?_
      refine lv_iload hx hb dX9_roams_60 (lv_at hl 5 rfl) ?_
      refine lv_iload hx hb dX9_roams_62 (lv_at hl 6 rfl) ?_
      obtain ⟨q15, e16, hk⟩ := ok_b hk
      refine zVi X w (n := 3) (As := [.int i1, .int i7, .int i8]) (rest := []) (ci := 9) (C := RX9) (T := TX9) (N := 23) (c_X9_at l D cy G M r0 i1 i7 i8 e16) (gzV wm_X9_70 wi_X9_at ws_X9_at wn_X9 wc_X9_at) rfl rfl rfl (by decide +kernel) (by decide) rfl c9 rfl rfl hl.1 (Nat.le_of_ble_eq_true rfl) dX9_roams_64 ⟨Nat.zero_le _, Nat.zero_le _⟩ (fun H locs w => ?_)
      refine lv_if_le (tgt := 88) hx hb dX9_roams_67 (by decide) (fun c17 => ?_) (fun c17 => ?_)
      · have hk := ok_p c17 hk
        refine lv_iinc (v := (i8 + 1)) (lv' := [(8, .int (i8 + 1)), (0, .ref r0), (1, .int i1), (3, .int i3), (4, .int i4), (6, .int i6), (7, .int i7)]) hx hb dX9_roams_88 hl (k := 6) rfl rfl (by decide) rfl (fun ls hl => ?_)
        refine lv_goto (tgt := 47) hx hb dX9_roams_91 (by decide) ?_
        exact hrec i4 (i8 + 1) _ _ _ w (lv_sub hl [1, 2, 3, 4, 5, 6, 0] rfl) hk
      · have hk := ok_n c17 hk
        refine lv_iload_n hx hb dX9_roams_70 rfl (lv_at hl 2 rfl) ?_
        refine lv_iload hx hb dX9_roams_71 (lv_at hl 6 rfl) ?_
        refine lv_ishr hx hb dX9_roams_73 ?_
        refine lv_iconst (v := 1) hx hb dX9_roams_74 (by decide) ?_
        refine lv_iand hx hb dX9_roams_75 ?_
        refine lv_if_ne (tgt := 88) hx hb dX9_roams_76 (by decide) (fun c18 => ?_) (fun c18 => ?_)
        · have hk := ok_n c18 hk
          refine lv_iinc (v := (i8 + 1)) (lv' := [(8, .int (i8 + 1)), (0, .ref r0), (1, .int i1), (3, .int i3), (4, .int i4), (6, .int i6), (7, .int i7)]) hx hb dX9_roams_88 hl (k := 6) rfl rfl (by decide) rfl (fun ls hl => ?_)
          refine lv_goto (tgt := 47) hx hb dX9_roams_91 (by decide) ?_
          exact hrec i4 (i8 + 1) _ _ _ w (lv_sub hl [1, 2, 3, 4, 5, 6, 0] rfl) hk
        · have hk := ok_p c18 hk
          refine lv_iload hx hb dX9_roams_79 (lv_at hl 3 rfl) ?_
          refine lv_iconst (v := 1) hx hb dX9_roams_81 (by decide) ?_
          refine lv_iload hx hb dX9_roams_82 (lv_at hl 6 rfl) ?_
          refine lv_ishl hx hb dX9_roams_84 ?_
          refine lv_ior hx hb dX9_roams_85 ?_
          refine lv_istore (lv' := [(4, .int (i4 ||| ((1 : Int32) <<< (i8 &&& 31)))), (0, .ref r0), (1, .int i1), (3, .int i3), (6, .int i6), (7, .int i7), (8, .int i8)]) hx hb dX9_roams_86 hl (by decide) rfl (fun ls hl => ?_)
          refine lv_iinc (v := (i8 + 1)) (lv' := [(8, .int (i8 + 1)), (4, .int (i4 ||| ((1 : Int32) <<< (i8 &&& 31)))), (0, .ref r0), (1, .int i1), (3, .int i3), (6, .int i6), (7, .int i7)]) hx hb dX9_roams_88 hl (k := 6) rfl rfl (by decide) rfl (fun ls hl => ?_)
          refine lv_goto (tgt := 47) hx hb dX9_roams_91 (by decide) ?_
          exact hrec (i4 ||| ((1 : Int32) <<< (i8 &&& 31))) (i8 + 1) _ _ _ w (lv_sub hl [2, 3, 4, 1, 5, 6, 0] rfl) hk
theorem wl_X9_roams_47 {p : Program} {l : Launch} {e : Env} {s : State} {m : MethodId} {args : Array Value} {below : List Frame} {meth : Method} {c : Code} {D : va_G} {cy : Cyy} {A : Nat → Prop} {G : Gg} (X : Cx p m c cX9_roams 9 s args wz_X9_roams RX9 D cy) {Q : State → Prop} (M : Mm) (r0 : Nat) (i1 : Int32) (i3 : Int32) (i6 : Int32) (i7 : Int32) (Qo : Int32 → Prop)  (hE : ∀ (y : Int32), Qo (y) → ∀ (H : Heap) (locs : List Loc) (ls : Array Slot), Wo s D cy A G M H locs → lv_has ls 9 [(0, .ref r0), (1, .int i1), (3, .int i3), (4, .int y), (6, .int i6), (7, .int i7)] → W p l e rm_X9_roams s m args below meth c H locs 0 0 Q (F0 m 94 ls [])) : ∀ (n : Nat) (i4 : Int32) (i8 : Int32) (H : Heap) (locs : List Loc) (ls : Array Slot), Wo s D cy A G M H locs → lv_has ls 9 [(0, .ref r0), (1, .int i1), (3, .int i3), (4, .int i4), (6, .int i6), (7, .int i7), (8, .int i8)] → OK (lp_X9_roams_47 G M r0 i1 i3 i6 i7 n i4 i8) Qo → W p l e rm_X9_roams s m args below meth c H locs 0 0 Q (F0 m 47 ls []) := by
  intro n
  induction n with
  | zero => intro i4 i8 H locs ls w hl hk; exact ok_0 hk
  | succ n ih => intro i4 i8 H locs ls w hl hk; exact wb_X9_roams_47 X M r0 i1 i3 i6 i7 Qo hE  (lp_X9_roams_47 G M r0 i1 i3 i6 i7 n) ih i4 i8 H locs ls w hl hk
set_option maxHeartbeats 4000000 in
set_option maxRecDepth 100000 in
theorem wb_X9_roams_20 {p : Program} {l : Launch} {e : Env} {s : State} {m : MethodId} {args : Array Value} {below : List Frame} {meth : Method} {c : Code} {D : va_G} {cy : Cyy} {A : Nat → Prop} {G : Gg} (X : Cx p m c cX9_roams 9 s args wz_X9_roams RX9 D cy) {Q : State → Prop} (M : Mm) (r0 : Nat) (i1 : Int32) (i3 : Int32) (i6 : Int32) (Qo : Int32 → Prop)  (hE : ∀ (y : Int32), Qo (y) → ∀ (H : Heap) (locs : List Loc) (ls : Array Slot), Wo s D cy A G M H locs → lv_has ls 9 [(0, .ref r0), (1, .int i1), (3, .int i3), (4, .int y), (6, .int i6)] → W p l e rm_X9_roams s m args below meth c H locs 0 0 Q (F0 m 100 ls [])) (rec : Int32 → Int32 → Option (Int32)) (hrec : ∀ (i4 : Int32) (i7 : Int32) (H : Heap) (locs : List Loc) (ls : Array Slot), Wo s D cy A G M H locs → lv_has ls 9 [(0, .ref r0), (1, .int i1), (3, .int i3), (4, .int i4), (6, .int i6), (7, .int i7)] → OK (rec i4 i7) Qo → W p l e rm_X9_roams s m args below meth c H locs 0 0 Q (F0 m 20 ls [])) (i4 : Int32) (i7 : Int32) (H : Heap) (locs : List Loc) (ls : Array Slot) (w : Wo s D cy A G M H locs) (hl : lv_has ls 9 [(0, .ref r0), (1, .int i1), (3, .int i3), (4, .int i4), (6, .int i6), (7, .int i7)]) (hk : OK (bd_X9_roams_20 G M r0 i1 i3 i6 rec i4 i7) Qo) : W p l e rm_X9_roams s m args below meth c H locs 0 0 Q (F0 m 20 ls []) := by
    have hx := X.1.1
    have hb := X.1.2.1
    unfold bd_X9_roams_20 at hk
    refine lv_iload hx hb dX9_roams_20 (lv_at hl 5 rfl) ?_
    refine lv_aload_n hx hb dX9_roams_22 rfl (lv_at hl 0 rfl) ?_
    obtain ⟨c2, hk⟩ := ok_c hk
    obtain ⟨r3, e4, hk⟩ := ok_b hk
    refine zgr X w 9 3 13 (C := RX9) (T := TX9) (N := 23) rfl ui_X9 (by decide) rfl (tb wf_X9_13) dX9_roams_23 c2 e4 ?_
    refine lv_iload_n hx hb dX9_roams_26 rfl (lv_at hl 1 rfl) ?_
    obtain ⟨c5, hk⟩ := ok_c hk
    obtain ⟨c6, hk⟩ := ok_c hk
    refine zai X w dX9_roams_27 c5 c6 ?_
    refine lv_icmp_ge (tgt := 100) hx hb dX9_roams_28 (by decide) (fun c7 => ?_) (fun c7 => ?_)
    · have hk := ok_p c7 hk
      exact hE i4 (ok_s hk) _ _ _ w (lv_sub hl [0, 1, 2, 3, 4] rfl)
    · have hk := ok_n c7 hk
      refine lv_iload hx hb dX9_roams_31 (lv_at hl 3 rfl) ?_
      refine lv_iload hx hb dX9_roams_33 (lv_at hl 5 rfl) ?_
      refine lv_ishr hx hb dX9_roams_35 ?_
      refine lv_iconst (v := 1) hx hb dX9_roams_36 (by decide) ?_
      refine lv_iand hx hb dX9_roams_37 ?_
      refine lv_if_ne (tgt := 44) hx hb dX9_roams_38 (by decide) (fun c8 => ?_) (fun c8 => ?_)
      · have hk := ok_n c8 hk
        refine lv_iconst (v := 0) hx hb dX9_roams_44 (by decide) ?_
        refine lv_istore (lv' := [(8, .int (0 : Int32)), (0, .ref r0), (1, .int i1), (3, .int i3), (4, .int i4), (6, .int i6), (7, .int i7)]) hx hb dX9_roams_45 hl (by decide) rfl (fun ls hl => ?_)
        refine wl_X9_roams_47 X M r0 i1 i3 i6 i7 (Qo := _) (fun q19 hk H locs ls w hl => ?_) FU i4 (0 : Int32) _ _ _ w (lv_sub hl [1, 2, 3, 4, 5, 6, 0] rfl) (ok_b hk)
        refine lv_iinc (v := (i7 + 1)) (lv' := [(7, .int (i7 + 1)), (0, .ref r0), (1, .int i1), (3, .int i3), (4, .int q19), (6, .int i6)]) hx hb dX9_roams_94 hl (k := 5) rfl rfl (by decide) rfl (fun ls hl => ?_)
        refine lv_goto (tgt := 20) hx hb dX9_roams_97 (by decide) ?_
        exact hrec q19 (i7 + 1) _ _ _ w (lv_sub hl [1, 2, 3, 4, 5, 0] rfl) hk
      · have hk := ok_p c8 hk
        refine lv_goto (tgt := 94) hx hb dX9_roams_41 (by decide) ?_
        refine lv_iinc (v := (i7 + 1)) (lv' := [(7, .int (i7 + 1)), (0, .ref r0), (1, .int i1), (3, .int i3), (4, .int i4), (6, .int i6)]) hx hb dX9_roams_94 hl (k := 5) rfl rfl (by decide) rfl (fun ls hl => ?_)
        refine lv_goto (tgt := 20) hx hb dX9_roams_97 (by decide) ?_
        exact hrec i4 (i7 + 1) _ _ _ w (lv_sub hl [1, 2, 3, 4, 5, 0] rfl) hk
theorem wl_X9_roams_20 {p : Program} {l : Launch} {e : Env} {s : State} {m : MethodId} {args : Array Value} {below : List Frame} {meth : Method} {c : Code} {D : va_G} {cy : Cyy} {A : Nat → Prop} {G : Gg} (X : Cx p m c cX9_roams 9 s args wz_X9_roams RX9 D cy) {Q : State → Prop} (M : Mm) (r0 : Nat) (i1 : Int32) (i3 : Int32) (i6 : Int32) (Qo : Int32 → Prop)  (hE : ∀ (y : Int32), Qo (y) → ∀ (H : Heap) (locs : List Loc) (ls : Array Slot), Wo s D cy A G M H locs → lv_has ls 9 [(0, .ref r0), (1, .int i1), (3, .int i3), (4, .int y), (6, .int i6)] → W p l e rm_X9_roams s m args below meth c H locs 0 0 Q (F0 m 100 ls [])) : ∀ (n : Nat) (i4 : Int32) (i7 : Int32) (H : Heap) (locs : List Loc) (ls : Array Slot), Wo s D cy A G M H locs → lv_has ls 9 [(0, .ref r0), (1, .int i1), (3, .int i3), (4, .int i4), (6, .int i6), (7, .int i7)] → OK (lp_X9_roams_20 G M r0 i1 i3 i6 n i4 i7) Qo → W p l e rm_X9_roams s m args below meth c H locs 0 0 Q (F0 m 20 ls []) := by
  intro n
  induction n with
  | zero => intro i4 i7 H locs ls w hl hk; exact ok_0 hk
  | succ n ih => intro i4 i7 H locs ls w hl hk; exact wb_X9_roams_20 X M r0 i1 i3 i6 Qo hE  (lp_X9_roams_20 G M r0 i1 i3 i6 n) ih i4 i7 H locs ls w hl hk
set_option maxHeartbeats 4000000 in
set_option maxRecDepth 100000 in
theorem wb_X9_roams_8 {p : Program} {l : Launch} {e : Env} {s : State} {m : MethodId} {args : Array Value} {below : List Frame} {meth : Method} {c : Code} {D : va_G} {cy : Cyy} {A : Nat → Prop} {G : Gg} (X : Cx p m c cX9_roams 9 s args wz_X9_roams RX9 D cy) {Q : State → Prop} (M : Mm) (r0 : Nat) (i1 : Int32) (i3 : Int32) (Qo : Int32 → Prop)  (hE : ∀ (y : Int32), Qo (y) → ∀ (H : Heap) (locs : List Loc) (ls : Array Slot), Wo s D cy A G M H locs → lv_has ls 9 [(4, .int y)] → W p l e rm_X9_roams s m args below meth c H locs 0 0 Q (F0 m 117 ls [])) (rec : Int32 → Int32 → Option (Int32)) (hrec : ∀ (i4 : Int32) (i5 : Int32) (H : Heap) (locs : List Loc) (ls : Array Slot), Wo s D cy A G M H locs → lv_has ls 9 [(0, .ref r0), (1, .int i1), (3, .int i3), (4, .int i4), (5, .int i5)] → OK (rec i4 i5) Qo → W p l e rm_X9_roams s m args below meth c H locs 0 0 Q (F0 m 8 ls [])) (i4 : Int32) (i5 : Int32) (H : Heap) (locs : List Loc) (ls : Array Slot) (w : Wo s D cy A G M H locs) (hl : lv_has ls 9 [(0, .ref r0), (1, .int i1), (3, .int i3), (4, .int i4), (5, .int i5)]) (hk : OK (bd_X9_roams_8 G M r0 i1 i3 rec i4 i5) Qo) : W p l e rm_X9_roams s m args below meth c H locs 0 0 Q (F0 m 8 ls []) := by
    have hx := X.1.1
    have hb := X.1.2.1
    unfold bd_X9_roams_8 at hk
    refine lv_iload hx hb dX9_roams_8 (lv_at hl 4 rfl) ?_
    refine lv_if_eq (tgt := 117) hx hb dX9_roams_10 (by decide) (fun c1 => ?_) (fun c1 => ?_)
    · have hk := ok_p c1 hk
      exact hE i4 (ok_s hk) _ _ _ w (lv_sub hl [3] rfl)
    · have hk := ok_n c1 hk
      refine lv_iload hx hb dX9_roams_13 (lv_at hl 3 rfl) ?_
      refine lv_istore (lv' := [(6, .int i4), (0, .ref r0), (1, .int i1), (3, .int i3), (4, .int i4), (5, .int i5)]) hx hb dX9_roams_15 hl (by decide) rfl (fun ls hl => ?_)
      refine lv_iconst (v := 0) hx hb dX9_roams_17 (by decide) ?_
      refine lv_istore (lv' := [(7, .int (0 : Int32)), (6, .int i4), (0, .ref r0), (1, .int i1), (3, .int i3), (4, .int i4), (5, .int i5)]) hx hb dX9_roams_18 hl (by decide) rfl (fun ls hl => ?_)
      refine wl_X9_roams_20 X M r0 i1 i3 i4 (Qo := _) (fun q20 hk H locs ls w hl => ?_) FU i4 (0 : Int32) _ _ _ w (lv_sub hl [2, 3, 4, 5, 1, 0] rfl) (ok_b hk)
      refine lv_iload hx hb dX9_roams_100 (lv_at hl 3 rfl) ?_
      refine lv_iload hx hb dX9_roams_102 (lv_at hl 4 rfl) ?_
      refine lv_icmp_eq (tgt := 111) hx hb dX9_roams_104 (by decide) (fun c21 => ?_) (fun c21 => ?_)
      · have hk := ok_p c21 hk
        refine lv_iconst (v := 0) hx hb dX9_roams_111 (by decide) ?_
        refine lv_istore (lv' := [(5, .int (0 : Int32)), (0, .ref r0), (1, .int i1), (3, .int i3), (4, .int q20), (6, .int i4)]) hx hb dX9_roams_112 hl (by decide) rfl (fun ls hl => ?_)
        refine lv_goto (tgt := 8) hx hb dX9_roams_114 (by decide) ?_
        exact hrec q20 (0 : Int32) _ _ _ w (lv_sub hl [1, 2, 3, 4, 0] rfl) hk
      · have hk := ok_n c21 hk
        refine lv_iconst (v := 1) hx hb dX9_roams_107 (by decide) ?_
        refine lv_goto (tgt := 112) hx hb dX9_roams_108 (by decide) ?_
        refine lv_istore (lv' := [(5, .int (1 : Int32)), (0, .ref r0), (1, .int i1), (3, .int i3), (4, .int q20), (6, .int i4)]) hx hb dX9_roams_112 hl (by decide) rfl (fun ls hl => ?_)
        refine lv_goto (tgt := 8) hx hb dX9_roams_114 (by decide) ?_
        exact hrec q20 (1 : Int32) _ _ _ w (lv_sub hl [1, 2, 3, 4, 0] rfl) hk
theorem wl_X9_roams_8 {p : Program} {l : Launch} {e : Env} {s : State} {m : MethodId} {args : Array Value} {below : List Frame} {meth : Method} {c : Code} {D : va_G} {cy : Cyy} {A : Nat → Prop} {G : Gg} (X : Cx p m c cX9_roams 9 s args wz_X9_roams RX9 D cy) {Q : State → Prop} (M : Mm) (r0 : Nat) (i1 : Int32) (i3 : Int32) (Qo : Int32 → Prop)  (hE : ∀ (y : Int32), Qo (y) → ∀ (H : Heap) (locs : List Loc) (ls : Array Slot), Wo s D cy A G M H locs → lv_has ls 9 [(4, .int y)] → W p l e rm_X9_roams s m args below meth c H locs 0 0 Q (F0 m 117 ls [])) : ∀ (n : Nat) (i4 : Int32) (i5 : Int32) (H : Heap) (locs : List Loc) (ls : Array Slot), Wo s D cy A G M H locs → lv_has ls 9 [(0, .ref r0), (1, .int i1), (3, .int i3), (4, .int i4), (5, .int i5)] → OK (lp_X9_roams_8 G M r0 i1 i3 n i4 i5) Qo → W p l e rm_X9_roams s m args below meth c H locs 0 0 Q (F0 m 8 ls []) := by
  intro n
  induction n with
  | zero => intro i4 i5 H locs ls w hl hk; exact ok_0 hk
  | succ n ih => intro i4 i5 H locs ls w hl hk; exact wb_X9_roams_8 X M r0 i1 i3 Qo hE  (lp_X9_roams_8 G M r0 i1 i3 n) ih i4 i5 H locs ls w hl hk
set_option maxHeartbeats 4000000 in
set_option maxRecDepth 100000 in
theorem c_X9_roams (l : Launch) (D : va_G) (cy : Cyy) (G : Gg) (M : Mm) (r0 : Nat) (i1 : Int32) (i2 : Int32) (i3 : Int32) {q : Int32} (hm : f_X9_roams G M r0 i1 i2 i3 = some q) : CI l yX9_roams wz_X9_roams rm_X9_roams D cy G M [.ref r0, .int i1, .int i2, .int i3] q M := by
  refine Met_of (Qf := fun A => QI D cy G A q M) (cc := cX9_roams) (nL := 9) (ret := (some .int)) (own := RX9) (lv := [(0, .ref r0), (1, .int i1), (2, .int i2), (3, .int i3)]) (by decide) rfl rfl (Nat.le_of_ble_eq_true rfl) rfl ?_
  intro p e s m args below meth c A ls X hr hlk w hl
  have hx := X.1.1
  have hb := X.1.2.1
  obtain ⟨Qo, hR, hk⟩ : ∃ Qo : Int32 → Prop, (∀ x, Qo x → x = q) ∧ OK (f_X9_roams G M r0 i1 i2 i3) Qo := ⟨fun x => x = q, fun _ h => h, q, hm, rfl⟩
  unfold f_X9_roams at hk
  refine lv_iconst (v := 1) hx hb dX9_roams_0 (by decide) ?_
  refine lv_iload_n hx hb dX9_roams_1 rfl (lv_at hl 2 rfl) ?_
  refine lv_ishl hx hb dX9_roams_2 ?_
  refine lv_istore (lv' := [(4, .int ((1 : Int32) <<< (i2 &&& 31))), (0, .ref r0), (1, .int i1), (2, .int i2), (3, .int i3)]) hx hb dX9_roams_3 hl (by decide) rfl (fun ls hl => ?_)
  refine lv_iconst (v := 1) hx hb dX9_roams_5 (by decide) ?_
  refine lv_istore (lv' := [(5, .int (1 : Int32)), (4, .int ((1 : Int32) <<< (i2 &&& 31))), (0, .ref r0), (1, .int i1), (2, .int i2), (3, .int i3)]) hx hb dX9_roams_6 hl (by decide) rfl (fun ls hl => ?_)
  refine wl_X9_roams_8 X M r0 i1 i3 (Qo := _) (fun q22 hk H locs ls w hl => ?_) FU ((1 : Int32) <<< (i2 &&& 31)) (1 : Int32) _ _ _ w (lv_sub hl [2, 3, 5, 1, 0] rfl) (ok_b hk)
  refine lv_iload hx hb dX9_roams_117 (lv_at hl 0 rfl) ?_
  have hk := hR _ (ok_s hk)
  exact zri X hr hlk w dX9_roams_119 hk rfl
abbrev rm_X9_isSet : Room := { frames := 0, cells := 0, slots := 0, locals := 0 }
set_option maxHeartbeats 4000000 in
set_option maxRecDepth 100000 in
theorem c_X9_isSet (l : Launch) (D : va_G) (cy : Cyy) (G : Gg) (M : Mm) (r0 : Nat) (i1 : Int32) (i2 : Int32) {q : Int32} (hm : f_X9_isSet G M r0 i1 i2 = some q) : CI l yX9_isSet wz_X9_isSet rm_X9_isSet D cy G M [.ref r0, .int i1, .int i2] q M := by
  refine Met_of (Qf := fun A => QI D cy G A q M) (cc := cX9_isSet) (nL := 3) (ret := (some .boolean)) (own := RX9) (lv := [(0, .ref r0), (1, .int i1), (2, .int i2)]) (by decide) rfl rfl (Nat.le_of_ble_eq_true rfl) rfl ?_
  intro p e s m args below meth c A ls X hr hlk w hl
  have hx := X.1.1
  have hb := X.1.2.1
  obtain ⟨Qo, hR, hk⟩ : ∃ Qo : Int32 → Prop, (∀ x, Qo x → x = q) ∧ OK (f_X9_isSet G M r0 i1 i2) Qo := ⟨fun x => x = q, fun _ h => h, q, hm, rfl⟩
  unfold f_X9_isSet at hk
  refine lv_iload_n hx hb dX9_isSet_0 rfl (lv_at hl 2 rfl) ?_
  refine lv_if_le (tgt := 20) hx hb dX9_isSet_1 (by decide) (fun c1 => ?_) (fun c1 => ?_)
  · have hk := ok_p c1 hk
    refine lv_iconst (v := 0) hx hb dX9_isSet_20 (by decide) ?_
    have hk := hR _ (ok_s hk)
    exact zrz X hr hlk w dX9_isSet_21 (by decide) hk rfl
  · have hk := ok_n c1 hk
    refine lv_iload_n hx hb dX9_isSet_4 rfl (lv_at hl 2 rfl) ?_
    refine lv_iconst (v := 1) hx hb dX9_isSet_5 (by decide) ?_
    refine lv_aload_n hx hb dX9_isSet_6 rfl (lv_at hl 0 rfl) ?_
    obtain ⟨c2, hk⟩ := ok_c hk
    obtain ⟨r3, e4, hk⟩ := ok_b hk
    refine zgr X w 9 3 13 (C := RX9) (T := TX9) (N := 23) rfl ui_X9 (by decide) rfl (tb wf_X9_13) dX9_isSet_7 c2 e4 ?_
    refine lv_iload_n hx hb dX9_isSet_10 rfl (lv_at hl 1 rfl) ?_
    obtain ⟨c5, hk⟩ := ok_c hk
    obtain ⟨c6, hk⟩ := ok_c hk
    refine zai X w dX9_isSet_11 c5 c6 ?_
    refine lv_ishl hx hb dX9_isSet_12 ?_
    refine lv_icmp_ge (tgt := 20) hx hb dX9_isSet_13 (by decide) (fun c7 => ?_) (fun c7 => ?_)
    · have hk := ok_p c7 hk
      refine lv_iconst (v := 0) hx hb dX9_isSet_20 (by decide) ?_
      have hk := hR _ (ok_s hk)
      exact zrz X hr hlk w dX9_isSet_21 (by decide) hk rfl
    · have hk := ok_n c7 hk
      refine lv_iconst (v := 1) hx hb dX9_isSet_16 (by decide) ?_
      refine lv_goto (tgt := 21) hx hb dX9_isSet_17 (by decide) ?_
      have hk := hR _ (ok_s hk)
      exact zrz X hr hlk w dX9_isSet_21 (by decide) hk rfl
