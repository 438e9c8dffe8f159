abbrev rm_X0_begin : Room := { frames := 0, cells := 0, slots := 0, locals := 0 }
set_option maxHeartbeats 4000000 in
set_option maxRecDepth 100000 in
theorem wb_X0_begin_27 {p : Program} {l : Launch} {e : Env} {s : State} {m : MethodId} {args : Array Value} {below : List Frame} {meth : Method} {c : Code} {D : va_G} {cy : Cyy} {A : Nat → Prop} {G : Gg} (X : Cx p m c cX0_begin 4 s args wz_X0_begin RX0 D cy) {Q : State → Prop} (r0 : Nat) (Qo : Mm → Prop)  (hE : ∀ (y : Mm), Qo (y) → ∀ (H : Heap) (locs : List Loc) (ls : Array Slot), Wo s D cy A G y H locs → lv_has ls 4 [] → W p l e rm_X0_begin s m args below meth c H locs 0 0 Q (F0 m 46 ls [])) (rec : Int32 → Mm → Option (Mm)) (hrec : ∀ (i3 : Int32) (M : Mm) (H : Heap) (locs : List Loc) (ls : Array Slot), Wo s D cy A G M H locs → lv_has ls 4 [(0, .ref r0), (3, .int i3)] → OK (rec i3 M) Qo → W p l e rm_X0_begin s m args below meth c H locs 0 0 Q (F0 m 27 ls [])) (i3 : Int32) (M : Mm) (H : Heap) (locs : List Loc) (ls : Array Slot) (w : Wo s D cy A G M H locs) (hl : lv_has ls 4 [(0, .ref r0), (3, .int i3)]) (hk : OK (bd_X0_begin_27 G r0 rec i3 M) Qo) : W p l e rm_X0_begin s m args below meth c H locs 0 0 Q (F0 m 27 ls []) := by
    have hx := X.1.1
    have hb := X.1.2.1
    unfold bd_X0_begin_27 at hk
    refine lv_iload_n hx hb dX0_begin_27 rfl (lv_at hl 1 rfl) ?_
    refine lv_bipush (v := 64) hx hb dX0_begin_28 (by decide) ?_
    refine lv_icmp_ge (tgt := 46) hx hb dX0_begin_30 (by decide) (fun c3 => ?_) (fun c3 => ?_)
    · have hk := ok_p c3 hk
      exact hE M (ok_s hk) _ _ _ w (lv_sub hl [] rfl)
    · have hk := ok_n c3 hk
      refine lv_aload_n hx hb dX0_begin_33 rfl (lv_at hl 0 rfl) ?_
      obtain ⟨c4, hk⟩ := ok_c hk
      obtain ⟨r5, e6, hk⟩ := ok_b hk
      refine zgr X w 0 2 18 (C := RX0) (T := TX0) (N := 7) rfl ui_X0 (by decide) rfl (tb wf_X0_18) dX0_begin_34 c4 e6 ?_
      refine lv_iload_n hx hb dX0_begin_37 rfl (lv_at hl 1 rfl) ?_
      refine lv_iconst (v := 0) hx hb dX0_begin_38 (by decide) ?_
      obtain ⟨c7, hk⟩ := ok_c hk
      obtain ⟨c8, hk⟩ := ok_c hk
      refine zsi X w dX0_begin_39 c7 c8 (fun H locs w => ?_)
      refine lv_iinc (v := (i3 + 1)) (lv' := [(3, .int (i3 + 1)), (0, .ref r0)]) hx hb dX0_begin_40 hl (k := 1) rfl rfl (by decide) rfl (fun ls hl => ?_)
      refine lv_goto (tgt := 27) hx hb dX0_begin_43 (by decide) ?_
      exact hrec (i3 + 1) (mwI M r5 (Int32.toNatClampNeg i3) (0 : Int32)) _ _ _ w (lv_sub hl [1, 0] rfl) hk
theorem wl_X0_begin_27 {p : Program} {l : Launch} {e : Env} {s : State} {m : MethodId} {args : Array Value} {below : List Frame} {meth : Method} {c : Code} {D : va_G} {cy : Cyy} {A : Nat → Prop} {G : Gg} (X : Cx p m c cX0_begin 4 s args wz_X0_begin RX0 D cy) {Q : State → Prop} (r0 : Nat) (Qo : Mm → Prop)  (hE : ∀ (y : Mm), Qo (y) → ∀ (H : Heap) (locs : List Loc) (ls : Array Slot), Wo s D cy A G y H locs → lv_has ls 4 [] → W p l e rm_X0_begin s m args below meth c H locs 0 0 Q (F0 m 46 ls [])) : ∀ (n : Nat) (i3 : Int32) (M : Mm) (H : Heap) (locs : List Loc) (ls : Array Slot), Wo s D cy A G M H locs → lv_has ls 4 [(0, .ref r0), (3, .int i3)] → OK (lp_X0_begin_27 G r0 n i3 M) Qo → W p l e rm_X0_begin s m args below meth c H locs 0 0 Q (F0 m 27 ls []) := by
  intro n
  induction n with
  | zero => intro i3 M H locs ls w hl hk; exact ok_0 hk
  | succ n ih => intro i3 M H locs ls w hl hk; exact wb_X0_begin_27 X r0 Qo hE  (lp_X0_begin_27 G r0 n) ih i3 M H locs ls w hl hk
set_option maxHeartbeats 4000000 in
set_option maxRecDepth 100000 in
theorem c_X0_begin (l : Launch) (D : va_G) (cy : Cyy) (G : Gg) (M : Mm) (r0 : Nat) (i1 : Int32) (i2 : Int32) {q : Mm} (hm : f_X0_begin G M r0 i1 i2 = some q) : CV l yX0_begin wz_X0_begin rm_X0_begin D cy G M [.ref r0, .int i1, .int i2] q := by
  refine Met_of (Qf := fun A => QV D cy G A q) (cc := cX0_begin) (nL := 4) (ret := none) (own := RX0) (lv := [(0, .ref r0), (1, .int i1), (2, .int i2)]) (by decide) rfl rfl (Nat.le_of_ble_eq_true rfl) rfl ?_
  intro p e s m args below meth c A ls X hr hlk w hl
  have hx := X.1.1
  have hb := X.1.2.1
  obtain ⟨Qo, hR, hk⟩ : ∃ Qo : Mm → Prop, (∀ x, Qo x → x = q) ∧ OK (f_X0_begin G M r0 i1 i2) Qo := ⟨fun x => x = q, fun _ h => h, q, hm, rfl⟩
  unfold f_X0_begin at hk
  refine lv_aload_n hx hb dX0_begin_0 rfl (lv_at hl 0 rfl) ?_
  refine lv_iload_n hx hb dX0_begin_1 rfl (lv_at hl 1 rfl) ?_
  refine lv_iconst (v := 1) hx hb dX0_begin_2 (by decide) ?_
  refine lv_icmp_lt (tgt := 16) hx hb dX0_begin_3 (by decide) (fun c1 => ?_) (fun c1 => ?_)
  · have hk := ok_p c1 hk
    refine lv_iconst (v := 0) hx hb dX0_begin_16 (by decide) ?_
    obtain ⟨c2, hk⟩ := ok_c hk
    refine zpi X w 0 0 9 tyX0 (C := RX0) (T := TX0) (N := 7) rfl ui_X0 tyX0_ok nmX0 (by decide) rfl (tb wf_X0_9) rfl rfl dX0_begin_17 c2 (fun H locs w => ?_)
    refine lv_aload_n hx hb dX0_begin_20 rfl (lv_at hl 0 rfl) ?_
    refine lv_iload_n hx hb dX0_begin_21 rfl (lv_at hl 2 rfl) ?_
    refine zpi X w 0 1 15 tyX0 (C := RX0) (T := TX0) (N := 7) rfl ui_X0 tyX0_ok nmX0 (by decide) rfl (tb wf_X0_15) rfl rfl dX0_begin_22 c2 (fun H locs w => ?_)
    refine lv_iconst (v := 0) hx hb dX0_begin_25 (by decide) ?_
    refine lv_istore_n (lv' := [(3, .int (0 : Int32)), (0, .ref r0), (1, .int i1), (2, .int i2)]) hx hb dX0_begin_26 rfl hl (by decide) rfl (fun ls hl => ?_)
    refine wl_X0_begin_27 X r0 (Qo := _) (fun q9 hk H locs ls w hl => ?_) FU (0 : Int32) (mwI (mwI M r0 0 (0 : Int32)) r0 1 i2) _ _ _ w (lv_sub hl [1, 0] rfl) (ok_b hk)
    have hk := hR _ (ok_s hk)
    exact zrv X hr hlk w dX0_begin_46 hk
  · have hk := ok_n c1 hk
    refine lv_iload_n hx hb dX0_begin_6 rfl (lv_at hl 1 rfl) ?_
    refine lv_bipush (v := 8) hx hb dX0_begin_7 (by decide) ?_
    refine lv_icmp_gt (tgt := 16) hx hb dX0_begin_9 (by decide) (fun c10 => ?_) (fun c10 => ?_)
    · have hk := ok_p c10 hk
      refine lv_iconst (v := 0) hx hb dX0_begin_16 (by decide) ?_
      obtain ⟨c11, hk⟩ := ok_c hk
      refine zpi X w 0 0 9 tyX0 (C := RX0) (T := TX0) (N := 7) rfl ui_X0 tyX0_ok nmX0 (by decide) rfl (tb wf_X0_9) rfl rfl dX0_begin_17 c11 (fun H locs w => ?_)
      refine lv_aload_n hx hb dX0_begin_20 rfl (lv_at hl 0 rfl) ?_
      refine lv_iload_n hx hb dX0_begin_21 rfl (lv_at hl 2 rfl) ?_
      refine zpi X w 0 1 15 tyX0 (C := RX0) (T := TX0) (N := 7) rfl ui_X0 tyX0_ok nmX0 (by decide) rfl (tb wf_X0_15) rfl rfl dX0_begin_22 c11 (fun H locs w => ?_)
      refine lv_iconst (v := 0) hx hb dX0_begin_25 (by decide) ?_
      refine lv_istore_n (lv' := [(3, .int (0 : Int32)), (0, .ref r0), (1, .int i1), (2, .int i2)]) hx hb dX0_begin_26 rfl hl (by decide) rfl (fun ls hl => ?_)
      refine wl_X0_begin_27 X r0 (Qo := _) (fun q12 hk H locs ls w hl => ?_) FU (0 : Int32) (mwI (mwI M r0 0 (0 : Int32)) r0 1 i2) _ _ _ w (lv_sub hl [1, 0] rfl) (ok_b hk)
      have hk := hR _ (ok_s hk)
      exact zrv X hr hlk w dX0_begin_46 hk
    · have hk := ok_n c10 hk
      refine lv_iload_n hx hb dX0_begin_12 rfl (lv_at hl 1 rfl) ?_
      refine lv_goto (tgt := 17) hx hb dX0_begin_13 (by decide) ?_
      obtain ⟨c13, hk⟩ := ok_c hk
      refine zpi X w 0 0 9 tyX0 (C := RX0) (T := TX0) (N := 7) rfl ui_X0 tyX0_ok nmX0 (by decide) rfl (tb wf_X0_9) rfl rfl dX0_begin_17 c13 (fun H locs w => ?_)
      refine lv_aload_n hx hb dX0_begin_20 rfl (lv_at hl 0 rfl) ?_
      refine lv_iload_n hx hb dX0_begin_21 rfl (lv_at hl 2 rfl) ?_
      refine zpi X w 0 1 15 tyX0 (C := RX0) (T := TX0) (N := 7) rfl ui_X0 tyX0_ok nmX0 (by decide) rfl (tb wf_X0_15) rfl rfl dX0_begin_22 c13 (fun H locs w => ?_)
      refine lv_iconst (v := 0) hx hb dX0_begin_25 (by decide) ?_
      refine lv_istore_n (lv' := [(3, .int (0 : Int32)), (0, .ref r0), (1, .int i1), (2, .int i2)]) hx hb dX0_begin_26 rfl hl (by decide) rfl (fun ls hl => ?_)
      refine wl_X0_begin_27 X r0 (Qo := _) (fun q14 hk H locs ls w hl => ?_) FU (0 : Int32) (mwI (mwI M r0 0 i1) r0 1 i2) _ _ _ w (lv_sub hl [1, 0] rfl) (ok_b hk)
      have hk := hR _ (ok_s hk)
      exact zrv X hr hlk w dX0_begin_46 hk
abbrev rm_X0_isState : Room := { frames := 0, cells := 0, slots := 0, locals := 0 }
set_option maxHeartbeats 4000000 in
set_option maxRecDepth 100000 in
theorem c_X0_isState (l : Launch) (D : va_G) (cy : Cyy) (G : Gg) (M : Mm) (r0 : Nat) (i1 : Int32) {q : Int32} (hm : f_X0_isState G M r0 i1 = some q) : CI l yX0_isState wz_X0_isState rm_X0_isState D cy G M [.ref r0, .int i1] q M := by
  refine Met_of (Qf := fun A => QI D cy G A q M) (cc := cX0_isState) (nL := 2) (ret := (some .boolean)) (own := RX0) (lv := [(0, .ref r0), (1, .int i1)]) (by decide) rfl rfl (Nat.le_of_ble_eq_true rfl) rfl ?_
  intro p e s m args below meth c A ls X hr hlk w hl
  have hx := X.1.1
  have hb := X.1.2.1
  obtain ⟨Qo, hR, hk⟩ : ∃ Qo : Int32 → Prop, (∀ x, Qo x → x = q) ∧ OK (f_X0_isState G M r0 i1) Qo := ⟨fun x => x = q, fun _ h => h, q, hm, rfl⟩
  unfold f_X0_isState at hk
  refine lv_iload_n hx hb dX0_isState_0 rfl (lv_at hl 1 rfl) ?_
  refine lv_if_lt (tgt := 16) hx hb dX0_isState_1 (by decide) (fun c1 => ?_) (fun c1 => ?_)
  · have hk := ok_p c1 hk
    refine lv_iconst (v := 0) hx hb dX0_isState_16 (by decide) ?_
    have hk := hR _ (ok_s hk)
    exact zrz X hr hlk w dX0_isState_17 (by decide) hk rfl
  · have hk := ok_n c1 hk
    refine lv_iload_n hx hb dX0_isState_4 rfl (lv_at hl 1 rfl) ?_
    refine lv_aload_n hx hb dX0_isState_5 rfl (lv_at hl 0 rfl) ?_
    obtain ⟨c2, hk⟩ := ok_c hk
    refine zgi X w 0 0 9 (C := RX0) (T := TX0) (N := 7) rfl ui_X0 (by decide) rfl (tb wf_X0_9) dX0_isState_6 c2 ?_
    refine lv_icmp_ge (tgt := 16) hx hb dX0_isState_9 (by decide) (fun c3 => ?_) (fun c3 => ?_)
    · have hk := ok_p c3 hk
      refine lv_iconst (v := 0) hx hb dX0_isState_16 (by decide) ?_
      have hk := hR _ (ok_s hk)
      exact zrz X hr hlk w dX0_isState_17 (by decide) hk rfl
    · have hk := ok_n c3 hk
      refine lv_iconst (v := 1) hx hb dX0_isState_12 (by decide) ?_
      refine lv_goto (tgt := 17) hx hb dX0_isState_13 (by decide) ?_
      have hk := hR _ (ok_s hk)
      exact zrz X hr hlk w dX0_isState_17 (by decide) hk rfl
abbrev rm_X0_allStates : Room := { frames := 0, cells := 0, slots := 0, locals := 0 }
set_option maxHeartbeats 4000000 in
set_option maxRecDepth 100000 in
theorem c_X0_allStates (l : Launch) (D : va_G) (cy : Cyy) (G : Gg) (M : Mm) (r0 : Nat) {q : Int32} (hm : f_X0_allStates G M r0 = some q) : CI l yX0_allStates wz_X0_allStates rm_X0_allStates D cy G M [.ref r0] q M := by
  refine Met_of (Qf := fun A => QI D cy G A q M) (cc := cX0_allStates) (nL := 1) (ret := (some .int)) (own := RX0) (lv := [(0, .ref r0)]) (by decide) rfl rfl (Nat.le_of_ble_eq_true rfl) rfl ?_
  intro p e s m args below meth c A ls X hr hlk w hl
  have hx := X.1.1
  have hb := X.1.2.1
  obtain ⟨Qo, hR, hk⟩ : ∃ Qo : Int32 → Prop, (∀ x, Qo x → x = q) ∧ OK (f_X0_allStates G M r0) Qo := ⟨fun x => x = q, fun _ h => h, q, hm, rfl⟩
  unfold f_X0_allStates at hk
  refine lv_iconst (v := 1) hx hb dX0_allStates_0 (by decide) ?_
  refine lv_aload_n hx hb dX0_allStates_1 rfl (lv_at hl 0 rfl) ?_
  obtain ⟨c1, hk⟩ := ok_c hk
  refine zgi X w 0 0 9 (C := RX0) (T := TX0) (N := 7) rfl ui_X0 (by decide) rfl (tb wf_X0_9) dX0_allStates_2 c1 ?_
  refine lv_ishl hx hb dX0_allStates_5 ?_
  refine lv_iconst (v := 1) hx hb dX0_allStates_6 (by decide) ?_
  refine lv_isub hx hb dX0_allStates_7 ?_
  have hk := hR _ (ok_s hk)
  exact zri X hr hlk w dX0_allStates_8 hk rfl
abbrev rm_X0_isSet : Room := { frames := 1, cells := 0, slots := 0, locals := 20 }
set_option maxHeartbeats 4000000 in
set_option maxRecDepth 100000 in
theorem c_X0_isSet (l : Launch) (D : va_G) (cy : Cyy) (G : Gg) (M : Mm) (r0 : Nat) (i1 : Int32) {q : Int32} (hm : f_X0_isSet G M r0 i1 = some q) : CI l yX0_isSet wz_X0_isSet rm_X0_isSet D cy G M [.ref r0, .int i1] q M := by
  refine Met_of (Qf := fun A => QI D cy G A q M) (cc := cX0_isSet) (nL := 2) (ret := (some .boolean)) (own := RX0) (lv := [(0, .ref r0), (1, .int i1)]) (by decide) rfl rfl (Nat.le_of_ble_eq_true rfl) rfl ?_
  intro p e s m args below meth c A ls X hr hlk w hl
  have hx := X.1.1
  have hb := X.1.2.1
  obtain ⟨Qo, hR, hk⟩ : ∃ Qo : Int32 → Prop, (∀ x, Qo x → x = q) ∧ OK (f_X0_isSet G M r0 i1) Qo := ⟨fun x => x = q, fun _ h => h, q, hm, rfl⟩
  unfold f_X0_isSet at hk
  refine lv_iload_n hx hb dX0_isSet_0 rfl (lv_at hl 1 rfl) ?_
  refine lv_iconst (v := 1) hx hb dX0_isSet_1 (by decide) ?_
  refine lv_icmp_lt (tgt := 17) hx hb dX0_isSet_2 (by decide) (fun c1 => ?_) (fun c1 => ?_)
  · have hk := ok_p c1 hk
    refine lv_iconst (v := 0) hx hb dX0_isSet_17 (by decide) ?_
    have hk := hR _ (ok_s hk)
    exact zrz X hr hlk w dX0_isSet_18 (by decide) hk rfl
  · have hk := ok_n c1 hk
    refine lv_iload_n hx hb dX0_isSet_5 rfl (lv_at hl 1 rfl) ?_
    refine lv_aload_n hx hb dX0_isSet_6 rfl (lv_at hl 0 rfl) ?_
    obtain ⟨c4, hk⟩ := ok_c hk
    obtain ⟨q2, e3, hk⟩ := ok_b hk
    refine zVi X w (n := 0) (As := []) (rest := [.int i1]) (ci := 0) (C := RX0) (T := TX0) (N := 7) (c_X0_allStates l D cy G M r0 e3) (gzV wm_X0_36 wi_X0_allStates ws_X0_allStates wn_X0 wc_X0_allStates) rfl rfl rfl (by decide +kernel) (by decide) rfl c4 rfl rfl hl.1 (Nat.le_of_ble_eq_true rfl) dX0_isSet_7 ⟨Nat.zero_le _, Nat.zero_le _⟩ (fun H locs w => ?_)
    refine lv_icmp_gt (tgt := 17) hx hb dX0_isSet_10 (by decide) (fun c5 => ?_) (fun c5 => ?_)
    · have hk := ok_p c5 hk
      refine lv_iconst (v := 0) hx hb dX0_isSet_17 (by decide) ?_
      have hk := hR _ (ok_s hk)
      exact zrz X hr hlk w dX0_isSet_18 (by decide) hk rfl
    · have hk := ok_n c5 hk
      refine lv_iconst (v := 1) hx hb dX0_isSet_13 (by decide) ?_
      refine lv_goto (tgt := 18) hx hb dX0_isSet_14 (by decide) ?_
      have hk := hR _ (ok_s hk)
      exact zrz X hr hlk w dX0_isSet_18 (by decide) hk rfl
abbrev rm_X0_at : Room := { frames := 1, cells := 0, slots := 0, locals := 21 }
set_option maxHeartbeats 4000000 in
set_option maxRecDepth 100000 in
theorem c_X0_at (l : Launch) (D : va_G) (cy : Cyy) (G : Gg) (M : Mm) (r0 : Nat) (i1 : Int32) (i2 : Int32) {q : Int32} (hm : f_X0_at G M r0 i1 i2 = some q) : CI l yX0_at wz_X0_at rm_X0_at D cy G M [.ref r0, .int i1, .int i2] q M := by
  refine Met_of (Qf := fun A => QI D cy G A q M) (cc := cX0_at) (nL := 3) (ret := (some .int)) (own := RX0) (lv := [(0, .ref r0), (1, .int i1), (2, .int i2)]) (by decide) rfl rfl (Nat.le_of_ble_eq_true rfl) rfl ?_
  intro p e s m args below meth c A ls X hr hlk w hl
  have hx := X.1.1
  have hb := X.1.2.1
  obtain ⟨Qo, hR, hk⟩ : ∃ Qo : Int32 → Prop, (∀ x, Qo x → x = q) ∧ OK (f_X0_at G M r0 i1 i2) Qo := ⟨fun x => x = q, fun _ h => h, q, hm, rfl⟩
  unfold f_X0_at at hk
  refine lv_aload_n hx hb dX0_at_0 rfl (lv_at hl 0 rfl) ?_
  refine lv_iload_n hx hb dX0_at_1 rfl (lv_at hl 1 rfl) ?_
  obtain ⟨c3, hk⟩ := ok_c hk
  obtain ⟨q1, e2, hk⟩ := ok_b hk
  refine zVi X w (n := 1) (As := [.int i1]) (rest := []) (ci := 0) (C := RX0) (T := TX0) (N := 7) (c_X0_isState l D cy G M r0 i1 e2) (gzV wm_X0_40 wi_X0_isState ws_X0_isState wn_X0 wc_X0_isState) rfl rfl rfl (by decide +kernel) (by decide) rfl c3 rfl rfl hl.1 (Nat.le_of_ble_eq_true rfl) dX0_at_2 ⟨Nat.zero_le _, Nat.zero_le _⟩ (fun H locs w => ?_)
  refine lv_if_eq (tgt := 30) hx hb dX0_at_5 (by decide) (fun c4 => ?_) (fun c4 => ?_)
  · have hk := ok_p c4 hk
    refine lv_iconst (v := 0) hx hb dX0_at_30 (by decide) ?_
    have hk := hR _ (ok_s hk)
    exact zri X hr hlk w dX0_at_31 hk rfl
  · have hk := ok_n c4 hk
    refine lv_aload_n hx hb dX0_at_8 rfl (lv_at hl 0 rfl) ?_
    refine lv_iload_n hx hb dX0_at_9 rfl (lv_at hl 2 rfl) ?_
    obtain ⟨q5, e6, hk⟩ := ok_b hk
    refine zVi X w (n := 1) (As := [.int i2]) (rest := []) (ci := 0) (C := RX0) (T := TX0) (N := 7) (c_X0_isState l D cy G M r0 i2 e6) (gzV wm_X0_40 wi_X0_isState ws_X0_isState wn_X0 wc_X0_isState) rfl rfl rfl (by decide +kernel) (by decide) rfl c3 rfl rfl hl.1 (Nat.le_of_ble_eq_true rfl) dX0_at_10 ⟨Nat.zero_le _, Nat.zero_le _⟩ (fun H locs w => ?_)
    refine lv_if_eq (tgt := 30) hx hb dX0_at_13 (by decide) (fun c7 => ?_) (fun c7 => ?_)
    · have hk := ok_p c7 hk
      refine lv_iconst (v := 0) hx hb dX0_at_30 (by decide) ?_
      have hk := hR _ (ok_s hk)
      exact zri X hr hlk w dX0_at_31 hk rfl
    · have hk := ok_n c7 hk
      refine lv_aload_n hx hb dX0_at_16 rfl (lv_at hl 0 rfl) ?_
      obtain ⟨r8, e9, hk⟩ := ok_b hk
      refine zgr X w 0 2 18 (C := RX0) (T := TX0) (N := 7) rfl ui_X0 (by decide) rfl (tb wf_X0_18) dX0_at_17 c3 e9 ?_
      refine lv_iload_n hx hb dX0_at_20 rfl (lv_at hl 1 rfl) ?_
      refine lv_bipush (v := 8) hx hb dX0_at_21 (by decide) ?_
      refine lv_imul hx hb dX0_at_23 ?_
      refine lv_iload_n hx hb dX0_at_24 rfl (lv_at hl 2 rfl) ?_
      refine lv_iadd hx hb dX0_at_25 ?_
      obtain ⟨c10, hk⟩ := ok_c hk
      obtain ⟨c11, hk⟩ := ok_c hk
      refine zai X w dX0_at_26 c10 c11 ?_
      refine lv_goto (tgt := 31) hx hb dX0_at_27 (by decide) ?_
      have hk := hR _ (ok_s hk)
      exact zri X hr hlk w dX0_at_31 hk rfl
abbrev rm_X0_raise : Room := { frames := 1, cells := 0, slots := 0, locals := 21 }
set_option maxHeartbeats 4000000 in
set_option maxRecDepth 100000 in
theorem c_X0_raise (l : Launch) (D : va_G) (cy : Cyy) (G : Gg) (M : Mm) (r0 : Nat) (i1 : Int32) (i2 : Int32) (i3 : Int32) {q : Mm} (hm : f_X0_raise G M r0 i1 i2 i3 = some q) : CV l yX0_raise wz_X0_raise rm_X0_raise D cy G M [.ref r0, .int i1, .int i2, .int i3] q := by
  refine Met_of (Qf := fun A => QV D cy G A q) (cc := cX0_raise) (nL := 4) (ret := none) (own := RX0) (lv := [(0, .ref r0), (1, .int i1), (2, .int i2), (3, .int i3)]) (by decide) rfl rfl (Nat.le_of_ble_eq_true rfl) rfl ?_
  intro p e s m args below meth c A ls X hr hlk w hl
  have hx := X.1.1
  have hb := X.1.2.1
  obtain ⟨Qo, hR, hk⟩ : ∃ Qo : Mm → Prop, (∀ x, Qo x → x = q) ∧ OK (f_X0_raise G M r0 i1 i2 i3) Qo := ⟨fun x => x = q, fun _ h => h, q, hm, rfl⟩
  unfold f_X0_raise at hk
  refine lv_aload_n hx hb dX0_raise_0 rfl (lv_at hl 0 rfl) ?_
  refine lv_iload_n hx hb dX0_raise_1 rfl (lv_at hl 1 rfl) ?_
  obtain ⟨c3, hk⟩ := ok_c hk
  obtain ⟨q1, e2, hk⟩ := ok_b hk
  refine zVi X w (n := 1) (As := [.int i1]) (rest := []) (ci := 0) (C := RX0) (T := TX0) (N := 7) (c_X0_isState l D cy G M r0 i1 e2) (gzV wm_X0_40 wi_X0_isState ws_X0_isState wn_X0 wc_X0_isState) rfl rfl rfl (by decide +kernel) (by decide) rfl c3 rfl rfl hl.1 (Nat.le_of_ble_eq_true rfl) dX0_raise_2 ⟨Nat.zero_le _, Nat.zero_le _⟩ (fun H locs w => ?_)
  refine lv_if_eq (tgt := 31) hx hb dX0_raise_5 (by decide) (fun c4 => ?_) (fun c4 => ?_)
  · have hk := ok_p c4 hk
    have hk := hR _ (ok_s hk)
    exact zrv X hr hlk w dX0_raise_31 hk
  · have hk := ok_n c4 hk
    refine lv_aload_n hx hb dX0_raise_8 rfl (lv_at hl 0 rfl) ?_
    refine lv_iload_n hx hb dX0_raise_9 rfl (lv_at hl 2 rfl) ?_
    obtain ⟨q5, e6, hk⟩ := ok_b hk
    refine zVi X w (n := 1) (As := [.int i2]) (rest := []) (ci := 0) (C := RX0) (T := TX0) (N := 7) (c_X0_isState l D cy G M r0 i2 e6) (gzV wm_X0_40 wi_X0_isState ws_X0_isState wn_X0 wc_X0_isState) rfl rfl rfl (by decide +kernel) (by decide) rfl c3 rfl rfl hl.1 (Nat.le_of_ble_eq_true rfl) dX0_raise_10 ⟨Nat.zero_le _, Nat.zero_le _⟩ (fun H locs w => ?_)
    refine lv_if_eq (tgt := 31) hx hb dX0_raise_13 (by decide) (fun c7 => ?_) (fun c7 => ?_)
    · have hk := ok_p c7 hk
      have hk := hR _ (ok_s hk)
      exact zrv X hr hlk w dX0_raise_31 hk
    · have hk := ok_n c7 hk
      refine lv_aload_n hx hb dX0_raise_16 rfl (lv_at hl 0 rfl) ?_
      obtain ⟨r8, e9, hk⟩ := ok_b hk
      refine zgr X w 0 2 18 (C := RX0) (T := TX0) (N := 7) rfl ui_X0 (by decide) rfl (tb wf_X0_18) dX0_raise_17 c3 e9 ?_
      refine lv_iload_n hx hb dX0_raise_20 rfl (lv_at hl 1 rfl) ?_
      refine lv_bipush (v := 8) hx hb dX0_raise_21 (by decide) ?_
      refine lv_imul hx hb dX0_raise_23 ?_
      refine lv_iload_n hx hb dX0_raise_24 rfl (lv_at hl 2 rfl) ?_
      refine lv_iadd hx hb dX0_raise_25 ?_
      refine lv_dup2_11 hx hb dX0_raise_26 rfl rfl ?_
      obtain ⟨c10, hk⟩ := ok_c hk
      obtain ⟨c11, hk⟩ := ok_c hk
      refine zai X w dX0_raise_27 c10 c11 ?_
      refine lv_iload_n hx hb dX0_raise_28 rfl (lv_at hl 3 rfl) ?_
      refine lv_iadd hx hb dX0_raise_29 ?_
      refine zsi X w dX0_raise_30 c10 c11 (fun H locs w => ?_)
      have hk := hR _ (ok_s hk)
      exact zrv X hr hlk w dX0_raise_31 hk
abbrev rm_X8_has : Room := { frames := 0, cells := 0, slots := 0, locals := 0 }
set_option maxHeartbeats 4000000 in
set_option maxRecDepth 100000 in
theorem c_X8_has (l : Launch) (D : va_G) (cy : Cyy) (G : Gg) (M : Mm) (i0 : Int32) (i1 : Int32) {q : Int32} (hm : f_X8_has i0 i1 = some q) : CI l yX8_has wz_X8_has rm_X8_has D cy G M [.int i0, .int i1] q M := by
  refine Met_of (Qf := fun A => QI D cy G A q M) (cc := cX8_has) (nL := 2) (ret := (some .boolean)) (own := RX8) (lv := [(0, .int i0), (1, .int i1)]) (by decide) rfl rfl (Nat.le_of_ble_eq_true rfl) rfl ?_
  intro p e s m args below meth c A ls X hr hlk w hl
  have hx := X.1.1
  have hb := X.1.2.1
  obtain ⟨Qo, hR, hk⟩ : ∃ Qo : Int32 → Prop, (∀ x, Qo x → x = q) ∧ OK (f_X8_has i0 i1) Qo := ⟨fun x => x = q, fun _ h => h, q, hm, rfl⟩
  unfold f_X8_has at hk
  refine lv_iload_n hx hb dX8_has_0 rfl (lv_at hl 0 rfl) ?_
  refine lv_iload_n hx hb dX8_has_1 rfl (lv_at hl 1 rfl) ?_
  refine lv_ishr hx hb dX8_has_2 ?_
  refine lv_iconst (v := 1) hx hb dX8_has_3 (by decide) ?_
  refine lv_iand hx hb dX8_has_4 ?_
  refine lv_if_eq (tgt := 12) hx hb dX8_has_5 (by decide) (fun c1 => ?_) (fun c1 => ?_)
  · have hk := ok_p c1 hk
    refine lv_iconst (v := 0) hx hb dX8_has_12 (by decide) ?_
    have hk := hR _ (ok_s hk)
    exact zrz X hr hlk w dX8_has_13 (by decide) hk rfl
  · have hk := ok_n c1 hk
    refine lv_iconst (v := 1) hx hb dX8_has_8 (by decide) ?_
    refine lv_goto (tgt := 13) hx hb dX8_has_9 (by decide) ?_
    have hk := hR _ (ok_s hk)
    exact zrz X hr hlk w dX8_has_13 (by decide) hk rfl
abbrev rm_X0_into : Room := { frames := 1, cells := 0, slots := 0, locals := 21 }
set_option maxHeartbeats 4000000 in
set_option maxRecDepth 100000 in
theorem wb_X0_into_12 {p : Program} {l : Launch} {e : Env} {s : State} {m : MethodId} {args : Array Value} {below : List Frame} {meth : Method} {c : Code} {D : va_G} {cy : Cyy} {A : Nat → Prop} {G : Gg} (X : Cx p m c cX0_into 6 s args wz_X0_into RX0 D cy) {Q : State → Prop} (M : Mm) (r0 : Nat) (i1 : Int32) (i2 : Int32) (i4 : Int32) (Qo : Int32 → Prop)  (hE : ∀ (y : Int32), Qo (y) → ∀ (H : Heap) (locs : List Loc) (ls : Array Slot), Wo s D cy A G M H locs → lv_has ls 6 [(3, .int y)] → W p l e rm_X0_into s m args below meth c H locs 0 0 Q (F0 m 56 ls [])) (rec : Int32 → Int32 → Option (Int32)) (hrec : ∀ (i3 : Int32) (i5 : Int32) (H : Heap) (locs : List Loc) (ls : Array Slot), Wo s D cy A G M H locs → lv_has ls 6 [(0, .ref r0), (1, .int i1), (2, .int i2), (3, .int i3), (4, .int i4), (5, .int i5)] → OK (rec i3 i5) Qo → W p l e rm_X0_into s m args below meth c H locs 0 0 Q (F0 m 12 ls [])) (i3 : Int32) (i5 : Int32) (H : Heap) (locs : List Loc) (ls : Array Slot) (w : Wo s D cy A G M H locs) (hl : lv_has ls 6 [(0, .ref r0), (1, .int i1), (2, .int i2), (3, .int i3), (4, .int i4), (5, .int i5)]) (hk : OK (bd_X0_into_12 G M r0 i1 i2 i4 rec i3 i5) Qo) : W p l e rm_X0_into s m args below meth c H locs 0 0 Q (F0 m 12 ls []) := by
    have hx := X.1.1
    have hb := X.1.2.1
    unfold bd_X0_into_12 at hk
    refine lv_iload hx hb dX0_into_12 (lv_at hl 5 rfl) ?_
    refine lv_aload_n hx hb dX0_into_14 rfl (lv_at hl 0 rfl) ?_
    obtain ⟨c4, hk⟩ := ok_c hk
    refine zgi X w 0 0 9 (C := RX0) (T := TX0) (N := 7) rfl ui_X0 (by decide) rfl (tb wf_X0_9) dX0_into_15 c4 ?_
    refine lv_icmp_ge (tgt := 56) hx hb dX0_into_18 (by decide) (fun c5 => ?_) (fun c5 => ?_)
    · have hk := ok_p c5 hk
      exact hE i3 (ok_s hk) _ _ _ w (lv_sub hl [3] rfl)
    · have hk := ok_n c5 hk
      refine lv_iload hx hb dX0_into_21 (lv_at hl 4 rfl) ?_
      refine lv_if_eq (tgt := 50) hx hb dX0_into_23 (by decide) (fun c6 => ?_) (fun c6 => ?_)
      · have hk := ok_p c6 hk
        refine lv_iinc (v := (i5 + 1)) (lv' := [(5, .int (i5 + 1)), (0, .ref r0), (1, .int i1), (2, .int i2), (3, .int i3), (4, .int i4)]) hx hb dX0_into_50 hl (k := 5) rfl rfl (by decide) rfl (fun ls hl => ?_)
        refine lv_goto (tgt := 12) hx hb dX0_into_53 (by decide) ?_
        exact hrec i3 (i5 + 1) _ _ _ w (lv_sub hl [1, 2, 3, 4, 5, 0] rfl) hk
      · have hk := ok_n c6 hk
        refine lv_iload_n hx hb dX0_into_26 rfl (lv_at hl 2 rfl) ?_
        refine lv_iload hx hb dX0_into_27 (lv_at hl 5 rfl) ?_
        obtain ⟨q7, e8, hk⟩ := ok_b hk
        refine zNi X w (n := 2) (As := [.int i2, .int i5]) (rest := []) (host := "BlendBench") (c_X8_has l D cy G M i2 i5 e8) (gzN wc_X8_has) rfl rfl rfl (by decide +kernel) (tb wn_X8) (tb wt_X8_has) (by decide +kernel) (by decide) rfl rfl hl.1 (Nat.le_of_ble_eq_true rfl) dX0_into_29 ⟨Nat.zero_le _, Nat.zero_le _⟩ (fun H locs w => ?_)
        refine lv_if_eq (tgt := 50) hx hb dX0_into_32 (by decide) (fun c9 => ?_) (fun c9 => ?_)
        · have hk := ok_p c9 hk
          refine lv_iinc (v := (i5 + 1)) (lv' := [(5, .int (i5 + 1)), (0, .ref r0), (1, .int i1), (2, .int i2), (3, .int i3), (4, .int i4)]) hx hb dX0_into_50 hl (k := 5) rfl rfl (by decide) rfl (fun ls hl => ?_)
          refine lv_goto (tgt := 12) hx hb dX0_into_53 (by decide) ?_
          exact hrec i3 (i5 + 1) _ _ _ w (lv_sub hl [1, 2, 3, 4, 5, 0] rfl) hk
        · have hk := ok_n c9 hk
          refine lv_iload_n hx hb dX0_into_35 rfl (lv_at hl 3 rfl) ?_
          refine lv_aload_n hx hb dX0_into_36 rfl (lv_at hl 0 rfl) ?_
          obtain ⟨r10, e11, hk⟩ := ok_b hk
          refine zgr X w 0 2 18 (C := RX0) (T := TX0) (N := 7) rfl ui_X0 (by decide) rfl (tb wf_X0_18) dX0_into_37 c4 e11 ?_
          refine lv_iload_n hx hb dX0_into_40 rfl (lv_at hl 1 rfl) ?_
          refine lv_bipush (v := 8) hx hb dX0_into_41 (by decide) ?_
          refine lv_imul hx hb dX0_into_43 ?_
          refine lv_iload hx hb dX0_into_44 (lv_at hl 5 rfl) ?_
          refine lv_iadd hx hb dX0_into_46 ?_
          obtain ⟨c12, hk⟩ := ok_c hk
          obtain ⟨c13, hk⟩ := ok_c hk
          refine zai X w dX0_into_47 c12 c13 ?_
          refine lv_iadd hx hb dX0_into_48 ?_
          refine lv_istore_n (lv' := [(3, .int (i3 + (M.1 r10 (Int32.toNatClampNeg ((i1 * (8 : Int32)) + i5))))), (0, .ref r0), (1, .int i1), (2, .int i2), (4, .int i4), (5, .int i5)]) hx hb dX0_into_49 rfl hl (by decide) rfl (fun ls hl => ?_)
          refine lv_iinc (v := (i5 + 1)) (lv' := [(5, .int (i5 + 1)), (3, .int (i3 + (M.1 r10 (Int32.toNatClampNeg ((i1 * (8 : Int32)) + i5))))), (0, .ref r0), (1, .int i1), (2, .int i2), (4, .int i4)]) hx hb dX0_into_50 hl (k := 5) rfl rfl (by decide) rfl (fun ls hl => ?_)
          refine lv_goto (tgt := 12) hx hb dX0_into_53 (by decide) ?_
          exact hrec (i3 + (M.1 r10 (Int32.toNatClampNeg ((i1 * (8 : Int32)) + i5)))) (i5 + 1) _ _ _ w (lv_sub hl [2, 3, 4, 1, 5, 0] rfl) hk
theorem wl_X0_into_12 {p : Program} {l : Launch} {e : Env} {s : State} {m : MethodId} {args : Array Value} {below : List Frame} {meth : Method} {c : Code} {D : va_G} {cy : Cyy} {A : Nat → Prop} {G : Gg} (X : Cx p m c cX0_into 6 s args wz_X0_into RX0 D cy) {Q : State → Prop} (M : Mm) (r0 : Nat) (i1 : Int32) (i2 : Int32) (i4 : Int32) (Qo : Int32 → Prop)  (hE : ∀ (y : Int32), Qo (y) → ∀ (H : Heap) (locs : List Loc) (ls : Array Slot), Wo s D cy A G M H locs → lv_has ls 6 [(3, .int y)] → W p l e rm_X0_into s m args below meth c H locs 0 0 Q (F0 m 56 ls [])) : ∀ (n : Nat) (i3 : Int32) (i5 : Int32) (H : Heap) (locs : List Loc) (ls : Array Slot), Wo s D cy A G M H locs → lv_has ls 6 [(0, .ref r0), (1, .int i1), (2, .int i2), (3, .int i3), (4, .int i4), (5, .int i5)] → OK (lp_X0_into_12 G M r0 i1 i2 i4 n i3 i5) Qo → W p l e rm_X0_into s m args below meth c H locs 0 0 Q (F0 m 12 ls []) := by
  intro n
  induction n with
  | zero => intro i3 i5 H locs ls w hl hk; exact ok_0 hk
  | succ n ih => intro i3 i5 H locs ls w hl hk; exact wb_X0_into_12 X M r0 i1 i2 i4 Qo hE  (lp_X0_into_12 G M r0 i1 i2 i4 n) ih i3 i5 H locs ls w hl hk
set_option maxHeartbeats 4000000 in
set_option maxRecDepth 100000 in
theorem c_X0_into (l : Launch) (D : va_G) (cy : Cyy) (G : Gg) (M : Mm) (r0 : Nat) (i1 : Int32) (i2 : Int32) {q : Int32} (hm : f_X0_into G M r0 i1 i2 = some q) : CI l yX0_into wz_X0_into rm_X0_into D cy G M [.ref r0, .int i1, .int i2] q M := by
  refine Met_of (Qf := fun A => QI D cy G A q M) (cc := cX0_into) (nL := 6) (ret := (some .int)) (own := RX0) (lv := [(0, .ref r0), (1, .int i1), (2, .int i2)]) (by decide) rfl rfl (Nat.le_of_ble_eq_true rfl) rfl ?_
  intro p e s m args below meth c A ls X hr hlk w hl
  have hx := X.1.1
  have hb := X.1.2.1
  obtain ⟨Qo, hR, hk⟩ : ∃ Qo : Int32 → Prop, (∀ x, Qo x → x = q) ∧ OK (f_X0_into G M r0 i1 i2) Qo := ⟨fun x => x = q, fun _ h => h, q, hm, rfl⟩
  unfold f_X0_into at hk
  refine lv_iconst (v := 0) hx hb dX0_into_0 (by decide) ?_
  refine lv_istore_n (lv' := [(3, .int (0 : Int32)), (0, .ref r0), (1, .int i1), (2, .int i2)]) hx hb dX0_into_1 rfl hl (by decide) rfl (fun ls hl => ?_)
  refine lv_aload_n hx hb dX0_into_2 rfl (lv_at hl 1 rfl) ?_
  refine lv_iload_n hx hb dX0_into_3 rfl (lv_at hl 2 rfl) ?_
  obtain ⟨c3, hk⟩ := ok_c hk
  obtain ⟨q1, e2, hk⟩ := ok_b hk
  refine zVi X w (n := 1) (As := [.int i1]) (rest := []) (ci := 0) (C := RX0) (T := TX0) (N := 7) (c_X0_isState l D cy G M r0 i1 e2) (gzV wm_X0_40 wi_X0_isState ws_X0_isState wn_X0 wc_X0_isState) rfl rfl rfl (by decide +kernel) (by decide) rfl c3 rfl rfl hl.1 (Nat.le_of_ble_eq_true rfl) dX0_into_4 ⟨Nat.zero_le _, Nat.zero_le _⟩ (fun H locs w => ?_)
  refine lv_istore (lv' := [(4, .int q1), (3, .int (0 : Int32)), (0, .ref r0), (1, .int i1), (2, .int i2)]) hx hb dX0_into_7 hl (by decide) rfl (fun ls hl => ?_)
  refine lv_iconst (v := 0) hx hb dX0_into_9 (by decide) ?_
  refine lv_istore (lv' := [(5, .int (0 : Int32)), (4, .int q1), (3, .int (0 : Int32)), (0, .ref r0), (1, .int i1), (2, .int i2)]) hx hb dX0_into_10 hl (by decide) rfl (fun ls hl => ?_)
  refine wl_X0_into_12 X M r0 i1 i2 q1 (Qo := _) (fun q14 hk H locs ls w hl => ?_) FU (0 : Int32) (0 : Int32) _ _ _ w (lv_sub hl [3, 4, 5, 2, 1, 0] rfl) (ok_b hk)
  refine lv_iload_n hx hb dX0_into_56 rfl (lv_at hl 0 rfl) ?_
  have hk := hR _ (ok_s hk)
  exact zri X hr hlk w dX0_into_57 hk rfl
abbrev rm_X6_at : Room := { frames := 0, cells := 0, slots := 0, locals := 0 }
set_option maxHeartbeats 4000000 in
set_option maxRecDepth 100000 in
theorem c_X6_at (l : Launch) (D : va_G) (cy : Cyy) (G : Gg) (M : Mm) (r0 : Nat) (i1 : Int32) {q : Int32} (hm : f_X6_at G M r0 i1 = some q) : CI l yX6_at wz_X6_at rm_X6_at D cy G M [.ref r0, .int i1] q M := by
  refine Met_of (Qf := fun A => QI D cy G A q M) (cc := cX6_at) (nL := 2) (ret := (some .int)) (own := RX6) (lv := [(0, .ref r0), (1, .int i1)]) (by decide) rfl rfl (Nat.le_of_ble_eq_true rfl) rfl ?_
  intro p e s m args below meth c A ls X hr hlk w hl
  have hx := X.1.1
  have hb := X.1.2.1
  obtain ⟨Qo, hR, hk⟩ : ∃ Qo : Int32 → Prop, (∀ x, Qo x → x = q) ∧ OK (f_X6_at G M r0 i1) Qo := ⟨fun x => x = q, fun _ h => h, q, hm, rfl⟩
  unfold f_X6_at at hk
  refine lv_iload_n hx hb dX6_at_0 rfl (lv_at hl 1 rfl) ?_
  refine lv_if_lt (tgt := 21) hx hb dX6_at_1 (by decide) (fun c1 => ?_) (fun c1 => ?_)
  · have hk := ok_p c1 hk
    refine lv_iconst (v := 0) hx hb dX6_at_21 (by decide) ?_
    have hk := hR _ (ok_s hk)
    exact zri X hr hlk w dX6_at_22 hk rfl
  · have hk := ok_n c1 hk
    refine lv_iload_n hx hb dX6_at_4 rfl (lv_at hl 1 rfl) ?_
    refine lv_aload_n hx hb dX6_at_5 rfl (lv_at hl 0 rfl) ?_
    obtain ⟨c2, hk⟩ := ok_c hk
    refine zgi X w 6 1 15 (C := RX6) (T := TX6) (N := 2) rfl ui_X6 (by decide) rfl (tb wf_X6_15) dX6_at_6 c2 ?_
    refine lv_icmp_ge (tgt := 21) hx hb dX6_at_9 (by decide) (fun c3 => ?_) (fun c3 => ?_)
    · have hk := ok_p c3 hk
      refine lv_iconst (v := 0) hx hb dX6_at_21 (by decide) ?_
      have hk := hR _ (ok_s hk)
      exact zri X hr hlk w dX6_at_22 hk rfl
    · have hk := ok_n c3 hk
      refine lv_aload_n hx hb dX6_at_12 rfl (lv_at hl 0 rfl) ?_
      obtain ⟨r4, e5, hk⟩ := ok_b hk
      refine zgr X w 6 0 9 (C := RX6) (T := TX6) (N := 2) rfl ui_X6 (by decide) rfl (tb wf_X6_9) dX6_at_13 c2 e5 ?_
      refine lv_iload_n hx hb dX6_at_16 rfl (lv_at hl 1 rfl) ?_
      obtain ⟨c6, hk⟩ := ok_c hk
      obtain ⟨c7, hk⟩ := ok_c hk
      refine zai X w dX6_at_17 c6 c7 ?_
      refine lv_goto (tgt := 22) hx hb dX6_at_18 (by decide) ?_
      have hk := hR _ (ok_s hk)
      exact zri X hr hlk w dX6_at_22 hk rfl
abbrev rm_X0_readTape : Room := { frames := 2, cells := 0, slots := 0, locals := 46 }
set_option maxHeartbeats 4000000 in
set_option maxRecDepth 100000 in
theorem wb_X0_readTape_52 {p : Program} {l : Launch} {e : Env} {s : State} {m : MethodId} {args : Array Value} {below : List Frame} {meth : Method} {c : Code} {D : va_G} {cy : Cyy} {A : Nat → Prop} {G : Gg} (X : Cx p m c cX0_readTape 6 s args wz_X0_readTape RX0 D cy) {Q : State → Prop} (r0 : Nat) (r1 : Nat) (i2 : Int32) (i3 : Int32) (i4 : Int32) (Qo : Mm → Prop)  (hE : ∀ (y : Mm), Qo (y) → ∀ (H : Heap) (locs : List Loc) (ls : Array Slot), Wo s D cy A G y H locs → lv_has ls 6 [(0, .ref r0), (1, .ref r1), (2, .int i2), (3, .int i3), (4, .int i4)] → W p l e rm_X0_readTape s m args below meth c H locs 0 0 Q (F0 m 83 ls [])) (rec : Int32 → Mm → Option (Mm)) (hrec : ∀ (i5 : Int32) (M : Mm) (H : Heap) (locs : List Loc) (ls : Array Slot), Wo s D cy A G M H locs → lv_has ls 6 [(0, .ref r0), (1, .ref r1), (2, .int i2), (3, .int i3), (4, .int i4), (5, .int i5)] → OK (rec i5 M) Qo → W p l e rm_X0_readTape s m args below meth c H locs 0 0 Q (F0 m 52 ls [])) (i5 : Int32) (M : Mm) (H : Heap) (locs : List Loc) (ls : Array Slot) (w : Wo s D cy A G M H locs) (hl : lv_has ls 6 [(0, .ref r0), (1, .ref r1), (2, .int i2), (3, .int i3), (4, .int i4), (5, .int i5)]) (hk : OK (bd_X0_readTape_52 G r0 r1 i2 i3 i4 rec i5 M) Qo) : W p l e rm_X0_readTape s m args below meth c H locs 0 0 Q (F0 m 52 ls []) := by
    have hx := X.1.1
    have hb := X.1.2.1
    unfold bd_X0_readTape_52 at hk
    refine lv_iload hx hb dX0_readTape_52 (lv_at hl 5 rfl) ?_
    refine lv_iload_n hx hb dX0_readTape_54 rfl (lv_at hl 2 rfl) ?_
    refine lv_icmp_ge (tgt := 83) hx hb dX0_readTape_55 (by decide) (fun c11 => ?_) (fun c11 => ?_)
    · have hk := ok_p c11 hk
      exact hE M (ok_s hk) _ _ _ w (lv_sub hl [0, 1, 2, 3, 4] rfl)
    · have hk := ok_n c11 hk
      refine lv_aload_n hx hb dX0_readTape_58 rfl (lv_at hl 0 rfl) ?_
      refine lv_iload hx hb dX0_readTape_59 (lv_at hl 4 rfl) ?_
      refine lv_iload hx hb dX0_readTape_61 (lv_at hl 5 rfl) ?_
      refine lv_aload_n hx hb dX0_readTape_63 rfl (lv_at hl 1 rfl) ?_
      refine lv_iload hx hb dX0_readTape_64 (lv_at hl 4 rfl) ?_
      refine lv_iload_n hx hb dX0_readTape_66 rfl (lv_at hl 2 rfl) ?_
      refine lv_imul hx hb dX0_readTape_67 ?_
      refine lv_iload hx hb dX0_readTape_68 (lv_at hl 5 rfl) ?_
      refine lv_iadd hx hb dX0_readTape_70 ?_
      obtain ⟨c14, hk⟩ := ok_c hk
      obtain ⟨q12, e13, hk⟩ := ok_b hk
      refine zVi X w (n := 1) (As := [.int ((i4 * i2) + i5)]) (rest := [.int i5, .int i4, .ref r0]) (ci := 6) (C := RX6) (T := TX6) (N := 2) (c_X6_at l D cy G M r1 ((i4 * i2) + i5) e13) (gzV wm_X0_57 wi_X6_at ws_X6_at wn_X6 wc_X6_at) rfl rfl rfl (by decide +kernel) (by decide) rfl c14 rfl rfl hl.1 (Nat.le_of_ble_eq_true rfl) dX0_readTape_71 ⟨Nat.zero_le _, Nat.zero_le _⟩ (fun H locs w => ?_)
      obtain ⟨c17, hk⟩ := ok_c hk
      obtain ⟨q15, e16, hk⟩ := ok_b hk
      refine zVv X w (n := 3) (As := [.int i4, .int i5, .int q12]) (rest := []) (ci := 0) (C := RX0) (T := TX0) (N := 7) (c_X0_raise l D cy G M r0 i4 i5 q12 e16) (gzV wm_X0_61 wi_X0_raise ws_X0_raise wn_X0 wc_X0_raise) rfl rfl rfl (by decide +kernel) (by decide) rfl c17 rfl rfl hl.1 (Nat.le_of_ble_eq_true rfl) dX0_readTape_74 ⟨Nat.zero_le _, Nat.zero_le _⟩ (fun H locs w => ?_)
      refine lv_iinc (v := (i5 + 1)) (lv' := [(5, .int (i5 + 1)), (0, .ref r0), (1, .ref r1), (2, .int i2), (3, .int i3), (4, .int i4)]) hx hb dX0_readTape_77 hl (k := 5) rfl rfl (by decide) rfl (fun ls hl => ?_)
      refine lv_goto (tgt := 52) hx hb dX0_readTape_80 (by decide) ?_
      exact hrec (i5 + 1) q15 _ _ _ w (lv_sub hl [1, 2, 3, 4, 5, 0] rfl) hk
theorem wl_X0_readTape_52 {p : Program} {l : Launch} {e : Env} {s : State} {m : MethodId} {args : Array Value} {below : List Frame} {meth : Method} {c : Code} {D : va_G} {cy : Cyy} {A : Nat → Prop} {G : Gg} (X : Cx p m c cX0_readTape 6 s args wz_X0_readTape RX0 D cy) {Q : State → Prop} (r0 : Nat) (r1 : Nat) (i2 : Int32) (i3 : Int32) (i4 : Int32) (Qo : Mm → Prop)  (hE : ∀ (y : Mm), Qo (y) → ∀ (H : Heap) (locs : List Loc) (ls : Array Slot), Wo s D cy A G y H locs → lv_has ls 6 [(0, .ref r0), (1, .ref r1), (2, .int i2), (3, .int i3), (4, .int i4)] → W p l e rm_X0_readTape s m args below meth c H locs 0 0 Q (F0 m 83 ls [])) : ∀ (n : Nat) (i5 : Int32) (M : Mm) (H : Heap) (locs : List Loc) (ls : Array Slot), Wo s D cy A G M H locs → lv_has ls 6 [(0, .ref r0), (1, .ref r1), (2, .int i2), (3, .int i3), (4, .int i4), (5, .int i5)] → OK (lp_X0_readTape_52 G r0 r1 i2 i3 i4 n i5 M) Qo → W p l e rm_X0_readTape s m args below meth c H locs 0 0 Q (F0 m 52 ls []) := by
  intro n
  induction n with
  | zero => intro i5 M H locs ls w hl hk; exact ok_0 hk
  | succ n ih => intro i5 M H locs ls w hl hk; exact wb_X0_readTape_52 X r0 r1 i2 i3 i4 Qo hE  (lp_X0_readTape_52 G r0 r1 i2 i3 i4 n) ih i5 M H locs ls w hl hk
set_option maxHeartbeats 4000000 in
set_option maxRecDepth 100000 in
theorem wb_X0_readTape_43 {p : Program} {l : Launch} {e : Env} {s : State} {m : MethodId} {args : Array Value} {below : List Frame} {meth : Method} {c : Code} {D : va_G} {cy : Cyy} {A : Nat → Prop} {G : Gg} (X : Cx p m c cX0_readTape 6 s args wz_X0_readTape RX0 D cy) (r0 : Nat) (r1 : Nat) (i2 : Int32) (i3 : Int32) (Qo : (Int32 × Mm) ⊕ (Mm) → Prop) (hr : meth.sig.returnType = (some .boolean)) (hlk : meth.locks = false) {x0 : Int32 × Mm} (hR : ∀ x, Qo (.inl x) → x = x0) (hE : ∀ (y : Mm), Qo (.inr y) → ∀ (H : Heap) (locs : List Loc) (ls : Array Slot), Wo s D cy A G y H locs → lv_has ls 6 [] → W p l e rm_X0_readTape s m args below meth c H locs 0 0 (MQ below (QI D cy G A x0.1 x0.2) args s 0 0 A) (F0 m 105 ls [])) (rec : Int32 → Mm → Option ((Int32 × Mm) ⊕ (Mm))) (hrec : ∀ (i4 : Int32) (M : Mm) (H : Heap) (locs : List Loc) (ls : Array Slot), Wo s D cy A G M H locs → lv_has ls 6 [(0, .ref r0), (1, .ref r1), (2, .int i2), (3, .int i3), (4, .int i4)] → OK (rec i4 M) Qo → W p l e rm_X0_readTape s m args below meth c H locs 0 0 (MQ below (QI D cy G A x0.1 x0.2) args s 0 0 A) (F0 m 43 ls [])) (i4 : Int32) (M : Mm) (H : Heap) (locs : List Loc) (ls : Array Slot) (w : Wo s D cy A G M H locs) (hl : lv_has ls 6 [(0, .ref r0), (1, .ref r1), (2, .int i2), (3, .int i3), (4, .int i4)]) (hk : OK (bd_X0_readTape_43 G r0 r1 i2 i3 rec i4 M) Qo) : W p l e rm_X0_readTape s m args below meth c H locs 0 0 (MQ below (QI D cy G A x0.1 x0.2) args s 0 0 A) (F0 m 43 ls []) := by
    have hx := X.1.1
    have hb := X.1.2.1
    unfold bd_X0_readTape_43 at hk
    refine lv_iload hx hb dX0_readTape_43 (lv_at hl 4 rfl) ?_
    refine lv_iload_n hx hb dX0_readTape_45 rfl (lv_at hl 2 rfl) ?_
    refine lv_icmp_ge (tgt := 105) hx hb dX0_readTape_46 (by decide) (fun c10 => ?_) (fun c10 => ?_)
    · have hk := ok_p c10 hk
      exact hE M (ok_s hk) _ _ _ w (lv_sub hl [] rfl)
    · have hk := ok_n c10 hk
      refine lv_iconst (v := 0) hx hb dX0_readTape_49 (by decide) ?_
      refine lv_istore (lv' := [(5, .int (0 : Int32)), (0, .ref r0), (1, .ref r1), (2, .int i2), (3, .int i3), (4, .int i4)]) hx hb dX0_readTape_50 hl (by decide) rfl (fun ls hl => ?_)
      refine wl_X0_readTape_52 X r0 r1 i2 i3 i4 (Qo := _) (fun q18 hk H locs ls w hl => ?_) FU (0 : Int32) M _ _ _ w (lv_sub hl [1, 2, 3, 4, 5, 0] rfl) (ok_b hk)
      refine lv_aload_n hx hb dX0_readTape_83 rfl (lv_at hl 0 rfl) ?_
      refine lv_iload hx hb dX0_readTape_84 (lv_at hl 4 rfl) ?_
      refine lv_aload_n hx hb dX0_readTape_86 rfl (lv_at hl 0 rfl) ?_
      obtain ⟨c21, hk⟩ := ok_c hk
      obtain ⟨q19, e20, hk⟩ := ok_b hk
      refine zVi X w (n := 0) (As := []) (rest := [.int i4, .ref r0]) (ci := 0) (C := RX0) (T := TX0) (N := 7) (c_X0_allStates l D cy G q18 r0 e20) (gzV wm_X0_36 wi_X0_allStates ws_X0_allStates wn_X0 wc_X0_allStates) rfl rfl rfl (by decide +kernel) (by decide) rfl c21 rfl rfl hl.1 (Nat.le_of_ble_eq_true rfl) dX0_readTape_87 ⟨Nat.zero_le _, Nat.zero_le _⟩ (fun H locs w => ?_)
      obtain ⟨q22, e23, hk⟩ := ok_b hk
      refine zVi X w (n := 2) (As := [.int i4, .int q19]) (rest := []) (ci := 0) (C := RX0) (T := TX0) (N := 7) (c_X0_into l D cy G q18 r0 i4 q19 e23) (gzV wm_X0_65 wi_X0_into ws_X0_into wn_X0 wc_X0_into) rfl rfl rfl (by decide +kernel) (by decide) rfl c21 rfl rfl hl.1 (Nat.le_of_ble_eq_true rfl) dX0_readTape_90 ⟨Nat.zero_le _, Nat.zero_le _⟩ (fun H locs w => ?_)
      refine lv_iload_n hx hb dX0_readTape_93 rfl (lv_at hl 3 rfl) ?_
      refine lv_icmp_eq (tgt := 99) hx hb dX0_readTape_94 (by decide) (fun c24 => ?_) (fun c24 => ?_)
      · have hk := ok_p c24 hk
        refine lv_iinc (v := (i4 + 1)) (lv' := [(4, .int (i4 + 1)), (0, .ref r0), (1, .ref r1), (2, .int i2), (3, .int i3)]) hx hb dX0_readTape_99 hl (k := 4) rfl rfl (by decide) rfl (fun ls hl => ?_)
        refine lv_goto (tgt := 43) hx hb dX0_readTape_102 (by decide) ?_
        exact hrec (i4 + 1) q18 _ _ _ w (lv_sub hl [1, 2, 3, 4, 0] rfl) hk
      · have hk := ok_n c24 hk
        refine lv_iconst (v := 0) hx hb dX0_readTape_97 (by decide) ?_
        have hk := hR _ (ok_s hk)
        exact zrz X hr hlk w dX0_readTape_98 (by decide) (pr1 hk) (pr2 hk)
theorem wl_X0_readTape_43 {p : Program} {l : Launch} {e : Env} {s : State} {m : MethodId} {args : Array Value} {below : List Frame} {meth : Method} {c : Code} {D : va_G} {cy : Cyy} {A : Nat → Prop} {G : Gg} (X : Cx p m c cX0_readTape 6 s args wz_X0_readTape RX0 D cy) (r0 : Nat) (r1 : Nat) (i2 : Int32) (i3 : Int32) (Qo : (Int32 × Mm) ⊕ (Mm) → Prop) (hr : meth.sig.returnType = (some .boolean)) (hlk : meth.locks = false) {x0 : Int32 × Mm} (hR : ∀ x, Qo (.inl x) → x = x0) (hE : ∀ (y : Mm), Qo (.inr y) → ∀ (H : Heap) (locs : List Loc) (ls : Array Slot), Wo s D cy A G y H locs → lv_has ls 6 [] → W p l e rm_X0_readTape s m args below meth c H locs 0 0 (MQ below (QI D cy G A x0.1 x0.2) args s 0 0 A) (F0 m 105 ls [])) : ∀ (n : Nat) (i4 : Int32) (M : Mm) (H : Heap) (locs : List Loc) (ls : Array Slot), Wo s D cy A G M H locs → lv_has ls 6 [(0, .ref r0), (1, .ref r1), (2, .int i2), (3, .int i3), (4, .int i4)] → OK (lp_X0_readTape_43 G r0 r1 i2 i3 n i4 M) Qo → W p l e rm_X0_readTape s m args below meth c H locs 0 0 (MQ below (QI D cy G A x0.1 x0.2) args s 0 0 A) (F0 m 43 ls []) := by
  intro n
  induction n with
  | zero => intro i4 M H locs ls w hl hk; exact ok_0 hk
  | succ n ih => intro i4 M H locs ls w hl hk; exact wb_X0_readTape_43 X r0 r1 i2 i3 Qo hr hlk hR hE  (lp_X0_readTape_43 G r0 r1 i2 i3 n) ih i4 M H locs ls w hl hk
set_option maxHeartbeats 4000000 in
set_option maxRecDepth 100000 in
theorem c_X0_readTape (l : Launch) (D : va_G) (cy : Cyy) (G : Gg) (M : Mm) (r0 : Nat) (r1 : Nat) (i2 : Int32) (i3 : Int32) {q : Int32 × Mm} (hm : f_X0_readTape G M r0 r1 i2 i3 = some q) : CI l yX0_readTape wz_X0_readTape rm_X0_readTape D cy G M [.ref r0, .ref r1, .int i2, .int i3] q.1 q.2 := by
  refine Met_of (Qf := fun A => QI D cy G A q.1 q.2) (cc := cX0_readTape) (nL := 6) (ret := (some .boolean)) (own := RX0) (lv := [(0, .ref r0), (1, .ref r1), (2, .int i2), (3, .int i3)]) (by decide) rfl rfl (Nat.le_of_ble_eq_true rfl) rfl ?_
  intro p e s m args below meth c A ls X hr hlk w hl
  have hx := X.1.1
  have hb := X.1.2.1
  obtain ⟨Qo, hR, hk⟩ : ∃ Qo : Int32 × Mm → Prop, (∀ x, Qo x → x = q) ∧ OK (f_X0_readTape G M r0 r1 i2 i3) Qo := ⟨fun x => x = q, fun _ h => h, q, hm, rfl⟩
  unfold f_X0_readTape at hk
  refine lv_iload_n hx hb dX0_readTape_0 rfl (lv_at hl 2 rfl) ?_
  refine lv_iconst (v := 1) hx hb dX0_readTape_1 (by decide) ?_
  refine lv_icmp_lt (tgt := 32) hx hb dX0_readTape_2 (by decide) (fun c1 => ?_) (fun c1 => ?_)
  · have hk := ok_p c1 hk
    refine lv_iconst (v := 0) hx hb dX0_readTape_32 (by decide) ?_
    have hk := hR _ (ok_s hk)
    exact zrz X hr hlk w dX0_readTape_33 (by decide) (pr1 hk) (pr2 hk)
  · have hk := ok_n c1 hk
    refine lv_iload_n hx hb dX0_readTape_5 rfl (lv_at hl 2 rfl) ?_
    refine lv_bipush (v := 8) hx hb dX0_readTape_6 (by decide) ?_
    refine lv_icmp_gt (tgt := 32) hx hb dX0_readTape_8 (by decide) (fun c2 => ?_) (fun c2 => ?_)
    · have hk := ok_p c2 hk
      refine lv_iconst (v := 0) hx hb dX0_readTape_32 (by decide) ?_
      have hk := hR _ (ok_s hk)
      exact zrz X hr hlk w dX0_readTape_33 (by decide) (pr1 hk) (pr2 hk)
    · have hk := ok_n c2 hk
      refine lv_iload_n hx hb dX0_readTape_11 rfl (lv_at hl 3 rfl) ?_
      refine lv_iconst (v := 1) hx hb dX0_readTape_12 (by decide) ?_
      refine lv_icmp_lt (tgt := 32) hx hb dX0_readTape_13 (by decide) (fun c3 => ?_) (fun c3 => ?_)
      · have hk := ok_p c3 hk
        refine lv_iconst (v := 0) hx hb dX0_readTape_32 (by decide) ?_
        have hk := hR _ (ok_s hk)
        exact zrz X hr hlk w dX0_readTape_33 (by decide) (pr1 hk) (pr2 hk)
      · have hk := ok_n c3 hk
        refine lv_iload_n hx hb dX0_readTape_16 rfl (lv_at hl 3 rfl) ?_
        refine lv_bipush (v := 60) hx hb dX0_readTape_17 (by decide) ?_
        refine lv_icmp_gt (tgt := 32) hx hb dX0_readTape_19 (by decide) (fun c4 => ?_) (fun c4 => ?_)
        · have hk := ok_p c4 hk
          refine lv_iconst (v := 0) hx hb dX0_readTape_32 (by decide) ?_
          have hk := hR _ (ok_s hk)
          exact zrz X hr hlk w dX0_readTape_33 (by decide) (pr1 hk) (pr2 hk)
        · have hk := ok_n c4 hk
          refine lv_aload_n hx hb dX0_readTape_22 rfl (lv_at hl 1 rfl) ?_
          obtain ⟨c5, hk⟩ := ok_c hk
          refine zgNi X w 6 1 48 "BlendBench" (C := RX6) (T := TX6) (N := 2) rfl ui_X6 (by decide) rfl (by decide +kernel) dX0_readTape_23 c5 ?_
          refine lv_iload_n hx hb dX0_readTape_26 rfl (lv_at hl 2 rfl) ?_
          refine lv_iload_n hx hb dX0_readTape_27 rfl (lv_at hl 2 rfl) ?_
          refine lv_imul hx hb dX0_readTape_28 ?_
          refine lv_icmp_eq (tgt := 34) hx hb dX0_readTape_29 (by decide) (fun c6 => ?_) (fun c6 => ?_)
          · have hk := ok_p c6 hk
            refine lv_aload_n hx hb dX0_readTape_34 rfl (lv_at hl 0 rfl) ?_
            refine lv_iload_n hx hb dX0_readTape_35 rfl (lv_at hl 2 rfl) ?_
            refine lv_iload_n hx hb dX0_readTape_36 rfl (lv_at hl 3 rfl) ?_
            obtain ⟨c9, hk⟩ := ok_c hk
            obtain ⟨q7, e8, hk⟩ := ok_b hk
            refine zVv X w (n := 2) (As := [.int i2, .int i3]) (rest := []) (ci := 0) (C := RX0) (T := TX0) (N := 7) (c_X0_begin l D cy G M r0 i2 i3 e8) (gzV wm_X0_53 wi_X0_begin ws_X0_begin wn_X0 wc_X0_begin) rfl rfl rfl (by decide +kernel) (by decide) rfl c9 rfl rfl hl.1 (Nat.le_of_ble_eq_true rfl) dX0_readTape_37 ⟨Nat.zero_le _, Nat.zero_le _⟩ (fun H locs w => ?_)
            refine lv_iconst (v := 0) hx hb dX0_readTape_40 (by decide) ?_
            refine lv_istore (lv' := [(4, .int (0 : Int32)), (0, .ref r0), (1, .ref r1), (2, .int i2), (3, .int i3)]) hx hb dX0_readTape_41 hl (by decide) rfl (fun ls hl => ?_)
            refine wl_X0_readTape_43 X r0 r1 i2 i3 (Qo := _) hr hlk (fun x h => hR x (ok_s (show OK (some x) Qo from h))) (fun y26 hk H locs ls w hl => ?_) FU (0 : Int32) q7 _ _ _ w (lv_sub hl [1, 2, 3, 4, 0] rfl) (ok_b hk)
            have hk := ok_r hk
            refine lv_iconst (v := 1) hx hb dX0_readTape_105 (by decide) ?_
            have hk := hR _ (ok_s hk)
            exact zrz X hr hlk w dX0_readTape_106 (by decide) (pr1 hk) (pr2 hk)
          · have hk := ok_n c6 hk
            refine lv_iconst (v := 0) hx hb dX0_readTape_32 (by decide) ?_
            have hk := hR _ (ok_s hk)
            exact zrz X hr hlk w dX0_readTape_33 (by decide) (pr1 hk) (pr2 hk)
abbrev rm_X0_makeLazyOf : Room := { frames := 2, cells := 0, slots := 0, locals := 44 }
set_option maxHeartbeats 4000000 in
set_option maxRecDepth 100000 in
theorem wb_X0_makeLazyOf_26 {p : Program} {l : Launch} {e : Env} {s : State} {m : MethodId} {args : Array Value} {below : List Frame} {meth : Method} {c : Code} {D : va_G} {cy : Cyy} {A : Nat → Prop} {G : Gg} (X : Cx p m c cX0_makeLazyOf 4 s args wz_X0_makeLazyOf RX0 D cy) {Q : State → Prop} (r0 : Nat) (r1 : Nat) (i2 : Int32) (Qo : Mm → Prop)  (hE : ∀ (y : Mm), Qo (y) → ∀ (H : Heap) (locs : List Loc) (ls : Array Slot), Wo s D cy A G y H locs → lv_has ls 4 [(0, .ref r0), (1, .ref r1), (2, .int i2)] → W p l e rm_X0_makeLazyOf s m args below meth c H locs 0 0 Q (F0 m 52 ls [])) (rec : Int32 → Mm → Option (Mm)) (hrec : ∀ (i3 : Int32) (M : Mm) (H : Heap) (locs : List Loc) (ls : Array Slot), Wo s D cy A G M H locs → lv_has ls 4 [(0, .ref r0), (1, .ref r1), (2, .int i2), (3, .int i3)] → OK (rec i3 M) Qo → W p l e rm_X0_makeLazyOf s m args below meth c H locs 0 0 Q (F0 m 26 ls [])) (i3 : Int32) (M : Mm) (H : Heap) (locs : List Loc) (ls : Array Slot) (w : Wo s D cy A G M H locs) (hl : lv_has ls 4 [(0, .ref r0), (1, .ref r1), (2, .int i2), (3, .int i3)]) (hk : OK (bd_X0_makeLazyOf_26 G r0 r1 i2 rec i3 M) Qo) : W p l e rm_X0_makeLazyOf s m args below meth c H locs 0 0 Q (F0 m 26 ls []) := by
    have hx := X.1.1
    have hb := X.1.2.1
    unfold bd_X0_makeLazyOf_26 at hk
    refine lv_iload_n hx hb dX0_makeLazyOf_26 rfl (lv_at hl 3 rfl) ?_
    refine lv_aload_n hx hb dX0_makeLazyOf_27 rfl (lv_at hl 0 rfl) ?_
    obtain ⟨c7, hk⟩ := ok_c hk
    refine zgi X w 0 0 9 (C := RX0) (T := TX0) (N := 7) rfl ui_X0 (by decide) rfl (tb wf_X0_9) dX0_makeLazyOf_28 c7 ?_
    refine lv_icmp_ge (tgt := 52) hx hb dX0_makeLazyOf_31 (by decide) (fun c8 => ?_) (fun c8 => ?_)
    · have hk := ok_p c8 hk
      exact hE M (ok_s hk) _ _ _ w (lv_sub hl [0, 1, 2] rfl)
    · have hk := ok_n c8 hk
      refine lv_aload_n hx hb dX0_makeLazyOf_34 rfl (lv_at hl 0 rfl) ?_
      refine lv_iload_n hx hb dX0_makeLazyOf_35 rfl (lv_at hl 2 rfl) ?_
      refine lv_iload_n hx hb dX0_makeLazyOf_36 rfl (lv_at hl 3 rfl) ?_
      refine lv_aload_n hx hb dX0_makeLazyOf_37 rfl (lv_at hl 1 rfl) ?_
      refine lv_iload_n hx hb dX0_makeLazyOf_38 rfl (lv_at hl 2 rfl) ?_
      refine lv_iload_n hx hb dX0_makeLazyOf_39 rfl (lv_at hl 3 rfl) ?_
      obtain ⟨c11, hk⟩ := ok_c hk
      obtain ⟨q9, e10, hk⟩ := ok_b hk
      refine zVi X w (n := 2) (As := [.int i2, .int i3]) (rest := [.int i3, .int i2, .ref r0]) (ci := 0) (C := RX0) (T := TX0) (N := 7) (c_X0_at l D cy G M r1 i2 i3 e10) (gzV wm_X0_69 wi_X0_at ws_X0_at wn_X0 wc_X0_at) rfl rfl rfl (by decide +kernel) (by decide) rfl c11 rfl rfl hl.1 (Nat.le_of_ble_eq_true rfl) dX0_makeLazyOf_40 ⟨Nat.zero_le _, Nat.zero_le _⟩ (fun H locs w => ?_)
      obtain ⟨q12, e13, hk⟩ := ok_b hk
      refine zVv X w (n := 3) (As := [.int i2, .int i3, .int q9]) (rest := []) (ci := 0) (C := RX0) (T := TX0) (N := 7) (c_X0_raise l D cy G M r0 i2 i3 q9 e13) (gzV wm_X0_61 wi_X0_raise ws_X0_raise wn_X0 wc_X0_raise) rfl rfl rfl (by decide +kernel) (by decide) rfl c7 rfl rfl hl.1 (Nat.le_of_ble_eq_true rfl) dX0_makeLazyOf_43 ⟨Nat.zero_le _, Nat.zero_le _⟩ (fun H locs w => ?_)
      refine lv_iinc (v := (i3 + 1)) (lv' := [(3, .int (i3 + 1)), (0, .ref r0), (1, .ref r1), (2, .int i2)]) hx hb dX0_makeLazyOf_46 hl (k := 3) rfl rfl (by decide) rfl (fun ls hl => ?_)
      refine lv_goto (tgt := 26) hx hb dX0_makeLazyOf_49 (by decide) ?_
      exact hrec (i3 + 1) q12 _ _ _ w (lv_sub hl [1, 2, 3, 0] rfl) hk
theorem wl_X0_makeLazyOf_26 {p : Program} {l : Launch} {e : Env} {s : State} {m : MethodId} {args : Array Value} {below : List Frame} {meth : Method} {c : Code} {D : va_G} {cy : Cyy} {A : Nat → Prop} {G : Gg} (X : Cx p m c cX0_makeLazyOf 4 s args wz_X0_makeLazyOf RX0 D cy) {Q : State → Prop} (r0 : Nat) (r1 : Nat) (i2 : Int32) (Qo : Mm → Prop)  (hE : ∀ (y : Mm), Qo (y) → ∀ (H : Heap) (locs : List Loc) (ls : Array Slot), Wo s D cy A G y H locs → lv_has ls 4 [(0, .ref r0), (1, .ref r1), (2, .int i2)] → W p l e rm_X0_makeLazyOf s m args below meth c H locs 0 0 Q (F0 m 52 ls [])) : ∀ (n : Nat) (i3 : Int32) (M : Mm) (H : Heap) (locs : List Loc) (ls : Array Slot), Wo s D cy A G M H locs → lv_has ls 4 [(0, .ref r0), (1, .ref r1), (2, .int i2), (3, .int i3)] → OK (lp_X0_makeLazyOf_26 G r0 r1 i2 n i3 M) Qo → W p l e rm_X0_makeLazyOf s m args below meth c H locs 0 0 Q (F0 m 26 ls []) := by
  intro n
  induction n with
  | zero => intro i3 M H locs ls w hl hk; exact ok_0 hk
  | succ n ih => intro i3 M H locs ls w hl hk; exact wb_X0_makeLazyOf_26 X r0 r1 i2 Qo hE  (lp_X0_makeLazyOf_26 G r0 r1 i2 n) ih i3 M H locs ls w hl hk
set_option maxHeartbeats 4000000 in
set_option maxRecDepth 100000 in
theorem wb_X0_makeLazyOf_16 {p : Program} {l : Launch} {e : Env} {s : State} {m : MethodId} {args : Array Value} {below : List Frame} {meth : Method} {c : Code} {D : va_G} {cy : Cyy} {A : Nat → Prop} {G : Gg} (X : Cx p m c cX0_makeLazyOf 4 s args wz_X0_makeLazyOf RX0 D cy) {Q : State → Prop} (r0 : Nat) (r1 : Nat) (Qo : Mm → Prop)  (hE : ∀ (y : Mm), Qo (y) → ∀ (H : Heap) (locs : List Loc) (ls : Array Slot), Wo s D cy A G y H locs → lv_has ls 4 [] → W p l e rm_X0_makeLazyOf s m args below meth c H locs 0 0 Q (F0 m 68 ls [])) (rec : Int32 → Mm → Option (Mm)) (hrec : ∀ (i2 : Int32) (M : Mm) (H : Heap) (locs : List Loc) (ls : Array Slot), Wo s D cy A G M H locs → lv_has ls 4 [(0, .ref r0), (1, .ref r1), (2, .int i2)] → OK (rec i2 M) Qo → W p l e rm_X0_makeLazyOf s m args below meth c H locs 0 0 Q (F0 m 16 ls [])) (i2 : Int32) (M : Mm) (H : Heap) (locs : List Loc) (ls : Array Slot) (w : Wo s D cy A G M H locs) (hl : lv_has ls 4 [(0, .ref r0), (1, .ref r1), (2, .int i2)]) (hk : OK (bd_X0_makeLazyOf_16 G r0 r1 rec i2 M) Qo) : W p l e rm_X0_makeLazyOf s m args below meth c H locs 0 0 Q (F0 m 16 ls []) := by
    have hx := X.1.1
    have hb := X.1.2.1
    unfold bd_X0_makeLazyOf_16 at hk
    refine lv_iload_n hx hb dX0_makeLazyOf_16 rfl (lv_at hl 2 rfl) ?_
    refine lv_aload_n hx hb dX0_makeLazyOf_17 rfl (lv_at hl 0 rfl) ?_
    obtain ⟨c5, hk⟩ := ok_c hk
    refine zgi X w 0 0 9 (C := RX0) (T := TX0) (N := 7) rfl ui_X0 (by decide) rfl (tb wf_X0_9) dX0_makeLazyOf_18 c5 ?_
    refine lv_icmp_ge (tgt := 68) hx hb dX0_makeLazyOf_21 (by decide) (fun c6 => ?_) (fun c6 => ?_)
    · have hk := ok_p c6 hk
      exact hE M (ok_s hk) _ _ _ w (lv_sub hl [] rfl)
    · have hk := ok_n c6 hk
      refine lv_iconst (v := 0) hx hb dX0_makeLazyOf_24 (by decide) ?_
      refine lv_istore_n (lv' := [(3, .int (0 : Int32)), (0, .ref r0), (1, .ref r1), (2, .int i2)]) hx hb dX0_makeLazyOf_25 rfl hl (by decide) rfl (fun ls hl => ?_)
      refine wl_X0_makeLazyOf_26 X r0 r1 i2 (Qo := _) (fun q14 hk H locs ls w hl => ?_) FU (0 : Int32) M _ _ _ w (lv_sub hl [1, 2, 3, 0] rfl) (ok_b hk)
      refine lv_aload_n hx hb dX0_makeLazyOf_52 rfl (lv_at hl 0 rfl) ?_
      refine lv_iload_n hx hb dX0_makeLazyOf_53 rfl (lv_at hl 2 rfl) ?_
      refine lv_iload_n hx hb dX0_makeLazyOf_54 rfl (lv_at hl 2 rfl) ?_
      refine lv_aload_n hx hb dX0_makeLazyOf_55 rfl (lv_at hl 1 rfl) ?_
      obtain ⟨c15, hk⟩ := ok_c hk
      refine zgi X w 0 1 15 (C := RX0) (T := TX0) (N := 7) rfl ui_X0 (by decide) rfl (tb wf_X0_15) dX0_makeLazyOf_56 c15 ?_
      obtain ⟨q16, e17, hk⟩ := ok_b hk
      refine zVv X w (n := 3) (As := [.int i2, .int i2, .int (q14.1 r1 1)]) (rest := []) (ci := 0) (C := RX0) (T := TX0) (N := 7) (c_X0_raise l D cy G q14 r0 i2 i2 (q14.1 r1 1) e17) (gzV wm_X0_61 wi_X0_raise ws_X0_raise wn_X0 wc_X0_raise) rfl rfl rfl (by decide +kernel) (by decide) rfl c5 rfl rfl hl.1 (Nat.le_of_ble_eq_true rfl) dX0_makeLazyOf_59 ⟨Nat.zero_le _, Nat.zero_le _⟩ (fun H locs w => ?_)
      refine lv_iinc (v := (i2 + 1)) (lv' := [(2, .int (i2 + 1)), (0, .ref r0), (1, .ref r1)]) hx hb dX0_makeLazyOf_62 hl (k := 2) rfl rfl (by decide) rfl (fun ls hl => ?_)
      refine lv_goto (tgt := 16) hx hb dX0_makeLazyOf_65 (by decide) ?_
      exact hrec (i2 + 1) q16 _ _ _ w (lv_sub hl [1, 2, 0] rfl) hk
theorem wl_X0_makeLazyOf_16 {p : Program} {l : Launch} {e : Env} {s : State} {m : MethodId} {args : Array Value} {below : List Frame} {meth : Method} {c : Code} {D : va_G} {cy : Cyy} {A : Nat → Prop} {G : Gg} (X : Cx p m c cX0_makeLazyOf 4 s args wz_X0_makeLazyOf RX0 D cy) {Q : State → Prop} (r0 : Nat) (r1 : Nat) (Qo : Mm → Prop)  (hE : ∀ (y : Mm), Qo (y) → ∀ (H : Heap) (locs : List Loc) (ls : Array Slot), Wo s D cy A G y H locs → lv_has ls 4 [] → W p l e rm_X0_makeLazyOf s m args below meth c H locs 0 0 Q (F0 m 68 ls [])) : ∀ (n : Nat) (i2 : Int32) (M : Mm) (H : Heap) (locs : List Loc) (ls : Array Slot), Wo s D cy A G M H locs → lv_has ls 4 [(0, .ref r0), (1, .ref r1), (2, .int i2)] → OK (lp_X0_makeLazyOf_16 G r0 r1 n i2 M) Qo → W p l e rm_X0_makeLazyOf s m args below meth c H locs 0 0 Q (F0 m 16 ls []) := by
  intro n
  induction n with
  | zero => intro i2 M H locs ls w hl hk; exact ok_0 hk
  | succ n ih => intro i2 M H locs ls w hl hk; exact wb_X0_makeLazyOf_16 X r0 r1 Qo hE  (lp_X0_makeLazyOf_16 G r0 r1 n) ih i2 M H locs ls w hl hk
set_option maxHeartbeats 4000000 in
set_option maxRecDepth 100000 in
theorem c_X0_makeLazyOf (l : Launch) (D : va_G) (cy : Cyy) (G : Gg) (M : Mm) (r0 : Nat) (r1 : Nat) {q : Mm} (hm : f_X0_makeLazyOf G M r0 r1 = some q) : CV l yX0_makeLazyOf wz_X0_makeLazyOf rm_X0_makeLazyOf D cy G M [.ref r0, .ref r1] q := by
  refine Met_of (Qf := fun A => QV D cy G A q) (cc := cX0_makeLazyOf) (nL := 4) (ret := none) (own := RX0) (lv := [(0, .ref r0), (1, .ref r1)]) (by decide) rfl rfl (Nat.le_of_ble_eq_true rfl) rfl ?_
  intro p e s m args below meth c A ls X hr hlk w hl
  have hx := X.1.1
  have hb := X.1.2.1
  obtain ⟨Qo, hR, hk⟩ : ∃ Qo : Mm → Prop, (∀ x, Qo x → x = q) ∧ OK (f_X0_makeLazyOf G M r0 r1) Qo := ⟨fun x => x = q, fun _ h => h, q, hm, rfl⟩
  unfold f_X0_makeLazyOf at hk
  refine lv_aload_n hx hb dX0_makeLazyOf_0 rfl (lv_at hl 0 rfl) ?_
  refine lv_aload_n hx hb dX0_makeLazyOf_1 rfl (lv_at hl 1 rfl) ?_
  obtain ⟨c1, hk⟩ := ok_c hk
  refine zgi X w 0 0 9 (C := RX0) (T := TX0) (N := 7) rfl ui_X0 (by decide) rfl (tb wf_X0_9) dX0_makeLazyOf_2 c1 ?_
  refine lv_iconst (v := 2) hx hb dX0_makeLazyOf_5 (by decide) ?_
  refine lv_aload_n hx hb dX0_makeLazyOf_6 rfl (lv_at hl 1 rfl) ?_
  refine zgi X w 0 1 15 (C := RX0) (T := TX0) (N := 7) rfl ui_X0 (by decide) rfl (tb wf_X0_15) dX0_makeLazyOf_7 c1 ?_
  refine lv_imul hx hb dX0_makeLazyOf_10 ?_
  obtain ⟨c4, hk⟩ := ok_c hk
  obtain ⟨q2, e3, hk⟩ := ok_b hk
  refine zVv X w (n := 2) (As := [.int (M.1 r1 0), .int ((2 : Int32) * (M.1 r1 1))]) (rest := []) (ci := 0) (C := RX0) (T := TX0) (N := 7) (c_X0_begin l D cy G M r0 (M.1 r1 0) ((2 : Int32) * (M.1 r1 1)) e3) (gzV wm_X0_53 wi_X0_begin ws_X0_begin wn_X0 wc_X0_begin) rfl rfl rfl (by decide +kernel) (by decide) rfl c4 rfl rfl hl.1 (Nat.le_of_ble_eq_true rfl) dX0_makeLazyOf_11 ⟨Nat.zero_le _, Nat.zero_le _⟩ (fun H locs w => ?_)
  refine lv_iconst (v := 0) hx hb dX0_makeLazyOf_14 (by decide) ?_
  refine lv_istore_n (lv' := [(2, .int (0 : Int32)), (0, .ref r0), (1, .ref r1)]) hx hb dX0_makeLazyOf_15 rfl hl (by decide) rfl (fun ls hl => ?_)
  refine wl_X0_makeLazyOf_16 X r0 r1 (Qo := _) (fun q18 hk H locs ls w hl => ?_) FU (0 : Int32) q2 _ _ _ w (lv_sub hl [1, 2, 0] rfl) (ok_b hk)
  have hk := hR _ (ok_s hk)
  exact zrv X hr hlk w dX0_makeLazyOf_68 hk
abbrev rm_X8_commonDivisor : Room := { frames := 0, cells := 0, slots := 0, locals := 0 }
set_option maxHeartbeats 4000000 in
set_option maxRecDepth 100000 in
theorem wb_X8_commonDivisor_9 {p : Program} {l : Launch} {e : Env} {s : State} {m : MethodId} {args : Array Value} {below : List Frame} {meth : Method} {c : Code} {D : va_G} {cy : Cyy} {A : Nat → Prop} {G : Gg} (X : Cx p m c cX8_commonDivisor 11 s args wz_X8_commonDivisor RX8 D cy) {Q : State → Prop} (M : Mm)  (Qo : Int64 → Prop)  (hE : ∀ (y : Int64), Qo (y) → ∀ (H : Heap) (locs : List Loc) (ls : Array Slot), Wo s D cy A G M H locs → lv_has ls 11 [(4, .long y)] → W p l e rm_X8_commonDivisor s m args below meth c H locs 0 0 Q (F0 m 45 ls [])) (rec : Int64 → Int64 → Int32 → Option (Int64)) (hrec : ∀ (l4 : Int64) (l6 : Int64) (i8 : Int32) (H : Heap) (locs : List Loc) (ls : Array Slot), Wo s D cy A G M H locs → lv_has ls 11 [(4, .long l4), (6, .long l6), (8, .int i8)] → OK (rec l4 l6 i8) Qo → W p l e rm_X8_commonDivisor s m args below meth c H locs 0 0 Q (F0 m 9 ls [])) (l4 : Int64) (l6 : Int64) (i8 : Int32) (H : Heap) (locs : List Loc) (ls : Array Slot) (w : Wo s D cy A G M H locs) (hl : lv_has ls 11 [(4, .long l4), (6, .long l6), (8, .int i8)]) (hk : OK (bd_X8_commonDivisor_9  rec l4 l6 i8) Qo) : W p l e rm_X8_commonDivisor s m args below meth c H locs 0 0 Q (F0 m 9 ls []) := by
    have hx := X.1.1
    have hb := X.1.2.1
    unfold bd_X8_commonDivisor_9 at hk
    refine lv_iload hx hb dX8_commonDivisor_9 (lv_at hl 2 rfl) ?_
    refine lv_sipush (v := 200) hx hb dX8_commonDivisor_11 (by decide) ?_
    refine lv_icmp_ge (tgt := 45) hx hb dX8_commonDivisor_14 (by decide) (fun c1 => ?_) (fun c1 => ?_)
    · have hk := ok_p c1 hk
      exact hE l4 (ok_s hk) _ _ _ w (lv_sub hl [0] rfl)
    · have hk := ok_n c1 hk
      refine lv_lload hx hb dX8_commonDivisor_17 (lv_at hl 1 rfl) ?_
      refine lv_lconst (v := 0) hx hb dX8_commonDivisor_19 (by decide) ?_
      refine W.lcmp hx hb dX8_commonDivisor_20 ?_
      refine lv_if_eq (tgt := 45) hx hb dX8_commonDivisor_21 (by decide) (fun c2 => ?_) (fun c2 => ?_)
      · have hk := ok_p c2 hk
        exact hE l4 (ok_s hk) _ _ _ w (lv_sub hl [0] rfl)
      · have hk := ok_n c2 hk
        refine lv_lload hx hb dX8_commonDivisor_24 (lv_at hl 0 rfl) ?_
        refine lv_lload hx hb dX8_commonDivisor_26 (lv_at hl 1 rfl) ?_
        obtain ⟨c3, hk⟩ := ok_c hk
        refine lv_lrem hx hb dX8_commonDivisor_28 c3 ?_
        refine lv_lstore (lv' := [(9, .long (l4 - l4 / l6 * l6)), (4, .long l4), (6, .long l6), (8, .int i8)]) hx hb dX8_commonDivisor_29 hl (by decide) rfl (fun ls hl => ?_)
        refine lv_lload hx hb dX8_commonDivisor_31 (lv_at hl 2 rfl) ?_
        refine lv_lstore (lv' := [(4, .long l6), (9, .long (l4 - l4 / l6 * l6)), (6, .long l6), (8, .int i8)]) hx hb dX8_commonDivisor_33 hl (by decide) rfl (fun ls hl => ?_)
        refine lv_lload hx hb dX8_commonDivisor_35 (lv_at hl 1 rfl) ?_
        refine lv_lstore (lv' := [(6, .long (l4 - l4 / l6 * l6)), (4, .long l6), (9, .long (l4 - l4 / l6 * l6)), (8, .int i8)]) hx hb dX8_commonDivisor_37 hl (by decide) rfl (fun ls hl => ?_)
        refine lv_iinc (v := (i8 + 1)) (lv' := [(8, .int (i8 + 1)), (6, .long (l4 - l4 / l6 * l6)), (4, .long l6), (9, .long (l4 - l4 / l6 * l6))]) hx hb dX8_commonDivisor_39 hl (k := 3) rfl rfl (by decide) rfl (fun ls hl => ?_)
        refine lv_goto (tgt := 9) hx hb dX8_commonDivisor_42 (by decide) ?_
        exact hrec l6 (l4 - l4 / l6 * l6) (i8 + 1) _ _ _ w (lv_sub hl [2, 1, 0] rfl) hk
theorem wl_X8_commonDivisor_9 {p : Program} {l : Launch} {e : Env} {s : State} {m : MethodId} {args : Array Value} {below : List Frame} {meth : Method} {c : Code} {D : va_G} {cy : Cyy} {A : Nat → Prop} {G : Gg} (X : Cx p m c cX8_commonDivisor 11 s args wz_X8_commonDivisor RX8 D cy) {Q : State → Prop} (M : Mm)  (Qo : Int64 → Prop)  (hE : ∀ (y : Int64), Qo (y) → ∀ (H : Heap) (locs : List Loc) (ls : Array Slot), Wo s D cy A G M H locs → lv_has ls 11 [(4, .long y)] → W p l e rm_X8_commonDivisor s m args below meth c H locs 0 0 Q (F0 m 45 ls [])) : ∀ (n : Nat) (l4 : Int64) (l6 : Int64) (i8 : Int32) (H : Heap) (locs : List Loc) (ls : Array Slot), Wo s D cy A G M H locs → lv_has ls 11 [(4, .long l4), (6, .long l6), (8, .int i8)] → OK (lp_X8_commonDivisor_9  n l4 l6 i8) Qo → W p l e rm_X8_commonDivisor s m args below meth c H locs 0 0 Q (F0 m 9 ls []) := by
  intro n
  induction n with
  | zero => intro l4 l6 i8 H locs ls w hl hk; exact ok_0 hk
  | succ n ih => intro l4 l6 i8 H locs ls w hl hk; exact wb_X8_commonDivisor_9 X M  Qo hE  (lp_X8_commonDivisor_9  n) ih l4 l6 i8 H locs ls w hl hk
set_option maxHeartbeats 4000000 in
set_option maxRecDepth 100000 in
theorem c_X8_commonDivisor (l : Launch) (D : va_G) (cy : Cyy) (G : Gg) (M : Mm) (l0 : Int64) (l2 : Int64) {q : Int64} (hm : f_X8_commonDivisor l0 l2 = some q) : CL l yX8_commonDivisor wz_X8_commonDivisor rm_X8_commonDivisor D cy G M [.long l0, .long l2] q M := by
  refine Met_of (Qf := fun A => QL D cy G A q M) (cc := cX8_commonDivisor) (nL := 11) (ret := (some .long)) (own := RX8) (lv := [(0, .long l0), (2, .long l2)]) (by decide) rfl rfl (Nat.le_of_ble_eq_true rfl) rfl ?_
  intro p e s m args below meth c A ls X hr hlk w hl
  have hx := X.1.1
  have hb := X.1.2.1
  obtain ⟨Qo, hR, hk⟩ : ∃ Qo : Int64 → Prop, (∀ x, Qo x → x = q) ∧ OK (f_X8_commonDivisor l0 l2) Qo := ⟨fun x => x = q, fun _ h => h, q, hm, rfl⟩
  unfold f_X8_commonDivisor at hk
  refine lv_lload_n hx hb dX8_commonDivisor_0 rfl (lv_at hl 0 rfl) ?_
  refine lv_lstore (lv' := [(4, .long l0), (0, .long l0), (2, .long l2)]) hx hb dX8_commonDivisor_1 hl (by decide) rfl (fun ls hl => ?_)
  refine lv_lload_n hx hb dX8_commonDivisor_3 rfl (lv_at hl 2 rfl) ?_
  refine lv_lstore (lv' := [(6, .long l2), (4, .long l0), (0, .long l0), (2, .long l2)]) hx hb dX8_commonDivisor_4 hl (by decide) rfl (fun ls hl => ?_)
  refine lv_iconst (v := 0) hx hb dX8_commonDivisor_6 (by decide) ?_
  refine lv_istore (lv' := [(8, .int (0 : Int32)), (6, .long l2), (4, .long l0), (0, .long l0), (2, .long l2)]) hx hb dX8_commonDivisor_7 hl (by decide) rfl (fun ls hl => ?_)
  refine wl_X8_commonDivisor_9 X M  (Qo := _) (fun q4 hk H locs ls w hl => ?_) FU l0 l2 (0 : Int32) _ _ _ w (lv_sub hl [2, 1, 0] rfl) (ok_b hk)
  refine lv_lload hx hb dX8_commonDivisor_45 (lv_at hl 0 rfl) ?_
  have hk := hR _ (ok_s hk)
  exact zrl X hr hlk w dX8_commonDivisor_47 hk rfl
abbrev rm_X1_put : Room := { frames := 1, cells := 0, slots := 0, locals := 30 }
set_option maxHeartbeats 4000000 in
set_option maxRecDepth 100000 in
theorem c_X1_put (l : Launch) (D : va_G) (cy : Cyy) (G : Gg) (M : Mm) (r0 : Nat) (l1 : Int64) (l3 : Int64) {q : Mm} (hm : f_X1_put G M r0 l1 l3 = some q) : CV l yX1_put wz_X1_put rm_X1_put D cy G M [.ref r0, .long l1, .long l3] q := by
  refine Met_of (Qf := fun A => QV D cy G A q) (cc := cX1_put) (nL := 7) (ret := none) (own := RX1) (lv := [(0, .ref r0), (1, .long l1), (3, .long l3)]) (by decide) rfl rfl (Nat.le_of_ble_eq_true rfl) rfl ?_
  intro p e s m args below meth c A ls X hr hlk w hl
  have hx := X.1.1
  have hb := X.1.2.1
  obtain ⟨Qo, hR, hk⟩ : ∃ Qo : Mm → Prop, (∀ x, Qo x → x = q) ∧ OK (f_X1_put G M r0 l1 l3) Qo := ⟨fun x => x = q, fun _ h => h, q, hm, rfl⟩
  unfold f_X1_put at hk
  refine lv_lload_n hx hb dX1_put_0 rfl (lv_at hl 1 rfl) ?_
  refine lv_lload_n hx hb dX1_put_1 rfl (lv_at hl 2 rfl) ?_
  obtain ⟨q1, e2, hk⟩ := ok_b hk
  refine zNl X w (n := 2) (As := [.long l1, .long l3]) (rest := []) (host := "BlendBench") (c_X8_commonDivisor l D cy G M l1 l3 e2) (gzN wc_X8_commonDivisor) rfl rfl rfl (by decide +kernel) (tb wn_X8) (tb wt_X8_commonDivisor) (by decide +kernel) (by decide) rfl rfl hl.1 (Nat.le_of_ble_eq_true rfl) dX1_put_2 ⟨Nat.zero_le _, Nat.zero_le _⟩ (fun H locs w => ?_)
  refine lv_lstore (lv' := [(5, .long q1), (0, .ref r0), (1, .long l1), (3, .long l3)]) hx hb dX1_put_5 hl (by decide) rfl (fun ls hl => ?_)
  refine lv_lload hx hb dX1_put_7 (lv_at hl 0 rfl) ?_
  refine lv_lconst (v := 0) hx hb dX1_put_9 (by decide) ?_
  refine W.lcmp hx hb dX1_put_10 ?_
  refine lv_if_ne (tgt := 15) hx hb dX1_put_11 (by decide) (fun c3 => ?_) (fun c3 => ?_)
  · have hk := ok_n c3 hk
    refine lv_aload_n hx hb dX1_put_15 rfl (lv_at hl 1 rfl) ?_
    refine lv_lload_n hx hb dX1_put_16 rfl (lv_at hl 2 rfl) ?_
    refine lv_lload hx hb dX1_put_17 (lv_at hl 0 rfl) ?_
    obtain ⟨c4, hk⟩ := ok_c hk
    refine lv_ldiv hx hb dX1_put_19 c4 ?_
    obtain ⟨c5, hk⟩ := ok_c hk
    refine zpl X w 1 0 7 tyX1 (C := RX1) (T := TX1) (N := 2) rfl ui_X1 tyX1_ok nmX1 (by decide) rfl (tb wf_X1_7) rfl rfl dX1_put_20 c5 (fun H locs w => ?_)
    refine lv_aload_n hx hb dX1_put_23 rfl (lv_at hl 1 rfl) ?_
    refine lv_lload_n hx hb dX1_put_24 rfl (lv_at hl 3 rfl) ?_
    refine lv_lload hx hb dX1_put_25 (lv_at hl 0 rfl) ?_
    refine lv_ldiv hx hb dX1_put_27 c4 ?_
    refine zpl X w 1 1 13 tyX1 (C := RX1) (T := TX1) (N := 2) rfl ui_X1 tyX1_ok nmX1 (by decide) rfl (tb wf_X1_13) rfl rfl dX1_put_28 c5 (fun H locs w => ?_)
    have hk := hR _ (ok_s hk)
    exact zrv X hr hlk w dX1_put_31 hk
  · have hk := ok_p c3 hk
    have hk := hR _ (ok_s hk)
    exact zrv X hr hlk w dX1_put_14 hk
abbrev rm_X0_putBackChance : Room := { frames := 2, cells := 0, slots := 0, locals := 56 }
set_option maxHeartbeats 4000000 in
set_option maxRecDepth 100000 in
theorem c_X0_putBackChance (l : Launch) (D : va_G) (cy : Cyy) (G : Gg) (M : Mm) (r0 : Nat) (i1 : Int32) (i2 : Int32) (r3 : Nat) {q : Mm} (hm : f_X0_putBackChance G M r0 i1 i2 r3 = some q) : CV l yX0_putBackChance wz_X0_putBackChance rm_X0_putBackChance D cy G M [.ref r0, .int i1, .int i2, .ref r3] q := by
  refine Met_of (Qf := fun A => QV D cy G A q) (cc := cX0_putBackChance) (nL := 4) (ret := none) (own := RX0) (lv := [(0, .ref r0), (1, .int i1), (2, .int i2), (3, .ref r3)]) (by decide) rfl rfl (Nat.le_of_ble_eq_true rfl) rfl ?_
  intro p e s m args below meth c A ls X hr hlk w hl
  have hx := X.1.1
  have hb := X.1.2.1
  obtain ⟨Qo, hR, hk⟩ : ∃ Qo : Mm → Prop, (∀ x, Qo x → x = q) ∧ OK (f_X0_putBackChance G M r0 i1 i2 r3) Qo := ⟨fun x => x = q, fun _ h => h, q, hm, rfl⟩
  unfold f_X0_putBackChance at hk
  refine lv_aload_n hx hb dX0_putBackChance_0 rfl (lv_at hl 0 rfl) ?_
  refine lv_iload_n hx hb dX0_putBackChance_1 rfl (lv_at hl 1 rfl) ?_
  obtain ⟨c3, hk⟩ := ok_c hk
  obtain ⟨q1, e2, hk⟩ := ok_b hk
  refine zVi X w (n := 1) (As := [.int i1]) (rest := []) (ci := 0) (C := RX0) (T := TX0) (N := 7) (c_X0_isState l D cy G M r0 i1 e2) (gzV wm_X0_40 wi_X0_isState ws_X0_isState wn_X0 wc_X0_isState) rfl rfl rfl (by decide +kernel) (by decide) rfl c3 rfl rfl hl.1 (Nat.le_of_ble_eq_true rfl) dX0_putBackChance_2 ⟨Nat.zero_le _, Nat.zero_le _⟩ (fun H locs w => ?_)
  refine lv_if_eq (tgt := 46) hx hb dX0_putBackChance_5 (by decide) (fun c4 => ?_) (fun c4 => ?_)
  · have hk := ok_p c4 hk
    have hk := hR _ (ok_s hk)
    exact zrv X hr hlk w dX0_putBackChance_46 hk
  · have hk := ok_n c4 hk
    refine lv_aload_n hx hb dX0_putBackChance_8 rfl (lv_at hl 0 rfl) ?_
    refine lv_iload_n hx hb dX0_putBackChance_9 rfl (lv_at hl 2 rfl) ?_
    obtain ⟨q5, e6, hk⟩ := ok_b hk
    refine zVi X w (n := 1) (As := [.int i2]) (rest := []) (ci := 0) (C := RX0) (T := TX0) (N := 7) (c_X0_isState l D cy G M r0 i2 e6) (gzV wm_X0_40 wi_X0_isState ws_X0_isState wn_X0 wc_X0_isState) rfl rfl rfl (by decide +kernel) (by decide) rfl c3 rfl rfl hl.1 (Nat.le_of_ble_eq_true rfl) dX0_putBackChance_10 ⟨Nat.zero_le _, Nat.zero_le _⟩ (fun H locs w => ?_)
    refine lv_if_eq (tgt := 46) hx hb dX0_putBackChance_13 (by decide) (fun c7 => ?_) (fun c7 => ?_)
    · have hk := ok_p c7 hk
      have hk := hR _ (ok_s hk)
      exact zrv X hr hlk w dX0_putBackChance_46 hk
    · have hk := ok_n c7 hk
      refine lv_aload_n hx hb dX0_putBackChance_16 rfl (lv_at hl 3 rfl) ?_
      refine lv_aload_n hx hb dX0_putBackChance_17 rfl (lv_at hl 0 rfl) ?_
      obtain ⟨r8, e9, hk⟩ := ok_b hk
      refine zgr X w 0 5 28 (C := RX0) (T := TX0) (N := 7) rfl ui_X0 (by decide) rfl (tb wf_X0_28) dX0_putBackChance_18 c3 e9 ?_
      refine lv_iload_n hx hb dX0_putBackChance_21 rfl (lv_at hl 2 rfl) ?_
      obtain ⟨c10, hk⟩ := ok_c hk
      obtain ⟨c11, hk⟩ := ok_c hk
      refine zal X w dX0_putBackChance_22 c10 c11 ?_
      refine lv_aload_n hx hb dX0_putBackChance_23 rfl (lv_at hl 0 rfl) ?_
      refine lv_iload_n hx hb dX0_putBackChance_24 rfl (lv_at hl 2 rfl) ?_
      refine lv_iload_n hx hb dX0_putBackChance_25 rfl (lv_at hl 1 rfl) ?_
      obtain ⟨q12, e13, hk⟩ := ok_b hk
      refine zVi X w (n := 2) (As := [.int i2, .int i1]) (rest := [.long (M.2.1 r8 (Int32.toNatClampNeg i2)), .ref r3]) (ci := 0) (C := RX0) (T := TX0) (N := 7) (c_X0_at l D cy G M r0 i2 i1 e13) (gzV wm_X0_69 wi_X0_at ws_X0_at wn_X0 wc_X0_at) rfl rfl rfl (by decide +kernel) (by decide) rfl c3 rfl rfl hl.1 (Nat.le_of_ble_eq_true rfl) dX0_putBackChance_26 ⟨Nat.zero_le _, Nat.zero_le _⟩ (fun H locs w => ?_)
      refine lv_i2l hx hb dX0_putBackChance_29 rfl ?_
      refine lv_lmul hx hb dX0_putBackChance_30 ?_
      refine lv_aload_n hx hb dX0_putBackChance_31 rfl (lv_at hl 0 rfl) ?_
      refine zgr X w 0 5 28 (C := RX0) (T := TX0) (N := 7) rfl ui_X0 (by decide) rfl (tb wf_X0_28) dX0_putBackChance_32 c3 e9 ?_
      refine lv_iload_n hx hb dX0_putBackChance_35 rfl (lv_at hl 1 rfl) ?_
      obtain ⟨c14, hk⟩ := ok_c hk
      refine zal X w dX0_putBackChance_36 c10 c14 ?_
      refine lv_aload_n hx hb dX0_putBackChance_37 rfl (lv_at hl 0 rfl) ?_
      refine zgi X w 0 1 15 (C := RX0) (T := TX0) (N := 7) rfl ui_X0 (by decide) rfl (tb wf_X0_15) dX0_putBackChance_38 c3 ?_
      refine lv_i2l hx hb dX0_putBackChance_41 rfl ?_
      refine lv_lmul hx hb dX0_putBackChance_42 ?_
      obtain ⟨c17, hk⟩ := ok_c hk
      obtain ⟨q15, e16, hk⟩ := ok_b hk
      refine zVv X w (n := 2) (As := [.long ((M.2.1 r8 (Int32.toNatClampNeg i2)) * (Int32.toInt64 q12)), .long ((M.2.1 r8 (Int32.toNatClampNeg i1)) * (Int32.toInt64 (M.1 r0 1)))]) (rest := []) (ci := 1) (C := RX1) (T := TX1) (N := 2) (c_X1_put l D cy G M r3 ((M.2.1 r8 (Int32.toNatClampNeg i2)) * (Int32.toInt64 q12)) ((M.2.1 r8 (Int32.toNatClampNeg i1)) * (Int32.toInt64 (M.1 r0 1))) e16) (gzV wm_X0_93 wi_X1_put ws_X1_put wn_X1 wc_X1_put) rfl rfl rfl (by decide +kernel) (by decide) rfl c17 rfl rfl hl.1 (Nat.le_of_ble_eq_true rfl) dX0_putBackChance_43 ⟨Nat.zero_le _, Nat.zero_le _⟩ (fun H locs w => ?_)
      have hk := hR _ (ok_s hk)
      exact zrv X hr hlk w dX0_putBackChance_46 hk
abbrev rm_X0_backQ : Room := { frames := 3, cells := 0, slots := 0, locals := 79 }
set_option maxHeartbeats 4000000 in
set_option maxRecDepth 100000 in
theorem wb_X0_backQ_17 {p : Program} {l : Launch} {e : Env} {s : State} {m : MethodId} {args : Array Value} {below : List Frame} {meth : Method} {c : Code} {D : va_G} {cy : Cyy} {A : Nat → Prop} {G : Gg} (X : Cx p m c cX0_backQ 8 s args wz_X0_backQ RX0 D cy) (r0 : Nat) (r1 : Nat) (i4 : Int32) (Qo : (Int32 × Mm) ⊕ (Int64 × Mm) → Prop) (hr : meth.sig.returnType = (some .int)) (hlk : meth.locks = false) {x0 : Int32 × Mm} (hR : ∀ x, Qo (.inl x) → x = x0) (hE : ∀ (y : Int64 × Mm), Qo (.inr y) → ∀ (H : Heap) (locs : List Loc) (ls : Array Slot), Wo s D cy A G y.2 H locs → lv_has ls 8 [(0, .ref r0), (1, .ref r1), (2, .long y.1), (4, .int i4)] → W p l e rm_X0_backQ s m args below meth c H locs 0 0 (MQ below (QI D cy G A x0.1 x0.2) args s 0 0 A) (F0 m 93 ls [])) (rec : Int64 → Int32 → Mm → Option ((Int32 × Mm) ⊕ (Int64 × Mm))) (hrec : ∀ (l2 : Int64) (i5 : Int32) (M : Mm) (H : Heap) (locs : List Loc) (ls : Array Slot), Wo s D cy A G M H locs → lv_has ls 8 [(0, .ref r0), (1, .ref r1), (2, .long l2), (4, .int i4), (5, .int i5)] → OK (rec l2 i5 M) Qo → W p l e rm_X0_backQ s m args below meth c H locs 0 0 (MQ below (QI D cy G A x0.1 x0.2) args s 0 0 A) (F0 m 17 ls [])) (l2 : Int64) (i5 : Int32) (M : Mm) (H : Heap) (locs : List Loc) (ls : Array Slot) (w : Wo s D cy A G M H locs) (hl : lv_has ls 8 [(0, .ref r0), (1, .ref r1), (2, .long l2), (4, .int i4), (5, .int i5)]) (hk : OK (bd_X0_backQ_17 G r0 r1 i4 rec l2 i5 M) Qo) : W p l e rm_X0_backQ s m args below meth c H locs 0 0 (MQ below (QI D cy G A x0.1 x0.2) args s 0 0 A) (F0 m 17 ls []) := by
    have hx := X.1.1
    have hb := X.1.2.1
    unfold bd_X0_backQ_17 at hk
    refine lv_iload hx hb dX0_backQ_17 (lv_at hl 4 rfl) ?_
    refine lv_aload_n hx hb dX0_backQ_19 rfl (lv_at hl 0 rfl) ?_
    obtain ⟨c3, hk⟩ := ok_c hk
    refine zgi X w 0 0 9 (C := RX0) (T := TX0) (N := 7) rfl ui_X0 (by decide) rfl (tb wf_X0_9) dX0_backQ_20 c3 ?_
    refine lv_icmp_ge (tgt := 93) hx hb dX0_backQ_23 (by decide) (fun c4 => ?_) (fun c4 => ?_)
    · have hk := ok_p c4 hk
      exact hE (l2, M) (ok_s hk) _ _ _ w (lv_sub hl [0, 1, 2, 3] rfl)
    · have hk := ok_n c4 hk
      refine lv_aload_n hx hb dX0_backQ_26 rfl (lv_at hl 0 rfl) ?_
      refine lv_iload hx hb dX0_backQ_27 (lv_at hl 3 rfl) ?_
      refine lv_iload hx hb dX0_backQ_29 (lv_at hl 4 rfl) ?_
      refine lv_aload_n hx hb dX0_backQ_31 rfl (lv_at hl 1 rfl) ?_
      obtain ⟨q5, e6, hk⟩ := ok_b hk
      refine zVv X w (n := 3) (As := [.int i4, .int i5, .ref r1]) (rest := []) (ci := 0) (C := RX0) (T := TX0) (N := 7) (c_X0_putBackChance l D cy G M r0 i4 i5 r1 e6) (gzV wm_X0_75 wi_X0_putBackChance ws_X0_putBackChance wn_X0 wc_X0_putBackChance) rfl rfl rfl (by decide +kernel) (by decide) rfl c3 rfl rfl hl.1 (Nat.le_of_ble_eq_true rfl) dX0_backQ_32 ⟨Nat.zero_le _, Nat.zero_le _⟩ (fun H locs w => ?_)
      refine lv_lload_n hx hb dX0_backQ_35 rfl (lv_at hl 2 rfl) ?_
      refine lv_aload_n hx hb dX0_backQ_36 rfl (lv_at hl 1 rfl) ?_
      obtain ⟨c7, hk⟩ := ok_c hk
      refine zgNl X w 1 1 79 "BlendBench" (C := RX1) (T := TX1) (N := 2) rfl ui_X1 (by decide) rfl (by decide +kernel) dX0_backQ_37 c7 ?_
      obtain ⟨q8, e9, hk⟩ := ok_b hk
      refine zNl X w (n := 2) (As := [.long l2, .long (q5.2.1 r1 1)]) (rest := []) (host := "BlendBench") (c_X8_commonDivisor l D cy G q5 l2 (q5.2.1 r1 1) e9) (gzN wc_X8_commonDivisor) rfl rfl rfl (by decide +kernel) (tb wn_X8) (tb wt_X8_commonDivisor) (by decide +kernel) (by decide) rfl rfl hl.1 (Nat.le_of_ble_eq_true rfl) dX0_backQ_40 ⟨Nat.zero_le _, Nat.zero_le _⟩ (fun H locs w => ?_)
      refine lv_lstore (lv' := [(6, .long q8), (0, .ref r0), (1, .ref r1), (2, .long l2), (4, .int i4), (5, .int i5)]) hx hb dX0_backQ_43 hl (by decide) rfl (fun ls hl => ?_)
      refine lv_aload_n hx hb dX0_backQ_45 rfl (lv_at hl 2 rfl) ?_
      refine zgNl X w 1 1 79 "BlendBench" (C := RX1) (T := TX1) (N := 2) rfl ui_X1 (by decide) rfl (by decide +kernel) dX0_backQ_46 c7 ?_
      refine zldc2 X (v := 60) (tb wk_X0_91) dX0_backQ_49 ?_
      refine W.lcmp hx hb dX0_backQ_52 ?_
      refine lv_if_gt (tgt := 63) hx hb dX0_backQ_53 (by decide) (fun c10 => ?_) (fun c10 => ?_)
      · have hk := ok_p c10 hk
        refine lv_bipush (v := 61) hx hb dX0_backQ_63 (by decide) ?_
        have hk := hR _ (ok_s hk)
        exact zri X hr hlk w dX0_backQ_65 (pr1 hk) (pr2 hk)
      · have hk := ok_n c10 hk
        refine lv_lload hx hb dX0_backQ_56 (lv_at hl 0 rfl) ?_
        refine lv_lconst (v := 0) hx hb dX0_backQ_58 (by decide) ?_
        refine W.lcmp hx hb dX0_backQ_59 ?_
        refine lv_if_ne (tgt := 66) hx hb dX0_backQ_60 (by decide) (fun c11 => ?_) (fun c11 => ?_)
        · have hk := ok_n c11 hk
          refine lv_lload_n hx hb dX0_backQ_66 rfl (lv_at hl 3 rfl) ?_
          refine lv_lload hx hb dX0_backQ_67 (lv_at hl 0 rfl) ?_
          obtain ⟨c12, hk⟩ := ok_c hk
          refine lv_ldiv hx hb dX0_backQ_69 c12 ?_
          refine lv_aload_n hx hb dX0_backQ_70 rfl (lv_at hl 2 rfl) ?_
          refine zgNl X w 1 1 79 "BlendBench" (C := RX1) (T := TX1) (N := 2) rfl ui_X1 (by decide) rfl (by decide +kernel) dX0_backQ_71 c7 ?_
          refine lv_lmul hx hb dX0_backQ_74 ?_
          refine lv_lstore_n (lv' := [(2, .long ((l2 / q8) * (q5.2.1 r1 1))), (6, .long q8), (0, .ref r0), (1, .ref r1), (4, .int i4), (5, .int i5)]) hx hb dX0_backQ_75 rfl hl (by decide) rfl (fun ls hl => ?_)
          refine lv_lload_n hx hb dX0_backQ_76 rfl (lv_at hl 0 rfl) ?_
          refine zldc2 X (v := 60) (tb wk_X0_91) dX0_backQ_77 ?_
          refine W.lcmp hx hb dX0_backQ_80 ?_
          refine lv_if_le (tgt := 87) hx hb dX0_backQ_81 (by decide) (fun c13 => ?_) (fun c13 => ?_)
          · have hk := ok_p c13 hk
            refine lv_iinc (v := (i5 + 1)) (lv' := [(5, .int (i5 + 1)), (2, .long ((l2 / q8) * (q5.2.1 r1 1))), (6, .long q8), (0, .ref r0), (1, .ref r1), (4, .int i4)]) hx hb dX0_backQ_87 hl (k := 5) rfl rfl (by decide) rfl (fun ls hl => ?_)
            refine lv_goto (tgt := 17) hx hb dX0_backQ_90 (by decide) ?_
            exact hrec ((l2 / q8) * (q5.2.1 r1 1)) (i5 + 1) q5 _ _ _ w (lv_sub hl [3, 4, 1, 5, 0] rfl) hk
          · have hk := ok_n c13 hk
            refine lv_bipush (v := 61) hx hb dX0_backQ_84 (by decide) ?_
            have hk := hR _ (ok_s hk)
            exact zri X hr hlk w dX0_backQ_86 (pr1 hk) (pr2 hk)
        · have hk := ok_p c11 hk
          refine lv_bipush (v := 61) hx hb dX0_backQ_63 (by decide) ?_
          have hk := hR _ (ok_s hk)
          exact zri X hr hlk w dX0_backQ_65 (pr1 hk) (pr2 hk)
theorem wl_X0_backQ_17 {p : Program} {l : Launch} {e : Env} {s : State} {m : MethodId} {args : Array Value} {below : List Frame} {meth : Method} {c : Code} {D : va_G} {cy : Cyy} {A : Nat → Prop} {G : Gg} (X : Cx p m c cX0_backQ 8 s args wz_X0_backQ RX0 D cy) (r0 : Nat) (r1 : Nat) (i4 : Int32) (Qo : (Int32 × Mm) ⊕ (Int64 × Mm) → Prop) (hr : meth.sig.returnType = (some .int)) (hlk : meth.locks = false) {x0 : Int32 × Mm} (hR : ∀ x, Qo (.inl x) → x = x0) (hE : ∀ (y : Int64 × Mm), Qo (.inr y) → ∀ (H : Heap) (locs : List Loc) (ls : Array Slot), Wo s D cy A G y.2 H locs → lv_has ls 8 [(0, .ref r0), (1, .ref r1), (2, .long y.1), (4, .int i4)] → W p l e rm_X0_backQ s m args below meth c H locs 0 0 (MQ below (QI D cy G A x0.1 x0.2) args s 0 0 A) (F0 m 93 ls [])) : ∀ (n : Nat) (l2 : Int64) (i5 : Int32) (M : Mm) (H : Heap) (locs : List Loc) (ls : Array Slot), Wo s D cy A G M H locs → lv_has ls 8 [(0, .ref r0), (1, .ref r1), (2, .long l2), (4, .int i4), (5, .int i5)] → OK (lp_X0_backQ_17 G r0 r1 i4 n l2 i5 M) Qo → W p l e rm_X0_backQ s m args below meth c H locs 0 0 (MQ below (QI D cy G A x0.1 x0.2) args s 0 0 A) (F0 m 17 ls []) := by
  intro n
  induction n with
  | zero => intro l2 i5 M H locs ls w hl hk; exact ok_0 hk
  | succ n ih => intro l2 i5 M H locs ls w hl hk; exact wb_X0_backQ_17 X r0 r1 i4 Qo hr hlk hR hE  (lp_X0_backQ_17 G r0 r1 i4 n) ih l2 i5 M H locs ls w hl hk
set_option maxHeartbeats 4000000 in
set_option maxRecDepth 100000 in
theorem wb_X0_backQ_5 {p : Program} {l : Launch} {e : Env} {s : State} {m : MethodId} {args : Array Value} {below : List Frame} {meth : Method} {c : Code} {D : va_G} {cy : Cyy} {A : Nat → Prop} {G : Gg} (X : Cx p m c cX0_backQ 8 s args wz_X0_backQ RX0 D cy) (r0 : Nat) (r1 : Nat) (Qo : (Int32 × Mm) ⊕ (Int64 × Mm) → Prop) (hr : meth.sig.returnType = (some .int)) (hlk : meth.locks = false) {x0 : Int32 × Mm} (hR : ∀ x, Qo (.inl x) → x = x0) (hE : ∀ (y : Int64 × Mm), Qo (.inr y) → ∀ (H : Heap) (locs : List Loc) (ls : Array Slot), Wo s D cy A G y.2 H locs → lv_has ls 8 [(2, .long y.1)] → W p l e rm_X0_backQ s m args below meth c H locs 0 0 (MQ below (QI D cy G A x0.1 x0.2) args s 0 0 A) (F0 m 99 ls [])) (rec : Int64 → Int32 → Mm → Option ((Int32 × Mm) ⊕ (Int64 × Mm))) (hrec : ∀ (l2 : Int64) (i4 : Int32) (M : Mm) (H : Heap) (locs : List Loc) (ls : Array Slot), Wo s D cy A G M H locs → lv_has ls 8 [(0, .ref r0), (1, .ref r1), (2, .long l2), (4, .int i4)] → OK (rec l2 i4 M) Qo → W p l e rm_X0_backQ s m args below meth c H locs 0 0 (MQ below (QI D cy G A x0.1 x0.2) args s 0 0 A) (F0 m 5 ls [])) (l2 : Int64) (i4 : Int32) (M : Mm) (H : Heap) (locs : List Loc) (ls : Array Slot) (w : Wo s D cy A G M H locs) (hl : lv_has ls 8 [(0, .ref r0), (1, .ref r1), (2, .long l2), (4, .int i4)]) (hk : OK (bd_X0_backQ_5 G r0 r1 rec l2 i4 M) Qo) : W p l e rm_X0_backQ s m args below meth c H locs 0 0 (MQ below (QI D cy G A x0.1 x0.2) args s 0 0 A) (F0 m 5 ls []) := by
    have hx := X.1.1
    have hb := X.1.2.1
    unfold bd_X0_backQ_5 at hk
    refine lv_iload hx hb dX0_backQ_5 (lv_at hl 3 rfl) ?_
    refine lv_aload_n hx hb dX0_backQ_7 rfl (lv_at hl 0 rfl) ?_
    obtain ⟨c1, hk⟩ := ok_c hk
    refine zgi X w 0 0 9 (C := RX0) (T := TX0) (N := 7) rfl ui_X0 (by decide) rfl (tb wf_X0_9) dX0_backQ_8 c1 ?_
    refine lv_icmp_ge (tgt := 99) hx hb dX0_backQ_11 (by decide) (fun c2 => ?_) (fun c2 => ?_)
    · have hk := ok_p c2 hk
      exact hE (l2, M) (ok_s hk) _ _ _ w (lv_sub hl [2] rfl)
    · have hk := ok_n c2 hk
      refine lv_iconst (v := 0) hx hb dX0_backQ_14 (by decide) ?_
      refine lv_istore (lv' := [(5, .int (0 : Int32)), (0, .ref r0), (1, .ref r1), (2, .long l2), (4, .int i4)]) hx hb dX0_backQ_15 hl (by decide) rfl (fun ls hl => ?_)
      refine wl_X0_backQ_17 X r0 r1 i4 (Qo := _) hr hlk (fun x h => hR x (ok_s (show OK (some (.inl x)) Qo from h))) (fun y15 hk H locs ls w hl => ?_) FU l2 (0 : Int32) M _ _ _ w (lv_sub hl [1, 2, 3, 4, 0] rfl) (ok_b hk)
      have hk := ok_r hk
      refine lv_iinc (v := (i4 + 1)) (lv' := [(4, .int (i4 + 1)), (0, .ref r0), (1, .ref r1), (2, .long y15.1)]) hx hb dX0_backQ_93 hl (k := 3) rfl rfl (by decide) rfl (fun ls hl => ?_)
      refine lv_goto (tgt := 5) hx hb dX0_backQ_96 (by decide) ?_
      exact hrec y15.1 (i4 + 1) y15.2 _ _ _ w (lv_sub hl [1, 2, 3, 0] rfl) hk
theorem wl_X0_backQ_5 {p : Program} {l : Launch} {e : Env} {s : State} {m : MethodId} {args : Array Value} {below : List Frame} {meth : Method} {c : Code} {D : va_G} {cy : Cyy} {A : Nat → Prop} {G : Gg} (X : Cx p m c cX0_backQ 8 s args wz_X0_backQ RX0 D cy) (r0 : Nat) (r1 : Nat) (Qo : (Int32 × Mm) ⊕ (Int64 × Mm) → Prop) (hr : meth.sig.returnType = (some .int)) (hlk : meth.locks = false) {x0 : Int32 × Mm} (hR : ∀ x, Qo (.inl x) → x = x0) (hE : ∀ (y : Int64 × Mm), Qo (.inr y) → ∀ (H : Heap) (locs : List Loc) (ls : Array Slot), Wo s D cy A G y.2 H locs → lv_has ls 8 [(2, .long y.1)] → W p l e rm_X0_backQ s m args below meth c H locs 0 0 (MQ below (QI D cy G A x0.1 x0.2) args s 0 0 A) (F0 m 99 ls [])) : ∀ (n : Nat) (l2 : Int64) (i4 : Int32) (M : Mm) (H : Heap) (locs : List Loc) (ls : Array Slot), Wo s D cy A G M H locs → lv_has ls 8 [(0, .ref r0), (1, .ref r1), (2, .long l2), (4, .int i4)] → OK (lp_X0_backQ_5 G r0 r1 n l2 i4 M) Qo → W p l e rm_X0_backQ s m args below meth c H locs 0 0 (MQ below (QI D cy G A x0.1 x0.2) args s 0 0 A) (F0 m 5 ls []) := by
  intro n
  induction n with
  | zero => intro l2 i4 M H locs ls w hl hk; exact ok_0 hk
  | succ n ih => intro l2 i4 M H locs ls w hl hk; exact wb_X0_backQ_5 X r0 r1 Qo hr hlk hR hE  (lp_X0_backQ_5 G r0 r1 n) ih l2 i4 M H locs ls w hl hk
set_option maxHeartbeats 4000000 in
set_option maxRecDepth 100000 in
theorem c_X0_backQ (l : Launch) (D : va_G) (cy : Cyy) (G : Gg) (M : Mm) (r0 : Nat) (r1 : Nat) {q : Int32 × Mm} (hm : f_X0_backQ G M r0 r1 = some q) : CI l yX0_backQ wz_X0_backQ rm_X0_backQ D cy G M [.ref r0, .ref r1] q.1 q.2 := by
  refine Met_of (Qf := fun A => QI D cy G A q.1 q.2) (cc := cX0_backQ) (nL := 8) (ret := (some .int)) (own := RX0) (lv := [(0, .ref r0), (1, .ref r1)]) (by decide) rfl rfl (Nat.le_of_ble_eq_true rfl) rfl ?_
  intro p e s m args below meth c A ls X hr hlk w hl
  have hx := X.1.1
  have hb := X.1.2.1
  obtain ⟨Qo, hR, hk⟩ : ∃ Qo : Int32 × Mm → Prop, (∀ x, Qo x → x = q) ∧ OK (f_X0_backQ G M r0 r1) Qo := ⟨fun x => x = q, fun _ h => h, q, hm, rfl⟩
  unfold f_X0_backQ at hk
  refine lv_lconst (v := 1) hx hb dX0_backQ_0 (by decide) ?_
  refine lv_lstore_n (lv' := [(2, .long (1 : Int64)), (0, .ref r0), (1, .ref r1)]) hx hb dX0_backQ_1 rfl hl (by decide) rfl (fun ls hl => ?_)
  refine lv_iconst (v := 0) hx hb dX0_backQ_2 (by decide) ?_
  refine lv_istore (lv' := [(4, .int (0 : Int32)), (2, .long (1 : Int64)), (0, .ref r0), (1, .ref r1)]) hx hb dX0_backQ_3 hl (by decide) rfl (fun ls hl => ?_)
  refine wl_X0_backQ_5 X r0 r1 (Qo := _) hr hlk (fun x h => hR x (ok_s (show OK (some x) Qo from h))) (fun y18 hk H locs ls w hl => ?_) FU (1 : Int64) (0 : Int32) M _ _ _ w (lv_sub hl [2, 3, 1, 0] rfl) (ok_b hk)
  have hk := ok_r hk
  refine lv_lload_n hx hb dX0_backQ_99 rfl (lv_at hl 0 rfl) ?_
  refine lv_l2i hx hb dX0_backQ_100 rfl ?_
  have hk := hR _ (ok_s hk)
  exact zri X hr hlk w dX0_backQ_101 (pr1 hk) (pr2 hk)
abbrev rm_X0_makeBackOf : Room := { frames := 4, cells := 0, slots := 0, locals := 106 }
set_option maxHeartbeats 4000000 in
set_option maxRecDepth 100000 in
theorem wb_X0_makeBackOf_38 {p : Program} {l : Launch} {e : Env} {s : State} {m : MethodId} {args : Array Value} {below : List Frame} {meth : Method} {c : Code} {D : va_G} {cy : Cyy} {A : Nat → Prop} {G : Gg} (X : Cx p m c cX0_makeBackOf 6 s args wz_X0_makeBackOf RX0 D cy) {Q : State → Prop} (r0 : Nat) (r1 : Nat) (r2 : Nat) (i3 : Int32) (i4 : Int32) (Qo : Mm → Prop)  (hE : ∀ (y : Mm), Qo (y) → ∀ (H : Heap) (locs : List Loc) (ls : Array Slot), Wo s D cy A G y H locs → lv_has ls 6 [(0, .ref r0), (1, .ref r1), (2, .ref r2), (3, .int i3), (4, .int i4)] → W p l e rm_X0_makeBackOf s m args below meth c H locs 0 0 Q (F0 m 92 ls [])) (rec : Int32 → Mm → Option (Mm)) (hrec : ∀ (i5 : Int32) (M : Mm) (H : Heap) (locs : List Loc) (ls : Array Slot), Wo s D cy A G M H locs → lv_has ls 6 [(0, .ref r0), (1, .ref r1), (2, .ref r2), (3, .int i3), (4, .int i4), (5, .int i5)] → OK (rec i5 M) Qo → W p l e rm_X0_makeBackOf s m args below meth c H locs 0 0 Q (F0 m 38 ls [])) (i5 : Int32) (M : Mm) (H : Heap) (locs : List Loc) (ls : Array Slot) (w : Wo s D cy A G M H locs) (hl : lv_has ls 6 [(0, .ref r0), (1, .ref r1), (2, .ref r2), (3, .int i3), (4, .int i4), (5, .int i5)]) (hk : OK (bd_X0_makeBackOf_38 G r0 r1 r2 i3 i4 rec i5 M) Qo) : W p l e rm_X0_makeBackOf s m args below meth c H locs 0 0 Q (F0 m 38 ls []) := by
    have hx := X.1.1
    have hb := X.1.2.1
    unfold bd_X0_makeBackOf_38 at hk
    refine lv_iload hx hb dX0_makeBackOf_38 (lv_at hl 5 rfl) ?_
    refine lv_aload_n hx hb dX0_makeBackOf_40 rfl (lv_at hl 0 rfl) ?_
    obtain ⟨c10, hk⟩ := ok_c hk
    refine zgi X w 0 0 9 (C := RX0) (T := TX0) (N := 7) rfl ui_X0 (by decide) rfl (tb wf_X0_9) dX0_makeBackOf_41 c10 ?_
    refine lv_icmp_ge (tgt := 92) hx hb dX0_makeBackOf_44 (by decide) (fun c11 => ?_) (fun c11 => ?_)
    · have hk := ok_p c11 hk
      exact hE M (ok_s hk) _ _ _ w (lv_sub hl [0, 1, 2, 3, 4] rfl)
    · have hk := ok_n c11 hk
      refine lv_aload_n hx hb dX0_makeBackOf_47 rfl (lv_at hl 1 rfl) ?_
      refine lv_iload hx hb dX0_makeBackOf_48 (lv_at hl 4 rfl) ?_
      refine lv_iload hx hb dX0_makeBackOf_50 (lv_at hl 5 rfl) ?_
      refine lv_aload_n hx hb dX0_makeBackOf_52 rfl (lv_at hl 2 rfl) ?_
      obtain ⟨c14, hk⟩ := ok_c hk
      obtain ⟨q12, e13, hk⟩ := ok_b hk
      refine zVv X w (n := 3) (As := [.int i4, .int i5, .ref r2]) (rest := []) (ci := 0) (C := RX0) (T := TX0) (N := 7) (c_X0_putBackChance l D cy G M r1 i4 i5 r2 e13) (gzV wm_X0_75 wi_X0_putBackChance ws_X0_putBackChance wn_X0 wc_X0_putBackChance) rfl rfl rfl (by decide +kernel) (by decide) rfl c14 rfl rfl hl.1 (Nat.le_of_ble_eq_true rfl) dX0_makeBackOf_53 ⟨Nat.zero_le _, Nat.zero_le _⟩ (fun H locs w => ?_)
      refine lv_aload_n hx hb dX0_makeBackOf_56 rfl (lv_at hl 2 rfl) ?_
      obtain ⟨c15, hk⟩ := ok_c hk
      refine zgNl X w 1 1 79 "BlendBench" (C := RX1) (T := TX1) (N := 2) rfl ui_X1 (by decide) rfl (by decide +kernel) dX0_makeBackOf_57 c15 ?_
      refine lv_lconst (v := 0) hx hb dX0_makeBackOf_60 (by decide) ?_
      refine W.lcmp hx hb dX0_makeBackOf_61 ?_
      refine lv_if_le (tgt := 86) hx hb dX0_makeBackOf_62 (by decide) (fun c16 => ?_) (fun c16 => ?_)
      · have hk := ok_p c16 hk
        refine lv_iinc (v := (i5 + 1)) (lv' := [(5, .int (i5 + 1)), (0, .ref r0), (1, .ref r1), (2, .ref r2), (3, .int i3), (4, .int i4)]) hx hb dX0_makeBackOf_86 hl (k := 5) rfl rfl (by decide) rfl (fun ls hl => ?_)
        refine lv_goto (tgt := 38) hx hb dX0_makeBackOf_89 (by decide) ?_
        exact hrec (i5 + 1) q12 _ _ _ w (lv_sub hl [1, 2, 3, 4, 5, 0] rfl) hk
      · have hk := ok_n c16 hk
        refine lv_aload_n hx hb dX0_makeBackOf_65 rfl (lv_at hl 0 rfl) ?_
        refine lv_iload hx hb dX0_makeBackOf_66 (lv_at hl 4 rfl) ?_
        refine lv_iload hx hb dX0_makeBackOf_68 (lv_at hl 5 rfl) ?_
        refine lv_aload_n hx hb dX0_makeBackOf_70 rfl (lv_at hl 2 rfl) ?_
        refine zgNl X w 1 0 84 "BlendBench" (C := RX1) (T := TX1) (N := 2) rfl ui_X1 (by decide) rfl (by decide +kernel) dX0_makeBackOf_71 c15 ?_
        refine lv_iload_n hx hb dX0_makeBackOf_74 rfl (lv_at hl 3 rfl) ?_
        refine lv_i2l hx hb dX0_makeBackOf_75 rfl ?_
        refine lv_aload_n hx hb dX0_makeBackOf_76 rfl (lv_at hl 2 rfl) ?_
        refine zgNl X w 1 1 79 "BlendBench" (C := RX1) (T := TX1) (N := 2) rfl ui_X1 (by decide) rfl (by decide +kernel) dX0_makeBackOf_77 c15 ?_
        obtain ⟨c17, hk⟩ := ok_c hk
        refine lv_ldiv hx hb dX0_makeBackOf_80 c17 ?_
        refine lv_lmul hx hb dX0_makeBackOf_81 ?_
        refine lv_l2i hx hb dX0_makeBackOf_82 rfl ?_
        obtain ⟨q18, e19, hk⟩ := ok_b hk
        refine zVv X w (n := 3) (As := [.int i4, .int i5, .int (Int64.toInt32 ((q12.2.1 r2 0) * ((Int32.toInt64 i3) / (q12.2.1 r2 1))))]) (rest := []) (ci := 0) (C := RX0) (T := TX0) (N := 7) (c_X0_raise l D cy G q12 r0 i4 i5 (Int64.toInt32 ((q12.2.1 r2 0) * ((Int32.toInt64 i3) / (q12.2.1 r2 1)))) e19) (gzV wm_X0_61 wi_X0_raise ws_X0_raise wn_X0 wc_X0_raise) rfl rfl rfl (by decide +kernel) (by decide) rfl c10 rfl rfl hl.1 (Nat.le_of_ble_eq_true rfl) dX0_makeBackOf_83 ⟨Nat.zero_le _, Nat.zero_le _⟩ (fun H locs w => ?_)
        refine lv_iinc (v := (i5 + 1)) (lv' := [(5, .int (i5 + 1)), (0, .ref r0), (1, .ref r1), (2, .ref r2), (3, .int i3), (4, .int i4)]) hx hb dX0_makeBackOf_86 hl (k := 5) rfl rfl (by decide) rfl (fun ls hl => ?_)
        refine lv_goto (tgt := 38) hx hb dX0_makeBackOf_89 (by decide) ?_
        exact hrec (i5 + 1) q18 _ _ _ w (lv_sub hl [1, 2, 3, 4, 5, 0] rfl) hk
theorem wl_X0_makeBackOf_38 {p : Program} {l : Launch} {e : Env} {s : State} {m : MethodId} {args : Array Value} {below : List Frame} {meth : Method} {c : Code} {D : va_G} {cy : Cyy} {A : Nat → Prop} {G : Gg} (X : Cx p m c cX0_makeBackOf 6 s args wz_X0_makeBackOf RX0 D cy) {Q : State → Prop} (r0 : Nat) (r1 : Nat) (r2 : Nat) (i3 : Int32) (i4 : Int32) (Qo : Mm → Prop)  (hE : ∀ (y : Mm), Qo (y) → ∀ (H : Heap) (locs : List Loc) (ls : Array Slot), Wo s D cy A G y H locs → lv_has ls 6 [(0, .ref r0), (1, .ref r1), (2, .ref r2), (3, .int i3), (4, .int i4)] → W p l e rm_X0_makeBackOf s m args below meth c H locs 0 0 Q (F0 m 92 ls [])) : ∀ (n : Nat) (i5 : Int32) (M : Mm) (H : Heap) (locs : List Loc) (ls : Array Slot), Wo s D cy A G M H locs → lv_has ls 6 [(0, .ref r0), (1, .ref r1), (2, .ref r2), (3, .int i3), (4, .int i4), (5, .int i5)] → OK (lp_X0_makeBackOf_38 G r0 r1 r2 i3 i4 n i5 M) Qo → W p l e rm_X0_makeBackOf s m args below meth c H locs 0 0 Q (F0 m 38 ls []) := by
  intro n
  induction n with
  | zero => intro i5 M H locs ls w hl hk; exact ok_0 hk
  | succ n ih => intro i5 M H locs ls w hl hk; exact wb_X0_makeBackOf_38 X r0 r1 r2 i3 i4 Qo hE  (lp_X0_makeBackOf_38 G r0 r1 r2 i3 i4 n) ih i5 M H locs ls w hl hk
set_option maxHeartbeats 4000000 in
set_option maxRecDepth 100000 in
theorem wb_X0_makeBackOf_26 {p : Program} {l : Launch} {e : Env} {s : State} {m : MethodId} {args : Array Value} {below : List Frame} {meth : Method} {c : Code} {D : va_G} {cy : Cyy} {A : Nat → Prop} {G : Gg} (X : Cx p m c cX0_makeBackOf 6 s args wz_X0_makeBackOf RX0 D cy) {Q : State → Prop} (r0 : Nat) (r1 : Nat) (r2 : Nat) (i3 : Int32) (Qo : Mm → Prop)  (hE : ∀ (y : Mm), Qo (y) → ∀ (H : Heap) (locs : List Loc) (ls : Array Slot), Wo s D cy A G y H locs → lv_has ls 6 [] → W p l e rm_X0_makeBackOf s m args below meth c H locs 0 0 Q (F0 m 98 ls [])) (rec : Int32 → Mm → Option (Mm)) (hrec : ∀ (i4 : Int32) (M : Mm) (H : Heap) (locs : List Loc) (ls : Array Slot), Wo s D cy A G M H locs → lv_has ls 6 [(0, .ref r0), (1, .ref r1), (2, .ref r2), (3, .int i3), (4, .int i4)] → OK (rec i4 M) Qo → W p l e rm_X0_makeBackOf s m args below meth c H locs 0 0 Q (F0 m 26 ls [])) (i4 : Int32) (M : Mm) (H : Heap) (locs : List Loc) (ls : Array Slot) (w : Wo s D cy A G M H locs) (hl : lv_has ls 6 [(0, .ref r0), (1, .ref r1), (2, .ref r2), (3, .int i3), (4, .int i4)]) (hk : OK (bd_X0_makeBackOf_26 G r0 r1 r2 i3 rec i4 M) Qo) : W p l e rm_X0_makeBackOf s m args below meth c H locs 0 0 Q (F0 m 26 ls []) := by
    have hx := X.1.1
    have hb := X.1.2.1
    unfold bd_X0_makeBackOf_26 at hk
    refine lv_iload hx hb dX0_makeBackOf_26 (lv_at hl 4 rfl) ?_
    refine lv_aload_n hx hb dX0_makeBackOf_28 rfl (lv_at hl 0 rfl) ?_
    obtain ⟨c8, hk⟩ := ok_c hk
    refine zgi X w 0 0 9 (C := RX0) (T := TX0) (N := 7) rfl ui_X0 (by decide) rfl (tb wf_X0_9) dX0_makeBackOf_29 c8 ?_
    refine lv_icmp_ge (tgt := 98) hx hb dX0_makeBackOf_32 (by decide) (fun c9 => ?_) (fun c9 => ?_)
    · have hk := ok_p c9 hk
      exact hE M (ok_s hk) _ _ _ w (lv_sub hl [] rfl)
    · have hk := ok_n c9 hk
      refine lv_iconst (v := 0) hx hb dX0_makeBackOf_35 (by decide) ?_
      refine lv_istore (lv' := [(5, .int (0 : Int32)), (0, .ref r0), (1, .ref r1), (2, .ref r2), (3, .int i3), (4, .int i4)]) hx hb dX0_makeBackOf_36 hl (by decide) rfl (fun ls hl => ?_)
      refine wl_X0_makeBackOf_38 X r0 r1 r2 i3 i4 (Qo := _) (fun q20 hk H locs ls w hl => ?_) FU (0 : Int32) M _ _ _ w (lv_sub hl [1, 2, 3, 4, 5, 0] rfl) (ok_b hk)
      refine lv_iinc (v := (i4 + 1)) (lv' := [(4, .int (i4 + 1)), (0, .ref r0), (1, .ref r1), (2, .ref r2), (3, .int i3)]) hx hb dX0_makeBackOf_92 hl (k := 4) rfl rfl (by decide) rfl (fun ls hl => ?_)
      refine lv_goto (tgt := 26) hx hb dX0_makeBackOf_95 (by decide) ?_
      exact hrec (i4 + 1) q20 _ _ _ w (lv_sub hl [1, 2, 3, 4, 0] rfl) hk
theorem wl_X0_makeBackOf_26 {p : Program} {l : Launch} {e : Env} {s : State} {m : MethodId} {args : Array Value} {below : List Frame} {meth : Method} {c : Code} {D : va_G} {cy : Cyy} {A : Nat → Prop} {G : Gg} (X : Cx p m c cX0_makeBackOf 6 s args wz_X0_makeBackOf RX0 D cy) {Q : State → Prop} (r0 : Nat) (r1 : Nat) (r2 : Nat) (i3 : Int32) (Qo : Mm → Prop)  (hE : ∀ (y : Mm), Qo (y) → ∀ (H : Heap) (locs : List Loc) (ls : Array Slot), Wo s D cy A G y H locs → lv_has ls 6 [] → W p l e rm_X0_makeBackOf s m args below meth c H locs 0 0 Q (F0 m 98 ls [])) : ∀ (n : Nat) (i4 : Int32) (M : Mm) (H : Heap) (locs : List Loc) (ls : Array Slot), Wo s D cy A G M H locs → lv_has ls 6 [(0, .ref r0), (1, .ref r1), (2, .ref r2), (3, .int i3), (4, .int i4)] → OK (lp_X0_makeBackOf_26 G r0 r1 r2 i3 n i4 M) Qo → W p l e rm_X0_makeBackOf s m args below meth c H locs 0 0 Q (F0 m 26 ls []) := by
  intro n
  induction n with
  | zero => intro i4 M H locs ls w hl hk; exact ok_0 hk
  | succ n ih => intro i4 M H locs ls w hl hk; exact wb_X0_makeBackOf_26 X r0 r1 r2 i3 Qo hE  (lp_X0_makeBackOf_26 G r0 r1 r2 i3 n) ih i4 M H locs ls w hl hk
set_option maxHeartbeats 4000000 in
set_option maxRecDepth 100000 in
theorem c_X0_makeBackOf (l : Launch) (D : va_G) (cy : Cyy) (G : Gg) (M : Mm) (r0 : Nat) (r1 : Nat) (r2 : Nat) {q : Int32 × Mm} (hm : f_X0_makeBackOf G M r0 r1 r2 = some q) : CI l yX0_makeBackOf wz_X0_makeBackOf rm_X0_makeBackOf D cy G M [.ref r0, .ref r1, .ref r2] q.1 q.2 := by
  refine Met_of (Qf := fun A => QI D cy G A q.1 q.2) (cc := cX0_makeBackOf) (nL := 6) (ret := (some .boolean)) (own := RX0) (lv := [(0, .ref r0), (1, .ref r1), (2, .ref r2)]) (by decide) rfl rfl (Nat.le_of_ble_eq_true rfl) rfl ?_
  intro p e s m args below meth c A ls X hr hlk w hl
  have hx := X.1.1
  have hb := X.1.2.1
  obtain ⟨Qo, hR, hk⟩ : ∃ Qo : Int32 × Mm → Prop, (∀ x, Qo x → x = q) ∧ OK (f_X0_makeBackOf G M r0 r1 r2) Qo := ⟨fun x => x = q, fun _ h => h, q, hm, rfl⟩
  unfold f_X0_makeBackOf at hk
  refine lv_aload_n hx hb dX0_makeBackOf_0 rfl (lv_at hl 1 rfl) ?_
  refine lv_aload_n hx hb dX0_makeBackOf_1 rfl (lv_at hl 2 rfl) ?_
  obtain ⟨c3, hk⟩ := ok_c hk
  obtain ⟨q1, e2, hk⟩ := ok_b hk
  refine zVi X w (n := 1) (As := [.ref r2]) (rest := []) (ci := 0) (C := RX0) (T := TX0) (N := 7) (c_X0_backQ l D cy G M r1 r2 e2) (gzV wm_X0_71 wi_X0_backQ ws_X0_backQ wn_X0 wc_X0_backQ) rfl rfl rfl (by decide +kernel) (by decide) rfl c3 rfl rfl hl.1 (Nat.le_of_ble_eq_true rfl) dX0_makeBackOf_2 ⟨Nat.zero_le _, Nat.zero_le _⟩ (fun H locs w => ?_)
  refine lv_istore_n (lv' := [(3, .int q1.1), (0, .ref r0), (1, .ref r1), (2, .ref r2)]) hx hb dX0_makeBackOf_5 rfl hl (by decide) rfl (fun ls hl => ?_)
  refine lv_iload_n hx hb dX0_makeBackOf_6 rfl (lv_at hl 0 rfl) ?_
  refine lv_bipush (v := 60) hx hb dX0_makeBackOf_7 (by decide) ?_
  refine lv_icmp_le (tgt := 14) hx hb dX0_makeBackOf_9 (by decide) (fun c4 => ?_) (fun c4 => ?_)
  · have hk := ok_p c4 hk
    refine lv_aload_n hx hb dX0_makeBackOf_14 rfl (lv_at hl 1 rfl) ?_
    refine lv_aload_n hx hb dX0_makeBackOf_15 rfl (lv_at hl 2 rfl) ?_
    refine zgi X w 0 0 9 (C := RX0) (T := TX0) (N := 7) rfl ui_X0 (by decide) rfl (tb wf_X0_9) dX0_makeBackOf_16 c3 ?_
    refine lv_iload_n hx hb dX0_makeBackOf_19 rfl (lv_at hl 0 rfl) ?_
    obtain ⟨c7, hk⟩ := ok_c hk
    obtain ⟨q5, e6, hk⟩ := ok_b hk
    refine zVv X w (n := 2) (As := [.int (q1.2.1 r1 0), .int q1.1]) (rest := []) (ci := 0) (C := RX0) (T := TX0) (N := 7) (c_X0_begin l D cy G q1.2 r0 (q1.2.1 r1 0) q1.1 e6) (gzV wm_X0_53 wi_X0_begin ws_X0_begin wn_X0 wc_X0_begin) rfl rfl rfl (by decide +kernel) (by decide) rfl c7 rfl rfl hl.1 (Nat.le_of_ble_eq_true rfl) dX0_makeBackOf_20 ⟨Nat.zero_le _, Nat.zero_le _⟩ (fun H locs w => ?_)
    refine lv_iconst (v := 0) hx hb dX0_makeBackOf_23 (by decide) ?_
    refine lv_istore (lv' := [(4, .int (0 : Int32)), (3, .int q1.1), (0, .ref r0), (1, .ref r1), (2, .ref r2)]) hx hb dX0_makeBackOf_24 hl (by decide) rfl (fun ls hl => ?_)
    refine wl_X0_makeBackOf_26 X r0 r1 r2 q1.1 (Qo := _) (fun q21 hk H locs ls w hl => ?_) FU (0 : Int32) q5 _ _ _ w (lv_sub hl [2, 3, 4, 1, 0] rfl) (ok_b hk)
    refine lv_iconst (v := 1) hx hb dX0_makeBackOf_98 (by decide) ?_
    have hk := hR _ (ok_s hk)
    exact zrz X hr hlk w dX0_makeBackOf_99 (by decide) (pr1 hk) (pr2 hk)
  · have hk := ok_n c4 hk
    refine lv_iconst (v := 0) hx hb dX0_makeBackOf_12 (by decide) ?_
    have hk := hR _ (ok_s hk)
    exact zrz X hr hlk w dX0_makeBackOf_13 (by decide) (pr1 hk) (pr2 hk)
abbrev rm_X5_firstOf : Room := { frames := 0, cells := 0, slots := 0, locals := 0 }
set_option maxHeartbeats 4000000 in
set_option maxRecDepth 100000 in
theorem wb_X5_firstOf_2 {p : Program} {l : Launch} {e : Env} {s : State} {m : MethodId} {args : Array Value} {below : List Frame} {meth : Method} {c : Code} {D : va_G} {cy : Cyy} {A : Nat → Prop} {G : Gg} (X : Cx p m c cX5_firstOf 3 s args wz_X5_firstOf RX5 D cy) (M : Mm) (r0 : Nat) (i1 : Int32) (Qo : (Int32) ⊕ (Unit) → Prop) (hr : meth.sig.returnType = (some .int)) (hlk : meth.locks = false) {x0 : Int32} (hR : ∀ x, Qo (.inl x) → x = x0) (hE : ∀ (y : Unit), Qo (.inr y) → ∀ (H : Heap) (locs : List Loc) (ls : Array Slot), Wo s D cy A G M H locs → lv_has ls 3 [] → W p l e rm_X5_firstOf s m args below meth c H locs 0 0 (MQ below (QI D cy G A x0 M) args s 0 0 A) (F0 m 28 ls [])) (rec : Int32 → Option ((Int32) ⊕ (Unit))) (hrec : ∀ (i2 : Int32) (H : Heap) (locs : List Loc) (ls : Array Slot), Wo s D cy A G M H locs → lv_has ls 3 [(0, .ref r0), (1, .int i1), (2, .int i2)] → OK (rec i2) Qo → W p l e rm_X5_firstOf s m args below meth c H locs 0 0 (MQ below (QI D cy G A x0 M) args s 0 0 A) (F0 m 2 ls [])) (i2 : Int32) (H : Heap) (locs : List Loc) (ls : Array Slot) (w : Wo s D cy A G M H locs) (hl : lv_has ls 3 [(0, .ref r0), (1, .int i1), (2, .int i2)]) (hk : OK (bd_X5_firstOf_2 G M r0 i1 rec i2) Qo) : W p l e rm_X5_firstOf s m args below meth c H locs 0 0 (MQ below (QI D cy G A x0 M) args s 0 0 A) (F0 m 2 ls []) := by
    have hx := X.1.1
    have hb := X.1.2.1
    unfold bd_X5_firstOf_2 at hk
    refine lv_iload_n hx hb dX5_firstOf_2 rfl (lv_at hl 2 rfl) ?_
    refine lv_aload_n hx hb dX5_firstOf_3 rfl (lv_at hl 0 rfl) ?_
    obtain ⟨c1, hk⟩ := ok_c hk
    refine zgi X w 5 2 18 (C := RX5) (T := TX5) (N := 4) rfl ui_X5 (by decide) rfl (tb wf_X5_18) dX5_firstOf_4 c1 ?_
    refine lv_icmp_ge (tgt := 28) hx hb dX5_firstOf_7 (by decide) (fun c2 => ?_) (fun c2 => ?_)
    · have hk := ok_p c2 hk
      exact hE () (ok_s hk) _ _ _ w (lv_sub hl [] rfl)
    · have hk := ok_n c2 hk
      refine lv_aload_n hx hb dX5_firstOf_10 rfl (lv_at hl 0 rfl) ?_
      obtain ⟨r3, e4, hk⟩ := ok_b hk
      refine zgr X w 5 0 9 (C := RX5) (T := TX5) (N := 4) rfl ui_X5 (by decide) rfl (tb wf_X5_9) dX5_firstOf_11 c1 e4 ?_
      refine lv_iload_n hx hb dX5_firstOf_14 rfl (lv_at hl 2 rfl) ?_
      obtain ⟨c5, hk⟩ := ok_c hk
      obtain ⟨c6, hk⟩ := ok_c hk
      refine zai X w dX5_firstOf_15 c5 c6 ?_
      refine lv_iload_n hx hb dX5_firstOf_16 rfl (lv_at hl 1 rfl) ?_
      refine lv_icmp_ne (tgt := 22) hx hb dX5_firstOf_17 (by decide) (fun c7 => ?_) (fun c7 => ?_)
      · have hk := ok_n c7 hk
        refine lv_iinc (v := (i2 + 1)) (lv' := [(2, .int (i2 + 1)), (0, .ref r0), (1, .int i1)]) hx hb dX5_firstOf_22 hl (k := 2) rfl rfl (by decide) rfl (fun ls hl => ?_)
        refine lv_goto (tgt := 2) hx hb dX5_firstOf_25 (by decide) ?_
        exact hrec (i2 + 1) _ _ _ w (lv_sub hl [1, 2, 0] rfl) hk
      · have hk := ok_p c7 hk
        refine lv_iload_n hx hb dX5_firstOf_20 rfl (lv_at hl 2 rfl) ?_
        have hk := hR _ (ok_s hk)
        exact zri X hr hlk w dX5_firstOf_21 hk rfl
theorem wl_X5_firstOf_2 {p : Program} {l : Launch} {e : Env} {s : State} {m : MethodId} {args : Array Value} {below : List Frame} {meth : Method} {c : Code} {D : va_G} {cy : Cyy} {A : Nat → Prop} {G : Gg} (X : Cx p m c cX5_firstOf 3 s args wz_X5_firstOf RX5 D cy) (M : Mm) (r0 : Nat) (i1 : Int32) (Qo : (Int32) ⊕ (Unit) → Prop) (hr : meth.sig.returnType = (some .int)) (hlk : meth.locks = false) {x0 : Int32} (hR : ∀ x, Qo (.inl x) → x = x0) (hE : ∀ (y : Unit), Qo (.inr y) → ∀ (H : Heap) (locs : List Loc) (ls : Array Slot), Wo s D cy A G M H locs → lv_has ls 3 [] → W p l e rm_X5_firstOf s m args below meth c H locs 0 0 (MQ below (QI D cy G A x0 M) args s 0 0 A) (F0 m 28 ls [])) : ∀ (n : Nat) (i2 : Int32) (H : Heap) (locs : List Loc) (ls : Array Slot), Wo s D cy A G M H locs → lv_has ls 3 [(0, .ref r0), (1, .int i1), (2, .int i2)] → OK (lp_X5_firstOf_2 G M r0 i1 n i2) Qo → W p l e rm_X5_firstOf s m args below meth c H locs 0 0 (MQ below (QI D cy G A x0 M) args s 0 0 A) (F0 m 2 ls []) := by
  intro n
  induction n with
  | zero => intro i2 H locs ls w hl hk; exact ok_0 hk
  | succ n ih => intro i2 H locs ls w hl hk; exact wb_X5_firstOf_2 X M r0 i1 Qo hr hlk hR hE  (lp_X5_firstOf_2 G M r0 i1 n) ih i2 H locs ls w hl hk
set_option maxHeartbeats 4000000 in
set_option maxRecDepth 100000 in
theorem c_X5_firstOf (l : Launch) (D : va_G) (cy : Cyy) (G : Gg) (M : Mm) (r0 : Nat) (i1 : Int32) {q : Int32} (hm : f_X5_firstOf G M r0 i1 = some q) : CI l yX5_firstOf wz_X5_firstOf rm_X5_firstOf D cy G M [.ref r0, .int i1] q M := by
  refine Met_of (Qf := fun A => QI D cy G A q M) (cc := cX5_firstOf) (nL := 3) (ret := (some .int)) (own := RX5) (lv := [(0, .ref r0), (1, .int i1)]) (by decide) rfl rfl (Nat.le_of_ble_eq_true rfl) rfl ?_
  intro p e s m args below meth c A ls X hr hlk w hl
  have hx := X.1.1
  have hb := X.1.2.1
  obtain ⟨Qo, hR, hk⟩ : ∃ Qo : Int32 → Prop, (∀ x, Qo x → x = q) ∧ OK (f_X5_firstOf G M r0 i1) Qo := ⟨fun x => x = q, fun _ h => h, q, hm, rfl⟩
  unfold f_X5_firstOf at hk
  refine lv_iconst (v := 0) hx hb dX5_firstOf_0 (by decide) ?_
  refine lv_istore_n (lv' := [(2, .int (0 : Int32)), (0, .ref r0), (1, .int i1)]) hx hb dX5_firstOf_1 rfl hl (by decide) rfl (fun ls hl => ?_)
  refine wl_X5_firstOf_2 X M r0 i1 (Qo := _) hr hlk (fun x h => hR x (ok_s (show OK (some x) Qo from h))) (fun y9 hk H locs ls w hl => ?_) FU (0 : Int32) _ _ _ w (lv_sub hl [1, 2, 0] rfl) (ok_b hk)
  have hk := ok_r hk
  refine lv_iconst (v := (-1)) hx hb dX5_firstOf_28 (by decide) ?_
  have hk := hR _ (ok_s hk)
  exact zri X hr hlk w dX5_firstOf_29 hk rfl
abbrev rm_X5_partOf : Room := { frames := 0, cells := 0, slots := 0, locals := 0 }
set_option maxHeartbeats 4000000 in
set_option maxRecDepth 100000 in
theorem c_X5_partOf (l : Launch) (D : va_G) (cy : Cyy) (G : Gg) (M : Mm) (r0 : Nat) (i1 : Int32) {q : Int32} (hm : f_X5_partOf G M r0 i1 = some q) : CI l yX5_partOf wz_X5_partOf rm_X5_partOf D cy G M [.ref r0, .int i1] q M := by
  refine Met_of (Qf := fun A => QI D cy G A q M) (cc := cX5_partOf) (nL := 2) (ret := (some .int)) (own := RX5) (lv := [(0, .ref r0), (1, .int i1)]) (by decide) rfl rfl (Nat.le_of_ble_eq_true rfl) rfl ?_
  intro p e s m args below meth c A ls X hr hlk w hl
  have hx := X.1.1
  have hb := X.1.2.1
  obtain ⟨Qo, hR, hk⟩ : ∃ Qo : Int32 → Prop, (∀ x, Qo x → x = q) ∧ OK (f_X5_partOf G M r0 i1) Qo := ⟨fun x => x = q, fun _ h => h, q, hm, rfl⟩
  unfold f_X5_partOf at hk
  refine lv_iload_n hx hb dX5_partOf_0 rfl (lv_at hl 1 rfl) ?_
  refine lv_if_lt (tgt := 21) hx hb dX5_partOf_1 (by decide) (fun c1 => ?_) (fun c1 => ?_)
  · have hk := ok_p c1 hk
    refine lv_iconst (v := (-1)) hx hb dX5_partOf_21 (by decide) ?_
    have hk := hR _ (ok_s hk)
    exact zri X hr hlk w dX5_partOf_22 hk rfl
  · have hk := ok_n c1 hk
    refine lv_iload_n hx hb dX5_partOf_4 rfl (lv_at hl 1 rfl) ?_
    refine lv_aload_n hx hb dX5_partOf_5 rfl (lv_at hl 0 rfl) ?_
    obtain ⟨c2, hk⟩ := ok_c hk
    refine zgi X w 5 2 18 (C := RX5) (T := TX5) (N := 4) rfl ui_X5 (by decide) rfl (tb wf_X5_18) dX5_partOf_6 c2 ?_
    refine lv_icmp_ge (tgt := 21) hx hb dX5_partOf_9 (by decide) (fun c3 => ?_) (fun c3 => ?_)
    · have hk := ok_p c3 hk
      refine lv_iconst (v := (-1)) hx hb dX5_partOf_21 (by decide) ?_
      have hk := hR _ (ok_s hk)
      exact zri X hr hlk w dX5_partOf_22 hk rfl
    · have hk := ok_n c3 hk
      refine lv_aload_n hx hb dX5_partOf_12 rfl (lv_at hl 0 rfl) ?_
      obtain ⟨r4, e5, hk⟩ := ok_b hk
      refine zgr X w 5 0 9 (C := RX5) (T := TX5) (N := 4) rfl ui_X5 (by decide) rfl (tb wf_X5_9) dX5_partOf_13 c2 e5 ?_
      refine lv_iload_n hx hb dX5_partOf_16 rfl (lv_at hl 1 rfl) ?_
      obtain ⟨c6, hk⟩ := ok_c hk
      obtain ⟨c7, hk⟩ := ok_c hk
      refine zai X w dX5_partOf_17 c6 c7 ?_
      refine lv_goto (tgt := 22) hx hb dX5_partOf_18 (by decide) ?_
      have hk := hR _ (ok_s hk)
      exact zri X hr hlk w dX5_partOf_22 hk rfl
abbrev rm_X0_makeMeltedOf : Room := { frames := 2, cells := 0, slots := 0, locals := 44 }
set_option maxHeartbeats 4000000 in
set_option maxRecDepth 100000 in
theorem wb_X0_makeMeltedOf_32 {p : Program} {l : Launch} {e : Env} {s : State} {m : MethodId} {args : Array Value} {below : List Frame} {meth : Method} {c : Code} {D : va_G} {cy : Cyy} {A : Nat → Prop} {G : Gg} (X : Cx p m c cX0_makeMeltedOf 6 s args wz_X0_makeMeltedOf RX0 D cy) {Q : State → Prop} (r0 : Nat) (r1 : Nat) (r2 : Nat) (i3 : Int32) (i4 : Int32) (Qo : Mm → Prop)  (hE : ∀ (y : Mm), Qo (y) → ∀ (H : Heap) (locs : List Loc) (ls : Array Slot), Wo s D cy A G y H locs → lv_has ls 6 [(0, .ref r0), (1, .ref r1), (2, .ref r2), (3, .int i3)] → W p l e rm_X0_makeMeltedOf s m args below meth c H locs 0 0 Q (F0 m 66 ls [])) (rec : Int32 → Mm → Option (Mm)) (hrec : ∀ (i5 : Int32) (M : Mm) (H : Heap) (locs : List Loc) (ls : Array Slot), Wo s D cy A G M H locs → lv_has ls 6 [(0, .ref r0), (1, .ref r1), (2, .ref r2), (3, .int i3), (4, .int i4), (5, .int i5)] → OK (rec i5 M) Qo → W p l e rm_X0_makeMeltedOf s m args below meth c H locs 0 0 Q (F0 m 32 ls [])) (i5 : Int32) (M : Mm) (H : Heap) (locs : List Loc) (ls : Array Slot) (w : Wo s D cy A G M H locs) (hl : lv_has ls 6 [(0, .ref r0), (1, .ref r1), (2, .ref r2), (3, .int i3), (4, .int i4), (5, .int i5)]) (hk : OK (bd_X0_makeMeltedOf_32 G r0 r1 r2 i3 i4 rec i5 M) Qo) : W p l e rm_X0_makeMeltedOf s m args below meth c H locs 0 0 Q (F0 m 32 ls []) := by
    have hx := X.1.1
    have hb := X.1.2.1
    unfold bd_X0_makeMeltedOf_32 at hk
    refine lv_iload hx hb dX0_makeMeltedOf_32 (lv_at hl 5 rfl) ?_
    refine lv_aload_n hx hb dX0_makeMeltedOf_34 rfl (lv_at hl 1 rfl) ?_
    obtain ⟨c11, hk⟩ := ok_c hk
    refine zgi X w 0 0 9 (C := RX0) (T := TX0) (N := 7) rfl ui_X0 (by decide) rfl (tb wf_X0_9) dX0_makeMeltedOf_35 c11 ?_
    refine lv_icmp_ge (tgt := 66) hx hb dX0_makeMeltedOf_38 (by decide) (fun c12 => ?_) (fun c12 => ?_)
    · have hk := ok_p c12 hk
      exact hE M (ok_s hk) _ _ _ w (lv_sub hl [0, 1, 2, 3] rfl)
    · have hk := ok_n c12 hk
      refine lv_aload_n hx hb dX0_makeMeltedOf_41 rfl (lv_at hl 0 rfl) ?_
      refine lv_iload_n hx hb dX0_makeMeltedOf_42 rfl (lv_at hl 3 rfl) ?_
      refine lv_aload_n hx hb dX0_makeMeltedOf_43 rfl (lv_at hl 2 rfl) ?_
      refine lv_iload hx hb dX0_makeMeltedOf_44 (lv_at hl 5 rfl) ?_
      obtain ⟨c15, hk⟩ := ok_c hk
      obtain ⟨q13, e14, hk⟩ := ok_b hk
      refine zVi X w (n := 1) (As := [.int i5]) (rest := [.int i3, .ref r0]) (ci := 5) (C := RX5) (T := TX5) (N := 4) (c_X5_partOf l D cy G M r2 i5 e14) (gzV wm_X0_105 wi_X5_partOf ws_X5_partOf wn_X5 wc_X5_partOf) rfl rfl rfl (by decide +kernel) (by decide) rfl c15 rfl rfl hl.1 (Nat.le_of_ble_eq_true rfl) dX0_makeMeltedOf_46 ⟨Nat.zero_le _, Nat.zero_le _⟩ (fun H locs w => ?_)
      refine lv_aload_n hx hb dX0_makeMeltedOf_49 rfl (lv_at hl 1 rfl) ?_
      refine lv_iload hx hb dX0_makeMeltedOf_50 (lv_at hl 4 rfl) ?_
      refine lv_iload hx hb dX0_makeMeltedOf_52 (lv_at hl 5 rfl) ?_
      obtain ⟨q16, e17, hk⟩ := ok_b hk
      refine zVi X w (n := 2) (As := [.int i4, .int i5]) (rest := [.int q13, .int i3, .ref r0]) (ci := 0) (C := RX0) (T := TX0) (N := 7) (c_X0_at l D cy G M r1 i4 i5 e17) (gzV wm_X0_69 wi_X0_at ws_X0_at wn_X0 wc_X0_at) rfl rfl rfl (by decide +kernel) (by decide) rfl c11 rfl rfl hl.1 (Nat.le_of_ble_eq_true rfl) dX0_makeMeltedOf_54 ⟨Nat.zero_le _, Nat.zero_le _⟩ (fun H locs w => ?_)
      obtain ⟨c20, hk⟩ := ok_c hk
      obtain ⟨q18, e19, hk⟩ := ok_b hk
      refine zVv X w (n := 3) (As := [.int i3, .int q13, .int q16]) (rest := []) (ci := 0) (C := RX0) (T := TX0) (N := 7) (c_X0_raise l D cy G M r0 i3 q13 q16 e19) (gzV wm_X0_61 wi_X0_raise ws_X0_raise wn_X0 wc_X0_raise) rfl rfl rfl (by decide +kernel) (by decide) rfl c20 rfl rfl hl.1 (Nat.le_of_ble_eq_true rfl) dX0_makeMeltedOf_57 ⟨Nat.zero_le _, Nat.zero_le _⟩ (fun H locs w => ?_)
      refine lv_iinc (v := (i5 + 1)) (lv' := [(5, .int (i5 + 1)), (0, .ref r0), (1, .ref r1), (2, .ref r2), (3, .int i3), (4, .int i4)]) hx hb dX0_makeMeltedOf_60 hl (k := 5) rfl rfl (by decide) rfl (fun ls hl => ?_)
      refine lv_goto (tgt := 32) hx hb dX0_makeMeltedOf_63 (by decide) ?_
      exact hrec (i5 + 1) q18 _ _ _ w (lv_sub hl [1, 2, 3, 4, 5, 0] rfl) hk
theorem wl_X0_makeMeltedOf_32 {p : Program} {l : Launch} {e : Env} {s : State} {m : MethodId} {args : Array Value} {below : List Frame} {meth : Method} {c : Code} {D : va_G} {cy : Cyy} {A : Nat → Prop} {G : Gg} (X : Cx p m c cX0_makeMeltedOf 6 s args wz_X0_makeMeltedOf RX0 D cy) {Q : State → Prop} (r0 : Nat) (r1 : Nat) (r2 : Nat) (i3 : Int32) (i4 : Int32) (Qo : Mm → Prop)  (hE : ∀ (y : Mm), Qo (y) → ∀ (H : Heap) (locs : List Loc) (ls : Array Slot), Wo s D cy A G y H locs → lv_has ls 6 [(0, .ref r0), (1, .ref r1), (2, .ref r2), (3, .int i3)] → W p l e rm_X0_makeMeltedOf s m args below meth c H locs 0 0 Q (F0 m 66 ls [])) : ∀ (n : Nat) (i5 : Int32) (M : Mm) (H : Heap) (locs : List Loc) (ls : Array Slot), Wo s D cy A G M H locs → lv_has ls 6 [(0, .ref r0), (1, .ref r1), (2, .ref r2), (3, .int i3), (4, .int i4), (5, .int i5)] → OK (lp_X0_makeMeltedOf_32 G r0 r1 r2 i3 i4 n i5 M) Qo → W p l e rm_X0_makeMeltedOf s m args below meth c H locs 0 0 Q (F0 m 32 ls []) := by
  intro n
  induction n with
  | zero => intro i5 M H locs ls w hl hk; exact ok_0 hk
  | succ n ih => intro i5 M H locs ls w hl hk; exact wb_X0_makeMeltedOf_32 X r0 r1 r2 i3 i4 Qo hE  (lp_X0_makeMeltedOf_32 G r0 r1 r2 i3 i4 n) ih i5 M H locs ls w hl hk
set_option maxHeartbeats 4000000 in
set_option maxRecDepth 100000 in
theorem wb_X0_makeMeltedOf_14 {p : Program} {l : Launch} {e : Env} {s : State} {m : MethodId} {args : Array Value} {below : List Frame} {meth : Method} {c : Code} {D : va_G} {cy : Cyy} {A : Nat → Prop} {G : Gg} (X : Cx p m c cX0_makeMeltedOf 6 s args wz_X0_makeMeltedOf RX0 D cy) {Q : State → Prop} (r0 : Nat) (r1 : Nat) (r2 : Nat) (Qo : Mm → Prop)  (hE : ∀ (y : Mm), Qo (y) → ∀ (H : Heap) (locs : List Loc) (ls : Array Slot), Wo s D cy A G y H locs → lv_has ls 6 [] → W p l e rm_X0_makeMeltedOf s m args below meth c H locs 0 0 Q (F0 m 72 ls [])) (rec : Int32 → Mm → Option (Mm)) (hrec : ∀ (i3 : Int32) (M : Mm) (H : Heap) (locs : List Loc) (ls : Array Slot), Wo s D cy A G M H locs → lv_has ls 6 [(0, .ref r0), (1, .ref r1), (2, .ref r2), (3, .int i3)] → OK (rec i3 M) Qo → W p l e rm_X0_makeMeltedOf s m args below meth c H locs 0 0 Q (F0 m 14 ls [])) (i3 : Int32) (M : Mm) (H : Heap) (locs : List Loc) (ls : Array Slot) (w : Wo s D cy A G M H locs) (hl : lv_has ls 6 [(0, .ref r0), (1, .ref r1), (2, .ref r2), (3, .int i3)]) (hk : OK (bd_X0_makeMeltedOf_14 G r0 r1 r2 rec i3 M) Qo) : W p l e rm_X0_makeMeltedOf s m args below meth c H locs 0 0 Q (F0 m 14 ls []) := by
    have hx := X.1.1
    have hb := X.1.2.1
    unfold bd_X0_makeMeltedOf_14 at hk
    refine lv_iload_n hx hb dX0_makeMeltedOf_14 rfl (lv_at hl 3 rfl) ?_
    refine lv_aload_n hx hb dX0_makeMeltedOf_15 rfl (lv_at hl 0 rfl) ?_
    obtain ⟨c6, hk⟩ := ok_c hk
    refine zgi X w 0 0 9 (C := RX0) (T := TX0) (N := 7) rfl ui_X0 (by decide) rfl (tb wf_X0_9) dX0_makeMeltedOf_16 c6 ?_
    refine lv_icmp_ge (tgt := 72) hx hb dX0_makeMeltedOf_19 (by decide) (fun c7 => ?_) (fun c7 => ?_)
    · have hk := ok_p c7 hk
      exact hE M (ok_s hk) _ _ _ w (lv_sub hl [] rfl)
    · have hk := ok_n c7 hk
      refine lv_aload_n hx hb dX0_makeMeltedOf_22 rfl (lv_at hl 2 rfl) ?_
      refine lv_iload_n hx hb dX0_makeMeltedOf_23 rfl (lv_at hl 3 rfl) ?_
      obtain ⟨c10, hk⟩ := ok_c hk
      obtain ⟨q8, e9, hk⟩ := ok_b hk
      refine zVi X w (n := 1) (As := [.int i3]) (rest := []) (ci := 5) (C := RX5) (T := TX5) (N := 4) (c_X5_firstOf l D cy G M r2 i3 e9) (gzV wm_X0_102 wi_X5_firstOf ws_X5_firstOf wn_X5 wc_X5_firstOf) rfl rfl rfl (by decide +kernel) (by decide) rfl c10 rfl rfl hl.1 (Nat.le_of_ble_eq_true rfl) dX0_makeMeltedOf_24 ⟨Nat.zero_le _, Nat.zero_le _⟩ (fun H locs w => ?_)
      refine lv_istore (lv' := [(4, .int q8), (0, .ref r0), (1, .ref r1), (2, .ref r2), (3, .int i3)]) hx hb dX0_makeMeltedOf_27 hl (by decide) rfl (fun ls hl => ?_)
      refine lv_iconst (v := 0) hx hb dX0_makeMeltedOf_29 (by decide) ?_
      refine lv_istore (lv' := [(5, .int (0 : Int32)), (4, .int q8), (0, .ref r0), (1, .ref r1), (2, .ref r2), (3, .int i3)]) hx hb dX0_makeMeltedOf_30 hl (by decide) rfl (fun ls hl => ?_)
      refine wl_X0_makeMeltedOf_32 X r0 r1 r2 i3 q8 (Qo := _) (fun q21 hk H locs ls w hl => ?_) FU (0 : Int32) M _ _ _ w (lv_sub hl [2, 3, 4, 5, 1, 0] rfl) (ok_b hk)
      refine lv_iinc (v := (i3 + 1)) (lv' := [(3, .int (i3 + 1)), (0, .ref r0), (1, .ref r1), (2, .ref r2)]) hx hb dX0_makeMeltedOf_66 hl (k := 3) rfl rfl (by decide) rfl (fun ls hl => ?_)
      refine lv_goto (tgt := 14) hx hb dX0_makeMeltedOf_69 (by decide) ?_
      exact hrec (i3 + 1) q21 _ _ _ w (lv_sub hl [1, 2, 3, 0] rfl) hk
theorem wl_X0_makeMeltedOf_14 {p : Program} {l : Launch} {e : Env} {s : State} {m : MethodId} {args : Array Value} {below : List Frame} {meth : Method} {c : Code} {D : va_G} {cy : Cyy} {A : Nat → Prop} {G : Gg} (X : Cx p m c cX0_makeMeltedOf 6 s args wz_X0_makeMeltedOf RX0 D cy) {Q : State → Prop} (r0 : Nat) (r1 : Nat) (r2 : Nat) (Qo : Mm → Prop)  (hE : ∀ (y : Mm), Qo (y) → ∀ (H : Heap) (locs : List Loc) (ls : Array Slot), Wo s D cy A G y H locs → lv_has ls 6 [] → W p l e rm_X0_makeMeltedOf s m args below meth c H locs 0 0 Q (F0 m 72 ls [])) : ∀ (n : Nat) (i3 : Int32) (M : Mm) (H : Heap) (locs : List Loc) (ls : Array Slot), Wo s D cy A G M H locs → lv_has ls 6 [(0, .ref r0), (1, .ref r1), (2, .ref r2), (3, .int i3)] → OK (lp_X0_makeMeltedOf_14 G r0 r1 r2 n i3 M) Qo → W p l e rm_X0_makeMeltedOf s m args below meth c H locs 0 0 Q (F0 m 14 ls []) := by
  intro n
  induction n with
  | zero => intro i3 M H locs ls w hl hk; exact ok_0 hk
  | succ n ih => intro i3 M H locs ls w hl hk; exact wb_X0_makeMeltedOf_14 X r0 r1 r2 Qo hE  (lp_X0_makeMeltedOf_14 G r0 r1 r2 n) ih i3 M H locs ls w hl hk
set_option maxHeartbeats 4000000 in
set_option maxRecDepth 100000 in
theorem c_X0_makeMeltedOf (l : Launch) (D : va_G) (cy : Cyy) (G : Gg) (M : Mm) (r0 : Nat) (r1 : Nat) (r2 : Nat) {q : Mm} (hm : f_X0_makeMeltedOf G M r0 r1 r2 = some q) : CV l yX0_makeMeltedOf wz_X0_makeMeltedOf rm_X0_makeMeltedOf D cy G M [.ref r0, .ref r1, .ref r2] q := by
  refine Met_of (Qf := fun A => QV D cy G A q) (cc := cX0_makeMeltedOf) (nL := 6) (ret := none) (own := RX0) (lv := [(0, .ref r0), (1, .ref r1), (2, .ref r2)]) (by decide) rfl rfl (Nat.le_of_ble_eq_true rfl) rfl ?_
  intro p e s m args below meth c A ls X hr hlk w hl
  have hx := X.1.1
  have hb := X.1.2.1
  obtain ⟨Qo, hR, hk⟩ : ∃ Qo : Mm → Prop, (∀ x, Qo x → x = q) ∧ OK (f_X0_makeMeltedOf G M r0 r1 r2) Qo := ⟨fun x => x = q, fun _ h => h, q, hm, rfl⟩
  unfold f_X0_makeMeltedOf at hk
  refine lv_aload_n hx hb dX0_makeMeltedOf_0 rfl (lv_at hl 0 rfl) ?_
  refine lv_aload_n hx hb dX0_makeMeltedOf_1 rfl (lv_at hl 2 rfl) ?_
  obtain ⟨c1, hk⟩ := ok_c hk
  refine zgNi X w 5 3 97 "BlendBench" (C := RX5) (T := TX5) (N := 4) rfl ui_X5 (by decide) rfl (by decide +kernel) dX0_makeMeltedOf_2 c1 ?_
  refine lv_aload_n hx hb dX0_makeMeltedOf_5 rfl (lv_at hl 1 rfl) ?_
  obtain ⟨c2, hk⟩ := ok_c hk
  refine zgi X w 0 1 15 (C := RX0) (T := TX0) (N := 7) rfl ui_X0 (by decide) rfl (tb wf_X0_15) dX0_makeMeltedOf_6 c2 ?_
  obtain ⟨c5, hk⟩ := ok_c hk
  obtain ⟨q3, e4, hk⟩ := ok_b hk
  refine zVv X w (n := 2) (As := [.int (M.1 r2 3), .int (M.1 r1 1)]) (rest := []) (ci := 0) (C := RX0) (T := TX0) (N := 7) (c_X0_begin l D cy G M r0 (M.1 r2 3) (M.1 r1 1) e4) (gzV wm_X0_53 wi_X0_begin ws_X0_begin wn_X0 wc_X0_begin) rfl rfl rfl (by decide +kernel) (by decide) rfl c5 rfl rfl hl.1 (Nat.le_of_ble_eq_true rfl) dX0_makeMeltedOf_9 ⟨Nat.zero_le _, Nat.zero_le _⟩ (fun H locs w => ?_)
  refine lv_iconst (v := 0) hx hb dX0_makeMeltedOf_12 (by decide) ?_
  refine lv_istore_n (lv' := [(3, .int (0 : Int32)), (0, .ref r0), (1, .ref r1), (2, .ref r2)]) hx hb dX0_makeMeltedOf_13 rfl hl (by decide) rfl (fun ls hl => ?_)
  refine wl_X0_makeMeltedOf_14 X r0 r1 r2 (Qo := _) (fun q22 hk H locs ls w hl => ?_) FU (0 : Int32) q3 _ _ _ w (lv_sub hl [1, 2, 3, 0] rfl) (ok_b hk)
  have hk := hR _ (ok_s hk)
  exact zrv X hr hlk w dX0_makeMeltedOf_72 hk
