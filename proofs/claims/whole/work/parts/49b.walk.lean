abbrev rm_X9_count : Room := { frames := 0, cells := 0, slots := 0, locals := 0 }
set_option maxHeartbeats 4000000 in
set_option maxRecDepth 100000 in
theorem wb_X9_count_9 {p : Program} {l : Launch} {e : Env} {s : State} {m : MethodId} {args : Array Value} {below : List Frame} {meth : Method} {c : Code} {D : va_G} {cy : Cyy} {A : Nat → Prop} {G : Gg} (X : Cx p m c cX9_count 4 s args wz_X9_count RX9 D cy) {Q : State → Prop} (M : Mm) (r0 : Nat) (i1 : Int32) (Qo : Int32 → Prop)  (hE : ∀ (y : Int32), Qo (y) → ∀ (H : Heap) (locs : List Loc) (ls : Array Slot), Wo s D cy A G M H locs → lv_has ls 4 [(0, .ref r0), (1, .int i1), (2, .int y)] → W p l e rm_X9_count s m args below meth c H locs 0 0 Q (F0 m 33 ls [])) (rec : Int32 → Int32 → Option (Int32)) (hrec : ∀ (i2 : Int32) (i3 : Int32) (H : Heap) (locs : List Loc) (ls : Array Slot), Wo s D cy A G M H locs → lv_has ls 4 [(0, .ref r0), (1, .int i1), (2, .int i2), (3, .int i3)] → OK (rec i2 i3) Qo → W p l e rm_X9_count s m args below meth c H locs 0 0 Q (F0 m 9 ls [])) (i2 : Int32) (i3 : Int32) (H : Heap) (locs : List Loc) (ls : Array Slot) (w : Wo s D cy A G M H locs) (hl : lv_has ls 4 [(0, .ref r0), (1, .int i1), (2, .int i2), (3, .int i3)]) (hk : OK (bd_X9_count_9 G M r0 i1 rec i2 i3) Qo) : W p l e rm_X9_count s m args below meth c H locs 0 0 Q (F0 m 9 ls []) := by
    have hx := X.1.1
    have hb := X.1.2.1
    unfold bd_X9_count_9 at hk
    refine lv_iload_n hx hb dX9_count_9 rfl (lv_at hl 3 rfl) ?_
    refine lv_bipush (v := 6) hx hb dX9_count_10 (by decide) ?_
    refine lv_icmp_ge (tgt := 33) hx hb dX9_count_12 (by decide) (fun c2 => ?_) (fun c2 => ?_)
    · have hk := ok_p c2 hk
      exact hE i2 (ok_s hk) _ _ _ w (lv_sub hl [0, 1, 2] rfl)
    · have hk := ok_n c2 hk
      refine lv_aload_n hx hb dX9_count_15 rfl (lv_at hl 0 rfl) ?_
      obtain ⟨c3, hk⟩ := ok_c hk
      obtain ⟨r4, e5, hk⟩ := ok_b hk
      refine zgr X w 9 3 13 (C := RX9) (T := TX9) (N := 23) rfl ui_X9 (by decide) rfl (tb wf_X9_13) dX9_count_16 c3 e5 ?_
      refine lv_iload_n hx hb dX9_count_19 rfl (lv_at hl 3 rfl) ?_
      obtain ⟨c6, hk⟩ := ok_c hk
      obtain ⟨c7, hk⟩ := ok_c hk
      refine zai X w dX9_count_20 c6 c7 ?_
      refine lv_if_le (tgt := 27) hx hb dX9_count_21 (by decide) (fun c8 => ?_) (fun c8 => ?_)
      · have hk := ok_p c8 hk
        refine lv_iinc (v := (i3 + 1)) (lv' := [(3, .int (i3 + 1)), (0, .ref r0), (1, .int i1), (2, .int i2)]) hx hb dX9_count_27 hl (k := 3) rfl rfl (by decide) rfl (fun ls hl => ?_)
        refine lv_goto (tgt := 9) hx hb dX9_count_30 (by decide) ?_
        exact hrec i2 (i3 + 1) _ _ _ w (lv_sub hl [1, 2, 3, 0] rfl) hk
      · have hk := ok_n c8 hk
        refine lv_iinc (v := (i2 + 1)) (lv' := [(2, .int (i2 + 1)), (0, .ref r0), (1, .int i1), (3, .int i3)]) hx hb dX9_count_24 hl (k := 2) rfl rfl (by decide) rfl (fun ls hl => ?_)
        refine lv_iinc (v := (i3 + 1)) (lv' := [(3, .int (i3 + 1)), (2, .int (i2 + 1)), (0, .ref r0), (1, .int i1)]) hx hb dX9_count_27 hl (k := 3) rfl rfl (by decide) rfl (fun ls hl => ?_)
        refine lv_goto (tgt := 9) hx hb dX9_count_30 (by decide) ?_
        exact hrec (i2 + 1) (i3 + 1) _ _ _ w (lv_sub hl [2, 3, 1, 0] rfl) hk
theorem wl_X9_count_9 {p : Program} {l : Launch} {e : Env} {s : State} {m : MethodId} {args : Array Value} {below : List Frame} {meth : Method} {c : Code} {D : va_G} {cy : Cyy} {A : Nat → Prop} {G : Gg} (X : Cx p m c cX9_count 4 s args wz_X9_count RX9 D cy) {Q : State → Prop} (M : Mm) (r0 : Nat) (i1 : Int32) (Qo : Int32 → Prop)  (hE : ∀ (y : Int32), Qo (y) → ∀ (H : Heap) (locs : List Loc) (ls : Array Slot), Wo s D cy A G M H locs → lv_has ls 4 [(0, .ref r0), (1, .int i1), (2, .int y)] → W p l e rm_X9_count s m args below meth c H locs 0 0 Q (F0 m 33 ls [])) : ∀ (n : Nat) (i2 : Int32) (i3 : Int32) (H : Heap) (locs : List Loc) (ls : Array Slot), Wo s D cy A G M H locs → lv_has ls 4 [(0, .ref r0), (1, .int i1), (2, .int i2), (3, .int i3)] → OK (lp_X9_count_9 G M r0 i1 n i2 i3) Qo → W p l e rm_X9_count s m args below meth c H locs 0 0 Q (F0 m 9 ls []) := by
  intro n
  induction n with
  | zero => intro i2 i3 H locs ls w hl hk; exact ok_0 hk
  | succ n ih => intro i2 i3 H locs ls w hl hk; exact wb_X9_count_9 X M r0 i1 Qo hE  (lp_X9_count_9 G M r0 i1 n) ih i2 i3 H locs ls w hl hk
set_option maxHeartbeats 4000000 in
set_option maxRecDepth 100000 in
theorem c_X9_count (l : Launch) (D : va_G) (cy : Cyy) (G : Gg) (M : Mm) (r0 : Nat) (i1 : Int32) {q : Int32 × Mm} (hm : f_X9_count G M r0 i1 = some q) : CI l yX9_count wz_X9_count rm_X9_count D cy G M [.ref r0, .int i1] q.1 q.2 := by
  refine Met_of (Qf := fun A => QI D cy G A q.1 q.2) (cc := cX9_count) (nL := 4) (ret := (some .int)) (own := RX9) (lv := [(0, .ref r0), (1, .int i1)]) (by decide) rfl rfl (Nat.le_of_ble_eq_true rfl) rfl ?_
  intro p e s m args below meth c A ls X hr hlk w hl
  have hx := X.1.1
  have hb := X.1.2.1
  obtain ⟨Qo, hR, hk⟩ : ∃ Qo : Int32 × Mm → Prop, (∀ x, Qo x → x = q) ∧ OK (f_X9_count G M r0 i1) Qo := ⟨fun x => x = q, fun _ h => h, q, hm, rfl⟩
  unfold f_X9_count at hk
  refine lv_aload_n hx hb dX9_count_0 rfl (lv_at hl 0 rfl) ?_
  refine lv_iconst (v := 0) hx hb dX9_count_1 (by decide) ?_
  obtain ⟨c1, hk⟩ := ok_c hk
  refine zpi X w 9 0 59 tyX9 (C := RX9) (T := TX9) (N := 23) rfl ui_X9 tyX9_ok nmX9 (by decide) rfl (tb wf_X9_59) rfl rfl dX9_count_2 c1 (fun H locs w => ?_)
  refine lv_iconst (v := 0) hx hb dX9_count_5 (by decide) ?_
  refine lv_istore_n (lv' := [(2, .int (0 : Int32)), (0, .ref r0), (1, .int i1)]) hx hb dX9_count_6 rfl hl (by decide) rfl (fun ls hl => ?_)
  refine lv_iconst (v := 0) hx hb dX9_count_7 (by decide) ?_
  refine lv_istore_n (lv' := [(3, .int (0 : Int32)), (2, .int (0 : Int32)), (0, .ref r0), (1, .int i1)]) hx hb dX9_count_8 rfl hl (by decide) rfl (fun ls hl => ?_)
  refine wl_X9_count_9 X (mwI M r0 0 (0 : Int32)) r0 i1 (Qo := _) (fun q9 hk H locs ls w hl => ?_) FU (0 : Int32) (0 : Int32) _ _ _ w (lv_sub hl [2, 3, 1, 0] rfl) (ok_b hk)
  refine lv_iload_n hx hb dX9_count_33 rfl (lv_at hl 1 rfl) ?_
  refine lv_if_ne (tgt := 41) hx hb dX9_count_34 (by decide) (fun c10 => ?_) (fun c10 => ?_)
  · have hk := ok_n c10 hk
    refine lv_iload_n hx hb dX9_count_41 rfl (lv_at hl 1 rfl) ?_
    refine lv_iconst (v := 1) hx hb dX9_count_42 (by decide) ?_
    refine lv_icmp_ne (tgt := 53) hx hb dX9_count_43 (by decide) (fun c11 => ?_) (fun c11 => ?_)
    · have hk := ok_n c11 hk
      refine lv_iload_n hx hb dX9_count_53 rfl (lv_at hl 1 rfl) ?_
      refine lv_iconst (v := 2) hx hb dX9_count_54 (by decide) ?_
      refine lv_icmp_ne (tgt := 65) hx hb dX9_count_55 (by decide) (fun c12 => ?_) (fun c12 => ?_)
      · have hk := ok_n c12 hk
        refine lv_iconst (v := (-1)) hx hb dX9_count_65 (by decide) ?_
        have hk := hR _ (ok_s hk)
        exact zri X hr hlk w dX9_count_66 (pr1 hk) (pr2 hk)
      · have hk := ok_p c12 hk
        refine lv_aload_n hx hb dX9_count_58 rfl (lv_at hl 0 rfl) ?_
        refine zgi X w 9 17 153 (C := RX9) (T := TX9) (N := 23) rfl ui_X9 (by decide) rfl (tb wf_X9_153) dX9_count_59 c1 ?_
        refine lv_goto (tgt := 66) hx hb dX9_count_62 (by decide) ?_
        have hk := hR _ (ok_s hk)
        exact zri X hr hlk w dX9_count_66 (pr1 hk) (pr2 hk)
    · have hk := ok_p c11 hk
      refine lv_aload_n hx hb dX9_count_46 rfl (lv_at hl 0 rfl) ?_
      refine zgi X w 9 2 63 (C := RX9) (T := TX9) (N := 23) rfl ui_X9 (by decide) rfl (tb wf_X9_63) dX9_count_47 c1 ?_
      refine lv_goto (tgt := 66) hx hb dX9_count_50 (by decide) ?_
      have hk := hR _ (ok_s hk)
      exact zri X hr hlk w dX9_count_66 (pr1 hk) (pr2 hk)
  · have hk := ok_p c10 hk
    refine lv_iload_n hx hb dX9_count_37 rfl (lv_at hl 2 rfl) ?_
    refine lv_goto (tgt := 66) hx hb dX9_count_38 (by decide) ?_
    have hk := hR _ (ok_s hk)
    exact zri X hr hlk w dX9_count_66 (pr1 hk) (pr2 hk)
