abbrev rm_X2_reachedOutside : Room := { frames := 2, cells := 0, slots := 0, locals := 44 }
set_option maxHeartbeats 4000000 in
set_option maxRecDepth 100000 in
theorem wb_X2_reachedOutside_7 {p : Program} {l : Launch} {e : Env} {s : State} {m : MethodId} {args : Array Value} {below : List Frame} {meth : Method} {c : Code} {D : va_G} {cy : Cyy} {A : Nat → Prop} {G : Gg} (X : Cx p m c cX2_reachedOutside 5 s args wz_X2_reachedOutside RX2 D cy) {Q : State → Prop} (M : Mm) (r0 : Nat) (i2 : Int32) (Qo : Int32 → Prop)  (hE : ∀ (y : Int32), Qo (y) → ∀ (H : Heap) (locs : List Loc) (ls : Array Slot), Wo s D cy A G M H locs → lv_has ls 5 [(3, .int y)] → W p l e rm_X2_reachedOutside s m args below meth c H locs 0 0 Q (F0 m 32 ls [])) (rec : Int32 → Int32 → Option (Int32)) (hrec : ∀ (i3 : Int32) (i4 : Int32) (H : Heap) (locs : List Loc) (ls : Array Slot), Wo s D cy A G M H locs → lv_has ls 5 [(0, .ref r0), (2, .int i2), (3, .int i3), (4, .int i4)] → OK (rec i3 i4) Qo → W p l e rm_X2_reachedOutside s m args below meth c H locs 0 0 Q (F0 m 7 ls [])) (i3 : Int32) (i4 : Int32) (H : Heap) (locs : List Loc) (ls : Array Slot) (w : Wo s D cy A G M H locs) (hl : lv_has ls 5 [(0, .ref r0), (2, .int i2), (3, .int i3), (4, .int i4)]) (hk : OK (bd_X2_reachedOutside_7 G M r0 i2 rec i3 i4) Qo) : W p l e rm_X2_reachedOutside s m args below meth c H locs 0 0 Q (F0 m 7 ls []) := by
    have hx := X.1.1
    have hb := X.1.2.1
    unfold bd_X2_reachedOutside_7 at hk
    refine lv_iload hx hb dX2_reachedOutside_7 (lv_at hl 3 rfl) ?_
    refine lv_bipush (v := 8) hx hb dX2_reachedOutside_9 (by decide) ?_
    refine lv_icmp_ge (tgt := 32) hx hb dX2_reachedOutside_11 (by decide) (fun c1 => ?_) (fun c1 => ?_)
    · have hk := ok_p c1 hk
      exact hE i3 (ok_s hk) _ _ _ w (lv_sub hl [2] rfl)
    · have hk := ok_n c1 hk
      refine lv_iload_n hx hb dX2_reachedOutside_14 rfl (lv_at hl 2 rfl) ?_
      refine lv_aload_n hx hb dX2_reachedOutside_15 rfl (lv_at hl 0 rfl) ?_
      refine lv_iload_n hx hb dX2_reachedOutside_16 rfl (lv_at hl 2 rfl) ?_
      obtain ⟨c4, hk⟩ := ok_c hk
      obtain ⟨q2, e3, hk⟩ := ok_b hk
      refine zVi X w (n := 1) (As := [.int i3]) (rest := [.int i3]) (ci := 0) (C := RX0) (T := TX0) (N := 7) (c_X0_nextsOf l D cy G M r0 i3 e3) (gzV wm_X2_50 wi_X0_nextsOf ws_X0_nextsOf wn_X0 wc_X0_nextsOf) rfl rfl rfl (by decide +kernel) (by decide) rfl c4 rfl rfl hl.1 (Nat.le_of_ble_eq_true rfl) dX2_reachedOutside_17 ⟨Nat.zero_le _, Nat.zero_le _⟩ (fun H locs w => ?_)
      refine lv_iload_n hx hb dX2_reachedOutside_20 rfl (lv_at hl 1 rfl) ?_
      refine lv_iconst (v := (-1)) hx hb dX2_reachedOutside_21 (by decide) ?_
      refine lv_ixor hx hb dX2_reachedOutside_22 ?_
      refine lv_iand hx hb dX2_reachedOutside_23 ?_
      refine lv_ior hx hb dX2_reachedOutside_24 ?_
      refine lv_istore_n (lv' := [(3, .int (i3 ||| (q2 &&& (i2 ^^^ (-1))))), (0, .ref r0), (2, .int i2), (4, .int i4)]) hx hb dX2_reachedOutside_25 rfl hl (by decide) rfl (fun ls hl => ?_)
      refine lv_iinc (v := (i4 + 1)) (lv' := [(4, .int (i4 + 1)), (3, .int (i3 ||| (q2 &&& (i2 ^^^ (-1))))), (0, .ref r0), (2, .int i2)]) hx hb dX2_reachedOutside_26 hl (k := 3) rfl rfl (by decide) rfl (fun ls hl => ?_)
      refine lv_goto (tgt := 7) hx hb dX2_reachedOutside_29 (by decide) ?_
      exact hrec (i3 ||| (q2 &&& (i2 ^^^ (-1)))) (i4 + 1) _ _ _ w (lv_sub hl [2, 3, 1, 0] rfl) hk
theorem wl_X2_reachedOutside_7 {p : Program} {l : Launch} {e : Env} {s : State} {m : MethodId} {args : Array Value} {below : List Frame} {meth : Method} {c : Code} {D : va_G} {cy : Cyy} {A : Nat → Prop} {G : Gg} (X : Cx p m c cX2_reachedOutside 5 s args wz_X2_reachedOutside RX2 D cy) {Q : State → Prop} (M : Mm) (r0 : Nat) (i2 : Int32) (Qo : Int32 → Prop)  (hE : ∀ (y : Int32), Qo (y) → ∀ (H : Heap) (locs : List Loc) (ls : Array Slot), Wo s D cy A G M H locs → lv_has ls 5 [(3, .int y)] → W p l e rm_X2_reachedOutside s m args below meth c H locs 0 0 Q (F0 m 32 ls [])) : ∀ (n : Nat) (i3 : Int32) (i4 : Int32) (H : Heap) (locs : List Loc) (ls : Array Slot), Wo s D cy A G M H locs → lv_has ls 5 [(0, .ref r0), (2, .int i2), (3, .int i3), (4, .int i4)] → OK (lp_X2_reachedOutside_7 G M r0 i2 n i3 i4) Qo → W p l e rm_X2_reachedOutside s m args below meth c H locs 0 0 Q (F0 m 7 ls []) := by
  intro n
  induction n with
  | zero => intro i3 i4 H locs ls w hl hk; exact ok_0 hk
  | succ n ih => intro i3 i4 H locs ls w hl hk; exact wb_X2_reachedOutside_7 X M r0 i2 Qo hE  (lp_X2_reachedOutside_7 G M r0 i2 n) ih i3 i4 H locs ls w hl hk
set_option maxHeartbeats 4000000 in
set_option maxRecDepth 100000 in
theorem c_X2_reachedOutside (l : Launch) (D : va_G) (cy : Cyy) (G : Gg) (M : Mm) (r0 : Nat) (i1 : Int32) (i2 : Int32) {q : Int32} (hm : f_X2_reachedOutside G M r0 i1 i2 = some q) : CI l yX2_reachedOutside wz_X2_reachedOutside rm_X2_reachedOutside D cy G M [.ref r0, .int i1, .int i2] q M := by
  refine Met_of (Qf := fun A => QI D cy G A q M) (cc := cX2_reachedOutside) (nL := 5) (ret := (some .int)) (own := RX2) (lv := [(0, .ref r0), (1, .int i1), (2, .int i2)]) (by decide) rfl rfl (Nat.le_of_ble_eq_true rfl) rfl ?_
  intro p e s m args below meth c A ls X hr hlk w hl
  have hx := X.1.1
  have hb := X.1.2.1
  obtain ⟨Qo, hR, hk⟩ : ∃ Qo : Int32 → Prop, (∀ x, Qo x → x = q) ∧ OK (f_X2_reachedOutside G M r0 i1 i2) Qo := ⟨fun x => x = q, fun _ h => h, q, hm, rfl⟩
  unfold f_X2_reachedOutside at hk
  refine lv_iconst (v := 1) hx hb dX2_reachedOutside_0 (by decide) ?_
  refine lv_iload_n hx hb dX2_reachedOutside_1 rfl (lv_at hl 1 rfl) ?_
  refine lv_ishl hx hb dX2_reachedOutside_2 ?_
  refine lv_istore_n (lv' := [(3, .int ((1 : Int32) <<< (i1 &&& 31))), (0, .ref r0), (1, .int i1), (2, .int i2)]) hx hb dX2_reachedOutside_3 rfl hl (by decide) rfl (fun ls hl => ?_)
  refine lv_iconst (v := 0) hx hb dX2_reachedOutside_4 (by decide) ?_
  refine lv_istore (lv' := [(4, .int (0 : Int32)), (3, .int ((1 : Int32) <<< (i1 &&& 31))), (0, .ref r0), (1, .int i1), (2, .int i2)]) hx hb dX2_reachedOutside_5 hl (by decide) rfl (fun ls hl => ?_)
  refine wl_X2_reachedOutside_7 X M r0 i2 (Qo := _) (fun q5 hk H locs ls w hl => ?_) FU ((1 : Int32) <<< (i1 &&& 31)) (0 : Int32) _ _ _ w (lv_sub hl [2, 4, 1, 0] rfl) (ok_b hk)
  refine lv_iload_n hx hb dX2_reachedOutside_32 rfl (lv_at hl 0 rfl) ?_
  have hk := hR _ (ok_s hk)
  exact zri X hr hlk w dX2_reachedOutside_33 hk rfl
abbrev rm_X2_allLeadInto : Room := { frames := 1, cells := 0, slots := 0, locals := 21 }
set_option maxHeartbeats 4000000 in
set_option maxRecDepth 100000 in
theorem wb_X2_allLeadInto_2 {p : Program} {l : Launch} {e : Env} {s : State} {m : MethodId} {args : Array Value} {below : List Frame} {meth : Method} {c : Code} {D : va_G} {cy : Cyy} {A : Nat → Prop} {G : Gg} (X : Cx p m c cX2_allLeadInto 4 s args wz_X2_allLeadInto RX2 D cy) (M : Mm) (r0 : Nat) (i1 : Int32) (i2 : Int32) (Qo : (Int32) ⊕ (Unit) → Prop) (hr : meth.sig.returnType = (some .boolean)) (hlk : meth.locks = false) {x0 : Int32} (hR : ∀ x, Qo (.inl x) → x = x0) (hE : ∀ (y : Unit), Qo (.inr y) → ∀ (H : Heap) (locs : List Loc) (ls : Array Slot), Wo s D cy A G M H locs → lv_has ls 4 [] → W p l e rm_X2_allLeadInto s m args below meth c H locs 0 0 (MQ below (QI D cy G A x0 M) args s 0 0 A) (F0 m 37 ls [])) (rec : Int32 → Option ((Int32) ⊕ (Unit))) (hrec : ∀ (i3 : Int32) (H : Heap) (locs : List Loc) (ls : Array Slot), Wo s D cy A G M H locs → lv_has ls 4 [(0, .ref r0), (1, .int i1), (2, .int i2), (3, .int i3)] → OK (rec i3) Qo → W p l e rm_X2_allLeadInto s m args below meth c H locs 0 0 (MQ below (QI D cy G A x0 M) args s 0 0 A) (F0 m 2 ls [])) (i3 : Int32) (H : Heap) (locs : List Loc) (ls : Array Slot) (w : Wo s D cy A G M H locs) (hl : lv_has ls 4 [(0, .ref r0), (1, .int i1), (2, .int i2), (3, .int i3)]) (hk : OK (bd_X2_allLeadInto_2 G M r0 i1 i2 rec i3) Qo) : W p l e rm_X2_allLeadInto s m args below meth c H locs 0 0 (MQ below (QI D cy G A x0 M) args s 0 0 A) (F0 m 2 ls []) := by
    have hx := X.1.1
    have hb := X.1.2.1
    unfold bd_X2_allLeadInto_2 at hk
    refine lv_iload_n hx hb dX2_allLeadInto_2 rfl (lv_at hl 3 rfl) ?_
    refine lv_aload_n hx hb dX2_allLeadInto_3 rfl (lv_at hl 0 rfl) ?_
    obtain ⟨c1, hk⟩ := ok_c hk
    refine zgNi X w 0 0 54 "BlendBench" (C := RX0) (T := TX0) (N := 7) rfl ui_X0 (by decide) rfl (by decide +kernel) dX2_allLeadInto_4 c1 ?_
    refine lv_icmp_ge (tgt := 37) hx hb dX2_allLeadInto_7 (by decide) (fun c2 => ?_) (fun c2 => ?_)
    · have hk := ok_p c2 hk
      exact hE () (ok_s hk) _ _ _ w (lv_sub hl [] rfl)
    · have hk := ok_n c2 hk
      refine lv_iload_n hx hb dX2_allLeadInto_10 rfl (lv_at hl 1 rfl) ?_
      refine lv_iload_n hx hb dX2_allLeadInto_11 rfl (lv_at hl 3 rfl) ?_
      obtain ⟨q3, e4, hk⟩ := ok_b hk
      refine zNi X w (n := 2) (As := [.int i1, .int i3]) (rest := []) (host := "BlendBench") (c_X8_has l D cy G M i1 i3 e4) (gzN wc_X8_has) rfl rfl rfl (by decide +kernel) (tb wn_X8) (tb wt_X8_has) (by decide +kernel) (by decide) rfl rfl hl.1 (Nat.le_of_ble_eq_true rfl) dX2_allLeadInto_12 ⟨Nat.zero_le _, Nat.zero_le _⟩ (fun H locs w => ?_)
      refine lv_if_eq (tgt := 31) hx hb dX2_allLeadInto_15 (by decide) (fun c5 => ?_) (fun c5 => ?_)
      · have hk := ok_p c5 hk
        refine lv_iinc (v := (i3 + 1)) (lv' := [(3, .int (i3 + 1)), (0, .ref r0), (1, .int i1), (2, .int i2)]) hx hb dX2_allLeadInto_31 hl (k := 3) rfl rfl (by decide) rfl (fun ls hl => ?_)
        refine lv_goto (tgt := 2) hx hb dX2_allLeadInto_34 (by decide) ?_
        exact hrec (i3 + 1) _ _ _ w (lv_sub hl [1, 2, 3, 0] rfl) hk
      · have hk := ok_n c5 hk
        refine lv_aload_n hx hb dX2_allLeadInto_18 rfl (lv_at hl 0 rfl) ?_
        obtain ⟨r6, e7, hk⟩ := ok_b hk
        refine zgNr X w 0 4 57 "BlendBench" (C := RX0) (T := TX0) (N := 7) rfl ui_X0 (by decide) rfl (by decide +kernel) dX2_allLeadInto_19 c1 e7 ?_
        refine lv_iload_n hx hb dX2_allLeadInto_22 rfl (lv_at hl 3 rfl) ?_
        obtain ⟨c8, hk⟩ := ok_c hk
        obtain ⟨c9, hk⟩ := ok_c hk
        refine zai X w dX2_allLeadInto_23 c8 c9 ?_
        refine lv_iload_n hx hb dX2_allLeadInto_24 rfl (lv_at hl 2 rfl) ?_
        refine lv_iand hx hb dX2_allLeadInto_25 ?_
        refine lv_if_ne (tgt := 31) hx hb dX2_allLeadInto_26 (by decide) (fun c10 => ?_) (fun c10 => ?_)
        · have hk := ok_n c10 hk
          refine lv_iinc (v := (i3 + 1)) (lv' := [(3, .int (i3 + 1)), (0, .ref r0), (1, .int i1), (2, .int i2)]) hx hb dX2_allLeadInto_31 hl (k := 3) rfl rfl (by decide) rfl (fun ls hl => ?_)
          refine lv_goto (tgt := 2) hx hb dX2_allLeadInto_34 (by decide) ?_
          exact hrec (i3 + 1) _ _ _ w (lv_sub hl [1, 2, 3, 0] rfl) hk
        · have hk := ok_p c10 hk
          refine lv_iconst (v := 0) hx hb dX2_allLeadInto_29 (by decide) ?_
          have hk := hR _ (ok_s hk)
          exact zrz X hr hlk w dX2_allLeadInto_30 (by decide) hk rfl
theorem wl_X2_allLeadInto_2 {p : Program} {l : Launch} {e : Env} {s : State} {m : MethodId} {args : Array Value} {below : List Frame} {meth : Method} {c : Code} {D : va_G} {cy : Cyy} {A : Nat → Prop} {G : Gg} (X : Cx p m c cX2_allLeadInto 4 s args wz_X2_allLeadInto RX2 D cy) (M : Mm) (r0 : Nat) (i1 : Int32) (i2 : Int32) (Qo : (Int32) ⊕ (Unit) → Prop) (hr : meth.sig.returnType = (some .boolean)) (hlk : meth.locks = false) {x0 : Int32} (hR : ∀ x, Qo (.inl x) → x = x0) (hE : ∀ (y : Unit), Qo (.inr y) → ∀ (H : Heap) (locs : List Loc) (ls : Array Slot), Wo s D cy A G M H locs → lv_has ls 4 [] → W p l e rm_X2_allLeadInto s m args below meth c H locs 0 0 (MQ below (QI D cy G A x0 M) args s 0 0 A) (F0 m 37 ls [])) : ∀ (n : Nat) (i3 : Int32) (H : Heap) (locs : List Loc) (ls : Array Slot), Wo s D cy A G M H locs → lv_has ls 4 [(0, .ref r0), (1, .int i1), (2, .int i2), (3, .int i3)] → OK (lp_X2_allLeadInto_2 G M r0 i1 i2 n i3) Qo → W p l e rm_X2_allLeadInto s m args below meth c H locs 0 0 (MQ below (QI D cy G A x0 M) args s 0 0 A) (F0 m 2 ls []) := by
  intro n
  induction n with
  | zero => intro i3 H locs ls w hl hk; exact ok_0 hk
  | succ n ih => intro i3 H locs ls w hl hk; exact wb_X2_allLeadInto_2 X M r0 i1 i2 Qo hr hlk hR hE  (lp_X2_allLeadInto_2 G M r0 i1 i2 n) ih i3 H locs ls w hl hk
set_option maxHeartbeats 4000000 in
set_option maxRecDepth 100000 in
theorem c_X2_allLeadInto (l : Launch) (D : va_G) (cy : Cyy) (G : Gg) (M : Mm) (r0 : Nat) (i1 : Int32) (i2 : Int32) {q : Int32} (hm : f_X2_allLeadInto G M r0 i1 i2 = some q) : CI l yX2_allLeadInto wz_X2_allLeadInto rm_X2_allLeadInto D cy G M [.ref r0, .int i1, .int i2] q M := by
  refine Met_of (Qf := fun A => QI D cy G A q M) (cc := cX2_allLeadInto) (nL := 4) (ret := (some .boolean)) (own := RX2) (lv := [(0, .ref r0), (1, .int i1), (2, .int i2)]) (by decide) rfl rfl (Nat.le_of_ble_eq_true rfl) rfl ?_
  intro p e s m args below meth c A ls X hr hlk w hl
  have hx := X.1.1
  have hb := X.1.2.1
  obtain ⟨Qo, hR, hk⟩ : ∃ Qo : Int32 → Prop, (∀ x, Qo x → x = q) ∧ OK (f_X2_allLeadInto G M r0 i1 i2) Qo := ⟨fun x => x = q, fun _ h => h, q, hm, rfl⟩
  unfold f_X2_allLeadInto at hk
  refine lv_iconst (v := 0) hx hb dX2_allLeadInto_0 (by decide) ?_
  refine lv_istore_n (lv' := [(3, .int (0 : Int32)), (0, .ref r0), (1, .int i1), (2, .int i2)]) hx hb dX2_allLeadInto_1 rfl hl (by decide) rfl (fun ls hl => ?_)
  refine wl_X2_allLeadInto_2 X M r0 i1 i2 (Qo := _) hr hlk (fun x h => hR x (ok_s (show OK (some x) Qo from h))) (fun y12 hk H locs ls w hl => ?_) FU (0 : Int32) _ _ _ w (lv_sub hl [1, 2, 3, 0] rfl) (ok_b hk)
  have hk := ok_r hk
  refine lv_iconst (v := 1) hx hb dX2_allLeadInto_37 (by decide) ?_
  have hk := hR _ (ok_s hk)
  exact zrz X hr hlk w dX2_allLeadInto_38 (by decide) hk rfl
abbrev rm_X3_loadRow : Room := { frames := 2, cells := 0, slots := 0, locals := 43 }
set_option maxHeartbeats 4000000 in
set_option maxRecDepth 100000 in
theorem wb_X3_loadRow_12 {p : Program} {l : Launch} {e : Env} {s : State} {m : MethodId} {args : Array Value} {below : List Frame} {meth : Method} {c : Code} {D : va_G} {cy : Cyy} {A : Nat → Prop} {G : Gg} (X : Cx p m c cX3_loadRow 6 s args wz_X3_loadRow RX3 D cy) {Q : State → Prop} (r0 : Nat) (r1 : Nat) (i2 : Int32) (i3 : Int32) (Qo : Mm → Prop)  (hE : ∀ (y : Mm), Qo (y) → ∀ (H : Heap) (locs : List Loc) (ls : Array Slot), Wo s D cy A G y H locs → lv_has ls 6 [] → W p l e rm_X3_loadRow s m args below meth c H locs 0 0 Q (F0 m 69 ls [])) (rec : Int32 → Int32 → Mm → Option (Mm)) (hrec : ∀ (i4 : Int32) (i5 : Int32) (M : Mm) (H : Heap) (locs : List Loc) (ls : Array Slot), Wo s D cy A G M H locs → lv_has ls 6 [(0, .ref r0), (1, .ref r1), (2, .int i2), (3, .int i3), (4, .int i4), (5, .int i5)] → OK (rec i4 i5 M) Qo → W p l e rm_X3_loadRow s m args below meth c H locs 0 0 Q (F0 m 12 ls [])) (i4 : Int32) (i5 : Int32) (M : Mm) (H : Heap) (locs : List Loc) (ls : Array Slot) (w : Wo s D cy A G M H locs) (hl : lv_has ls 6 [(0, .ref r0), (1, .ref r1), (2, .int i2), (3, .int i3), (4, .int i4), (5, .int i5)]) (hk : OK (bd_X3_loadRow_12 G r0 r1 i2 i3 rec i4 i5 M) Qo) : W p l e rm_X3_loadRow s m args below meth c H locs 0 0 Q (F0 m 12 ls []) := by
    have hx := X.1.1
    have hb := X.1.2.1
    unfold bd_X3_loadRow_12 at hk
    refine lv_iload hx hb dX3_loadRow_12 (lv_at hl 5 rfl) ?_
    refine lv_aload_n hx hb dX3_loadRow_14 rfl (lv_at hl 1 rfl) ?_
    obtain ⟨c2, hk⟩ := ok_c hk
    refine zgNi X w 0 0 22 "BlendBench" (C := RX0) (T := TX0) (N := 7) rfl ui_X0 (by decide) rfl (by decide +kernel) dX3_loadRow_15 c2 ?_
    refine lv_icmp_ge (tgt := 69) hx hb dX3_loadRow_18 (by decide) (fun c3 => ?_) (fun c3 => ?_)
    · have hk := ok_p c3 hk
      exact hE M (ok_s hk) _ _ _ w (lv_sub hl [] rfl)
    · have hk := ok_n c3 hk
      refine lv_iload_n hx hb dX3_loadRow_21 rfl (lv_at hl 2 rfl) ?_
      refine lv_iload hx hb dX3_loadRow_22 (lv_at hl 5 rfl) ?_
      obtain ⟨q4, e5, hk⟩ := ok_b hk
      refine zNi X w (n := 2) (As := [.int i2, .int i5]) (rest := []) (host := "BlendBench") (c_X8_has l D cy G M i2 i5 e5) (gzN wc_X8_has) rfl rfl rfl (by decide +kernel) (tb wn_X8) (tb wt_X8_has) (by decide +kernel) (by decide) rfl rfl hl.1 (Nat.le_of_ble_eq_true rfl) dX3_loadRow_24 ⟨Nat.zero_le _, Nat.zero_le _⟩ (fun H locs w => ?_)
      refine lv_if_eq (tgt := 63) hx hb dX3_loadRow_27 (by decide) (fun c6 => ?_) (fun c6 => ?_)
      · have hk := ok_p c6 hk
        refine lv_iinc (v := (i5 + 1)) (lv' := [(5, .int (i5 + 1)), (0, .ref r0), (1, .ref r1), (2, .int i2), (3, .int i3), (4, .int i4)]) hx hb dX3_loadRow_63 hl (k := 5) rfl rfl (by decide) rfl (fun ls hl => ?_)
        refine lv_goto (tgt := 12) hx hb dX3_loadRow_66 (by decide) ?_
        exact hrec i4 (i5 + 1) M _ _ _ w (lv_sub hl [1, 2, 3, 4, 5, 0] rfl) hk
      · have hk := ok_n c6 hk
        refine lv_aload_n hx hb dX3_loadRow_30 rfl (lv_at hl 0 rfl) ?_
        obtain ⟨c7, hk⟩ := ok_c hk
        obtain ⟨r8, e9, hk⟩ := ok_b hk
        refine zgr X w 3 0 9 (C := RX3) (T := TX3) (N := 3) rfl ui_X3 (by decide) rfl (tb wf_X3_9) dX3_loadRow_31 c7 e9 ?_
        refine lv_iload hx hb dX3_loadRow_34 (lv_at hl 4 rfl) ?_
        refine lv_iload_n hx hb dX3_loadRow_36 rfl (lv_at hl 3 rfl) ?_
        refine lv_iload hx hb dX3_loadRow_37 (lv_at hl 5 rfl) ?_
        refine lv_icmp_ne (tgt := 49) hx hb dX3_loadRow_39 (by decide) (fun c10 => ?_) (fun c10 => ?_)
        · have hk := ok_n c10 hk
          refine lv_iconst (v := 0) hx hb dX3_loadRow_49 (by decide) ?_
          refine lv_aload_n hx hb dX3_loadRow_50 rfl (lv_at hl 1 rfl) ?_
          refine lv_iload_n hx hb dX3_loadRow_51 rfl (lv_at hl 3 rfl) ?_
          refine lv_iload hx hb dX3_loadRow_52 (lv_at hl 5 rfl) ?_
          obtain ⟨q11, e12, hk⟩ := ok_b hk
          refine zVi X w (n := 2) (As := [.int i3, .int i5]) (rest := [.int (0 : Int32), .int i4, .ref r8]) (ci := 0) (C := RX0) (T := TX0) (N := 7) (c_X0_at l D cy G M r1 i3 i5 e12) (gzV wm_X3_36 wi_X0_at ws_X0_at wn_X0 wc_X0_at) rfl rfl rfl (by decide +kernel) (by decide) rfl c2 rfl rfl hl.1 (Nat.le_of_ble_eq_true rfl) dX3_loadRow_54 ⟨Nat.zero_le _, Nat.zero_le _⟩ (fun H locs w => ?_)
          refine lv_isub hx hb dX3_loadRow_57 ?_
          refine lv_i2l hx hb dX3_loadRow_58 rfl ?_
          obtain ⟨c13, hk⟩ := ok_c hk
          obtain ⟨c14, hk⟩ := ok_c hk
          refine zsl X w dX3_loadRow_59 c13 c14 (fun H locs w => ?_)
          refine lv_iinc (v := (i4 + 1)) (lv' := [(4, .int (i4 + 1)), (0, .ref r0), (1, .ref r1), (2, .int i2), (3, .int i3), (5, .int i5)]) hx hb dX3_loadRow_60 hl (k := 4) rfl rfl (by decide) rfl (fun ls hl => ?_)
          refine lv_iinc (v := (i5 + 1)) (lv' := [(5, .int (i5 + 1)), (4, .int (i4 + 1)), (0, .ref r0), (1, .ref r1), (2, .int i2), (3, .int i3)]) hx hb dX3_loadRow_63 hl (k := 5) rfl rfl (by decide) rfl (fun ls hl => ?_)
          refine lv_goto (tgt := 12) hx hb dX3_loadRow_66 (by decide) ?_
          exact hrec (i4 + 1) (i5 + 1) (mwJ M r8 (Int32.toNatClampNeg i4) (Int32.toInt64 ((0 : Int32) - q11))) _ _ _ w (lv_sub hl [2, 3, 4, 5, 1, 0] rfl) hk
        · have hk := ok_p c10 hk
          refine lv_aload_n hx hb dX3_loadRow_42 rfl (lv_at hl 1 rfl) ?_
          refine zgNi X w 0 1 33 "BlendBench" (C := RX0) (T := TX0) (N := 7) rfl ui_X0 (by decide) rfl (by decide +kernel) dX3_loadRow_43 c2 ?_
          refine lv_goto (tgt := 50) hx hb dX3_loadRow_46 (by decide) ?_
          refine lv_aload_n hx hb dX3_loadRow_50 rfl (lv_at hl 1 rfl) ?_
          refine lv_iload_n hx hb dX3_loadRow_51 rfl (lv_at hl 3 rfl) ?_
          refine lv_iload hx hb dX3_loadRow_52 (lv_at hl 5 rfl) ?_
          obtain ⟨q15, e16, hk⟩ := ok_b hk
          refine zVi X w (n := 2) (As := [.int i3, .int i5]) (rest := [.int (M.1 r1 1), .int i4, .ref r8]) (ci := 0) (C := RX0) (T := TX0) (N := 7) (c_X0_at l D cy G M r1 i3 i5 e16) (gzV wm_X3_36 wi_X0_at ws_X0_at wn_X0 wc_X0_at) rfl rfl rfl (by decide +kernel) (by decide) rfl c2 rfl rfl hl.1 (Nat.le_of_ble_eq_true rfl) dX3_loadRow_54 ⟨Nat.zero_le _, Nat.zero_le _⟩ (fun H locs w => ?_)
          refine lv_isub hx hb dX3_loadRow_57 ?_
          refine lv_i2l hx hb dX3_loadRow_58 rfl ?_
          obtain ⟨c17, hk⟩ := ok_c hk
          obtain ⟨c18, hk⟩ := ok_c hk
          refine zsl X w dX3_loadRow_59 c17 c18 (fun H locs w => ?_)
          refine lv_iinc (v := (i4 + 1)) (lv' := [(4, .int (i4 + 1)), (0, .ref r0), (1, .ref r1), (2, .int i2), (3, .int i3), (5, .int i5)]) hx hb dX3_loadRow_60 hl (k := 4) rfl rfl (by decide) rfl (fun ls hl => ?_)
          refine lv_iinc (v := (i5 + 1)) (lv' := [(5, .int (i5 + 1)), (4, .int (i4 + 1)), (0, .ref r0), (1, .ref r1), (2, .int i2), (3, .int i3)]) hx hb dX3_loadRow_63 hl (k := 5) rfl rfl (by decide) rfl (fun ls hl => ?_)
          refine lv_goto (tgt := 12) hx hb dX3_loadRow_66 (by decide) ?_
          exact hrec (i4 + 1) (i5 + 1) (mwJ M r8 (Int32.toNatClampNeg i4) (Int32.toInt64 ((M.1 r1 1) - q15))) _ _ _ w (lv_sub hl [2, 3, 4, 5, 1, 0] rfl) hk
theorem wl_X3_loadRow_12 {p : Program} {l : Launch} {e : Env} {s : State} {m : MethodId} {args : Array Value} {below : List Frame} {meth : Method} {c : Code} {D : va_G} {cy : Cyy} {A : Nat → Prop} {G : Gg} (X : Cx p m c cX3_loadRow 6 s args wz_X3_loadRow RX3 D cy) {Q : State → Prop} (r0 : Nat) (r1 : Nat) (i2 : Int32) (i3 : Int32) (Qo : Mm → Prop)  (hE : ∀ (y : Mm), Qo (y) → ∀ (H : Heap) (locs : List Loc) (ls : Array Slot), Wo s D cy A G y H locs → lv_has ls 6 [] → W p l e rm_X3_loadRow s m args below meth c H locs 0 0 Q (F0 m 69 ls [])) : ∀ (n : Nat) (i4 : Int32) (i5 : Int32) (M : Mm) (H : Heap) (locs : List Loc) (ls : Array Slot), Wo s D cy A G M H locs → lv_has ls 6 [(0, .ref r0), (1, .ref r1), (2, .int i2), (3, .int i3), (4, .int i4), (5, .int i5)] → OK (lp_X3_loadRow_12 G r0 r1 i2 i3 n i4 i5 M) Qo → W p l e rm_X3_loadRow s m args below meth c H locs 0 0 Q (F0 m 12 ls []) := by
  intro n
  induction n with
  | zero => intro i4 i5 M H locs ls w hl hk; exact ok_0 hk
  | succ n ih => intro i4 i5 M H locs ls w hl hk; exact wb_X3_loadRow_12 X r0 r1 i2 i3 Qo hE  (lp_X3_loadRow_12 G r0 r1 i2 i3 n) ih i4 i5 M H locs ls w hl hk
set_option maxHeartbeats 4000000 in
set_option maxRecDepth 100000 in
theorem c_X3_loadRow (l : Launch) (D : va_G) (cy : Cyy) (G : Gg) (M : Mm) (r0 : Nat) (r1 : Nat) (i2 : Int32) (i3 : Int32) {q : Mm} (hm : f_X3_loadRow G M r0 r1 i2 i3 = some q) : CV l yX3_loadRow wz_X3_loadRow rm_X3_loadRow D cy G M [.ref r0, .ref r1, .int i2, .int i3] q := by
  refine Met_of (Qf := fun A => QV D cy G A q) (cc := cX3_loadRow) (nL := 6) (ret := none) (own := RX3) (lv := [(0, .ref r0), (1, .ref r1), (2, .int i2), (3, .int i3)]) (by decide) rfl rfl (Nat.le_of_ble_eq_true rfl) rfl ?_
  intro p e s m args below meth c A ls X hr hlk w hl
  have hx := X.1.1
  have hb := X.1.2.1
  obtain ⟨Qo, hR, hk⟩ : ∃ Qo : Mm → Prop, (∀ x, Qo x → x = q) ∧ OK (f_X3_loadRow G M r0 r1 i2 i3) Qo := ⟨fun x => x = q, fun _ h => h, q, hm, rfl⟩
  unfold f_X3_loadRow at hk
  refine lv_aload_n hx hb dX3_loadRow_0 rfl (lv_at hl 0 rfl) ?_
  obtain ⟨c1, hk⟩ := ok_c hk
  refine zgi X w 3 2 18 (C := RX3) (T := TX3) (N := 3) rfl ui_X3 (by decide) rfl (tb wf_X3_18) dX3_loadRow_1 c1 ?_
  refine lv_bipush (v := 8) hx hb dX3_loadRow_4 (by decide) ?_
  refine lv_imul hx hb dX3_loadRow_6 ?_
  refine lv_istore (lv' := [(4, .int ((M.1 r0 2) * (8 : Int32))), (0, .ref r0), (1, .ref r1), (2, .int i2), (3, .int i3)]) hx hb dX3_loadRow_7 hl (by decide) rfl (fun ls hl => ?_)
  refine lv_iconst (v := 0) hx hb dX3_loadRow_9 (by decide) ?_
  refine lv_istore (lv' := [(5, .int (0 : Int32)), (4, .int ((M.1 r0 2) * (8 : Int32))), (0, .ref r0), (1, .ref r1), (2, .int i2), (3, .int i3)]) hx hb dX3_loadRow_10 hl (by decide) rfl (fun ls hl => ?_)
  refine wl_X3_loadRow_12 X r0 r1 i2 i3 (Qo := _) (fun q19 hk H locs ls w hl => ?_) FU ((M.1 r0 2) * (8 : Int32)) (0 : Int32) M _ _ _ w (lv_sub hl [2, 3, 4, 5, 1, 0] rfl) (ok_b hk)
  have hk := hR _ (ok_s hk)
  exact zrv X hr hlk w dX3_loadRow_69 hk
abbrev rm_X3_load : Room := { frames := 3, cells := 0, slots := 0, locals := 68 }
set_option maxHeartbeats 4000000 in
set_option maxRecDepth 100000 in
theorem wb_X3_load_7 {p : Program} {l : Launch} {e : Env} {s : State} {m : MethodId} {args : Array Value} {below : List Frame} {meth : Method} {c : Code} {D : va_G} {cy : Cyy} {A : Nat → Prop} {G : Gg} (X : Cx p m c cX3_load 4 s args wz_X3_load RX3 D cy) {Q : State → Prop} (r0 : Nat) (r1 : Nat) (i2 : Int32) (Qo : Mm → Prop)  (hE : ∀ (y : Mm), Qo (y) → ∀ (H : Heap) (locs : List Loc) (ls : Array Slot), Wo s D cy A G y H locs → lv_has ls 4 [] → W p l e rm_X3_load s m args below meth c H locs 0 0 Q (F0 m 46 ls [])) (rec : Int32 → Mm → Option (Mm)) (hrec : ∀ (i3 : Int32) (M : Mm) (H : Heap) (locs : List Loc) (ls : Array Slot), Wo s D cy A G M H locs → lv_has ls 4 [(0, .ref r0), (1, .ref r1), (2, .int i2), (3, .int i3)] → OK (rec i3 M) Qo → W p l e rm_X3_load s m args below meth c H locs 0 0 Q (F0 m 7 ls [])) (i3 : Int32) (M : Mm) (H : Heap) (locs : List Loc) (ls : Array Slot) (w : Wo s D cy A G M H locs) (hl : lv_has ls 4 [(0, .ref r0), (1, .ref r1), (2, .int i2), (3, .int i3)]) (hk : OK (bd_X3_load_7 G r0 r1 i2 rec i3 M) Qo) : W p l e rm_X3_load s m args below meth c H locs 0 0 Q (F0 m 7 ls []) := by
    have hx := X.1.1
    have hb := X.1.2.1
    unfold bd_X3_load_7 at hk
    refine lv_iload_n hx hb dX3_load_7 rfl (lv_at hl 3 rfl) ?_
    refine lv_aload_n hx hb dX3_load_8 rfl (lv_at hl 1 rfl) ?_
    obtain ⟨c2, hk⟩ := ok_c hk
    refine zgNi X w 0 0 22 "BlendBench" (C := RX0) (T := TX0) (N := 7) rfl ui_X0 (by decide) rfl (by decide +kernel) dX3_load_9 c2 ?_
    refine lv_icmp_ge (tgt := 46) hx hb dX3_load_12 (by decide) (fun c3 => ?_) (fun c3 => ?_)
    · have hk := ok_p c3 hk
      exact hE M (ok_s hk) _ _ _ w (lv_sub hl [] rfl)
    · have hk := ok_n c3 hk
      refine lv_iload_n hx hb dX3_load_15 rfl (lv_at hl 2 rfl) ?_
      refine lv_iload_n hx hb dX3_load_16 rfl (lv_at hl 3 rfl) ?_
      obtain ⟨q4, e5, hk⟩ := ok_b hk
      refine zNi X w (n := 2) (As := [.int i2, .int i3]) (rest := []) (host := "BlendBench") (c_X8_has l D cy G M i2 i3 e5) (gzN wc_X8_has) rfl rfl rfl (by decide +kernel) (tb wn_X8) (tb wt_X8_has) (by decide +kernel) (by decide) rfl rfl hl.1 (Nat.le_of_ble_eq_true rfl) dX3_load_17 ⟨Nat.zero_le _, Nat.zero_le _⟩ (fun H locs w => ?_)
      refine lv_if_eq (tgt := 40) hx hb dX3_load_20 (by decide) (fun c6 => ?_) (fun c6 => ?_)
      · have hk := ok_p c6 hk
        refine lv_iinc (v := (i3 + 1)) (lv' := [(3, .int (i3 + 1)), (0, .ref r0), (1, .ref r1), (2, .int i2)]) hx hb dX3_load_40 hl (k := 3) rfl rfl (by decide) rfl (fun ls hl => ?_)
        refine lv_goto (tgt := 7) hx hb dX3_load_43 (by decide) ?_
        exact hrec (i3 + 1) M _ _ _ w (lv_sub hl [1, 2, 3, 0] rfl) hk
      · have hk := ok_n c6 hk
        refine lv_aload_n hx hb dX3_load_23 rfl (lv_at hl 0 rfl) ?_
        refine lv_aload_n hx hb dX3_load_24 rfl (lv_at hl 1 rfl) ?_
        refine lv_iload_n hx hb dX3_load_25 rfl (lv_at hl 2 rfl) ?_
        refine lv_iload_n hx hb dX3_load_26 rfl (lv_at hl 3 rfl) ?_
        obtain ⟨c9, hk⟩ := ok_c hk
        obtain ⟨q7, e8, hk⟩ := ok_b hk
        refine zVv X w (n := 3) (As := [.ref r1, .int i2, .int i3]) (rest := []) (ci := 3) (C := RX3) (T := TX3) (N := 3) (c_X3_loadRow l D cy G M r0 r1 i2 i3 e8) (gzV wm_X3_29 wi_X3_loadRow ws_X3_loadRow wn_X3 wc_X3_loadRow) rfl rfl rfl (by decide +kernel) (by decide) rfl c9 rfl rfl hl.1 (Nat.le_of_ble_eq_true rfl) dX3_load_27 ⟨Nat.zero_le _, Nat.zero_le _⟩ (fun H locs w => ?_)
        refine lv_aload_n hx hb dX3_load_30 rfl (lv_at hl 0 rfl) ?_
        refine lv_dup hx hb dX3_load_31 rfl ?_
        refine zgi X w 3 2 18 (C := RX3) (T := TX3) (N := 3) rfl ui_X3 (by decide) rfl (tb wf_X3_18) dX3_load_32 c9 ?_
        refine lv_iconst (v := 1) hx hb dX3_load_35 (by decide) ?_
        refine lv_iadd hx hb dX3_load_36 ?_
        refine zpi X w 3 2 18 tyX3 (C := RX3) (T := TX3) (N := 3) rfl ui_X3 tyX3_ok nmX3 (by decide) rfl (tb wf_X3_18) rfl rfl dX3_load_37 c9 (fun H locs w => ?_)
        refine lv_iinc (v := (i3 + 1)) (lv' := [(3, .int (i3 + 1)), (0, .ref r0), (1, .ref r1), (2, .int i2)]) hx hb dX3_load_40 hl (k := 3) rfl rfl (by decide) rfl (fun ls hl => ?_)
        refine lv_goto (tgt := 7) hx hb dX3_load_43 (by decide) ?_
        exact hrec (i3 + 1) (mwI q7 r0 2 ((q7.1 r0 2) + (1 : Int32))) _ _ _ w (lv_sub hl [1, 2, 3, 0] rfl) hk
theorem wl_X3_load_7 {p : Program} {l : Launch} {e : Env} {s : State} {m : MethodId} {args : Array Value} {below : List Frame} {meth : Method} {c : Code} {D : va_G} {cy : Cyy} {A : Nat → Prop} {G : Gg} (X : Cx p m c cX3_load 4 s args wz_X3_load RX3 D cy) {Q : State → Prop} (r0 : Nat) (r1 : Nat) (i2 : Int32) (Qo : Mm → Prop)  (hE : ∀ (y : Mm), Qo (y) → ∀ (H : Heap) (locs : List Loc) (ls : Array Slot), Wo s D cy A G y H locs → lv_has ls 4 [] → W p l e rm_X3_load s m args below meth c H locs 0 0 Q (F0 m 46 ls [])) : ∀ (n : Nat) (i3 : Int32) (M : Mm) (H : Heap) (locs : List Loc) (ls : Array Slot), Wo s D cy A G M H locs → lv_has ls 4 [(0, .ref r0), (1, .ref r1), (2, .int i2), (3, .int i3)] → OK (lp_X3_load_7 G r0 r1 i2 n i3 M) Qo → W p l e rm_X3_load s m args below meth c H locs 0 0 Q (F0 m 7 ls []) := by
  intro n
  induction n with
  | zero => intro i3 M H locs ls w hl hk; exact ok_0 hk
  | succ n ih => intro i3 M H locs ls w hl hk; exact wb_X3_load_7 X r0 r1 i2 Qo hE  (lp_X3_load_7 G r0 r1 i2 n) ih i3 M H locs ls w hl hk
set_option maxHeartbeats 4000000 in
set_option maxRecDepth 100000 in
theorem c_X3_load (l : Launch) (D : va_G) (cy : Cyy) (G : Gg) (M : Mm) (r0 : Nat) (r1 : Nat) (i2 : Int32) {q : Mm} (hm : f_X3_load G M r0 r1 i2 = some q) : CV l yX3_load wz_X3_load rm_X3_load D cy G M [.ref r0, .ref r1, .int i2] q := by
  refine Met_of (Qf := fun A => QV D cy G A q) (cc := cX3_load) (nL := 4) (ret := none) (own := RX3) (lv := [(0, .ref r0), (1, .ref r1), (2, .int i2)]) (by decide) rfl rfl (Nat.le_of_ble_eq_true rfl) rfl ?_
  intro p e s m args below meth c A ls X hr hlk w hl
  have hx := X.1.1
  have hb := X.1.2.1
  obtain ⟨Qo, hR, hk⟩ : ∃ Qo : Mm → Prop, (∀ x, Qo x → x = q) ∧ OK (f_X3_load G M r0 r1 i2) Qo := ⟨fun x => x = q, fun _ h => h, q, hm, rfl⟩
  unfold f_X3_load at hk
  refine lv_aload_n hx hb dX3_load_0 rfl (lv_at hl 0 rfl) ?_
  refine lv_iconst (v := 0) hx hb dX3_load_1 (by decide) ?_
  obtain ⟨c1, hk⟩ := ok_c hk
  refine zpi X w 3 2 18 tyX3 (C := RX3) (T := TX3) (N := 3) rfl ui_X3 tyX3_ok nmX3 (by decide) rfl (tb wf_X3_18) rfl rfl dX3_load_2 c1 (fun H locs w => ?_)
  refine lv_iconst (v := 0) hx hb dX3_load_5 (by decide) ?_
  refine lv_istore_n (lv' := [(3, .int (0 : Int32)), (0, .ref r0), (1, .ref r1), (2, .int i2)]) hx hb dX3_load_6 rfl hl (by decide) rfl (fun ls hl => ?_)
  refine wl_X3_load_7 X r0 r1 i2 (Qo := _) (fun q10 hk H locs ls w hl => ?_) FU (0 : Int32) (mwI M r0 2 (0 : Int32)) _ _ _ w (lv_sub hl [1, 2, 3, 0] rfl) (ok_b hk)
  have hk := hR _ (ok_s hk)
  exact zrv X hr hlk w dX3_load_46 hk
abbrev rm_J6_bitCount_0f7a4 : Room := { frames := 0, cells := 0, slots := 0, locals := 0 }
set_option maxHeartbeats 4000000 in
set_option maxRecDepth 100000 in
theorem c_J6_bitCount_0f7a4 (l : Launch) (D : va_G) (cy : Cyy) (G : Gg) (M : Mm) (i0 : Int32) {q : Int32} (hm : f_J6_bitCount_0f7a4 i0 = some q) : CI l yJ6_bitCount_0f7a4 wz_J6_bitCount_0f7a4 rm_J6_bitCount_0f7a4 D cy G M [.int i0] q M := by
  refine Met_of (Qf := fun A => QI D cy G A q M) (cc := cJ6_bitCount_0f7a4) (nL := 1) (ret := (some .int)) (own := RJ6) (lv := [(0, .int i0)]) (by decide) rfl rfl (Nat.le_of_ble_eq_true rfl) rfl ?_
  intro p e s m args below meth c A ls X hr hlk w hl
  have hx := X.1.1
  have hb := X.1.2.1
  obtain ⟨Qo, hR, hk⟩ : ∃ Qo : Int32 → Prop, (∀ x, Qo x → x = q) ∧ OK (f_J6_bitCount_0f7a4 i0) Qo := ⟨fun x => x = q, fun _ h => h, q, hm, rfl⟩
  unfold f_J6_bitCount_0f7a4 at hk
  refine lv_iload_n hx hb dJ6_bitCount_0f7a4_0 rfl (lv_at hl 0 rfl) ?_
  refine lv_iload_n hx hb dJ6_bitCount_0f7a4_1 rfl (lv_at hl 0 rfl) ?_
  refine lv_iconst (v := 1) hx hb dJ6_bitCount_0f7a4_2 (by decide) ?_
  refine lv_iushr hx hb dJ6_bitCount_0f7a4_3 rfl ?_
  refine zldcw X (v := 1431655765) (tb wk_J6_265) dJ6_bitCount_0f7a4_4 ?_
  refine lv_iand hx hb dJ6_bitCount_0f7a4_7 ?_
  refine lv_isub hx hb dJ6_bitCount_0f7a4_8 ?_
  refine lv_istore_n (lv' := [(0, .int (i0 - (((Int32.toUInt32 i0 >>> (Int32.toUInt32 (1 : Int32) &&& Int32.toUInt32 31)).toInt32) &&& (1431655765 : Int32))))]) hx hb dJ6_bitCount_0f7a4_9 rfl hl (by decide) rfl (fun ls hl => ?_)
  refine lv_iload_n hx hb dJ6_bitCount_0f7a4_10 rfl (lv_at hl 0 rfl) ?_
  refine zldcw X (v := 858993459) (tb wk_J6_266) dJ6_bitCount_0f7a4_11 ?_
  refine lv_iand hx hb dJ6_bitCount_0f7a4_14 ?_
  refine lv_iload_n hx hb dJ6_bitCount_0f7a4_15 rfl (lv_at hl 0 rfl) ?_
  refine lv_iconst (v := 2) hx hb dJ6_bitCount_0f7a4_16 (by decide) ?_
  refine lv_iushr hx hb dJ6_bitCount_0f7a4_17 rfl ?_
  refine zldcw X (v := 858993459) (tb wk_J6_266) dJ6_bitCount_0f7a4_18 ?_
  refine lv_iand hx hb dJ6_bitCount_0f7a4_21 ?_
  refine lv_iadd hx hb dJ6_bitCount_0f7a4_22 ?_
  refine lv_istore_n (lv' := [(0, .int (((i0 - (((Int32.toUInt32 i0 >>> (Int32.toUInt32 (1 : Int32) &&& Int32.toUInt32 31)).toInt32) &&& (1431655765 : Int32))) &&& (858993459 : Int32)) + (((Int32.toUInt32 (i0 - (((Int32.toUInt32 i0 >>> (Int32.toUInt32 (1 : Int32) &&& Int32.toUInt32 31)).toInt32) &&& (1431655765 : Int32))) >>> (Int32.toUInt32 (2 : Int32) &&& Int32.toUInt32 31)).toInt32) &&& (858993459 : Int32))))]) hx hb dJ6_bitCount_0f7a4_23 rfl hl (by decide) rfl (fun ls hl => ?_)
  refine lv_iload_n hx hb dJ6_bitCount_0f7a4_24 rfl (lv_at hl 0 rfl) ?_
  refine lv_iload_n hx hb dJ6_bitCount_0f7a4_25 rfl (lv_at hl 0 rfl) ?_
  refine lv_iconst (v := 4) hx hb dJ6_bitCount_0f7a4_26 (by decide) ?_
  refine lv_iushr hx hb dJ6_bitCount_0f7a4_27 rfl ?_
  refine lv_iadd hx hb dJ6_bitCount_0f7a4_28 ?_
  refine zldcw X (v := 252645135) (tb wk_J6_267) dJ6_bitCount_0f7a4_29 ?_
  refine lv_iand hx hb dJ6_bitCount_0f7a4_32 ?_
  refine lv_istore_n (lv' := [(0, .int (((((i0 - (((Int32.toUInt32 i0 >>> (Int32.toUInt32 (1 : Int32) &&& Int32.toUInt32 31)).toInt32) &&& (1431655765 : Int32))) &&& (858993459 : Int32)) + (((Int32.toUInt32 (i0 - (((Int32.toUInt32 i0 >>> (Int32.toUInt32 (1 : Int32) &&& Int32.toUInt32 31)).toInt32) &&& (1431655765 : Int32))) >>> (Int32.toUInt32 (2 : Int32) &&& Int32.toUInt32 31)).toInt32) &&& (858993459 : Int32))) + ((Int32.toUInt32 (((i0 - (((Int32.toUInt32 i0 >>> (Int32.toUInt32 (1 : Int32) &&& Int32.toUInt32 31)).toInt32) &&& (1431655765 : Int32))) &&& (858993459 : Int32)) + (((Int32.toUInt32 (i0 - (((Int32.toUInt32 i0 >>> (Int32.toUInt32 (1 : Int32) &&& Int32.toUInt32 31)).toInt32) &&& (1431655765 : Int32))) >>> (Int32.toUInt32 (2 : Int32) &&& Int32.toUInt32 31)).toInt32) &&& (858993459 : Int32))) >>> (Int32.toUInt32 (4 : Int32) &&& Int32.toUInt32 31)).toInt32)) &&& (252645135 : Int32)))]) hx hb dJ6_bitCount_0f7a4_33 rfl hl (by decide) rfl (fun ls hl => ?_)
  refine lv_iload_n hx hb dJ6_bitCount_0f7a4_34 rfl (lv_at hl 0 rfl) ?_
  refine lv_iload_n hx hb dJ6_bitCount_0f7a4_35 rfl (lv_at hl 0 rfl) ?_
  refine lv_bipush (v := 8) hx hb dJ6_bitCount_0f7a4_36 (by decide) ?_
  refine lv_iushr hx hb dJ6_bitCount_0f7a4_38 rfl ?_
  refine lv_iadd hx hb dJ6_bitCount_0f7a4_39 ?_
  refine lv_istore_n (lv' := [(0, .int ((((((i0 - (((Int32.toUInt32 i0 >>> (Int32.toUInt32 (1 : Int32) &&& Int32.toUInt32 31)).toInt32) &&& (1431655765 : Int32))) &&& (858993459 : Int32)) + (((Int32.toUInt32 (i0 - (((Int32.toUInt32 i0 >>> (Int32.toUInt32 (1 : Int32) &&& Int32.toUInt32 31)).toInt32) &&& (1431655765 : Int32))) >>> (Int32.toUInt32 (2 : Int32) &&& Int32.toUInt32 31)).toInt32) &&& (858993459 : Int32))) + ((Int32.toUInt32 (((i0 - (((Int32.toUInt32 i0 >>> (Int32.toUInt32 (1 : Int32) &&& Int32.toUInt32 31)).toInt32) &&& (1431655765 : Int32))) &&& (858993459 : Int32)) + (((Int32.toUInt32 (i0 - (((Int32.toUInt32 i0 >>> (Int32.toUInt32 (1 : Int32) &&& Int32.toUInt32 31)).toInt32) &&& (1431655765 : Int32))) >>> (Int32.toUInt32 (2 : Int32) &&& Int32.toUInt32 31)).toInt32) &&& (858993459 : Int32))) >>> (Int32.toUInt32 (4 : Int32) &&& Int32.toUInt32 31)).toInt32)) &&& (252645135 : Int32)) + ((Int32.toUInt32 (((((i0 - (((Int32.toUInt32 i0 >>> (Int32.toUInt32 (1 : Int32) &&& Int32.toUInt32 31)).toInt32) &&& (1431655765 : Int32))) &&& (858993459 : Int32)) + (((Int32.toUInt32 (i0 - (((Int32.toUInt32 i0 >>> (Int32.toUInt32 (1 : Int32) &&& Int32.toUInt32 31)).toInt32) &&& (1431655765 : Int32))) >>> (Int32.toUInt32 (2 : Int32) &&& Int32.toUInt32 31)).toInt32) &&& (858993459 : Int32))) + ((Int32.toUInt32 (((i0 - (((Int32.toUInt32 i0 >>> (Int32.toUInt32 (1 : Int32) &&& Int32.toUInt32 31)).toInt32) &&& (1431655765 : Int32))) &&& (858993459 : Int32)) + (((Int32.toUInt32 (i0 - (((Int32.toUInt32 i0 >>> (Int32.toUInt32 (1 : Int32) &&& Int32.toUInt32 31)).toInt32) &&& (1431655765 : Int32))) >>> (Int32.toUInt32 (2 : Int32) &&& Int32.toUInt32 31)).toInt32) &&& (858993459 : Int32))) >>> (Int32.toUInt32 (4 : Int32) &&& Int32.toUInt32 31)).toInt32)) &&& (252645135 : Int32)) >>> (Int32.toUInt32 (8 : Int32) &&& Int32.toUInt32 31)).toInt32)))]) hx hb dJ6_bitCount_0f7a4_40 rfl hl (by decide) rfl (fun ls hl => ?_)
  refine lv_iload_n hx hb dJ6_bitCount_0f7a4_41 rfl (lv_at hl 0 rfl) ?_
  refine lv_iload_n hx hb dJ6_bitCount_0f7a4_42 rfl (lv_at hl 0 rfl) ?_
  refine lv_bipush (v := 16) hx hb dJ6_bitCount_0f7a4_43 (by decide) ?_
  refine lv_iushr hx hb dJ6_bitCount_0f7a4_45 rfl ?_
  refine lv_iadd hx hb dJ6_bitCount_0f7a4_46 ?_
  refine lv_istore_n (lv' := [(0, .int (((((((i0 - (((Int32.toUInt32 i0 >>> (Int32.toUInt32 (1 : Int32) &&& Int32.toUInt32 31)).toInt32) &&& (1431655765 : Int32))) &&& (858993459 : Int32)) + (((Int32.toUInt32 (i0 - (((Int32.toUInt32 i0 >>> (Int32.toUInt32 (1 : Int32) &&& Int32.toUInt32 31)).toInt32) &&& (1431655765 : Int32))) >>> (Int32.toUInt32 (2 : Int32) &&& Int32.toUInt32 31)).toInt32) &&& (858993459 : Int32))) + ((Int32.toUInt32 (((i0 - (((Int32.toUInt32 i0 >>> (Int32.toUInt32 (1 : Int32) &&& Int32.toUInt32 31)).toInt32) &&& (1431655765 : Int32))) &&& (858993459 : Int32)) + (((Int32.toUInt32 (i0 - (((Int32.toUInt32 i0 >>> (Int32.toUInt32 (1 : Int32) &&& Int32.toUInt32 31)).toInt32) &&& (1431655765 : Int32))) >>> (Int32.toUInt32 (2 : Int32) &&& Int32.toUInt32 31)).toInt32) &&& (858993459 : Int32))) >>> (Int32.toUInt32 (4 : Int32) &&& Int32.toUInt32 31)).toInt32)) &&& (252645135 : Int32)) + ((Int32.toUInt32 (((((i0 - (((Int32.toUInt32 i0 >>> (Int32.toUInt32 (1 : Int32) &&& Int32.toUInt32 31)).toInt32) &&& (1431655765 : Int32))) &&& (858993459 : Int32)) + (((Int32.toUInt32 (i0 - (((Int32.toUInt32 i0 >>> (Int32.toUInt32 (1 : Int32) &&& Int32.toUInt32 31)).toInt32) &&& (1431655765 : Int32))) >>> (Int32.toUInt32 (2 : Int32) &&& Int32.toUInt32 31)).toInt32) &&& (858993459 : Int32))) + ((Int32.toUInt32 (((i0 - (((Int32.toUInt32 i0 >>> (Int32.toUInt32 (1 : Int32) &&& Int32.toUInt32 31)).toInt32) &&& (1431655765 : Int32))) &&& (858993459 : Int32)) + (((Int32.toUInt32 (i0 - (((Int32.toUInt32 i0 >>> (Int32.toUInt32 (1 : Int32) &&& Int32.toUInt32 31)).toInt32) &&& (1431655765 : Int32))) >>> (Int32.toUInt32 (2 : Int32) &&& Int32.toUInt32 31)).toInt32) &&& (858993459 : Int32))) >>> (Int32.toUInt32 (4 : Int32) &&& Int32.toUInt32 31)).toInt32)) &&& (252645135 : Int32)) >>> (Int32.toUInt32 (8 : Int32) &&& Int32.toUInt32 31)).toInt32)) + ((Int32.toUInt32 ((((((i0 - (((Int32.toUInt32 i0 >>> (Int32.toUInt32 (1 : Int32) &&& Int32.toUInt32 31)).toInt32) &&& (1431655765 : Int32))) &&& (858993459 : Int32)) + (((Int32.toUInt32 (i0 - (((Int32.toUInt32 i0 >>> (Int32.toUInt32 (1 : Int32) &&& Int32.toUInt32 31)).toInt32) &&& (1431655765 : Int32))) >>> (Int32.toUInt32 (2 : Int32) &&& Int32.toUInt32 31)).toInt32) &&& (858993459 : Int32))) + ((Int32.toUInt32 (((i0 - (((Int32.toUInt32 i0 >>> (Int32.toUInt32 (1 : Int32) &&& Int32.toUInt32 31)).toInt32) &&& (1431655765 : Int32))) &&& (858993459 : Int32)) + (((Int32.toUInt32 (i0 - (((Int32.toUInt32 i0 >>> (Int32.toUInt32 (1 : Int32) &&& Int32.toUInt32 31)).toInt32) &&& (1431655765 : Int32))) >>> (Int32.toUInt32 (2 : Int32) &&& Int32.toUInt32 31)).toInt32) &&& (858993459 : Int32))) >>> (Int32.toUInt32 (4 : Int32) &&& Int32.toUInt32 31)).toInt32)) &&& (252645135 : Int32)) + ((Int32.toUInt32 (((((i0 - (((Int32.toUInt32 i0 >>> (Int32.toUInt32 (1 : Int32) &&& Int32.toUInt32 31)).toInt32) &&& (1431655765 : Int32))) &&& (858993459 : Int32)) + (((Int32.toUInt32 (i0 - (((Int32.toUInt32 i0 >>> (Int32.toUInt32 (1 : Int32) &&& Int32.toUInt32 31)).toInt32) &&& (1431655765 : Int32))) >>> (Int32.toUInt32 (2 : Int32) &&& Int32.toUInt32 31)).toInt32) &&& (858993459 : Int32))) + ((Int32.toUInt32 (((i0 - (((Int32.toUInt32 i0 >>> (Int32.toUInt32 (1 : Int32) &&& Int32.toUInt32 31)).toInt32) &&& (1431655765 : Int32))) &&& (858993459 : Int32)) + (((Int32.toUInt32 (i0 - (((Int32.toUInt32 i0 >>> (Int32.toUInt32 (1 : Int32) &&& Int32.toUInt32 31)).toInt32) &&& (1431655765 : Int32))) >>> (Int32.toUInt32 (2 : Int32) &&& Int32.toUInt32 31)).toInt32) &&& (858993459 : Int32))) >>> (Int32.toUInt32 (4 : Int32) &&& Int32.toUInt32 31)).toInt32)) &&& (252645135 : Int32)) >>> (Int32.toUInt32 (8 : Int32) &&& Int32.toUInt32 31)).toInt32)) >>> (Int32.toUInt32 (16 : Int32) &&& Int32.toUInt32 31)).toInt32)))]) hx hb dJ6_bitCount_0f7a4_47 rfl hl (by decide) rfl (fun ls hl => ?_)
  refine lv_iload_n hx hb dJ6_bitCount_0f7a4_48 rfl (lv_at hl 0 rfl) ?_
  refine lv_bipush (v := 63) hx hb dJ6_bitCount_0f7a4_49 (by decide) ?_
  refine lv_iand hx hb dJ6_bitCount_0f7a4_51 ?_
  have hk := hR _ (ok_s hk)
  exact zri X hr hlk w dJ6_bitCount_0f7a4_52 hk rfl
abbrev rm_X3_byLastRow : Room := { frames := 1, cells := 0, slots := 0, locals := 21 }
set_option maxHeartbeats 4000000 in
set_option maxRecDepth 100000 in
theorem wb_X3_byLastRow_13 {p : Program} {l : Launch} {e : Env} {s : State} {m : MethodId} {args : Array Value} {below : List Frame} {meth : Method} {c : Code} {D : va_G} {cy : Cyy} {A : Nat → Prop} {G : Gg} (X : Cx p m c cX3_byLastRow 9 s args wz_X3_byLastRow RX3 D cy) {Q : State → Prop} (M : Mm) (r0 : Nat) (i1 : Int32) (i2 : Int32) (Qo : Int64 → Prop)  (hE : ∀ (y : Int64), Qo (y) → ∀ (H : Heap) (locs : List Loc) (ls : Array Slot), Wo s D cy A G M H locs → lv_has ls 9 [(3, .long y)] → W p l e rm_X3_byLastRow s m args below meth c H locs 0 0 Q (F0 m 87 ls [])) (rec : Int64 → Int32 → Int32 → Option (Int64)) (hrec : ∀ (l3 : Int64) (i5 : Int32) (i6 : Int32) (H : Heap) (locs : List Loc) (ls : Array Slot), Wo s D cy A G M H locs → lv_has ls 9 [(0, .ref r0), (1, .int i1), (2, .int i2), (3, .long l3), (5, .int i5), (6, .int i6)] → OK (rec l3 i5 i6) Qo → W p l e rm_X3_byLastRow s m args below meth c H locs 0 0 Q (F0 m 13 ls [])) (l3 : Int64) (i5 : Int32) (i6 : Int32) (H : Heap) (locs : List Loc) (ls : Array Slot) (w : Wo s D cy A G M H locs) (hl : lv_has ls 9 [(0, .ref r0), (1, .int i1), (2, .int i2), (3, .long l3), (5, .int i5), (6, .int i6)]) (hk : OK (bd_X3_byLastRow_13 G M r0 i1 i2 rec l3 i5 i6) Qo) : W p l e rm_X3_byLastRow s m args below meth c H locs 0 0 Q (F0 m 13 ls []) := by
    have hx := X.1.1
    have hb := X.1.2.1
    unfold bd_X3_byLastRow_13 at hk
    refine lv_iload hx hb dX3_byLastRow_13 (lv_at hl 5 rfl) ?_
    refine lv_if_lt (tgt := 87) hx hb dX3_byLastRow_15 (by decide) (fun c2 => ?_) (fun c2 => ?_)
    · have hk := ok_p c2 hk
      exact hE l3 (ok_s hk) _ _ _ w (lv_sub hl [3] rfl)
    · have hk := ok_n c2 hk
      refine lv_iload_n hx hb dX3_byLastRow_18 rfl (lv_at hl 2 rfl) ?_
      refine lv_iload hx hb dX3_byLastRow_19 (lv_at hl 5 rfl) ?_
      obtain ⟨q3, e4, hk⟩ := ok_b hk
      refine zNi X w (n := 2) (As := [.int i2, .int i6]) (rest := []) (host := "BlendBench") (c_X8_has l D cy G M i2 i6 e4) (gzN wc_X8_has) rfl rfl rfl (by decide +kernel) (tb wn_X8) (tb wt_X8_has) (by decide +kernel) (by decide) rfl rfl hl.1 (Nat.le_of_ble_eq_true rfl) dX3_byLastRow_21 ⟨Nat.zero_le _, Nat.zero_le _⟩ (fun H locs w => ?_)
      refine lv_if_eq (tgt := 81) hx hb dX3_byLastRow_24 (by decide) (fun c5 => ?_) (fun c5 => ?_)
      · have hk := ok_p c5 hk
        refine lv_iinc (v := (i6 + (-1))) (lv' := [(6, .int (i6 + (-1))), (0, .ref r0), (1, .int i1), (2, .int i2), (3, .long l3), (5, .int i5)]) hx hb dX3_byLastRow_81 hl (k := 5) rfl rfl (by decide) rfl (fun ls hl => ?_)
        refine lv_goto (tgt := 13) hx hb dX3_byLastRow_84 (by decide) ?_
        exact hrec l3 i5 (i6 + (-1)) _ _ _ w (lv_sub hl [1, 2, 3, 4, 5, 0] rfl) hk
      · have hk := ok_n c5 hk
        refine lv_aload_n hx hb dX3_byLastRow_27 rfl (lv_at hl 0 rfl) ?_
        obtain ⟨c6, hk⟩ := ok_c hk
        obtain ⟨r7, e8, hk⟩ := ok_b hk
        refine zgr X w 3 0 9 (C := RX3) (T := TX3) (N := 3) rfl ui_X3 (by decide) rfl (tb wf_X3_9) dX3_byLastRow_28 c6 e8 ?_
        refine lv_iload_n hx hb dX3_byLastRow_31 rfl (lv_at hl 1 rfl) ?_
        refine lv_bipush (v := 8) hx hb dX3_byLastRow_32 (by decide) ?_
        refine lv_imul hx hb dX3_byLastRow_34 ?_
        refine lv_iload hx hb dX3_byLastRow_35 (lv_at hl 5 rfl) ?_
        refine lv_iadd hx hb dX3_byLastRow_37 ?_
        obtain ⟨c9, hk⟩ := ok_c hk
        obtain ⟨c10, hk⟩ := ok_c hk
        refine zal X w dX3_byLastRow_38 c9 c10 ?_
        refine lv_aload_n hx hb dX3_byLastRow_39 rfl (lv_at hl 0 rfl) ?_
        obtain ⟨r11, e12, hk⟩ := ok_b hk
        refine zgr X w 3 1 15 (C := RX3) (T := TX3) (N := 3) rfl ui_X3 (by decide) rfl (tb wf_X3_15) dX3_byLastRow_40 c6 e12 ?_
        refine lv_iload_n hx hb dX3_byLastRow_43 rfl (lv_at hl 2 rfl) ?_
        refine lv_iconst (v := 1) hx hb dX3_byLastRow_44 (by decide) ?_
        refine lv_iload hx hb dX3_byLastRow_45 (lv_at hl 5 rfl) ?_
        refine lv_ishl hx hb dX3_byLastRow_47 ?_
        refine lv_ixor hx hb dX3_byLastRow_48 ?_
        obtain ⟨c13, hk⟩ := ok_c hk
        obtain ⟨c14, hk⟩ := ok_c hk
        refine zal X w dX3_byLastRow_49 c13 c14 ?_
        refine lv_lmul hx hb dX3_byLastRow_50 ?_
        refine lv_lstore (lv' := [(7, .long ((M.2.1 r7 (Int32.toNatClampNeg ((i1 * (8 : Int32)) + i6))) * (M.2.1 r11 (Int32.toNatClampNeg (i2 ^^^ ((1 : Int32) <<< (i6 &&& 31))))))), (0, .ref r0), (1, .int i1), (2, .int i2), (3, .long l3), (5, .int i5), (6, .int i6)]) hx hb dX3_byLastRow_51 hl (by decide) rfl (fun ls hl => ?_)
        refine lv_lload_n hx hb dX3_byLastRow_53 rfl (lv_at hl 4 rfl) ?_
        refine lv_iload hx hb dX3_byLastRow_54 (lv_at hl 5 rfl) ?_
        refine lv_if_eq (tgt := 64) hx hb dX3_byLastRow_56 (by decide) (fun c15 => ?_) (fun c15 => ?_)
        · have hk := ok_p c15 hk
          refine lv_lload hx hb dX3_byLastRow_64 (lv_at hl 0 rfl) ?_
          refine lv_lneg hx hb dX3_byLastRow_66 ?_
          refine lv_ladd hx hb dX3_byLastRow_67 ?_
          refine lv_lstore_n (lv' := [(3, .long (l3 + (-((M.2.1 r7 (Int32.toNatClampNeg ((i1 * (8 : Int32)) + i6))) * (M.2.1 r11 (Int32.toNatClampNeg (i2 ^^^ ((1 : Int32) <<< (i6 &&& 31))))))))), (7, .long ((M.2.1 r7 (Int32.toNatClampNeg ((i1 * (8 : Int32)) + i6))) * (M.2.1 r11 (Int32.toNatClampNeg (i2 ^^^ ((1 : Int32) <<< (i6 &&& 31))))))), (0, .ref r0), (1, .int i1), (2, .int i2), (5, .int i5), (6, .int i6)]) hx hb dX3_byLastRow_68 rfl hl (by decide) rfl (fun ls hl => ?_)
          refine lv_iload hx hb dX3_byLastRow_69 (lv_at hl 5 rfl) ?_
          refine lv_if_ne (tgt := 78) hx hb dX3_byLastRow_71 (by decide) (fun c16 => ?_) (fun c16 => ?_)
          · have hk := ok_n c16 hk
            refine lv_iconst (v := 0) hx hb dX3_byLastRow_78 (by decide) ?_
            refine lv_istore (lv' := [(5, .int (0 : Int32)), (3, .long (l3 + (-((M.2.1 r7 (Int32.toNatClampNeg ((i1 * (8 : Int32)) + i6))) * (M.2.1 r11 (Int32.toNatClampNeg (i2 ^^^ ((1 : Int32) <<< (i6 &&& 31))))))))), (7, .long ((M.2.1 r7 (Int32.toNatClampNeg ((i1 * (8 : Int32)) + i6))) * (M.2.1 r11 (Int32.toNatClampNeg (i2 ^^^ ((1 : Int32) <<< (i6 &&& 31))))))), (0, .ref r0), (1, .int i1), (2, .int i2), (6, .int i6)]) hx hb dX3_byLastRow_79 hl (by decide) rfl (fun ls hl => ?_)
            refine lv_iinc (v := (i6 + (-1))) (lv' := [(6, .int (i6 + (-1))), (5, .int (0 : Int32)), (3, .long (l3 + (-((M.2.1 r7 (Int32.toNatClampNeg ((i1 * (8 : Int32)) + i6))) * (M.2.1 r11 (Int32.toNatClampNeg (i2 ^^^ ((1 : Int32) <<< (i6 &&& 31))))))))), (7, .long ((M.2.1 r7 (Int32.toNatClampNeg ((i1 * (8 : Int32)) + i6))) * (M.2.1 r11 (Int32.toNatClampNeg (i2 ^^^ ((1 : Int32) <<< (i6 &&& 31))))))), (0, .ref r0), (1, .int i1), (2, .int i2)]) hx hb dX3_byLastRow_81 hl (k := 6) rfl rfl (by decide) rfl (fun ls hl => ?_)
            refine lv_goto (tgt := 13) hx hb dX3_byLastRow_84 (by decide) ?_
            exact hrec (l3 + (-((M.2.1 r7 (Int32.toNatClampNeg ((i1 * (8 : Int32)) + i6))) * (M.2.1 r11 (Int32.toNatClampNeg (i2 ^^^ ((1 : Int32) <<< (i6 &&& 31)))))))) (0 : Int32) (i6 + (-1)) _ _ _ w (lv_sub hl [4, 5, 6, 2, 1, 0] rfl) hk
          · have hk := ok_p c16 hk
            refine lv_iconst (v := 1) hx hb dX3_byLastRow_74 (by decide) ?_
            refine lv_goto (tgt := 79) hx hb dX3_byLastRow_75 (by decide) ?_
            refine lv_istore (lv' := [(5, .int (1 : Int32)), (3, .long (l3 + (-((M.2.1 r7 (Int32.toNatClampNeg ((i1 * (8 : Int32)) + i6))) * (M.2.1 r11 (Int32.toNatClampNeg (i2 ^^^ ((1 : Int32) <<< (i6 &&& 31))))))))), (7, .long ((M.2.1 r7 (Int32.toNatClampNeg ((i1 * (8 : Int32)) + i6))) * (M.2.1 r11 (Int32.toNatClampNeg (i2 ^^^ ((1 : Int32) <<< (i6 &&& 31))))))), (0, .ref r0), (1, .int i1), (2, .int i2), (6, .int i6)]) hx hb dX3_byLastRow_79 hl (by decide) rfl (fun ls hl => ?_)
            refine lv_iinc (v := (i6 + (-1))) (lv' := [(6, .int (i6 + (-1))), (5, .int (1 : Int32)), (3, .long (l3 + (-((M.2.1 r7 (Int32.toNatClampNeg ((i1 * (8 : Int32)) + i6))) * (M.2.1 r11 (Int32.toNatClampNeg (i2 ^^^ ((1 : Int32) <<< (i6 &&& 31))))))))), (7, .long ((M.2.1 r7 (Int32.toNatClampNeg ((i1 * (8 : Int32)) + i6))) * (M.2.1 r11 (Int32.toNatClampNeg (i2 ^^^ ((1 : Int32) <<< (i6 &&& 31))))))), (0, .ref r0), (1, .int i1), (2, .int i2)]) hx hb dX3_byLastRow_81 hl (k := 6) rfl rfl (by decide) rfl (fun ls hl => ?_)
            refine lv_goto (tgt := 13) hx hb dX3_byLastRow_84 (by decide) ?_
            exact hrec (l3 + (-((M.2.1 r7 (Int32.toNatClampNeg ((i1 * (8 : Int32)) + i6))) * (M.2.1 r11 (Int32.toNatClampNeg (i2 ^^^ ((1 : Int32) <<< (i6 &&& 31)))))))) (1 : Int32) (i6 + (-1)) _ _ _ w (lv_sub hl [4, 5, 6, 2, 1, 0] rfl) hk
        · have hk := ok_n c15 hk
          refine lv_lload hx hb dX3_byLastRow_59 (lv_at hl 0 rfl) ?_
          refine lv_goto (tgt := 67) hx hb dX3_byLastRow_61 (by decide) ?_
          refine lv_ladd hx hb dX3_byLastRow_67 ?_
          refine lv_lstore_n (lv' := [(3, .long (l3 + ((M.2.1 r7 (Int32.toNatClampNeg ((i1 * (8 : Int32)) + i6))) * (M.2.1 r11 (Int32.toNatClampNeg (i2 ^^^ ((1 : Int32) <<< (i6 &&& 31)))))))), (7, .long ((M.2.1 r7 (Int32.toNatClampNeg ((i1 * (8 : Int32)) + i6))) * (M.2.1 r11 (Int32.toNatClampNeg (i2 ^^^ ((1 : Int32) <<< (i6 &&& 31))))))), (0, .ref r0), (1, .int i1), (2, .int i2), (5, .int i5), (6, .int i6)]) hx hb dX3_byLastRow_68 rfl hl (by decide) rfl (fun ls hl => ?_)
          refine lv_iload hx hb dX3_byLastRow_69 (lv_at hl 5 rfl) ?_
          refine lv_if_ne (tgt := 78) hx hb dX3_byLastRow_71 (by decide) (fun c17 => ?_) (fun c17 => ?_)
          · have hk := ok_n c17 hk
            refine lv_iconst (v := 0) hx hb dX3_byLastRow_78 (by decide) ?_
            refine lv_istore (lv' := [(5, .int (0 : Int32)), (3, .long (l3 + ((M.2.1 r7 (Int32.toNatClampNeg ((i1 * (8 : Int32)) + i6))) * (M.2.1 r11 (Int32.toNatClampNeg (i2 ^^^ ((1 : Int32) <<< (i6 &&& 31)))))))), (7, .long ((M.2.1 r7 (Int32.toNatClampNeg ((i1 * (8 : Int32)) + i6))) * (M.2.1 r11 (Int32.toNatClampNeg (i2 ^^^ ((1 : Int32) <<< (i6 &&& 31))))))), (0, .ref r0), (1, .int i1), (2, .int i2), (6, .int i6)]) hx hb dX3_byLastRow_79 hl (by decide) rfl (fun ls hl => ?_)
            refine lv_iinc (v := (i6 + (-1))) (lv' := [(6, .int (i6 + (-1))), (5, .int (0 : Int32)), (3, .long (l3 + ((M.2.1 r7 (Int32.toNatClampNeg ((i1 * (8 : Int32)) + i6))) * (M.2.1 r11 (Int32.toNatClampNeg (i2 ^^^ ((1 : Int32) <<< (i6 &&& 31)))))))), (7, .long ((M.2.1 r7 (Int32.toNatClampNeg ((i1 * (8 : Int32)) + i6))) * (M.2.1 r11 (Int32.toNatClampNeg (i2 ^^^ ((1 : Int32) <<< (i6 &&& 31))))))), (0, .ref r0), (1, .int i1), (2, .int i2)]) hx hb dX3_byLastRow_81 hl (k := 6) rfl rfl (by decide) rfl (fun ls hl => ?_)
            refine lv_goto (tgt := 13) hx hb dX3_byLastRow_84 (by decide) ?_
            exact hrec (l3 + ((M.2.1 r7 (Int32.toNatClampNeg ((i1 * (8 : Int32)) + i6))) * (M.2.1 r11 (Int32.toNatClampNeg (i2 ^^^ ((1 : Int32) <<< (i6 &&& 31))))))) (0 : Int32) (i6 + (-1)) _ _ _ w (lv_sub hl [4, 5, 6, 2, 1, 0] rfl) hk
          · have hk := ok_p c17 hk
            refine lv_iconst (v := 1) hx hb dX3_byLastRow_74 (by decide) ?_
            refine lv_goto (tgt := 79) hx hb dX3_byLastRow_75 (by decide) ?_
            refine lv_istore (lv' := [(5, .int (1 : Int32)), (3, .long (l3 + ((M.2.1 r7 (Int32.toNatClampNeg ((i1 * (8 : Int32)) + i6))) * (M.2.1 r11 (Int32.toNatClampNeg (i2 ^^^ ((1 : Int32) <<< (i6 &&& 31)))))))), (7, .long ((M.2.1 r7 (Int32.toNatClampNeg ((i1 * (8 : Int32)) + i6))) * (M.2.1 r11 (Int32.toNatClampNeg (i2 ^^^ ((1 : Int32) <<< (i6 &&& 31))))))), (0, .ref r0), (1, .int i1), (2, .int i2), (6, .int i6)]) hx hb dX3_byLastRow_79 hl (by decide) rfl (fun ls hl => ?_)
            refine lv_iinc (v := (i6 + (-1))) (lv' := [(6, .int (i6 + (-1))), (5, .int (1 : Int32)), (3, .long (l3 + ((M.2.1 r7 (Int32.toNatClampNeg ((i1 * (8 : Int32)) + i6))) * (M.2.1 r11 (Int32.toNatClampNeg (i2 ^^^ ((1 : Int32) <<< (i6 &&& 31)))))))), (7, .long ((M.2.1 r7 (Int32.toNatClampNeg ((i1 * (8 : Int32)) + i6))) * (M.2.1 r11 (Int32.toNatClampNeg (i2 ^^^ ((1 : Int32) <<< (i6 &&& 31))))))), (0, .ref r0), (1, .int i1), (2, .int i2)]) hx hb dX3_byLastRow_81 hl (k := 6) rfl rfl (by decide) rfl (fun ls hl => ?_)
            refine lv_goto (tgt := 13) hx hb dX3_byLastRow_84 (by decide) ?_
            exact hrec (l3 + ((M.2.1 r7 (Int32.toNatClampNeg ((i1 * (8 : Int32)) + i6))) * (M.2.1 r11 (Int32.toNatClampNeg (i2 ^^^ ((1 : Int32) <<< (i6 &&& 31))))))) (1 : Int32) (i6 + (-1)) _ _ _ w (lv_sub hl [4, 5, 6, 2, 1, 0] rfl) hk
theorem wl_X3_byLastRow_13 {p : Program} {l : Launch} {e : Env} {s : State} {m : MethodId} {args : Array Value} {below : List Frame} {meth : Method} {c : Code} {D : va_G} {cy : Cyy} {A : Nat → Prop} {G : Gg} (X : Cx p m c cX3_byLastRow 9 s args wz_X3_byLastRow RX3 D cy) {Q : State → Prop} (M : Mm) (r0 : Nat) (i1 : Int32) (i2 : Int32) (Qo : Int64 → Prop)  (hE : ∀ (y : Int64), Qo (y) → ∀ (H : Heap) (locs : List Loc) (ls : Array Slot), Wo s D cy A G M H locs → lv_has ls 9 [(3, .long y)] → W p l e rm_X3_byLastRow s m args below meth c H locs 0 0 Q (F0 m 87 ls [])) : ∀ (n : Nat) (l3 : Int64) (i5 : Int32) (i6 : Int32) (H : Heap) (locs : List Loc) (ls : Array Slot), Wo s D cy A G M H locs → lv_has ls 9 [(0, .ref r0), (1, .int i1), (2, .int i2), (3, .long l3), (5, .int i5), (6, .int i6)] → OK (lp_X3_byLastRow_13 G M r0 i1 i2 n l3 i5 i6) Qo → W p l e rm_X3_byLastRow s m args below meth c H locs 0 0 Q (F0 m 13 ls []) := by
  intro n
  induction n with
  | zero => intro l3 i5 i6 H locs ls w hl hk; exact ok_0 hk
  | succ n ih => intro l3 i5 i6 H locs ls w hl hk; exact wb_X3_byLastRow_13 X M r0 i1 i2 Qo hE  (lp_X3_byLastRow_13 G M r0 i1 i2 n) ih l3 i5 i6 H locs ls w hl hk
set_option maxHeartbeats 4000000 in
set_option maxRecDepth 100000 in
theorem c_X3_byLastRow (l : Launch) (D : va_G) (cy : Cyy) (G : Gg) (M : Mm) (r0 : Nat) (i1 : Int32) (i2 : Int32) {q : Int64} (hm : f_X3_byLastRow G M r0 i1 i2 = some q) : CL l yX3_byLastRow wz_X3_byLastRow rm_X3_byLastRow D cy G M [.ref r0, .int i1, .int i2] q M := by
  refine Met_of (Qf := fun A => QL D cy G A q M) (cc := cX3_byLastRow) (nL := 9) (ret := (some .long)) (own := RX3) (lv := [(0, .ref r0), (1, .int i1), (2, .int i2)]) (by decide) rfl rfl (Nat.le_of_ble_eq_true rfl) rfl ?_
  intro p e s m args below meth c A ls X hr hlk w hl
  have hx := X.1.1
  have hb := X.1.2.1
  obtain ⟨Qo, hR, hk⟩ : ∃ Qo : Int64 → Prop, (∀ x, Qo x → x = q) ∧ OK (f_X3_byLastRow G M r0 i1 i2) Qo := ⟨fun x => x = q, fun _ h => h, q, hm, rfl⟩
  unfold f_X3_byLastRow at hk
  refine lv_lconst (v := 0) hx hb dX3_byLastRow_0 (by decide) ?_
  refine lv_lstore_n (lv' := [(3, .long (0 : Int64)), (0, .ref r0), (1, .int i1), (2, .int i2)]) hx hb dX3_byLastRow_1 rfl hl (by decide) rfl (fun ls hl => ?_)
  refine lv_iconst (v := 1) hx hb dX3_byLastRow_2 (by decide) ?_
  refine lv_istore (lv' := [(5, .int (1 : Int32)), (3, .long (0 : Int64)), (0, .ref r0), (1, .int i1), (2, .int i2)]) hx hb dX3_byLastRow_3 hl (by decide) rfl (fun ls hl => ?_)
  refine lv_aload_n hx hb dX3_byLastRow_5 rfl (lv_at hl 2 rfl) ?_
  obtain ⟨c1, hk⟩ := ok_c hk
  refine zgi X w 3 2 18 (C := RX3) (T := TX3) (N := 3) rfl ui_X3 (by decide) rfl (tb wf_X3_18) dX3_byLastRow_6 c1 ?_
  refine lv_iconst (v := 1) hx hb dX3_byLastRow_9 (by decide) ?_
  refine lv_isub hx hb dX3_byLastRow_10 ?_
  refine lv_istore (lv' := [(6, .int ((M.1 r0 2) - (1 : Int32))), (5, .int (1 : Int32)), (3, .long (0 : Int64)), (0, .ref r0), (1, .int i1), (2, .int i2)]) hx hb dX3_byLastRow_11 hl (by decide) rfl (fun ls hl => ?_)
  refine wl_X3_byLastRow_13 X M r0 i1 i2 (Qo := _) (fun q18 hk H locs ls w hl => ?_) FU (0 : Int64) (1 : Int32) ((M.1 r0 2) - (1 : Int32)) _ _ _ w (lv_sub hl [3, 4, 5, 2, 1, 0] rfl) (ok_b hk)
  refine lv_lload_n hx hb dX3_byLastRow_87 rfl (lv_at hl 0 rfl) ?_
  have hk := hR _ (ok_s hk)
  exact zrl X hr hlk w dX3_byLastRow_88 hk rfl
abbrev rm_X3_determinant : Room := { frames := 2, cells := 0, slots := 0, locals := 49 }
set_option maxHeartbeats 4000000 in
set_option maxRecDepth 100000 in
theorem wb_X3_determinant_18 {p : Program} {l : Launch} {e : Env} {s : State} {m : MethodId} {args : Array Value} {below : List Frame} {meth : Method} {c : Code} {D : va_G} {cy : Cyy} {A : Nat → Prop} {G : Gg} (X : Cx p m c cX3_determinant 3 s args wz_X3_determinant RX3 D cy) {Q : State → Prop} (r0 : Nat) (i1 : Int32) (Qo : Mm → Prop)  (hE : ∀ (y : Mm), Qo (y) → ∀ (H : Heap) (locs : List Loc) (ls : Array Slot), Wo s D cy A G y H locs → lv_has ls 3 [(0, .ref r0), (1, .int i1)] → W p l e rm_X3_determinant s m args below meth c H locs 0 0 Q (F0 m 46 ls [])) (rec : Int32 → Mm → Option (Mm)) (hrec : ∀ (i2 : Int32) (M : Mm) (H : Heap) (locs : List Loc) (ls : Array Slot), Wo s D cy A G M H locs → lv_has ls 3 [(0, .ref r0), (1, .int i1), (2, .int i2)] → OK (rec i2 M) Qo → W p l e rm_X3_determinant s m args below meth c H locs 0 0 Q (F0 m 18 ls [])) (i2 : Int32) (M : Mm) (H : Heap) (locs : List Loc) (ls : Array Slot) (w : Wo s D cy A G M H locs) (hl : lv_has ls 3 [(0, .ref r0), (1, .int i1), (2, .int i2)]) (hk : OK (bd_X3_determinant_18 G r0 i1 rec i2 M) Qo) : W p l e rm_X3_determinant s m args below meth c H locs 0 0 Q (F0 m 18 ls []) := by
    have hx := X.1.1
    have hb := X.1.2.1
    unfold bd_X3_determinant_18 at hk
    refine lv_iload_n hx hb dX3_determinant_18 rfl (lv_at hl 2 rfl) ?_
    refine lv_iload_n hx hb dX3_determinant_19 rfl (lv_at hl 1 rfl) ?_
    refine lv_icmp_gt (tgt := 46) hx hb dX3_determinant_20 (by decide) (fun c6 => ?_) (fun c6 => ?_)
    · have hk := ok_p c6 hk
      exact hE M (ok_s hk) _ _ _ w (lv_sub hl [0, 1] rfl)
    · have hk := ok_n c6 hk
      refine lv_aload_n hx hb dX3_determinant_23 rfl (lv_at hl 0 rfl) ?_
      obtain ⟨c7, hk⟩ := ok_c hk
      obtain ⟨r8, e9, hk⟩ := ok_b hk
      refine zgr X w 3 1 15 (C := RX3) (T := TX3) (N := 3) rfl ui_X3 (by decide) rfl (tb wf_X3_15) dX3_determinant_24 c7 e9 ?_
      refine lv_iload_n hx hb dX3_determinant_27 rfl (lv_at hl 2 rfl) ?_
      refine lv_aload_n hx hb dX3_determinant_28 rfl (lv_at hl 0 rfl) ?_
      refine lv_iload_n hx hb dX3_determinant_29 rfl (lv_at hl 2 rfl) ?_
      obtain ⟨q10, e11, hk⟩ := ok_b hk
      refine zSi X w (n := 1) (As := [.int i2]) (rest := [.ref r0, .int i2, .ref r8]) (c_J6_bitCount_0f7a4 l D cy G M i2 e11) (gzS wm_X3_40 wt_J6_bitCount_0f7a4 wn_J6 wc_J6_bitCount_0f7a4) rfl rfl rfl (by decide +kernel) (by decide) rfl rfl hl.1 (Nat.le_of_ble_eq_true rfl) dX3_determinant_30 ⟨Nat.zero_le _, Nat.zero_le _⟩ (fun H locs w => ?_)
      refine lv_iconst (v := 1) hx hb dX3_determinant_33 (by decide) ?_
      refine lv_isub hx hb dX3_determinant_34 ?_
      refine lv_iload_n hx hb dX3_determinant_35 rfl (lv_at hl 2 rfl) ?_
      obtain ⟨q12, e13, hk⟩ := ok_b hk
      refine zVl X w (n := 2) (As := [.int (q10 - (1 : Int32)), .int i2]) (rest := [.int i2, .ref r8]) (ci := 3) (C := RX3) (T := TX3) (N := 3) (c_X3_byLastRow l D cy G M r0 (q10 - (1 : Int32)) i2 e13) (gzV wm_X3_46 wi_X3_byLastRow ws_X3_byLastRow wn_X3 wc_X3_byLastRow) rfl rfl rfl (by decide +kernel) (by decide) rfl c7 rfl rfl hl.1 (Nat.le_of_ble_eq_true rfl) dX3_determinant_36 ⟨Nat.zero_le _, Nat.zero_le _⟩ (fun H locs w => ?_)
      obtain ⟨c14, hk⟩ := ok_c hk
      obtain ⟨c15, hk⟩ := ok_c hk
      refine zsl X w dX3_determinant_39 c14 c15 (fun H locs w => ?_)
      refine lv_iinc (v := (i2 + 1)) (lv' := [(2, .int (i2 + 1)), (0, .ref r0), (1, .int i1)]) hx hb dX3_determinant_40 hl (k := 2) rfl rfl (by decide) rfl (fun ls hl => ?_)
      refine lv_goto (tgt := 18) hx hb dX3_determinant_43 (by decide) ?_
      exact hrec (i2 + 1) (mwJ M r8 (Int32.toNatClampNeg i2) q12) _ _ _ w (lv_sub hl [1, 2, 0] rfl) hk
theorem wl_X3_determinant_18 {p : Program} {l : Launch} {e : Env} {s : State} {m : MethodId} {args : Array Value} {below : List Frame} {meth : Method} {c : Code} {D : va_G} {cy : Cyy} {A : Nat → Prop} {G : Gg} (X : Cx p m c cX3_determinant 3 s args wz_X3_determinant RX3 D cy) {Q : State → Prop} (r0 : Nat) (i1 : Int32) (Qo : Mm → Prop)  (hE : ∀ (y : Mm), Qo (y) → ∀ (H : Heap) (locs : List Loc) (ls : Array Slot), Wo s D cy A G y H locs → lv_has ls 3 [(0, .ref r0), (1, .int i1)] → W p l e rm_X3_determinant s m args below meth c H locs 0 0 Q (F0 m 46 ls [])) : ∀ (n : Nat) (i2 : Int32) (M : Mm) (H : Heap) (locs : List Loc) (ls : Array Slot), Wo s D cy A G M H locs → lv_has ls 3 [(0, .ref r0), (1, .int i1), (2, .int i2)] → OK (lp_X3_determinant_18 G r0 i1 n i2 M) Qo → W p l e rm_X3_determinant s m args below meth c H locs 0 0 Q (F0 m 18 ls []) := by
  intro n
  induction n with
  | zero => intro i2 M H locs ls w hl hk; exact ok_0 hk
  | succ n ih => intro i2 M H locs ls w hl hk; exact wb_X3_determinant_18 X r0 i1 Qo hE  (lp_X3_determinant_18 G r0 i1 n) ih i2 M H locs ls w hl hk
set_option maxHeartbeats 4000000 in
set_option maxRecDepth 100000 in
theorem c_X3_determinant (l : Launch) (D : va_G) (cy : Cyy) (G : Gg) (M : Mm) (r0 : Nat) {q : Int64 × Mm} (hm : f_X3_determinant G M r0 = some q) : CL l yX3_determinant wz_X3_determinant rm_X3_determinant D cy G M [.ref r0] q.1 q.2 := by
  refine Met_of (Qf := fun A => QL D cy G A q.1 q.2) (cc := cX3_determinant) (nL := 3) (ret := (some .long)) (own := RX3) (lv := [(0, .ref r0)]) (by decide) rfl rfl (Nat.le_of_ble_eq_true rfl) rfl ?_
  intro p e s m args below meth c A ls X hr hlk w hl
  have hx := X.1.1
  have hb := X.1.2.1
  obtain ⟨Qo, hR, hk⟩ : ∃ Qo : Int64 × Mm → Prop, (∀ x, Qo x → x = q) ∧ OK (f_X3_determinant G M r0) Qo := ⟨fun x => x = q, fun _ h => h, q, hm, rfl⟩
  unfold f_X3_determinant at hk
  refine lv_aload_n hx hb dX3_determinant_0 rfl (lv_at hl 0 rfl) ?_
  obtain ⟨c1, hk⟩ := ok_c hk
  obtain ⟨r2, e3, hk⟩ := ok_b hk
  refine zgr X w 3 1 15 (C := RX3) (T := TX3) (N := 3) rfl ui_X3 (by decide) rfl (tb wf_X3_15) dX3_determinant_1 c1 e3 ?_
  refine lv_iconst (v := 0) hx hb dX3_determinant_4 (by decide) ?_
  refine lv_lconst (v := 1) hx hb dX3_determinant_5 (by decide) ?_
  obtain ⟨c4, hk⟩ := ok_c hk
  obtain ⟨c5, hk⟩ := ok_c hk
  refine zsl X w dX3_determinant_6 c4 c5 (fun H locs w => ?_)
  refine lv_iconst (v := 1) hx hb dX3_determinant_7 (by decide) ?_
  refine lv_aload_n hx hb dX3_determinant_8 rfl (lv_at hl 0 rfl) ?_
  refine zgi X w 3 2 18 (C := RX3) (T := TX3) (N := 3) rfl ui_X3 (by decide) rfl (tb wf_X3_18) dX3_determinant_9 c1 ?_
  refine lv_ishl hx hb dX3_determinant_12 ?_
  refine lv_iconst (v := 1) hx hb dX3_determinant_13 (by decide) ?_
  refine lv_isub hx hb dX3_determinant_14 ?_
  refine lv_istore_n (lv' := [(1, .int (((1 : Int32) <<< (((mwJ M r2 (Int32.toNatClampNeg (0 : Int32)) (1 : Int64)).1 r0 2) &&& 31)) - (1 : Int32))), (0, .ref r0)]) hx hb dX3_determinant_15 rfl hl (by decide) rfl (fun ls hl => ?_)
  refine lv_iconst (v := 1) hx hb dX3_determinant_16 (by decide) ?_
  refine lv_istore_n (lv' := [(2, .int (1 : Int32)), (1, .int (((1 : Int32) <<< (((mwJ M r2 (Int32.toNatClampNeg (0 : Int32)) (1 : Int64)).1 r0 2) &&& 31)) - (1 : Int32))), (0, .ref r0)]) hx hb dX3_determinant_17 rfl hl (by decide) rfl (fun ls hl => ?_)
  refine wl_X3_determinant_18 X r0 (((1 : Int32) <<< (((mwJ M r2 (Int32.toNatClampNeg (0 : Int32)) (1 : Int64)).1 r0 2) &&& 31)) - (1 : Int32)) (Qo := _) (fun q16 hk H locs ls w hl => ?_) FU (1 : Int32) (mwJ M r2 (Int32.toNatClampNeg (0 : Int32)) (1 : Int64)) _ _ _ w (lv_sub hl [2, 1, 0] rfl) (ok_b hk)
  refine lv_aload_n hx hb dX3_determinant_46 rfl (lv_at hl 0 rfl) ?_
  obtain ⟨r17, e18, hk⟩ := ok_b hk
  refine zgr X w 3 1 15 (C := RX3) (T := TX3) (N := 3) rfl ui_X3 (by decide) rfl (tb wf_X3_15) dX3_determinant_47 c1 e18 ?_
  refine lv_iload_n hx hb dX3_determinant_50 rfl (lv_at hl 1 rfl) ?_
  obtain ⟨c19, hk⟩ := ok_c hk
  obtain ⟨c20, hk⟩ := ok_c hk
  refine zal X w dX3_determinant_51 c19 c20 ?_
  have hk := hR _ (ok_s hk)
  exact zrl X hr hlk w dX3_determinant_52 (pr1 hk) (pr2 hk)
abbrev rm_X3_replaceColumn : Room := { frames := 0, cells := 0, slots := 0, locals := 0 }
set_option maxHeartbeats 4000000 in
set_option maxRecDepth 100000 in
theorem wb_X3_replaceColumn_2 {p : Program} {l : Launch} {e : Env} {s : State} {m : MethodId} {args : Array Value} {below : List Frame} {meth : Method} {c : Code} {D : va_G} {cy : Cyy} {A : Nat → Prop} {G : Gg} (X : Cx p m c cX3_replaceColumn 4 s args wz_X3_replaceColumn RX3 D cy) {Q : State → Prop} (r0 : Nat) (i1 : Int32) (r2 : Nat) (Qo : Mm → Prop)  (hE : ∀ (y : Mm), Qo (y) → ∀ (H : Heap) (locs : List Loc) (ls : Array Slot), Wo s D cy A G y H locs → lv_has ls 4 [] → W p l e rm_X3_replaceColumn s m args below meth c H locs 0 0 Q (F0 m 48 ls [])) (rec : Int32 → Mm → Option (Mm)) (hrec : ∀ (i3 : Int32) (M : Mm) (H : Heap) (locs : List Loc) (ls : Array Slot), Wo s D cy A G M H locs → lv_has ls 4 [(0, .ref r0), (1, .int i1), (2, .ref r2), (3, .int i3)] → OK (rec i3 M) Qo → W p l e rm_X3_replaceColumn s m args below meth c H locs 0 0 Q (F0 m 2 ls [])) (i3 : Int32) (M : Mm) (H : Heap) (locs : List Loc) (ls : Array Slot) (w : Wo s D cy A G M H locs) (hl : lv_has ls 4 [(0, .ref r0), (1, .int i1), (2, .ref r2), (3, .int i3)]) (hk : OK (bd_X3_replaceColumn_2 G r0 i1 r2 rec i3 M) Qo) : W p l e rm_X3_replaceColumn s m args below meth c H locs 0 0 Q (F0 m 2 ls []) := by
    have hx := X.1.1
    have hb := X.1.2.1
    unfold bd_X3_replaceColumn_2 at hk
    refine lv_iload_n hx hb dX3_replaceColumn_2 rfl (lv_at hl 3 rfl) ?_
    refine lv_aload_n hx hb dX3_replaceColumn_3 rfl (lv_at hl 0 rfl) ?_
    obtain ⟨c1, hk⟩ := ok_c hk
    refine zgi X w 3 2 18 (C := RX3) (T := TX3) (N := 3) rfl ui_X3 (by decide) rfl (tb wf_X3_18) dX3_replaceColumn_4 c1 ?_
    refine lv_icmp_ge (tgt := 48) hx hb dX3_replaceColumn_7 (by decide) (fun c2 => ?_) (fun c2 => ?_)
    · have hk := ok_p c2 hk
      exact hE M (ok_s hk) _ _ _ w (lv_sub hl [] rfl)
    · have hk := ok_n c2 hk
      refine lv_iload_n hx hb dX3_replaceColumn_10 rfl (lv_at hl 3 rfl) ?_
      refine lv_aload_n hx hb dX3_replaceColumn_11 rfl (lv_at hl 2 rfl) ?_
      obtain ⟨c3, hk⟩ := ok_c hk
      refine znl X w dX3_replaceColumn_12 c3 ?_
      refine lv_icmp_ge (tgt := 48) hx hb dX3_replaceColumn_13 (by decide) (fun c4 => ?_) (fun c4 => ?_)
      · have hk := ok_p c4 hk
        exact hE M (ok_s hk) _ _ _ w (lv_sub hl [] rfl)
      · have hk := ok_n c4 hk
        refine lv_iload_n hx hb dX3_replaceColumn_16 rfl (lv_at hl 1 rfl) ?_
        refine lv_if_lt (tgt := 42) hx hb dX3_replaceColumn_17 (by decide) (fun c5 => ?_) (fun c5 => ?_)
        · have hk := ok_p c5 hk
          refine lv_iinc (v := (i3 + 1)) (lv' := [(3, .int (i3 + 1)), (0, .ref r0), (1, .int i1), (2, .ref r2)]) hx hb dX3_replaceColumn_42 hl (k := 3) rfl rfl (by decide) rfl (fun ls hl => ?_)
          refine lv_goto (tgt := 2) hx hb dX3_replaceColumn_45 (by decide) ?_
          exact hrec (i3 + 1) M _ _ _ w (lv_sub hl [1, 2, 3, 0] rfl) hk
        · have hk := ok_n c5 hk
          refine lv_iload_n hx hb dX3_replaceColumn_20 rfl (lv_at hl 1 rfl) ?_
          refine lv_aload_n hx hb dX3_replaceColumn_21 rfl (lv_at hl 0 rfl) ?_
          refine zgi X w 3 2 18 (C := RX3) (T := TX3) (N := 3) rfl ui_X3 (by decide) rfl (tb wf_X3_18) dX3_replaceColumn_22 c1 ?_
          refine lv_icmp_ge (tgt := 42) hx hb dX3_replaceColumn_25 (by decide) (fun c6 => ?_) (fun c6 => ?_)
          · have hk := ok_p c6 hk
            refine lv_iinc (v := (i3 + 1)) (lv' := [(3, .int (i3 + 1)), (0, .ref r0), (1, .int i1), (2, .ref r2)]) hx hb dX3_replaceColumn_42 hl (k := 3) rfl rfl (by decide) rfl (fun ls hl => ?_)
            refine lv_goto (tgt := 2) hx hb dX3_replaceColumn_45 (by decide) ?_
            exact hrec (i3 + 1) M _ _ _ w (lv_sub hl [1, 2, 3, 0] rfl) hk
          · have hk := ok_n c6 hk
            refine lv_aload_n hx hb dX3_replaceColumn_28 rfl (lv_at hl 0 rfl) ?_
            obtain ⟨r7, e8, hk⟩ := ok_b hk
            refine zgr X w 3 0 9 (C := RX3) (T := TX3) (N := 3) rfl ui_X3 (by decide) rfl (tb wf_X3_9) dX3_replaceColumn_29 c1 e8 ?_
            refine lv_iload_n hx hb dX3_replaceColumn_32 rfl (lv_at hl 3 rfl) ?_
            refine lv_bipush (v := 8) hx hb dX3_replaceColumn_33 (by decide) ?_
            refine lv_imul hx hb dX3_replaceColumn_35 ?_
            refine lv_iload_n hx hb dX3_replaceColumn_36 rfl (lv_at hl 1 rfl) ?_
            refine lv_iadd hx hb dX3_replaceColumn_37 ?_
            refine lv_aload_n hx hb dX3_replaceColumn_38 rfl (lv_at hl 2 rfl) ?_
            refine lv_iload_n hx hb dX3_replaceColumn_39 rfl (lv_at hl 3 rfl) ?_
            obtain ⟨c9, hk⟩ := ok_c hk
            refine zal X w dX3_replaceColumn_40 c3 c9 ?_
            obtain ⟨c10, hk⟩ := ok_c hk
            obtain ⟨c11, hk⟩ := ok_c hk
            refine zsl X w dX3_replaceColumn_41 c10 c11 (fun H locs w => ?_)
            refine lv_iinc (v := (i3 + 1)) (lv' := [(3, .int (i3 + 1)), (0, .ref r0), (1, .int i1), (2, .ref r2)]) hx hb dX3_replaceColumn_42 hl (k := 3) rfl rfl (by decide) rfl (fun ls hl => ?_)
            refine lv_goto (tgt := 2) hx hb dX3_replaceColumn_45 (by decide) ?_
            exact hrec (i3 + 1) (mwJ M r7 (Int32.toNatClampNeg ((i3 * (8 : Int32)) + i1)) (M.2.1 r2 (Int32.toNatClampNeg i3))) _ _ _ w (lv_sub hl [1, 2, 3, 0] rfl) hk
theorem wl_X3_replaceColumn_2 {p : Program} {l : Launch} {e : Env} {s : State} {m : MethodId} {args : Array Value} {below : List Frame} {meth : Method} {c : Code} {D : va_G} {cy : Cyy} {A : Nat → Prop} {G : Gg} (X : Cx p m c cX3_replaceColumn 4 s args wz_X3_replaceColumn RX3 D cy) {Q : State → Prop} (r0 : Nat) (i1 : Int32) (r2 : Nat) (Qo : Mm → Prop)  (hE : ∀ (y : Mm), Qo (y) → ∀ (H : Heap) (locs : List Loc) (ls : Array Slot), Wo s D cy A G y H locs → lv_has ls 4 [] → W p l e rm_X3_replaceColumn s m args below meth c H locs 0 0 Q (F0 m 48 ls [])) : ∀ (n : Nat) (i3 : Int32) (M : Mm) (H : Heap) (locs : List Loc) (ls : Array Slot), Wo s D cy A G M H locs → lv_has ls 4 [(0, .ref r0), (1, .int i1), (2, .ref r2), (3, .int i3)] → OK (lp_X3_replaceColumn_2 G r0 i1 r2 n i3 M) Qo → W p l e rm_X3_replaceColumn s m args below meth c H locs 0 0 Q (F0 m 2 ls []) := by
  intro n
  induction n with
  | zero => intro i3 M H locs ls w hl hk; exact ok_0 hk
  | succ n ih => intro i3 M H locs ls w hl hk; exact wb_X3_replaceColumn_2 X r0 i1 r2 Qo hE  (lp_X3_replaceColumn_2 G r0 i1 r2 n) ih i3 M H locs ls w hl hk
set_option maxHeartbeats 4000000 in
set_option maxRecDepth 100000 in
theorem c_X3_replaceColumn (l : Launch) (D : va_G) (cy : Cyy) (G : Gg) (M : Mm) (r0 : Nat) (i1 : Int32) (r2 : Nat) {q : Mm} (hm : f_X3_replaceColumn G M r0 i1 r2 = some q) : CV l yX3_replaceColumn wz_X3_replaceColumn rm_X3_replaceColumn D cy G M [.ref r0, .int i1, .ref r2] q := by
  refine Met_of (Qf := fun A => QV D cy G A q) (cc := cX3_replaceColumn) (nL := 4) (ret := none) (own := RX3) (lv := [(0, .ref r0), (1, .int i1), (2, .ref r2)]) (by decide) rfl rfl (Nat.le_of_ble_eq_true rfl) rfl ?_
  intro p e s m args below meth c A ls X hr hlk w hl
  have hx := X.1.1
  have hb := X.1.2.1
  obtain ⟨Qo, hR, hk⟩ : ∃ Qo : Mm → Prop, (∀ x, Qo x → x = q) ∧ OK (f_X3_replaceColumn G M r0 i1 r2) Qo := ⟨fun x => x = q, fun _ h => h, q, hm, rfl⟩
  unfold f_X3_replaceColumn at hk
  refine lv_iconst (v := 0) hx hb dX3_replaceColumn_0 (by decide) ?_
  refine lv_istore_n (lv' := [(3, .int (0 : Int32)), (0, .ref r0), (1, .int i1), (2, .ref r2)]) hx hb dX3_replaceColumn_1 rfl hl (by decide) rfl (fun ls hl => ?_)
  refine wl_X3_replaceColumn_2 X r0 i1 r2 (Qo := _) (fun q12 hk H locs ls w hl => ?_) FU (0 : Int32) M _ _ _ w (lv_sub hl [1, 2, 3, 0] rfl) (ok_b hk)
  have hk := hR _ (ok_s hk)
  exact zrv X hr hlk w dX3_replaceColumn_48 hk
abbrev rm_X2_solve : Room := { frames := 4, cells := 0, slots := 0, locals := 91 }
set_option maxHeartbeats 4000000 in
set_option maxRecDepth 100000 in
theorem c_X2_solve (l : Launch) (D : va_G) (cy : Cyy) (G : Gg) (M : Mm) (r0 : Nat) (r1 : Nat) (i2 : Int32) (i3 : Int32) (r4 : Nat) {q : Mm} (hm : f_X2_solve G M r0 r1 i2 i3 r4 = some q) : CV l yX2_solve wz_X2_solve rm_X2_solve D cy G M [.ref r0, .ref r1, .int i2, .int i3, .ref r4] q := by
  refine Met_of (Qf := fun A => QV D cy G A q) (cc := cX2_solve) (nL := 7) (ret := none) (own := RX2) (lv := [(0, .ref r0), (1, .ref r1), (2, .int i2), (3, .int i3), (4, .ref r4)]) (by decide) rfl rfl (Nat.le_of_ble_eq_true rfl) rfl ?_
  intro p e s m args below meth c A ls X hr hlk w hl
  have hx := X.1.1
  have hb := X.1.2.1
  obtain ⟨Qo, hR, hk⟩ : ∃ Qo : Mm → Prop, (∀ x, Qo x → x = q) ∧ OK (f_X2_solve G M r0 r1 i2 i3 r4) Qo := ⟨fun x => x = q, fun _ h => h, q, hm, rfl⟩
  unfold f_X2_solve at hk
  refine lv_aload_n hx hb dX2_solve_0 rfl (lv_at hl 0 rfl) ?_
  obtain ⟨c1, hk⟩ := ok_c hk
  obtain ⟨r2, e3, hk⟩ := ok_b hk
  refine zgr X w 2 0 12 (C := RX2) (T := TX2) (N := 2) rfl ui_X2 (by decide) rfl (tb wf_X2_12) dX2_solve_1 c1 e3 ?_
  refine lv_aload_n hx hb dX2_solve_4 rfl (lv_at hl 1 rfl) ?_
  refine lv_iload_n hx hb dX2_solve_5 rfl (lv_at hl 2 rfl) ?_
  obtain ⟨c6, hk⟩ := ok_c hk
  obtain ⟨q4, e5, hk⟩ := ok_b hk
  refine zVv X w (n := 2) (As := [.ref r1, .int i2]) (rest := []) (ci := 3) (C := RX3) (T := TX3) (N := 3) (c_X3_load l D cy G M r2 r1 i2 e5) (gzV wm_X2_71 wi_X3_load ws_X3_load wn_X3 wc_X3_load) rfl rfl rfl (by decide +kernel) (by decide) rfl c6 rfl rfl hl.1 (Nat.le_of_ble_eq_true rfl) dX2_solve_6 ⟨Nat.zero_le _, Nat.zero_le _⟩ (fun H locs w => ?_)
  refine lv_aload_n hx hb dX2_solve_9 rfl (lv_at hl 0 rfl) ?_
  obtain ⟨r7, e8, hk⟩ := ok_b hk
  refine zgr X w 2 0 12 (C := RX2) (T := TX2) (N := 2) rfl ui_X2 (by decide) rfl (tb wf_X2_12) dX2_solve_10 c1 e8 ?_
  obtain ⟨c11, hk⟩ := ok_c hk
  obtain ⟨q9, e10, hk⟩ := ok_b hk
  refine zVl X w (n := 0) (As := []) (rest := []) (ci := 3) (C := RX3) (T := TX3) (N := 3) (c_X3_determinant l D cy G q4 r7 e10) (gzV wm_X2_75 wi_X3_determinant ws_X3_determinant wn_X3 wc_X3_determinant) rfl rfl rfl (by decide +kernel) (by decide) rfl c11 rfl rfl hl.1 (Nat.le_of_ble_eq_true rfl) dX2_solve_13 ⟨Nat.zero_le _, Nat.zero_le _⟩ (fun H locs w => ?_)
  refine lv_lstore (lv' := [(5, .long q9.1), (0, .ref r0), (1, .ref r1), (2, .int i2), (3, .int i3), (4, .ref r4)]) hx hb dX2_solve_16 hl (by decide) rfl (fun ls hl => ?_)
  refine lv_aload_n hx hb dX2_solve_18 rfl (lv_at hl 1 rfl) ?_
  obtain ⟨r12, e13, hk⟩ := ok_b hk
  refine zgr X w 2 0 12 (C := RX2) (T := TX2) (N := 2) rfl ui_X2 (by decide) rfl (tb wf_X2_12) dX2_solve_19 c1 e13 ?_
  refine lv_iload_n hx hb dX2_solve_22 rfl (lv_at hl 3 rfl) ?_
  refine lv_iconst (v := 1) hx hb dX2_solve_23 (by decide) ?_
  refine lv_iload_n hx hb dX2_solve_24 rfl (lv_at hl 4 rfl) ?_
  refine lv_ishl hx hb dX2_solve_25 ?_
  refine lv_iconst (v := 1) hx hb dX2_solve_26 (by decide) ?_
  refine lv_isub hx hb dX2_solve_27 ?_
  refine lv_iand hx hb dX2_solve_28 ?_
  obtain ⟨q14, e15, hk⟩ := ok_b hk
  refine zSi X w (n := 1) (As := [.int (i2 &&& (((1 : Int32) <<< (i3 &&& 31)) - (1 : Int32)))]) (rest := [.ref r12]) (c_J6_bitCount_0f7a4 l D cy G q9.2 (i2 &&& (((1 : Int32) <<< (i3 &&& 31)) - (1 : Int32))) e15) (gzS wm_X2_79 wt_J6_bitCount_0f7a4 wn_J6 wc_J6_bitCount_0f7a4) rfl rfl rfl (by decide +kernel) (by decide) rfl rfl hl.1 (Nat.le_of_ble_eq_true rfl) dX2_solve_29 ⟨Nat.zero_le _, Nat.zero_le _⟩ (fun H locs w => ?_)
  refine lv_aload_n hx hb dX2_solve_32 rfl (lv_at hl 1 rfl) ?_
  obtain ⟨r16, e17, hk⟩ := ok_b hk
  refine zgr X w 2 1 18 (C := RX2) (T := TX2) (N := 2) rfl ui_X2 (by decide) rfl (tb wf_X2_18) dX2_solve_33 c1 e17 ?_
  obtain ⟨c20, hk⟩ := ok_c hk
  obtain ⟨q18, e19, hk⟩ := ok_b hk
  refine zVv X w (n := 2) (As := [.int q14, .ref r16]) (rest := []) (ci := 3) (C := RX3) (T := TX3) (N := 3) (c_X3_replaceColumn l D cy G q9.2 r12 q14 r16 e19) (gzV wm_X2_84 wi_X3_replaceColumn ws_X3_replaceColumn wn_X3 wc_X3_replaceColumn) rfl rfl rfl (by decide +kernel) (by decide) rfl c20 rfl rfl hl.1 (Nat.le_of_ble_eq_true rfl) dX2_solve_36 ⟨Nat.zero_le _, Nat.zero_le _⟩ (fun H locs w => ?_)
  refine lv_aload hx hb dX2_solve_39 (lv_at hl 5 rfl) ?_
  refine lv_aload_n hx hb dX2_solve_41 rfl (lv_at hl 1 rfl) ?_
  obtain ⟨r21, e22, hk⟩ := ok_b hk
  refine zgr X w 2 0 12 (C := RX2) (T := TX2) (N := 2) rfl ui_X2 (by decide) rfl (tb wf_X2_12) dX2_solve_42 c1 e22 ?_
  obtain ⟨c25, hk⟩ := ok_c hk
  obtain ⟨q23, e24, hk⟩ := ok_b hk
  refine zVl X w (n := 0) (As := []) (rest := [.ref r4]) (ci := 3) (C := RX3) (T := TX3) (N := 3) (c_X3_determinant l D cy G q18 r21 e24) (gzV wm_X2_75 wi_X3_determinant ws_X3_determinant wn_X3 wc_X3_determinant) rfl rfl rfl (by decide +kernel) (by decide) rfl c25 rfl rfl hl.1 (Nat.le_of_ble_eq_true rfl) dX2_solve_45 ⟨Nat.zero_le _, Nat.zero_le _⟩ (fun H locs w => ?_)
  refine lv_lload hx hb dX2_solve_48 (lv_at hl 0 rfl) ?_
  obtain ⟨c28, hk⟩ := ok_c hk
  obtain ⟨q26, e27, hk⟩ := ok_b hk
  refine zVv X w (n := 2) (As := [.long q23.1, .long q9.1]) (rest := []) (ci := 1) (C := RX1) (T := TX1) (N := 2) (c_X1_put l D cy G q23.2 r4 q23.1 q9.1 e27) (gzV wm_X2_26 wi_X1_put ws_X1_put wn_X1 wc_X1_put) rfl rfl rfl (by decide +kernel) (by decide) rfl c28 rfl rfl hl.1 (Nat.le_of_ble_eq_true rfl) dX2_solve_50 ⟨Nat.zero_le _, Nat.zero_le _⟩ (fun H locs w => ?_)
  have hk := hR _ (ok_s hk)
  exact zrv X hr hlk w dX2_solve_53 hk
abbrev rm_X2_findSteps : Room := { frames := 5, cells := 0, slots := 0, locals := 117 }
set_option maxHeartbeats 4000000 in
set_option maxRecDepth 100000 in
theorem wb_X2_findSteps_40 {p : Program} {l : Launch} {e : Env} {s : State} {m : MethodId} {args : Array Value} {below : List Frame} {meth : Method} {c : Code} {D : va_G} {cy : Cyy} {A : Nat → Prop} {G : Gg} (X : Cx p m c cX2_findSteps 7 s args wz_X2_findSteps RX2 D cy) {Q : State → Prop} (r0 : Nat) (r1 : Nat) (i2 : Int32) (r4 : Nat) (i5 : Int32) (Qo : Mm → Prop)  (hE : ∀ (y : Mm), Qo (y) → ∀ (H : Heap) (locs : List Loc) (ls : Array Slot), Wo s D cy A G y H locs → lv_has ls 7 [(0, .ref r0), (1, .ref r1), (2, .int i2), (4, .ref r4), (5, .int i5)] → W p l e rm_X2_findSteps s m args below meth c H locs 0 0 Q (F0 m 65 ls [])) (rec : Int32 → Mm → Option (Mm)) (hrec : ∀ (i6 : Int32) (M : Mm) (H : Heap) (locs : List Loc) (ls : Array Slot), Wo s D cy A G M H locs → lv_has ls 7 [(0, .ref r0), (1, .ref r1), (2, .int i2), (4, .ref r4), (5, .int i5), (6, .int i6)] → OK (rec i6 M) Qo → W p l e rm_X2_findSteps s m args below meth c H locs 0 0 Q (F0 m 40 ls [])) (i6 : Int32) (M : Mm) (H : Heap) (locs : List Loc) (ls : Array Slot) (w : Wo s D cy A G M H locs) (hl : lv_has ls 7 [(0, .ref r0), (1, .ref r1), (2, .int i2), (4, .ref r4), (5, .int i5), (6, .int i6)]) (hk : OK (bd_X2_findSteps_40 G r0 r1 i2 r4 i5 rec i6 M) Qo) : W p l e rm_X2_findSteps s m args below meth c H locs 0 0 Q (F0 m 40 ls []) := by
    have hx := X.1.1
    have hb := X.1.2.1
    unfold bd_X2_findSteps_40 at hk
    refine lv_iload hx hb dX2_findSteps_40 (lv_at hl 5 rfl) ?_
    refine lv_bipush (v := 8) hx hb dX2_findSteps_42 (by decide) ?_
    refine lv_icmp_ge (tgt := 65) hx hb dX2_findSteps_44 (by decide) (fun c9 => ?_) (fun c9 => ?_)
    · have hk := ok_p c9 hk
      exact hE M (ok_s hk) _ _ _ w (lv_sub hl [0, 1, 2, 3, 4] rfl)
    · have hk := ok_n c9 hk
      refine lv_aload_n hx hb dX2_findSteps_47 rfl (lv_at hl 0 rfl) ?_
      obtain ⟨c10, hk⟩ := ok_c hk
      obtain ⟨r11, e12, hk⟩ := ok_b hk
      refine zgr X w 2 1 18 (C := RX2) (T := TX2) (N := 2) rfl ui_X2 (by decide) rfl (tb wf_X2_18) dX2_findSteps_48 c10 e12 ?_
      refine lv_iload hx hb dX2_findSteps_51 (lv_at hl 5 rfl) ?_
      refine lv_aload_n hx hb dX2_findSteps_53 rfl (lv_at hl 1 rfl) ?_
      obtain ⟨c13, hk⟩ := ok_c hk
      refine zgNi X w 0 1 40 "BlendBench" (C := RX0) (T := TX0) (N := 7) rfl ui_X0 (by decide) rfl (by decide +kernel) dX2_findSteps_54 c13 ?_
      refine lv_i2l hx hb dX2_findSteps_57 rfl ?_
      obtain ⟨c14, hk⟩ := ok_c hk
      obtain ⟨c15, hk⟩ := ok_c hk
      refine zsl X w dX2_findSteps_58 c14 c15 (fun H locs w => ?_)
      refine lv_iinc (v := (i6 + 1)) (lv' := [(6, .int (i6 + 1)), (0, .ref r0), (1, .ref r1), (2, .int i2), (4, .ref r4), (5, .int i5)]) hx hb dX2_findSteps_59 hl (k := 5) rfl rfl (by decide) rfl (fun ls hl => ?_)
      refine lv_goto (tgt := 40) hx hb dX2_findSteps_62 (by decide) ?_
      exact hrec (i6 + 1) (mwJ M r11 (Int32.toNatClampNeg i6) (Int32.toInt64 (M.1 r1 1))) _ _ _ w (lv_sub hl [1, 2, 3, 4, 5, 0] rfl) hk
theorem wl_X2_findSteps_40 {p : Program} {l : Launch} {e : Env} {s : State} {m : MethodId} {args : Array Value} {below : List Frame} {meth : Method} {c : Code} {D : va_G} {cy : Cyy} {A : Nat → Prop} {G : Gg} (X : Cx p m c cX2_findSteps 7 s args wz_X2_findSteps RX2 D cy) {Q : State → Prop} (r0 : Nat) (r1 : Nat) (i2 : Int32) (r4 : Nat) (i5 : Int32) (Qo : Mm → Prop)  (hE : ∀ (y : Mm), Qo (y) → ∀ (H : Heap) (locs : List Loc) (ls : Array Slot), Wo s D cy A G y H locs → lv_has ls 7 [(0, .ref r0), (1, .ref r1), (2, .int i2), (4, .ref r4), (5, .int i5)] → W p l e rm_X2_findSteps s m args below meth c H locs 0 0 Q (F0 m 65 ls [])) : ∀ (n : Nat) (i6 : Int32) (M : Mm) (H : Heap) (locs : List Loc) (ls : Array Slot), Wo s D cy A G M H locs → lv_has ls 7 [(0, .ref r0), (1, .ref r1), (2, .int i2), (4, .ref r4), (5, .int i5), (6, .int i6)] → OK (lp_X2_findSteps_40 G r0 r1 i2 r4 i5 n i6 M) Qo → W p l e rm_X2_findSteps s m args below meth c H locs 0 0 Q (F0 m 40 ls []) := by
  intro n
  induction n with
  | zero => intro i6 M H locs ls w hl hk; exact ok_0 hk
  | succ n ih => intro i6 M H locs ls w hl hk; exact wb_X2_findSteps_40 X r0 r1 i2 r4 i5 Qo hE  (lp_X2_findSteps_40 G r0 r1 i2 r4 i5 n) ih i6 M H locs ls w hl hk
set_option maxHeartbeats 4000000 in
set_option maxRecDepth 100000 in
theorem c_X2_findSteps (l : Launch) (D : va_G) (cy : Cyy) (G : Gg) (M : Mm) (r0 : Nat) (r1 : Nat) (i2 : Int32) (i3 : Int32) (r4 : Nat) {q : Int32 × Mm} (hm : f_X2_findSteps G M r0 r1 i2 i3 r4 = some q) : CI l yX2_findSteps wz_X2_findSteps rm_X2_findSteps D cy G M [.ref r0, .ref r1, .int i2, .int i3, .ref r4] q.1 q.2 := by
  refine Met_of (Qf := fun A => QI D cy G A q.1 q.2) (cc := cX2_findSteps) (nL := 7) (ret := (some .boolean)) (own := RX2) (lv := [(0, .ref r0), (1, .ref r1), (2, .int i2), (3, .int i3), (4, .ref r4)]) (by decide) rfl rfl (Nat.le_of_ble_eq_true rfl) rfl ?_
  intro p e s m args below meth c A ls X hr hlk w hl
  have hx := X.1.1
  have hb := X.1.2.1
  obtain ⟨Qo, hR, hk⟩ : ∃ Qo : Int32 × Mm → Prop, (∀ x, Qo x → x = q) ∧ OK (f_X2_findSteps G M r0 r1 i2 i3 r4) Qo := ⟨fun x => x = q, fun _ h => h, q, hm, rfl⟩
  unfold f_X2_findSteps at hk
  refine lv_iload_n hx hb dX2_findSteps_0 rfl (lv_at hl 3 rfl) ?_
  refine lv_iload_n hx hb dX2_findSteps_1 rfl (lv_at hl 2 rfl) ?_
  obtain ⟨q1, e2, hk⟩ := ok_b hk
  refine zNi X w (n := 2) (As := [.int i3, .int i2]) (rest := []) (host := "BlendBench") (c_X8_has l D cy G M i3 i2 e2) (gzN wc_X8_has) rfl rfl rfl (by decide +kernel) (tb wn_X8) (tb wt_X8_has) (by decide +kernel) (by decide) rfl rfl hl.1 (Nat.le_of_ble_eq_true rfl) dX2_findSteps_2 ⟨Nat.zero_le _, Nat.zero_le _⟩ (fun H locs w => ?_)
  refine lv_if_eq (tgt := 17) hx hb dX2_findSteps_5 (by decide) (fun c3 => ?_) (fun c3 => ?_)
  · have hk := ok_p c3 hk
    refine lv_aload_n hx hb dX2_findSteps_17 rfl (lv_at hl 1 rfl) ?_
    refine lv_iload_n hx hb dX2_findSteps_18 rfl (lv_at hl 2 rfl) ?_
    refine lv_iload_n hx hb dX2_findSteps_19 rfl (lv_at hl 3 rfl) ?_
    obtain ⟨q4, e5, hk⟩ := ok_b hk
    refine zSi X w (n := 3) (As := [.ref r1, .int i2, .int i3]) (rest := []) (c_X2_reachedOutside l D cy G M r1 i2 i3 e5) (gzS wm_X2_32 wt_X2_reachedOutside wn_X2 wc_X2_reachedOutside) rfl rfl rfl (by decide +kernel) (by decide) rfl rfl hl.1 (Nat.le_of_ble_eq_true rfl) dX2_findSteps_20 ⟨Nat.zero_le _, Nat.zero_le _⟩ (fun H locs w => ?_)
    refine lv_istore (lv' := [(5, .int q4), (0, .ref r0), (1, .ref r1), (2, .int i2), (3, .int i3), (4, .ref r4)]) hx hb dX2_findSteps_23 hl (by decide) rfl (fun ls hl => ?_)
    refine lv_aload_n hx hb dX2_findSteps_25 rfl (lv_at hl 2 rfl) ?_
    refine lv_iload hx hb dX2_findSteps_26 (lv_at hl 0 rfl) ?_
    refine lv_iload_n hx hb dX2_findSteps_28 rfl (lv_at hl 4 rfl) ?_
    obtain ⟨q6, e7, hk⟩ := ok_b hk
    refine zSi X w (n := 3) (As := [.ref r1, .int q4, .int i3]) (rest := []) (c_X2_allLeadInto l D cy G M r1 q4 i3 e7) (gzS wm_X2_36 wt_X2_allLeadInto wn_X2 wc_X2_allLeadInto) rfl rfl rfl (by decide +kernel) (by decide) rfl rfl hl.1 (Nat.le_of_ble_eq_true rfl) dX2_findSteps_29 ⟨Nat.zero_le _, Nat.zero_le _⟩ (fun H locs w => ?_)
    refine lv_if_ne (tgt := 37) hx hb dX2_findSteps_32 (by decide) (fun c8 => ?_) (fun c8 => ?_)
    · have hk := ok_n c8 hk
      refine lv_iconst (v := 0) hx hb dX2_findSteps_37 (by decide) ?_
      refine lv_istore (lv' := [(6, .int (0 : Int32)), (5, .int q4), (0, .ref r0), (1, .ref r1), (2, .int i2), (3, .int i3), (4, .ref r4)]) hx hb dX2_findSteps_38 hl (by decide) rfl (fun ls hl => ?_)
      refine wl_X2_findSteps_40 X r0 r1 i2 r4 q4 (Qo := _) (fun q16 hk H locs ls w hl => ?_) FU (0 : Int32) M _ _ _ w (lv_sub hl [2, 3, 4, 6, 1, 0] rfl) (ok_b hk)
      refine lv_aload_n hx hb dX2_findSteps_65 rfl (lv_at hl 0 rfl) ?_
      refine lv_aload_n hx hb dX2_findSteps_66 rfl (lv_at hl 1 rfl) ?_
      refine lv_iload hx hb dX2_findSteps_67 (lv_at hl 4 rfl) ?_
      refine lv_iload_n hx hb dX2_findSteps_69 rfl (lv_at hl 2 rfl) ?_
      refine lv_aload hx hb dX2_findSteps_70 (lv_at hl 3 rfl) ?_
      obtain ⟨c19, hk⟩ := ok_c hk
      obtain ⟨q17, e18, hk⟩ := ok_b hk
      refine zVv X w (n := 4) (As := [.ref r1, .int q4, .int i2, .ref r4]) (rest := []) (ci := 2) (C := RX2) (T := TX2) (N := 2) (c_X2_solve l D cy G q16 r0 r1 q4 i2 r4 e18) (gzV wm_X2_46 wi_X2_solve ws_X2_solve wn_X2 wc_X2_solve) rfl rfl rfl (by decide +kernel) (by decide) rfl c19 rfl rfl hl.1 (Nat.le_of_ble_eq_true rfl) dX2_findSteps_72 ⟨Nat.zero_le _, Nat.zero_le _⟩ (fun H locs w => ?_)
      refine lv_iconst (v := 1) hx hb dX2_findSteps_75 (by decide) ?_
      have hk := hR _ (ok_s hk)
      exact zrz X hr hlk w dX2_findSteps_76 (by decide) (pr1 hk) (pr2 hk)
    · have hk := ok_p c8 hk
      refine lv_iconst (v := 0) hx hb dX2_findSteps_35 (by decide) ?_
      have hk := hR _ (ok_s hk)
      exact zrz X hr hlk w dX2_findSteps_36 (by decide) (pr1 hk) (pr2 hk)
  · have hk := ok_n c3 hk
    refine lv_aload hx hb dX2_findSteps_8 (lv_at hl 4 rfl) ?_
    refine lv_lconst (v := 0) hx hb dX2_findSteps_10 (by decide) ?_
    refine lv_lconst (v := 1) hx hb dX2_findSteps_11 (by decide) ?_
    obtain ⟨c22, hk⟩ := ok_c hk
    obtain ⟨q20, e21, hk⟩ := ok_b hk
    refine zVv X w (n := 2) (As := [.long (0 : Int64), .long (1 : Int64)]) (rest := []) (ci := 1) (C := RX1) (T := TX1) (N := 2) (c_X1_put l D cy G M r4 (0 : Int64) (1 : Int64) e21) (gzV wm_X2_26 wi_X1_put ws_X1_put wn_X1 wc_X1_put) rfl rfl rfl (by decide +kernel) (by decide) rfl c22 rfl rfl hl.1 (Nat.le_of_ble_eq_true rfl) dX2_findSteps_12 ⟨Nat.zero_le _, Nat.zero_le _⟩ (fun H locs w => ?_)
    refine lv_iconst (v := 1) hx hb dX2_findSteps_15 (by decide) ?_
    have hk := hR _ (ok_s hk)
    exact zrz X hr hlk w dX2_findSteps_16 (by decide) (pr1 hk) (pr2 hk)
abbrev rm_X2_leadingInto : Room := { frames := 1, cells := 0, slots := 0, locals := 21 }
set_option maxHeartbeats 4000000 in
set_option maxRecDepth 100000 in
theorem wb_X2_leadingInto_15 {p : Program} {l : Launch} {e : Env} {s : State} {m : MethodId} {args : Array Value} {below : List Frame} {meth : Method} {c : Code} {D : va_G} {cy : Cyy} {A : Nat → Prop} {G : Gg} (X : Cx p m c cX2_leadingInto 6 s args wz_X2_leadingInto RX2 D cy) {Q : State → Prop} (M : Mm) (r0 : Nat) (i1 : Int32) (i2 : Int32) (i4 : Int32) (Qo : Int32 → Prop)  (hE : ∀ (y : Int32), Qo (y) → ∀ (H : Heap) (locs : List Loc) (ls : Array Slot), Wo s D cy A G M H locs → lv_has ls 6 [(0, .ref r0), (1, .int i1), (2, .int i2), (3, .int y), (4, .int i4)] → W p l e rm_X2_leadingInto s m args below meth c H locs 0 0 Q (F0 m 62 ls [])) (rec : Int32 → Int32 → Option (Int32)) (hrec : ∀ (i3 : Int32) (i5 : Int32) (H : Heap) (locs : List Loc) (ls : Array Slot), Wo s D cy A G M H locs → lv_has ls 6 [(0, .ref r0), (1, .int i1), (2, .int i2), (3, .int i3), (4, .int i4), (5, .int i5)] → OK (rec i3 i5) Qo → W p l e rm_X2_leadingInto s m args below meth c H locs 0 0 Q (F0 m 15 ls [])) (i3 : Int32) (i5 : Int32) (H : Heap) (locs : List Loc) (ls : Array Slot) (w : Wo s D cy A G M H locs) (hl : lv_has ls 6 [(0, .ref r0), (1, .int i1), (2, .int i2), (3, .int i3), (4, .int i4), (5, .int i5)]) (hk : OK (bd_X2_leadingInto_15 G M r0 i1 i2 i4 rec i3 i5) Qo) : W p l e rm_X2_leadingInto s m args below meth c H locs 0 0 Q (F0 m 15 ls []) := by
    have hx := X.1.1
    have hb := X.1.2.1
    unfold bd_X2_leadingInto_15 at hk
    refine lv_iload hx hb dX2_leadingInto_15 (lv_at hl 5 rfl) ?_
    refine lv_aload_n hx hb dX2_leadingInto_17 rfl (lv_at hl 0 rfl) ?_
    obtain ⟨c2, hk⟩ := ok_c hk
    refine zgNi X w 0 0 54 "BlendBench" (C := RX0) (T := TX0) (N := 7) rfl ui_X0 (by decide) rfl (by decide +kernel) dX2_leadingInto_18 c2 ?_
    refine lv_icmp_ge (tgt := 62) hx hb dX2_leadingInto_21 (by decide) (fun c3 => ?_) (fun c3 => ?_)
    · have hk := ok_p c3 hk
      exact hE i3 (ok_s hk) _ _ _ w (lv_sub hl [0, 1, 2, 3, 4] rfl)
    · have hk := ok_n c3 hk
      refine lv_iload_n hx hb dX2_leadingInto_24 rfl (lv_at hl 1 rfl) ?_
      refine lv_iload_n hx hb dX2_leadingInto_25 rfl (lv_at hl 2 rfl) ?_
      refine lv_ior hx hb dX2_leadingInto_26 ?_
      refine lv_iload hx hb dX2_leadingInto_27 (lv_at hl 5 rfl) ?_
      obtain ⟨q4, e5, hk⟩ := ok_b hk
      refine zNi X w (n := 2) (As := [.int (i1 ||| i2), .int i5]) (rest := []) (host := "BlendBench") (c_X8_has l D cy G M (i1 ||| i2) i5 e5) (gzN wc_X8_has) rfl rfl rfl (by decide +kernel) (tb wn_X8) (tb wt_X8_has) (by decide +kernel) (by decide) rfl rfl hl.1 (Nat.le_of_ble_eq_true rfl) dX2_leadingInto_29 ⟨Nat.zero_le _, Nat.zero_le _⟩ (fun H locs w => ?_)
      refine lv_if_ne (tgt := 56) hx hb dX2_leadingInto_32 (by decide) (fun c6 => ?_) (fun c6 => ?_)
      · have hk := ok_n c6 hk
        refine lv_iinc (v := (i5 + 1)) (lv' := [(5, .int (i5 + 1)), (0, .ref r0), (1, .int i1), (2, .int i2), (3, .int i3), (4, .int i4)]) hx hb dX2_leadingInto_56 hl (k := 5) rfl rfl (by decide) rfl (fun ls hl => ?_)
        refine lv_goto (tgt := 15) hx hb dX2_leadingInto_59 (by decide) ?_
        exact hrec i3 (i5 + 1) _ _ _ w (lv_sub hl [1, 2, 3, 4, 5, 0] rfl) hk
      · have hk := ok_p c6 hk
        refine lv_aload_n hx hb dX2_leadingInto_35 rfl (lv_at hl 0 rfl) ?_
        obtain ⟨r7, e8, hk⟩ := ok_b hk
        refine zgNr X w 0 3 68 "BlendBench" (C := RX0) (T := TX0) (N := 7) rfl ui_X0 (by decide) rfl (by decide +kernel) dX2_leadingInto_36 c2 e8 ?_
        refine lv_iload hx hb dX2_leadingInto_39 (lv_at hl 5 rfl) ?_
        obtain ⟨c9, hk⟩ := ok_c hk
        obtain ⟨c10, hk⟩ := ok_c hk
        refine zai X w dX2_leadingInto_41 c9 c10 ?_
        refine lv_iload_n hx hb dX2_leadingInto_42 rfl (lv_at hl 1 rfl) ?_
        refine lv_iload_n hx hb dX2_leadingInto_43 rfl (lv_at hl 3 rfl) ?_
        refine lv_ior hx hb dX2_leadingInto_44 ?_
        refine lv_iand hx hb dX2_leadingInto_45 ?_
        refine lv_if_eq (tgt := 56) hx hb dX2_leadingInto_46 (by decide) (fun c11 => ?_) (fun c11 => ?_)
        · have hk := ok_p c11 hk
          refine lv_iinc (v := (i5 + 1)) (lv' := [(5, .int (i5 + 1)), (0, .ref r0), (1, .int i1), (2, .int i2), (3, .int i3), (4, .int i4)]) hx hb dX2_leadingInto_56 hl (k := 5) rfl rfl (by decide) rfl (fun ls hl => ?_)
          refine lv_goto (tgt := 15) hx hb dX2_leadingInto_59 (by decide) ?_
          exact hrec i3 (i5 + 1) _ _ _ w (lv_sub hl [1, 2, 3, 4, 5, 0] rfl) hk
        · have hk := ok_n c11 hk
          refine lv_iload_n hx hb dX2_leadingInto_49 rfl (lv_at hl 3 rfl) ?_
          refine lv_iconst (v := 1) hx hb dX2_leadingInto_50 (by decide) ?_
          refine lv_iload hx hb dX2_leadingInto_51 (lv_at hl 5 rfl) ?_
          refine lv_ishl hx hb dX2_leadingInto_53 ?_
          refine lv_ior hx hb dX2_leadingInto_54 ?_
          refine lv_istore_n (lv' := [(3, .int (i3 ||| ((1 : Int32) <<< (i5 &&& 31)))), (0, .ref r0), (1, .int i1), (2, .int i2), (4, .int i4), (5, .int i5)]) hx hb dX2_leadingInto_55 rfl hl (by decide) rfl (fun ls hl => ?_)
          refine lv_iinc (v := (i5 + 1)) (lv' := [(5, .int (i5 + 1)), (3, .int (i3 ||| ((1 : Int32) <<< (i5 &&& 31)))), (0, .ref r0), (1, .int i1), (2, .int i2), (4, .int i4)]) hx hb dX2_leadingInto_56 hl (k := 5) rfl rfl (by decide) rfl (fun ls hl => ?_)
          refine lv_goto (tgt := 15) hx hb dX2_leadingInto_59 (by decide) ?_
          exact hrec (i3 ||| ((1 : Int32) <<< (i5 &&& 31))) (i5 + 1) _ _ _ w (lv_sub hl [2, 3, 4, 1, 5, 0] rfl) hk
theorem wl_X2_leadingInto_15 {p : Program} {l : Launch} {e : Env} {s : State} {m : MethodId} {args : Array Value} {below : List Frame} {meth : Method} {c : Code} {D : va_G} {cy : Cyy} {A : Nat → Prop} {G : Gg} (X : Cx p m c cX2_leadingInto 6 s args wz_X2_leadingInto RX2 D cy) {Q : State → Prop} (M : Mm) (r0 : Nat) (i1 : Int32) (i2 : Int32) (i4 : Int32) (Qo : Int32 → Prop)  (hE : ∀ (y : Int32), Qo (y) → ∀ (H : Heap) (locs : List Loc) (ls : Array Slot), Wo s D cy A G M H locs → lv_has ls 6 [(0, .ref r0), (1, .int i1), (2, .int i2), (3, .int y), (4, .int i4)] → W p l e rm_X2_leadingInto s m args below meth c H locs 0 0 Q (F0 m 62 ls [])) : ∀ (n : Nat) (i3 : Int32) (i5 : Int32) (H : Heap) (locs : List Loc) (ls : Array Slot), Wo s D cy A G M H locs → lv_has ls 6 [(0, .ref r0), (1, .int i1), (2, .int i2), (3, .int i3), (4, .int i4), (5, .int i5)] → OK (lp_X2_leadingInto_15 G M r0 i1 i2 i4 n i3 i5) Qo → W p l e rm_X2_leadingInto s m args below meth c H locs 0 0 Q (F0 m 15 ls []) := by
  intro n
  induction n with
  | zero => intro i3 i5 H locs ls w hl hk; exact ok_0 hk
  | succ n ih => intro i3 i5 H locs ls w hl hk; exact wb_X2_leadingInto_15 X M r0 i1 i2 i4 Qo hE  (lp_X2_leadingInto_15 G M r0 i1 i2 i4 n) ih i3 i5 H locs ls w hl hk
set_option maxHeartbeats 4000000 in
set_option maxRecDepth 100000 in
theorem wb_X2_leadingInto_5 {p : Program} {l : Launch} {e : Env} {s : State} {m : MethodId} {args : Array Value} {below : List Frame} {meth : Method} {c : Code} {D : va_G} {cy : Cyy} {A : Nat → Prop} {G : Gg} (X : Cx p m c cX2_leadingInto 6 s args wz_X2_leadingInto RX2 D cy) {Q : State → Prop} (M : Mm) (r0 : Nat) (i1 : Int32) (i2 : Int32) (Qo : Int32 → Prop)  (hE : ∀ (y : Int32), Qo (y) → ∀ (H : Heap) (locs : List Loc) (ls : Array Slot), Wo s D cy A G M H locs → lv_has ls 6 [(3, .int y)] → W p l e rm_X2_leadingInto s m args below meth c H locs 0 0 Q (F0 m 68 ls [])) (rec : Int32 → Int32 → Option (Int32)) (hrec : ∀ (i3 : Int32) (i4 : Int32) (H : Heap) (locs : List Loc) (ls : Array Slot), Wo s D cy A G M H locs → lv_has ls 6 [(0, .ref r0), (1, .int i1), (2, .int i2), (3, .int i3), (4, .int i4)] → OK (rec i3 i4) Qo → W p l e rm_X2_leadingInto s m args below meth c H locs 0 0 Q (F0 m 5 ls [])) (i3 : Int32) (i4 : Int32) (H : Heap) (locs : List Loc) (ls : Array Slot) (w : Wo s D cy A G M H locs) (hl : lv_has ls 6 [(0, .ref r0), (1, .int i1), (2, .int i2), (3, .int i3), (4, .int i4)]) (hk : OK (bd_X2_leadingInto_5 G M r0 i1 i2 rec i3 i4) Qo) : W p l e rm_X2_leadingInto s m args below meth c H locs 0 0 Q (F0 m 5 ls []) := by
    have hx := X.1.1
    have hb := X.1.2.1
    unfold bd_X2_leadingInto_5 at hk
    refine lv_iload hx hb dX2_leadingInto_5 (lv_at hl 4 rfl) ?_
    refine lv_bipush (v := 8) hx hb dX2_leadingInto_7 (by decide) ?_
    refine lv_icmp_ge (tgt := 68) hx hb dX2_leadingInto_9 (by decide) (fun c1 => ?_) (fun c1 => ?_)
    · have hk := ok_p c1 hk
      exact hE i3 (ok_s hk) _ _ _ w (lv_sub hl [3] rfl)
    · have hk := ok_n c1 hk
      refine lv_iconst (v := 0) hx hb dX2_leadingInto_12 (by decide) ?_
      refine lv_istore (lv' := [(5, .int (0 : Int32)), (0, .ref r0), (1, .int i1), (2, .int i2), (3, .int i3), (4, .int i4)]) hx hb dX2_leadingInto_13 hl (by decide) rfl (fun ls hl => ?_)
      refine wl_X2_leadingInto_15 X M r0 i1 i2 i4 (Qo := _) (fun q12 hk H locs ls w hl => ?_) FU i3 (0 : Int32) _ _ _ w (lv_sub hl [1, 2, 3, 4, 5, 0] rfl) (ok_b hk)
      refine lv_iinc (v := (i4 + 1)) (lv' := [(4, .int (i4 + 1)), (0, .ref r0), (1, .int i1), (2, .int i2), (3, .int q12)]) hx hb dX2_leadingInto_62 hl (k := 4) rfl rfl (by decide) rfl (fun ls hl => ?_)
      refine lv_goto (tgt := 5) hx hb dX2_leadingInto_65 (by decide) ?_
      exact hrec q12 (i4 + 1) _ _ _ w (lv_sub hl [1, 2, 3, 4, 0] rfl) hk
theorem wl_X2_leadingInto_5 {p : Program} {l : Launch} {e : Env} {s : State} {m : MethodId} {args : Array Value} {below : List Frame} {meth : Method} {c : Code} {D : va_G} {cy : Cyy} {A : Nat → Prop} {G : Gg} (X : Cx p m c cX2_leadingInto 6 s args wz_X2_leadingInto RX2 D cy) {Q : State → Prop} (M : Mm) (r0 : Nat) (i1 : Int32) (i2 : Int32) (Qo : Int32 → Prop)  (hE : ∀ (y : Int32), Qo (y) → ∀ (H : Heap) (locs : List Loc) (ls : Array Slot), Wo s D cy A G M H locs → lv_has ls 6 [(3, .int y)] → W p l e rm_X2_leadingInto s m args below meth c H locs 0 0 Q (F0 m 68 ls [])) : ∀ (n : Nat) (i3 : Int32) (i4 : Int32) (H : Heap) (locs : List Loc) (ls : Array Slot), Wo s D cy A G M H locs → lv_has ls 6 [(0, .ref r0), (1, .int i1), (2, .int i2), (3, .int i3), (4, .int i4)] → OK (lp_X2_leadingInto_5 G M r0 i1 i2 n i3 i4) Qo → W p l e rm_X2_leadingInto s m args below meth c H locs 0 0 Q (F0 m 5 ls []) := by
  intro n
  induction n with
  | zero => intro i3 i4 H locs ls w hl hk; exact ok_0 hk
  | succ n ih => intro i3 i4 H locs ls w hl hk; exact wb_X2_leadingInto_5 X M r0 i1 i2 Qo hE  (lp_X2_leadingInto_5 G M r0 i1 i2 n) ih i3 i4 H locs ls w hl hk
set_option maxHeartbeats 4000000 in
set_option maxRecDepth 100000 in
theorem c_X2_leadingInto (l : Launch) (D : va_G) (cy : Cyy) (G : Gg) (M : Mm) (r0 : Nat) (i1 : Int32) (i2 : Int32) {q : Int32} (hm : f_X2_leadingInto G M r0 i1 i2 = some q) : CI l yX2_leadingInto wz_X2_leadingInto rm_X2_leadingInto D cy G M [.ref r0, .int i1, .int i2] q M := by
  refine Met_of (Qf := fun A => QI D cy G A q M) (cc := cX2_leadingInto) (nL := 6) (ret := (some .int)) (own := RX2) (lv := [(0, .ref r0), (1, .int i1), (2, .int i2)]) (by decide) rfl rfl (Nat.le_of_ble_eq_true rfl) rfl ?_
  intro p e s m args below meth c A ls X hr hlk w hl
  have hx := X.1.1
  have hb := X.1.2.1
  obtain ⟨Qo, hR, hk⟩ : ∃ Qo : Int32 → Prop, (∀ x, Qo x → x = q) ∧ OK (f_X2_leadingInto G M r0 i1 i2) Qo := ⟨fun x => x = q, fun _ h => h, q, hm, rfl⟩
  unfold f_X2_leadingInto at hk
  refine lv_iconst (v := 0) hx hb dX2_leadingInto_0 (by decide) ?_
  refine lv_istore_n (lv' := [(3, .int (0 : Int32)), (0, .ref r0), (1, .int i1), (2, .int i2)]) hx hb dX2_leadingInto_1 rfl hl (by decide) rfl (fun ls hl => ?_)
  refine lv_iconst (v := 0) hx hb dX2_leadingInto_2 (by decide) ?_
  refine lv_istore (lv' := [(4, .int (0 : Int32)), (3, .int (0 : Int32)), (0, .ref r0), (1, .int i1), (2, .int i2)]) hx hb dX2_leadingInto_3 hl (by decide) rfl (fun ls hl => ?_)
  refine wl_X2_leadingInto_5 X M r0 i1 i2 (Qo := _) (fun q13 hk H locs ls w hl => ?_) FU (0 : Int32) (0 : Int32) _ _ _ w (lv_sub hl [2, 3, 4, 1, 0] rfl) (ok_b hk)
  refine lv_iload_n hx hb dX2_leadingInto_68 rfl (lv_at hl 0 rfl) ?_
  have hk := hR _ (ok_s hk)
  exact zri X hr hlk w dX2_leadingInto_69 hk rfl
abbrev rm_X2_findAhead : Room := { frames := 5, cells := 0, slots := 0, locals := 117 }
set_option maxHeartbeats 4000000 in
set_option maxRecDepth 100000 in
theorem wb_X2_findAhead_44 {p : Program} {l : Launch} {e : Env} {s : State} {m : MethodId} {args : Array Value} {below : List Frame} {meth : Method} {c : Code} {D : va_G} {cy : Cyy} {A : Nat → Prop} {G : Gg} (X : Cx p m c cX2_findAhead 9 s args wz_X2_findAhead RX2 D cy) {Q : State → Prop} (r0 : Nat) (r1 : Nat) (i2 : Int32) (i3 : Int32) (r5 : Nat) (i6 : Int32) (Qo : Mm → Prop)  (hE : ∀ (y : Mm), Qo (y) → ∀ (H : Heap) (locs : List Loc) (ls : Array Slot), Wo s D cy A G y H locs → lv_has ls 9 [(0, .ref r0), (1, .ref r1), (2, .int i2), (5, .ref r5), (6, .int i6)] → W p l e rm_X2_findAhead s m args below meth c H locs 0 0 Q (F0 m 87 ls [])) (rec : Int32 → Int32 → Mm → Option (Mm)) (hrec : ∀ (i7 : Int32) (i8 : Int32) (M : Mm) (H : Heap) (locs : List Loc) (ls : Array Slot), Wo s D cy A G M H locs → lv_has ls 9 [(0, .ref r0), (1, .ref r1), (2, .int i2), (3, .int i3), (5, .ref r5), (6, .int i6), (7, .int i7), (8, .int i8)] → OK (rec i7 i8 M) Qo → W p l e rm_X2_findAhead s m args below meth c H locs 0 0 Q (F0 m 44 ls [])) (i7 : Int32) (i8 : Int32) (M : Mm) (H : Heap) (locs : List Loc) (ls : Array Slot) (w : Wo s D cy A G M H locs) (hl : lv_has ls 9 [(0, .ref r0), (1, .ref r1), (2, .int i2), (3, .int i3), (5, .ref r5), (6, .int i6), (7, .int i7), (8, .int i8)]) (hk : OK (bd_X2_findAhead_44 G r0 r1 i2 i3 r5 i6 rec i7 i8 M) Qo) : W p l e rm_X2_findAhead s m args below meth c H locs 0 0 Q (F0 m 44 ls []) := by
    have hx := X.1.1
    have hb := X.1.2.1
    unfold bd_X2_findAhead_44 at hk
    refine lv_iload hx hb dX2_findAhead_44 (lv_at hl 7 rfl) ?_
    refine lv_aload_n hx hb dX2_findAhead_46 rfl (lv_at hl 1 rfl) ?_
    obtain ⟨c6, hk⟩ := ok_c hk
    refine zgNi X w 0 0 54 "BlendBench" (C := RX0) (T := TX0) (N := 7) rfl ui_X0 (by decide) rfl (by decide +kernel) dX2_findAhead_47 c6 ?_
    refine lv_icmp_ge (tgt := 87) hx hb dX2_findAhead_50 (by decide) (fun c7 => ?_) (fun c7 => ?_)
    · have hk := ok_p c7 hk
      exact hE M (ok_s hk) _ _ _ w (lv_sub hl [0, 1, 2, 4, 5] rfl)
    · have hk := ok_n c7 hk
      refine lv_iload hx hb dX2_findAhead_53 (lv_at hl 5 rfl) ?_
      refine lv_iload hx hb dX2_findAhead_55 (lv_at hl 7 rfl) ?_
      obtain ⟨q8, e9, hk⟩ := ok_b hk
      refine zNi X w (n := 2) (As := [.int i6, .int i8]) (rest := []) (host := "BlendBench") (c_X8_has l D cy G M i6 i8 e9) (gzN wc_X8_has) rfl rfl rfl (by decide +kernel) (tb wn_X8) (tb wt_X8_has) (by decide +kernel) (by decide) rfl rfl hl.1 (Nat.le_of_ble_eq_true rfl) dX2_findAhead_57 ⟨Nat.zero_le _, Nat.zero_le _⟩ (fun H locs w => ?_)
      refine lv_if_eq (tgt := 81) hx hb dX2_findAhead_60 (by decide) (fun c10 => ?_) (fun c10 => ?_)
      · have hk := ok_p c10 hk
        refine lv_iinc (v := (i8 + 1)) (lv' := [(8, .int (i8 + 1)), (0, .ref r0), (1, .ref r1), (2, .int i2), (3, .int i3), (5, .ref r5), (6, .int i6), (7, .int i7)]) hx hb dX2_findAhead_81 hl (k := 7) rfl rfl (by decide) rfl (fun ls hl => ?_)
        refine lv_goto (tgt := 44) hx hb dX2_findAhead_84 (by decide) ?_
        exact hrec i7 (i8 + 1) M _ _ _ w (lv_sub hl [1, 2, 3, 4, 5, 6, 7, 0] rfl) hk
      · have hk := ok_n c10 hk
        refine lv_aload_n hx hb dX2_findAhead_63 rfl (lv_at hl 0 rfl) ?_
        obtain ⟨c11, hk⟩ := ok_c hk
        obtain ⟨r12, e13, hk⟩ := ok_b hk
        refine zgr X w 2 1 18 (C := RX2) (T := TX2) (N := 2) rfl ui_X2 (by decide) rfl (tb wf_X2_18) dX2_findAhead_64 c11 e13 ?_
        refine lv_iload hx hb dX2_findAhead_67 (lv_at hl 6 rfl) ?_
        refine lv_aload_n hx hb dX2_findAhead_69 rfl (lv_at hl 1 rfl) ?_
        refine lv_iload hx hb dX2_findAhead_70 (lv_at hl 7 rfl) ?_
        refine lv_iload_n hx hb dX2_findAhead_72 rfl (lv_at hl 3 rfl) ?_
        obtain ⟨q14, e15, hk⟩ := ok_b hk
        refine zVi X w (n := 2) (As := [.int i8, .int i3]) (rest := [.int i7, .ref r12]) (ci := 0) (C := RX0) (T := TX0) (N := 7) (c_X0_into l D cy G M r1 i8 i3 e15) (gzV wm_X2_64 wi_X0_into ws_X0_into wn_X0 wc_X0_into) rfl rfl rfl (by decide +kernel) (by decide) rfl c6 rfl rfl hl.1 (Nat.le_of_ble_eq_true rfl) dX2_findAhead_73 ⟨Nat.zero_le _, Nat.zero_le _⟩ (fun H locs w => ?_)
        refine lv_i2l hx hb dX2_findAhead_76 rfl ?_
        obtain ⟨c16, hk⟩ := ok_c hk
        obtain ⟨c17, hk⟩ := ok_c hk
        refine zsl X w dX2_findAhead_77 c16 c17 (fun H locs w => ?_)
        refine lv_iinc (v := (i7 + 1)) (lv' := [(7, .int (i7 + 1)), (0, .ref r0), (1, .ref r1), (2, .int i2), (3, .int i3), (5, .ref r5), (6, .int i6), (8, .int i8)]) hx hb dX2_findAhead_78 hl (k := 6) rfl rfl (by decide) rfl (fun ls hl => ?_)
        refine lv_iinc (v := (i8 + 1)) (lv' := [(8, .int (i8 + 1)), (7, .int (i7 + 1)), (0, .ref r0), (1, .ref r1), (2, .int i2), (3, .int i3), (5, .ref r5), (6, .int i6)]) hx hb dX2_findAhead_81 hl (k := 7) rfl rfl (by decide) rfl (fun ls hl => ?_)
        refine lv_goto (tgt := 44) hx hb dX2_findAhead_84 (by decide) ?_
        exact hrec (i7 + 1) (i8 + 1) (mwJ M r12 (Int32.toNatClampNeg i7) (Int32.toInt64 q14)) _ _ _ w (lv_sub hl [2, 3, 4, 5, 6, 7, 1, 0] rfl) hk
theorem wl_X2_findAhead_44 {p : Program} {l : Launch} {e : Env} {s : State} {m : MethodId} {args : Array Value} {below : List Frame} {meth : Method} {c : Code} {D : va_G} {cy : Cyy} {A : Nat → Prop} {G : Gg} (X : Cx p m c cX2_findAhead 9 s args wz_X2_findAhead RX2 D cy) {Q : State → Prop} (r0 : Nat) (r1 : Nat) (i2 : Int32) (i3 : Int32) (r5 : Nat) (i6 : Int32) (Qo : Mm → Prop)  (hE : ∀ (y : Mm), Qo (y) → ∀ (H : Heap) (locs : List Loc) (ls : Array Slot), Wo s D cy A G y H locs → lv_has ls 9 [(0, .ref r0), (1, .ref r1), (2, .int i2), (5, .ref r5), (6, .int i6)] → W p l e rm_X2_findAhead s m args below meth c H locs 0 0 Q (F0 m 87 ls [])) : ∀ (n : Nat) (i7 : Int32) (i8 : Int32) (M : Mm) (H : Heap) (locs : List Loc) (ls : Array Slot), Wo s D cy A G M H locs → lv_has ls 9 [(0, .ref r0), (1, .ref r1), (2, .int i2), (3, .int i3), (5, .ref r5), (6, .int i6), (7, .int i7), (8, .int i8)] → OK (lp_X2_findAhead_44 G r0 r1 i2 i3 r5 i6 n i7 i8 M) Qo → W p l e rm_X2_findAhead s m args below meth c H locs 0 0 Q (F0 m 44 ls []) := by
  intro n
  induction n with
  | zero => intro i7 i8 M H locs ls w hl hk; exact ok_0 hk
  | succ n ih => intro i7 i8 M H locs ls w hl hk; exact wb_X2_findAhead_44 X r0 r1 i2 i3 r5 i6 Qo hE  (lp_X2_findAhead_44 G r0 r1 i2 i3 r5 i6 n) ih i7 i8 M H locs ls w hl hk
set_option maxHeartbeats 4000000 in
set_option maxRecDepth 100000 in
theorem c_X2_findAhead (l : Launch) (D : va_G) (cy : Cyy) (G : Gg) (M : Mm) (r0 : Nat) (r1 : Nat) (i2 : Int32) (i3 : Int32) (i4 : Int32) (r5 : Nat) {q : Mm} (hm : f_X2_findAhead G M r0 r1 i2 i3 i4 r5 = some q) : CV l yX2_findAhead wz_X2_findAhead rm_X2_findAhead D cy G M [.ref r0, .ref r1, .int i2, .int i3, .int i4, .ref r5] q := by
  refine Met_of (Qf := fun A => QV D cy G A q) (cc := cX2_findAhead) (nL := 9) (ret := none) (own := RX2) (lv := [(0, .ref r0), (1, .ref r1), (2, .int i2), (3, .int i3), (4, .int i4), (5, .ref r5)]) (by decide) rfl rfl (Nat.le_of_ble_eq_true rfl) rfl ?_
  intro p e s m args below meth c A ls X hr hlk w hl
  have hx := X.1.1
  have hb := X.1.2.1
  obtain ⟨Qo, hR, hk⟩ : ∃ Qo : Mm → Prop, (∀ x, Qo x → x = q) ∧ OK (f_X2_findAhead G M r0 r1 i2 i3 i4 r5) Qo := ⟨fun x => x = q, fun _ h => h, q, hm, rfl⟩
  unfold f_X2_findAhead at hk
  refine lv_aload_n hx hb dX2_findAhead_0 rfl (lv_at hl 1 rfl) ?_
  refine lv_iload_n hx hb dX2_findAhead_1 rfl (lv_at hl 3 rfl) ?_
  refine lv_iload hx hb dX2_findAhead_2 (lv_at hl 4 rfl) ?_
  obtain ⟨q1, e2, hk⟩ := ok_b hk
  refine zSi X w (n := 3) (As := [.ref r1, .int i3, .int i4]) (rest := []) (c_X2_leadingInto l D cy G M r1 i3 i4 e2) (gzS wm_X2_61 wt_X2_leadingInto wn_X2 wc_X2_leadingInto) rfl rfl rfl (by decide +kernel) (by decide) rfl rfl hl.1 (Nat.le_of_ble_eq_true rfl) dX2_findAhead_4 ⟨Nat.zero_le _, Nat.zero_le _⟩ (fun H locs w => ?_)
  refine lv_istore (lv' := [(6, .int q1), (0, .ref r0), (1, .ref r1), (2, .int i2), (3, .int i3), (4, .int i4), (5, .ref r5)]) hx hb dX2_findAhead_7 hl (by decide) rfl (fun ls hl => ?_)
  refine lv_iload hx hb dX2_findAhead_9 (lv_at hl 0 rfl) ?_
  refine lv_iload_n hx hb dX2_findAhead_11 rfl (lv_at hl 3 rfl) ?_
  obtain ⟨q3, e4, hk⟩ := ok_b hk
  refine zNi X w (n := 2) (As := [.int q1, .int i2]) (rest := []) (host := "BlendBench") (c_X8_has l D cy G M q1 i2 e4) (gzN wc_X8_has) rfl rfl rfl (by decide +kernel) (tb wn_X8) (tb wt_X8_has) (by decide +kernel) (by decide) rfl rfl hl.1 (Nat.le_of_ble_eq_true rfl) dX2_findAhead_12 ⟨Nat.zero_le _, Nat.zero_le _⟩ (fun H locs w => ?_)
  refine lv_if_ne (tgt := 38) hx hb dX2_findAhead_15 (by decide) (fun c5 => ?_) (fun c5 => ?_)
  · have hk := ok_n c5 hk
    refine lv_iconst (v := 0) hx hb dX2_findAhead_38 (by decide) ?_
    refine lv_istore (lv' := [(7, .int (0 : Int32)), (6, .int q1), (0, .ref r0), (1, .ref r1), (2, .int i2), (3, .int i3), (4, .int i4), (5, .ref r5)]) hx hb dX2_findAhead_39 hl (by decide) rfl (fun ls hl => ?_)
    refine lv_iconst (v := 0) hx hb dX2_findAhead_41 (by decide) ?_
    refine lv_istore (lv' := [(8, .int (0 : Int32)), (7, .int (0 : Int32)), (6, .int q1), (0, .ref r0), (1, .ref r1), (2, .int i2), (3, .int i3), (4, .int i4), (5, .ref r5)]) hx hb dX2_findAhead_42 hl (by decide) rfl (fun ls hl => ?_)
    refine wl_X2_findAhead_44 X r0 r1 i2 i3 r5 q1 (Qo := _) (fun q18 hk H locs ls w hl => ?_) FU (0 : Int32) (0 : Int32) M _ _ _ w (lv_sub hl [3, 4, 5, 6, 8, 2, 1, 0] rfl) (ok_b hk)
    refine lv_aload_n hx hb dX2_findAhead_87 rfl (lv_at hl 0 rfl) ?_
    refine lv_aload_n hx hb dX2_findAhead_88 rfl (lv_at hl 1 rfl) ?_
    refine lv_iload hx hb dX2_findAhead_89 (lv_at hl 4 rfl) ?_
    refine lv_iload_n hx hb dX2_findAhead_91 rfl (lv_at hl 2 rfl) ?_
    refine lv_aload hx hb dX2_findAhead_92 (lv_at hl 3 rfl) ?_
    obtain ⟨c21, hk⟩ := ok_c hk
    obtain ⟨q19, e20, hk⟩ := ok_b hk
    refine zVv X w (n := 4) (As := [.ref r1, .int q1, .int i2, .ref r5]) (rest := []) (ci := 2) (C := RX2) (T := TX2) (N := 2) (c_X2_solve l D cy G q18 r0 r1 q1 i2 r5 e20) (gzV wm_X2_46 wi_X2_solve ws_X2_solve wn_X2 wc_X2_solve) rfl rfl rfl (by decide +kernel) (by decide) rfl c21 rfl rfl hl.1 (Nat.le_of_ble_eq_true rfl) dX2_findAhead_94 ⟨Nat.zero_le _, Nat.zero_le _⟩ (fun H locs w => ?_)
    have hk := hR _ (ok_s hk)
    exact zrv X hr hlk w dX2_findAhead_97 hk
  · have hk := ok_p c5 hk
    refine lv_aload hx hb dX2_findAhead_18 (lv_at hl 6 rfl) ?_
    refine lv_iload_n hx hb dX2_findAhead_20 rfl (lv_at hl 4 rfl) ?_
    refine lv_iload_n hx hb dX2_findAhead_21 rfl (lv_at hl 3 rfl) ?_
    obtain ⟨q22, e23, hk⟩ := ok_b hk
    refine zNi X w (n := 2) (As := [.int i3, .int i2]) (rest := [.ref r5]) (host := "BlendBench") (c_X8_has l D cy G M i3 i2 e23) (gzN wc_X8_has) rfl rfl rfl (by decide +kernel) (tb wn_X8) (tb wt_X8_has) (by decide +kernel) (by decide) rfl rfl hl.1 (Nat.le_of_ble_eq_true rfl) dX2_findAhead_22 ⟨Nat.zero_le _, Nat.zero_le _⟩ (fun H locs w => ?_)
    refine lv_if_eq (tgt := 32) hx hb dX2_findAhead_25 (by decide) (fun c24 => ?_) (fun c24 => ?_)
    · have hk := ok_p c24 hk
      refine lv_lconst (v := 0) hx hb dX2_findAhead_32 (by decide) ?_
      refine lv_lconst (v := 1) hx hb dX2_findAhead_33 (by decide) ?_
      obtain ⟨c27, hk⟩ := ok_c hk
      obtain ⟨q25, e26, hk⟩ := ok_b hk
      refine zVv X w (n := 2) (As := [.long (0 : Int64), .long (1 : Int64)]) (rest := []) (ci := 1) (C := RX1) (T := TX1) (N := 2) (c_X1_put l D cy G M r5 (0 : Int64) (1 : Int64) e26) (gzV wm_X2_26 wi_X1_put ws_X1_put wn_X1 wc_X1_put) rfl rfl rfl (by decide +kernel) (by decide) rfl c27 rfl rfl hl.1 (Nat.le_of_ble_eq_true rfl) dX2_findAhead_34 ⟨Nat.zero_le _, Nat.zero_le _⟩ (fun H locs w => ?_)
      have hk := hR _ (ok_s hk)
      exact zrv X hr hlk w dX2_findAhead_37 hk
    · have hk := ok_n c24 hk
      refine lv_lconst (v := 1) hx hb dX2_findAhead_28 (by decide) ?_
      refine lv_goto (tgt := 33) hx hb dX2_findAhead_29 (by decide) ?_
      refine lv_lconst (v := 1) hx hb dX2_findAhead_33 (by decide) ?_
      obtain ⟨c30, hk⟩ := ok_c hk
      obtain ⟨q28, e29, hk⟩ := ok_b hk
      refine zVv X w (n := 2) (As := [.long (1 : Int64), .long (1 : Int64)]) (rest := []) (ci := 1) (C := RX1) (T := TX1) (N := 2) (c_X1_put l D cy G M r5 (1 : Int64) (1 : Int64) e29) (gzV wm_X2_26 wi_X1_put ws_X1_put wn_X1 wc_X1_put) rfl rfl rfl (by decide +kernel) (by decide) rfl c30 rfl rfl hl.1 (Nat.le_of_ble_eq_true rfl) dX2_findAhead_34 ⟨Nat.zero_le _, Nat.zero_le _⟩ (fun H locs w => ?_)
      have hk := hR _ (ok_s hk)
      exact zrv X hr hlk w dX2_findAhead_37 hk
abbrev rm_X3_fillShares : Room := { frames := 4, cells := 0, slots := 0, locals := 91 }
set_option maxHeartbeats 4000000 in
set_option maxRecDepth 100000 in
theorem wj_X3_fillShares_81 {p : Program} {l : Launch} {e : Env} {s : State} {m : MethodId} {args : Array Value} {below : List Frame} {meth : Method} {c : Code} {D : va_G} {cy : Cyy} {A : Nat → Prop} {G : Gg} (X : Cx p m c cX3_fillShares 5 s args wz_X3_fillShares RX3 D cy) {Q : State → Prop} (r0 : Nat) (r1 : Nat) (i2 : Int32) (i3 : Int32) (Qo : Mm → Prop)  (hE : ∀ (y : Mm), Qo (y) → ∀ (H : Heap) (locs : List Loc) (ls : Array Slot), Wo s D cy A G y H locs → lv_has ls 5 [] → W p l e rm_X3_fillShares s m args below meth c H locs 0 0 Q (F0 m 103 ls [])) (rec : Int32 → Mm → Option (Mm)) (hrec : ∀ (i4 : Int32) (M : Mm) (H : Heap) (locs : List Loc) (ls : Array Slot), Wo s D cy A G M H locs → lv_has ls 5 [(0, .ref r0), (1, .ref r1), (2, .int i2), (3, .int i3), (4, .int i4)] → OK (rec i4 M) Qo → W p l e rm_X3_fillShares s m args below meth c H locs 0 0 Q (F0 m 27 ls [])) (i4 : Int32)  (M : Mm) (H : Heap) (locs : List Loc) (ls : Array Slot) (w : Wo s D cy A G M H locs) (hl : lv_has ls 5 [(0, .ref r0), (1, .ref r1), (2, .int i2), (3, .int i3), (4, .int i4)]) (hk : OK (jn_X3_fillShares_81 G M rec r0 r1 i2 i3 i4) Qo) : W p l e rm_X3_fillShares s m args below meth c H locs 0 0 Q (F0 m 81 ls []) := by
    have hx := X.1.1
    have hb := X.1.2.1
    unfold jn_X3_fillShares_81 at hk
    refine lv_aload_n hx hb dX3_fillShares_81 rfl (lv_at hl 1 rfl) ?_
    refine lv_dup hx hb dX3_fillShares_82 rfl ?_
    obtain ⟨c14, hk⟩ := ok_c hk
    refine zgNl X w 0 6 57 "BlendBench" (C := RX0) (T := TX0) (N := 7) rfl ui_X0 (by decide) rfl (by decide +kernel) dX3_fillShares_83 c14 ?_
    refine lv_aload_n hx hb dX3_fillShares_86 rfl (lv_at hl 1 rfl) ?_
    obtain ⟨r15, e16, hk⟩ := ok_b hk
    refine zgNr X w 0 5 61 "BlendBench" (C := RX0) (T := TX0) (N := 7) rfl ui_X0 (by decide) rfl (by decide +kernel) dX3_fillShares_87 c14 e16 ?_
    refine lv_iload hx hb dX3_fillShares_90 (lv_at hl 4 rfl) ?_
    obtain ⟨c17, hk⟩ := ok_c hk
    obtain ⟨c18, hk⟩ := ok_c hk
    refine zal X w dX3_fillShares_92 c17 c18 ?_
    refine lv_ladd hx hb dX3_fillShares_93 ?_
    refine zpNl X w 0 6 57 "BlendBench" tyX0 (C := RX0) (T := TX0) (N := 7) rfl ui_X0 tyX0_ok nmX0 (by decide) rfl (by decide +kernel) rfl rfl dX3_fillShares_94 c14 (fun H locs w => ?_)
    refine lv_iinc (v := (i4 + 1)) (lv' := [(4, .int (i4 + 1)), (0, .ref r0), (1, .ref r1), (2, .int i2), (3, .int i3)]) hx hb dX3_fillShares_97 hl (k := 4) rfl rfl (by decide) rfl (fun ls hl => ?_)
    refine lv_goto (tgt := 27) hx hb dX3_fillShares_100 (by decide) ?_
    exact hrec (i4 + 1) (mwJ M r1 6 ((M.2.1 r1 6) + (M.2.1 r15 (Int32.toNatClampNeg i4)))) _ _ _ w (lv_sub hl [1, 2, 3, 4, 0] rfl) hk
set_option maxHeartbeats 4000000 in
set_option maxRecDepth 100000 in
theorem wb_X3_fillShares_27 {p : Program} {l : Launch} {e : Env} {s : State} {m : MethodId} {args : Array Value} {below : List Frame} {meth : Method} {c : Code} {D : va_G} {cy : Cyy} {A : Nat → Prop} {G : Gg} (X : Cx p m c cX3_fillShares 5 s args wz_X3_fillShares RX3 D cy) {Q : State → Prop} (r0 : Nat) (r1 : Nat) (i2 : Int32) (i3 : Int32) (Qo : Mm → Prop)  (hE : ∀ (y : Mm), Qo (y) → ∀ (H : Heap) (locs : List Loc) (ls : Array Slot), Wo s D cy A G y H locs → lv_has ls 5 [] → W p l e rm_X3_fillShares s m args below meth c H locs 0 0 Q (F0 m 103 ls [])) (rec : Int32 → Mm → Option (Mm)) (hrec : ∀ (i4 : Int32) (M : Mm) (H : Heap) (locs : List Loc) (ls : Array Slot), Wo s D cy A G M H locs → lv_has ls 5 [(0, .ref r0), (1, .ref r1), (2, .int i2), (3, .int i3), (4, .int i4)] → OK (rec i4 M) Qo → W p l e rm_X3_fillShares s m args below meth c H locs 0 0 Q (F0 m 27 ls [])) (i4 : Int32) (M : Mm) (H : Heap) (locs : List Loc) (ls : Array Slot) (w : Wo s D cy A G M H locs) (hl : lv_has ls 5 [(0, .ref r0), (1, .ref r1), (2, .int i2), (3, .int i3), (4, .int i4)]) (hk : OK (bd_X3_fillShares_27 G r0 r1 i2 i3 rec i4 M) Qo) : W p l e rm_X3_fillShares s m args below meth c H locs 0 0 Q (F0 m 27 ls []) := by
    have hx := X.1.1
    have hb := X.1.2.1
    unfold bd_X3_fillShares_27 at hk
    refine lv_iload hx hb dX3_fillShares_27 (lv_at hl 4 rfl) ?_
    refine lv_aload_n hx hb dX3_fillShares_29 rfl (lv_at hl 1 rfl) ?_
    obtain ⟨c7, hk⟩ := ok_c hk
    refine zgNi X w 0 0 22 "BlendBench" (C := RX0) (T := TX0) (N := 7) rfl ui_X0 (by decide) rfl (by decide +kernel) dX3_fillShares_30 c7 ?_
    refine lv_icmp_ge (tgt := 103) hx hb dX3_fillShares_33 (by decide) (fun c8 => ?_) (fun c8 => ?_)
    · have hk := ok_p c8 hk
      exact hE M (ok_s hk) _ _ _ w (lv_sub hl [] rfl)
    · have hk := ok_n c8 hk
      refine lv_aload_n hx hb dX3_fillShares_36 rfl (lv_at hl 1 rfl) ?_
      obtain ⟨r9, e10, hk⟩ := ok_b hk
      refine zgNr X w 0 5 61 "BlendBench" (C := RX0) (T := TX0) (N := 7) rfl ui_X0 (by decide) rfl (by decide +kernel) dX3_fillShares_37 c7 e10 ?_
      refine lv_iload hx hb dX3_fillShares_40 (lv_at hl 4 rfl) ?_
      refine lv_lconst (v := 0) hx hb dX3_fillShares_42 (by decide) ?_
      obtain ⟨c11, hk⟩ := ok_c hk
      obtain ⟨c12, hk⟩ := ok_c hk
      refine zsl X w dX3_fillShares_43 c11 c12 (fun H locs w => ?_)
      refine lv_iload_n hx hb dX3_fillShares_44 rfl (lv_at hl 2 rfl) ?_
      refine lv_if_eq (tgt := 81) hx hb dX3_fillShares_45 (by decide) (fun c13 => ?_) (fun c13 => ?_)
      · have hk := ok_p c13 hk
        exact wj_X3_fillShares_81 X r0 r1 i2 i3 Qo hE rec hrec i4 (mwJ M r9 (Int32.toNatClampNeg i4) (0 : Int64)) _ _ _ w (lv_sub hl [0, 1, 2, 3, 4] rfl) hk
      · have hk := ok_n c13 hk
        refine lv_iload_n hx hb dX3_fillShares_48 rfl (lv_at hl 3 rfl) ?_
        refine lv_iload hx hb dX3_fillShares_49 (lv_at hl 4 rfl) ?_
        obtain ⟨q19, e20, hk⟩ := ok_b hk
        refine zNi X w (n := 2) (As := [.int i3, .int i4]) (rest := []) (host := "BlendBench") (c_X8_has l D cy G (mwJ M r9 (Int32.toNatClampNeg i4) (0 : Int64)) i3 i4 e20) (gzN wc_X8_has) rfl rfl rfl (by decide +kernel) (tb wn_X8) (tb wt_X8_has) (by decide +kernel) (by decide) rfl rfl hl.1 (Nat.le_of_ble_eq_true rfl) dX3_fillShares_51 ⟨Nat.zero_le _, Nat.zero_le _⟩ (fun H locs w => ?_)
        refine lv_if_eq (tgt := 81) hx hb dX3_fillShares_54 (by decide) (fun c21 => ?_) (fun c21 => ?_)
        · have hk := ok_p c21 hk
          exact wj_X3_fillShares_81 X r0 r1 i2 i3 Qo hE rec hrec i4 (mwJ M r9 (Int32.toNatClampNeg i4) (0 : Int64)) _ _ _ w (lv_sub hl [0, 1, 2, 3, 4] rfl) hk
        · have hk := ok_n c21 hk
          refine lv_aload_n hx hb dX3_fillShares_57 rfl (lv_at hl 0 rfl) ?_
          refine lv_aload_n hx hb dX3_fillShares_58 rfl (lv_at hl 1 rfl) ?_
          refine lv_iload_n hx hb dX3_fillShares_59 rfl (lv_at hl 3 rfl) ?_
          refine lv_iconst (v := 1) hx hb dX3_fillShares_60 (by decide) ?_
          refine lv_iload hx hb dX3_fillShares_61 (lv_at hl 4 rfl) ?_
          refine lv_ishl hx hb dX3_fillShares_63 ?_
          refine lv_iconst (v := (-1)) hx hb dX3_fillShares_64 (by decide) ?_
          refine lv_ixor hx hb dX3_fillShares_65 ?_
          refine lv_iand hx hb dX3_fillShares_66 ?_
          obtain ⟨c24, hk⟩ := ok_c hk
          obtain ⟨q22, e23, hk⟩ := ok_b hk
          refine zVv X w (n := 2) (As := [.ref r1, .int (i3 &&& (((1 : Int32) <<< (i4 &&& 31)) ^^^ (-1)))]) (rest := []) (ci := 3) (C := RX3) (T := TX3) (N := 3) (c_X3_load l D cy G (mwJ M r9 (Int32.toNatClampNeg i4) (0 : Int64)) r0 r1 (i3 &&& (((1 : Int32) <<< (i4 &&& 31)) ^^^ (-1))) e23) (gzV wm_X3_64 wi_X3_load ws_X3_load wn_X3 wc_X3_load) rfl rfl rfl (by decide +kernel) (by decide) rfl c24 rfl rfl hl.1 (Nat.le_of_ble_eq_true rfl) dX3_fillShares_67 ⟨Nat.zero_le _, Nat.zero_le _⟩ (fun H locs w => ?_)
          refine lv_aload_n hx hb dX3_fillShares_70 rfl (lv_at hl 1 rfl) ?_
          obtain ⟨r25, e26, hk⟩ := ok_b hk
          refine zgNr X w 0 5 61 "BlendBench" (C := RX0) (T := TX0) (N := 7) rfl ui_X0 (by decide) rfl (by decide +kernel) dX3_fillShares_71 c7 e26 ?_
          refine lv_iload hx hb dX3_fillShares_74 (lv_at hl 4 rfl) ?_
          refine lv_aload_n hx hb dX3_fillShares_76 rfl (lv_at hl 0 rfl) ?_
          obtain ⟨q27, e28, hk⟩ := ok_b hk
          refine zVl X w (n := 0) (As := []) (rest := [.int i4, .ref r25]) (ci := 3) (C := RX3) (T := TX3) (N := 3) (c_X3_determinant l D cy G q22 r0 e28) (gzV wm_X3_68 wi_X3_determinant ws_X3_determinant wn_X3 wc_X3_determinant) rfl rfl rfl (by decide +kernel) (by decide) rfl c24 rfl rfl hl.1 (Nat.le_of_ble_eq_true rfl) dX3_fillShares_77 ⟨Nat.zero_le _, Nat.zero_le _⟩ (fun H locs w => ?_)
          obtain ⟨c29, hk⟩ := ok_c hk
          obtain ⟨c30, hk⟩ := ok_c hk
          refine zsl X w dX3_fillShares_80 c29 c30 (fun H locs w => ?_)
          exact wj_X3_fillShares_81 X r0 r1 i2 i3 Qo hE rec hrec i4 (mwJ q27.2 r25 (Int32.toNatClampNeg i4) q27.1) _ _ _ w (lv_sub hl [0, 1, 2, 3, 4] rfl) hk
theorem wl_X3_fillShares_27 {p : Program} {l : Launch} {e : Env} {s : State} {m : MethodId} {args : Array Value} {below : List Frame} {meth : Method} {c : Code} {D : va_G} {cy : Cyy} {A : Nat → Prop} {G : Gg} (X : Cx p m c cX3_fillShares 5 s args wz_X3_fillShares RX3 D cy) {Q : State → Prop} (r0 : Nat) (r1 : Nat) (i2 : Int32) (i3 : Int32) (Qo : Mm → Prop)  (hE : ∀ (y : Mm), Qo (y) → ∀ (H : Heap) (locs : List Loc) (ls : Array Slot), Wo s D cy A G y H locs → lv_has ls 5 [] → W p l e rm_X3_fillShares s m args below meth c H locs 0 0 Q (F0 m 103 ls [])) : ∀ (n : Nat) (i4 : Int32) (M : Mm) (H : Heap) (locs : List Loc) (ls : Array Slot), Wo s D cy A G M H locs → lv_has ls 5 [(0, .ref r0), (1, .ref r1), (2, .int i2), (3, .int i3), (4, .int i4)] → OK (lp_X3_fillShares_27 G r0 r1 i2 i3 n i4 M) Qo → W p l e rm_X3_fillShares s m args below meth c H locs 0 0 Q (F0 m 27 ls []) := by
  intro n
  induction n with
  | zero => intro i4 M H locs ls w hl hk; exact ok_0 hk
  | succ n ih => intro i4 M H locs ls w hl hk; exact wb_X3_fillShares_27 X r0 r1 i2 i3 Qo hE  (lp_X3_fillShares_27 G r0 r1 i2 i3 n) ih i4 M H locs ls w hl hk
set_option maxHeartbeats 4000000 in
set_option maxRecDepth 100000 in
theorem c_X3_fillShares (l : Launch) (D : va_G) (cy : Cyy) (G : Gg) (M : Mm) (r0 : Nat) (r1 : Nat) {q : Mm} (hm : f_X3_fillShares G M r0 r1 = some q) : CV l yX3_fillShares wz_X3_fillShares rm_X3_fillShares D cy G M [.ref r0, .ref r1] q := by
  refine Met_of (Qf := fun A => QV D cy G A q) (cc := cX3_fillShares) (nL := 5) (ret := none) (own := RX3) (lv := [(0, .ref r0), (1, .ref r1)]) (by decide) rfl rfl (Nat.le_of_ble_eq_true rfl) rfl ?_
  intro p e s m args below meth c A ls X hr hlk w hl
  have hx := X.1.1
  have hb := X.1.2.1
  obtain ⟨Qo, hR, hk⟩ : ∃ Qo : Mm → Prop, (∀ x, Qo x → x = q) ∧ OK (f_X3_fillShares G M r0 r1) Qo := ⟨fun x => x = q, fun _ h => h, q, hm, rfl⟩
  unfold f_X3_fillShares at hk
  refine lv_aload_n hx hb dX3_fillShares_0 rfl (lv_at hl 1 rfl) ?_
  obtain ⟨c3, hk⟩ := ok_c hk
  obtain ⟨q1, e2, hk⟩ := ok_b hk
  refine zVi X w (n := 0) (As := []) (rest := []) (ci := 0) (C := RX0) (T := TX0) (N := 7) (c_X0_closedHeaps l D cy G M r1 e2) (gzV wm_X3_50 wi_X0_closedHeaps ws_X0_closedHeaps wn_X0 wc_X0_closedHeaps) rfl rfl rfl (by decide +kernel) (by decide) rfl c3 rfl rfl hl.1 (Nat.le_of_ble_eq_true rfl) dX3_fillShares_1 ⟨Nat.zero_le _, Nat.zero_le _⟩ (fun H locs w => ?_)
  refine lv_iconst (v := 1) hx hb dX3_fillShares_4 (by decide) ?_
  refine lv_icmp_ne (tgt := 12) hx hb dX3_fillShares_5 (by decide) (fun c4 => ?_) (fun c4 => ?_)
  · have hk := ok_n c4 hk
    refine lv_iconst (v := 0) hx hb dX3_fillShares_12 (by decide) ?_
    refine lv_istore_n (lv' := [(2, .int (0 : Int32)), (0, .ref r0), (1, .ref r1)]) hx hb dX3_fillShares_13 rfl hl (by decide) rfl (fun ls hl => ?_)
    refine lv_aload_n hx hb dX3_fillShares_14 rfl (lv_at hl 2 rfl) ?_
    obtain ⟨q5, e6, hk⟩ := ok_b hk
    refine zVi X w (n := 0) (As := []) (rest := []) (ci := 0) (C := RX0) (T := TX0) (N := 7) (c_X0_closedStates l D cy G M r1 e6) (gzV wm_X3_54 wi_X0_closedStates ws_X0_closedStates wn_X0 wc_X0_closedStates) rfl rfl rfl (by decide +kernel) (by decide) rfl c3 rfl rfl hl.1 (Nat.le_of_ble_eq_true rfl) dX3_fillShares_15 ⟨Nat.zero_le _, Nat.zero_le _⟩ (fun H locs w => ?_)
    refine lv_istore_n (lv' := [(3, .int q5), (2, .int (0 : Int32)), (0, .ref r0), (1, .ref r1)]) hx hb dX3_fillShares_18 rfl hl (by decide) rfl (fun ls hl => ?_)
    refine lv_aload_n hx hb dX3_fillShares_19 rfl (lv_at hl 3 rfl) ?_
    refine lv_lconst (v := 0) hx hb dX3_fillShares_20 (by decide) ?_
    refine zpNl X w 0 6 57 "BlendBench" tyX0 (C := RX0) (T := TX0) (N := 7) rfl ui_X0 tyX0_ok nmX0 (by decide) rfl (by decide +kernel) rfl rfl dX3_fillShares_21 c3 (fun H locs w => ?_)
    refine lv_iconst (v := 0) hx hb dX3_fillShares_24 (by decide) ?_
    refine lv_istore (lv' := [(4, .int (0 : Int32)), (3, .int q5), (2, .int (0 : Int32)), (0, .ref r0), (1, .ref r1)]) hx hb dX3_fillShares_25 hl (by decide) rfl (fun ls hl => ?_)
    refine wl_X3_fillShares_27 X r0 r1 (0 : Int32) q5 (Qo := _) (fun q31 hk H locs ls w hl => ?_) FU (0 : Int32) (mwJ M r1 6 (0 : Int64)) _ _ _ w (lv_sub hl [3, 4, 2, 1, 0] rfl) (ok_b hk)
    have hk := hR _ (ok_s hk)
    exact zrv X hr hlk w dX3_fillShares_103 hk
  · have hk := ok_p c4 hk
    refine lv_iconst (v := 1) hx hb dX3_fillShares_8 (by decide) ?_
    refine lv_goto (tgt := 13) hx hb dX3_fillShares_9 (by decide) ?_
    refine lv_istore_n (lv' := [(2, .int (1 : Int32)), (0, .ref r0), (1, .ref r1)]) hx hb dX3_fillShares_13 rfl hl (by decide) rfl (fun ls hl => ?_)
    refine lv_aload_n hx hb dX3_fillShares_14 rfl (lv_at hl 2 rfl) ?_
    obtain ⟨q32, e33, hk⟩ := ok_b hk
    refine zVi X w (n := 0) (As := []) (rest := []) (ci := 0) (C := RX0) (T := TX0) (N := 7) (c_X0_closedStates l D cy G M r1 e33) (gzV wm_X3_54 wi_X0_closedStates ws_X0_closedStates wn_X0 wc_X0_closedStates) rfl rfl rfl (by decide +kernel) (by decide) rfl c3 rfl rfl hl.1 (Nat.le_of_ble_eq_true rfl) dX3_fillShares_15 ⟨Nat.zero_le _, Nat.zero_le _⟩ (fun H locs w => ?_)
    refine lv_istore_n (lv' := [(3, .int q32), (2, .int (1 : Int32)), (0, .ref r0), (1, .ref r1)]) hx hb dX3_fillShares_18 rfl hl (by decide) rfl (fun ls hl => ?_)
    refine lv_aload_n hx hb dX3_fillShares_19 rfl (lv_at hl 3 rfl) ?_
    refine lv_lconst (v := 0) hx hb dX3_fillShares_20 (by decide) ?_
    refine zpNl X w 0 6 57 "BlendBench" tyX0 (C := RX0) (T := TX0) (N := 7) rfl ui_X0 tyX0_ok nmX0 (by decide) rfl (by decide +kernel) rfl rfl dX3_fillShares_21 c3 (fun H locs w => ?_)
    refine lv_iconst (v := 0) hx hb dX3_fillShares_24 (by decide) ?_
    refine lv_istore (lv' := [(4, .int (0 : Int32)), (3, .int q32), (2, .int (1 : Int32)), (0, .ref r0), (1, .ref r1)]) hx hb dX3_fillShares_25 hl (by decide) rfl (fun ls hl => ?_)
    refine wl_X3_fillShares_27 X r0 r1 (1 : Int32) q32 (Qo := _) (fun q34 hk H locs ls w hl => ?_) FU (0 : Int32) (mwJ M r1 6 (0 : Int64)) _ _ _ w (lv_sub hl [3, 4, 2, 1, 0] rfl) (ok_b hk)
    have hk := hR _ (ok_s hk)
    exact zrv X hr hlk w dX3_fillShares_103 hk
