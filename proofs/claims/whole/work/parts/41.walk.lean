abbrev rm_X0_traceLeads : Room := { frames := 2, cells := 0, slots := 0, locals := 43 }
set_option maxHeartbeats 4000000 in
set_option maxRecDepth 100000 in
theorem wb_X0_traceLeads_19 {p : Program} {l : Launch} {e : Env} {s : State} {m : MethodId} {args : Array Value} {below : List Frame} {meth : Method} {c : Code} {D : va_G} {cy : Cyy} {A : Nat → Prop} {G : Gg} (X : Cx p m c cX0_traceLeads 3 s args wz_X0_traceLeads RX0 D cy) {Q : State → Prop} (r0 : Nat) (i1 : Int32) (Qo : Mm → Prop)  (hE : ∀ (y : Mm), Qo (y) → ∀ (H : Heap) (locs : List Loc) (ls : Array Slot), Wo s D cy A G y H locs → lv_has ls 3 [(0, .ref r0), (1, .int i1)] → W p l e rm_X0_traceLeads s m args below meth c H locs 0 0 Q (F0 m 58 ls [])) (rec : Int32 → Mm → Option (Mm)) (hrec : ∀ (i2 : Int32) (M : Mm) (H : Heap) (locs : List Loc) (ls : Array Slot), Wo s D cy A G M H locs → lv_has ls 3 [(0, .ref r0), (1, .int i1), (2, .int i2)] → OK (rec i2 M) Qo → W p l e rm_X0_traceLeads s m args below meth c H locs 0 0 Q (F0 m 19 ls [])) (i2 : Int32) (M : Mm) (H : Heap) (locs : List Loc) (ls : Array Slot) (w : Wo s D cy A G M H locs) (hl : lv_has ls 3 [(0, .ref r0), (1, .int i1), (2, .int i2)]) (hk : OK (bd_X0_traceLeads_19 G r0 i1 rec i2 M) Qo) : W p l e rm_X0_traceLeads s m args below meth c H locs 0 0 Q (F0 m 19 ls []) := by
    have hx := X.1.1
    have hb := X.1.2.1
    unfold bd_X0_traceLeads_19 at hk
    refine lv_iload_n hx hb dX0_traceLeads_19 rfl (lv_at hl 2 rfl) ?_
    refine lv_aload_n hx hb dX0_traceLeads_20 rfl (lv_at hl 0 rfl) ?_
    obtain ⟨c7, hk⟩ := ok_c hk
    refine zgi X w 0 0 9 (C := RX0) (T := TX0) (N := 7) rfl ui_X0 (by decide) rfl (tb wf_X0_9) dX0_traceLeads_21 c7 ?_
    refine lv_icmp_ge (tgt := 58) hx hb dX0_traceLeads_24 (by decide) (fun c8 => ?_) (fun c8 => ?_)
    · have hk := ok_p c8 hk
      exact hE M (ok_s hk) _ _ _ w (lv_sub hl [0, 1] rfl)
    · have hk := ok_n c8 hk
      refine lv_aload_n hx hb dX0_traceLeads_27 rfl (lv_at hl 0 rfl) ?_
      obtain ⟨r9, e10, hk⟩ := ok_b hk
      refine zgr X w 0 3 22 (C := RX0) (T := TX0) (N := 7) rfl ui_X0 (by decide) rfl (tb wf_X0_22) dX0_traceLeads_28 c7 e10 ?_
      refine lv_iload_n hx hb dX0_traceLeads_31 rfl (lv_at hl 1 rfl) ?_
      refine lv_dup2_11 hx hb dX0_traceLeads_32 rfl rfl ?_
      obtain ⟨c11, hk⟩ := ok_c hk
      obtain ⟨c12, hk⟩ := ok_c hk
      refine zai X w dX0_traceLeads_33 c11 c12 ?_
      refine lv_aload_n hx hb dX0_traceLeads_34 rfl (lv_at hl 0 rfl) ?_
      refine lv_iload_n hx hb dX0_traceLeads_35 rfl (lv_at hl 1 rfl) ?_
      refine lv_iload_n hx hb dX0_traceLeads_36 rfl (lv_at hl 2 rfl) ?_
      obtain ⟨q13, e14, hk⟩ := ok_b hk
      refine zVi X w (n := 2) (As := [.int i1, .int i2]) (rest := [.int (M.1 r9 (Int32.toNatClampNeg i1)), .int i1, .ref r9]) (ci := 0) (C := RX0) (T := TX0) (N := 7) (c_X0_at l D cy G M r0 i1 i2 e14) (gzV wm_X0_69 wi_X0_at ws_X0_at wn_X0 wc_X0_at) rfl rfl rfl (by decide +kernel) (by decide) rfl c7 rfl rfl hl.1 (Nat.le_of_ble_eq_true rfl) dX0_traceLeads_37 ⟨Nat.zero_le _, Nat.zero_le _⟩ (fun H locs w => ?_)
      refine lv_if_le (tgt := 49) hx hb dX0_traceLeads_40 (by decide) (fun c15 => ?_) (fun c15 => ?_)
      · have hk := ok_p c15 hk
        refine lv_iconst (v := 0) hx hb dX0_traceLeads_49 (by decide) ?_
        refine lv_ior hx hb dX0_traceLeads_50 ?_
        refine zsi X w dX0_traceLeads_51 c11 c12 (fun H locs w => ?_)
        refine lv_iinc (v := (i2 + 1)) (lv' := [(2, .int (i2 + 1)), (0, .ref r0), (1, .int i1)]) hx hb dX0_traceLeads_52 hl (k := 2) rfl rfl (by decide) rfl (fun ls hl => ?_)
        refine lv_goto (tgt := 19) hx hb dX0_traceLeads_55 (by decide) ?_
        exact hrec (i2 + 1) (mwI M r9 (Int32.toNatClampNeg i1) ((M.1 r9 (Int32.toNatClampNeg i1)) ||| (0 : Int32))) _ _ _ w (lv_sub hl [1, 2, 0] rfl) hk
      · have hk := ok_n c15 hk
        refine lv_iconst (v := 1) hx hb dX0_traceLeads_43 (by decide) ?_
        refine lv_iload_n hx hb dX0_traceLeads_44 rfl (lv_at hl 2 rfl) ?_
        refine lv_ishl hx hb dX0_traceLeads_45 ?_
        refine lv_goto (tgt := 50) hx hb dX0_traceLeads_46 (by decide) ?_
        refine lv_ior hx hb dX0_traceLeads_50 ?_
        refine zsi X w dX0_traceLeads_51 c11 c12 (fun H locs w => ?_)
        refine lv_iinc (v := (i2 + 1)) (lv' := [(2, .int (i2 + 1)), (0, .ref r0), (1, .int i1)]) hx hb dX0_traceLeads_52 hl (k := 2) rfl rfl (by decide) rfl (fun ls hl => ?_)
        refine lv_goto (tgt := 19) hx hb dX0_traceLeads_55 (by decide) ?_
        exact hrec (i2 + 1) (mwI M r9 (Int32.toNatClampNeg i1) ((M.1 r9 (Int32.toNatClampNeg i1)) ||| ((1 : Int32) <<< (i2 &&& 31)))) _ _ _ w (lv_sub hl [1, 2, 0] rfl) hk
theorem wl_X0_traceLeads_19 {p : Program} {l : Launch} {e : Env} {s : State} {m : MethodId} {args : Array Value} {below : List Frame} {meth : Method} {c : Code} {D : va_G} {cy : Cyy} {A : Nat → Prop} {G : Gg} (X : Cx p m c cX0_traceLeads 3 s args wz_X0_traceLeads RX0 D cy) {Q : State → Prop} (r0 : Nat) (i1 : Int32) (Qo : Mm → Prop)  (hE : ∀ (y : Mm), Qo (y) → ∀ (H : Heap) (locs : List Loc) (ls : Array Slot), Wo s D cy A G y H locs → lv_has ls 3 [(0, .ref r0), (1, .int i1)] → W p l e rm_X0_traceLeads s m args below meth c H locs 0 0 Q (F0 m 58 ls [])) : ∀ (n : Nat) (i2 : Int32) (M : Mm) (H : Heap) (locs : List Loc) (ls : Array Slot), Wo s D cy A G M H locs → lv_has ls 3 [(0, .ref r0), (1, .int i1), (2, .int i2)] → OK (lp_X0_traceLeads_19 G r0 i1 n i2 M) Qo → W p l e rm_X0_traceLeads s m args below meth c H locs 0 0 Q (F0 m 19 ls []) := by
  intro n
  induction n with
  | zero => intro i2 M H locs ls w hl hk; exact ok_0 hk
  | succ n ih => intro i2 M H locs ls w hl hk; exact wb_X0_traceLeads_19 X r0 i1 Qo hE  (lp_X0_traceLeads_19 G r0 i1 n) ih i2 M H locs ls w hl hk
set_option maxHeartbeats 4000000 in
set_option maxRecDepth 100000 in
theorem wb_X0_traceLeads_2 {p : Program} {l : Launch} {e : Env} {s : State} {m : MethodId} {args : Array Value} {below : List Frame} {meth : Method} {c : Code} {D : va_G} {cy : Cyy} {A : Nat → Prop} {G : Gg} (X : Cx p m c cX0_traceLeads 3 s args wz_X0_traceLeads RX0 D cy) {Q : State → Prop} (r0 : Nat) (Qo : Mm → Prop)  (hE : ∀ (y : Mm), Qo (y) → ∀ (H : Heap) (locs : List Loc) (ls : Array Slot), Wo s D cy A G y H locs → lv_has ls 3 [(0, .ref r0)] → W p l e rm_X0_traceLeads s m args below meth c H locs 0 0 Q (F0 m 80 ls [])) (rec : Int32 → Mm → Option (Mm)) (hrec : ∀ (i1 : Int32) (M : Mm) (H : Heap) (locs : List Loc) (ls : Array Slot), Wo s D cy A G M H locs → lv_has ls 3 [(0, .ref r0), (1, .int i1)] → OK (rec i1 M) Qo → W p l e rm_X0_traceLeads s m args below meth c H locs 0 0 Q (F0 m 2 ls [])) (i1 : Int32) (M : Mm) (H : Heap) (locs : List Loc) (ls : Array Slot) (w : Wo s D cy A G M H locs) (hl : lv_has ls 3 [(0, .ref r0), (1, .int i1)]) (hk : OK (bd_X0_traceLeads_2 G r0 rec i1 M) Qo) : W p l e rm_X0_traceLeads s m args below meth c H locs 0 0 Q (F0 m 2 ls []) := by
    have hx := X.1.1
    have hb := X.1.2.1
    unfold bd_X0_traceLeads_2 at hk
    refine lv_iload_n hx hb dX0_traceLeads_2 rfl (lv_at hl 1 rfl) ?_
    refine lv_aload_n hx hb dX0_traceLeads_3 rfl (lv_at hl 0 rfl) ?_
    obtain ⟨c1, hk⟩ := ok_c hk
    refine zgi X w 0 0 9 (C := RX0) (T := TX0) (N := 7) rfl ui_X0 (by decide) rfl (tb wf_X0_9) dX0_traceLeads_4 c1 ?_
    refine lv_icmp_ge (tgt := 80) hx hb dX0_traceLeads_7 (by decide) (fun c2 => ?_) (fun c2 => ?_)
    · have hk := ok_p c2 hk
      exact hE M (ok_s hk) _ _ _ w (lv_sub hl [0] rfl)
    · have hk := ok_n c2 hk
      refine lv_aload_n hx hb dX0_traceLeads_10 rfl (lv_at hl 0 rfl) ?_
      obtain ⟨r3, e4, hk⟩ := ok_b hk
      refine zgr X w 0 3 22 (C := RX0) (T := TX0) (N := 7) rfl ui_X0 (by decide) rfl (tb wf_X0_22) dX0_traceLeads_11 c1 e4 ?_
      refine lv_iload_n hx hb dX0_traceLeads_14 rfl (lv_at hl 1 rfl) ?_
      refine lv_iconst (v := 0) hx hb dX0_traceLeads_15 (by decide) ?_
      obtain ⟨c5, hk⟩ := ok_c hk
      obtain ⟨c6, hk⟩ := ok_c hk
      refine zsi X w dX0_traceLeads_16 c5 c6 (fun H locs w => ?_)
      refine lv_iconst (v := 0) hx hb dX0_traceLeads_17 (by decide) ?_
      refine lv_istore_n (lv' := [(2, .int (0 : Int32)), (0, .ref r0), (1, .int i1)]) hx hb dX0_traceLeads_18 rfl hl (by decide) rfl (fun ls hl => ?_)
      refine wl_X0_traceLeads_19 X r0 i1 (Qo := _) (fun q16 hk H locs ls w hl => ?_) FU (0 : Int32) (mwI M r3 (Int32.toNatClampNeg i1) (0 : Int32)) _ _ _ w (lv_sub hl [1, 2, 0] rfl) (ok_b hk)
      refine lv_aload_n hx hb dX0_traceLeads_58 rfl (lv_at hl 0 rfl) ?_
      obtain ⟨r17, e18, hk⟩ := ok_b hk
      refine zgr X w 0 4 25 (C := RX0) (T := TX0) (N := 7) rfl ui_X0 (by decide) rfl (tb wf_X0_25) dX0_traceLeads_59 c1 e18 ?_
      refine lv_iload_n hx hb dX0_traceLeads_62 rfl (lv_at hl 1 rfl) ?_
      refine lv_aload_n hx hb dX0_traceLeads_63 rfl (lv_at hl 0 rfl) ?_
      obtain ⟨r19, e20, hk⟩ := ok_b hk
      refine zgr X w 0 3 22 (C := RX0) (T := TX0) (N := 7) rfl ui_X0 (by decide) rfl (tb wf_X0_22) dX0_traceLeads_64 c1 e20 ?_
      refine lv_iload_n hx hb dX0_traceLeads_67 rfl (lv_at hl 1 rfl) ?_
      obtain ⟨c21, hk⟩ := ok_c hk
      obtain ⟨c22, hk⟩ := ok_c hk
      refine zai X w dX0_traceLeads_68 c21 c22 ?_
      refine lv_iconst (v := 1) hx hb dX0_traceLeads_69 (by decide) ?_
      refine lv_iload_n hx hb dX0_traceLeads_70 rfl (lv_at hl 1 rfl) ?_
      refine lv_ishl hx hb dX0_traceLeads_71 ?_
      refine lv_ior hx hb dX0_traceLeads_72 ?_
      obtain ⟨c23, hk⟩ := ok_c hk
      obtain ⟨c24, hk⟩ := ok_c hk
      refine zsi X w dX0_traceLeads_73 c23 c24 (fun H locs w => ?_)
      refine lv_iinc (v := (i1 + 1)) (lv' := [(1, .int (i1 + 1)), (0, .ref r0)]) hx hb dX0_traceLeads_74 hl (k := 1) rfl rfl (by decide) rfl (fun ls hl => ?_)
      refine lv_goto (tgt := 2) hx hb dX0_traceLeads_77 (by decide) ?_
      exact hrec (i1 + 1) (mwI q16 r17 (Int32.toNatClampNeg i1) ((q16.1 r19 (Int32.toNatClampNeg i1)) ||| ((1 : Int32) <<< (i1 &&& 31)))) _ _ _ w (lv_sub hl [1, 0] rfl) hk
theorem wl_X0_traceLeads_2 {p : Program} {l : Launch} {e : Env} {s : State} {m : MethodId} {args : Array Value} {below : List Frame} {meth : Method} {c : Code} {D : va_G} {cy : Cyy} {A : Nat → Prop} {G : Gg} (X : Cx p m c cX0_traceLeads 3 s args wz_X0_traceLeads RX0 D cy) {Q : State → Prop} (r0 : Nat) (Qo : Mm → Prop)  (hE : ∀ (y : Mm), Qo (y) → ∀ (H : Heap) (locs : List Loc) (ls : Array Slot), Wo s D cy A G y H locs → lv_has ls 3 [(0, .ref r0)] → W p l e rm_X0_traceLeads s m args below meth c H locs 0 0 Q (F0 m 80 ls [])) : ∀ (n : Nat) (i1 : Int32) (M : Mm) (H : Heap) (locs : List Loc) (ls : Array Slot), Wo s D cy A G M H locs → lv_has ls 3 [(0, .ref r0), (1, .int i1)] → OK (lp_X0_traceLeads_2 G r0 n i1 M) Qo → W p l e rm_X0_traceLeads s m args below meth c H locs 0 0 Q (F0 m 2 ls []) := by
  intro n
  induction n with
  | zero => intro i1 M H locs ls w hl hk; exact ok_0 hk
  | succ n ih => intro i1 M H locs ls w hl hk; exact wb_X0_traceLeads_2 X r0 Qo hE  (lp_X0_traceLeads_2 G r0 n) ih i1 M H locs ls w hl hk
set_option maxHeartbeats 4000000 in
set_option maxRecDepth 100000 in
theorem wb_X0_traceLeads_92 {p : Program} {l : Launch} {e : Env} {s : State} {m : MethodId} {args : Array Value} {below : List Frame} {meth : Method} {c : Code} {D : va_G} {cy : Cyy} {A : Nat → Prop} {G : Gg} (X : Cx p m c cX0_traceLeads 3 s args wz_X0_traceLeads RX0 D cy) {Q : State → Prop} (r0 : Nat) (i1 : Int32) (Qo : Mm → Prop)  (hE : ∀ (y : Mm), Qo (y) → ∀ (H : Heap) (locs : List Loc) (ls : Array Slot), Wo s D cy A G y H locs → lv_has ls 3 [(0, .ref r0), (1, .int i1)] → W p l e rm_X0_traceLeads s m args below meth c H locs 0 0 Q (F0 m 138 ls [])) (rec : Int32 → Mm → Option (Mm)) (hrec : ∀ (i2 : Int32) (M : Mm) (H : Heap) (locs : List Loc) (ls : Array Slot), Wo s D cy A G M H locs → lv_has ls 3 [(0, .ref r0), (1, .int i1), (2, .int i2)] → OK (rec i2 M) Qo → W p l e rm_X0_traceLeads s m args below meth c H locs 0 0 Q (F0 m 92 ls [])) (i2 : Int32) (M : Mm) (H : Heap) (locs : List Loc) (ls : Array Slot) (w : Wo s D cy A G M H locs) (hl : lv_has ls 3 [(0, .ref r0), (1, .int i1), (2, .int i2)]) (hk : OK (bd_X0_traceLeads_92 G r0 i1 rec i2 M) Qo) : W p l e rm_X0_traceLeads s m args below meth c H locs 0 0 Q (F0 m 92 ls []) := by
    have hx := X.1.1
    have hb := X.1.2.1
    unfold bd_X0_traceLeads_92 at hk
    refine lv_iload_n hx hb dX0_traceLeads_92 rfl (lv_at hl 2 rfl) ?_
    refine lv_aload_n hx hb dX0_traceLeads_93 rfl (lv_at hl 0 rfl) ?_
    obtain ⟨c28, hk⟩ := ok_c hk
    refine zgi X w 0 0 9 (C := RX0) (T := TX0) (N := 7) rfl ui_X0 (by decide) rfl (tb wf_X0_9) dX0_traceLeads_94 c28 ?_
    refine lv_icmp_ge (tgt := 138) hx hb dX0_traceLeads_97 (by decide) (fun c29 => ?_) (fun c29 => ?_)
    · have hk := ok_p c29 hk
      exact hE M (ok_s hk) _ _ _ w (lv_sub hl [0, 1] rfl)
    · have hk := ok_n c29 hk
      refine lv_aload_n hx hb dX0_traceLeads_100 rfl (lv_at hl 0 rfl) ?_
      obtain ⟨r30, e31, hk⟩ := ok_b hk
      refine zgr X w 0 4 25 (C := RX0) (T := TX0) (N := 7) rfl ui_X0 (by decide) rfl (tb wf_X0_25) dX0_traceLeads_101 c28 e31 ?_
      refine lv_iload_n hx hb dX0_traceLeads_104 rfl (lv_at hl 2 rfl) ?_
      refine lv_dup2_11 hx hb dX0_traceLeads_105 rfl rfl ?_
      obtain ⟨c32, hk⟩ := ok_c hk
      obtain ⟨c33, hk⟩ := ok_c hk
      refine zai X w dX0_traceLeads_106 c32 c33 ?_
      refine lv_aload_n hx hb dX0_traceLeads_107 rfl (lv_at hl 0 rfl) ?_
      refine zgr X w 0 4 25 (C := RX0) (T := TX0) (N := 7) rfl ui_X0 (by decide) rfl (tb wf_X0_25) dX0_traceLeads_108 c28 e31 ?_
      refine lv_iload_n hx hb dX0_traceLeads_111 rfl (lv_at hl 2 rfl) ?_
      refine zai X w dX0_traceLeads_112 c32 c33 ?_
      refine lv_iload_n hx hb dX0_traceLeads_113 rfl (lv_at hl 1 rfl) ?_
      obtain ⟨q34, e35, hk⟩ := ok_b hk
      refine zNi X w (n := 2) (As := [.int (M.1 r30 (Int32.toNatClampNeg i2)), .int i1]) (rest := [.int (M.1 r30 (Int32.toNatClampNeg i2)), .int i2, .ref r30]) (host := "BlendBench") (c_X8_has l D cy G M (M.1 r30 (Int32.toNatClampNeg i2)) i1 e35) (gzN wc_X8_has) rfl rfl rfl (by decide +kernel) (tb wn_X8) (tb wt_X8_has) (by decide +kernel) (by decide) rfl rfl hl.1 (Nat.le_of_ble_eq_true rfl) dX0_traceLeads_114 ⟨Nat.zero_le _, Nat.zero_le _⟩ (fun H locs w => ?_)
      refine lv_if_eq (tgt := 129) hx hb dX0_traceLeads_117 (by decide) (fun c36 => ?_) (fun c36 => ?_)
      · have hk := ok_p c36 hk
        refine lv_iconst (v := 0) hx hb dX0_traceLeads_129 (by decide) ?_
        refine lv_ior hx hb dX0_traceLeads_130 ?_
        refine zsi X w dX0_traceLeads_131 c32 c33 (fun H locs w => ?_)
        refine lv_iinc (v := (i2 + 1)) (lv' := [(2, .int (i2 + 1)), (0, .ref r0), (1, .int i1)]) hx hb dX0_traceLeads_132 hl (k := 2) rfl rfl (by decide) rfl (fun ls hl => ?_)
        refine lv_goto (tgt := 92) hx hb dX0_traceLeads_135 (by decide) ?_
        exact hrec (i2 + 1) (mwI M r30 (Int32.toNatClampNeg i2) ((M.1 r30 (Int32.toNatClampNeg i2)) ||| (0 : Int32))) _ _ _ w (lv_sub hl [1, 2, 0] rfl) hk
      · have hk := ok_n c36 hk
        refine lv_aload_n hx hb dX0_traceLeads_120 rfl (lv_at hl 0 rfl) ?_
        refine zgr X w 0 4 25 (C := RX0) (T := TX0) (N := 7) rfl ui_X0 (by decide) rfl (tb wf_X0_25) dX0_traceLeads_121 c28 e31 ?_
        refine lv_iload_n hx hb dX0_traceLeads_124 rfl (lv_at hl 1 rfl) ?_
        obtain ⟨c37, hk⟩ := ok_c hk
        refine zai X w dX0_traceLeads_125 c32 c37 ?_
        refine lv_goto (tgt := 130) hx hb dX0_traceLeads_126 (by decide) ?_
        refine lv_ior hx hb dX0_traceLeads_130 ?_
        refine zsi X w dX0_traceLeads_131 c32 c33 (fun H locs w => ?_)
        refine lv_iinc (v := (i2 + 1)) (lv' := [(2, .int (i2 + 1)), (0, .ref r0), (1, .int i1)]) hx hb dX0_traceLeads_132 hl (k := 2) rfl rfl (by decide) rfl (fun ls hl => ?_)
        refine lv_goto (tgt := 92) hx hb dX0_traceLeads_135 (by decide) ?_
        exact hrec (i2 + 1) (mwI M r30 (Int32.toNatClampNeg i2) ((M.1 r30 (Int32.toNatClampNeg i2)) ||| (M.1 r30 (Int32.toNatClampNeg i1)))) _ _ _ w (lv_sub hl [1, 2, 0] rfl) hk
theorem wl_X0_traceLeads_92 {p : Program} {l : Launch} {e : Env} {s : State} {m : MethodId} {args : Array Value} {below : List Frame} {meth : Method} {c : Code} {D : va_G} {cy : Cyy} {A : Nat → Prop} {G : Gg} (X : Cx p m c cX0_traceLeads 3 s args wz_X0_traceLeads RX0 D cy) {Q : State → Prop} (r0 : Nat) (i1 : Int32) (Qo : Mm → Prop)  (hE : ∀ (y : Mm), Qo (y) → ∀ (H : Heap) (locs : List Loc) (ls : Array Slot), Wo s D cy A G y H locs → lv_has ls 3 [(0, .ref r0), (1, .int i1)] → W p l e rm_X0_traceLeads s m args below meth c H locs 0 0 Q (F0 m 138 ls [])) : ∀ (n : Nat) (i2 : Int32) (M : Mm) (H : Heap) (locs : List Loc) (ls : Array Slot), Wo s D cy A G M H locs → lv_has ls 3 [(0, .ref r0), (1, .int i1), (2, .int i2)] → OK (lp_X0_traceLeads_92 G r0 i1 n i2 M) Qo → W p l e rm_X0_traceLeads s m args below meth c H locs 0 0 Q (F0 m 92 ls []) := by
  intro n
  induction n with
  | zero => intro i2 M H locs ls w hl hk; exact ok_0 hk
  | succ n ih => intro i2 M H locs ls w hl hk; exact wb_X0_traceLeads_92 X r0 i1 Qo hE  (lp_X0_traceLeads_92 G r0 i1 n) ih i2 M H locs ls w hl hk
set_option maxHeartbeats 4000000 in
set_option maxRecDepth 100000 in
theorem wb_X0_traceLeads_82 {p : Program} {l : Launch} {e : Env} {s : State} {m : MethodId} {args : Array Value} {below : List Frame} {meth : Method} {c : Code} {D : va_G} {cy : Cyy} {A : Nat → Prop} {G : Gg} (X : Cx p m c cX0_traceLeads 3 s args wz_X0_traceLeads RX0 D cy) {Q : State → Prop} (r0 : Nat) (Qo : Mm → Prop)  (hE : ∀ (y : Mm), Qo (y) → ∀ (H : Heap) (locs : List Loc) (ls : Array Slot), Wo s D cy A G y H locs → lv_has ls 3 [] → W p l e rm_X0_traceLeads s m args below meth c H locs 0 0 Q (F0 m 144 ls [])) (rec : Int32 → Mm → Option (Mm)) (hrec : ∀ (i1 : Int32) (M : Mm) (H : Heap) (locs : List Loc) (ls : Array Slot), Wo s D cy A G M H locs → lv_has ls 3 [(0, .ref r0), (1, .int i1)] → OK (rec i1 M) Qo → W p l e rm_X0_traceLeads s m args below meth c H locs 0 0 Q (F0 m 82 ls [])) (i1 : Int32) (M : Mm) (H : Heap) (locs : List Loc) (ls : Array Slot) (w : Wo s D cy A G M H locs) (hl : lv_has ls 3 [(0, .ref r0), (1, .int i1)]) (hk : OK (bd_X0_traceLeads_82 G r0 rec i1 M) Qo) : W p l e rm_X0_traceLeads s m args below meth c H locs 0 0 Q (F0 m 82 ls []) := by
    have hx := X.1.1
    have hb := X.1.2.1
    unfold bd_X0_traceLeads_82 at hk
    refine lv_iload_n hx hb dX0_traceLeads_82 rfl (lv_at hl 1 rfl) ?_
    refine lv_aload_n hx hb dX0_traceLeads_83 rfl (lv_at hl 0 rfl) ?_
    obtain ⟨c26, hk⟩ := ok_c hk
    refine zgi X w 0 0 9 (C := RX0) (T := TX0) (N := 7) rfl ui_X0 (by decide) rfl (tb wf_X0_9) dX0_traceLeads_84 c26 ?_
    refine lv_icmp_ge (tgt := 144) hx hb dX0_traceLeads_87 (by decide) (fun c27 => ?_) (fun c27 => ?_)
    · have hk := ok_p c27 hk
      exact hE M (ok_s hk) _ _ _ w (lv_sub hl [] rfl)
    · have hk := ok_n c27 hk
      refine lv_iconst (v := 0) hx hb dX0_traceLeads_90 (by decide) ?_
      refine lv_istore_n (lv' := [(2, .int (0 : Int32)), (0, .ref r0), (1, .int i1)]) hx hb dX0_traceLeads_91 rfl hl (by decide) rfl (fun ls hl => ?_)
      refine wl_X0_traceLeads_92 X r0 i1 (Qo := _) (fun q38 hk H locs ls w hl => ?_) FU (0 : Int32) M _ _ _ w (lv_sub hl [1, 2, 0] rfl) (ok_b hk)
      refine lv_iinc (v := (i1 + 1)) (lv' := [(1, .int (i1 + 1)), (0, .ref r0)]) hx hb dX0_traceLeads_138 hl (k := 1) rfl rfl (by decide) rfl (fun ls hl => ?_)
      refine lv_goto (tgt := 82) hx hb dX0_traceLeads_141 (by decide) ?_
      exact hrec (i1 + 1) q38 _ _ _ w (lv_sub hl [1, 0] rfl) hk
theorem wl_X0_traceLeads_82 {p : Program} {l : Launch} {e : Env} {s : State} {m : MethodId} {args : Array Value} {below : List Frame} {meth : Method} {c : Code} {D : va_G} {cy : Cyy} {A : Nat → Prop} {G : Gg} (X : Cx p m c cX0_traceLeads 3 s args wz_X0_traceLeads RX0 D cy) {Q : State → Prop} (r0 : Nat) (Qo : Mm → Prop)  (hE : ∀ (y : Mm), Qo (y) → ∀ (H : Heap) (locs : List Loc) (ls : Array Slot), Wo s D cy A G y H locs → lv_has ls 3 [] → W p l e rm_X0_traceLeads s m args below meth c H locs 0 0 Q (F0 m 144 ls [])) : ∀ (n : Nat) (i1 : Int32) (M : Mm) (H : Heap) (locs : List Loc) (ls : Array Slot), Wo s D cy A G M H locs → lv_has ls 3 [(0, .ref r0), (1, .int i1)] → OK (lp_X0_traceLeads_82 G r0 n i1 M) Qo → W p l e rm_X0_traceLeads s m args below meth c H locs 0 0 Q (F0 m 82 ls []) := by
  intro n
  induction n with
  | zero => intro i1 M H locs ls w hl hk; exact ok_0 hk
  | succ n ih => intro i1 M H locs ls w hl hk; exact wb_X0_traceLeads_82 X r0 Qo hE  (lp_X0_traceLeads_82 G r0 n) ih i1 M H locs ls w hl hk
set_option maxHeartbeats 4000000 in
set_option maxRecDepth 100000 in
theorem c_X0_traceLeads (l : Launch) (D : va_G) (cy : Cyy) (G : Gg) (M : Mm) (r0 : Nat) {q : Mm} (hm : f_X0_traceLeads G M r0 = some q) : CV l yX0_traceLeads wz_X0_traceLeads rm_X0_traceLeads D cy G M [.ref r0] q := by
  refine Met_of (Qf := fun A => QV D cy G A q) (cc := cX0_traceLeads) (nL := 3) (ret := none) (own := RX0) (lv := [(0, .ref r0)]) (by decide) rfl rfl (Nat.le_of_ble_eq_true rfl) rfl ?_
  intro p e s m args below meth c A ls X hr hlk w hl
  have hx := X.1.1
  have hb := X.1.2.1
  obtain ⟨Qo, hR, hk⟩ : ∃ Qo : Mm → Prop, (∀ x, Qo x → x = q) ∧ OK (f_X0_traceLeads G M r0) Qo := ⟨fun x => x = q, fun _ h => h, q, hm, rfl⟩
  unfold f_X0_traceLeads at hk
  refine lv_iconst (v := 0) hx hb dX0_traceLeads_0 (by decide) ?_
  refine lv_istore_n (lv' := [(1, .int (0 : Int32)), (0, .ref r0)]) hx hb dX0_traceLeads_1 rfl hl (by decide) rfl (fun ls hl => ?_)
  refine wl_X0_traceLeads_2 X r0 (Qo := _) (fun q25 hk H locs ls w hl => ?_) FU (0 : Int32) M _ _ _ w (lv_sub hl [1, 0] rfl) (ok_b hk)
  refine lv_iconst (v := 0) hx hb dX0_traceLeads_80 (by decide) ?_
  refine lv_istore_n (lv' := [(1, .int (0 : Int32)), (0, .ref r0)]) hx hb dX0_traceLeads_81 rfl hl (by decide) rfl (fun ls hl => ?_)
  refine wl_X0_traceLeads_82 X r0 (Qo := _) (fun q39 hk H locs ls w hl => ?_) FU (0 : Int32) q25 _ _ _ w (lv_sub hl [1, 0] rfl) (ok_b hk)
  have hk := hR _ (ok_s hk)
  exact zrv X hr hlk w dX0_traceLeads_144 hk
abbrev rm_X0_settle : Room := { frames := 3, cells := 0, slots := 0, locals := 65 }
set_option maxHeartbeats 4000000 in
set_option maxRecDepth 100000 in
theorem wb_X0_settle_7 {p : Program} {l : Launch} {e : Env} {s : State} {m : MethodId} {args : Array Value} {below : List Frame} {meth : Method} {c : Code} {D : va_G} {cy : Cyy} {A : Nat → Prop} {G : Gg} (X : Cx p m c cX0_settle 3 s args wz_X0_settle RX0 D cy) {Q : State → Prop} (M : Mm) (r0 : Nat) (Qo : Int32 → Prop)  (hE : ∀ (y : Int32), Qo (y) → ∀ (H : Heap) (locs : List Loc) (ls : Array Slot), Wo s D cy A G M H locs → lv_has ls 3 [(0, .ref r0), (1, .int y)] → W p l e rm_X0_settle s m args below meth c H locs 0 0 Q (F0 m 33 ls [])) (rec : Int32 → Int32 → Option (Int32)) (hrec : ∀ (i1 : Int32) (i2 : Int32) (H : Heap) (locs : List Loc) (ls : Array Slot), Wo s D cy A G M H locs → lv_has ls 3 [(0, .ref r0), (1, .int i1), (2, .int i2)] → OK (rec i1 i2) Qo → W p l e rm_X0_settle s m args below meth c H locs 0 0 Q (F0 m 7 ls [])) (i1 : Int32) (i2 : Int32) (H : Heap) (locs : List Loc) (ls : Array Slot) (w : Wo s D cy A G M H locs) (hl : lv_has ls 3 [(0, .ref r0), (1, .int i1), (2, .int i2)]) (hk : OK (bd_X0_settle_7 G M r0 rec i1 i2) Qo) : W p l e rm_X0_settle s m args below meth c H locs 0 0 Q (F0 m 7 ls []) := by
    have hx := X.1.1
    have hb := X.1.2.1
    unfold bd_X0_settle_7 at hk
    refine lv_iload_n hx hb dX0_settle_7 rfl (lv_at hl 2 rfl) ?_
    refine lv_bipush (v := 64) hx hb dX0_settle_8 (by decide) ?_
    refine lv_icmp_ge (tgt := 33) hx hb dX0_settle_10 (by decide) (fun c2 => ?_) (fun c2 => ?_)
    · have hk := ok_p c2 hk
      exact hE i1 (ok_s hk) _ _ _ w (lv_sub hl [0, 1] rfl)
    · have hk := ok_n c2 hk
      refine lv_iload_n hx hb dX0_settle_13 rfl (lv_at hl 1 rfl) ?_
      refine lv_i2l hx hb dX0_settle_14 rfl ?_
      refine lv_aload_n hx hb dX0_settle_15 rfl (lv_at hl 0 rfl) ?_
      obtain ⟨c3, hk⟩ := ok_c hk
      obtain ⟨r4, e5, hk⟩ := ok_b hk
      refine zgr X w 0 2 18 (C := RX0) (T := TX0) (N := 7) rfl ui_X0 (by decide) rfl (tb wf_X0_18) dX0_settle_16 c3 e5 ?_
      refine lv_iload_n hx hb dX0_settle_19 rfl (lv_at hl 2 rfl) ?_
      obtain ⟨c6, hk⟩ := ok_c hk
      obtain ⟨c7, hk⟩ := ok_c hk
      refine zai X w dX0_settle_20 c6 c7 ?_
      refine lv_i2l hx hb dX0_settle_21 rfl ?_
      obtain ⟨q8, e9, hk⟩ := ok_b hk
      refine zNl X w (n := 2) (As := [.long (Int32.toInt64 i1), .long (Int32.toInt64 (M.1 r4 (Int32.toNatClampNeg i2)))]) (rest := []) (host := "BlendBench") (c_X8_commonDivisor l D cy G M (Int32.toInt64 i1) (Int32.toInt64 (M.1 r4 (Int32.toNatClampNeg i2))) e9) (gzN wc_X8_commonDivisor) rfl rfl rfl (by decide +kernel) (tb wn_X8) (tb wt_X8_commonDivisor) (by decide +kernel) (by decide) rfl rfl hl.1 (Nat.le_of_ble_eq_true rfl) dX0_settle_22 ⟨Nat.zero_le _, Nat.zero_le _⟩ (fun H locs w => ?_)
      refine lv_l2i hx hb dX0_settle_25 rfl ?_
      refine lv_istore_n (lv' := [(1, .int (Int64.toInt32 q8)), (0, .ref r0), (2, .int i2)]) hx hb dX0_settle_26 rfl hl (by decide) rfl (fun ls hl => ?_)
      refine lv_iinc (v := (i2 + 1)) (lv' := [(2, .int (i2 + 1)), (1, .int (Int64.toInt32 q8)), (0, .ref r0)]) hx hb dX0_settle_27 hl (k := 2) rfl rfl (by decide) rfl (fun ls hl => ?_)
      refine lv_goto (tgt := 7) hx hb dX0_settle_30 (by decide) ?_
      exact hrec (Int64.toInt32 q8) (i2 + 1) _ _ _ w (lv_sub hl [2, 1, 0] rfl) hk
theorem wl_X0_settle_7 {p : Program} {l : Launch} {e : Env} {s : State} {m : MethodId} {args : Array Value} {below : List Frame} {meth : Method} {c : Code} {D : va_G} {cy : Cyy} {A : Nat → Prop} {G : Gg} (X : Cx p m c cX0_settle 3 s args wz_X0_settle RX0 D cy) {Q : State → Prop} (M : Mm) (r0 : Nat) (Qo : Int32 → Prop)  (hE : ∀ (y : Int32), Qo (y) → ∀ (H : Heap) (locs : List Loc) (ls : Array Slot), Wo s D cy A G M H locs → lv_has ls 3 [(0, .ref r0), (1, .int y)] → W p l e rm_X0_settle s m args below meth c H locs 0 0 Q (F0 m 33 ls [])) : ∀ (n : Nat) (i1 : Int32) (i2 : Int32) (H : Heap) (locs : List Loc) (ls : Array Slot), Wo s D cy A G M H locs → lv_has ls 3 [(0, .ref r0), (1, .int i1), (2, .int i2)] → OK (lp_X0_settle_7 G M r0 n i1 i2) Qo → W p l e rm_X0_settle s m args below meth c H locs 0 0 Q (F0 m 7 ls []) := by
  intro n
  induction n with
  | zero => intro i1 i2 H locs ls w hl hk; exact ok_0 hk
  | succ n ih => intro i1 i2 H locs ls w hl hk; exact wb_X0_settle_7 X M r0 Qo hE  (lp_X0_settle_7 G M r0 n) ih i1 i2 H locs ls w hl hk
set_option maxHeartbeats 4000000 in
set_option maxRecDepth 100000 in
theorem wb_X0_settle_62 {p : Program} {l : Launch} {e : Env} {s : State} {m : MethodId} {args : Array Value} {below : List Frame} {meth : Method} {c : Code} {D : va_G} {cy : Cyy} {A : Nat → Prop} {G : Gg} (X : Cx p m c cX0_settle 3 s args wz_X0_settle RX0 D cy) {Q : State → Prop} (r0 : Nat) (i1 : Int32) (Qo : Mm → Prop)  (hE : ∀ (y : Mm), Qo (y) → ∀ (H : Heap) (locs : List Loc) (ls : Array Slot), Wo s D cy A G y H locs → lv_has ls 3 [(0, .ref r0)] → W p l e rm_X0_settle s m args below meth c H locs 0 0 Q (F0 m 84 ls [])) (rec : Int32 → Mm → Option (Mm)) (hrec : ∀ (i2 : Int32) (M : Mm) (H : Heap) (locs : List Loc) (ls : Array Slot), Wo s D cy A G M H locs → lv_has ls 3 [(0, .ref r0), (1, .int i1), (2, .int i2)] → OK (rec i2 M) Qo → W p l e rm_X0_settle s m args below meth c H locs 0 0 Q (F0 m 62 ls [])) (i2 : Int32) (M : Mm) (H : Heap) (locs : List Loc) (ls : Array Slot) (w : Wo s D cy A G M H locs) (hl : lv_has ls 3 [(0, .ref r0), (1, .int i1), (2, .int i2)]) (hk : OK (bd_X0_settle_62 G r0 i1 rec i2 M) Qo) : W p l e rm_X0_settle s m args below meth c H locs 0 0 Q (F0 m 62 ls []) := by
    have hx := X.1.1
    have hb := X.1.2.1
    unfold bd_X0_settle_62 at hk
    refine lv_iload_n hx hb dX0_settle_62 rfl (lv_at hl 2 rfl) ?_
    refine lv_bipush (v := 64) hx hb dX0_settle_63 (by decide) ?_
    refine lv_icmp_ge (tgt := 84) hx hb dX0_settle_65 (by decide) (fun c14 => ?_) (fun c14 => ?_)
    · have hk := ok_p c14 hk
      exact hE M (ok_s hk) _ _ _ w (lv_sub hl [0] rfl)
    · have hk := ok_n c14 hk
      refine lv_aload_n hx hb dX0_settle_68 rfl (lv_at hl 0 rfl) ?_
      obtain ⟨c15, hk⟩ := ok_c hk
      obtain ⟨r16, e17, hk⟩ := ok_b hk
      refine zgr X w 0 2 18 (C := RX0) (T := TX0) (N := 7) rfl ui_X0 (by decide) rfl (tb wf_X0_18) dX0_settle_69 c15 e17 ?_
      refine lv_iload_n hx hb dX0_settle_72 rfl (lv_at hl 2 rfl) ?_
      refine lv_dup2_11 hx hb dX0_settle_73 rfl rfl ?_
      obtain ⟨c18, hk⟩ := ok_c hk
      obtain ⟨c19, hk⟩ := ok_c hk
      refine zai X w dX0_settle_74 c18 c19 ?_
      refine lv_iload_n hx hb dX0_settle_75 rfl (lv_at hl 1 rfl) ?_
      obtain ⟨c20, hk⟩ := ok_c hk
      refine lv_idiv hx hb dX0_settle_76 c20 ?_
      refine zsi X w dX0_settle_77 c18 c19 (fun H locs w => ?_)
      refine lv_iinc (v := (i2 + 1)) (lv' := [(2, .int (i2 + 1)), (0, .ref r0), (1, .int i1)]) hx hb dX0_settle_78 hl (k := 2) rfl rfl (by decide) rfl (fun ls hl => ?_)
      refine lv_goto (tgt := 62) hx hb dX0_settle_81 (by decide) ?_
      exact hrec (i2 + 1) (mwI M r16 (Int32.toNatClampNeg i2) ((M.1 r16 (Int32.toNatClampNeg i2)) / i1)) _ _ _ w (lv_sub hl [1, 2, 0] rfl) hk
theorem wl_X0_settle_62 {p : Program} {l : Launch} {e : Env} {s : State} {m : MethodId} {args : Array Value} {below : List Frame} {meth : Method} {c : Code} {D : va_G} {cy : Cyy} {A : Nat → Prop} {G : Gg} (X : Cx p m c cX0_settle 3 s args wz_X0_settle RX0 D cy) {Q : State → Prop} (r0 : Nat) (i1 : Int32) (Qo : Mm → Prop)  (hE : ∀ (y : Mm), Qo (y) → ∀ (H : Heap) (locs : List Loc) (ls : Array Slot), Wo s D cy A G y H locs → lv_has ls 3 [(0, .ref r0)] → W p l e rm_X0_settle s m args below meth c H locs 0 0 Q (F0 m 84 ls [])) : ∀ (n : Nat) (i2 : Int32) (M : Mm) (H : Heap) (locs : List Loc) (ls : Array Slot), Wo s D cy A G M H locs → lv_has ls 3 [(0, .ref r0), (1, .int i1), (2, .int i2)] → OK (lp_X0_settle_62 G r0 i1 n i2 M) Qo → W p l e rm_X0_settle s m args below meth c H locs 0 0 Q (F0 m 62 ls []) := by
  intro n
  induction n with
  | zero => intro i2 M H locs ls w hl hk; exact ok_0 hk
  | succ n ih => intro i2 M H locs ls w hl hk; exact wb_X0_settle_62 X r0 i1 Qo hE  (lp_X0_settle_62 G r0 i1 n) ih i2 M H locs ls w hl hk
set_option maxHeartbeats 4000000 in
set_option maxRecDepth 100000 in
theorem c_X0_settle (l : Launch) (D : va_G) (cy : Cyy) (G : Gg) (M : Mm) (r0 : Nat) {q : Int32 × Mm} (hm : f_X0_settle G M r0 = some q) : CI l yX0_settle wz_X0_settle rm_X0_settle D cy G M [.ref r0] q.1 q.2 := by
  refine Met_of (Qf := fun A => QI D cy G A q.1 q.2) (cc := cX0_settle) (nL := 3) (ret := (some .boolean)) (own := RX0) (lv := [(0, .ref r0)]) (by decide) rfl rfl (Nat.le_of_ble_eq_true rfl) rfl ?_
  intro p e s m args below meth c A ls X hr hlk w hl
  have hx := X.1.1
  have hb := X.1.2.1
  obtain ⟨Qo, hR, hk⟩ : ∃ Qo : Int32 × Mm → Prop, (∀ x, Qo x → x = q) ∧ OK (f_X0_settle G M r0) Qo := ⟨fun x => x = q, fun _ h => h, q, hm, rfl⟩
  unfold f_X0_settle at hk
  refine lv_aload_n hx hb dX0_settle_0 rfl (lv_at hl 0 rfl) ?_
  obtain ⟨c1, hk⟩ := ok_c hk
  refine zgi X w 0 1 15 (C := RX0) (T := TX0) (N := 7) rfl ui_X0 (by decide) rfl (tb wf_X0_15) dX0_settle_1 c1 ?_
  refine lv_istore_n (lv' := [(1, .int (M.1 r0 1)), (0, .ref r0)]) hx hb dX0_settle_4 rfl hl (by decide) rfl (fun ls hl => ?_)
  refine lv_iconst (v := 0) hx hb dX0_settle_5 (by decide) ?_
  refine lv_istore_n (lv' := [(2, .int (0 : Int32)), (1, .int (M.1 r0 1)), (0, .ref r0)]) hx hb dX0_settle_6 rfl hl (by decide) rfl (fun ls hl => ?_)
  refine wl_X0_settle_7 X M r0 (Qo := _) (fun q10 hk H locs ls w hl => ?_) FU (M.1 r0 1) (0 : Int32) _ _ _ w (lv_sub hl [2, 1, 0] rfl) (ok_b hk)
  refine lv_iload_n hx hb dX0_settle_33 rfl (lv_at hl 1 rfl) ?_
  refine lv_if_le (tgt := 48) hx hb dX0_settle_34 (by decide) (fun c11 => ?_) (fun c11 => ?_)
  · have hk := ok_p c11 hk
    refine lv_iconst (v := 0) hx hb dX0_settle_48 (by decide) ?_
    have hk := hR _ (ok_s hk)
    exact zrz X hr hlk w dX0_settle_49 (by decide) (pr1 hk) (pr2 hk)
  · have hk := ok_n c11 hk
    refine lv_aload_n hx hb dX0_settle_37 rfl (lv_at hl 0 rfl) ?_
    refine zgi X w 0 1 15 (C := RX0) (T := TX0) (N := 7) rfl ui_X0 (by decide) rfl (tb wf_X0_15) dX0_settle_38 c1 ?_
    refine lv_iload_n hx hb dX0_settle_41 rfl (lv_at hl 1 rfl) ?_
    obtain ⟨c12, hk⟩ := ok_c hk
    refine lv_idiv hx hb dX0_settle_42 c12 ?_
    refine lv_bipush (v := 60) hx hb dX0_settle_43 (by decide) ?_
    refine lv_icmp_le (tgt := 50) hx hb dX0_settle_45 (by decide) (fun c13 => ?_) (fun c13 => ?_)
    · have hk := ok_p c13 hk
      refine lv_aload_n hx hb dX0_settle_50 rfl (lv_at hl 0 rfl) ?_
      refine lv_dup hx hb dX0_settle_51 rfl ?_
      refine zgi X w 0 1 15 (C := RX0) (T := TX0) (N := 7) rfl ui_X0 (by decide) rfl (tb wf_X0_15) dX0_settle_52 c1 ?_
      refine lv_iload_n hx hb dX0_settle_55 rfl (lv_at hl 1 rfl) ?_
      refine lv_idiv hx hb dX0_settle_56 c12 ?_
      refine zpi X w 0 1 15 tyX0 (C := RX0) (T := TX0) (N := 7) rfl ui_X0 tyX0_ok nmX0 (by decide) rfl (tb wf_X0_15) rfl rfl dX0_settle_57 c1 (fun H locs w => ?_)
      refine lv_iconst (v := 0) hx hb dX0_settle_60 (by decide) ?_
      refine lv_istore_n (lv' := [(2, .int (0 : Int32)), (0, .ref r0), (1, .int q10)]) hx hb dX0_settle_61 rfl hl (by decide) rfl (fun ls hl => ?_)
      refine wl_X0_settle_62 X r0 q10 (Qo := _) (fun q21 hk H locs ls w hl => ?_) FU (0 : Int32) (mwI M r0 1 ((M.1 r0 1) / q10)) _ _ _ w (lv_sub hl [1, 2, 0] rfl) (ok_b hk)
      refine lv_aload_n hx hb dX0_settle_84 rfl (lv_at hl 0 rfl) ?_
      obtain ⟨q22, e23, hk⟩ := ok_b hk
      refine zVv X w (n := 0) (As := []) (rest := []) (ci := 0) (C := RX0) (T := TX0) (N := 7) (c_X0_traceLeads l D cy G q21 r0 e23) (gzV wm_X0_108 wi_X0_traceLeads ws_X0_traceLeads wn_X0 wc_X0_traceLeads) rfl rfl rfl (by decide +kernel) (by decide) rfl c1 rfl rfl hl.1 (Nat.le_of_ble_eq_true rfl) dX0_settle_85 ⟨Nat.zero_le _, Nat.zero_le _⟩ (fun H locs w => ?_)
      refine lv_iconst (v := 1) hx hb dX0_settle_88 (by decide) ?_
      have hk := hR _ (ok_s hk)
      exact zrz X hr hlk w dX0_settle_89 (by decide) (pr1 hk) (pr2 hk)
    · have hk := ok_n c13 hk
      refine lv_iconst (v := 0) hx hb dX0_settle_48 (by decide) ?_
      have hk := hR _ (ok_s hk)
      exact zrz X hr hlk w dX0_settle_49 (by decide) (pr1 hk) (pr2 hk)
abbrev rm_X0_nextsOf : Room := { frames := 1, cells := 0, slots := 0, locals := 21 }
set_option maxHeartbeats 4000000 in
set_option maxRecDepth 100000 in
theorem wb_X0_nextsOf_4 {p : Program} {l : Launch} {e : Env} {s : State} {m : MethodId} {args : Array Value} {below : List Frame} {meth : Method} {c : Code} {D : va_G} {cy : Cyy} {A : Nat → Prop} {G : Gg} (X : Cx p m c cX0_nextsOf 4 s args wz_X0_nextsOf RX0 D cy) {Q : State → Prop} (M : Mm) (r0 : Nat) (i1 : Int32) (Qo : Int32 → Prop)  (hE : ∀ (y : Int32), Qo (y) → ∀ (H : Heap) (locs : List Loc) (ls : Array Slot), Wo s D cy A G M H locs → lv_has ls 4 [(2, .int y)] → W p l e rm_X0_nextsOf s m args below meth c H locs 0 0 Q (F0 m 39 ls [])) (rec : Int32 → Int32 → Option (Int32)) (hrec : ∀ (i2 : Int32) (i3 : Int32) (H : Heap) (locs : List Loc) (ls : Array Slot), Wo s D cy A G M H locs → lv_has ls 4 [(0, .ref r0), (1, .int i1), (2, .int i2), (3, .int i3)] → OK (rec i2 i3) Qo → W p l e rm_X0_nextsOf s m args below meth c H locs 0 0 Q (F0 m 4 ls [])) (i2 : Int32) (i3 : Int32) (H : Heap) (locs : List Loc) (ls : Array Slot) (w : Wo s D cy A G M H locs) (hl : lv_has ls 4 [(0, .ref r0), (1, .int i1), (2, .int i2), (3, .int i3)]) (hk : OK (bd_X0_nextsOf_4 G M r0 i1 rec i2 i3) Qo) : W p l e rm_X0_nextsOf s m args below meth c H locs 0 0 Q (F0 m 4 ls []) := by
    have hx := X.1.1
    have hb := X.1.2.1
    unfold bd_X0_nextsOf_4 at hk
    refine lv_iload_n hx hb dX0_nextsOf_4 rfl (lv_at hl 3 rfl) ?_
    refine lv_aload_n hx hb dX0_nextsOf_5 rfl (lv_at hl 0 rfl) ?_
    obtain ⟨c1, hk⟩ := ok_c hk
    refine zgi X w 0 0 9 (C := RX0) (T := TX0) (N := 7) rfl ui_X0 (by decide) rfl (tb wf_X0_9) dX0_nextsOf_6 c1 ?_
    refine lv_icmp_ge (tgt := 39) hx hb dX0_nextsOf_9 (by decide) (fun c2 => ?_) (fun c2 => ?_)
    · have hk := ok_p c2 hk
      exact hE i2 (ok_s hk) _ _ _ w (lv_sub hl [2] rfl)
    · have hk := ok_n c2 hk
      refine lv_iload_n hx hb dX0_nextsOf_12 rfl (lv_at hl 2 rfl) ?_
      refine lv_iload_n hx hb dX0_nextsOf_13 rfl (lv_at hl 1 rfl) ?_
      refine lv_iload_n hx hb dX0_nextsOf_14 rfl (lv_at hl 3 rfl) ?_
      obtain ⟨q3, e4, hk⟩ := ok_b hk
      refine zNi X w (n := 2) (As := [.int i1, .int i3]) (rest := [.int i2]) (host := "BlendBench") (c_X8_has l D cy G M i1 i3 e4) (gzN wc_X8_has) rfl rfl rfl (by decide +kernel) (tb wn_X8) (tb wt_X8_has) (by decide +kernel) (by decide) rfl rfl hl.1 (Nat.le_of_ble_eq_true rfl) dX0_nextsOf_15 ⟨Nat.zero_le _, Nat.zero_le _⟩ (fun H locs w => ?_)
      refine lv_if_eq (tgt := 30) hx hb dX0_nextsOf_18 (by decide) (fun c5 => ?_) (fun c5 => ?_)
      · have hk := ok_p c5 hk
        refine lv_iconst (v := 0) hx hb dX0_nextsOf_30 (by decide) ?_
        refine lv_ior hx hb dX0_nextsOf_31 ?_
        refine lv_istore_n (lv' := [(2, .int (i2 ||| (0 : Int32))), (0, .ref r0), (1, .int i1), (3, .int i3)]) hx hb dX0_nextsOf_32 rfl hl (by decide) rfl (fun ls hl => ?_)
        refine lv_iinc (v := (i3 + 1)) (lv' := [(3, .int (i3 + 1)), (2, .int (i2 ||| (0 : Int32))), (0, .ref r0), (1, .int i1)]) hx hb dX0_nextsOf_33 hl (k := 3) rfl rfl (by decide) rfl (fun ls hl => ?_)
        refine lv_goto (tgt := 4) hx hb dX0_nextsOf_36 (by decide) ?_
        exact hrec (i2 ||| (0 : Int32)) (i3 + 1) _ _ _ w (lv_sub hl [2, 3, 1, 0] rfl) hk
      · have hk := ok_n c5 hk
        refine lv_aload_n hx hb dX0_nextsOf_21 rfl (lv_at hl 0 rfl) ?_
        obtain ⟨r6, e7, hk⟩ := ok_b hk
        refine zgr X w 0 3 22 (C := RX0) (T := TX0) (N := 7) rfl ui_X0 (by decide) rfl (tb wf_X0_22) dX0_nextsOf_22 c1 e7 ?_
        refine lv_iload_n hx hb dX0_nextsOf_25 rfl (lv_at hl 3 rfl) ?_
        obtain ⟨c8, hk⟩ := ok_c hk
        obtain ⟨c9, hk⟩ := ok_c hk
        refine zai X w dX0_nextsOf_26 c8 c9 ?_
        refine lv_goto (tgt := 31) hx hb dX0_nextsOf_27 (by decide) ?_
        refine lv_ior hx hb dX0_nextsOf_31 ?_
        refine lv_istore_n (lv' := [(2, .int (i2 ||| (M.1 r6 (Int32.toNatClampNeg i3)))), (0, .ref r0), (1, .int i1), (3, .int i3)]) hx hb dX0_nextsOf_32 rfl hl (by decide) rfl (fun ls hl => ?_)
        refine lv_iinc (v := (i3 + 1)) (lv' := [(3, .int (i3 + 1)), (2, .int (i2 ||| (M.1 r6 (Int32.toNatClampNeg i3)))), (0, .ref r0), (1, .int i1)]) hx hb dX0_nextsOf_33 hl (k := 3) rfl rfl (by decide) rfl (fun ls hl => ?_)
        refine lv_goto (tgt := 4) hx hb dX0_nextsOf_36 (by decide) ?_
        exact hrec (i2 ||| (M.1 r6 (Int32.toNatClampNeg i3))) (i3 + 1) _ _ _ w (lv_sub hl [2, 3, 1, 0] rfl) hk
theorem wl_X0_nextsOf_4 {p : Program} {l : Launch} {e : Env} {s : State} {m : MethodId} {args : Array Value} {below : List Frame} {meth : Method} {c : Code} {D : va_G} {cy : Cyy} {A : Nat → Prop} {G : Gg} (X : Cx p m c cX0_nextsOf 4 s args wz_X0_nextsOf RX0 D cy) {Q : State → Prop} (M : Mm) (r0 : Nat) (i1 : Int32) (Qo : Int32 → Prop)  (hE : ∀ (y : Int32), Qo (y) → ∀ (H : Heap) (locs : List Loc) (ls : Array Slot), Wo s D cy A G M H locs → lv_has ls 4 [(2, .int y)] → W p l e rm_X0_nextsOf s m args below meth c H locs 0 0 Q (F0 m 39 ls [])) : ∀ (n : Nat) (i2 : Int32) (i3 : Int32) (H : Heap) (locs : List Loc) (ls : Array Slot), Wo s D cy A G M H locs → lv_has ls 4 [(0, .ref r0), (1, .int i1), (2, .int i2), (3, .int i3)] → OK (lp_X0_nextsOf_4 G M r0 i1 n i2 i3) Qo → W p l e rm_X0_nextsOf s m args below meth c H locs 0 0 Q (F0 m 4 ls []) := by
  intro n
  induction n with
  | zero => intro i2 i3 H locs ls w hl hk; exact ok_0 hk
  | succ n ih => intro i2 i3 H locs ls w hl hk; exact wb_X0_nextsOf_4 X M r0 i1 Qo hE  (lp_X0_nextsOf_4 G M r0 i1 n) ih i2 i3 H locs ls w hl hk
set_option maxHeartbeats 4000000 in
set_option maxRecDepth 100000 in
theorem c_X0_nextsOf (l : Launch) (D : va_G) (cy : Cyy) (G : Gg) (M : Mm) (r0 : Nat) (i1 : Int32) {q : Int32} (hm : f_X0_nextsOf G M r0 i1 = some q) : CI l yX0_nextsOf wz_X0_nextsOf rm_X0_nextsOf D cy G M [.ref r0, .int i1] q M := by
  refine Met_of (Qf := fun A => QI D cy G A q M) (cc := cX0_nextsOf) (nL := 4) (ret := (some .int)) (own := RX0) (lv := [(0, .ref r0), (1, .int i1)]) (by decide) rfl rfl (Nat.le_of_ble_eq_true rfl) rfl ?_
  intro p e s m args below meth c A ls X hr hlk w hl
  have hx := X.1.1
  have hb := X.1.2.1
  obtain ⟨Qo, hR, hk⟩ : ∃ Qo : Int32 → Prop, (∀ x, Qo x → x = q) ∧ OK (f_X0_nextsOf G M r0 i1) Qo := ⟨fun x => x = q, fun _ h => h, q, hm, rfl⟩
  unfold f_X0_nextsOf at hk
  refine lv_iconst (v := 0) hx hb dX0_nextsOf_0 (by decide) ?_
  refine lv_istore_n (lv' := [(2, .int (0 : Int32)), (0, .ref r0), (1, .int i1)]) hx hb dX0_nextsOf_1 rfl hl (by decide) rfl (fun ls hl => ?_)
  refine lv_iconst (v := 0) hx hb dX0_nextsOf_2 (by decide) ?_
  refine lv_istore_n (lv' := [(3, .int (0 : Int32)), (2, .int (0 : Int32)), (0, .ref r0), (1, .int i1)]) hx hb dX0_nextsOf_3 rfl hl (by decide) rfl (fun ls hl => ?_)
  refine wl_X0_nextsOf_4 X M r0 i1 (Qo := _) (fun q10 hk H locs ls w hl => ?_) FU (0 : Int32) (0 : Int32) _ _ _ w (lv_sub hl [2, 3, 1, 0] rfl) (ok_b hk)
  refine lv_iload_n hx hb dX0_nextsOf_39 rfl (lv_at hl 0 rfl) ?_
  have hk := hR _ (ok_s hk)
  exact zri X hr hlk w dX0_nextsOf_40 hk rfl
abbrev rm_X0_heapOf : Room := { frames := 1, cells := 0, slots := 0, locals := 21 }
set_option maxHeartbeats 4000000 in
set_option maxRecDepth 100000 in
theorem wb_X0_heapOf_4 {p : Program} {l : Launch} {e : Env} {s : State} {m : MethodId} {args : Array Value} {below : List Frame} {meth : Method} {c : Code} {D : va_G} {cy : Cyy} {A : Nat → Prop} {G : Gg} (X : Cx p m c cX0_heapOf 4 s args wz_X0_heapOf RX0 D cy) {Q : State → Prop} (M : Mm) (r0 : Nat) (i1 : Int32) (Qo : Int32 → Prop)  (hE : ∀ (y : Int32), Qo (y) → ∀ (H : Heap) (locs : List Loc) (ls : Array Slot), Wo s D cy A G M H locs → lv_has ls 4 [(2, .int y)] → W p l e rm_X0_heapOf s m args below meth c H locs 0 0 Q (F0 m 58 ls [])) (rec : Int32 → Int32 → Option (Int32)) (hrec : ∀ (i2 : Int32) (i3 : Int32) (H : Heap) (locs : List Loc) (ls : Array Slot), Wo s D cy A G M H locs → lv_has ls 4 [(0, .ref r0), (1, .int i1), (2, .int i2), (3, .int i3)] → OK (rec i2 i3) Qo → W p l e rm_X0_heapOf s m args below meth c H locs 0 0 Q (F0 m 4 ls [])) (i2 : Int32) (i3 : Int32) (H : Heap) (locs : List Loc) (ls : Array Slot) (w : Wo s D cy A G M H locs) (hl : lv_has ls 4 [(0, .ref r0), (1, .int i1), (2, .int i2), (3, .int i3)]) (hk : OK (bd_X0_heapOf_4 G M r0 i1 rec i2 i3) Qo) : W p l e rm_X0_heapOf s m args below meth c H locs 0 0 Q (F0 m 4 ls []) := by
    have hx := X.1.1
    have hb := X.1.2.1
    unfold bd_X0_heapOf_4 at hk
    refine lv_iload_n hx hb dX0_heapOf_4 rfl (lv_at hl 3 rfl) ?_
    refine lv_aload_n hx hb dX0_heapOf_5 rfl (lv_at hl 0 rfl) ?_
    obtain ⟨c1, hk⟩ := ok_c hk
    refine zgi X w 0 0 9 (C := RX0) (T := TX0) (N := 7) rfl ui_X0 (by decide) rfl (tb wf_X0_9) dX0_heapOf_6 c1 ?_
    refine lv_icmp_ge (tgt := 58) hx hb dX0_heapOf_9 (by decide) (fun c2 => ?_) (fun c2 => ?_)
    · have hk := ok_p c2 hk
      exact hE i2 (ok_s hk) _ _ _ w (lv_sub hl [2] rfl)
    · have hk := ok_n c2 hk
      refine lv_aload_n hx hb dX0_heapOf_12 rfl (lv_at hl 0 rfl) ?_
      refine lv_iload_n hx hb dX0_heapOf_13 rfl (lv_at hl 1 rfl) ?_
      obtain ⟨q3, e4, hk⟩ := ok_b hk
      refine zVi X w (n := 1) (As := [.int i1]) (rest := []) (ci := 0) (C := RX0) (T := TX0) (N := 7) (c_X0_isState l D cy G M r0 i1 e4) (gzV wm_X0_40 wi_X0_isState ws_X0_isState wn_X0 wc_X0_isState) rfl rfl rfl (by decide +kernel) (by decide) rfl c1 rfl rfl hl.1 (Nat.le_of_ble_eq_true rfl) dX0_heapOf_14 ⟨Nat.zero_le _, Nat.zero_le _⟩ (fun H locs w => ?_)
      refine lv_if_eq (tgt := 52) hx hb dX0_heapOf_17 (by decide) (fun c5 => ?_) (fun c5 => ?_)
      · have hk := ok_p c5 hk
        refine lv_iinc (v := (i3 + 1)) (lv' := [(3, .int (i3 + 1)), (0, .ref r0), (1, .int i1), (2, .int i2)]) hx hb dX0_heapOf_52 hl (k := 3) rfl rfl (by decide) rfl (fun ls hl => ?_)
        refine lv_goto (tgt := 4) hx hb dX0_heapOf_55 (by decide) ?_
        exact hrec i2 (i3 + 1) _ _ _ w (lv_sub hl [1, 2, 3, 0] rfl) hk
      · have hk := ok_n c5 hk
        refine lv_aload_n hx hb dX0_heapOf_20 rfl (lv_at hl 0 rfl) ?_
        obtain ⟨r6, e7, hk⟩ := ok_b hk
        refine zgr X w 0 4 25 (C := RX0) (T := TX0) (N := 7) rfl ui_X0 (by decide) rfl (tb wf_X0_25) dX0_heapOf_21 c1 e7 ?_
        refine lv_iload_n hx hb dX0_heapOf_24 rfl (lv_at hl 1 rfl) ?_
        obtain ⟨c8, hk⟩ := ok_c hk
        obtain ⟨c9, hk⟩ := ok_c hk
        refine zai X w dX0_heapOf_25 c8 c9 ?_
        refine lv_iload_n hx hb dX0_heapOf_26 rfl (lv_at hl 3 rfl) ?_
        obtain ⟨q10, e11, hk⟩ := ok_b hk
        refine zNi X w (n := 2) (As := [.int (M.1 r6 (Int32.toNatClampNeg i1)), .int i3]) (rest := []) (host := "BlendBench") (c_X8_has l D cy G M (M.1 r6 (Int32.toNatClampNeg i1)) i3 e11) (gzN wc_X8_has) rfl rfl rfl (by decide +kernel) (tb wn_X8) (tb wt_X8_has) (by decide +kernel) (by decide) rfl rfl hl.1 (Nat.le_of_ble_eq_true rfl) dX0_heapOf_27 ⟨Nat.zero_le _, Nat.zero_le _⟩ (fun H locs w => ?_)
        refine lv_if_eq (tgt := 52) hx hb dX0_heapOf_30 (by decide) (fun c12 => ?_) (fun c12 => ?_)
        · have hk := ok_p c12 hk
          refine lv_iinc (v := (i3 + 1)) (lv' := [(3, .int (i3 + 1)), (0, .ref r0), (1, .int i1), (2, .int i2)]) hx hb dX0_heapOf_52 hl (k := 3) rfl rfl (by decide) rfl (fun ls hl => ?_)
          refine lv_goto (tgt := 4) hx hb dX0_heapOf_55 (by decide) ?_
          exact hrec i2 (i3 + 1) _ _ _ w (lv_sub hl [1, 2, 3, 0] rfl) hk
        · have hk := ok_n c12 hk
          refine lv_aload_n hx hb dX0_heapOf_33 rfl (lv_at hl 0 rfl) ?_
          refine zgr X w 0 4 25 (C := RX0) (T := TX0) (N := 7) rfl ui_X0 (by decide) rfl (tb wf_X0_25) dX0_heapOf_34 c1 e7 ?_
          refine lv_iload_n hx hb dX0_heapOf_37 rfl (lv_at hl 3 rfl) ?_
          obtain ⟨c13, hk⟩ := ok_c hk
          refine zai X w dX0_heapOf_38 c8 c13 ?_
          refine lv_iload_n hx hb dX0_heapOf_39 rfl (lv_at hl 1 rfl) ?_
          obtain ⟨q14, e15, hk⟩ := ok_b hk
          refine zNi X w (n := 2) (As := [.int (M.1 r6 (Int32.toNatClampNeg i3)), .int i1]) (rest := []) (host := "BlendBench") (c_X8_has l D cy G M (M.1 r6 (Int32.toNatClampNeg i3)) i1 e15) (gzN wc_X8_has) rfl rfl rfl (by decide +kernel) (tb wn_X8) (tb wt_X8_has) (by decide +kernel) (by decide) rfl rfl hl.1 (Nat.le_of_ble_eq_true rfl) dX0_heapOf_40 ⟨Nat.zero_le _, Nat.zero_le _⟩ (fun H locs w => ?_)
          refine lv_if_eq (tgt := 52) hx hb dX0_heapOf_43 (by decide) (fun c16 => ?_) (fun c16 => ?_)
          · have hk := ok_p c16 hk
            refine lv_iinc (v := (i3 + 1)) (lv' := [(3, .int (i3 + 1)), (0, .ref r0), (1, .int i1), (2, .int i2)]) hx hb dX0_heapOf_52 hl (k := 3) rfl rfl (by decide) rfl (fun ls hl => ?_)
            refine lv_goto (tgt := 4) hx hb dX0_heapOf_55 (by decide) ?_
            exact hrec i2 (i3 + 1) _ _ _ w (lv_sub hl [1, 2, 3, 0] rfl) hk
          · have hk := ok_n c16 hk
            refine lv_iload_n hx hb dX0_heapOf_46 rfl (lv_at hl 2 rfl) ?_
            refine lv_iconst (v := 1) hx hb dX0_heapOf_47 (by decide) ?_
            refine lv_iload_n hx hb dX0_heapOf_48 rfl (lv_at hl 3 rfl) ?_
            refine lv_ishl hx hb dX0_heapOf_49 ?_
            refine lv_ior hx hb dX0_heapOf_50 ?_
            refine lv_istore_n (lv' := [(2, .int (i2 ||| ((1 : Int32) <<< (i3 &&& 31)))), (0, .ref r0), (1, .int i1), (3, .int i3)]) hx hb dX0_heapOf_51 rfl hl (by decide) rfl (fun ls hl => ?_)
            refine lv_iinc (v := (i3 + 1)) (lv' := [(3, .int (i3 + 1)), (2, .int (i2 ||| ((1 : Int32) <<< (i3 &&& 31)))), (0, .ref r0), (1, .int i1)]) hx hb dX0_heapOf_52 hl (k := 3) rfl rfl (by decide) rfl (fun ls hl => ?_)
            refine lv_goto (tgt := 4) hx hb dX0_heapOf_55 (by decide) ?_
            exact hrec (i2 ||| ((1 : Int32) <<< (i3 &&& 31))) (i3 + 1) _ _ _ w (lv_sub hl [2, 3, 1, 0] rfl) hk
theorem wl_X0_heapOf_4 {p : Program} {l : Launch} {e : Env} {s : State} {m : MethodId} {args : Array Value} {below : List Frame} {meth : Method} {c : Code} {D : va_G} {cy : Cyy} {A : Nat → Prop} {G : Gg} (X : Cx p m c cX0_heapOf 4 s args wz_X0_heapOf RX0 D cy) {Q : State → Prop} (M : Mm) (r0 : Nat) (i1 : Int32) (Qo : Int32 → Prop)  (hE : ∀ (y : Int32), Qo (y) → ∀ (H : Heap) (locs : List Loc) (ls : Array Slot), Wo s D cy A G M H locs → lv_has ls 4 [(2, .int y)] → W p l e rm_X0_heapOf s m args below meth c H locs 0 0 Q (F0 m 58 ls [])) : ∀ (n : Nat) (i2 : Int32) (i3 : Int32) (H : Heap) (locs : List Loc) (ls : Array Slot), Wo s D cy A G M H locs → lv_has ls 4 [(0, .ref r0), (1, .int i1), (2, .int i2), (3, .int i3)] → OK (lp_X0_heapOf_4 G M r0 i1 n i2 i3) Qo → W p l e rm_X0_heapOf s m args below meth c H locs 0 0 Q (F0 m 4 ls []) := by
  intro n
  induction n with
  | zero => intro i2 i3 H locs ls w hl hk; exact ok_0 hk
  | succ n ih => intro i2 i3 H locs ls w hl hk; exact wb_X0_heapOf_4 X M r0 i1 Qo hE  (lp_X0_heapOf_4 G M r0 i1 n) ih i2 i3 H locs ls w hl hk
set_option maxHeartbeats 4000000 in
set_option maxRecDepth 100000 in
theorem c_X0_heapOf (l : Launch) (D : va_G) (cy : Cyy) (G : Gg) (M : Mm) (r0 : Nat) (i1 : Int32) {q : Int32} (hm : f_X0_heapOf G M r0 i1 = some q) : CI l yX0_heapOf wz_X0_heapOf rm_X0_heapOf D cy G M [.ref r0, .int i1] q M := by
  refine Met_of (Qf := fun A => QI D cy G A q M) (cc := cX0_heapOf) (nL := 4) (ret := (some .int)) (own := RX0) (lv := [(0, .ref r0), (1, .int i1)]) (by decide) rfl rfl (Nat.le_of_ble_eq_true rfl) rfl ?_
  intro p e s m args below meth c A ls X hr hlk w hl
  have hx := X.1.1
  have hb := X.1.2.1
  obtain ⟨Qo, hR, hk⟩ : ∃ Qo : Int32 → Prop, (∀ x, Qo x → x = q) ∧ OK (f_X0_heapOf G M r0 i1) Qo := ⟨fun x => x = q, fun _ h => h, q, hm, rfl⟩
  unfold f_X0_heapOf at hk
  refine lv_iconst (v := 0) hx hb dX0_heapOf_0 (by decide) ?_
  refine lv_istore_n (lv' := [(2, .int (0 : Int32)), (0, .ref r0), (1, .int i1)]) hx hb dX0_heapOf_1 rfl hl (by decide) rfl (fun ls hl => ?_)
  refine lv_iconst (v := 0) hx hb dX0_heapOf_2 (by decide) ?_
  refine lv_istore_n (lv' := [(3, .int (0 : Int32)), (2, .int (0 : Int32)), (0, .ref r0), (1, .int i1)]) hx hb dX0_heapOf_3 rfl hl (by decide) rfl (fun ls hl => ?_)
  refine wl_X0_heapOf_4 X M r0 i1 (Qo := _) (fun q17 hk H locs ls w hl => ?_) FU (0 : Int32) (0 : Int32) _ _ _ w (lv_sub hl [2, 3, 1, 0] rfl) (ok_b hk)
  refine lv_iload_n hx hb dX0_heapOf_58 rfl (lv_at hl 0 rfl) ?_
  have hk := hR _ (ok_s hk)
  exact zri X hr hlk w dX0_heapOf_59 hk rfl
abbrev rm_X0_isLeastOfHeap : Room := { frames := 2, cells := 0, slots := 0, locals := 44 }
set_option maxHeartbeats 4000000 in
set_option maxRecDepth 100000 in
theorem c_X0_isLeastOfHeap (l : Launch) (D : va_G) (cy : Cyy) (G : Gg) (M : Mm) (r0 : Nat) (i1 : Int32) {q : Int32} (hm : f_X0_isLeastOfHeap G M r0 i1 = some q) : CI l yX0_isLeastOfHeap wz_X0_isLeastOfHeap rm_X0_isLeastOfHeap D cy G M [.ref r0, .int i1] q M := by
  refine Met_of (Qf := fun A => QI D cy G A q M) (cc := cX0_isLeastOfHeap) (nL := 2) (ret := (some .boolean)) (own := RX0) (lv := [(0, .ref r0), (1, .int i1)]) (by decide) rfl rfl (Nat.le_of_ble_eq_true rfl) rfl ?_
  intro p e s m args below meth c A ls X hr hlk w hl
  have hx := X.1.1
  have hb := X.1.2.1
  obtain ⟨Qo, hR, hk⟩ : ∃ Qo : Int32 → Prop, (∀ x, Qo x → x = q) ∧ OK (f_X0_isLeastOfHeap G M r0 i1) Qo := ⟨fun x => x = q, fun _ h => h, q, hm, rfl⟩
  unfold f_X0_isLeastOfHeap at hk
  refine lv_aload_n hx hb dX0_isLeastOfHeap_0 rfl (lv_at hl 0 rfl) ?_
  refine lv_iload_n hx hb dX0_isLeastOfHeap_1 rfl (lv_at hl 1 rfl) ?_
  obtain ⟨c3, hk⟩ := ok_c hk
  obtain ⟨q1, e2, hk⟩ := ok_b hk
  refine zVi X w (n := 1) (As := [.int i1]) (rest := []) (ci := 0) (C := RX0) (T := TX0) (N := 7) (c_X0_heapOf l D cy G M r0 i1 e2) (gzV wm_X0_111 wi_X0_heapOf ws_X0_heapOf wn_X0 wc_X0_heapOf) rfl rfl rfl (by decide +kernel) (by decide) rfl c3 rfl rfl hl.1 (Nat.le_of_ble_eq_true rfl) dX0_isLeastOfHeap_2 ⟨Nat.zero_le _, Nat.zero_le _⟩ (fun H locs w => ?_)
  refine lv_iconst (v := 1) hx hb dX0_isLeastOfHeap_5 (by decide) ?_
  refine lv_iload_n hx hb dX0_isLeastOfHeap_6 rfl (lv_at hl 1 rfl) ?_
  refine lv_ishl hx hb dX0_isLeastOfHeap_7 ?_
  refine lv_iconst (v := 1) hx hb dX0_isLeastOfHeap_8 (by decide) ?_
  refine lv_isub hx hb dX0_isLeastOfHeap_9 ?_
  refine lv_iand hx hb dX0_isLeastOfHeap_10 ?_
  refine lv_if_ne (tgt := 18) hx hb dX0_isLeastOfHeap_11 (by decide) (fun c4 => ?_) (fun c4 => ?_)
  · have hk := ok_n c4 hk
    refine lv_iconst (v := 0) hx hb dX0_isLeastOfHeap_18 (by decide) ?_
    have hk := hR _ (ok_s hk)
    exact zrz X hr hlk w dX0_isLeastOfHeap_19 (by decide) hk rfl
  · have hk := ok_p c4 hk
    refine lv_iconst (v := 1) hx hb dX0_isLeastOfHeap_14 (by decide) ?_
    refine lv_goto (tgt := 19) hx hb dX0_isLeastOfHeap_15 (by decide) ?_
    have hk := hR _ (ok_s hk)
    exact zrz X hr hlk w dX0_isLeastOfHeap_19 (by decide) hk rfl
abbrev rm_X0_isClosed : Room := { frames := 2, cells := 0, slots := 0, locals := 44 }
set_option maxHeartbeats 4000000 in
set_option maxRecDepth 100000 in
theorem c_X0_isClosed (l : Launch) (D : va_G) (cy : Cyy) (G : Gg) (M : Mm) (r0 : Nat) (i1 : Int32) {q : Int32} (hm : f_X0_isClosed G M r0 i1 = some q) : CI l yX0_isClosed wz_X0_isClosed rm_X0_isClosed D cy G M [.ref r0, .int i1] q M := by
  refine Met_of (Qf := fun A => QI D cy G A q M) (cc := cX0_isClosed) (nL := 2) (ret := (some .boolean)) (own := RX0) (lv := [(0, .ref r0), (1, .int i1)]) (by decide) rfl rfl (Nat.le_of_ble_eq_true rfl) rfl ?_
  intro p e s m args below meth c A ls X hr hlk w hl
  have hx := X.1.1
  have hb := X.1.2.1
  obtain ⟨Qo, hR, hk⟩ : ∃ Qo : Int32 → Prop, (∀ x, Qo x → x = q) ∧ OK (f_X0_isClosed G M r0 i1) Qo := ⟨fun x => x = q, fun _ h => h, q, hm, rfl⟩
  unfold f_X0_isClosed at hk
  refine lv_aload_n hx hb dX0_isClosed_0 rfl (lv_at hl 0 rfl) ?_
  refine lv_iload_n hx hb dX0_isClosed_1 rfl (lv_at hl 1 rfl) ?_
  obtain ⟨c3, hk⟩ := ok_c hk
  obtain ⟨q1, e2, hk⟩ := ok_b hk
  refine zVi X w (n := 1) (As := [.int i1]) (rest := []) (ci := 0) (C := RX0) (T := TX0) (N := 7) (c_X0_isState l D cy G M r0 i1 e2) (gzV wm_X0_40 wi_X0_isState ws_X0_isState wn_X0 wc_X0_isState) rfl rfl rfl (by decide +kernel) (by decide) rfl c3 rfl rfl hl.1 (Nat.le_of_ble_eq_true rfl) dX0_isClosed_2 ⟨Nat.zero_le _, Nat.zero_le _⟩ (fun H locs w => ?_)
  refine lv_if_eq (tgt := 26) hx hb dX0_isClosed_5 (by decide) (fun c4 => ?_) (fun c4 => ?_)
  · have hk := ok_p c4 hk
    refine lv_iconst (v := 0) hx hb dX0_isClosed_26 (by decide) ?_
    have hk := hR _ (ok_s hk)
    exact zrz X hr hlk w dX0_isClosed_27 (by decide) hk rfl
  · have hk := ok_n c4 hk
    refine lv_aload_n hx hb dX0_isClosed_8 rfl (lv_at hl 0 rfl) ?_
    obtain ⟨r5, e6, hk⟩ := ok_b hk
    refine zgr X w 0 4 25 (C := RX0) (T := TX0) (N := 7) rfl ui_X0 (by decide) rfl (tb wf_X0_25) dX0_isClosed_9 c3 e6 ?_
    refine lv_iload_n hx hb dX0_isClosed_12 rfl (lv_at hl 1 rfl) ?_
    obtain ⟨c7, hk⟩ := ok_c hk
    obtain ⟨c8, hk⟩ := ok_c hk
    refine zai X w dX0_isClosed_13 c7 c8 ?_
    refine lv_aload_n hx hb dX0_isClosed_14 rfl (lv_at hl 0 rfl) ?_
    refine lv_iload_n hx hb dX0_isClosed_15 rfl (lv_at hl 1 rfl) ?_
    obtain ⟨q9, e10, hk⟩ := ok_b hk
    refine zVi X w (n := 1) (As := [.int i1]) (rest := [.int (M.1 r5 (Int32.toNatClampNeg i1))]) (ci := 0) (C := RX0) (T := TX0) (N := 7) (c_X0_heapOf l D cy G M r0 i1 e10) (gzV wm_X0_111 wi_X0_heapOf ws_X0_heapOf wn_X0 wc_X0_heapOf) rfl rfl rfl (by decide +kernel) (by decide) rfl c3 rfl rfl hl.1 (Nat.le_of_ble_eq_true rfl) dX0_isClosed_16 ⟨Nat.zero_le _, Nat.zero_le _⟩ (fun H locs w => ?_)
    refine lv_icmp_ne (tgt := 26) hx hb dX0_isClosed_19 (by decide) (fun c11 => ?_) (fun c11 => ?_)
    · have hk := ok_n c11 hk
      refine lv_iconst (v := 0) hx hb dX0_isClosed_26 (by decide) ?_
      have hk := hR _ (ok_s hk)
      exact zrz X hr hlk w dX0_isClosed_27 (by decide) hk rfl
    · have hk := ok_p c11 hk
      refine lv_iconst (v := 1) hx hb dX0_isClosed_22 (by decide) ?_
      refine lv_goto (tgt := 27) hx hb dX0_isClosed_23 (by decide) ?_
      have hk := hR _ (ok_s hk)
      exact zrz X hr hlk w dX0_isClosed_27 (by decide) hk rfl
abbrev rm_X0_heapNumber : Room := { frames := 3, cells := 0, slots := 0, locals := 65 }
set_option maxHeartbeats 4000000 in
set_option maxRecDepth 100000 in
theorem wb_X0_heapNumber_11 {p : Program} {l : Launch} {e : Env} {s : State} {m : MethodId} {args : Array Value} {below : List Frame} {meth : Method} {c : Code} {D : va_G} {cy : Cyy} {A : Nat → Prop} {G : Gg} (X : Cx p m c cX0_heapNumber 5 s args wz_X0_heapNumber RX0 D cy) {Q : State → Prop} (M : Mm) (r0 : Nat) (i2 : Int32) (Qo : Int32 → Prop)  (hE : ∀ (y : Int32), Qo (y) → ∀ (H : Heap) (locs : List Loc) (ls : Array Slot), Wo s D cy A G M H locs → lv_has ls 5 [(3, .int y)] → W p l e rm_X0_heapNumber s m args below meth c H locs 0 0 Q (F0 m 52 ls [])) (rec : Int32 → Int32 → Option (Int32)) (hrec : ∀ (i3 : Int32) (i4 : Int32) (H : Heap) (locs : List Loc) (ls : Array Slot), Wo s D cy A G M H locs → lv_has ls 5 [(0, .ref r0), (2, .int i2), (3, .int i3), (4, .int i4)] → OK (rec i3 i4) Qo → W p l e rm_X0_heapNumber s m args below meth c H locs 0 0 Q (F0 m 11 ls [])) (i3 : Int32) (i4 : Int32) (H : Heap) (locs : List Loc) (ls : Array Slot) (w : Wo s D cy A G M H locs) (hl : lv_has ls 5 [(0, .ref r0), (2, .int i2), (3, .int i3), (4, .int i4)]) (hk : OK (bd_X0_heapNumber_11 G M r0 i2 rec i3 i4) Qo) : W p l e rm_X0_heapNumber s m args below meth c H locs 0 0 Q (F0 m 11 ls []) := by
    have hx := X.1.1
    have hb := X.1.2.1
    unfold bd_X0_heapNumber_11 at hk
    refine lv_iload hx hb dX0_heapNumber_11 (lv_at hl 3 rfl) ?_
    refine lv_aload_n hx hb dX0_heapNumber_13 rfl (lv_at hl 0 rfl) ?_
    obtain ⟨c4, hk⟩ := ok_c hk
    refine zgi X w 0 0 9 (C := RX0) (T := TX0) (N := 7) rfl ui_X0 (by decide) rfl (tb wf_X0_9) dX0_heapNumber_14 c4 ?_
    refine lv_icmp_ge (tgt := 52) hx hb dX0_heapNumber_17 (by decide) (fun c5 => ?_) (fun c5 => ?_)
    · have hk := ok_p c5 hk
      exact hE i3 (ok_s hk) _ _ _ w (lv_sub hl [2] rfl)
    · have hk := ok_n c5 hk
      refine lv_iload_n hx hb dX0_heapNumber_20 rfl (lv_at hl 1 rfl) ?_
      refine lv_iload hx hb dX0_heapNumber_21 (lv_at hl 3 rfl) ?_
      obtain ⟨q6, e7, hk⟩ := ok_b hk
      refine zNi X w (n := 2) (As := [.int i2, .int i4]) (rest := []) (host := "BlendBench") (c_X8_has l D cy G M i2 i4 e7) (gzN wc_X8_has) rfl rfl rfl (by decide +kernel) (tb wn_X8) (tb wt_X8_has) (by decide +kernel) (by decide) rfl rfl hl.1 (Nat.le_of_ble_eq_true rfl) dX0_heapNumber_23 ⟨Nat.zero_le _, Nat.zero_le _⟩ (fun H locs w => ?_)
      refine lv_if_ne (tgt := 52) hx hb dX0_heapNumber_26 (by decide) (fun c8 => ?_) (fun c8 => ?_)
      · have hk := ok_n c8 hk
        exact hE i3 (ok_s hk) _ _ _ w (lv_sub hl [2] rfl)
      · have hk := ok_p c8 hk
        refine lv_iload_n hx hb dX0_heapNumber_29 rfl (lv_at hl 2 rfl) ?_
        refine lv_aload_n hx hb dX0_heapNumber_30 rfl (lv_at hl 0 rfl) ?_
        refine lv_iload hx hb dX0_heapNumber_31 (lv_at hl 3 rfl) ?_
        obtain ⟨q9, e10, hk⟩ := ok_b hk
        refine zVi X w (n := 1) (As := [.int i4]) (rest := [.int i3]) (ci := 0) (C := RX0) (T := TX0) (N := 7) (c_X0_isLeastOfHeap l D cy G M r0 i4 e10) (gzV wm_X0_114 wi_X0_isLeastOfHeap ws_X0_isLeastOfHeap wn_X0 wc_X0_isLeastOfHeap) rfl rfl rfl (by decide +kernel) (by decide) rfl c4 rfl rfl hl.1 (Nat.le_of_ble_eq_true rfl) dX0_heapNumber_33 ⟨Nat.zero_le _, Nat.zero_le _⟩ (fun H locs w => ?_)
        refine lv_if_eq (tgt := 43) hx hb dX0_heapNumber_36 (by decide) (fun c11 => ?_) (fun c11 => ?_)
        · have hk := ok_p c11 hk
          refine lv_iconst (v := 0) hx hb dX0_heapNumber_43 (by decide) ?_
          refine lv_iadd hx hb dX0_heapNumber_44 ?_
          refine lv_istore_n (lv' := [(3, .int (i3 + (0 : Int32))), (0, .ref r0), (2, .int i2), (4, .int i4)]) hx hb dX0_heapNumber_45 rfl hl (by decide) rfl (fun ls hl => ?_)
          refine lv_iinc (v := (i4 + 1)) (lv' := [(4, .int (i4 + 1)), (3, .int (i3 + (0 : Int32))), (0, .ref r0), (2, .int i2)]) hx hb dX0_heapNumber_46 hl (k := 3) rfl rfl (by decide) rfl (fun ls hl => ?_)
          refine lv_goto (tgt := 11) hx hb dX0_heapNumber_49 (by decide) ?_
          exact hrec (i3 + (0 : Int32)) (i4 + 1) _ _ _ w (lv_sub hl [2, 3, 1, 0] rfl) hk
        · have hk := ok_n c11 hk
          refine lv_iconst (v := 1) hx hb dX0_heapNumber_39 (by decide) ?_
          refine lv_goto (tgt := 44) hx hb dX0_heapNumber_40 (by decide) ?_
          refine lv_iadd hx hb dX0_heapNumber_44 ?_
          refine lv_istore_n (lv' := [(3, .int (i3 + (1 : Int32))), (0, .ref r0), (2, .int i2), (4, .int i4)]) hx hb dX0_heapNumber_45 rfl hl (by decide) rfl (fun ls hl => ?_)
          refine lv_iinc (v := (i4 + 1)) (lv' := [(4, .int (i4 + 1)), (3, .int (i3 + (1 : Int32))), (0, .ref r0), (2, .int i2)]) hx hb dX0_heapNumber_46 hl (k := 3) rfl rfl (by decide) rfl (fun ls hl => ?_)
          refine lv_goto (tgt := 11) hx hb dX0_heapNumber_49 (by decide) ?_
          exact hrec (i3 + (1 : Int32)) (i4 + 1) _ _ _ w (lv_sub hl [2, 3, 1, 0] rfl) hk
theorem wl_X0_heapNumber_11 {p : Program} {l : Launch} {e : Env} {s : State} {m : MethodId} {args : Array Value} {below : List Frame} {meth : Method} {c : Code} {D : va_G} {cy : Cyy} {A : Nat → Prop} {G : Gg} (X : Cx p m c cX0_heapNumber 5 s args wz_X0_heapNumber RX0 D cy) {Q : State → Prop} (M : Mm) (r0 : Nat) (i2 : Int32) (Qo : Int32 → Prop)  (hE : ∀ (y : Int32), Qo (y) → ∀ (H : Heap) (locs : List Loc) (ls : Array Slot), Wo s D cy A G M H locs → lv_has ls 5 [(3, .int y)] → W p l e rm_X0_heapNumber s m args below meth c H locs 0 0 Q (F0 m 52 ls [])) : ∀ (n : Nat) (i3 : Int32) (i4 : Int32) (H : Heap) (locs : List Loc) (ls : Array Slot), Wo s D cy A G M H locs → lv_has ls 5 [(0, .ref r0), (2, .int i2), (3, .int i3), (4, .int i4)] → OK (lp_X0_heapNumber_11 G M r0 i2 n i3 i4) Qo → W p l e rm_X0_heapNumber s m args below meth c H locs 0 0 Q (F0 m 11 ls []) := by
  intro n
  induction n with
  | zero => intro i3 i4 H locs ls w hl hk; exact ok_0 hk
  | succ n ih => intro i3 i4 H locs ls w hl hk; exact wb_X0_heapNumber_11 X M r0 i2 Qo hE  (lp_X0_heapNumber_11 G M r0 i2 n) ih i3 i4 H locs ls w hl hk
set_option maxHeartbeats 4000000 in
set_option maxRecDepth 100000 in
theorem c_X0_heapNumber (l : Launch) (D : va_G) (cy : Cyy) (G : Gg) (M : Mm) (r0 : Nat) (i1 : Int32) {q : Int32} (hm : f_X0_heapNumber G M r0 i1 = some q) : CI l yX0_heapNumber wz_X0_heapNumber rm_X0_heapNumber D cy G M [.ref r0, .int i1] q M := by
  refine Met_of (Qf := fun A => QI D cy G A q M) (cc := cX0_heapNumber) (nL := 5) (ret := (some .int)) (own := RX0) (lv := [(0, .ref r0), (1, .int i1)]) (by decide) rfl rfl (Nat.le_of_ble_eq_true rfl) rfl ?_
  intro p e s m args below meth c A ls X hr hlk w hl
  have hx := X.1.1
  have hb := X.1.2.1
  obtain ⟨Qo, hR, hk⟩ : ∃ Qo : Int32 → Prop, (∀ x, Qo x → x = q) ∧ OK (f_X0_heapNumber G M r0 i1) Qo := ⟨fun x => x = q, fun _ h => h, q, hm, rfl⟩
  unfold f_X0_heapNumber at hk
  refine lv_aload_n hx hb dX0_heapNumber_0 rfl (lv_at hl 0 rfl) ?_
  refine lv_iload_n hx hb dX0_heapNumber_1 rfl (lv_at hl 1 rfl) ?_
  obtain ⟨c3, hk⟩ := ok_c hk
  obtain ⟨q1, e2, hk⟩ := ok_b hk
  refine zVi X w (n := 1) (As := [.int i1]) (rest := []) (ci := 0) (C := RX0) (T := TX0) (N := 7) (c_X0_heapOf l D cy G M r0 i1 e2) (gzV wm_X0_111 wi_X0_heapOf ws_X0_heapOf wn_X0 wc_X0_heapOf) rfl rfl rfl (by decide +kernel) (by decide) rfl c3 rfl rfl hl.1 (Nat.le_of_ble_eq_true rfl) dX0_heapNumber_2 ⟨Nat.zero_le _, Nat.zero_le _⟩ (fun H locs w => ?_)
  refine lv_istore_n (lv' := [(2, .int q1), (0, .ref r0), (1, .int i1)]) hx hb dX0_heapNumber_5 rfl hl (by decide) rfl (fun ls hl => ?_)
  refine lv_iconst (v := 0) hx hb dX0_heapNumber_6 (by decide) ?_
  refine lv_istore_n (lv' := [(3, .int (0 : Int32)), (2, .int q1), (0, .ref r0), (1, .int i1)]) hx hb dX0_heapNumber_7 rfl hl (by decide) rfl (fun ls hl => ?_)
  refine lv_iconst (v := 0) hx hb dX0_heapNumber_8 (by decide) ?_
  refine lv_istore (lv' := [(4, .int (0 : Int32)), (3, .int (0 : Int32)), (2, .int q1), (0, .ref r0), (1, .int i1)]) hx hb dX0_heapNumber_9 hl (by decide) rfl (fun ls hl => ?_)
  refine wl_X0_heapNumber_11 X M r0 q1 (Qo := _) (fun q12 hk H locs ls w hl => ?_) FU (0 : Int32) (0 : Int32) _ _ _ w (lv_sub hl [3, 2, 1, 0] rfl) (ok_b hk)
  refine lv_iload_n hx hb dX0_heapNumber_52 rfl (lv_at hl 0 rfl) ?_
  have hk := hR _ (ok_s hk)
  exact zri X hr hlk w dX0_heapNumber_53 hk rfl
abbrev rm_X0_heaps : Room := { frames := 3, cells := 0, slots := 0, locals := 65 }
set_option maxHeartbeats 4000000 in
set_option maxRecDepth 100000 in
theorem wb_X0_heaps_4 {p : Program} {l : Launch} {e : Env} {s : State} {m : MethodId} {args : Array Value} {below : List Frame} {meth : Method} {c : Code} {D : va_G} {cy : Cyy} {A : Nat → Prop} {G : Gg} (X : Cx p m c cX0_heaps 3 s args wz_X0_heaps RX0 D cy) {Q : State → Prop} (M : Mm) (r0 : Nat) (Qo : Int32 → Prop)  (hE : ∀ (y : Int32), Qo (y) → ∀ (H : Heap) (locs : List Loc) (ls : Array Slot), Wo s D cy A G M H locs → lv_has ls 3 [(1, .int y)] → W p l e rm_X0_heaps s m args below meth c H locs 0 0 Q (F0 m 34 ls [])) (rec : Int32 → Int32 → Option (Int32)) (hrec : ∀ (i1 : Int32) (i2 : Int32) (H : Heap) (locs : List Loc) (ls : Array Slot), Wo s D cy A G M H locs → lv_has ls 3 [(0, .ref r0), (1, .int i1), (2, .int i2)] → OK (rec i1 i2) Qo → W p l e rm_X0_heaps s m args below meth c H locs 0 0 Q (F0 m 4 ls [])) (i1 : Int32) (i2 : Int32) (H : Heap) (locs : List Loc) (ls : Array Slot) (w : Wo s D cy A G M H locs) (hl : lv_has ls 3 [(0, .ref r0), (1, .int i1), (2, .int i2)]) (hk : OK (bd_X0_heaps_4 G M r0 rec i1 i2) Qo) : W p l e rm_X0_heaps s m args below meth c H locs 0 0 Q (F0 m 4 ls []) := by
    have hx := X.1.1
    have hb := X.1.2.1
    unfold bd_X0_heaps_4 at hk
    refine lv_iload_n hx hb dX0_heaps_4 rfl (lv_at hl 2 rfl) ?_
    refine lv_aload_n hx hb dX0_heaps_5 rfl (lv_at hl 0 rfl) ?_
    obtain ⟨c1, hk⟩ := ok_c hk
    refine zgi X w 0 0 9 (C := RX0) (T := TX0) (N := 7) rfl ui_X0 (by decide) rfl (tb wf_X0_9) dX0_heaps_6 c1 ?_
    refine lv_icmp_ge (tgt := 34) hx hb dX0_heaps_9 (by decide) (fun c2 => ?_) (fun c2 => ?_)
    · have hk := ok_p c2 hk
      exact hE i1 (ok_s hk) _ _ _ w (lv_sub hl [1] rfl)
    · have hk := ok_n c2 hk
      refine lv_iload_n hx hb dX0_heaps_12 rfl (lv_at hl 1 rfl) ?_
      refine lv_aload_n hx hb dX0_heaps_13 rfl (lv_at hl 0 rfl) ?_
      refine lv_iload_n hx hb dX0_heaps_14 rfl (lv_at hl 2 rfl) ?_
      obtain ⟨q3, e4, hk⟩ := ok_b hk
      refine zVi X w (n := 1) (As := [.int i2]) (rest := [.int i1]) (ci := 0) (C := RX0) (T := TX0) (N := 7) (c_X0_isLeastOfHeap l D cy G M r0 i2 e4) (gzV wm_X0_114 wi_X0_isLeastOfHeap ws_X0_isLeastOfHeap wn_X0 wc_X0_isLeastOfHeap) rfl rfl rfl (by decide +kernel) (by decide) rfl c1 rfl rfl hl.1 (Nat.le_of_ble_eq_true rfl) dX0_heaps_15 ⟨Nat.zero_le _, Nat.zero_le _⟩ (fun H locs w => ?_)
      refine lv_if_eq (tgt := 25) hx hb dX0_heaps_18 (by decide) (fun c5 => ?_) (fun c5 => ?_)
      · have hk := ok_p c5 hk
        refine lv_iconst (v := 0) hx hb dX0_heaps_25 (by decide) ?_
        refine lv_iadd hx hb dX0_heaps_26 ?_
        refine lv_istore_n (lv' := [(1, .int (i1 + (0 : Int32))), (0, .ref r0), (2, .int i2)]) hx hb dX0_heaps_27 rfl hl (by decide) rfl (fun ls hl => ?_)
        refine lv_iinc (v := (i2 + 1)) (lv' := [(2, .int (i2 + 1)), (1, .int (i1 + (0 : Int32))), (0, .ref r0)]) hx hb dX0_heaps_28 hl (k := 2) rfl rfl (by decide) rfl (fun ls hl => ?_)
        refine lv_goto (tgt := 4) hx hb dX0_heaps_31 (by decide) ?_
        exact hrec (i1 + (0 : Int32)) (i2 + 1) _ _ _ w (lv_sub hl [2, 1, 0] rfl) hk
      · have hk := ok_n c5 hk
        refine lv_iconst (v := 1) hx hb dX0_heaps_21 (by decide) ?_
        refine lv_goto (tgt := 26) hx hb dX0_heaps_22 (by decide) ?_
        refine lv_iadd hx hb dX0_heaps_26 ?_
        refine lv_istore_n (lv' := [(1, .int (i1 + (1 : Int32))), (0, .ref r0), (2, .int i2)]) hx hb dX0_heaps_27 rfl hl (by decide) rfl (fun ls hl => ?_)
        refine lv_iinc (v := (i2 + 1)) (lv' := [(2, .int (i2 + 1)), (1, .int (i1 + (1 : Int32))), (0, .ref r0)]) hx hb dX0_heaps_28 hl (k := 2) rfl rfl (by decide) rfl (fun ls hl => ?_)
        refine lv_goto (tgt := 4) hx hb dX0_heaps_31 (by decide) ?_
        exact hrec (i1 + (1 : Int32)) (i2 + 1) _ _ _ w (lv_sub hl [2, 1, 0] rfl) hk
theorem wl_X0_heaps_4 {p : Program} {l : Launch} {e : Env} {s : State} {m : MethodId} {args : Array Value} {below : List Frame} {meth : Method} {c : Code} {D : va_G} {cy : Cyy} {A : Nat → Prop} {G : Gg} (X : Cx p m c cX0_heaps 3 s args wz_X0_heaps RX0 D cy) {Q : State → Prop} (M : Mm) (r0 : Nat) (Qo : Int32 → Prop)  (hE : ∀ (y : Int32), Qo (y) → ∀ (H : Heap) (locs : List Loc) (ls : Array Slot), Wo s D cy A G M H locs → lv_has ls 3 [(1, .int y)] → W p l e rm_X0_heaps s m args below meth c H locs 0 0 Q (F0 m 34 ls [])) : ∀ (n : Nat) (i1 : Int32) (i2 : Int32) (H : Heap) (locs : List Loc) (ls : Array Slot), Wo s D cy A G M H locs → lv_has ls 3 [(0, .ref r0), (1, .int i1), (2, .int i2)] → OK (lp_X0_heaps_4 G M r0 n i1 i2) Qo → W p l e rm_X0_heaps s m args below meth c H locs 0 0 Q (F0 m 4 ls []) := by
  intro n
  induction n with
  | zero => intro i1 i2 H locs ls w hl hk; exact ok_0 hk
  | succ n ih => intro i1 i2 H locs ls w hl hk; exact wb_X0_heaps_4 X M r0 Qo hE  (lp_X0_heaps_4 G M r0 n) ih i1 i2 H locs ls w hl hk
set_option maxHeartbeats 4000000 in
set_option maxRecDepth 100000 in
theorem c_X0_heaps (l : Launch) (D : va_G) (cy : Cyy) (G : Gg) (M : Mm) (r0 : Nat) {q : Int32} (hm : f_X0_heaps G M r0 = some q) : CI l yX0_heaps wz_X0_heaps rm_X0_heaps D cy G M [.ref r0] q M := by
  refine Met_of (Qf := fun A => QI D cy G A q M) (cc := cX0_heaps) (nL := 3) (ret := (some .int)) (own := RX0) (lv := [(0, .ref r0)]) (by decide) rfl rfl (Nat.le_of_ble_eq_true rfl) rfl ?_
  intro p e s m args below meth c A ls X hr hlk w hl
  have hx := X.1.1
  have hb := X.1.2.1
  obtain ⟨Qo, hR, hk⟩ : ∃ Qo : Int32 → Prop, (∀ x, Qo x → x = q) ∧ OK (f_X0_heaps G M r0) Qo := ⟨fun x => x = q, fun _ h => h, q, hm, rfl⟩
  unfold f_X0_heaps at hk
  refine lv_iconst (v := 0) hx hb dX0_heaps_0 (by decide) ?_
  refine lv_istore_n (lv' := [(1, .int (0 : Int32)), (0, .ref r0)]) hx hb dX0_heaps_1 rfl hl (by decide) rfl (fun ls hl => ?_)
  refine lv_iconst (v := 0) hx hb dX0_heaps_2 (by decide) ?_
  refine lv_istore_n (lv' := [(2, .int (0 : Int32)), (1, .int (0 : Int32)), (0, .ref r0)]) hx hb dX0_heaps_3 rfl hl (by decide) rfl (fun ls hl => ?_)
  refine wl_X0_heaps_4 X M r0 (Qo := _) (fun q6 hk H locs ls w hl => ?_) FU (0 : Int32) (0 : Int32) _ _ _ w (lv_sub hl [2, 1, 0] rfl) (ok_b hk)
  refine lv_iload_n hx hb dX0_heaps_34 rfl (lv_at hl 0 rfl) ?_
  have hk := hR _ (ok_s hk)
  exact zri X hr hlk w dX0_heaps_35 hk rfl
abbrev rm_X0_closedHeaps : Room := { frames := 3, cells := 0, slots := 0, locals := 65 }
set_option maxHeartbeats 4000000 in
set_option maxRecDepth 100000 in
theorem wb_X0_closedHeaps_4 {p : Program} {l : Launch} {e : Env} {s : State} {m : MethodId} {args : Array Value} {below : List Frame} {meth : Method} {c : Code} {D : va_G} {cy : Cyy} {A : Nat → Prop} {G : Gg} (X : Cx p m c cX0_closedHeaps 3 s args wz_X0_closedHeaps RX0 D cy) {Q : State → Prop} (M : Mm) (r0 : Nat) (Qo : Int32 → Prop)  (hE : ∀ (y : Int32), Qo (y) → ∀ (H : Heap) (locs : List Loc) (ls : Array Slot), Wo s D cy A G M H locs → lv_has ls 3 [(1, .int y)] → W p l e rm_X0_closedHeaps s m args below meth c H locs 0 0 Q (F0 m 42 ls [])) (rec : Int32 → Int32 → Option (Int32)) (hrec : ∀ (i1 : Int32) (i2 : Int32) (H : Heap) (locs : List Loc) (ls : Array Slot), Wo s D cy A G M H locs → lv_has ls 3 [(0, .ref r0), (1, .int i1), (2, .int i2)] → OK (rec i1 i2) Qo → W p l e rm_X0_closedHeaps s m args below meth c H locs 0 0 Q (F0 m 4 ls [])) (i1 : Int32) (i2 : Int32) (H : Heap) (locs : List Loc) (ls : Array Slot) (w : Wo s D cy A G M H locs) (hl : lv_has ls 3 [(0, .ref r0), (1, .int i1), (2, .int i2)]) (hk : OK (bd_X0_closedHeaps_4 G M r0 rec i1 i2) Qo) : W p l e rm_X0_closedHeaps s m args below meth c H locs 0 0 Q (F0 m 4 ls []) := by
    have hx := X.1.1
    have hb := X.1.2.1
    unfold bd_X0_closedHeaps_4 at hk
    refine lv_iload_n hx hb dX0_closedHeaps_4 rfl (lv_at hl 2 rfl) ?_
    refine lv_aload_n hx hb dX0_closedHeaps_5 rfl (lv_at hl 0 rfl) ?_
    obtain ⟨c1, hk⟩ := ok_c hk
    refine zgi X w 0 0 9 (C := RX0) (T := TX0) (N := 7) rfl ui_X0 (by decide) rfl (tb wf_X0_9) dX0_closedHeaps_6 c1 ?_
    refine lv_icmp_ge (tgt := 42) hx hb dX0_closedHeaps_9 (by decide) (fun c2 => ?_) (fun c2 => ?_)
    · have hk := ok_p c2 hk
      exact hE i1 (ok_s hk) _ _ _ w (lv_sub hl [1] rfl)
    · have hk := ok_n c2 hk
      refine lv_iload_n hx hb dX0_closedHeaps_12 rfl (lv_at hl 1 rfl) ?_
      refine lv_aload_n hx hb dX0_closedHeaps_13 rfl (lv_at hl 0 rfl) ?_
      refine lv_iload_n hx hb dX0_closedHeaps_14 rfl (lv_at hl 2 rfl) ?_
      obtain ⟨q3, e4, hk⟩ := ok_b hk
      refine zVi X w (n := 1) (As := [.int i2]) (rest := [.int i1]) (ci := 0) (C := RX0) (T := TX0) (N := 7) (c_X0_isLeastOfHeap l D cy G M r0 i2 e4) (gzV wm_X0_114 wi_X0_isLeastOfHeap ws_X0_isLeastOfHeap wn_X0 wc_X0_isLeastOfHeap) rfl rfl rfl (by decide +kernel) (by decide) rfl c1 rfl rfl hl.1 (Nat.le_of_ble_eq_true rfl) dX0_closedHeaps_15 ⟨Nat.zero_le _, Nat.zero_le _⟩ (fun H locs w => ?_)
      refine lv_if_eq (tgt := 33) hx hb dX0_closedHeaps_18 (by decide) (fun c5 => ?_) (fun c5 => ?_)
      · have hk := ok_p c5 hk
        refine lv_iconst (v := 0) hx hb dX0_closedHeaps_33 (by decide) ?_
        refine lv_iadd hx hb dX0_closedHeaps_34 ?_
        refine lv_istore_n (lv' := [(1, .int (i1 + (0 : Int32))), (0, .ref r0), (2, .int i2)]) hx hb dX0_closedHeaps_35 rfl hl (by decide) rfl (fun ls hl => ?_)
        refine lv_iinc (v := (i2 + 1)) (lv' := [(2, .int (i2 + 1)), (1, .int (i1 + (0 : Int32))), (0, .ref r0)]) hx hb dX0_closedHeaps_36 hl (k := 2) rfl rfl (by decide) rfl (fun ls hl => ?_)
        refine lv_goto (tgt := 4) hx hb dX0_closedHeaps_39 (by decide) ?_
        exact hrec (i1 + (0 : Int32)) (i2 + 1) _ _ _ w (lv_sub hl [2, 1, 0] rfl) hk
      · have hk := ok_n c5 hk
        refine lv_aload_n hx hb dX0_closedHeaps_21 rfl (lv_at hl 0 rfl) ?_
        refine lv_iload_n hx hb dX0_closedHeaps_22 rfl (lv_at hl 2 rfl) ?_
        obtain ⟨q6, e7, hk⟩ := ok_b hk
        refine zVi X w (n := 1) (As := [.int i2]) (rest := [.int i1]) (ci := 0) (C := RX0) (T := TX0) (N := 7) (c_X0_isClosed l D cy G M r0 i2 e7) (gzV wm_X0_117 wi_X0_isClosed ws_X0_isClosed wn_X0 wc_X0_isClosed) rfl rfl rfl (by decide +kernel) (by decide) rfl c1 rfl rfl hl.1 (Nat.le_of_ble_eq_true rfl) dX0_closedHeaps_23 ⟨Nat.zero_le _, Nat.zero_le _⟩ (fun H locs w => ?_)
        refine lv_if_eq (tgt := 33) hx hb dX0_closedHeaps_26 (by decide) (fun c8 => ?_) (fun c8 => ?_)
        · have hk := ok_p c8 hk
          refine lv_iconst (v := 0) hx hb dX0_closedHeaps_33 (by decide) ?_
          refine lv_iadd hx hb dX0_closedHeaps_34 ?_
          refine lv_istore_n (lv' := [(1, .int (i1 + (0 : Int32))), (0, .ref r0), (2, .int i2)]) hx hb dX0_closedHeaps_35 rfl hl (by decide) rfl (fun ls hl => ?_)
          refine lv_iinc (v := (i2 + 1)) (lv' := [(2, .int (i2 + 1)), (1, .int (i1 + (0 : Int32))), (0, .ref r0)]) hx hb dX0_closedHeaps_36 hl (k := 2) rfl rfl (by decide) rfl (fun ls hl => ?_)
          refine lv_goto (tgt := 4) hx hb dX0_closedHeaps_39 (by decide) ?_
          exact hrec (i1 + (0 : Int32)) (i2 + 1) _ _ _ w (lv_sub hl [2, 1, 0] rfl) hk
        · have hk := ok_n c8 hk
          refine lv_iconst (v := 1) hx hb dX0_closedHeaps_29 (by decide) ?_
          refine lv_goto (tgt := 34) hx hb dX0_closedHeaps_30 (by decide) ?_
          refine lv_iadd hx hb dX0_closedHeaps_34 ?_
          refine lv_istore_n (lv' := [(1, .int (i1 + (1 : Int32))), (0, .ref r0), (2, .int i2)]) hx hb dX0_closedHeaps_35 rfl hl (by decide) rfl (fun ls hl => ?_)
          refine lv_iinc (v := (i2 + 1)) (lv' := [(2, .int (i2 + 1)), (1, .int (i1 + (1 : Int32))), (0, .ref r0)]) hx hb dX0_closedHeaps_36 hl (k := 2) rfl rfl (by decide) rfl (fun ls hl => ?_)
          refine lv_goto (tgt := 4) hx hb dX0_closedHeaps_39 (by decide) ?_
          exact hrec (i1 + (1 : Int32)) (i2 + 1) _ _ _ w (lv_sub hl [2, 1, 0] rfl) hk
theorem wl_X0_closedHeaps_4 {p : Program} {l : Launch} {e : Env} {s : State} {m : MethodId} {args : Array Value} {below : List Frame} {meth : Method} {c : Code} {D : va_G} {cy : Cyy} {A : Nat → Prop} {G : Gg} (X : Cx p m c cX0_closedHeaps 3 s args wz_X0_closedHeaps RX0 D cy) {Q : State → Prop} (M : Mm) (r0 : Nat) (Qo : Int32 → Prop)  (hE : ∀ (y : Int32), Qo (y) → ∀ (H : Heap) (locs : List Loc) (ls : Array Slot), Wo s D cy A G M H locs → lv_has ls 3 [(1, .int y)] → W p l e rm_X0_closedHeaps s m args below meth c H locs 0 0 Q (F0 m 42 ls [])) : ∀ (n : Nat) (i1 : Int32) (i2 : Int32) (H : Heap) (locs : List Loc) (ls : Array Slot), Wo s D cy A G M H locs → lv_has ls 3 [(0, .ref r0), (1, .int i1), (2, .int i2)] → OK (lp_X0_closedHeaps_4 G M r0 n i1 i2) Qo → W p l e rm_X0_closedHeaps s m args below meth c H locs 0 0 Q (F0 m 4 ls []) := by
  intro n
  induction n with
  | zero => intro i1 i2 H locs ls w hl hk; exact ok_0 hk
  | succ n ih => intro i1 i2 H locs ls w hl hk; exact wb_X0_closedHeaps_4 X M r0 Qo hE  (lp_X0_closedHeaps_4 G M r0 n) ih i1 i2 H locs ls w hl hk
set_option maxHeartbeats 4000000 in
set_option maxRecDepth 100000 in
theorem c_X0_closedHeaps (l : Launch) (D : va_G) (cy : Cyy) (G : Gg) (M : Mm) (r0 : Nat) {q : Int32} (hm : f_X0_closedHeaps G M r0 = some q) : CI l yX0_closedHeaps wz_X0_closedHeaps rm_X0_closedHeaps D cy G M [.ref r0] q M := by
  refine Met_of (Qf := fun A => QI D cy G A q M) (cc := cX0_closedHeaps) (nL := 3) (ret := (some .int)) (own := RX0) (lv := [(0, .ref r0)]) (by decide) rfl rfl (Nat.le_of_ble_eq_true rfl) rfl ?_
  intro p e s m args below meth c A ls X hr hlk w hl
  have hx := X.1.1
  have hb := X.1.2.1
  obtain ⟨Qo, hR, hk⟩ : ∃ Qo : Int32 → Prop, (∀ x, Qo x → x = q) ∧ OK (f_X0_closedHeaps G M r0) Qo := ⟨fun x => x = q, fun _ h => h, q, hm, rfl⟩
  unfold f_X0_closedHeaps at hk
  refine lv_iconst (v := 0) hx hb dX0_closedHeaps_0 (by decide) ?_
  refine lv_istore_n (lv' := [(1, .int (0 : Int32)), (0, .ref r0)]) hx hb dX0_closedHeaps_1 rfl hl (by decide) rfl (fun ls hl => ?_)
  refine lv_iconst (v := 0) hx hb dX0_closedHeaps_2 (by decide) ?_
  refine lv_istore_n (lv' := [(2, .int (0 : Int32)), (1, .int (0 : Int32)), (0, .ref r0)]) hx hb dX0_closedHeaps_3 rfl hl (by decide) rfl (fun ls hl => ?_)
  refine wl_X0_closedHeaps_4 X M r0 (Qo := _) (fun q9 hk H locs ls w hl => ?_) FU (0 : Int32) (0 : Int32) _ _ _ w (lv_sub hl [2, 1, 0] rfl) (ok_b hk)
  refine lv_iload_n hx hb dX0_closedHeaps_42 rfl (lv_at hl 0 rfl) ?_
  have hk := hR _ (ok_s hk)
  exact zri X hr hlk w dX0_closedHeaps_43 hk rfl
abbrev rm_X0_closedStates : Room := { frames := 3, cells := 0, slots := 0, locals := 65 }
set_option maxHeartbeats 4000000 in
set_option maxRecDepth 100000 in
theorem wb_X0_closedStates_4 {p : Program} {l : Launch} {e : Env} {s : State} {m : MethodId} {args : Array Value} {below : List Frame} {meth : Method} {c : Code} {D : va_G} {cy : Cyy} {A : Nat → Prop} {G : Gg} (X : Cx p m c cX0_closedStates 3 s args wz_X0_closedStates RX0 D cy) {Q : State → Prop} (M : Mm) (r0 : Nat) (Qo : Int32 → Prop)  (hE : ∀ (y : Int32), Qo (y) → ∀ (H : Heap) (locs : List Loc) (ls : Array Slot), Wo s D cy A G M H locs → lv_has ls 3 [(1, .int y)] → W p l e rm_X0_closedStates s m args below meth c H locs 0 0 Q (F0 m 36 ls [])) (rec : Int32 → Int32 → Option (Int32)) (hrec : ∀ (i1 : Int32) (i2 : Int32) (H : Heap) (locs : List Loc) (ls : Array Slot), Wo s D cy A G M H locs → lv_has ls 3 [(0, .ref r0), (1, .int i1), (2, .int i2)] → OK (rec i1 i2) Qo → W p l e rm_X0_closedStates s m args below meth c H locs 0 0 Q (F0 m 4 ls [])) (i1 : Int32) (i2 : Int32) (H : Heap) (locs : List Loc) (ls : Array Slot) (w : Wo s D cy A G M H locs) (hl : lv_has ls 3 [(0, .ref r0), (1, .int i1), (2, .int i2)]) (hk : OK (bd_X0_closedStates_4 G M r0 rec i1 i2) Qo) : W p l e rm_X0_closedStates s m args below meth c H locs 0 0 Q (F0 m 4 ls []) := by
    have hx := X.1.1
    have hb := X.1.2.1
    unfold bd_X0_closedStates_4 at hk
    refine lv_iload_n hx hb dX0_closedStates_4 rfl (lv_at hl 2 rfl) ?_
    refine lv_aload_n hx hb dX0_closedStates_5 rfl (lv_at hl 0 rfl) ?_
    obtain ⟨c1, hk⟩ := ok_c hk
    refine zgi X w 0 0 9 (C := RX0) (T := TX0) (N := 7) rfl ui_X0 (by decide) rfl (tb wf_X0_9) dX0_closedStates_6 c1 ?_
    refine lv_icmp_ge (tgt := 36) hx hb dX0_closedStates_9 (by decide) (fun c2 => ?_) (fun c2 => ?_)
    · have hk := ok_p c2 hk
      exact hE i1 (ok_s hk) _ _ _ w (lv_sub hl [1] rfl)
    · have hk := ok_n c2 hk
      refine lv_iload_n hx hb dX0_closedStates_12 rfl (lv_at hl 1 rfl) ?_
      refine lv_aload_n hx hb dX0_closedStates_13 rfl (lv_at hl 0 rfl) ?_
      refine lv_iload_n hx hb dX0_closedStates_14 rfl (lv_at hl 2 rfl) ?_
      obtain ⟨q3, e4, hk⟩ := ok_b hk
      refine zVi X w (n := 1) (As := [.int i2]) (rest := [.int i1]) (ci := 0) (C := RX0) (T := TX0) (N := 7) (c_X0_isClosed l D cy G M r0 i2 e4) (gzV wm_X0_117 wi_X0_isClosed ws_X0_isClosed wn_X0 wc_X0_isClosed) rfl rfl rfl (by decide +kernel) (by decide) rfl c1 rfl rfl hl.1 (Nat.le_of_ble_eq_true rfl) dX0_closedStates_15 ⟨Nat.zero_le _, Nat.zero_le _⟩ (fun H locs w => ?_)
      refine lv_if_eq (tgt := 27) hx hb dX0_closedStates_18 (by decide) (fun c5 => ?_) (fun c5 => ?_)
      · have hk := ok_p c5 hk
        refine lv_iconst (v := 0) hx hb dX0_closedStates_27 (by decide) ?_
        refine lv_ior hx hb dX0_closedStates_28 ?_
        refine lv_istore_n (lv' := [(1, .int (i1 ||| (0 : Int32))), (0, .ref r0), (2, .int i2)]) hx hb dX0_closedStates_29 rfl hl (by decide) rfl (fun ls hl => ?_)
        refine lv_iinc (v := (i2 + 1)) (lv' := [(2, .int (i2 + 1)), (1, .int (i1 ||| (0 : Int32))), (0, .ref r0)]) hx hb dX0_closedStates_30 hl (k := 2) rfl rfl (by decide) rfl (fun ls hl => ?_)
        refine lv_goto (tgt := 4) hx hb dX0_closedStates_33 (by decide) ?_
        exact hrec (i1 ||| (0 : Int32)) (i2 + 1) _ _ _ w (lv_sub hl [2, 1, 0] rfl) hk
      · have hk := ok_n c5 hk
        refine lv_iconst (v := 1) hx hb dX0_closedStates_21 (by decide) ?_
        refine lv_iload_n hx hb dX0_closedStates_22 rfl (lv_at hl 2 rfl) ?_
        refine lv_ishl hx hb dX0_closedStates_23 ?_
        refine lv_goto (tgt := 28) hx hb dX0_closedStates_24 (by decide) ?_
        refine lv_ior hx hb dX0_closedStates_28 ?_
        refine lv_istore_n (lv' := [(1, .int (i1 ||| ((1 : Int32) <<< (i2 &&& 31)))), (0, .ref r0), (2, .int i2)]) hx hb dX0_closedStates_29 rfl hl (by decide) rfl (fun ls hl => ?_)
        refine lv_iinc (v := (i2 + 1)) (lv' := [(2, .int (i2 + 1)), (1, .int (i1 ||| ((1 : Int32) <<< (i2 &&& 31)))), (0, .ref r0)]) hx hb dX0_closedStates_30 hl (k := 2) rfl rfl (by decide) rfl (fun ls hl => ?_)
        refine lv_goto (tgt := 4) hx hb dX0_closedStates_33 (by decide) ?_
        exact hrec (i1 ||| ((1 : Int32) <<< (i2 &&& 31))) (i2 + 1) _ _ _ w (lv_sub hl [2, 1, 0] rfl) hk
theorem wl_X0_closedStates_4 {p : Program} {l : Launch} {e : Env} {s : State} {m : MethodId} {args : Array Value} {below : List Frame} {meth : Method} {c : Code} {D : va_G} {cy : Cyy} {A : Nat → Prop} {G : Gg} (X : Cx p m c cX0_closedStates 3 s args wz_X0_closedStates RX0 D cy) {Q : State → Prop} (M : Mm) (r0 : Nat) (Qo : Int32 → Prop)  (hE : ∀ (y : Int32), Qo (y) → ∀ (H : Heap) (locs : List Loc) (ls : Array Slot), Wo s D cy A G M H locs → lv_has ls 3 [(1, .int y)] → W p l e rm_X0_closedStates s m args below meth c H locs 0 0 Q (F0 m 36 ls [])) : ∀ (n : Nat) (i1 : Int32) (i2 : Int32) (H : Heap) (locs : List Loc) (ls : Array Slot), Wo s D cy A G M H locs → lv_has ls 3 [(0, .ref r0), (1, .int i1), (2, .int i2)] → OK (lp_X0_closedStates_4 G M r0 n i1 i2) Qo → W p l e rm_X0_closedStates s m args below meth c H locs 0 0 Q (F0 m 4 ls []) := by
  intro n
  induction n with
  | zero => intro i1 i2 H locs ls w hl hk; exact ok_0 hk
  | succ n ih => intro i1 i2 H locs ls w hl hk; exact wb_X0_closedStates_4 X M r0 Qo hE  (lp_X0_closedStates_4 G M r0 n) ih i1 i2 H locs ls w hl hk
set_option maxHeartbeats 4000000 in
set_option maxRecDepth 100000 in
theorem c_X0_closedStates (l : Launch) (D : va_G) (cy : Cyy) (G : Gg) (M : Mm) (r0 : Nat) {q : Int32} (hm : f_X0_closedStates G M r0 = some q) : CI l yX0_closedStates wz_X0_closedStates rm_X0_closedStates D cy G M [.ref r0] q M := by
  refine Met_of (Qf := fun A => QI D cy G A q M) (cc := cX0_closedStates) (nL := 3) (ret := (some .int)) (own := RX0) (lv := [(0, .ref r0)]) (by decide) rfl rfl (Nat.le_of_ble_eq_true rfl) rfl ?_
  intro p e s m args below meth c A ls X hr hlk w hl
  have hx := X.1.1
  have hb := X.1.2.1
  obtain ⟨Qo, hR, hk⟩ : ∃ Qo : Int32 → Prop, (∀ x, Qo x → x = q) ∧ OK (f_X0_closedStates G M r0) Qo := ⟨fun x => x = q, fun _ h => h, q, hm, rfl⟩
  unfold f_X0_closedStates at hk
  refine lv_iconst (v := 0) hx hb dX0_closedStates_0 (by decide) ?_
  refine lv_istore_n (lv' := [(1, .int (0 : Int32)), (0, .ref r0)]) hx hb dX0_closedStates_1 rfl hl (by decide) rfl (fun ls hl => ?_)
  refine lv_iconst (v := 0) hx hb dX0_closedStates_2 (by decide) ?_
  refine lv_istore_n (lv' := [(2, .int (0 : Int32)), (1, .int (0 : Int32)), (0, .ref r0)]) hx hb dX0_closedStates_3 rfl hl (by decide) rfl (fun ls hl => ?_)
  refine wl_X0_closedStates_4 X M r0 (Qo := _) (fun q6 hk H locs ls w hl => ?_) FU (0 : Int32) (0 : Int32) _ _ _ w (lv_sub hl [2, 1, 0] rfl) (ok_b hk)
  refine lv_iload_n hx hb dX0_closedStates_36 rfl (lv_at hl 0 rfl) ?_
  have hk := hR _ (ok_s hk)
  exact zri X hr hlk w dX0_closedStates_37 hk rfl
abbrev rm_X0_beat : Room := { frames := 2, cells := 0, slots := 0, locals := 44 }
set_option maxHeartbeats 4000000 in
set_option maxRecDepth 100000 in
theorem wb_X0_beat_9 {p : Program} {l : Launch} {e : Env} {s : State} {m : MethodId} {args : Array Value} {below : List Frame} {meth : Method} {c : Code} {D : va_G} {cy : Cyy} {A : Nat → Prop} {G : Gg} (X : Cx p m c cX0_beat 6 s args wz_X0_beat RX0 D cy) {Q : State → Prop} (M : Mm) (r0 : Nat) (i1 : Int32) (Qo : Int64 → Prop)  (hE : ∀ (y : Int64), Qo (y) → ∀ (H : Heap) (locs : List Loc) (ls : Array Slot), Wo s D cy A G M H locs → lv_has ls 6 [(3, .long y)] → W p l e rm_X0_beat s m args below meth c H locs 0 0 Q (F0 m 48 ls [])) (rec : Int32 → Int64 → Int32 → Option (Int64)) (hrec : ∀ (i2 : Int32) (l3 : Int64) (i5 : Int32) (H : Heap) (locs : List Loc) (ls : Array Slot), Wo s D cy A G M H locs → lv_has ls 6 [(0, .ref r0), (1, .int i1), (2, .int i2), (3, .long l3), (5, .int i5)] → OK (rec i2 l3 i5) Qo → W p l e rm_X0_beat s m args below meth c H locs 0 0 Q (F0 m 9 ls [])) (i2 : Int32) (l3 : Int64) (i5 : Int32) (H : Heap) (locs : List Loc) (ls : Array Slot) (w : Wo s D cy A G M H locs) (hl : lv_has ls 6 [(0, .ref r0), (1, .int i1), (2, .int i2), (3, .long l3), (5, .int i5)]) (hk : OK (bd_X0_beat_9 G M r0 i1 rec i2 l3 i5) Qo) : W p l e rm_X0_beat s m args below meth c H locs 0 0 Q (F0 m 9 ls []) := by
    have hx := X.1.1
    have hb := X.1.2.1
    unfold bd_X0_beat_9 at hk
    refine lv_iload hx hb dX0_beat_9 (lv_at hl 4 rfl) ?_
    refine lv_iconst (v := 3) hx hb dX0_beat_11 (by decide) ?_
    refine lv_aload_n hx hb dX0_beat_12 rfl (lv_at hl 0 rfl) ?_
    obtain ⟨c1, hk⟩ := ok_c hk
    refine zgi X w 0 0 9 (C := RX0) (T := TX0) (N := 7) rfl ui_X0 (by decide) rfl (tb wf_X0_9) dX0_beat_13 c1 ?_
    refine lv_imul hx hb dX0_beat_16 ?_
    refine lv_icmp_gt (tgt := 48) hx hb dX0_beat_17 (by decide) (fun c2 => ?_) (fun c2 => ?_)
    · have hk := ok_p c2 hk
      exact hE l3 (ok_s hk) _ _ _ w (lv_sub hl [3] rfl)
    · have hk := ok_n c2 hk
      refine lv_aload_n hx hb dX0_beat_20 rfl (lv_at hl 0 rfl) ?_
      refine lv_iload_n hx hb dX0_beat_21 rfl (lv_at hl 2 rfl) ?_
      obtain ⟨q3, e4, hk⟩ := ok_b hk
      refine zVi X w (n := 1) (As := [.int i2]) (rest := []) (ci := 0) (C := RX0) (T := TX0) (N := 7) (c_X0_nextsOf l D cy G M r0 i2 e4) (gzV wm_X0_120 wi_X0_nextsOf ws_X0_nextsOf wn_X0 wc_X0_nextsOf) rfl rfl rfl (by decide +kernel) (by decide) rfl c1 rfl rfl hl.1 (Nat.le_of_ble_eq_true rfl) dX0_beat_22 ⟨Nat.zero_le _, Nat.zero_le _⟩ (fun H locs w => ?_)
      refine lv_istore_n (lv' := [(2, .int q3), (0, .ref r0), (1, .int i1), (3, .long l3), (5, .int i5)]) hx hb dX0_beat_25 rfl hl (by decide) rfl (fun ls hl => ?_)
      refine lv_iload_n hx hb dX0_beat_26 rfl (lv_at hl 0 rfl) ?_
      refine lv_iload_n hx hb dX0_beat_27 rfl (lv_at hl 2 rfl) ?_
      obtain ⟨q5, e6, hk⟩ := ok_b hk
      refine zNi X w (n := 2) (As := [.int q3, .int i1]) (rest := []) (host := "BlendBench") (c_X8_has l D cy G M q3 i1 e6) (gzN wc_X8_has) rfl rfl rfl (by decide +kernel) (tb wn_X8) (tb wt_X8_has) (by decide +kernel) (by decide) rfl rfl hl.1 (Nat.le_of_ble_eq_true rfl) dX0_beat_28 ⟨Nat.zero_le _, Nat.zero_le _⟩ (fun H locs w => ?_)
      refine lv_if_eq (tgt := 42) hx hb dX0_beat_31 (by decide) (fun c7 => ?_) (fun c7 => ?_)
      · have hk := ok_p c7 hk
        refine lv_iinc (v := (i5 + 1)) (lv' := [(5, .int (i5 + 1)), (2, .int q3), (0, .ref r0), (1, .int i1), (3, .long l3)]) hx hb dX0_beat_42 hl (k := 4) rfl rfl (by decide) rfl (fun ls hl => ?_)
        refine lv_goto (tgt := 9) hx hb dX0_beat_45 (by decide) ?_
        exact hrec q3 l3 (i5 + 1) _ _ _ w (lv_sub hl [2, 3, 1, 4, 0] rfl) hk
      · have hk := ok_n c7 hk
        refine lv_lload_n hx hb dX0_beat_34 rfl (lv_at hl 3 rfl) ?_
        refine lv_iload hx hb dX0_beat_35 (lv_at hl 4 rfl) ?_
        refine lv_i2l hx hb dX0_beat_37 rfl ?_
        obtain ⟨q8, e9, hk⟩ := ok_b hk
        refine zNl X w (n := 2) (As := [.long l3, .long (Int32.toInt64 i5)]) (rest := []) (host := "BlendBench") (c_X8_commonDivisor l D cy G M l3 (Int32.toInt64 i5) e9) (gzN wc_X8_commonDivisor) rfl rfl rfl (by decide +kernel) (tb wn_X8) (tb wt_X8_commonDivisor) (by decide +kernel) (by decide) rfl rfl hl.1 (Nat.le_of_ble_eq_true rfl) dX0_beat_38 ⟨Nat.zero_le _, Nat.zero_le _⟩ (fun H locs w => ?_)
        refine lv_lstore_n (lv' := [(3, .long q8), (2, .int q3), (0, .ref r0), (1, .int i1), (5, .int i5)]) hx hb dX0_beat_41 rfl hl (by decide) rfl (fun ls hl => ?_)
        refine lv_iinc (v := (i5 + 1)) (lv' := [(5, .int (i5 + 1)), (3, .long q8), (2, .int q3), (0, .ref r0), (1, .int i1)]) hx hb dX0_beat_42 hl (k := 4) rfl rfl (by decide) rfl (fun ls hl => ?_)
        refine lv_goto (tgt := 9) hx hb dX0_beat_45 (by decide) ?_
        exact hrec q3 q8 (i5 + 1) _ _ _ w (lv_sub hl [3, 4, 2, 1, 0] rfl) hk
theorem wl_X0_beat_9 {p : Program} {l : Launch} {e : Env} {s : State} {m : MethodId} {args : Array Value} {below : List Frame} {meth : Method} {c : Code} {D : va_G} {cy : Cyy} {A : Nat → Prop} {G : Gg} (X : Cx p m c cX0_beat 6 s args wz_X0_beat RX0 D cy) {Q : State → Prop} (M : Mm) (r0 : Nat) (i1 : Int32) (Qo : Int64 → Prop)  (hE : ∀ (y : Int64), Qo (y) → ∀ (H : Heap) (locs : List Loc) (ls : Array Slot), Wo s D cy A G M H locs → lv_has ls 6 [(3, .long y)] → W p l e rm_X0_beat s m args below meth c H locs 0 0 Q (F0 m 48 ls [])) : ∀ (n : Nat) (i2 : Int32) (l3 : Int64) (i5 : Int32) (H : Heap) (locs : List Loc) (ls : Array Slot), Wo s D cy A G M H locs → lv_has ls 6 [(0, .ref r0), (1, .int i1), (2, .int i2), (3, .long l3), (5, .int i5)] → OK (lp_X0_beat_9 G M r0 i1 n i2 l3 i5) Qo → W p l e rm_X0_beat s m args below meth c H locs 0 0 Q (F0 m 9 ls []) := by
  intro n
  induction n with
  | zero => intro i2 l3 i5 H locs ls w hl hk; exact ok_0 hk
  | succ n ih => intro i2 l3 i5 H locs ls w hl hk; exact wb_X0_beat_9 X M r0 i1 Qo hE  (lp_X0_beat_9 G M r0 i1 n) ih i2 l3 i5 H locs ls w hl hk
set_option maxHeartbeats 4000000 in
set_option maxRecDepth 100000 in
theorem c_X0_beat (l : Launch) (D : va_G) (cy : Cyy) (G : Gg) (M : Mm) (r0 : Nat) (i1 : Int32) {q : Int32} (hm : f_X0_beat G M r0 i1 = some q) : CI l yX0_beat wz_X0_beat rm_X0_beat D cy G M [.ref r0, .int i1] q M := by
  refine Met_of (Qf := fun A => QI D cy G A q M) (cc := cX0_beat) (nL := 6) (ret := (some .int)) (own := RX0) (lv := [(0, .ref r0), (1, .int i1)]) (by decide) rfl rfl (Nat.le_of_ble_eq_true rfl) rfl ?_
  intro p e s m args below meth c A ls X hr hlk w hl
  have hx := X.1.1
  have hb := X.1.2.1
  obtain ⟨Qo, hR, hk⟩ : ∃ Qo : Int32 → Prop, (∀ x, Qo x → x = q) ∧ OK (f_X0_beat G M r0 i1) Qo := ⟨fun x => x = q, fun _ h => h, q, hm, rfl⟩
  unfold f_X0_beat at hk
  refine lv_iconst (v := 1) hx hb dX0_beat_0 (by decide) ?_
  refine lv_iload_n hx hb dX0_beat_1 rfl (lv_at hl 1 rfl) ?_
  refine lv_ishl hx hb dX0_beat_2 ?_
  refine lv_istore_n (lv' := [(2, .int ((1 : Int32) <<< (i1 &&& 31))), (0, .ref r0), (1, .int i1)]) hx hb dX0_beat_3 rfl hl (by decide) rfl (fun ls hl => ?_)
  refine lv_lconst (v := 0) hx hb dX0_beat_4 (by decide) ?_
  refine lv_lstore_n (lv' := [(3, .long (0 : Int64)), (2, .int ((1 : Int32) <<< (i1 &&& 31))), (0, .ref r0), (1, .int i1)]) hx hb dX0_beat_5 rfl hl (by decide) rfl (fun ls hl => ?_)
  refine lv_iconst (v := 1) hx hb dX0_beat_6 (by decide) ?_
  refine lv_istore (lv' := [(5, .int (1 : Int32)), (3, .long (0 : Int64)), (2, .int ((1 : Int32) <<< (i1 &&& 31))), (0, .ref r0), (1, .int i1)]) hx hb dX0_beat_7 hl (by decide) rfl (fun ls hl => ?_)
  refine wl_X0_beat_9 X M r0 i1 (Qo := _) (fun q10 hk H locs ls w hl => ?_) FU ((1 : Int32) <<< (i1 &&& 31)) (0 : Int64) (1 : Int32) _ _ _ w (lv_sub hl [3, 4, 2, 1, 0] rfl) (ok_b hk)
  refine lv_lload_n hx hb dX0_beat_48 rfl (lv_at hl 0 rfl) ?_
  refine lv_l2i hx hb dX0_beat_49 rfl ?_
  have hk := hR _ (ok_s hk)
  exact zri X hr hlk w dX0_beat_50 hk rfl
abbrev rm_X0_isWhole : Room := { frames := 4, cells := 0, slots := 0, locals := 87 }
set_option maxHeartbeats 4000000 in
set_option maxRecDepth 100000 in
theorem c_X0_isWhole (l : Launch) (D : va_G) (cy : Cyy) (G : Gg) (M : Mm) (r0 : Nat) {q : Int32} (hm : f_X0_isWhole G M r0 = some q) : CI l yX0_isWhole wz_X0_isWhole rm_X0_isWhole D cy G M [.ref r0] q M := by
  refine Met_of (Qf := fun A => QI D cy G A q M) (cc := cX0_isWhole) (nL := 1) (ret := (some .boolean)) (own := RX0) (lv := [(0, .ref r0)]) (by decide) rfl rfl (Nat.le_of_ble_eq_true rfl) rfl ?_
  intro p e s m args below meth c A ls X hr hlk w hl
  have hx := X.1.1
  have hb := X.1.2.1
  obtain ⟨Qo, hR, hk⟩ : ∃ Qo : Int32 → Prop, (∀ x, Qo x → x = q) ∧ OK (f_X0_isWhole G M r0) Qo := ⟨fun x => x = q, fun _ h => h, q, hm, rfl⟩
  unfold f_X0_isWhole at hk
  refine lv_aload_n hx hb dX0_isWhole_0 rfl (lv_at hl 0 rfl) ?_
  obtain ⟨c3, hk⟩ := ok_c hk
  obtain ⟨q1, e2, hk⟩ := ok_b hk
  refine zVi X w (n := 0) (As := []) (rest := []) (ci := 0) (C := RX0) (T := TX0) (N := 7) (c_X0_heaps l D cy G M r0 e2) (gzV wm_X0_123 wi_X0_heaps ws_X0_heaps wn_X0 wc_X0_heaps) rfl rfl rfl (by decide +kernel) (by decide) rfl c3 rfl rfl hl.1 (Nat.le_of_ble_eq_true rfl) dX0_isWhole_1 ⟨Nat.zero_le _, Nat.zero_le _⟩ (fun H locs w => ?_)
  refine lv_iconst (v := 1) hx hb dX0_isWhole_4 (by decide) ?_
  refine lv_icmp_ne (tgt := 12) hx hb dX0_isWhole_5 (by decide) (fun c4 => ?_) (fun c4 => ?_)
  · have hk := ok_n c4 hk
    refine lv_iconst (v := 0) hx hb dX0_isWhole_12 (by decide) ?_
    have hk := hR _ (ok_s hk)
    exact zrz X hr hlk w dX0_isWhole_13 (by decide) hk rfl
  · have hk := ok_p c4 hk
    refine lv_iconst (v := 1) hx hb dX0_isWhole_8 (by decide) ?_
    refine lv_goto (tgt := 13) hx hb dX0_isWhole_9 (by decide) ?_
    have hk := hR _ (ok_s hk)
    exact zrz X hr hlk w dX0_isWhole_13 (by decide) hk rfl
abbrev rm_X0_wholeness : Room := { frames := 5, cells := 0, slots := 0, locals := 107 }
set_option maxHeartbeats 4000000 in
set_option maxRecDepth 100000 in
theorem c_X0_wholeness (l : Launch) (D : va_G) (cy : Cyy) (G : Gg) (M : Mm) (r0 : Nat) {q : Int32} (hm : f_X0_wholeness G M r0 = some q) : CI l yX0_wholeness wz_X0_wholeness rm_X0_wholeness D cy G M [.ref r0] q M := by
  refine Met_of (Qf := fun A => QI D cy G A q M) (cc := cX0_wholeness) (nL := 1) (ret := (some .int)) (own := RX0) (lv := [(0, .ref r0)]) (by decide) rfl rfl (Nat.le_of_ble_eq_true rfl) rfl ?_
  intro p e s m args below meth c A ls X hr hlk w hl
  have hx := X.1.1
  have hb := X.1.2.1
  obtain ⟨Qo, hR, hk⟩ : ∃ Qo : Int32 → Prop, (∀ x, Qo x → x = q) ∧ OK (f_X0_wholeness G M r0) Qo := ⟨fun x => x = q, fun _ h => h, q, hm, rfl⟩
  unfold f_X0_wholeness at hk
  refine lv_aload_n hx hb dX0_wholeness_0 rfl (lv_at hl 0 rfl) ?_
  obtain ⟨c3, hk⟩ := ok_c hk
  obtain ⟨q1, e2, hk⟩ := ok_b hk
  refine zVi X w (n := 0) (As := []) (rest := []) (ci := 0) (C := RX0) (T := TX0) (N := 7) (c_X0_isWhole l D cy G M r0 e2) (gzV wm_X0_126 wi_X0_isWhole ws_X0_isWhole wn_X0 wc_X0_isWhole) rfl rfl rfl (by decide +kernel) (by decide) rfl c3 rfl rfl hl.1 (Nat.le_of_ble_eq_true rfl) dX0_wholeness_1 ⟨Nat.zero_le _, Nat.zero_le _⟩ (fun H locs w => ?_)
  refine lv_if_ne (tgt := 9) hx hb dX0_wholeness_4 (by decide) (fun c4 => ?_) (fun c4 => ?_)
  · have hk := ok_n c4 hk
    refine lv_aload_n hx hb dX0_wholeness_9 rfl (lv_at hl 0 rfl) ?_
    refine lv_iconst (v := 0) hx hb dX0_wholeness_10 (by decide) ?_
    obtain ⟨q5, e6, hk⟩ := ok_b hk
    refine zVi X w (n := 1) (As := [.int (0 : Int32)]) (rest := []) (ci := 0) (C := RX0) (T := TX0) (N := 7) (c_X0_beat l D cy G M r0 (0 : Int32) e6) (gzV wm_X0_130 wi_X0_beat ws_X0_beat wn_X0 wc_X0_beat) rfl rfl rfl (by decide +kernel) (by decide) rfl c3 rfl rfl hl.1 (Nat.le_of_ble_eq_true rfl) dX0_wholeness_11 ⟨Nat.zero_le _, Nat.zero_le _⟩ (fun H locs w => ?_)
    refine lv_iconst (v := 1) hx hb dX0_wholeness_14 (by decide) ?_
    refine lv_icmp_ne (tgt := 22) hx hb dX0_wholeness_15 (by decide) (fun c7 => ?_) (fun c7 => ?_)
    · have hk := ok_n c7 hk
      refine lv_iconst (v := 1) hx hb dX0_wholeness_22 (by decide) ?_
      have hk := hR _ (ok_s hk)
      exact zri X hr hlk w dX0_wholeness_23 hk rfl
    · have hk := ok_p c7 hk
      refine lv_iconst (v := 2) hx hb dX0_wholeness_18 (by decide) ?_
      refine lv_goto (tgt := 23) hx hb dX0_wholeness_19 (by decide) ?_
      have hk := hR _ (ok_s hk)
      exact zri X hr hlk w dX0_wholeness_23 hk rfl
  · have hk := ok_p c4 hk
    refine lv_iconst (v := 0) hx hb dX0_wholeness_7 (by decide) ?_
    have hk := hR _ (ok_s hk)
    exact zri X hr hlk w dX0_wholeness_8 hk rfl
abbrev rm_X0_isBothWays : Room := { frames := 5, cells := 0, slots := 0, locals := 107 }
set_option maxHeartbeats 4000000 in
set_option maxRecDepth 100000 in
theorem wb_X0_isBothWays_17 {p : Program} {l : Launch} {e : Env} {s : State} {m : MethodId} {args : Array Value} {below : List Frame} {meth : Method} {c : Code} {D : va_G} {cy : Cyy} {A : Nat → Prop} {G : Gg} (X : Cx p m c cX0_isBothWays 4 s args wz_X0_isBothWays RX0 D cy) {Q : State → Prop} (M : Mm) (r0 : Nat) (i2 : Int32) (Qo : Int32 → Prop)  (hE : ∀ (y : Int32), Qo (y) → ∀ (H : Heap) (locs : List Loc) (ls : Array Slot), Wo s D cy A G M H locs → lv_has ls 4 [(0, .ref r0), (1, .int y), (2, .int i2)] → W p l e rm_X0_isBothWays s m args below meth c H locs 0 0 Q (F0 m 70 ls [])) (rec : Int32 → Int32 → Option (Int32)) (hrec : ∀ (i1 : Int32) (i3 : Int32) (H : Heap) (locs : List Loc) (ls : Array Slot), Wo s D cy A G M H locs → lv_has ls 4 [(0, .ref r0), (1, .int i1), (2, .int i2), (3, .int i3)] → OK (rec i1 i3) Qo → W p l e rm_X0_isBothWays s m args below meth c H locs 0 0 Q (F0 m 17 ls [])) (i1 : Int32) (i3 : Int32) (H : Heap) (locs : List Loc) (ls : Array Slot) (w : Wo s D cy A G M H locs) (hl : lv_has ls 4 [(0, .ref r0), (1, .int i1), (2, .int i2), (3, .int i3)]) (hk : OK (bd_X0_isBothWays_17 G M r0 i2 rec i1 i3) Qo) : W p l e rm_X0_isBothWays s m args below meth c H locs 0 0 Q (F0 m 17 ls []) := by
    have hx := X.1.1
    have hb := X.1.2.1
    unfold bd_X0_isBothWays_17 at hk
    refine lv_iload_n hx hb dX0_isBothWays_17 rfl (lv_at hl 3 rfl) ?_
    refine lv_iload_n hx hb dX0_isBothWays_18 rfl (lv_at hl 2 rfl) ?_
    refine lv_icmp_ge (tgt := 70) hx hb dX0_isBothWays_19 (by decide) (fun c6 => ?_) (fun c6 => ?_)
    · have hk := ok_p c6 hk
      exact hE i1 (ok_s hk) _ _ _ w (lv_sub hl [0, 1, 2] rfl)
    · have hk := ok_n c6 hk
      refine lv_iload_n hx hb dX0_isBothWays_22 rfl (lv_at hl 1 rfl) ?_
      refine lv_if_eq (tgt := 62) hx hb dX0_isBothWays_23 (by decide) (fun c7 => ?_) (fun c7 => ?_)
      · have hk := ok_p c7 hk
        refine lv_iconst (v := 0) hx hb dX0_isBothWays_62 (by decide) ?_
        refine lv_istore_n (lv' := [(1, .int (0 : Int32)), (0, .ref r0), (2, .int i2), (3, .int i3)]) hx hb dX0_isBothWays_63 rfl hl (by decide) rfl (fun ls hl => ?_)
        refine lv_iinc (v := (i3 + 1)) (lv' := [(3, .int (i3 + 1)), (1, .int (0 : Int32)), (0, .ref r0), (2, .int i2)]) hx hb dX0_isBothWays_64 hl (k := 3) rfl rfl (by decide) rfl (fun ls hl => ?_)
        refine lv_goto (tgt := 17) hx hb dX0_isBothWays_67 (by decide) ?_
        exact hrec (0 : Int32) (i3 + 1) _ _ _ w (lv_sub hl [2, 1, 3, 0] rfl) hk
      · have hk := ok_n c7 hk
        refine lv_aload_n hx hb dX0_isBothWays_26 rfl (lv_at hl 0 rfl) ?_
        obtain ⟨c8, hk⟩ := ok_c hk
        obtain ⟨r9, e10, hk⟩ := ok_b hk
        refine zgr X w 0 5 28 (C := RX0) (T := TX0) (N := 7) rfl ui_X0 (by decide) rfl (tb wf_X0_28) dX0_isBothWays_27 c8 e10 ?_
        refine lv_iload_n hx hb dX0_isBothWays_30 rfl (lv_at hl 2 rfl) ?_
        obtain ⟨c11, hk⟩ := ok_c hk
        obtain ⟨c12, hk⟩ := ok_c hk
        refine zal X w dX0_isBothWays_31 c11 c12 ?_
        refine lv_aload_n hx hb dX0_isBothWays_32 rfl (lv_at hl 0 rfl) ?_
        refine lv_iload_n hx hb dX0_isBothWays_33 rfl (lv_at hl 2 rfl) ?_
        refine lv_iload_n hx hb dX0_isBothWays_34 rfl (lv_at hl 3 rfl) ?_
        obtain ⟨q13, e14, hk⟩ := ok_b hk
        refine zVi X w (n := 2) (As := [.int i2, .int i3]) (rest := [.long (M.2.1 r9 (Int32.toNatClampNeg i2))]) (ci := 0) (C := RX0) (T := TX0) (N := 7) (c_X0_at l D cy G M r0 i2 i3 e14) (gzV wm_X0_69 wi_X0_at ws_X0_at wn_X0 wc_X0_at) rfl rfl rfl (by decide +kernel) (by decide) rfl c8 rfl rfl hl.1 (Nat.le_of_ble_eq_true rfl) dX0_isBothWays_35 ⟨Nat.zero_le _, Nat.zero_le _⟩ (fun H locs w => ?_)
        refine lv_i2l hx hb dX0_isBothWays_38 rfl ?_
        refine lv_lmul hx hb dX0_isBothWays_39 ?_
        refine lv_aload_n hx hb dX0_isBothWays_40 rfl (lv_at hl 0 rfl) ?_
        refine zgr X w 0 5 28 (C := RX0) (T := TX0) (N := 7) rfl ui_X0 (by decide) rfl (tb wf_X0_28) dX0_isBothWays_41 c8 e10 ?_
        refine lv_iload_n hx hb dX0_isBothWays_44 rfl (lv_at hl 3 rfl) ?_
        obtain ⟨c15, hk⟩ := ok_c hk
        refine zal X w dX0_isBothWays_45 c11 c15 ?_
        refine lv_aload_n hx hb dX0_isBothWays_46 rfl (lv_at hl 0 rfl) ?_
        refine lv_iload_n hx hb dX0_isBothWays_47 rfl (lv_at hl 3 rfl) ?_
        refine lv_iload_n hx hb dX0_isBothWays_48 rfl (lv_at hl 2 rfl) ?_
        obtain ⟨q16, e17, hk⟩ := ok_b hk
        refine zVi X w (n := 2) (As := [.int i3, .int i2]) (rest := [.long (M.2.1 r9 (Int32.toNatClampNeg i3)), .long ((M.2.1 r9 (Int32.toNatClampNeg i2)) * (Int32.toInt64 q13))]) (ci := 0) (C := RX0) (T := TX0) (N := 7) (c_X0_at l D cy G M r0 i3 i2 e17) (gzV wm_X0_69 wi_X0_at ws_X0_at wn_X0 wc_X0_at) rfl rfl rfl (by decide +kernel) (by decide) rfl c8 rfl rfl hl.1 (Nat.le_of_ble_eq_true rfl) dX0_isBothWays_49 ⟨Nat.zero_le _, Nat.zero_le _⟩ (fun H locs w => ?_)
        refine lv_i2l hx hb dX0_isBothWays_52 rfl ?_
        refine lv_lmul hx hb dX0_isBothWays_53 ?_
        refine W.lcmp hx hb dX0_isBothWays_54 ?_
        refine lv_if_ne (tgt := 62) hx hb dX0_isBothWays_55 (by decide) (fun c18 => ?_) (fun c18 => ?_)
        · have hk := ok_n c18 hk
          refine lv_iconst (v := 0) hx hb dX0_isBothWays_62 (by decide) ?_
          refine lv_istore_n (lv' := [(1, .int (0 : Int32)), (0, .ref r0), (2, .int i2), (3, .int i3)]) hx hb dX0_isBothWays_63 rfl hl (by decide) rfl (fun ls hl => ?_)
          refine lv_iinc (v := (i3 + 1)) (lv' := [(3, .int (i3 + 1)), (1, .int (0 : Int32)), (0, .ref r0), (2, .int i2)]) hx hb dX0_isBothWays_64 hl (k := 3) rfl rfl (by decide) rfl (fun ls hl => ?_)
          refine lv_goto (tgt := 17) hx hb dX0_isBothWays_67 (by decide) ?_
          exact hrec (0 : Int32) (i3 + 1) _ _ _ w (lv_sub hl [2, 1, 3, 0] rfl) hk
        · have hk := ok_p c18 hk
          refine lv_iconst (v := 1) hx hb dX0_isBothWays_58 (by decide) ?_
          refine lv_goto (tgt := 63) hx hb dX0_isBothWays_59 (by decide) ?_
          refine lv_istore_n (lv' := [(1, .int (1 : Int32)), (0, .ref r0), (2, .int i2), (3, .int i3)]) hx hb dX0_isBothWays_63 rfl hl (by decide) rfl (fun ls hl => ?_)
          refine lv_iinc (v := (i3 + 1)) (lv' := [(3, .int (i3 + 1)), (1, .int (1 : Int32)), (0, .ref r0), (2, .int i2)]) hx hb dX0_isBothWays_64 hl (k := 3) rfl rfl (by decide) rfl (fun ls hl => ?_)
          refine lv_goto (tgt := 17) hx hb dX0_isBothWays_67 (by decide) ?_
          exact hrec (1 : Int32) (i3 + 1) _ _ _ w (lv_sub hl [2, 1, 3, 0] rfl) hk
theorem wl_X0_isBothWays_17 {p : Program} {l : Launch} {e : Env} {s : State} {m : MethodId} {args : Array Value} {below : List Frame} {meth : Method} {c : Code} {D : va_G} {cy : Cyy} {A : Nat → Prop} {G : Gg} (X : Cx p m c cX0_isBothWays 4 s args wz_X0_isBothWays RX0 D cy) {Q : State → Prop} (M : Mm) (r0 : Nat) (i2 : Int32) (Qo : Int32 → Prop)  (hE : ∀ (y : Int32), Qo (y) → ∀ (H : Heap) (locs : List Loc) (ls : Array Slot), Wo s D cy A G M H locs → lv_has ls 4 [(0, .ref r0), (1, .int y), (2, .int i2)] → W p l e rm_X0_isBothWays s m args below meth c H locs 0 0 Q (F0 m 70 ls [])) : ∀ (n : Nat) (i1 : Int32) (i3 : Int32) (H : Heap) (locs : List Loc) (ls : Array Slot), Wo s D cy A G M H locs → lv_has ls 4 [(0, .ref r0), (1, .int i1), (2, .int i2), (3, .int i3)] → OK (lp_X0_isBothWays_17 G M r0 i2 n i1 i3) Qo → W p l e rm_X0_isBothWays s m args below meth c H locs 0 0 Q (F0 m 17 ls []) := by
  intro n
  induction n with
  | zero => intro i1 i3 H locs ls w hl hk; exact ok_0 hk
  | succ n ih => intro i1 i3 H locs ls w hl hk; exact wb_X0_isBothWays_17 X M r0 i2 Qo hE  (lp_X0_isBothWays_17 G M r0 i2 n) ih i1 i3 H locs ls w hl hk
set_option maxHeartbeats 4000000 in
set_option maxRecDepth 100000 in
theorem wb_X0_isBothWays_7 {p : Program} {l : Launch} {e : Env} {s : State} {m : MethodId} {args : Array Value} {below : List Frame} {meth : Method} {c : Code} {D : va_G} {cy : Cyy} {A : Nat → Prop} {G : Gg} (X : Cx p m c cX0_isBothWays 4 s args wz_X0_isBothWays RX0 D cy) {Q : State → Prop} (M : Mm) (r0 : Nat) (Qo : Int32 → Prop)  (hE : ∀ (y : Int32), Qo (y) → ∀ (H : Heap) (locs : List Loc) (ls : Array Slot), Wo s D cy A G M H locs → lv_has ls 4 [(1, .int y)] → W p l e rm_X0_isBothWays s m args below meth c H locs 0 0 Q (F0 m 76 ls [])) (rec : Int32 → Int32 → Option (Int32)) (hrec : ∀ (i1 : Int32) (i2 : Int32) (H : Heap) (locs : List Loc) (ls : Array Slot), Wo s D cy A G M H locs → lv_has ls 4 [(0, .ref r0), (1, .int i1), (2, .int i2)] → OK (rec i1 i2) Qo → W p l e rm_X0_isBothWays s m args below meth c H locs 0 0 Q (F0 m 7 ls [])) (i1 : Int32) (i2 : Int32) (H : Heap) (locs : List Loc) (ls : Array Slot) (w : Wo s D cy A G M H locs) (hl : lv_has ls 4 [(0, .ref r0), (1, .int i1), (2, .int i2)]) (hk : OK (bd_X0_isBothWays_7 G M r0 rec i1 i2) Qo) : W p l e rm_X0_isBothWays s m args below meth c H locs 0 0 Q (F0 m 7 ls []) := by
    have hx := X.1.1
    have hb := X.1.2.1
    unfold bd_X0_isBothWays_7 at hk
    refine lv_iload_n hx hb dX0_isBothWays_7 rfl (lv_at hl 2 rfl) ?_
    refine lv_aload_n hx hb dX0_isBothWays_8 rfl (lv_at hl 0 rfl) ?_
    obtain ⟨c4, hk⟩ := ok_c hk
    refine zgi X w 0 0 9 (C := RX0) (T := TX0) (N := 7) rfl ui_X0 (by decide) rfl (tb wf_X0_9) dX0_isBothWays_9 c4 ?_
    refine lv_icmp_ge (tgt := 76) hx hb dX0_isBothWays_12 (by decide) (fun c5 => ?_) (fun c5 => ?_)
    · have hk := ok_p c5 hk
      exact hE i1 (ok_s hk) _ _ _ w (lv_sub hl [1] rfl)
    · have hk := ok_n c5 hk
      refine lv_iconst (v := 0) hx hb dX0_isBothWays_15 (by decide) ?_
      refine lv_istore_n (lv' := [(3, .int (0 : Int32)), (0, .ref r0), (1, .int i1), (2, .int i2)]) hx hb dX0_isBothWays_16 rfl hl (by decide) rfl (fun ls hl => ?_)
      refine wl_X0_isBothWays_17 X M r0 i2 (Qo := _) (fun q19 hk H locs ls w hl => ?_) FU i1 (0 : Int32) _ _ _ w (lv_sub hl [1, 2, 3, 0] rfl) (ok_b hk)
      refine lv_iinc (v := (i2 + 1)) (lv' := [(2, .int (i2 + 1)), (0, .ref r0), (1, .int q19)]) hx hb dX0_isBothWays_70 hl (k := 2) rfl rfl (by decide) rfl (fun ls hl => ?_)
      refine lv_goto (tgt := 7) hx hb dX0_isBothWays_73 (by decide) ?_
      exact hrec q19 (i2 + 1) _ _ _ w (lv_sub hl [1, 2, 0] rfl) hk
theorem wl_X0_isBothWays_7 {p : Program} {l : Launch} {e : Env} {s : State} {m : MethodId} {args : Array Value} {below : List Frame} {meth : Method} {c : Code} {D : va_G} {cy : Cyy} {A : Nat → Prop} {G : Gg} (X : Cx p m c cX0_isBothWays 4 s args wz_X0_isBothWays RX0 D cy) {Q : State → Prop} (M : Mm) (r0 : Nat) (Qo : Int32 → Prop)  (hE : ∀ (y : Int32), Qo (y) → ∀ (H : Heap) (locs : List Loc) (ls : Array Slot), Wo s D cy A G M H locs → lv_has ls 4 [(1, .int y)] → W p l e rm_X0_isBothWays s m args below meth c H locs 0 0 Q (F0 m 76 ls [])) : ∀ (n : Nat) (i1 : Int32) (i2 : Int32) (H : Heap) (locs : List Loc) (ls : Array Slot), Wo s D cy A G M H locs → lv_has ls 4 [(0, .ref r0), (1, .int i1), (2, .int i2)] → OK (lp_X0_isBothWays_7 G M r0 n i1 i2) Qo → W p l e rm_X0_isBothWays s m args below meth c H locs 0 0 Q (F0 m 7 ls []) := by
  intro n
  induction n with
  | zero => intro i1 i2 H locs ls w hl hk; exact ok_0 hk
  | succ n ih => intro i1 i2 H locs ls w hl hk; exact wb_X0_isBothWays_7 X M r0 Qo hE  (lp_X0_isBothWays_7 G M r0 n) ih i1 i2 H locs ls w hl hk
set_option maxHeartbeats 4000000 in
set_option maxRecDepth 100000 in
theorem c_X0_isBothWays (l : Launch) (D : va_G) (cy : Cyy) (G : Gg) (M : Mm) (r0 : Nat) {q : Int32} (hm : f_X0_isBothWays G M r0 = some q) : CI l yX0_isBothWays wz_X0_isBothWays rm_X0_isBothWays D cy G M [.ref r0] q M := by
  refine Met_of (Qf := fun A => QI D cy G A q M) (cc := cX0_isBothWays) (nL := 4) (ret := (some .boolean)) (own := RX0) (lv := [(0, .ref r0)]) (by decide) rfl rfl (Nat.le_of_ble_eq_true rfl) rfl ?_
  intro p e s m args below meth c A ls X hr hlk w hl
  have hx := X.1.1
  have hb := X.1.2.1
  obtain ⟨Qo, hR, hk⟩ : ∃ Qo : Int32 → Prop, (∀ x, Qo x → x = q) ∧ OK (f_X0_isBothWays G M r0) Qo := ⟨fun x => x = q, fun _ h => h, q, hm, rfl⟩
  unfold f_X0_isBothWays at hk
  refine lv_aload_n hx hb dX0_isBothWays_0 rfl (lv_at hl 0 rfl) ?_
  obtain ⟨c3, hk⟩ := ok_c hk
  obtain ⟨q1, e2, hk⟩ := ok_b hk
  refine zVi X w (n := 0) (As := []) (rest := []) (ci := 0) (C := RX0) (T := TX0) (N := 7) (c_X0_isWhole l D cy G M r0 e2) (gzV wm_X0_126 wi_X0_isWhole ws_X0_isWhole wn_X0 wc_X0_isWhole) rfl rfl rfl (by decide +kernel) (by decide) rfl c3 rfl rfl hl.1 (Nat.le_of_ble_eq_true rfl) dX0_isBothWays_1 ⟨Nat.zero_le _, Nat.zero_le _⟩ (fun H locs w => ?_)
  refine lv_istore_n (lv' := [(1, .int q1), (0, .ref r0)]) hx hb dX0_isBothWays_4 rfl hl (by decide) rfl (fun ls hl => ?_)
  refine lv_iconst (v := 0) hx hb dX0_isBothWays_5 (by decide) ?_
  refine lv_istore_n (lv' := [(2, .int (0 : Int32)), (1, .int q1), (0, .ref r0)]) hx hb dX0_isBothWays_6 rfl hl (by decide) rfl (fun ls hl => ?_)
  refine wl_X0_isBothWays_7 X M r0 (Qo := _) (fun q20 hk H locs ls w hl => ?_) FU q1 (0 : Int32) _ _ _ w (lv_sub hl [2, 1, 0] rfl) (ok_b hk)
  refine lv_iload_n hx hb dX0_isBothWays_76 rfl (lv_at hl 0 rfl) ?_
  obtain ⟨c21, hk⟩ := ok_c hk
  have hk := hR _ (ok_s hk)
  exact zrz X hr hlk w dX0_isBothWays_77 c21 hk rfl
abbrev rm_X0_lastTime : Room := { frames := 0, cells := 0, slots := 0, locals := 0 }
set_option maxHeartbeats 4000000 in
set_option maxRecDepth 100000 in
theorem wb_X0_lastTime_8 {p : Program} {l : Launch} {e : Env} {s : State} {m : MethodId} {args : Array Value} {below : List Frame} {meth : Method} {c : Code} {D : va_G} {cy : Cyy} {A : Nat → Prop} {G : Gg} (X : Cx p m c cX0_lastTime 4 s args wz_X0_lastTime RX0 D cy) {Q : State → Prop} (M : Mm) (r0 : Nat) (Qo : Int32 → Prop)  (hE : ∀ (y : Int32), Qo (y) → ∀ (H : Heap) (locs : List Loc) (ls : Array Slot), Wo s D cy A G M H locs → lv_has ls 4 [(3, .int y)] → W p l e rm_X0_lastTime s m args below meth c H locs 0 0 Q (F0 m 36 ls [])) (rec : Int64 → Int32 → Option (Int32)) (hrec : ∀ (l1 : Int64) (i3 : Int32) (H : Heap) (locs : List Loc) (ls : Array Slot), Wo s D cy A G M H locs → lv_has ls 4 [(0, .ref r0), (1, .long l1), (3, .int i3)] → OK (rec l1 i3) Qo → W p l e rm_X0_lastTime s m args below meth c H locs 0 0 Q (F0 m 8 ls [])) (l1 : Int64) (i3 : Int32) (H : Heap) (locs : List Loc) (ls : Array Slot) (w : Wo s D cy A G M H locs) (hl : lv_has ls 4 [(0, .ref r0), (1, .long l1), (3, .int i3)]) (hk : OK (bd_X0_lastTime_8 G M r0 rec l1 i3) Qo) : W p l e rm_X0_lastTime s m args below meth c H locs 0 0 Q (F0 m 8 ls []) := by
    have hx := X.1.1
    have hb := X.1.2.1
    unfold bd_X0_lastTime_8 at hk
    refine lv_iload_n hx hb dX0_lastTime_8 rfl (lv_at hl 2 rfl) ?_
    refine lv_bipush (v := 20) hx hb dX0_lastTime_9 (by decide) ?_
    refine lv_icmp_ge (tgt := 36) hx hb dX0_lastTime_11 (by decide) (fun c2 => ?_) (fun c2 => ?_)
    · have hk := ok_p c2 hk
      exact hE i3 (ok_s hk) _ _ _ w (lv_sub hl [2] rfl)
    · have hk := ok_n c2 hk
      refine lv_lload_n hx hb dX0_lastTime_14 rfl (lv_at hl 1 rfl) ?_
      refine zldc2 X (v := 1000000000000000) (tb wk_X0_133) dX0_lastTime_15 ?_
      refine W.lcmp hx hb dX0_lastTime_18 ?_
      refine lv_if_gt (tgt := 36) hx hb dX0_lastTime_19 (by decide) (fun c3 => ?_) (fun c3 => ?_)
      · have hk := ok_p c3 hk
        exact hE i3 (ok_s hk) _ _ _ w (lv_sub hl [2] rfl)
      · have hk := ok_n c3 hk
        refine lv_lload_n hx hb dX0_lastTime_22 rfl (lv_at hl 1 rfl) ?_
        refine lv_aload_n hx hb dX0_lastTime_23 rfl (lv_at hl 0 rfl) ?_
        obtain ⟨c4, hk⟩ := ok_c hk
        refine zgi X w 0 1 15 (C := RX0) (T := TX0) (N := 7) rfl ui_X0 (by decide) rfl (tb wf_X0_15) dX0_lastTime_24 c4 ?_
        refine lv_i2l hx hb dX0_lastTime_27 rfl ?_
        refine lv_lmul hx hb dX0_lastTime_28 ?_
        refine lv_lstore_n (lv' := [(1, .long (l1 * (Int32.toInt64 (M.1 r0 1)))), (0, .ref r0), (3, .int i3)]) hx hb dX0_lastTime_29 rfl hl (by decide) rfl (fun ls hl => ?_)
        refine lv_iinc (v := (i3 + 1)) (lv' := [(3, .int (i3 + 1)), (1, .long (l1 * (Int32.toInt64 (M.1 r0 1)))), (0, .ref r0)]) hx hb dX0_lastTime_30 hl (k := 2) rfl rfl (by decide) rfl (fun ls hl => ?_)
        refine lv_goto (tgt := 8) hx hb dX0_lastTime_33 (by decide) ?_
        exact hrec (l1 * (Int32.toInt64 (M.1 r0 1))) (i3 + 1) _ _ _ w (lv_sub hl [2, 1, 0] rfl) hk
theorem wl_X0_lastTime_8 {p : Program} {l : Launch} {e : Env} {s : State} {m : MethodId} {args : Array Value} {below : List Frame} {meth : Method} {c : Code} {D : va_G} {cy : Cyy} {A : Nat → Prop} {G : Gg} (X : Cx p m c cX0_lastTime 4 s args wz_X0_lastTime RX0 D cy) {Q : State → Prop} (M : Mm) (r0 : Nat) (Qo : Int32 → Prop)  (hE : ∀ (y : Int32), Qo (y) → ∀ (H : Heap) (locs : List Loc) (ls : Array Slot), Wo s D cy A G M H locs → lv_has ls 4 [(3, .int y)] → W p l e rm_X0_lastTime s m args below meth c H locs 0 0 Q (F0 m 36 ls [])) : ∀ (n : Nat) (l1 : Int64) (i3 : Int32) (H : Heap) (locs : List Loc) (ls : Array Slot), Wo s D cy A G M H locs → lv_has ls 4 [(0, .ref r0), (1, .long l1), (3, .int i3)] → OK (lp_X0_lastTime_8 G M r0 n l1 i3) Qo → W p l e rm_X0_lastTime s m args below meth c H locs 0 0 Q (F0 m 8 ls []) := by
  intro n
  induction n with
  | zero => intro l1 i3 H locs ls w hl hk; exact ok_0 hk
  | succ n ih => intro l1 i3 H locs ls w hl hk; exact wb_X0_lastTime_8 X M r0 Qo hE  (lp_X0_lastTime_8 G M r0 n) ih l1 i3 H locs ls w hl hk
set_option maxHeartbeats 4000000 in
set_option maxRecDepth 100000 in
theorem c_X0_lastTime (l : Launch) (D : va_G) (cy : Cyy) (G : Gg) (M : Mm) (r0 : Nat) {q : Int32} (hm : f_X0_lastTime G M r0 = some q) : CI l yX0_lastTime wz_X0_lastTime rm_X0_lastTime D cy G M [.ref r0] q M := by
  refine Met_of (Qf := fun A => QI D cy G A q M) (cc := cX0_lastTime) (nL := 4) (ret := (some .int)) (own := RX0) (lv := [(0, .ref r0)]) (by decide) rfl rfl (Nat.le_of_ble_eq_true rfl) rfl ?_
  intro p e s m args below meth c A ls X hr hlk w hl
  have hx := X.1.1
  have hb := X.1.2.1
  obtain ⟨Qo, hR, hk⟩ : ∃ Qo : Int32 → Prop, (∀ x, Qo x → x = q) ∧ OK (f_X0_lastTime G M r0) Qo := ⟨fun x => x = q, fun _ h => h, q, hm, rfl⟩
  unfold f_X0_lastTime at hk
  refine lv_aload_n hx hb dX0_lastTime_0 rfl (lv_at hl 0 rfl) ?_
  obtain ⟨c1, hk⟩ := ok_c hk
  refine zgi X w 0 1 15 (C := RX0) (T := TX0) (N := 7) rfl ui_X0 (by decide) rfl (tb wf_X0_15) dX0_lastTime_1 c1 ?_
  refine lv_i2l hx hb dX0_lastTime_4 rfl ?_
  refine lv_lstore_n (lv' := [(1, .long (Int32.toInt64 (M.1 r0 1))), (0, .ref r0)]) hx hb dX0_lastTime_5 rfl hl (by decide) rfl (fun ls hl => ?_)
  refine lv_iconst (v := 0) hx hb dX0_lastTime_6 (by decide) ?_
  refine lv_istore_n (lv' := [(3, .int (0 : Int32)), (1, .long (Int32.toInt64 (M.1 r0 1))), (0, .ref r0)]) hx hb dX0_lastTime_7 rfl hl (by decide) rfl (fun ls hl => ?_)
  refine wl_X0_lastTime_8 X M r0 (Qo := _) (fun q5 hk H locs ls w hl => ?_) FU (Int32.toInt64 (M.1 r0 1)) (0 : Int32) _ _ _ w (lv_sub hl [2, 1, 0] rfl) (ok_b hk)
  refine lv_iload_n hx hb dX0_lastTime_36 rfl (lv_at hl 0 rfl) ?_
  have hk := hR _ (ok_s hk)
  exact zri X hr hlk w dX0_lastTime_37 hk rfl
abbrev rm_X0_isTime : Room := { frames := 1, cells := 0, slots := 0, locals := 23 }
set_option maxHeartbeats 4000000 in
set_option maxRecDepth 100000 in
theorem c_X0_isTime (l : Launch) (D : va_G) (cy : Cyy) (G : Gg) (M : Mm) (r0 : Nat) (i1 : Int32) {q : Int32} (hm : f_X0_isTime G M r0 i1 = some q) : CI l yX0_isTime wz_X0_isTime rm_X0_isTime D cy G M [.ref r0, .int i1] q M := by
  refine Met_of (Qf := fun A => QI D cy G A q M) (cc := cX0_isTime) (nL := 2) (ret := (some .boolean)) (own := RX0) (lv := [(0, .ref r0), (1, .int i1)]) (by decide) rfl rfl (Nat.le_of_ble_eq_true rfl) rfl ?_
  intro p e s m args below meth c A ls X hr hlk w hl
  have hx := X.1.1
  have hb := X.1.2.1
  obtain ⟨Qo, hR, hk⟩ : ∃ Qo : Int32 → Prop, (∀ x, Qo x → x = q) ∧ OK (f_X0_isTime G M r0 i1) Qo := ⟨fun x => x = q, fun _ h => h, q, hm, rfl⟩
  unfold f_X0_isTime at hk
  refine lv_iload_n hx hb dX0_isTime_0 rfl (lv_at hl 1 rfl) ?_
  refine lv_if_lt (tgt := 16) hx hb dX0_isTime_1 (by decide) (fun c1 => ?_) (fun c1 => ?_)
  · have hk := ok_p c1 hk
    refine lv_iconst (v := 0) hx hb dX0_isTime_16 (by decide) ?_
    have hk := hR _ (ok_s hk)
    exact zrz X hr hlk w dX0_isTime_17 (by decide) hk rfl
  · have hk := ok_n c1 hk
    refine lv_iload_n hx hb dX0_isTime_4 rfl (lv_at hl 1 rfl) ?_
    refine lv_aload_n hx hb dX0_isTime_5 rfl (lv_at hl 0 rfl) ?_
    obtain ⟨c4, hk⟩ := ok_c hk
    obtain ⟨q2, e3, hk⟩ := ok_b hk
    refine zVi X w (n := 0) (As := []) (rest := [.int i1]) (ci := 0) (C := RX0) (T := TX0) (N := 7) (c_X0_lastTime l D cy G M r0 e3) (gzV wm_X0_135 wi_X0_lastTime ws_X0_lastTime wn_X0 wc_X0_lastTime) rfl rfl rfl (by decide +kernel) (by decide) rfl c4 rfl rfl hl.1 (Nat.le_of_ble_eq_true rfl) dX0_isTime_6 ⟨Nat.zero_le _, Nat.zero_le _⟩ (fun H locs w => ?_)
    refine lv_icmp_gt (tgt := 16) hx hb dX0_isTime_9 (by decide) (fun c5 => ?_) (fun c5 => ?_)
    · have hk := ok_p c5 hk
      refine lv_iconst (v := 0) hx hb dX0_isTime_16 (by decide) ?_
      have hk := hR _ (ok_s hk)
      exact zrz X hr hlk w dX0_isTime_17 (by decide) hk rfl
    · have hk := ok_n c5 hk
      refine lv_iconst (v := 1) hx hb dX0_isTime_12 (by decide) ?_
      refine lv_goto (tgt := 17) hx hb dX0_isTime_13 (by decide) ?_
      have hk := hR _ (ok_s hk)
      exact zrz X hr hlk w dX0_isTime_17 (by decide) hk rfl
abbrev rm_X0_shareOf : Room := { frames := 1, cells := 0, slots := 0, locals := 21 }
set_option maxHeartbeats 4000000 in
set_option maxRecDepth 100000 in
theorem wb_X0_shareOf_5 {p : Program} {l : Launch} {e : Env} {s : State} {m : MethodId} {args : Array Value} {below : List Frame} {meth : Method} {c : Code} {D : va_G} {cy : Cyy} {A : Nat → Prop} {G : Gg} (X : Cx p m c cX0_shareOf 5 s args wz_X0_shareOf RX0 D cy) {Q : State → Prop} (M : Mm) (r0 : Nat) (i1 : Int32) (Qo : Int64 → Prop)  (hE : ∀ (y : Int64), Qo (y) → ∀ (H : Heap) (locs : List Loc) (ls : Array Slot), Wo s D cy A G M H locs → lv_has ls 5 [(2, .long y)] → W p l e rm_X0_shareOf s m args below meth c H locs 0 0 Q (F0 m 43 ls [])) (rec : Int64 → Int32 → Option (Int64)) (hrec : ∀ (l2 : Int64) (i4 : Int32) (H : Heap) (locs : List Loc) (ls : Array Slot), Wo s D cy A G M H locs → lv_has ls 5 [(0, .ref r0), (1, .int i1), (2, .long l2), (4, .int i4)] → OK (rec l2 i4) Qo → W p l e rm_X0_shareOf s m args below meth c H locs 0 0 Q (F0 m 5 ls [])) (l2 : Int64) (i4 : Int32) (H : Heap) (locs : List Loc) (ls : Array Slot) (w : Wo s D cy A G M H locs) (hl : lv_has ls 5 [(0, .ref r0), (1, .int i1), (2, .long l2), (4, .int i4)]) (hk : OK (bd_X0_shareOf_5 G M r0 i1 rec l2 i4) Qo) : W p l e rm_X0_shareOf s m args below meth c H locs 0 0 Q (F0 m 5 ls []) := by
    have hx := X.1.1
    have hb := X.1.2.1
    unfold bd_X0_shareOf_5 at hk
    refine lv_iload hx hb dX0_shareOf_5 (lv_at hl 3 rfl) ?_
    refine lv_aload_n hx hb dX0_shareOf_7 rfl (lv_at hl 0 rfl) ?_
    obtain ⟨c1, hk⟩ := ok_c hk
    refine zgi X w 0 0 9 (C := RX0) (T := TX0) (N := 7) rfl ui_X0 (by decide) rfl (tb wf_X0_9) dX0_shareOf_8 c1 ?_
    refine lv_icmp_ge (tgt := 43) hx hb dX0_shareOf_11 (by decide) (fun c2 => ?_) (fun c2 => ?_)
    · have hk := ok_p c2 hk
      exact hE l2 (ok_s hk) _ _ _ w (lv_sub hl [2] rfl)
    · have hk := ok_n c2 hk
      refine lv_lload_n hx hb dX0_shareOf_14 rfl (lv_at hl 2 rfl) ?_
      refine lv_iload_n hx hb dX0_shareOf_15 rfl (lv_at hl 1 rfl) ?_
      refine lv_iload hx hb dX0_shareOf_16 (lv_at hl 3 rfl) ?_
      obtain ⟨q3, e4, hk⟩ := ok_b hk
      refine zNi X w (n := 2) (As := [.int i1, .int i4]) (rest := [.long l2]) (host := "BlendBench") (c_X8_has l D cy G M i1 i4 e4) (gzN wc_X8_has) rfl rfl rfl (by decide +kernel) (tb wn_X8) (tb wt_X8_has) (by decide +kernel) (by decide) rfl rfl hl.1 (Nat.le_of_ble_eq_true rfl) dX0_shareOf_18 ⟨Nat.zero_le _, Nat.zero_le _⟩ (fun H locs w => ?_)
      refine lv_if_eq (tgt := 34) hx hb dX0_shareOf_21 (by decide) (fun c5 => ?_) (fun c5 => ?_)
      · have hk := ok_p c5 hk
        refine lv_lconst (v := 0) hx hb dX0_shareOf_34 (by decide) ?_
        refine lv_ladd hx hb dX0_shareOf_35 ?_
        refine lv_lstore_n (lv' := [(2, .long (l2 + (0 : Int64))), (0, .ref r0), (1, .int i1), (4, .int i4)]) hx hb dX0_shareOf_36 rfl hl (by decide) rfl (fun ls hl => ?_)
        refine lv_iinc (v := (i4 + 1)) (lv' := [(4, .int (i4 + 1)), (2, .long (l2 + (0 : Int64))), (0, .ref r0), (1, .int i1)]) hx hb dX0_shareOf_37 hl (k := 3) rfl rfl (by decide) rfl (fun ls hl => ?_)
        refine lv_goto (tgt := 5) hx hb dX0_shareOf_40 (by decide) ?_
        exact hrec (l2 + (0 : Int64)) (i4 + 1) _ _ _ w (lv_sub hl [2, 3, 1, 0] rfl) hk
      · have hk := ok_n c5 hk
        refine lv_aload_n hx hb dX0_shareOf_24 rfl (lv_at hl 0 rfl) ?_
        obtain ⟨r6, e7, hk⟩ := ok_b hk
        refine zgr X w 0 5 28 (C := RX0) (T := TX0) (N := 7) rfl ui_X0 (by decide) rfl (tb wf_X0_28) dX0_shareOf_25 c1 e7 ?_
        refine lv_iload hx hb dX0_shareOf_28 (lv_at hl 3 rfl) ?_
        obtain ⟨c8, hk⟩ := ok_c hk
        obtain ⟨c9, hk⟩ := ok_c hk
        refine zal X w dX0_shareOf_30 c8 c9 ?_
        refine lv_goto (tgt := 35) hx hb dX0_shareOf_31 (by decide) ?_
        refine lv_ladd hx hb dX0_shareOf_35 ?_
        refine lv_lstore_n (lv' := [(2, .long (l2 + (M.2.1 r6 (Int32.toNatClampNeg i4)))), (0, .ref r0), (1, .int i1), (4, .int i4)]) hx hb dX0_shareOf_36 rfl hl (by decide) rfl (fun ls hl => ?_)
        refine lv_iinc (v := (i4 + 1)) (lv' := [(4, .int (i4 + 1)), (2, .long (l2 + (M.2.1 r6 (Int32.toNatClampNeg i4)))), (0, .ref r0), (1, .int i1)]) hx hb dX0_shareOf_37 hl (k := 3) rfl rfl (by decide) rfl (fun ls hl => ?_)
        refine lv_goto (tgt := 5) hx hb dX0_shareOf_40 (by decide) ?_
        exact hrec (l2 + (M.2.1 r6 (Int32.toNatClampNeg i4))) (i4 + 1) _ _ _ w (lv_sub hl [2, 3, 1, 0] rfl) hk
theorem wl_X0_shareOf_5 {p : Program} {l : Launch} {e : Env} {s : State} {m : MethodId} {args : Array Value} {below : List Frame} {meth : Method} {c : Code} {D : va_G} {cy : Cyy} {A : Nat → Prop} {G : Gg} (X : Cx p m c cX0_shareOf 5 s args wz_X0_shareOf RX0 D cy) {Q : State → Prop} (M : Mm) (r0 : Nat) (i1 : Int32) (Qo : Int64 → Prop)  (hE : ∀ (y : Int64), Qo (y) → ∀ (H : Heap) (locs : List Loc) (ls : Array Slot), Wo s D cy A G M H locs → lv_has ls 5 [(2, .long y)] → W p l e rm_X0_shareOf s m args below meth c H locs 0 0 Q (F0 m 43 ls [])) : ∀ (n : Nat) (l2 : Int64) (i4 : Int32) (H : Heap) (locs : List Loc) (ls : Array Slot), Wo s D cy A G M H locs → lv_has ls 5 [(0, .ref r0), (1, .int i1), (2, .long l2), (4, .int i4)] → OK (lp_X0_shareOf_5 G M r0 i1 n l2 i4) Qo → W p l e rm_X0_shareOf s m args below meth c H locs 0 0 Q (F0 m 5 ls []) := by
  intro n
  induction n with
  | zero => intro l2 i4 H locs ls w hl hk; exact ok_0 hk
  | succ n ih => intro l2 i4 H locs ls w hl hk; exact wb_X0_shareOf_5 X M r0 i1 Qo hE  (lp_X0_shareOf_5 G M r0 i1 n) ih l2 i4 H locs ls w hl hk
set_option maxHeartbeats 4000000 in
set_option maxRecDepth 100000 in
theorem c_X0_shareOf (l : Launch) (D : va_G) (cy : Cyy) (G : Gg) (M : Mm) (r0 : Nat) (i1 : Int32) {q : Int64} (hm : f_X0_shareOf G M r0 i1 = some q) : CL l yX0_shareOf wz_X0_shareOf rm_X0_shareOf D cy G M [.ref r0, .int i1] q M := by
  refine Met_of (Qf := fun A => QL D cy G A q M) (cc := cX0_shareOf) (nL := 5) (ret := (some .long)) (own := RX0) (lv := [(0, .ref r0), (1, .int i1)]) (by decide) rfl rfl (Nat.le_of_ble_eq_true rfl) rfl ?_
  intro p e s m args below meth c A ls X hr hlk w hl
  have hx := X.1.1
  have hb := X.1.2.1
  obtain ⟨Qo, hR, hk⟩ : ∃ Qo : Int64 → Prop, (∀ x, Qo x → x = q) ∧ OK (f_X0_shareOf G M r0 i1) Qo := ⟨fun x => x = q, fun _ h => h, q, hm, rfl⟩
  unfold f_X0_shareOf at hk
  refine lv_lconst (v := 0) hx hb dX0_shareOf_0 (by decide) ?_
  refine lv_lstore_n (lv' := [(2, .long (0 : Int64)), (0, .ref r0), (1, .int i1)]) hx hb dX0_shareOf_1 rfl hl (by decide) rfl (fun ls hl => ?_)
  refine lv_iconst (v := 0) hx hb dX0_shareOf_2 (by decide) ?_
  refine lv_istore (lv' := [(4, .int (0 : Int32)), (2, .long (0 : Int64)), (0, .ref r0), (1, .int i1)]) hx hb dX0_shareOf_3 hl (by decide) rfl (fun ls hl => ?_)
  refine wl_X0_shareOf_5 X M r0 i1 (Qo := _) (fun q10 hk H locs ls w hl => ?_) FU (0 : Int64) (0 : Int32) _ _ _ w (lv_sub hl [2, 3, 1, 0] rfl) (ok_b hk)
  refine lv_lload_n hx hb dX0_shareOf_43 rfl (lv_at hl 0 rfl) ?_
  have hk := hR _ (ok_s hk)
  exact zrl X hr hlk w dX0_shareOf_44 hk rfl
abbrev rm_X0_flowOutOf : Room := { frames := 2, cells := 0, slots := 0, locals := 46 }
set_option maxHeartbeats 4000000 in
set_option maxRecDepth 100000 in
theorem wb_X0_flowOutOf_5 {p : Program} {l : Launch} {e : Env} {s : State} {m : MethodId} {args : Array Value} {below : List Frame} {meth : Method} {c : Code} {D : va_G} {cy : Cyy} {A : Nat → Prop} {G : Gg} (X : Cx p m c cX0_flowOutOf 5 s args wz_X0_flowOutOf RX0 D cy) {Q : State → Prop} (M : Mm) (r0 : Nat) (i1 : Int32) (Qo : Int64 → Prop)  (hE : ∀ (y : Int64), Qo (y) → ∀ (H : Heap) (locs : List Loc) (ls : Array Slot), Wo s D cy A G M H locs → lv_has ls 5 [(2, .long y)] → W p l e rm_X0_flowOutOf s m args below meth c H locs 0 0 Q (F0 m 55 ls [])) (rec : Int64 → Int32 → Option (Int64)) (hrec : ∀ (l2 : Int64) (i4 : Int32) (H : Heap) (locs : List Loc) (ls : Array Slot), Wo s D cy A G M H locs → lv_has ls 5 [(0, .ref r0), (1, .int i1), (2, .long l2), (4, .int i4)] → OK (rec l2 i4) Qo → W p l e rm_X0_flowOutOf s m args below meth c H locs 0 0 Q (F0 m 5 ls [])) (l2 : Int64) (i4 : Int32) (H : Heap) (locs : List Loc) (ls : Array Slot) (w : Wo s D cy A G M H locs) (hl : lv_has ls 5 [(0, .ref r0), (1, .int i1), (2, .long l2), (4, .int i4)]) (hk : OK (bd_X0_flowOutOf_5 G M r0 i1 rec l2 i4) Qo) : W p l e rm_X0_flowOutOf s m args below meth c H locs 0 0 Q (F0 m 5 ls []) := by
    have hx := X.1.1
    have hb := X.1.2.1
    unfold bd_X0_flowOutOf_5 at hk
    refine lv_iload hx hb dX0_flowOutOf_5 (lv_at hl 3 rfl) ?_
    refine lv_aload_n hx hb dX0_flowOutOf_7 rfl (lv_at hl 0 rfl) ?_
    obtain ⟨c1, hk⟩ := ok_c hk
    refine zgi X w 0 0 9 (C := RX0) (T := TX0) (N := 7) rfl ui_X0 (by decide) rfl (tb wf_X0_9) dX0_flowOutOf_8 c1 ?_
    refine lv_icmp_ge (tgt := 55) hx hb dX0_flowOutOf_11 (by decide) (fun c2 => ?_) (fun c2 => ?_)
    · have hk := ok_p c2 hk
      exact hE l2 (ok_s hk) _ _ _ w (lv_sub hl [2] rfl)
    · have hk := ok_n c2 hk
      refine lv_iload_n hx hb dX0_flowOutOf_14 rfl (lv_at hl 1 rfl) ?_
      refine lv_iload hx hb dX0_flowOutOf_15 (lv_at hl 3 rfl) ?_
      obtain ⟨q3, e4, hk⟩ := ok_b hk
      refine zNi X w (n := 2) (As := [.int i1, .int i4]) (rest := []) (host := "BlendBench") (c_X8_has l D cy G M i1 i4 e4) (gzN wc_X8_has) rfl rfl rfl (by decide +kernel) (tb wn_X8) (tb wt_X8_has) (by decide +kernel) (by decide) rfl rfl hl.1 (Nat.le_of_ble_eq_true rfl) dX0_flowOutOf_17 ⟨Nat.zero_le _, Nat.zero_le _⟩ (fun H locs w => ?_)
      refine lv_if_eq (tgt := 49) hx hb dX0_flowOutOf_20 (by decide) (fun c5 => ?_) (fun c5 => ?_)
      · have hk := ok_p c5 hk
        refine lv_iinc (v := (i4 + 1)) (lv' := [(4, .int (i4 + 1)), (0, .ref r0), (1, .int i1), (2, .long l2)]) hx hb dX0_flowOutOf_49 hl (k := 3) rfl rfl (by decide) rfl (fun ls hl => ?_)
        refine lv_goto (tgt := 5) hx hb dX0_flowOutOf_52 (by decide) ?_
        exact hrec l2 (i4 + 1) _ _ _ w (lv_sub hl [1, 2, 3, 0] rfl) hk
      · have hk := ok_n c5 hk
        refine lv_lload_n hx hb dX0_flowOutOf_23 rfl (lv_at hl 2 rfl) ?_
        refine lv_aload_n hx hb dX0_flowOutOf_24 rfl (lv_at hl 0 rfl) ?_
        obtain ⟨r6, e7, hk⟩ := ok_b hk
        refine zgr X w 0 5 28 (C := RX0) (T := TX0) (N := 7) rfl ui_X0 (by decide) rfl (tb wf_X0_28) dX0_flowOutOf_25 c1 e7 ?_
        refine lv_iload hx hb dX0_flowOutOf_28 (lv_at hl 3 rfl) ?_
        obtain ⟨c8, hk⟩ := ok_c hk
        obtain ⟨c9, hk⟩ := ok_c hk
        refine zal X w dX0_flowOutOf_30 c8 c9 ?_
        refine lv_aload_n hx hb dX0_flowOutOf_31 rfl (lv_at hl 0 rfl) ?_
        refine lv_iload hx hb dX0_flowOutOf_32 (lv_at hl 3 rfl) ?_
        refine lv_aload_n hx hb dX0_flowOutOf_34 rfl (lv_at hl 0 rfl) ?_
        obtain ⟨q10, e11, hk⟩ := ok_b hk
        refine zVi X w (n := 0) (As := []) (rest := [.int i4, .ref r0, .long (M.2.1 r6 (Int32.toNatClampNeg i4)), .long l2]) (ci := 0) (C := RX0) (T := TX0) (N := 7) (c_X0_allStates l D cy G M r0 e11) (gzV wm_X0_36 wi_X0_allStates ws_X0_allStates wn_X0 wc_X0_allStates) rfl rfl rfl (by decide +kernel) (by decide) rfl c1 rfl rfl hl.1 (Nat.le_of_ble_eq_true rfl) dX0_flowOutOf_35 ⟨Nat.zero_le _, Nat.zero_le _⟩ (fun H locs w => ?_)
        refine lv_iload_n hx hb dX0_flowOutOf_38 rfl (lv_at hl 1 rfl) ?_
        refine lv_iconst (v := (-1)) hx hb dX0_flowOutOf_39 (by decide) ?_
        refine lv_ixor hx hb dX0_flowOutOf_40 ?_
        refine lv_iand hx hb dX0_flowOutOf_41 ?_
        obtain ⟨q12, e13, hk⟩ := ok_b hk
        refine zVi X w (n := 2) (As := [.int i4, .int (q10 &&& (i1 ^^^ (-1)))]) (rest := [.long (M.2.1 r6 (Int32.toNatClampNeg i4)), .long l2]) (ci := 0) (C := RX0) (T := TX0) (N := 7) (c_X0_into l D cy G M r0 i4 (q10 &&& (i1 ^^^ (-1))) e13) (gzV wm_X0_65 wi_X0_into ws_X0_into wn_X0 wc_X0_into) rfl rfl rfl (by decide +kernel) (by decide) rfl c1 rfl rfl hl.1 (Nat.le_of_ble_eq_true rfl) dX0_flowOutOf_42 ⟨Nat.zero_le _, Nat.zero_le _⟩ (fun H locs w => ?_)
        refine lv_i2l hx hb dX0_flowOutOf_45 rfl ?_
        refine lv_lmul hx hb dX0_flowOutOf_46 ?_
        refine lv_ladd hx hb dX0_flowOutOf_47 ?_
        refine lv_lstore_n (lv' := [(2, .long (l2 + ((M.2.1 r6 (Int32.toNatClampNeg i4)) * (Int32.toInt64 q12)))), (0, .ref r0), (1, .int i1), (4, .int i4)]) hx hb dX0_flowOutOf_48 rfl hl (by decide) rfl (fun ls hl => ?_)
        refine lv_iinc (v := (i4 + 1)) (lv' := [(4, .int (i4 + 1)), (2, .long (l2 + ((M.2.1 r6 (Int32.toNatClampNeg i4)) * (Int32.toInt64 q12)))), (0, .ref r0), (1, .int i1)]) hx hb dX0_flowOutOf_49 hl (k := 3) rfl rfl (by decide) rfl (fun ls hl => ?_)
        refine lv_goto (tgt := 5) hx hb dX0_flowOutOf_52 (by decide) ?_
        exact hrec (l2 + ((M.2.1 r6 (Int32.toNatClampNeg i4)) * (Int32.toInt64 q12))) (i4 + 1) _ _ _ w (lv_sub hl [2, 3, 1, 0] rfl) hk
theorem wl_X0_flowOutOf_5 {p : Program} {l : Launch} {e : Env} {s : State} {m : MethodId} {args : Array Value} {below : List Frame} {meth : Method} {c : Code} {D : va_G} {cy : Cyy} {A : Nat → Prop} {G : Gg} (X : Cx p m c cX0_flowOutOf 5 s args wz_X0_flowOutOf RX0 D cy) {Q : State → Prop} (M : Mm) (r0 : Nat) (i1 : Int32) (Qo : Int64 → Prop)  (hE : ∀ (y : Int64), Qo (y) → ∀ (H : Heap) (locs : List Loc) (ls : Array Slot), Wo s D cy A G M H locs → lv_has ls 5 [(2, .long y)] → W p l e rm_X0_flowOutOf s m args below meth c H locs 0 0 Q (F0 m 55 ls [])) : ∀ (n : Nat) (l2 : Int64) (i4 : Int32) (H : Heap) (locs : List Loc) (ls : Array Slot), Wo s D cy A G M H locs → lv_has ls 5 [(0, .ref r0), (1, .int i1), (2, .long l2), (4, .int i4)] → OK (lp_X0_flowOutOf_5 G M r0 i1 n l2 i4) Qo → W p l e rm_X0_flowOutOf s m args below meth c H locs 0 0 Q (F0 m 5 ls []) := by
  intro n
  induction n with
  | zero => intro l2 i4 H locs ls w hl hk; exact ok_0 hk
  | succ n ih => intro l2 i4 H locs ls w hl hk; exact wb_X0_flowOutOf_5 X M r0 i1 Qo hE  (lp_X0_flowOutOf_5 G M r0 i1 n) ih l2 i4 H locs ls w hl hk
set_option maxHeartbeats 4000000 in
set_option maxRecDepth 100000 in
theorem c_X0_flowOutOf (l : Launch) (D : va_G) (cy : Cyy) (G : Gg) (M : Mm) (r0 : Nat) (i1 : Int32) {q : Int64} (hm : f_X0_flowOutOf G M r0 i1 = some q) : CL l yX0_flowOutOf wz_X0_flowOutOf rm_X0_flowOutOf D cy G M [.ref r0, .int i1] q M := by
  refine Met_of (Qf := fun A => QL D cy G A q M) (cc := cX0_flowOutOf) (nL := 5) (ret := (some .long)) (own := RX0) (lv := [(0, .ref r0), (1, .int i1)]) (by decide) rfl rfl (Nat.le_of_ble_eq_true rfl) rfl ?_
  intro p e s m args below meth c A ls X hr hlk w hl
  have hx := X.1.1
  have hb := X.1.2.1
  obtain ⟨Qo, hR, hk⟩ : ∃ Qo : Int64 → Prop, (∀ x, Qo x → x = q) ∧ OK (f_X0_flowOutOf G M r0 i1) Qo := ⟨fun x => x = q, fun _ h => h, q, hm, rfl⟩
  unfold f_X0_flowOutOf at hk
  refine lv_lconst (v := 0) hx hb dX0_flowOutOf_0 (by decide) ?_
  refine lv_lstore_n (lv' := [(2, .long (0 : Int64)), (0, .ref r0), (1, .int i1)]) hx hb dX0_flowOutOf_1 rfl hl (by decide) rfl (fun ls hl => ?_)
  refine lv_iconst (v := 0) hx hb dX0_flowOutOf_2 (by decide) ?_
  refine lv_istore (lv' := [(4, .int (0 : Int32)), (2, .long (0 : Int64)), (0, .ref r0), (1, .int i1)]) hx hb dX0_flowOutOf_3 hl (by decide) rfl (fun ls hl => ?_)
  refine wl_X0_flowOutOf_5 X M r0 i1 (Qo := _) (fun q14 hk H locs ls w hl => ?_) FU (0 : Int64) (0 : Int32) _ _ _ w (lv_sub hl [2, 3, 1, 0] rfl) (ok_b hk)
  refine lv_lload_n hx hb dX0_flowOutOf_55 rfl (lv_at hl 0 rfl) ?_
  have hk := hR _ (ok_s hk)
  exact zrl X hr hlk w dX0_flowOutOf_56 hk rfl
abbrev rm_X1_told : Room := { frames := 0, cells := 0, slots := 0, locals := 0 }
set_option maxHeartbeats 4000000 in
set_option maxRecDepth 100000 in
theorem c_X1_told (l : Launch) (D : va_G) (cy : Cyy) (G : Gg) (M : Mm) (r0 : Nat) (i1 : Int32) {q : Int64} (hm : f_X1_told G M r0 i1 = some q) : CL l yX1_told wz_X1_told rm_X1_told D cy G M [.ref r0, .int i1] q M := by
  refine Met_of (Qf := fun A => QL D cy G A q M) (cc := cX1_told) (nL := 2) (ret := (some .long)) (own := RX1) (lv := [(0, .ref r0), (1, .int i1)]) (by decide) rfl rfl (Nat.le_of_ble_eq_true rfl) rfl ?_
  intro p e s m args below meth c A ls X hr hlk w hl
  have hx := X.1.1
  have hb := X.1.2.1
  obtain ⟨Qo, hR, hk⟩ : ∃ Qo : Int64 → Prop, (∀ x, Qo x → x = q) ∧ OK (f_X1_told G M r0 i1) Qo := ⟨fun x => x = q, fun _ h => h, q, hm, rfl⟩
  unfold f_X1_told at hk
  refine lv_iload_n hx hb dX1_told_0 rfl (lv_at hl 1 rfl) ?_
  refine lv_if_ne (tgt := 11) hx hb dX1_told_1 (by decide) (fun c1 => ?_) (fun c1 => ?_)
  · have hk := ok_n c1 hk
    refine lv_aload_n hx hb dX1_told_11 rfl (lv_at hl 0 rfl) ?_
    obtain ⟨c2, hk⟩ := ok_c hk
    refine zgl X w 1 1 13 (C := RX1) (T := TX1) (N := 2) rfl ui_X1 (by decide) rfl (tb wf_X1_13) dX1_told_12 c2 ?_
    have hk := hR _ (ok_s hk)
    exact zrl X hr hlk w dX1_told_15 hk rfl
  · have hk := ok_p c1 hk
    refine lv_aload_n hx hb dX1_told_4 rfl (lv_at hl 0 rfl) ?_
    obtain ⟨c3, hk⟩ := ok_c hk
    refine zgl X w 1 0 7 (C := RX1) (T := TX1) (N := 2) rfl ui_X1 (by decide) rfl (tb wf_X1_7) dX1_told_5 c3 ?_
    refine lv_goto (tgt := 15) hx hb dX1_told_8 (by decide) ?_
    have hk := hR _ (ok_s hk)
    exact zrl X hr hlk w dX1_told_15 hk rfl
