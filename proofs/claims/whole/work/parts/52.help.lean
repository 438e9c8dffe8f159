abbrev rm_L_octet : Room := { frames := 7, cells := 1, slots := 6, locals := 102 }
set_option maxHeartbeats 4000000 in
set_option maxRecDepth 100000 in
theorem c_L_octet (l : Launch) (hst : l.stackTraces = false) (D : va_G) (cy : Cyy) (G : Gg) (M : Mm) (r0 : Nat) (i1 : Int32) (r2 : Nat) {u : Int32 × Mm} (hm : f_L_octet G M r0 i1 r2 = some u) : CH l yL_octet wz_L_octet rm_L_octet D cy G M [.ref r0, .int i1, .ref r2] u.1 u.2 := by
  refine CH_of (hh := [(0, 9, 12, 13)]) (cc := cL_octet) (nL := 4) (ret := some .int) (own := RL) (lv := [(0, .ref r0), (1, .int i1), (2, .ref r2)]) (by decide) rfl rfl (Nat.le_of_ble_eq_true rfl) rfl ?_
  intro p e s m args below meth c A ls X hr hlk hz htab w hl
  have hx := X.1.1
  have hb := X.1.2.1
  obtain ⟨Qo, hR, hk⟩ : ∃ Qo : Int32 × Mm → Prop, (∀ x, Qo x → x = u) ∧ OK (f_L_octet G M r0 i1 r2) Qo := ⟨fun x => x = u, fun _ h => h, u, hm, rfl⟩
  unfold f_L_octet at hk
  obtain ⟨k1, hk⟩ := ok_c hk
  obtain ⟨k2, hk⟩ := ok_c hk
  obtain ⟨q, hq, hk⟩ := ok_b hk
  refine lv_aload_n hx hb dL_octet_0 rfl (lv_at hl 2 rfl) ?_
  refine lv_iconst (v := 0) hx hb dL_octet_1 (by decide) ?_
  refine lv_aload_n hx hb dL_octet_2 rfl (lv_at hl 0 rfl) ?_
  refine lv_iload_n hx hb dL_octet_3 rfl (lv_at hl 1 rfl) ?_
  rcases hqq : q with _ | r
  · rw [hqq] at hk
    have hk := hR _ (ok_s (show OK (some (1, M)) Qo from hk))
    refine zVc X hlk hz w (n := 1) (As := [.int i1]) (rest := [.int (0 : Int32), .ref r2]) (ci := 8) (C := RX8) (T := TX8) (N := 10) (x_X8_octet l hst D cy G M r0 i1 hq hqq) (gzV wm_L_7 wi_X8_octet ws_X8_octet wn_X8 wc_X8_octet) rfl rfl rfl (by decide +kernel) (by decide) rfl k2 rfl rfl hl.1 (Nat.le_of_ble_eq_true rfl) dL_octet_4 (by decide) htab (by decide) rfl (fun q9 H locs w => ?_)
    refine lv_astore_n (lv' := [(3, .ref q9), (0, .ref r0), (1, .int i1), (2, .ref r2)]) hx hb dL_octet_12 rfl hl (by decide) rfl (fun ls hl => ?_)
    refine lv_iconst (v := 1) hx hb dL_octet_13 (by decide) ?_
    exact zri X hr hlk w dL_octet_14 (pr1 hk) (pr2 hk)
  · rw [hqq] at hk
    refine zVi X w (n := 1) (As := [.int i1]) (rest := [.int (0 : Int32), .ref r2]) (ci := 8) (C := RX8) (T := TX8) (N := 10) (c_X8_octet l D cy G M r0 i1 hq hqq) (gzV wm_L_7 wi_X8_octet ws_X8_octet wn_X8 wc_X8_octet) rfl rfl rfl (by decide +kernel) (by decide) rfl k2 rfl rfl hl.1 (Nat.le_of_ble_eq_true rfl) dL_octet_4 ⟨Nat.zero_le _, Nat.zero_le _⟩ (fun H locs w => ?_)
    obtain ⟨k3, hk⟩ := ok_c (show OK (ck (inb (0 : Int32) (G.2.2 r2)) (some (0, mwJ M r2 (Int32.toNatClampNeg (0 : Int32)) (Int32.toInt64 r)))) Qo from hk)
    have hk := hR _ (ok_s hk)
    refine lv_i2l hx hb dL_octet_7 rfl ?_
    refine zsl X w dL_octet_8 k1 k3 (fun H locs w => ?_)
    refine lv_goto (tgt := 15) hx hb dL_octet_9 (by decide) ?_
    refine lv_iconst (v := 0) hx hb dL_octet_15 (by decide) ?_
    refine W.widen (k := 1) (n := 6) (by decide) (by decide) ?_
    exact zri X hr hlk w dL_octet_16 (pr1 hk) (pr2 hk)
abbrev rm_L_chance : Room := { frames := 8, cells := 1, slots := 6, locals := 130 }
set_option maxHeartbeats 4000000 in
set_option maxRecDepth 100000 in
theorem c_L_chance (l : Launch) (hst : l.stackTraces = false) (D : va_G) (cy : Cyy) (G : Gg) (M : Mm) (r0 : Nat) (i1 : Int32) (i2 : Int32) (i3 : Int32) (i4 : Int32) (i5 : Int32) (r6 : Nat) {u : Int32 × Mm} (hm : f_L_chance G M r0 i1 i2 i3 i4 i5 r6 = some u) : CH l yL_chance wz_L_chance rm_L_chance D cy G M [.ref r0, .int i1, .int i2, .int i3, .int i4, .int i5, .ref r6] u.1 u.2 := by
  refine CH_of (hh := [(0, 15, 18, 13)]) (cc := cL_chance) (nL := 8) (ret := some .int) (own := RL) (lv := [(0, .ref r0), (1, .int i1), (2, .int i2), (3, .int i3), (4, .int i4), (5, .int i5), (6, .ref r6)]) (by decide) rfl rfl (Nat.le_of_ble_eq_true rfl) rfl ?_
  intro p e s m args below meth c A ls X hr hlk hz htab w hl
  have hx := X.1.1
  have hb := X.1.2.1
  obtain ⟨Qo, hR, hk⟩ : ∃ Qo : Int32 × Mm → Prop, (∀ x, Qo x → x = u) ∧ OK (f_L_chance G M r0 i1 i2 i3 i4 i5 r6) Qo := ⟨fun x => x = u, fun _ h => h, u, hm, rfl⟩
  unfold f_L_chance at hk
  obtain ⟨k1, hk⟩ := ok_c hk
  obtain ⟨k2, hk⟩ := ok_c hk
  obtain ⟨q, hq, hk⟩ := ok_b hk
  refine lv_aload hx hb dL_chance_0 (lv_at hl 6 rfl) ?_
  refine lv_iconst (v := 0) hx hb dL_chance_2 (by decide) ?_
  refine lv_aload_n hx hb dL_chance_3 rfl (lv_at hl 0 rfl) ?_
  refine lv_iload_n hx hb dL_chance_4 rfl (lv_at hl 1 rfl) ?_
  refine lv_iload_n hx hb dL_chance_5 rfl (lv_at hl 2 rfl) ?_
  refine lv_iload_n hx hb dL_chance_6 rfl (lv_at hl 3 rfl) ?_
  refine lv_iload hx hb dL_chance_7 (lv_at hl 4 rfl) ?_
  refine lv_iload hx hb dL_chance_9 (lv_at hl 5 rfl) ?_
  rcases hqq : q.1 with _ | r
  · rw [hqq] at hk
    have hk := hR _ (ok_s (show OK (some (1, q.2)) Qo from hk))
    refine zVc X hlk hz w (n := 5) (As := [.int i1, .int i2, .int i3, .int i4, .int i5]) (rest := [.int (0 : Int32), .ref r6]) (ci := 8) (C := RX8) (T := TX8) (N := 10) (x_X8_chance l hst D cy G M r0 i1 i2 i3 i4 i5 hq hqq) (gzV wm_L_15 wi_X8_chance ws_X8_chance wn_X8 wc_X8_chance) rfl rfl rfl (by decide +kernel) (by decide) rfl k2 rfl rfl hl.1 (Nat.le_of_ble_eq_true rfl) dL_chance_11 (by decide) htab (by decide) rfl (fun q9 H locs w => ?_)
    refine lv_astore (lv' := [(7, .ref q9), (0, .ref r0), (1, .int i1), (2, .int i2), (3, .int i3), (4, .int i4), (5, .int i5), (6, .ref r6)]) hx hb dL_chance_18 hl (by decide) rfl (fun ls hl => ?_)
    refine lv_iconst (v := 1) hx hb dL_chance_20 (by decide) ?_
    exact zri X hr hlk w dL_chance_21 (pr1 hk) (pr2 hk)
  · rw [hqq] at hk
    refine zVl X w (n := 5) (As := [.int i1, .int i2, .int i3, .int i4, .int i5]) (rest := [.int (0 : Int32), .ref r6]) (ci := 8) (C := RX8) (T := TX8) (N := 10) (c_X8_chance l D cy G M r0 i1 i2 i3 i4 i5 hq hqq) (gzV wm_L_15 wi_X8_chance ws_X8_chance wn_X8 wc_X8_chance) rfl rfl rfl (by decide +kernel) (by decide) rfl k2 rfl rfl hl.1 (Nat.le_of_ble_eq_true rfl) dL_chance_11 ⟨Nat.zero_le _, Nat.zero_le _⟩ (fun H locs w => ?_)
    obtain ⟨k3, hk⟩ := ok_c (show OK (ck (inb (0 : Int32) (G.2.2 r6)) (some (0, mwJ q.2 r6 (Int32.toNatClampNeg (0 : Int32)) r))) Qo from hk)
    have hk := hR _ (ok_s hk)
    refine zsl X w dL_chance_14 k1 k3 (fun H locs w => ?_)
    refine lv_goto (tgt := 22) hx hb dL_chance_15 (by decide) ?_
    refine lv_iconst (v := 0) hx hb dL_chance_22 (by decide) ?_
    refine W.widen (k := 1) (n := 6) (by decide) (by decide) ?_
    exact zri X hr hlk w dL_chance_23 (pr1 hk) (pr2 hk)
abbrev rm_L_apart : Room := { frames := 8, cells := 1, slots := 6, locals := 132 }
set_option maxHeartbeats 4000000 in
set_option maxRecDepth 100000 in
theorem c_L_apart (l : Launch) (hst : l.stackTraces = false) (D : va_G) (cy : Cyy) (G : Gg) (M : Mm) (r0 : Nat) (i1 : Int32) (i2 : Int32) (i3 : Int32) (i4 : Int32) (i5 : Int32) (r6 : Nat) {u : Int32 × Mm} (hm : f_L_apart G M r0 i1 i2 i3 i4 i5 r6 = some u) : CH l yL_apart wz_L_apart rm_L_apart D cy G M [.ref r0, .int i1, .int i2, .int i3, .int i4, .int i5, .ref r6] u.1 u.2 := by
  refine CH_of (hh := [(0, 15, 18, 13)]) (cc := cL_apart) (nL := 8) (ret := some .int) (own := RL) (lv := [(0, .ref r0), (1, .int i1), (2, .int i2), (3, .int i3), (4, .int i4), (5, .int i5), (6, .ref r6)]) (by decide) rfl rfl (Nat.le_of_ble_eq_true rfl) rfl ?_
  intro p e s m args below meth c A ls X hr hlk hz htab w hl
  have hx := X.1.1
  have hb := X.1.2.1
  obtain ⟨Qo, hR, hk⟩ : ∃ Qo : Int32 × Mm → Prop, (∀ x, Qo x → x = u) ∧ OK (f_L_apart G M r0 i1 i2 i3 i4 i5 r6) Qo := ⟨fun x => x = u, fun _ h => h, u, hm, rfl⟩
  unfold f_L_apart at hk
  obtain ⟨k1, hk⟩ := ok_c hk
  obtain ⟨k2, hk⟩ := ok_c hk
  obtain ⟨q, hq, hk⟩ := ok_b hk
  refine lv_aload hx hb dL_apart_0 (lv_at hl 6 rfl) ?_
  refine lv_iconst (v := 0) hx hb dL_apart_2 (by decide) ?_
  refine lv_aload_n hx hb dL_apart_3 rfl (lv_at hl 0 rfl) ?_
  refine lv_iload_n hx hb dL_apart_4 rfl (lv_at hl 1 rfl) ?_
  refine lv_iload_n hx hb dL_apart_5 rfl (lv_at hl 2 rfl) ?_
  refine lv_iload_n hx hb dL_apart_6 rfl (lv_at hl 3 rfl) ?_
  refine lv_iload hx hb dL_apart_7 (lv_at hl 4 rfl) ?_
  refine lv_iload hx hb dL_apart_9 (lv_at hl 5 rfl) ?_
  rcases hqq : q.1 with _ | r
  · rw [hqq] at hk
    have hk := hR _ (ok_s (show OK (some (1, q.2)) Qo from hk))
    refine zVc X hlk hz w (n := 5) (As := [.int i1, .int i2, .int i3, .int i4, .int i5]) (rest := [.int (0 : Int32), .ref r6]) (ci := 8) (C := RX8) (T := TX8) (N := 10) (x_X8_apart l hst D cy G M r0 i1 i2 i3 i4 i5 hq hqq) (gzV wm_L_19 wi_X8_apart ws_X8_apart wn_X8 wc_X8_apart) rfl rfl rfl (by decide +kernel) (by decide) rfl k2 rfl rfl hl.1 (Nat.le_of_ble_eq_true rfl) dL_apart_11 (by decide) htab (by decide) rfl (fun q9 H locs w => ?_)
    refine lv_astore (lv' := [(7, .ref q9), (0, .ref r0), (1, .int i1), (2, .int i2), (3, .int i3), (4, .int i4), (5, .int i5), (6, .ref r6)]) hx hb dL_apart_18 hl (by decide) rfl (fun ls hl => ?_)
    refine lv_iconst (v := 1) hx hb dL_apart_20 (by decide) ?_
    exact zri X hr hlk w dL_apart_21 (pr1 hk) (pr2 hk)
  · rw [hqq] at hk
    refine zVl X w (n := 5) (As := [.int i1, .int i2, .int i3, .int i4, .int i5]) (rest := [.int (0 : Int32), .ref r6]) (ci := 8) (C := RX8) (T := TX8) (N := 10) (c_X8_apart l D cy G M r0 i1 i2 i3 i4 i5 hq hqq) (gzV wm_L_19 wi_X8_apart ws_X8_apart wn_X8 wc_X8_apart) rfl rfl rfl (by decide +kernel) (by decide) rfl k2 rfl rfl hl.1 (Nat.le_of_ble_eq_true rfl) dL_apart_11 ⟨Nat.zero_le _, Nat.zero_le _⟩ (fun H locs w => ?_)
    obtain ⟨k3, hk⟩ := ok_c (show OK (ck (inb (0 : Int32) (G.2.2 r6)) (some (0, mwJ q.2 r6 (Int32.toNatClampNeg (0 : Int32)) r))) Qo from hk)
    have hk := hR _ (ok_s hk)
    refine zsl X w dL_apart_14 k1 k3 (fun H locs w => ?_)
    refine lv_goto (tgt := 22) hx hb dL_apart_15 (by decide) ?_
    refine lv_iconst (v := 0) hx hb dL_apart_22 (by decide) ?_
    refine W.widen (k := 1) (n := 6) (by decide) (by decide) ?_
    exact zri X hr hlk w dL_apart_23 (pr1 hk) (pr2 hk)
abbrev rm_L_stay : Room := { frames := 8, cells := 1, slots := 6, locals := 128 }
set_option maxHeartbeats 4000000 in
set_option maxRecDepth 100000 in
theorem c_L_stay (l : Launch) (hst : l.stackTraces = false) (D : va_G) (cy : Cyy) (G : Gg) (M : Mm) (r0 : Nat) (i1 : Int32) (i2 : Int32) (i3 : Int32) (r4 : Nat) {u : Int32 × Mm} (hm : f_L_stay G M r0 i1 i2 i3 r4 = some u) : CH l yL_stay wz_L_stay rm_L_stay D cy G M [.ref r0, .int i1, .int i2, .int i3, .ref r4] u.1 u.2 := by
  refine CH_of (hh := [(0, 11, 14, 13)]) (cc := cL_stay) (nL := 6) (ret := some .int) (own := RL) (lv := [(0, .ref r0), (1, .int i1), (2, .int i2), (3, .int i3), (4, .ref r4)]) (by decide) rfl rfl (Nat.le_of_ble_eq_true rfl) rfl ?_
  intro p e s m args below meth c A ls X hr hlk hz htab w hl
  have hx := X.1.1
  have hb := X.1.2.1
  obtain ⟨Qo, hR, hk⟩ : ∃ Qo : Int32 × Mm → Prop, (∀ x, Qo x → x = u) ∧ OK (f_L_stay G M r0 i1 i2 i3 r4) Qo := ⟨fun x => x = u, fun _ h => h, u, hm, rfl⟩
  unfold f_L_stay at hk
  obtain ⟨k1, hk⟩ := ok_c hk
  obtain ⟨k2, hk⟩ := ok_c hk
  obtain ⟨q, hq, hk⟩ := ok_b hk
  refine lv_aload hx hb dL_stay_0 (lv_at hl 4 rfl) ?_
  refine lv_iconst (v := 0) hx hb dL_stay_2 (by decide) ?_
  refine lv_aload_n hx hb dL_stay_3 rfl (lv_at hl 0 rfl) ?_
  refine lv_iload_n hx hb dL_stay_4 rfl (lv_at hl 1 rfl) ?_
  refine lv_iload_n hx hb dL_stay_5 rfl (lv_at hl 2 rfl) ?_
  refine lv_iload_n hx hb dL_stay_6 rfl (lv_at hl 3 rfl) ?_
  rcases hqq : q.1 with _ | r
  · rw [hqq] at hk
    have hk := hR _ (ok_s (show OK (some (1, q.2)) Qo from hk))
    refine zVc X hlk hz w (n := 3) (As := [.int i1, .int i2, .int i3]) (rest := [.int (0 : Int32), .ref r4]) (ci := 8) (C := RX8) (T := TX8) (N := 10) (x_X8_stay l hst D cy G M r0 i1 i2 i3 hq hqq) (gzV wm_L_22 wi_X8_stay ws_X8_stay wn_X8 wc_X8_stay) rfl rfl rfl (by decide +kernel) (by decide) rfl k2 rfl rfl hl.1 (Nat.le_of_ble_eq_true rfl) dL_stay_7 (by decide) htab (by decide) rfl (fun q9 H locs w => ?_)
    refine lv_astore (lv' := [(5, .ref q9), (0, .ref r0), (1, .int i1), (2, .int i2), (3, .int i3), (4, .ref r4)]) hx hb dL_stay_14 hl (by decide) rfl (fun ls hl => ?_)
    refine lv_iconst (v := 1) hx hb dL_stay_16 (by decide) ?_
    exact zri X hr hlk w dL_stay_17 (pr1 hk) (pr2 hk)
  · rw [hqq] at hk
    refine zVl X w (n := 3) (As := [.int i1, .int i2, .int i3]) (rest := [.int (0 : Int32), .ref r4]) (ci := 8) (C := RX8) (T := TX8) (N := 10) (c_X8_stay l D cy G M r0 i1 i2 i3 hq hqq) (gzV wm_L_22 wi_X8_stay ws_X8_stay wn_X8 wc_X8_stay) rfl rfl rfl (by decide +kernel) (by decide) rfl k2 rfl rfl hl.1 (Nat.le_of_ble_eq_true rfl) dL_stay_7 ⟨Nat.zero_le _, Nat.zero_le _⟩ (fun H locs w => ?_)
    obtain ⟨k3, hk⟩ := ok_c (show OK (ck (inb (0 : Int32) (G.2.2 r4)) (some (0, mwJ q.2 r4 (Int32.toNatClampNeg (0 : Int32)) r))) Qo from hk)
    have hk := hR _ (ok_s hk)
    refine zsl X w dL_stay_10 k1 k3 (fun H locs w => ?_)
    refine lv_goto (tgt := 18) hx hb dL_stay_11 (by decide) ?_
    refine lv_iconst (v := 0) hx hb dL_stay_18 (by decide) ?_
    refine W.widen (k := 1) (n := 6) (by decide) (by decide) ?_
    exact zri X hr hlk w dL_stay_19 (pr1 hk) (pr2 hk)
abbrev rm_L_steps : Room := { frames := 8, cells := 1, slots := 6, locals := 168 }
set_option maxHeartbeats 4000000 in
set_option maxRecDepth 100000 in
theorem c_L_steps (l : Launch) (hst : l.stackTraces = false) (D : va_G) (cy : Cyy) (G : Gg) (M : Mm) (r0 : Nat) (i1 : Int32) (i2 : Int32) (i3 : Int32) (i4 : Int32) (r5 : Nat) {u : Int32 × Mm} (hm : f_L_steps G M r0 i1 i2 i3 i4 r5 = some u) : CH l yL_steps wz_L_steps rm_L_steps D cy G M [.ref r0, .int i1, .int i2, .int i3, .int i4, .ref r5] u.1 u.2 := by
  refine CH_of (hh := [(0, 13, 16, 13)]) (cc := cL_steps) (nL := 7) (ret := some .int) (own := RL) (lv := [(0, .ref r0), (1, .int i1), (2, .int i2), (3, .int i3), (4, .int i4), (5, .ref r5)]) (by decide) rfl rfl (Nat.le_of_ble_eq_true rfl) rfl ?_
  intro p e s m args below meth c A ls X hr hlk hz htab w hl
  have hx := X.1.1
  have hb := X.1.2.1
  obtain ⟨Qo, hR, hk⟩ : ∃ Qo : Int32 × Mm → Prop, (∀ x, Qo x → x = u) ∧ OK (f_L_steps G M r0 i1 i2 i3 i4 r5) Qo := ⟨fun x => x = u, fun _ h => h, u, hm, rfl⟩
  unfold f_L_steps at hk
  obtain ⟨k1, hk⟩ := ok_c hk
  obtain ⟨k2, hk⟩ := ok_c hk
  obtain ⟨q, hq, hk⟩ := ok_b hk
  refine lv_aload hx hb dL_steps_0 (lv_at hl 5 rfl) ?_
  refine lv_iconst (v := 0) hx hb dL_steps_2 (by decide) ?_
  refine lv_aload_n hx hb dL_steps_3 rfl (lv_at hl 0 rfl) ?_
  refine lv_iload_n hx hb dL_steps_4 rfl (lv_at hl 1 rfl) ?_
  refine lv_iload_n hx hb dL_steps_5 rfl (lv_at hl 2 rfl) ?_
  refine lv_iload_n hx hb dL_steps_6 rfl (lv_at hl 3 rfl) ?_
  refine lv_iload hx hb dL_steps_7 (lv_at hl 4 rfl) ?_
  rcases hqq : q.1 with _ | r
  · rw [hqq] at hk
    have hk := hR _ (ok_s (show OK (some (1, q.2)) Qo from hk))
    refine zVc X hlk hz w (n := 4) (As := [.int i1, .int i2, .int i3, .int i4]) (rest := [.int (0 : Int32), .ref r5]) (ci := 8) (C := RX8) (T := TX8) (N := 10) (x_X8_steps l hst D cy G M r0 i1 i2 i3 i4 hq hqq) (gzV wm_L_26 wi_X8_steps ws_X8_steps wn_X8 wc_X8_steps) rfl rfl rfl (by decide +kernel) (by decide) rfl k2 rfl rfl hl.1 (Nat.le_of_ble_eq_true rfl) dL_steps_9 (by decide) htab (by decide) rfl (fun q9 H locs w => ?_)
    refine lv_astore (lv' := [(6, .ref q9), (0, .ref r0), (1, .int i1), (2, .int i2), (3, .int i3), (4, .int i4), (5, .ref r5)]) hx hb dL_steps_16 hl (by decide) rfl (fun ls hl => ?_)
    refine lv_iconst (v := 1) hx hb dL_steps_18 (by decide) ?_
    exact zri X hr hlk w dL_steps_19 (pr1 hk) (pr2 hk)
  · rw [hqq] at hk
    refine zVl X w (n := 4) (As := [.int i1, .int i2, .int i3, .int i4]) (rest := [.int (0 : Int32), .ref r5]) (ci := 8) (C := RX8) (T := TX8) (N := 10) (c_X8_steps l D cy G M r0 i1 i2 i3 i4 hq hqq) (gzV wm_L_26 wi_X8_steps ws_X8_steps wn_X8 wc_X8_steps) rfl rfl rfl (by decide +kernel) (by decide) rfl k2 rfl rfl hl.1 (Nat.le_of_ble_eq_true rfl) dL_steps_9 ⟨Nat.zero_le _, Nat.zero_le _⟩ (fun H locs w => ?_)
    obtain ⟨k3, hk⟩ := ok_c (show OK (ck (inb (0 : Int32) (G.2.2 r5)) (some (0, mwJ q.2 r5 (Int32.toNatClampNeg (0 : Int32)) r))) Qo from hk)
    have hk := hR _ (ok_s hk)
    refine zsl X w dL_steps_12 k1 k3 (fun H locs w => ?_)
    refine lv_goto (tgt := 20) hx hb dL_steps_13 (by decide) ?_
    refine lv_iconst (v := 0) hx hb dL_steps_20 (by decide) ?_
    refine W.widen (k := 1) (n := 6) (by decide) (by decide) ?_
    exact zri X hr hlk w dL_steps_21 (pr1 hk) (pr2 hk)
abbrev rm_L_ahead : Room := { frames := 8, cells := 1, slots := 6, locals := 171 }
set_option maxHeartbeats 4000000 in
set_option maxRecDepth 100000 in
theorem c_L_ahead (l : Launch) (hst : l.stackTraces = false) (D : va_G) (cy : Cyy) (G : Gg) (M : Mm) (r0 : Nat) (i1 : Int32) (i2 : Int32) (i3 : Int32) (i4 : Int32) (i5 : Int32) (r6 : Nat) {u : Int32 × Mm} (hm : f_L_ahead G M r0 i1 i2 i3 i4 i5 r6 = some u) : CH l yL_ahead wz_L_ahead rm_L_ahead D cy G M [.ref r0, .int i1, .int i2, .int i3, .int i4, .int i5, .ref r6] u.1 u.2 := by
  refine CH_of (hh := [(0, 15, 18, 13)]) (cc := cL_ahead) (nL := 8) (ret := some .int) (own := RL) (lv := [(0, .ref r0), (1, .int i1), (2, .int i2), (3, .int i3), (4, .int i4), (5, .int i5), (6, .ref r6)]) (by decide) rfl rfl (Nat.le_of_ble_eq_true rfl) rfl ?_
  intro p e s m args below meth c A ls X hr hlk hz htab w hl
  have hx := X.1.1
  have hb := X.1.2.1
  obtain ⟨Qo, hR, hk⟩ : ∃ Qo : Int32 × Mm → Prop, (∀ x, Qo x → x = u) ∧ OK (f_L_ahead G M r0 i1 i2 i3 i4 i5 r6) Qo := ⟨fun x => x = u, fun _ h => h, u, hm, rfl⟩
  unfold f_L_ahead at hk
  obtain ⟨k1, hk⟩ := ok_c hk
  obtain ⟨k2, hk⟩ := ok_c hk
  obtain ⟨q, hq, hk⟩ := ok_b hk
  refine lv_aload hx hb dL_ahead_0 (lv_at hl 6 rfl) ?_
  refine lv_iconst (v := 0) hx hb dL_ahead_2 (by decide) ?_
  refine lv_aload_n hx hb dL_ahead_3 rfl (lv_at hl 0 rfl) ?_
  refine lv_iload_n hx hb dL_ahead_4 rfl (lv_at hl 1 rfl) ?_
  refine lv_iload_n hx hb dL_ahead_5 rfl (lv_at hl 2 rfl) ?_
  refine lv_iload_n hx hb dL_ahead_6 rfl (lv_at hl 3 rfl) ?_
  refine lv_iload hx hb dL_ahead_7 (lv_at hl 4 rfl) ?_
  refine lv_iload hx hb dL_ahead_9 (lv_at hl 5 rfl) ?_
  rcases hqq : q.1 with _ | r
  · rw [hqq] at hk
    have hk := hR _ (ok_s (show OK (some (1, q.2)) Qo from hk))
    refine zVc X hlk hz w (n := 5) (As := [.int i1, .int i2, .int i3, .int i4, .int i5]) (rest := [.int (0 : Int32), .ref r6]) (ci := 8) (C := RX8) (T := TX8) (N := 10) (x_X8_ahead l hst D cy G M r0 i1 i2 i3 i4 i5 hq hqq) (gzV wm_L_30 wi_X8_ahead ws_X8_ahead wn_X8 wc_X8_ahead) rfl rfl rfl (by decide +kernel) (by decide) rfl k2 rfl rfl hl.1 (Nat.le_of_ble_eq_true rfl) dL_ahead_11 (by decide) htab (by decide) rfl (fun q9 H locs w => ?_)
    refine lv_astore (lv' := [(7, .ref q9), (0, .ref r0), (1, .int i1), (2, .int i2), (3, .int i3), (4, .int i4), (5, .int i5), (6, .ref r6)]) hx hb dL_ahead_18 hl (by decide) rfl (fun ls hl => ?_)
    refine lv_iconst (v := 1) hx hb dL_ahead_20 (by decide) ?_
    exact zri X hr hlk w dL_ahead_21 (pr1 hk) (pr2 hk)
  · rw [hqq] at hk
    refine zVl X w (n := 5) (As := [.int i1, .int i2, .int i3, .int i4, .int i5]) (rest := [.int (0 : Int32), .ref r6]) (ci := 8) (C := RX8) (T := TX8) (N := 10) (c_X8_ahead l D cy G M r0 i1 i2 i3 i4 i5 hq hqq) (gzV wm_L_30 wi_X8_ahead ws_X8_ahead wn_X8 wc_X8_ahead) rfl rfl rfl (by decide +kernel) (by decide) rfl k2 rfl rfl hl.1 (Nat.le_of_ble_eq_true rfl) dL_ahead_11 ⟨Nat.zero_le _, Nat.zero_le _⟩ (fun H locs w => ?_)
    obtain ⟨k3, hk⟩ := ok_c (show OK (ck (inb (0 : Int32) (G.2.2 r6)) (some (0, mwJ q.2 r6 (Int32.toNatClampNeg (0 : Int32)) r))) Qo from hk)
    have hk := hR _ (ok_s hk)
    refine zsl X w dL_ahead_14 k1 k3 (fun H locs w => ?_)
    refine lv_goto (tgt := 22) hx hb dL_ahead_15 (by decide) ?_
    refine lv_iconst (v := 0) hx hb dL_ahead_22 (by decide) ?_
    refine W.widen (k := 1) (n := 6) (by decide) (by decide) ?_
    exact zri X hr hlk w dL_ahead_23 (pr1 hk) (pr2 hk)
abbrev rm_L_narrow : Room := { frames := 8, cells := 1, slots := 6, locals := 152 }
set_option maxHeartbeats 4000000 in
set_option maxRecDepth 100000 in
theorem c_L_narrow (l : Launch) (hst : l.stackTraces = false) (D : va_G) (cy : Cyy) (G : Gg) (M : Mm) (r0 : Nat) (i1 : Int32) (i2 : Int32) (r3 : Nat) {u : Int32 × Mm} (hm : f_L_narrow G M r0 i1 i2 r3 = some u) : CH l yL_narrow wz_L_narrow rm_L_narrow D cy G M [.ref r0, .int i1, .int i2, .ref r3] u.1 u.2 := by
  refine CH_of (hh := [(0, 9, 12, 13)]) (cc := cL_narrow) (nL := 5) (ret := some .int) (own := RL) (lv := [(0, .ref r0), (1, .int i1), (2, .int i2), (3, .ref r3)]) (by decide) rfl rfl (Nat.le_of_ble_eq_true rfl) rfl ?_
  intro p e s m args below meth c A ls X hr hlk hz htab w hl
  have hx := X.1.1
  have hb := X.1.2.1
  obtain ⟨Qo, hR, hk⟩ : ∃ Qo : Int32 × Mm → Prop, (∀ x, Qo x → x = u) ∧ OK (f_L_narrow G M r0 i1 i2 r3) Qo := ⟨fun x => x = u, fun _ h => h, u, hm, rfl⟩
  unfold f_L_narrow at hk
  obtain ⟨k1, hk⟩ := ok_c hk
  obtain ⟨k2, hk⟩ := ok_c hk
  obtain ⟨q, hq, hk⟩ := ok_b hk
  refine lv_aload_n hx hb dL_narrow_0 rfl (lv_at hl 3 rfl) ?_
  refine lv_iconst (v := 0) hx hb dL_narrow_1 (by decide) ?_
  refine lv_aload_n hx hb dL_narrow_2 rfl (lv_at hl 0 rfl) ?_
  refine lv_iload_n hx hb dL_narrow_3 rfl (lv_at hl 1 rfl) ?_
  refine lv_iload_n hx hb dL_narrow_4 rfl (lv_at hl 2 rfl) ?_
  rcases hqq : q.1 with _ | r
  · rw [hqq] at hk
    have hk := hR _ (ok_s (show OK (some (1, q.2)) Qo from hk))
    refine zVc X hlk hz w (n := 2) (As := [.int i1, .int i2]) (rest := [.int (0 : Int32), .ref r3]) (ci := 8) (C := RX8) (T := TX8) (N := 10) (x_X8_narrow l hst D cy G M r0 i1 i2 hq hqq) (gzV wm_L_33 wi_X8_narrow ws_X8_narrow wn_X8 wc_X8_narrow) rfl rfl rfl (by decide +kernel) (by decide) rfl k2 rfl rfl hl.1 (Nat.le_of_ble_eq_true rfl) dL_narrow_5 (by decide) htab (by decide) rfl (fun q9 H locs w => ?_)
    refine lv_astore (lv' := [(4, .ref q9), (0, .ref r0), (1, .int i1), (2, .int i2), (3, .ref r3)]) hx hb dL_narrow_12 hl (by decide) rfl (fun ls hl => ?_)
    refine lv_iconst (v := 1) hx hb dL_narrow_14 (by decide) ?_
    exact zri X hr hlk w dL_narrow_15 (pr1 hk) (pr2 hk)
  · rw [hqq] at hk
    refine zVl X w (n := 2) (As := [.int i1, .int i2]) (rest := [.int (0 : Int32), .ref r3]) (ci := 8) (C := RX8) (T := TX8) (N := 10) (c_X8_narrow l D cy G M r0 i1 i2 hq hqq) (gzV wm_L_33 wi_X8_narrow ws_X8_narrow wn_X8 wc_X8_narrow) rfl rfl rfl (by decide +kernel) (by decide) rfl k2 rfl rfl hl.1 (Nat.le_of_ble_eq_true rfl) dL_narrow_5 ⟨Nat.zero_le _, Nat.zero_le _⟩ (fun H locs w => ?_)
    obtain ⟨k3, hk⟩ := ok_c (show OK (ck (inb (0 : Int32) (G.2.2 r3)) (some (0, mwJ q.2 r3 (Int32.toNatClampNeg (0 : Int32)) r))) Qo from hk)
    have hk := hR _ (ok_s hk)
    refine zsl X w dL_narrow_8 k1 k3 (fun H locs w => ?_)
    refine lv_goto (tgt := 16) hx hb dL_narrow_9 (by decide) ?_
    refine lv_iconst (v := 0) hx hb dL_narrow_16 (by decide) ?_
    refine W.widen (k := 1) (n := 6) (by decide) (by decide) ?_
    exact zri X hr hlk w dL_narrow_17 (pr1 hk) (pr2 hk)
