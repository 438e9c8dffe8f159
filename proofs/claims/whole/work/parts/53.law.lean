set_option maxHeartbeats 8000000 in
set_option maxRecDepth 100000 in
theorem wb_law {p : Program} {l : Launch} {e : Env} {s : State} {m : MethodId} {below : List Frame} {meth : Method} {c : Code} {D : va_G} {cy : Cyy} {A : Nat → Prop} {G : Gg} {b L : Nat} {xs : Nat → Int32} {w0 : Cond} (X : Cx p m c cL_law 8 s #[Value.ref b] (w0 :: TBL) RL D cy) (hst : l.stackTraces = false) (hz : ZQ A s) (hX : va_X b L xs s s.heap) (hbl : b < s.heap.size) (hbA : ¬ A b) {Q : State → Prop} (r1 r2 r3 : Nat) (Qo : Int32 ⊕ Mm → Prop) (hR : ∀ x, Qo (.inl x) → False) (hE : ∀ (M : Mm), Qo (.inr M) → ∀ (cs sl : Nat), cs ≤ 601024 → sl ≤ 7293034 → ∀ (H : Heap) (locs : List Loc) (ls : Array Slot), Wo s D cy A G M H locs → W p l e room_1 s m #[Value.ref b] below meth c H locs cs sl Q (F0 m 1179 ls [])) (nn : Nat) (rec : Int32 → Mm → Option (Int32 ⊕ Mm)) (hrec : ∀ (i4 : Int32) (M : Mm) (cs sl : Nat), cs + nn ≤ 601024 → sl + 6 * nn ≤ 7293034 → ∀ (H : Heap) (locs : List Loc) (ls : Array Slot), Wo s D cy A G M H locs → lv_has ls 8 [(0, .ref b), (1, .ref r1), (2, .ref r2), (3, .ref r3), (4, .int i4)] → OK (rec i4 M) Qo → W p l e room_1 s m #[Value.ref b] below meth c H locs cs sl Q (F0 m 23 ls [])) (i4 : Int32) (M : Mm) (cs sl : Nat) (hc : cs + (nn + 1) ≤ 601024) (hs : sl + 6 * (nn + 1) ≤ 7293034) (H : Heap) (locs : List Loc) (ls : Array Slot) (w : Wo s D cy A G M H locs) (hl : lv_has ls 8 [(0, .ref b), (1, .ref r1), (2, .ref r2), (3, .ref r3), (4, .int i4)]) (hk : OK (bd_law G L xs r1 r2 r3 rec i4 M) Qo) : W p l e room_1 s m #[Value.ref b] below meth c H locs cs sl Q (F0 m 23 ls []) := by
    have hx := X.1.1
    have hb := X.1.2.1
    unfold bd_law at hk
    refine lv_iload hx hb dL_law_23 (lv_at hl 4 rfl) ?_
    refine lv_aload_n hx hb dL_law_25 rfl (lv_at hl 0 rfl) ?_
    refine va_slen hx hb hX hbl hbA w.2.2.1 dL_law_26 ?_
    refine lv_bipush (v := 6) hx hb dL_law_27 (by decide) ?_
    refine lv_isub hx hb dL_law_29 ?_
    refine lv_icmp_gt (tgt := 1179) hx hb dL_law_30 (by decide) (fun c1 => ?_) (fun c1 => ?_)
    · have hk := ok_p c1 hk
      exact hE M (ok_s hk) _ _ (by omega) (by omega) _ _ _ w
    · have hk := ok_n c1 hk
      refine lv_aload_n hx hb dL_law_33 rfl (lv_at hl 0 rfl) ?_
      refine lv_iload hx hb dL_law_34 (lv_at hl 4 rfl) ?_
      obtain ⟨c2, hk⟩ := ok_c hk
      refine va_sld hx hb hX hbl hbA w.2.2.1 c2 dL_law_36 ?_
      refine lv_bipush (v := 31) hx hb dL_law_37 (by decide) ?_
      refine lv_iand hx hb dL_law_39 ?_
      by_cases s3 : ((xs (Int32.toNatClampNeg i4)) &&& (31 : Int32)) = 0
      · have hk := ok_p s3 hk
        refine lv_tableIn (off := 88) (tgt := 128) hx hb dL_law_40 (by rw [s3]; decide) (by rw [s3]; decide) (by rw [s3]; rfl) (by decide) ?_
        refine lv_aload_n hx hb dL_law_128 rfl (lv_at hl 1 rfl) ?_
        refine lv_aload_n hx hb dL_law_129 rfl (lv_at hl 0 rfl) ?_
        refine lv_iload hx hb dL_law_130 (lv_at hl 4 rfl) ?_
        refine lv_iconst (v := 1) hx hb dL_law_132 (by decide) ?_
        refine lv_iadd hx hb dL_law_133 ?_
        obtain ⟨c4, hk⟩ := ok_c hk
        refine va_sld hx hb hX hbl hbA w.2.2.1 c4 dL_law_134 ?_
        refine lv_aload_n hx hb dL_law_135 rfl (lv_at hl 0 rfl) ?_
        refine lv_iload hx hb dL_law_136 (lv_at hl 4 rfl) ?_
        refine lv_iconst (v := 2) hx hb dL_law_138 (by decide) ?_
        refine lv_iadd hx hb dL_law_139 ?_
        obtain ⟨c5, hk⟩ := ok_c hk
        refine va_sld hx hb hX hbl hbA w.2.2.1 c5 dL_law_140 ?_
        refine lv_aload_n hx hb dL_law_141 rfl (lv_at hl 0 rfl) ?_
        refine lv_iload hx hb dL_law_142 (lv_at hl 4 rfl) ?_
        refine lv_iconst (v := 3) hx hb dL_law_144 (by decide) ?_
        refine lv_iadd hx hb dL_law_145 ?_
        obtain ⟨c6, hk⟩ := ok_c hk
        refine va_sld hx hb hX hbl hbA w.2.2.1 c6 dL_law_146 ?_
        refine lv_aload_n hx hb dL_law_147 rfl (lv_at hl 0 rfl) ?_
        refine lv_iload hx hb dL_law_148 (lv_at hl 4 rfl) ?_
        refine lv_iconst (v := 4) hx hb dL_law_150 (by decide) ?_
        refine lv_iadd hx hb dL_law_151 ?_
        obtain ⟨c7, hk⟩ := ok_c hk
        refine va_sld hx hb hX hbl hbA w.2.2.1 c7 dL_law_152 ?_
        refine lv_aload_n hx hb dL_law_153 rfl (lv_at hl 0 rfl) ?_
        refine lv_iload hx hb dL_law_154 (lv_at hl 4 rfl) ?_
        refine lv_iconst (v := 5) hx hb dL_law_156 (by decide) ?_
        refine lv_iadd hx hb dL_law_157 ?_
        obtain ⟨c8, hk⟩ := ok_c hk
        refine va_sld hx hb hX hbl hbA w.2.2.1 c8 dL_law_158 ?_
        obtain ⟨c11, hk⟩ := ok_c hk
        obtain ⟨q9, e10, hk⟩ := ok_b hk
        refine zVi X w (n := 5) (As := [.int (xs (Int32.toNatClampNeg (i4 + (1 : Int32)))), .int (xs (Int32.toNatClampNeg (i4 + (2 : Int32)))), .int (xs (Int32.toNatClampNeg (i4 + (3 : Int32)))), .int (xs (Int32.toNatClampNeg (i4 + (4 : Int32)))), .int (xs (Int32.toNatClampNeg (i4 + (5 : Int32))))]) (rest := []) (ci := 8) (C := RX8) (T := TX8) (N := 10) (c_X8_feed l D cy G M r1 (xs (Int32.toNatClampNeg (i4 + (1 : Int32)))) (xs (Int32.toNatClampNeg (i4 + (2 : Int32)))) (xs (Int32.toNatClampNeg (i4 + (3 : Int32)))) (xs (Int32.toNatClampNeg (i4 + (4 : Int32)))) (xs (Int32.toNatClampNeg (i4 + (5 : Int32)))) e10) (gzV wm_L_41 wi_X8_feed ws_X8_feed wn_X8 wc_X8_feed) rfl rfl rfl (by decide +kernel) (by decide) rfl c11 rfl rfl hl.1 (Nat.le_of_ble_eq_true rfl) dL_law_159 ⟨by show _ ≤ 601024; omega, by show _ ≤ 7293034; omega⟩ (fun H locs w => ?_)
        refine lv_aload_n hx hb dL_law_162 rfl (lv_at hl 2 rfl) ?_
        refine lv_aload_n hx hb dL_law_163 rfl (lv_at hl 0 rfl) ?_
        refine lv_iload hx hb dL_law_164 (lv_at hl 4 rfl) ?_
        refine lv_iconst (v := 1) hx hb dL_law_166 (by decide) ?_
        refine lv_iadd hx hb dL_law_167 ?_
        refine va_sld hx hb hX hbl hbA w.2.2.1 c4 dL_law_168 ?_
        refine lv_aload_n hx hb dL_law_169 rfl (lv_at hl 0 rfl) ?_
        refine lv_iload hx hb dL_law_170 (lv_at hl 4 rfl) ?_
        refine lv_iconst (v := 2) hx hb dL_law_172 (by decide) ?_
        refine lv_iadd hx hb dL_law_173 ?_
        refine va_sld hx hb hX hbl hbA w.2.2.1 c5 dL_law_174 ?_
        refine lv_aload_n hx hb dL_law_175 rfl (lv_at hl 0 rfl) ?_
        refine lv_iload hx hb dL_law_176 (lv_at hl 4 rfl) ?_
        refine lv_iconst (v := 3) hx hb dL_law_178 (by decide) ?_
        refine lv_iadd hx hb dL_law_179 ?_
        refine va_sld hx hb hX hbl hbA w.2.2.1 c6 dL_law_180 ?_
        refine lv_aload_n hx hb dL_law_181 rfl (lv_at hl 0 rfl) ?_
        refine lv_iload hx hb dL_law_182 (lv_at hl 4 rfl) ?_
        refine lv_iconst (v := 4) hx hb dL_law_184 (by decide) ?_
        refine lv_iadd hx hb dL_law_185 ?_
        refine va_sld hx hb hX hbl hbA w.2.2.1 c7 dL_law_186 ?_
        refine lv_aload_n hx hb dL_law_187 rfl (lv_at hl 0 rfl) ?_
        refine lv_iload hx hb dL_law_188 (lv_at hl 4 rfl) ?_
        refine lv_iconst (v := 5) hx hb dL_law_190 (by decide) ?_
        refine lv_iadd hx hb dL_law_191 ?_
        refine va_sld hx hb hX hbl hbA w.2.2.1 c8 dL_law_192 ?_
        obtain ⟨c14, hk⟩ := ok_c hk
        obtain ⟨q12, e13, hk⟩ := ok_b hk
        refine zVi X w (n := 5) (As := [.int (xs (Int32.toNatClampNeg (i4 + (1 : Int32)))), .int (xs (Int32.toNatClampNeg (i4 + (2 : Int32)))), .int (xs (Int32.toNatClampNeg (i4 + (3 : Int32)))), .int (xs (Int32.toNatClampNeg (i4 + (4 : Int32)))), .int (xs (Int32.toNatClampNeg (i4 + (5 : Int32))))]) (rest := [.int q9.1]) (ci := 9) (C := RX9) (T := TX9) (N := 23) (c_X9_feed l D cy G q9.2 r2 (xs (Int32.toNatClampNeg (i4 + (1 : Int32)))) (xs (Int32.toNatClampNeg (i4 + (2 : Int32)))) (xs (Int32.toNatClampNeg (i4 + (3 : Int32)))) (xs (Int32.toNatClampNeg (i4 + (4 : Int32)))) (xs (Int32.toNatClampNeg (i4 + (5 : Int32)))) e13) (gzV wm_L_45 wi_X9_feed ws_X9_feed wn_X9 wc_X9_feed) rfl rfl rfl (by decide +kernel) (by decide) rfl c14 rfl rfl hl.1 (Nat.le_of_ble_eq_true rfl) dL_law_193 ⟨by show _ ≤ 601024; omega, by show _ ≤ 7293034; omega⟩ (fun H locs w => ?_)
        refine lv_icmp_eq (tgt := 1173) hx hb dL_law_196 (by decide) (fun c15 => ?_) (fun c15 => ?_)
        · have hk := ok_p c15 hk
          refine lv_iinc (v := (i4 + 6)) (lv' := [(4, .int (i4 + 6)), (0, .ref b), (1, .ref r1), (2, .ref r2), (3, .ref r3)]) hx hb dL_law_1173 hl (k := 4) rfl rfl (by decide) rfl (fun ls hl => ?_)
          refine lv_goto (tgt := 23) hx hb dL_law_1176 (by decide) ?_
          exact hrec (i4 + 6) q12.2 _ _ (by omega) (by omega) _ _ _ w (lv_sub hl [1, 2, 3, 4, 0] rfl) hk
        · have hk := ok_n c15 hk
          refine lv_iconst (v := 0) hx hb dL_law_199 (by decide) ?_
          exact (hR _ (ok_s hk)).elim
      · have hk := ok_n s3 hk
        by_cases s16 : ((xs (Int32.toNatClampNeg i4)) &&& (31 : Int32)) = 1
        · have hk := ok_p s16 hk
          refine lv_tableIn (off := 161) (tgt := 201) hx hb dL_law_40 (by rw [s16]; decide) (by rw [s16]; decide) (by rw [s16]; rfl) (by decide) ?_
          refine lv_aload_n hx hb dL_law_201 rfl (lv_at hl 1 rfl) ?_
          refine lv_aload_n hx hb dL_law_202 rfl (lv_at hl 0 rfl) ?_
          refine lv_iload hx hb dL_law_203 (lv_at hl 4 rfl) ?_
          refine lv_iconst (v := 1) hx hb dL_law_205 (by decide) ?_
          refine lv_iadd hx hb dL_law_206 ?_
          obtain ⟨c17, hk⟩ := ok_c hk
          refine va_sld hx hb hX hbl hbA w.2.2.1 c17 dL_law_207 ?_
          obtain ⟨c20, hk⟩ := ok_c hk
          obtain ⟨q18, e19, hk⟩ := ok_b hk
          refine zVi X w (n := 1) (As := [.int (xs (Int32.toNatClampNeg (i4 + (1 : Int32))))]) (rest := []) (ci := 8) (C := RX8) (T := TX8) (N := 10) (c_X8_end l D cy G M r1 (xs (Int32.toNatClampNeg (i4 + (1 : Int32)))) e19) (gzV wm_L_46 wi_X8_end ws_X8_end wn_X8 wc_X8_end) rfl rfl rfl (by decide +kernel) (by decide) rfl c20 rfl rfl hl.1 (Nat.le_of_ble_eq_true rfl) dL_law_208 ⟨by show _ ≤ 601024; omega, by show _ ≤ 7293034; omega⟩ (fun H locs w => ?_)
          refine lv_aload_n hx hb dL_law_211 rfl (lv_at hl 2 rfl) ?_
          refine lv_aload_n hx hb dL_law_212 rfl (lv_at hl 0 rfl) ?_
          refine lv_iload hx hb dL_law_213 (lv_at hl 4 rfl) ?_
          refine lv_iconst (v := 1) hx hb dL_law_215 (by decide) ?_
          refine lv_iadd hx hb dL_law_216 ?_
          refine va_sld hx hb hX hbl hbA w.2.2.1 c17 dL_law_217 ?_
          obtain ⟨c23, hk⟩ := ok_c hk
          obtain ⟨q21, e22, hk⟩ := ok_b hk
          refine zVi X w (n := 1) (As := [.int (xs (Int32.toNatClampNeg (i4 + (1 : Int32))))]) (rest := [.int q18.1]) (ci := 9) (C := RX9) (T := TX9) (N := 23) (c_X9_end l D cy G q18.2 r2 (xs (Int32.toNatClampNeg (i4 + (1 : Int32)))) e22) (gzV wm_L_50 wi_X9_end ws_X9_end wn_X9 wc_X9_end) rfl rfl rfl (by decide +kernel) (by decide) rfl c23 rfl rfl hl.1 (Nat.le_of_ble_eq_true rfl) dL_law_218 ⟨by show _ ≤ 601024; omega, by show _ ≤ 7293034; omega⟩ (fun H locs w => ?_)
          refine lv_icmp_eq (tgt := 1173) hx hb dL_law_221 (by decide) (fun c24 => ?_) (fun c24 => ?_)
          · have hk := ok_p c24 hk
            refine lv_iinc (v := (i4 + 6)) (lv' := [(4, .int (i4 + 6)), (0, .ref b), (1, .ref r1), (2, .ref r2), (3, .ref r3)]) hx hb dL_law_1173 hl (k := 4) rfl rfl (by decide) rfl (fun ls hl => ?_)
            refine lv_goto (tgt := 23) hx hb dL_law_1176 (by decide) ?_
            exact hrec (i4 + 6) q21.2 _ _ (by omega) (by omega) _ _ _ w (lv_sub hl [1, 2, 3, 4, 0] rfl) hk
          · have hk := ok_n c24 hk
            refine lv_iconst (v := 0) hx hb dL_law_224 (by decide) ?_
            exact (hR _ (ok_s hk)).elim
        · have hk := ok_n s16 hk
          by_cases s25 : ((xs (Int32.toNatClampNeg i4)) &&& (31 : Int32)) = 2
          · have hk := ok_p s25 hk
            refine lv_tableIn (off := 186) (tgt := 226) hx hb dL_law_40 (by rw [s25]; decide) (by rw [s25]; decide) (by rw [s25]; rfl) (by decide) ?_
            refine lv_aload_n hx hb dL_law_226 rfl (lv_at hl 1 rfl) ?_
            refine lv_aload_n hx hb dL_law_227 rfl (lv_at hl 0 rfl) ?_
            refine lv_iload hx hb dL_law_228 (lv_at hl 4 rfl) ?_
            refine lv_iconst (v := 1) hx hb dL_law_230 (by decide) ?_
            refine lv_iadd hx hb dL_law_231 ?_
            obtain ⟨c26, hk⟩ := ok_c hk
            refine va_sld hx hb hX hbl hbA w.2.2.1 c26 dL_law_232 ?_
            refine lv_aload_n hx hb dL_law_233 rfl (lv_at hl 0 rfl) ?_
            refine lv_iload hx hb dL_law_234 (lv_at hl 4 rfl) ?_
            refine lv_iconst (v := 2) hx hb dL_law_236 (by decide) ?_
            refine lv_iadd hx hb dL_law_237 ?_
            obtain ⟨c27, hk⟩ := ok_c hk
            refine va_sld hx hb hX hbl hbA w.2.2.1 c27 dL_law_238 ?_
            refine lv_aload_n hx hb dL_law_239 rfl (lv_at hl 0 rfl) ?_
            refine lv_iload hx hb dL_law_240 (lv_at hl 4 rfl) ?_
            refine lv_iconst (v := 3) hx hb dL_law_242 (by decide) ?_
            refine lv_iadd hx hb dL_law_243 ?_
            obtain ⟨c28, hk⟩ := ok_c hk
            refine va_sld hx hb hX hbl hbA w.2.2.1 c28 dL_law_244 ?_
            obtain ⟨c31, hk⟩ := ok_c hk
            obtain ⟨q29, e30, hk⟩ := ok_b hk
            refine zVi X w (n := 3) (As := [.int (xs (Int32.toNatClampNeg (i4 + (1 : Int32)))), .int (xs (Int32.toNatClampNeg (i4 + (2 : Int32)))), .int (xs (Int32.toNatClampNeg (i4 + (3 : Int32))))]) (rest := []) (ci := 8) (C := RX8) (T := TX8) (N := 10) (c_X8_sheet l D cy G M r1 (xs (Int32.toNatClampNeg (i4 + (1 : Int32)))) (xs (Int32.toNatClampNeg (i4 + (2 : Int32)))) (xs (Int32.toNatClampNeg (i4 + (3 : Int32)))) e30) (gzV wm_L_51 wi_X8_sheet ws_X8_sheet wn_X8 wc_X8_sheet) rfl rfl rfl (by decide +kernel) (by decide) rfl c31 rfl rfl hl.1 (Nat.le_of_ble_eq_true rfl) dL_law_245 ⟨by show _ ≤ 601024; omega, by show _ ≤ 7293034; omega⟩ (fun H locs w => ?_)
            refine lv_aload_n hx hb dL_law_248 rfl (lv_at hl 2 rfl) ?_
            refine lv_aload_n hx hb dL_law_249 rfl (lv_at hl 0 rfl) ?_
            refine lv_iload hx hb dL_law_250 (lv_at hl 4 rfl) ?_
            refine lv_iconst (v := 1) hx hb dL_law_252 (by decide) ?_
            refine lv_iadd hx hb dL_law_253 ?_
            refine va_sld hx hb hX hbl hbA w.2.2.1 c26 dL_law_254 ?_
            refine lv_aload_n hx hb dL_law_255 rfl (lv_at hl 0 rfl) ?_
            refine lv_iload hx hb dL_law_256 (lv_at hl 4 rfl) ?_
            refine lv_iconst (v := 2) hx hb dL_law_258 (by decide) ?_
            refine lv_iadd hx hb dL_law_259 ?_
            refine va_sld hx hb hX hbl hbA w.2.2.1 c27 dL_law_260 ?_
            refine lv_aload_n hx hb dL_law_261 rfl (lv_at hl 0 rfl) ?_
            refine lv_iload hx hb dL_law_262 (lv_at hl 4 rfl) ?_
            refine lv_iconst (v := 3) hx hb dL_law_264 (by decide) ?_
            refine lv_iadd hx hb dL_law_265 ?_
            refine va_sld hx hb hX hbl hbA w.2.2.1 c28 dL_law_266 ?_
            obtain ⟨c34, hk⟩ := ok_c hk
            obtain ⟨q32, e33, hk⟩ := ok_b hk
            refine zVi X w (n := 3) (As := [.int (xs (Int32.toNatClampNeg (i4 + (1 : Int32)))), .int (xs (Int32.toNatClampNeg (i4 + (2 : Int32)))), .int (xs (Int32.toNatClampNeg (i4 + (3 : Int32))))]) (rest := [.int q29.1]) (ci := 9) (C := RX9) (T := TX9) (N := 23) (c_X9_sheet l D cy G q29.2 r2 (xs (Int32.toNatClampNeg (i4 + (1 : Int32)))) (xs (Int32.toNatClampNeg (i4 + (2 : Int32)))) (xs (Int32.toNatClampNeg (i4 + (3 : Int32)))) e33) (gzV wm_L_55 wi_X9_sheet ws_X9_sheet wn_X9 wc_X9_sheet) rfl rfl rfl (by decide +kernel) (by decide) rfl c34 rfl rfl hl.1 (Nat.le_of_ble_eq_true rfl) dL_law_267 ⟨by show _ ≤ 601024; omega, by show _ ≤ 7293034; omega⟩ (fun H locs w => ?_)
            refine lv_icmp_eq (tgt := 1173) hx hb dL_law_270 (by decide) (fun c35 => ?_) (fun c35 => ?_)
            · have hk := ok_p c35 hk
              refine lv_iinc (v := (i4 + 6)) (lv' := [(4, .int (i4 + 6)), (0, .ref b), (1, .ref r1), (2, .ref r2), (3, .ref r3)]) hx hb dL_law_1173 hl (k := 4) rfl rfl (by decide) rfl (fun ls hl => ?_)
              refine lv_goto (tgt := 23) hx hb dL_law_1176 (by decide) ?_
              exact hrec (i4 + 6) q32.2 _ _ (by omega) (by omega) _ _ _ w (lv_sub hl [1, 2, 3, 4, 0] rfl) hk
            · have hk := ok_n c35 hk
              refine lv_iconst (v := 0) hx hb dL_law_273 (by decide) ?_
              exact (hR _ (ok_s hk)).elim
          · have hk := ok_n s25 hk
            by_cases s36 : ((xs (Int32.toNatClampNeg i4)) &&& (31 : Int32)) = 3
            · have hk := ok_p s36 hk
              refine lv_tableIn (off := 235) (tgt := 275) hx hb dL_law_40 (by rw [s36]; decide) (by rw [s36]; decide) (by rw [s36]; rfl) (by decide) ?_
              refine lv_aload_n hx hb dL_law_275 rfl (lv_at hl 1 rfl) ?_
              refine lv_aload_n hx hb dL_law_276 rfl (lv_at hl 0 rfl) ?_
              refine lv_iload hx hb dL_law_277 (lv_at hl 4 rfl) ?_
              refine lv_iconst (v := 1) hx hb dL_law_279 (by decide) ?_
              refine lv_iadd hx hb dL_law_280 ?_
              obtain ⟨c37, hk⟩ := ok_c hk
              refine va_sld hx hb hX hbl hbA w.2.2.1 c37 dL_law_281 ?_
              refine lv_aload_n hx hb dL_law_282 rfl (lv_at hl 0 rfl) ?_
              refine lv_iload hx hb dL_law_283 (lv_at hl 4 rfl) ?_
              refine lv_iconst (v := 2) hx hb dL_law_285 (by decide) ?_
              refine lv_iadd hx hb dL_law_286 ?_
              obtain ⟨c38, hk⟩ := ok_c hk
              refine va_sld hx hb hX hbl hbA w.2.2.1 c38 dL_law_287 ?_
              obtain ⟨c41, hk⟩ := ok_c hk
              obtain ⟨q39, e40, hk⟩ := ok_b hk
              refine zVi X w (n := 2) (As := [.int (xs (Int32.toNatClampNeg (i4 + (1 : Int32)))), .int (xs (Int32.toNatClampNeg (i4 + (2 : Int32))))]) (rest := []) (ci := 8) (C := RX8) (T := TX8) (N := 10) (c_X8_lazy l D cy G M r1 (xs (Int32.toNatClampNeg (i4 + (1 : Int32)))) (xs (Int32.toNatClampNeg (i4 + (2 : Int32)))) e40) (gzV wm_L_56 wi_X8_lazy ws_X8_lazy wn_X8 wc_X8_lazy) rfl rfl rfl (by decide +kernel) (by decide) rfl c41 rfl rfl hl.1 (Nat.le_of_ble_eq_true rfl) dL_law_288 ⟨by show _ ≤ 601024; omega, by show _ ≤ 7293034; omega⟩ (fun H locs w => ?_)
              refine lv_aload_n hx hb dL_law_291 rfl (lv_at hl 2 rfl) ?_
              refine lv_aload_n hx hb dL_law_292 rfl (lv_at hl 0 rfl) ?_
              refine lv_iload hx hb dL_law_293 (lv_at hl 4 rfl) ?_
              refine lv_iconst (v := 1) hx hb dL_law_295 (by decide) ?_
              refine lv_iadd hx hb dL_law_296 ?_
              refine va_sld hx hb hX hbl hbA w.2.2.1 c37 dL_law_297 ?_
              refine lv_aload_n hx hb dL_law_298 rfl (lv_at hl 0 rfl) ?_
              refine lv_iload hx hb dL_law_299 (lv_at hl 4 rfl) ?_
              refine lv_iconst (v := 2) hx hb dL_law_301 (by decide) ?_
              refine lv_iadd hx hb dL_law_302 ?_
              refine va_sld hx hb hX hbl hbA w.2.2.1 c38 dL_law_303 ?_
              obtain ⟨c44, hk⟩ := ok_c hk
              obtain ⟨q42, e43, hk⟩ := ok_b hk
              refine zVi X w (n := 2) (As := [.int (xs (Int32.toNatClampNeg (i4 + (1 : Int32)))), .int (xs (Int32.toNatClampNeg (i4 + (2 : Int32))))]) (rest := [.int q39.1]) (ci := 9) (C := RX9) (T := TX9) (N := 23) (c_X9_lazy l D cy G q39.2 r2 (xs (Int32.toNatClampNeg (i4 + (1 : Int32)))) (xs (Int32.toNatClampNeg (i4 + (2 : Int32)))) e43) (gzV wm_L_60 wi_X9_lazy ws_X9_lazy wn_X9 wc_X9_lazy) rfl rfl rfl (by decide +kernel) (by decide) rfl c44 rfl rfl hl.1 (Nat.le_of_ble_eq_true rfl) dL_law_304 ⟨by show _ ≤ 601024; omega, by show _ ≤ 7293034; omega⟩ (fun H locs w => ?_)
              refine lv_icmp_eq (tgt := 1173) hx hb dL_law_307 (by decide) (fun c45 => ?_) (fun c45 => ?_)
              · have hk := ok_p c45 hk
                refine lv_iinc (v := (i4 + 6)) (lv' := [(4, .int (i4 + 6)), (0, .ref b), (1, .ref r1), (2, .ref r2), (3, .ref r3)]) hx hb dL_law_1173 hl (k := 4) rfl rfl (by decide) rfl (fun ls hl => ?_)
                refine lv_goto (tgt := 23) hx hb dL_law_1176 (by decide) ?_
                exact hrec (i4 + 6) q42.2 _ _ (by omega) (by omega) _ _ _ w (lv_sub hl [1, 2, 3, 4, 0] rfl) hk
              · have hk := ok_n c45 hk
                refine lv_iconst (v := 0) hx hb dL_law_310 (by decide) ?_
                exact (hR _ (ok_s hk)).elim
            · have hk := ok_n s36 hk
              by_cases s46 : ((xs (Int32.toNatClampNeg i4)) &&& (31 : Int32)) = 4
              · have hk := ok_p s46 hk
                refine lv_tableIn (off := 272) (tgt := 312) hx hb dL_law_40 (by rw [s46]; decide) (by rw [s46]; decide) (by rw [s46]; rfl) (by decide) ?_
                refine lv_aload_n hx hb dL_law_312 rfl (lv_at hl 1 rfl) ?_
                refine lv_aload_n hx hb dL_law_313 rfl (lv_at hl 0 rfl) ?_
                refine lv_iload hx hb dL_law_314 (lv_at hl 4 rfl) ?_
                refine lv_iconst (v := 1) hx hb dL_law_316 (by decide) ?_
                refine lv_iadd hx hb dL_law_317 ?_
                obtain ⟨c47, hk⟩ := ok_c hk
                refine va_sld hx hb hX hbl hbA w.2.2.1 c47 dL_law_318 ?_
                refine lv_aload_n hx hb dL_law_319 rfl (lv_at hl 0 rfl) ?_
                refine lv_iload hx hb dL_law_320 (lv_at hl 4 rfl) ?_
                refine lv_iconst (v := 2) hx hb dL_law_322 (by decide) ?_
                refine lv_iadd hx hb dL_law_323 ?_
                obtain ⟨c48, hk⟩ := ok_c hk
                refine va_sld hx hb hX hbl hbA w.2.2.1 c48 dL_law_324 ?_
                obtain ⟨c51, hk⟩ := ok_c hk
                obtain ⟨q49, e50, hk⟩ := ok_b hk
                refine zVi X w (n := 2) (As := [.int (xs (Int32.toNatClampNeg (i4 + (1 : Int32)))), .int (xs (Int32.toNatClampNeg (i4 + (2 : Int32))))]) (rest := []) (ci := 8) (C := RX8) (T := TX8) (N := 10) (c_X8_back l D cy G M r1 (xs (Int32.toNatClampNeg (i4 + (1 : Int32)))) (xs (Int32.toNatClampNeg (i4 + (2 : Int32)))) e50) (gzV wm_L_61 wi_X8_back ws_X8_back wn_X8 wc_X8_back) rfl rfl rfl (by decide +kernel) (by decide) rfl c51 rfl rfl hl.1 (Nat.le_of_ble_eq_true rfl) dL_law_325 ⟨by show _ ≤ 601024; omega, by show _ ≤ 7293034; omega⟩ (fun H locs w => ?_)
                refine lv_aload_n hx hb dL_law_328 rfl (lv_at hl 2 rfl) ?_
                refine lv_aload_n hx hb dL_law_329 rfl (lv_at hl 0 rfl) ?_
                refine lv_iload hx hb dL_law_330 (lv_at hl 4 rfl) ?_
                refine lv_iconst (v := 1) hx hb dL_law_332 (by decide) ?_
                refine lv_iadd hx hb dL_law_333 ?_
                refine va_sld hx hb hX hbl hbA w.2.2.1 c47 dL_law_334 ?_
                refine lv_aload_n hx hb dL_law_335 rfl (lv_at hl 0 rfl) ?_
                refine lv_iload hx hb dL_law_336 (lv_at hl 4 rfl) ?_
                refine lv_iconst (v := 2) hx hb dL_law_338 (by decide) ?_
                refine lv_iadd hx hb dL_law_339 ?_
                refine va_sld hx hb hX hbl hbA w.2.2.1 c48 dL_law_340 ?_
                obtain ⟨c54, hk⟩ := ok_c hk
                obtain ⟨q52, e53, hk⟩ := ok_b hk
                refine zVi X w (n := 2) (As := [.int (xs (Int32.toNatClampNeg (i4 + (1 : Int32)))), .int (xs (Int32.toNatClampNeg (i4 + (2 : Int32))))]) (rest := [.int q49.1]) (ci := 9) (C := RX9) (T := TX9) (N := 23) (c_X9_back l D cy G q49.2 r2 (xs (Int32.toNatClampNeg (i4 + (1 : Int32)))) (xs (Int32.toNatClampNeg (i4 + (2 : Int32)))) e53) (gzV wm_L_64 wi_X9_back ws_X9_back wn_X9 wc_X9_back) rfl rfl rfl (by decide +kernel) (by decide) rfl c54 rfl rfl hl.1 (Nat.le_of_ble_eq_true rfl) dL_law_341 ⟨by show _ ≤ 601024; omega, by show _ ≤ 7293034; omega⟩ (fun H locs w => ?_)
                refine lv_icmp_eq (tgt := 1173) hx hb dL_law_344 (by decide) (fun c55 => ?_) (fun c55 => ?_)
                · have hk := ok_p c55 hk
                  refine lv_iinc (v := (i4 + 6)) (lv' := [(4, .int (i4 + 6)), (0, .ref b), (1, .ref r1), (2, .ref r2), (3, .ref r3)]) hx hb dL_law_1173 hl (k := 4) rfl rfl (by decide) rfl (fun ls hl => ?_)
                  refine lv_goto (tgt := 23) hx hb dL_law_1176 (by decide) ?_
                  exact hrec (i4 + 6) q52.2 _ _ (by omega) (by omega) _ _ _ w (lv_sub hl [1, 2, 3, 4, 0] rfl) hk
                · have hk := ok_n c55 hk
                  refine lv_iconst (v := 0) hx hb dL_law_347 (by decide) ?_
                  exact (hR _ (ok_s hk)).elim
              · have hk := ok_n s46 hk
                by_cases s56 : ((xs (Int32.toNatClampNeg i4)) &&& (31 : Int32)) = 5
                · have hk := ok_p s56 hk
                  refine lv_tableIn (off := 309) (tgt := 349) hx hb dL_law_40 (by rw [s56]; decide) (by rw [s56]; decide) (by rw [s56]; rfl) (by decide) ?_
                  refine lv_aload_n hx hb dL_law_349 rfl (lv_at hl 1 rfl) ?_
                  refine lv_aload_n hx hb dL_law_350 rfl (lv_at hl 0 rfl) ?_
                  refine lv_iload hx hb dL_law_351 (lv_at hl 4 rfl) ?_
                  refine lv_iconst (v := 1) hx hb dL_law_353 (by decide) ?_
                  refine lv_iadd hx hb dL_law_354 ?_
                  obtain ⟨c57, hk⟩ := ok_c hk
                  refine va_sld hx hb hX hbl hbA w.2.2.1 c57 dL_law_355 ?_
                  refine lv_aload_n hx hb dL_law_356 rfl (lv_at hl 0 rfl) ?_
                  refine lv_iload hx hb dL_law_357 (lv_at hl 4 rfl) ?_
                  refine lv_iconst (v := 2) hx hb dL_law_359 (by decide) ?_
                  refine lv_iadd hx hb dL_law_360 ?_
                  obtain ⟨c58, hk⟩ := ok_c hk
                  refine va_sld hx hb hX hbl hbA w.2.2.1 c58 dL_law_361 ?_
                  obtain ⟨c61, hk⟩ := ok_c hk
                  obtain ⟨q59, e60, hk⟩ := ok_b hk
                  refine zVi X w (n := 2) (As := [.int (xs (Int32.toNatClampNeg (i4 + (1 : Int32)))), .int (xs (Int32.toNatClampNeg (i4 + (2 : Int32))))]) (rest := []) (ci := 8) (C := RX8) (T := TX8) (N := 10) (c_X8_melt l D cy G M r1 (xs (Int32.toNatClampNeg (i4 + (1 : Int32)))) (xs (Int32.toNatClampNeg (i4 + (2 : Int32)))) e60) (gzV wm_L_65 wi_X8_melt ws_X8_melt wn_X8 wc_X8_melt) rfl rfl rfl (by decide +kernel) (by decide) rfl c61 rfl rfl hl.1 (Nat.le_of_ble_eq_true rfl) dL_law_362 ⟨by show _ ≤ 601024; omega, by show _ ≤ 7293034; omega⟩ (fun H locs w => ?_)
                  refine lv_aload_n hx hb dL_law_365 rfl (lv_at hl 2 rfl) ?_
                  refine lv_aload_n hx hb dL_law_366 rfl (lv_at hl 0 rfl) ?_
                  refine lv_iload hx hb dL_law_367 (lv_at hl 4 rfl) ?_
                  refine lv_iconst (v := 1) hx hb dL_law_369 (by decide) ?_
                  refine lv_iadd hx hb dL_law_370 ?_
                  refine va_sld hx hb hX hbl hbA w.2.2.1 c57 dL_law_371 ?_
                  refine lv_aload_n hx hb dL_law_372 rfl (lv_at hl 0 rfl) ?_
                  refine lv_iload hx hb dL_law_373 (lv_at hl 4 rfl) ?_
                  refine lv_iconst (v := 2) hx hb dL_law_375 (by decide) ?_
                  refine lv_iadd hx hb dL_law_376 ?_
                  refine va_sld hx hb hX hbl hbA w.2.2.1 c58 dL_law_377 ?_
                  obtain ⟨c64, hk⟩ := ok_c hk
                  obtain ⟨q62, e63, hk⟩ := ok_b hk
                  refine zVi X w (n := 2) (As := [.int (xs (Int32.toNatClampNeg (i4 + (1 : Int32)))), .int (xs (Int32.toNatClampNeg (i4 + (2 : Int32))))]) (rest := [.int q59.1]) (ci := 9) (C := RX9) (T := TX9) (N := 23) (c_X9_melt l D cy G q59.2 r2 (xs (Int32.toNatClampNeg (i4 + (1 : Int32)))) (xs (Int32.toNatClampNeg (i4 + (2 : Int32)))) e63) (gzV wm_L_68 wi_X9_melt ws_X9_melt wn_X9 wc_X9_melt) rfl rfl rfl (by decide +kernel) (by decide) rfl c64 rfl rfl hl.1 (Nat.le_of_ble_eq_true rfl) dL_law_378 ⟨by show _ ≤ 601024; omega, by show _ ≤ 7293034; omega⟩ (fun H locs w => ?_)
                  refine lv_icmp_eq (tgt := 1173) hx hb dL_law_381 (by decide) (fun c65 => ?_) (fun c65 => ?_)
                  · have hk := ok_p c65 hk
                    refine lv_iinc (v := (i4 + 6)) (lv' := [(4, .int (i4 + 6)), (0, .ref b), (1, .ref r1), (2, .ref r2), (3, .ref r3)]) hx hb dL_law_1173 hl (k := 4) rfl rfl (by decide) rfl (fun ls hl => ?_)
                    refine lv_goto (tgt := 23) hx hb dL_law_1176 (by decide) ?_
                    exact hrec (i4 + 6) q62.2 _ _ (by omega) (by omega) _ _ _ w (lv_sub hl [1, 2, 3, 4, 0] rfl) hk
                  · have hk := ok_n c65 hk
                    refine lv_iconst (v := 0) hx hb dL_law_384 (by decide) ?_
                    exact (hR _ (ok_s hk)).elim
                · have hk := ok_n s56 hk
                  by_cases s66 : ((xs (Int32.toNatClampNeg i4)) &&& (31 : Int32)) = 6
                  · have hk := ok_p s66 hk
                    refine lv_tableIn (off := 346) (tgt := 386) hx hb dL_law_40 (by rw [s66]; decide) (by rw [s66]; decide) (by rw [s66]; rfl) (by decide) ?_
                    refine lv_aload_n hx hb dL_law_386 rfl (lv_at hl 1 rfl) ?_
                    refine lv_aload_n hx hb dL_law_387 rfl (lv_at hl 0 rfl) ?_
                    refine lv_iload hx hb dL_law_388 (lv_at hl 4 rfl) ?_
                    refine lv_iconst (v := 1) hx hb dL_law_390 (by decide) ?_
                    refine lv_iadd hx hb dL_law_391 ?_
                    obtain ⟨c67, hk⟩ := ok_c hk
                    refine va_sld hx hb hX hbl hbA w.2.2.1 c67 dL_law_392 ?_
                    refine lv_aload_n hx hb dL_law_393 rfl (lv_at hl 3 rfl) ?_
                    obtain ⟨q68, e69, hk⟩ := ok_b hk
                    refine zSW X hz w (n := 3) (As := [.ref r1, .int (xs (Int32.toNatClampNeg (i4 + (1 : Int32)))), .ref r3]) (rest := []) (c_L_octet l hst D cy G M r1 (xs (Int32.toNatClampNeg (i4 + (1 : Int32)))) r3 e69) wm_L_69 wt_L_octet wn_L wc_L_octet rfl rfl rfl (by decide +kernel) (by decide) rfl rfl hl.1 (Nat.le_of_ble_eq_true rfl) dL_law_394 ⟨by show _ ≤ 601024; omega, by show _ ≤ 7293034; omega⟩ (fun H locs w => ?_)
                    refine lv_istore (lv' := [(5, .int q68.1), (0, .ref b), (1, .ref r1), (2, .ref r2), (3, .ref r3), (4, .int i4)]) hx hb dL_law_397 hl (by decide) rfl (fun ls hl => ?_)
                    refine lv_aload_n hx hb dL_law_399 rfl (lv_at hl 3 rfl) ?_
                    refine lv_aload_n hx hb dL_law_400 rfl (lv_at hl 1 rfl) ?_
                    refine lv_iload hx hb dL_law_401 (lv_at hl 5 rfl) ?_
                    refine lv_iconst (v := 1) hx hb dL_law_403 (by decide) ?_
                    refine lv_iadd hx hb dL_law_404 ?_
                    refine va_sld hx hb hX hbl hbA w.2.2.1 c67 dL_law_405 ?_
                    obtain ⟨c72, hk⟩ := ok_c hk
                    obtain ⟨q70, e71, hk⟩ := ok_b hk
                    refine zVi X w (n := 1) (As := [.int (xs (Int32.toNatClampNeg (i4 + (1 : Int32))))]) (rest := []) (ci := 9) (C := RX9) (T := TX9) (N := 23) (c_X9_octet l D cy G q68.2 r2 (xs (Int32.toNatClampNeg (i4 + (1 : Int32)))) e71) (gzV wm_L_74 wi_X9_octet ws_X9_octet wn_X9 wc_X9_octet) rfl rfl rfl (by decide +kernel) (by decide) rfl c72 rfl rfl hl.1 (Nat.le_of_ble_eq_true rfl) dL_law_406 ⟨by show _ ≤ 601024; omega, by show _ ≤ 7293034; omega⟩ (fun H locs w => ?_)
                    refine lv_istore (lv' := [(6, .int q70.1), (5, .int q68.1), (0, .ref b), (1, .ref r1), (2, .ref r2), (3, .ref r3), (4, .int i4)]) hx hb dL_law_409 hl (by decide) rfl (fun ls hl => ?_)
                    refine lv_aload_n hx hb dL_law_411 rfl (lv_at hl 4 rfl) ?_
                    obtain ⟨q73, e74, hk⟩ := ok_b hk
                    refine zVi X w (n := 0) (As := []) (rest := []) (ci := 9) (C := RX9) (T := TX9) (N := 23) (c_X9_thrown l D cy G q70.2 r2 e74) (gzV wm_L_75 wi_X9_thrown ws_X9_thrown wn_X9 wc_X9_thrown) rfl rfl rfl (by decide +kernel) (by decide) rfl c72 rfl rfl hl.1 (Nat.le_of_ble_eq_true rfl) dL_law_412 ⟨by show _ ≤ 601024; omega, by show _ ≤ 7293034; omega⟩ (fun H locs w => ?_)
                    refine lv_iload hx hb dL_law_415 (lv_at hl 1 rfl) ?_
                    refine lv_icmp_eq (tgt := 422) hx hb dL_law_417 (by decide) (fun c75 => ?_) (fun c75 => ?_)
                    · have hk := ok_p c75 hk
                      refine lv_iload hx hb dL_law_422 (lv_at hl 1 rfl) ?_
                      refine lv_if_ne (tgt := 439) hx hb dL_law_424 (by decide) (fun c76 => ?_) (fun c76 => ?_)
                      · have hk := ok_n c76 hk
                        refine lv_goto (tgt := 1173) hx hb dL_law_439 (by decide) ?_
                        refine lv_iinc (v := (i4 + 6)) (lv' := [(4, .int (i4 + 6)), (6, .int q70.1), (5, .int q68.1), (0, .ref b), (1, .ref r1), (2, .ref r2), (3, .ref r3)]) hx hb dL_law_1173 hl (k := 6) rfl rfl (by decide) rfl (fun ls hl => ?_)
                        refine lv_goto (tgt := 23) hx hb dL_law_1176 (by decide) ?_
                        exact hrec (i4 + 6) q70.2 _ _ (by omega) (by omega) _ _ _ w (lv_sub hl [3, 4, 5, 6, 0] rfl) hk
                      · have hk := ok_p c76 hk
                        refine lv_aload_n hx hb dL_law_427 rfl (lv_at hl 5 rfl) ?_
                        refine lv_iconst (v := 0) hx hb dL_law_428 (by decide) ?_
                        obtain ⟨c77, hk⟩ := ok_c hk
                        obtain ⟨c78, hk⟩ := ok_c hk
                        refine zal X w dL_law_429 c77 c78 ?_
                        refine lv_iload hx hb dL_law_430 (lv_at hl 0 rfl) ?_
                        refine lv_i2l hx hb dL_law_432 rfl ?_
                        refine W.lcmp hx hb dL_law_433 ?_
                        refine lv_if_eq (tgt := 439) hx hb dL_law_434 (by decide) (fun c79 => ?_) (fun c79 => ?_)
                        · have hk := ok_p c79 hk
                          refine lv_goto (tgt := 1173) hx hb dL_law_439 (by decide) ?_
                          refine lv_iinc (v := (i4 + 6)) (lv' := [(4, .int (i4 + 6)), (6, .int q70.1), (5, .int q68.1), (0, .ref b), (1, .ref r1), (2, .ref r2), (3, .ref r3)]) hx hb dL_law_1173 hl (k := 6) rfl rfl (by decide) rfl (fun ls hl => ?_)
                          refine lv_goto (tgt := 23) hx hb dL_law_1176 (by decide) ?_
                          exact hrec (i4 + 6) q70.2 _ _ (by omega) (by omega) _ _ _ w (lv_sub hl [3, 4, 5, 6, 0] rfl) hk
                        · have hk := ok_n c79 hk
                          refine lv_iconst (v := 0) hx hb dL_law_437 (by decide) ?_
                          exact (hR _ (ok_s hk)).elim
                    · have hk := ok_n c75 hk
                      refine lv_iconst (v := 0) hx hb dL_law_420 (by decide) ?_
                      exact (hR _ (ok_s hk)).elim
                  · have hk := ok_n s66 hk
                    by_cases s80 : ((xs (Int32.toNatClampNeg i4)) &&& (31 : Int32)) = 7
                    · have hk := ok_p s80 hk
                      refine lv_tableIn (off := 402) (tgt := 442) hx hb dL_law_40 (by rw [s80]; decide) (by rw [s80]; decide) (by rw [s80]; rfl) (by decide) ?_
                      refine lv_aload_n hx hb dL_law_442 rfl (lv_at hl 1 rfl) ?_
                      refine lv_aload_n hx hb dL_law_443 rfl (lv_at hl 0 rfl) ?_
                      refine lv_iload hx hb dL_law_444 (lv_at hl 4 rfl) ?_
                      refine lv_iconst (v := 1) hx hb dL_law_446 (by decide) ?_
                      refine lv_iadd hx hb dL_law_447 ?_
                      obtain ⟨c81, hk⟩ := ok_c hk
                      refine va_sld hx hb hX hbl hbA w.2.2.1 c81 dL_law_448 ?_
                      refine lv_aload_n hx hb dL_law_449 rfl (lv_at hl 0 rfl) ?_
                      refine lv_iload hx hb dL_law_450 (lv_at hl 4 rfl) ?_
                      refine lv_iconst (v := 2) hx hb dL_law_452 (by decide) ?_
                      refine lv_iadd hx hb dL_law_453 ?_
                      obtain ⟨c82, hk⟩ := ok_c hk
                      refine va_sld hx hb hX hbl hbA w.2.2.1 c82 dL_law_454 ?_
                      obtain ⟨c85, hk⟩ := ok_c hk
                      obtain ⟨q83, e84, hk⟩ := ok_b hk
                      refine zVi X w (n := 2) (As := [.int (xs (Int32.toNatClampNeg (i4 + (1 : Int32)))), .int (xs (Int32.toNatClampNeg (i4 + (2 : Int32))))]) (rest := []) (ci := 8) (C := RX8) (T := TX8) (N := 10) (c_X8_about l D cy G M r1 (xs (Int32.toNatClampNeg (i4 + (1 : Int32)))) (xs (Int32.toNatClampNeg (i4 + (2 : Int32)))) e84) (gzV wm_L_79 wi_X8_about ws_X8_about wn_X8 wc_X8_about) rfl rfl rfl (by decide +kernel) (by decide) rfl c85 rfl rfl hl.1 (Nat.le_of_ble_eq_true rfl) dL_law_455 ⟨by show _ ≤ 601024; omega, by show _ ≤ 7293034; omega⟩ (fun H locs w => ?_)
                      refine lv_aload_n hx hb dL_law_458 rfl (lv_at hl 2 rfl) ?_
                      refine lv_aload_n hx hb dL_law_459 rfl (lv_at hl 0 rfl) ?_
                      refine lv_iload hx hb dL_law_460 (lv_at hl 4 rfl) ?_
                      refine lv_iconst (v := 1) hx hb dL_law_462 (by decide) ?_
                      refine lv_iadd hx hb dL_law_463 ?_
                      refine va_sld hx hb hX hbl hbA w.2.2.1 c81 dL_law_464 ?_
                      refine lv_aload_n hx hb dL_law_465 rfl (lv_at hl 0 rfl) ?_
                      refine lv_iload hx hb dL_law_466 (lv_at hl 4 rfl) ?_
                      refine lv_iconst (v := 2) hx hb dL_law_468 (by decide) ?_
                      refine lv_iadd hx hb dL_law_469 ?_
                      refine va_sld hx hb hX hbl hbA w.2.2.1 c82 dL_law_470 ?_
                      obtain ⟨c88, hk⟩ := ok_c hk
                      obtain ⟨q86, e87, hk⟩ := ok_b hk
                      refine zVi X w (n := 2) (As := [.int (xs (Int32.toNatClampNeg (i4 + (1 : Int32)))), .int (xs (Int32.toNatClampNeg (i4 + (2 : Int32))))]) (rest := [.int q83]) (ci := 9) (C := RX9) (T := TX9) (N := 23) (c_X9_about l D cy G M r2 (xs (Int32.toNatClampNeg (i4 + (1 : Int32)))) (xs (Int32.toNatClampNeg (i4 + (2 : Int32)))) e87) (gzV wm_L_82 wi_X9_about ws_X9_about wn_X9 wc_X9_about) rfl rfl rfl (by decide +kernel) (by decide) rfl c88 rfl rfl hl.1 (Nat.le_of_ble_eq_true rfl) dL_law_471 ⟨by show _ ≤ 601024; omega, by show _ ≤ 7293034; omega⟩ (fun H locs w => ?_)
                      refine lv_icmp_eq (tgt := 1173) hx hb dL_law_474 (by decide) (fun c89 => ?_) (fun c89 => ?_)
                      · have hk := ok_p c89 hk
                        refine lv_iinc (v := (i4 + 6)) (lv' := [(4, .int (i4 + 6)), (0, .ref b), (1, .ref r1), (2, .ref r2), (3, .ref r3)]) hx hb dL_law_1173 hl (k := 4) rfl rfl (by decide) rfl (fun ls hl => ?_)
                        refine lv_goto (tgt := 23) hx hb dL_law_1176 (by decide) ?_
                        exact hrec (i4 + 6) q86.2 _ _ (by omega) (by omega) _ _ _ w (lv_sub hl [1, 2, 3, 4, 0] rfl) hk
                      · have hk := ok_n c89 hk
                        refine lv_iconst (v := 0) hx hb dL_law_477 (by decide) ?_
                        exact (hR _ (ok_s hk)).elim
                    · have hk := ok_n s80 hk
                      by_cases s90 : ((xs (Int32.toNatClampNeg i4)) &&& (31 : Int32)) = 8
                      · have hk := ok_p s90 hk
                        refine lv_tableIn (off := 439) (tgt := 479) hx hb dL_law_40 (by rw [s90]; decide) (by rw [s90]; decide) (by rw [s90]; rfl) (by decide) ?_
                        refine lv_aload_n hx hb dL_law_479 rfl (lv_at hl 1 rfl) ?_
                        refine lv_aload_n hx hb dL_law_480 rfl (lv_at hl 0 rfl) ?_
                        refine lv_iload hx hb dL_law_481 (lv_at hl 4 rfl) ?_
                        refine lv_iconst (v := 1) hx hb dL_law_483 (by decide) ?_
                        refine lv_iadd hx hb dL_law_484 ?_
                        obtain ⟨c91, hk⟩ := ok_c hk
                        refine va_sld hx hb hX hbl hbA w.2.2.1 c91 dL_law_485 ?_
                        refine lv_aload_n hx hb dL_law_486 rfl (lv_at hl 0 rfl) ?_
                        refine lv_iload hx hb dL_law_487 (lv_at hl 4 rfl) ?_
                        refine lv_iconst (v := 2) hx hb dL_law_489 (by decide) ?_
                        refine lv_iadd hx hb dL_law_490 ?_
                        obtain ⟨c92, hk⟩ := ok_c hk
                        refine va_sld hx hb hX hbl hbA w.2.2.1 c92 dL_law_491 ?_
                        refine lv_aload_n hx hb dL_law_492 rfl (lv_at hl 0 rfl) ?_
                        refine lv_iload hx hb dL_law_493 (lv_at hl 4 rfl) ?_
                        refine lv_iconst (v := 3) hx hb dL_law_495 (by decide) ?_
                        refine lv_iadd hx hb dL_law_496 ?_
                        obtain ⟨c93, hk⟩ := ok_c hk
                        refine va_sld hx hb hX hbl hbA w.2.2.1 c93 dL_law_497 ?_
                        obtain ⟨c96, hk⟩ := ok_c hk
                        obtain ⟨q94, e95, hk⟩ := ok_b hk
                        refine zVi X w (n := 3) (As := [.int (xs (Int32.toNatClampNeg (i4 + (1 : Int32)))), .int (xs (Int32.toNatClampNeg (i4 + (2 : Int32)))), .int (xs (Int32.toNatClampNeg (i4 + (3 : Int32))))]) (rest := []) (ci := 8) (C := RX8) (T := TX8) (N := 10) (c_X8_state l D cy G M r1 (xs (Int32.toNatClampNeg (i4 + (1 : Int32)))) (xs (Int32.toNatClampNeg (i4 + (2 : Int32)))) (xs (Int32.toNatClampNeg (i4 + (3 : Int32)))) e95) (gzV wm_L_83 wi_X8_state ws_X8_state wn_X8 wc_X8_state) rfl rfl rfl (by decide +kernel) (by decide) rfl c96 rfl rfl hl.1 (Nat.le_of_ble_eq_true rfl) dL_law_498 ⟨by show _ ≤ 601024; omega, by show _ ≤ 7293034; omega⟩ (fun H locs w => ?_)
                        refine lv_aload_n hx hb dL_law_501 rfl (lv_at hl 2 rfl) ?_
                        refine lv_aload_n hx hb dL_law_502 rfl (lv_at hl 0 rfl) ?_
                        refine lv_iload hx hb dL_law_503 (lv_at hl 4 rfl) ?_
                        refine lv_iconst (v := 1) hx hb dL_law_505 (by decide) ?_
                        refine lv_iadd hx hb dL_law_506 ?_
                        refine va_sld hx hb hX hbl hbA w.2.2.1 c91 dL_law_507 ?_
                        refine lv_aload_n hx hb dL_law_508 rfl (lv_at hl 0 rfl) ?_
                        refine lv_iload hx hb dL_law_509 (lv_at hl 4 rfl) ?_
                        refine lv_iconst (v := 2) hx hb dL_law_511 (by decide) ?_
                        refine lv_iadd hx hb dL_law_512 ?_
                        refine va_sld hx hb hX hbl hbA w.2.2.1 c92 dL_law_513 ?_
                        refine lv_aload_n hx hb dL_law_514 rfl (lv_at hl 0 rfl) ?_
                        refine lv_iload hx hb dL_law_515 (lv_at hl 4 rfl) ?_
                        refine lv_iconst (v := 3) hx hb dL_law_517 (by decide) ?_
                        refine lv_iadd hx hb dL_law_518 ?_
                        refine va_sld hx hb hX hbl hbA w.2.2.1 c93 dL_law_519 ?_
                        obtain ⟨c99, hk⟩ := ok_c hk
                        obtain ⟨q97, e98, hk⟩ := ok_b hk
                        refine zVi X w (n := 3) (As := [.int (xs (Int32.toNatClampNeg (i4 + (1 : Int32)))), .int (xs (Int32.toNatClampNeg (i4 + (2 : Int32)))), .int (xs (Int32.toNatClampNeg (i4 + (3 : Int32))))]) (rest := [.int q94]) (ci := 9) (C := RX9) (T := TX9) (N := 23) (c_X9_state l D cy G M r2 (xs (Int32.toNatClampNeg (i4 + (1 : Int32)))) (xs (Int32.toNatClampNeg (i4 + (2 : Int32)))) (xs (Int32.toNatClampNeg (i4 + (3 : Int32)))) e98) (gzV wm_L_86 wi_X9_state ws_X9_state wn_X9 wc_X9_state) rfl rfl rfl (by decide +kernel) (by decide) rfl c99 rfl rfl hl.1 (Nat.le_of_ble_eq_true rfl) dL_law_520 ⟨by show _ ≤ 601024; omega, by show _ ≤ 7293034; omega⟩ (fun H locs w => ?_)
                        refine lv_icmp_eq (tgt := 1173) hx hb dL_law_523 (by decide) (fun c100 => ?_) (fun c100 => ?_)
                        · have hk := ok_p c100 hk
                          refine lv_iinc (v := (i4 + 6)) (lv' := [(4, .int (i4 + 6)), (0, .ref b), (1, .ref r1), (2, .ref r2), (3, .ref r3)]) hx hb dL_law_1173 hl (k := 4) rfl rfl (by decide) rfl (fun ls hl => ?_)
                          refine lv_goto (tgt := 23) hx hb dL_law_1176 (by decide) ?_
                          exact hrec (i4 + 6) q97.2 _ _ (by omega) (by omega) _ _ _ w (lv_sub hl [1, 2, 3, 4, 0] rfl) hk
                        · have hk := ok_n c100 hk
                          refine lv_iconst (v := 0) hx hb dL_law_526 (by decide) ?_
                          exact (hR _ (ok_s hk)).elim
                      · have hk := ok_n s90 hk
                        by_cases s101 : ((xs (Int32.toNatClampNeg i4)) &&& (31 : Int32)) = 9
                        · have hk := ok_p s101 hk
                          refine lv_tableIn (off := 488) (tgt := 528) hx hb dL_law_40 (by rw [s101]; decide) (by rw [s101]; decide) (by rw [s101]; rfl) (by decide) ?_
                          refine lv_aload_n hx hb dL_law_528 rfl (lv_at hl 1 rfl) ?_
                          refine lv_aload_n hx hb dL_law_529 rfl (lv_at hl 0 rfl) ?_
                          refine lv_iload hx hb dL_law_530 (lv_at hl 4 rfl) ?_
                          refine lv_iconst (v := 1) hx hb dL_law_532 (by decide) ?_
                          refine lv_iadd hx hb dL_law_533 ?_
                          obtain ⟨c102, hk⟩ := ok_c hk
                          refine va_sld hx hb hX hbl hbA w.2.2.1 c102 dL_law_534 ?_
                          refine lv_aload_n hx hb dL_law_535 rfl (lv_at hl 0 rfl) ?_
                          refine lv_iload hx hb dL_law_536 (lv_at hl 4 rfl) ?_
                          refine lv_iconst (v := 2) hx hb dL_law_538 (by decide) ?_
                          refine lv_iadd hx hb dL_law_539 ?_
                          obtain ⟨c103, hk⟩ := ok_c hk
                          refine va_sld hx hb hX hbl hbA w.2.2.1 c103 dL_law_540 ?_
                          refine lv_aload_n hx hb dL_law_541 rfl (lv_at hl 0 rfl) ?_
                          refine lv_iload hx hb dL_law_542 (lv_at hl 4 rfl) ?_
                          refine lv_iconst (v := 3) hx hb dL_law_544 (by decide) ?_
                          refine lv_iadd hx hb dL_law_545 ?_
                          obtain ⟨c104, hk⟩ := ok_c hk
                          refine va_sld hx hb hX hbl hbA w.2.2.1 c104 dL_law_546 ?_
                          refine lv_aload_n hx hb dL_law_547 rfl (lv_at hl 0 rfl) ?_
                          refine lv_iload hx hb dL_law_548 (lv_at hl 4 rfl) ?_
                          refine lv_iconst (v := 4) hx hb dL_law_550 (by decide) ?_
                          refine lv_iadd hx hb dL_law_551 ?_
                          obtain ⟨c105, hk⟩ := ok_c hk
                          refine va_sld hx hb hX hbl hbA w.2.2.1 c105 dL_law_552 ?_
                          refine lv_aload_n hx hb dL_law_553 rfl (lv_at hl 0 rfl) ?_
                          refine lv_iload hx hb dL_law_554 (lv_at hl 4 rfl) ?_
                          refine lv_iconst (v := 5) hx hb dL_law_556 (by decide) ?_
                          refine lv_iadd hx hb dL_law_557 ?_
                          obtain ⟨c106, hk⟩ := ok_c hk
                          refine va_sld hx hb hX hbl hbA w.2.2.1 c106 dL_law_558 ?_
                          refine lv_aload_n hx hb dL_law_559 rfl (lv_at hl 3 rfl) ?_
                          obtain ⟨q107, e108, hk⟩ := ok_b hk
                          refine zSW X hz w (n := 7) (As := [.ref r1, .int (xs (Int32.toNatClampNeg (i4 + (1 : Int32)))), .int (xs (Int32.toNatClampNeg (i4 + (2 : Int32)))), .int (xs (Int32.toNatClampNeg (i4 + (3 : Int32)))), .int (xs (Int32.toNatClampNeg (i4 + (4 : Int32)))), .int (xs (Int32.toNatClampNeg (i4 + (5 : Int32)))), .ref r3]) (rest := []) (c_L_chance l hst D cy G M r1 (xs (Int32.toNatClampNeg (i4 + (1 : Int32)))) (xs (Int32.toNatClampNeg (i4 + (2 : Int32)))) (xs (Int32.toNatClampNeg (i4 + (3 : Int32)))) (xs (Int32.toNatClampNeg (i4 + (4 : Int32)))) (xs (Int32.toNatClampNeg (i4 + (5 : Int32)))) r3 e108) wm_L_87 wt_L_chance wn_L wc_L_chance rfl rfl rfl (by decide +kernel) (by decide) rfl rfl hl.1 (Nat.le_of_ble_eq_true rfl) dL_law_560 ⟨by show _ ≤ 601024; omega, by show _ ≤ 7293034; omega⟩ (fun H locs w => ?_)
                          refine lv_istore (lv' := [(5, .int q107.1), (0, .ref b), (1, .ref r1), (2, .ref r2), (3, .ref r3), (4, .int i4)]) hx hb dL_law_563 hl (by decide) rfl (fun ls hl => ?_)
                          refine lv_aload_n hx hb dL_law_565 rfl (lv_at hl 3 rfl) ?_
                          refine lv_aload_n hx hb dL_law_566 rfl (lv_at hl 1 rfl) ?_
                          refine lv_iload hx hb dL_law_567 (lv_at hl 5 rfl) ?_
                          refine lv_iconst (v := 1) hx hb dL_law_569 (by decide) ?_
                          refine lv_iadd hx hb dL_law_570 ?_
                          refine va_sld hx hb hX hbl hbA w.2.2.1 c102 dL_law_571 ?_
                          refine lv_aload_n hx hb dL_law_572 rfl (lv_at hl 1 rfl) ?_
                          refine lv_iload hx hb dL_law_573 (lv_at hl 5 rfl) ?_
                          refine lv_iconst (v := 2) hx hb dL_law_575 (by decide) ?_
                          refine lv_iadd hx hb dL_law_576 ?_
                          refine va_sld hx hb hX hbl hbA w.2.2.1 c103 dL_law_577 ?_
                          refine lv_aload_n hx hb dL_law_578 rfl (lv_at hl 1 rfl) ?_
                          refine lv_iload hx hb dL_law_579 (lv_at hl 5 rfl) ?_
                          refine lv_iconst (v := 3) hx hb dL_law_581 (by decide) ?_
                          refine lv_iadd hx hb dL_law_582 ?_
                          refine va_sld hx hb hX hbl hbA w.2.2.1 c104 dL_law_583 ?_
                          refine lv_aload_n hx hb dL_law_584 rfl (lv_at hl 1 rfl) ?_
                          refine lv_iload hx hb dL_law_585 (lv_at hl 5 rfl) ?_
                          refine lv_iconst (v := 4) hx hb dL_law_587 (by decide) ?_
                          refine lv_iadd hx hb dL_law_588 ?_
                          refine va_sld hx hb hX hbl hbA w.2.2.1 c105 dL_law_589 ?_
                          refine lv_aload_n hx hb dL_law_590 rfl (lv_at hl 1 rfl) ?_
                          refine lv_iload hx hb dL_law_591 (lv_at hl 5 rfl) ?_
                          refine lv_iconst (v := 5) hx hb dL_law_593 (by decide) ?_
                          refine lv_iadd hx hb dL_law_594 ?_
                          refine va_sld hx hb hX hbl hbA w.2.2.1 c106 dL_law_595 ?_
                          obtain ⟨c111, hk⟩ := ok_c hk
                          obtain ⟨q109, e110, hk⟩ := ok_b hk
                          refine zVl X w (n := 5) (As := [.int (xs (Int32.toNatClampNeg (i4 + (1 : Int32)))), .int (xs (Int32.toNatClampNeg (i4 + (2 : Int32)))), .int (xs (Int32.toNatClampNeg (i4 + (3 : Int32)))), .int (xs (Int32.toNatClampNeg (i4 + (4 : Int32)))), .int (xs (Int32.toNatClampNeg (i4 + (5 : Int32))))]) (rest := []) (ci := 9) (C := RX9) (T := TX9) (N := 23) (c_X9_chance l D cy G q107.2 r2 (xs (Int32.toNatClampNeg (i4 + (1 : Int32)))) (xs (Int32.toNatClampNeg (i4 + (2 : Int32)))) (xs (Int32.toNatClampNeg (i4 + (3 : Int32)))) (xs (Int32.toNatClampNeg (i4 + (4 : Int32)))) (xs (Int32.toNatClampNeg (i4 + (5 : Int32)))) e110) (gzV wm_L_90 wi_X9_chance ws_X9_chance wn_X9 wc_X9_chance) rfl rfl rfl (by decide +kernel) (by decide) rfl c111 rfl rfl hl.1 (Nat.le_of_ble_eq_true rfl) dL_law_596 ⟨by show _ ≤ 601024; omega, by show _ ≤ 7293034; omega⟩ (fun H locs w => ?_)
                          refine lv_lstore (lv' := [(6, .long q109.1), (5, .int q107.1), (0, .ref b), (1, .ref r1), (2, .ref r2), (3, .ref r3), (4, .int i4)]) hx hb dL_law_599 hl (by decide) rfl (fun ls hl => ?_)
                          refine lv_aload_n hx hb dL_law_601 rfl (lv_at hl 4 rfl) ?_
                          obtain ⟨q112, e113, hk⟩ := ok_b hk
                          refine zVi X w (n := 0) (As := []) (rest := []) (ci := 9) (C := RX9) (T := TX9) (N := 23) (c_X9_thrown l D cy G q109.2 r2 e113) (gzV wm_L_75 wi_X9_thrown ws_X9_thrown wn_X9 wc_X9_thrown) rfl rfl rfl (by decide +kernel) (by decide) rfl c111 rfl rfl hl.1 (Nat.le_of_ble_eq_true rfl) dL_law_602 ⟨by show _ ≤ 601024; omega, by show _ ≤ 7293034; omega⟩ (fun H locs w => ?_)
                          refine lv_iload hx hb dL_law_605 (lv_at hl 1 rfl) ?_
                          refine lv_icmp_eq (tgt := 612) hx hb dL_law_607 (by decide) (fun c114 => ?_) (fun c114 => ?_)
                          · have hk := ok_p c114 hk
                            refine lv_iload hx hb dL_law_612 (lv_at hl 1 rfl) ?_
                            refine lv_if_ne (tgt := 628) hx hb dL_law_614 (by decide) (fun c115 => ?_) (fun c115 => ?_)
                            · have hk := ok_n c115 hk
                              refine lv_goto (tgt := 1173) hx hb dL_law_628 (by decide) ?_
                              refine lv_iinc (v := (i4 + 6)) (lv' := [(4, .int (i4 + 6)), (6, .long q109.1), (5, .int q107.1), (0, .ref b), (1, .ref r1), (2, .ref r2), (3, .ref r3)]) hx hb dL_law_1173 hl (k := 6) rfl rfl (by decide) rfl (fun ls hl => ?_)
                              refine lv_goto (tgt := 23) hx hb dL_law_1176 (by decide) ?_
                              exact hrec (i4 + 6) q109.2 _ _ (by omega) (by omega) _ _ _ w (lv_sub hl [3, 4, 5, 6, 0] rfl) hk
                            · have hk := ok_p c115 hk
                              refine lv_aload_n hx hb dL_law_617 rfl (lv_at hl 5 rfl) ?_
                              refine lv_iconst (v := 0) hx hb dL_law_618 (by decide) ?_
                              obtain ⟨c116, hk⟩ := ok_c hk
                              obtain ⟨c117, hk⟩ := ok_c hk
                              refine zal X w dL_law_619 c116 c117 ?_
                              refine lv_lload hx hb dL_law_620 (lv_at hl 0 rfl) ?_
                              refine W.lcmp hx hb dL_law_622 ?_
                              refine lv_if_eq (tgt := 628) hx hb dL_law_623 (by decide) (fun c118 => ?_) (fun c118 => ?_)
                              · have hk := ok_p c118 hk
                                refine lv_goto (tgt := 1173) hx hb dL_law_628 (by decide) ?_
                                refine lv_iinc (v := (i4 + 6)) (lv' := [(4, .int (i4 + 6)), (6, .long q109.1), (5, .int q107.1), (0, .ref b), (1, .ref r1), (2, .ref r2), (3, .ref r3)]) hx hb dL_law_1173 hl (k := 6) rfl rfl (by decide) rfl (fun ls hl => ?_)
                                refine lv_goto (tgt := 23) hx hb dL_law_1176 (by decide) ?_
                                exact hrec (i4 + 6) q109.2 _ _ (by omega) (by omega) _ _ _ w (lv_sub hl [3, 4, 5, 6, 0] rfl) hk
                              · have hk := ok_n c118 hk
                                refine lv_iconst (v := 0) hx hb dL_law_626 (by decide) ?_
                                exact (hR _ (ok_s hk)).elim
                          · have hk := ok_n c114 hk
                            refine lv_iconst (v := 0) hx hb dL_law_610 (by decide) ?_
                            exact (hR _ (ok_s hk)).elim
                        · have hk := ok_n s101 hk
                          by_cases s119 : ((xs (Int32.toNatClampNeg i4)) &&& (31 : Int32)) = 10
                          · have hk := ok_p s119 hk
                            refine lv_tableIn (off := 591) (tgt := 631) hx hb dL_law_40 (by rw [s119]; decide) (by rw [s119]; decide) (by rw [s119]; rfl) (by decide) ?_
                            refine lv_aload_n hx hb dL_law_631 rfl (lv_at hl 1 rfl) ?_
                            refine lv_aload_n hx hb dL_law_632 rfl (lv_at hl 0 rfl) ?_
                            refine lv_iload hx hb dL_law_633 (lv_at hl 4 rfl) ?_
                            refine lv_iconst (v := 1) hx hb dL_law_635 (by decide) ?_
                            refine lv_iadd hx hb dL_law_636 ?_
                            obtain ⟨c120, hk⟩ := ok_c hk
                            refine va_sld hx hb hX hbl hbA w.2.2.1 c120 dL_law_637 ?_
                            refine lv_aload_n hx hb dL_law_638 rfl (lv_at hl 0 rfl) ?_
                            refine lv_iload hx hb dL_law_639 (lv_at hl 4 rfl) ?_
                            refine lv_iconst (v := 2) hx hb dL_law_641 (by decide) ?_
                            refine lv_iadd hx hb dL_law_642 ?_
                            obtain ⟨c121, hk⟩ := ok_c hk
                            refine va_sld hx hb hX hbl hbA w.2.2.1 c121 dL_law_643 ?_
                            refine lv_aload_n hx hb dL_law_644 rfl (lv_at hl 0 rfl) ?_
                            refine lv_iload hx hb dL_law_645 (lv_at hl 4 rfl) ?_
                            refine lv_iconst (v := 3) hx hb dL_law_647 (by decide) ?_
                            refine lv_iadd hx hb dL_law_648 ?_
                            obtain ⟨c122, hk⟩ := ok_c hk
                            refine va_sld hx hb hX hbl hbA w.2.2.1 c122 dL_law_649 ?_
                            refine lv_aload_n hx hb dL_law_650 rfl (lv_at hl 0 rfl) ?_
                            refine lv_iload hx hb dL_law_651 (lv_at hl 4 rfl) ?_
                            refine lv_iconst (v := 4) hx hb dL_law_653 (by decide) ?_
                            refine lv_iadd hx hb dL_law_654 ?_
                            obtain ⟨c123, hk⟩ := ok_c hk
                            refine va_sld hx hb hX hbl hbA w.2.2.1 c123 dL_law_655 ?_
                            refine lv_aload_n hx hb dL_law_656 rfl (lv_at hl 0 rfl) ?_
                            refine lv_iload hx hb dL_law_657 (lv_at hl 4 rfl) ?_
                            refine lv_iconst (v := 5) hx hb dL_law_659 (by decide) ?_
                            refine lv_iadd hx hb dL_law_660 ?_
                            obtain ⟨c124, hk⟩ := ok_c hk
                            refine va_sld hx hb hX hbl hbA w.2.2.1 c124 dL_law_661 ?_
                            refine lv_aload_n hx hb dL_law_662 rfl (lv_at hl 3 rfl) ?_
                            obtain ⟨q125, e126, hk⟩ := ok_b hk
                            refine zSW X hz w (n := 7) (As := [.ref r1, .int (xs (Int32.toNatClampNeg (i4 + (1 : Int32)))), .int (xs (Int32.toNatClampNeg (i4 + (2 : Int32)))), .int (xs (Int32.toNatClampNeg (i4 + (3 : Int32)))), .int (xs (Int32.toNatClampNeg (i4 + (4 : Int32)))), .int (xs (Int32.toNatClampNeg (i4 + (5 : Int32)))), .ref r3]) (rest := []) (c_L_apart l hst D cy G M r1 (xs (Int32.toNatClampNeg (i4 + (1 : Int32)))) (xs (Int32.toNatClampNeg (i4 + (2 : Int32)))) (xs (Int32.toNatClampNeg (i4 + (3 : Int32)))) (xs (Int32.toNatClampNeg (i4 + (4 : Int32)))) (xs (Int32.toNatClampNeg (i4 + (5 : Int32)))) r3 e126) wm_L_91 wt_L_apart wn_L wc_L_apart rfl rfl rfl (by decide +kernel) (by decide) rfl rfl hl.1 (Nat.le_of_ble_eq_true rfl) dL_law_663 ⟨by show _ ≤ 601024; omega, by show _ ≤ 7293034; omega⟩ (fun H locs w => ?_)
                            refine lv_istore (lv' := [(5, .int q125.1), (0, .ref b), (1, .ref r1), (2, .ref r2), (3, .ref r3), (4, .int i4)]) hx hb dL_law_666 hl (by decide) rfl (fun ls hl => ?_)
                            refine lv_aload_n hx hb dL_law_668 rfl (lv_at hl 3 rfl) ?_
                            refine lv_aload_n hx hb dL_law_669 rfl (lv_at hl 1 rfl) ?_
                            refine lv_iload hx hb dL_law_670 (lv_at hl 5 rfl) ?_
                            refine lv_iconst (v := 1) hx hb dL_law_672 (by decide) ?_
                            refine lv_iadd hx hb dL_law_673 ?_
                            refine va_sld hx hb hX hbl hbA w.2.2.1 c120 dL_law_674 ?_
                            refine lv_aload_n hx hb dL_law_675 rfl (lv_at hl 1 rfl) ?_
                            refine lv_iload hx hb dL_law_676 (lv_at hl 5 rfl) ?_
                            refine lv_iconst (v := 2) hx hb dL_law_678 (by decide) ?_
                            refine lv_iadd hx hb dL_law_679 ?_
                            refine va_sld hx hb hX hbl hbA w.2.2.1 c121 dL_law_680 ?_
                            refine lv_aload_n hx hb dL_law_681 rfl (lv_at hl 1 rfl) ?_
                            refine lv_iload hx hb dL_law_682 (lv_at hl 5 rfl) ?_
                            refine lv_iconst (v := 3) hx hb dL_law_684 (by decide) ?_
                            refine lv_iadd hx hb dL_law_685 ?_
                            refine va_sld hx hb hX hbl hbA w.2.2.1 c122 dL_law_686 ?_
                            refine lv_aload_n hx hb dL_law_687 rfl (lv_at hl 1 rfl) ?_
                            refine lv_iload hx hb dL_law_688 (lv_at hl 5 rfl) ?_
                            refine lv_iconst (v := 4) hx hb dL_law_690 (by decide) ?_
                            refine lv_iadd hx hb dL_law_691 ?_
                            refine va_sld hx hb hX hbl hbA w.2.2.1 c123 dL_law_692 ?_
                            refine lv_aload_n hx hb dL_law_693 rfl (lv_at hl 1 rfl) ?_
                            refine lv_iload hx hb dL_law_694 (lv_at hl 5 rfl) ?_
                            refine lv_iconst (v := 5) hx hb dL_law_696 (by decide) ?_
                            refine lv_iadd hx hb dL_law_697 ?_
                            refine va_sld hx hb hX hbl hbA w.2.2.1 c124 dL_law_698 ?_
                            obtain ⟨c129, hk⟩ := ok_c hk
                            obtain ⟨q127, e128, hk⟩ := ok_b hk
                            refine zVl X w (n := 5) (As := [.int (xs (Int32.toNatClampNeg (i4 + (1 : Int32)))), .int (xs (Int32.toNatClampNeg (i4 + (2 : Int32)))), .int (xs (Int32.toNatClampNeg (i4 + (3 : Int32)))), .int (xs (Int32.toNatClampNeg (i4 + (4 : Int32)))), .int (xs (Int32.toNatClampNeg (i4 + (5 : Int32))))]) (rest := []) (ci := 9) (C := RX9) (T := TX9) (N := 23) (c_X9_apart l D cy G q125.2 r2 (xs (Int32.toNatClampNeg (i4 + (1 : Int32)))) (xs (Int32.toNatClampNeg (i4 + (2 : Int32)))) (xs (Int32.toNatClampNeg (i4 + (3 : Int32)))) (xs (Int32.toNatClampNeg (i4 + (4 : Int32)))) (xs (Int32.toNatClampNeg (i4 + (5 : Int32)))) e128) (gzV wm_L_93 wi_X9_apart ws_X9_apart wn_X9 wc_X9_apart) rfl rfl rfl (by decide +kernel) (by decide) rfl c129 rfl rfl hl.1 (Nat.le_of_ble_eq_true rfl) dL_law_699 ⟨by show _ ≤ 601024; omega, by show _ ≤ 7293034; omega⟩ (fun H locs w => ?_)
                            refine lv_lstore (lv' := [(6, .long q127.1), (5, .int q125.1), (0, .ref b), (1, .ref r1), (2, .ref r2), (3, .ref r3), (4, .int i4)]) hx hb dL_law_702 hl (by decide) rfl (fun ls hl => ?_)
                            refine lv_aload_n hx hb dL_law_704 rfl (lv_at hl 4 rfl) ?_
                            obtain ⟨q130, e131, hk⟩ := ok_b hk
                            refine zVi X w (n := 0) (As := []) (rest := []) (ci := 9) (C := RX9) (T := TX9) (N := 23) (c_X9_thrown l D cy G q127.2 r2 e131) (gzV wm_L_75 wi_X9_thrown ws_X9_thrown wn_X9 wc_X9_thrown) rfl rfl rfl (by decide +kernel) (by decide) rfl c129 rfl rfl hl.1 (Nat.le_of_ble_eq_true rfl) dL_law_705 ⟨by show _ ≤ 601024; omega, by show _ ≤ 7293034; omega⟩ (fun H locs w => ?_)
                            refine lv_iload hx hb dL_law_708 (lv_at hl 1 rfl) ?_
                            refine lv_icmp_eq (tgt := 715) hx hb dL_law_710 (by decide) (fun c132 => ?_) (fun c132 => ?_)
                            · have hk := ok_p c132 hk
                              refine lv_iload hx hb dL_law_715 (lv_at hl 1 rfl) ?_
                              refine lv_if_ne (tgt := 731) hx hb dL_law_717 (by decide) (fun c133 => ?_) (fun c133 => ?_)
                              · have hk := ok_n c133 hk
                                refine lv_goto (tgt := 1173) hx hb dL_law_731 (by decide) ?_
                                refine lv_iinc (v := (i4 + 6)) (lv' := [(4, .int (i4 + 6)), (6, .long q127.1), (5, .int q125.1), (0, .ref b), (1, .ref r1), (2, .ref r2), (3, .ref r3)]) hx hb dL_law_1173 hl (k := 6) rfl rfl (by decide) rfl (fun ls hl => ?_)
                                refine lv_goto (tgt := 23) hx hb dL_law_1176 (by decide) ?_
                                exact hrec (i4 + 6) q127.2 _ _ (by omega) (by omega) _ _ _ w (lv_sub hl [3, 4, 5, 6, 0] rfl) hk
                              · have hk := ok_p c133 hk
                                refine lv_aload_n hx hb dL_law_720 rfl (lv_at hl 5 rfl) ?_
                                refine lv_iconst (v := 0) hx hb dL_law_721 (by decide) ?_
                                obtain ⟨c134, hk⟩ := ok_c hk
                                obtain ⟨c135, hk⟩ := ok_c hk
                                refine zal X w dL_law_722 c134 c135 ?_
                                refine lv_lload hx hb dL_law_723 (lv_at hl 0 rfl) ?_
                                refine W.lcmp hx hb dL_law_725 ?_
                                refine lv_if_eq (tgt := 731) hx hb dL_law_726 (by decide) (fun c136 => ?_) (fun c136 => ?_)
                                · have hk := ok_p c136 hk
                                  refine lv_goto (tgt := 1173) hx hb dL_law_731 (by decide) ?_
                                  refine lv_iinc (v := (i4 + 6)) (lv' := [(4, .int (i4 + 6)), (6, .long q127.1), (5, .int q125.1), (0, .ref b), (1, .ref r1), (2, .ref r2), (3, .ref r3)]) hx hb dL_law_1173 hl (k := 6) rfl rfl (by decide) rfl (fun ls hl => ?_)
                                  refine lv_goto (tgt := 23) hx hb dL_law_1176 (by decide) ?_
                                  exact hrec (i4 + 6) q127.2 _ _ (by omega) (by omega) _ _ _ w (lv_sub hl [3, 4, 5, 6, 0] rfl) hk
                                · have hk := ok_n c136 hk
                                  refine lv_iconst (v := 0) hx hb dL_law_729 (by decide) ?_
                                  exact (hR _ (ok_s hk)).elim
                            · have hk := ok_n c132 hk
                              refine lv_iconst (v := 0) hx hb dL_law_713 (by decide) ?_
                              exact (hR _ (ok_s hk)).elim
                          · have hk := ok_n s119 hk
                            by_cases s137 : ((xs (Int32.toNatClampNeg i4)) &&& (31 : Int32)) = 11
                            · have hk := ok_p s137 hk
                              refine lv_tableIn (off := 694) (tgt := 734) hx hb dL_law_40 (by rw [s137]; decide) (by rw [s137]; decide) (by rw [s137]; rfl) (by decide) ?_
                              refine lv_aload_n hx hb dL_law_734 rfl (lv_at hl 1 rfl) ?_
                              refine lv_aload_n hx hb dL_law_735 rfl (lv_at hl 0 rfl) ?_
                              refine lv_iload hx hb dL_law_736 (lv_at hl 4 rfl) ?_
                              refine lv_iconst (v := 1) hx hb dL_law_738 (by decide) ?_
                              refine lv_iadd hx hb dL_law_739 ?_
                              obtain ⟨c138, hk⟩ := ok_c hk
                              refine va_sld hx hb hX hbl hbA w.2.2.1 c138 dL_law_740 ?_
                              refine lv_aload_n hx hb dL_law_741 rfl (lv_at hl 0 rfl) ?_
                              refine lv_iload hx hb dL_law_742 (lv_at hl 4 rfl) ?_
                              refine lv_iconst (v := 2) hx hb dL_law_744 (by decide) ?_
                              refine lv_iadd hx hb dL_law_745 ?_
                              obtain ⟨c139, hk⟩ := ok_c hk
                              refine va_sld hx hb hX hbl hbA w.2.2.1 c139 dL_law_746 ?_
                              refine lv_aload_n hx hb dL_law_747 rfl (lv_at hl 0 rfl) ?_
                              refine lv_iload hx hb dL_law_748 (lv_at hl 4 rfl) ?_
                              refine lv_iconst (v := 3) hx hb dL_law_750 (by decide) ?_
                              refine lv_iadd hx hb dL_law_751 ?_
                              obtain ⟨c140, hk⟩ := ok_c hk
                              refine va_sld hx hb hX hbl hbA w.2.2.1 c140 dL_law_752 ?_
                              obtain ⟨c143, hk⟩ := ok_c hk
                              obtain ⟨q141, e142, hk⟩ := ok_b hk
                              refine zVi X w (n := 3) (As := [.int (xs (Int32.toNatClampNeg (i4 + (1 : Int32)))), .int (xs (Int32.toNatClampNeg (i4 + (2 : Int32)))), .int (xs (Int32.toNatClampNeg (i4 + (3 : Int32))))]) (rest := []) (ci := 8) (C := RX8) (T := TX8) (N := 10) (c_X8_when l D cy G M r1 (xs (Int32.toNatClampNeg (i4 + (1 : Int32)))) (xs (Int32.toNatClampNeg (i4 + (2 : Int32)))) (xs (Int32.toNatClampNeg (i4 + (3 : Int32)))) e142) (gzV wm_L_94 wi_X8_when ws_X8_when wn_X8 wc_X8_when) rfl rfl rfl (by decide +kernel) (by decide) rfl c143 rfl rfl hl.1 (Nat.le_of_ble_eq_true rfl) dL_law_753 ⟨by show _ ≤ 601024; omega, by show _ ≤ 7293034; omega⟩ (fun H locs w => ?_)
                              refine lv_aload_n hx hb dL_law_756 rfl (lv_at hl 2 rfl) ?_
                              refine lv_aload_n hx hb dL_law_757 rfl (lv_at hl 0 rfl) ?_
                              refine lv_iload hx hb dL_law_758 (lv_at hl 4 rfl) ?_
                              refine lv_iconst (v := 1) hx hb dL_law_760 (by decide) ?_
                              refine lv_iadd hx hb dL_law_761 ?_
                              refine va_sld hx hb hX hbl hbA w.2.2.1 c138 dL_law_762 ?_
                              refine lv_aload_n hx hb dL_law_763 rfl (lv_at hl 0 rfl) ?_
                              refine lv_iload hx hb dL_law_764 (lv_at hl 4 rfl) ?_
                              refine lv_iconst (v := 2) hx hb dL_law_766 (by decide) ?_
                              refine lv_iadd hx hb dL_law_767 ?_
                              refine va_sld hx hb hX hbl hbA w.2.2.1 c139 dL_law_768 ?_
                              refine lv_aload_n hx hb dL_law_769 rfl (lv_at hl 0 rfl) ?_
                              refine lv_iload hx hb dL_law_770 (lv_at hl 4 rfl) ?_
                              refine lv_iconst (v := 3) hx hb dL_law_772 (by decide) ?_
                              refine lv_iadd hx hb dL_law_773 ?_
                              refine va_sld hx hb hX hbl hbA w.2.2.1 c140 dL_law_774 ?_
                              obtain ⟨c146, hk⟩ := ok_c hk
                              obtain ⟨q144, e145, hk⟩ := ok_b hk
                              refine zVi X w (n := 3) (As := [.int (xs (Int32.toNatClampNeg (i4 + (1 : Int32)))), .int (xs (Int32.toNatClampNeg (i4 + (2 : Int32)))), .int (xs (Int32.toNatClampNeg (i4 + (3 : Int32))))]) (rest := [.int q141.1]) (ci := 9) (C := RX9) (T := TX9) (N := 23) (c_X9_when l D cy G q141.2 r2 (xs (Int32.toNatClampNeg (i4 + (1 : Int32)))) (xs (Int32.toNatClampNeg (i4 + (2 : Int32)))) (xs (Int32.toNatClampNeg (i4 + (3 : Int32)))) e145) (gzV wm_L_97 wi_X9_when ws_X9_when wn_X9 wc_X9_when) rfl rfl rfl (by decide +kernel) (by decide) rfl c146 rfl rfl hl.1 (Nat.le_of_ble_eq_true rfl) dL_law_775 ⟨by show _ ≤ 601024; omega, by show _ ≤ 7293034; omega⟩ (fun H locs w => ?_)
                              refine lv_icmp_eq (tgt := 1173) hx hb dL_law_778 (by decide) (fun c147 => ?_) (fun c147 => ?_)
                              · have hk := ok_p c147 hk
                                refine lv_iinc (v := (i4 + 6)) (lv' := [(4, .int (i4 + 6)), (0, .ref b), (1, .ref r1), (2, .ref r2), (3, .ref r3)]) hx hb dL_law_1173 hl (k := 4) rfl rfl (by decide) rfl (fun ls hl => ?_)
                                refine lv_goto (tgt := 23) hx hb dL_law_1176 (by decide) ?_
                                exact hrec (i4 + 6) q144.2 _ _ (by omega) (by omega) _ _ _ w (lv_sub hl [1, 2, 3, 4, 0] rfl) hk
                              · have hk := ok_n c147 hk
                                refine lv_iconst (v := 0) hx hb dL_law_781 (by decide) ?_
                                exact (hR _ (ok_s hk)).elim
                            · have hk := ok_n s137 hk
                              by_cases s148 : ((xs (Int32.toNatClampNeg i4)) &&& (31 : Int32)) = 12
                              · have hk := ok_p s148 hk
                                refine lv_tableIn (off := 743) (tgt := 783) hx hb dL_law_40 (by rw [s148]; decide) (by rw [s148]; decide) (by rw [s148]; rfl) (by decide) ?_
                                refine lv_aload_n hx hb dL_law_783 rfl (lv_at hl 1 rfl) ?_
                                refine lv_aload_n hx hb dL_law_784 rfl (lv_at hl 0 rfl) ?_
                                refine lv_iload hx hb dL_law_785 (lv_at hl 4 rfl) ?_
                                refine lv_iconst (v := 1) hx hb dL_law_787 (by decide) ?_
                                refine lv_iadd hx hb dL_law_788 ?_
                                obtain ⟨c149, hk⟩ := ok_c hk
                                refine va_sld hx hb hX hbl hbA w.2.2.1 c149 dL_law_789 ?_
                                refine lv_aload_n hx hb dL_law_790 rfl (lv_at hl 0 rfl) ?_
                                refine lv_iload hx hb dL_law_791 (lv_at hl 4 rfl) ?_
                                refine lv_iconst (v := 2) hx hb dL_law_793 (by decide) ?_
                                refine lv_iadd hx hb dL_law_794 ?_
                                obtain ⟨c150, hk⟩ := ok_c hk
                                refine va_sld hx hb hX hbl hbA w.2.2.1 c150 dL_law_795 ?_
                                refine lv_aload_n hx hb dL_law_796 rfl (lv_at hl 0 rfl) ?_
                                refine lv_iload hx hb dL_law_797 (lv_at hl 4 rfl) ?_
                                refine lv_iconst (v := 3) hx hb dL_law_799 (by decide) ?_
                                refine lv_iadd hx hb dL_law_800 ?_
                                obtain ⟨c151, hk⟩ := ok_c hk
                                refine va_sld hx hb hX hbl hbA w.2.2.1 c151 dL_law_801 ?_
                                refine lv_aload_n hx hb dL_law_802 rfl (lv_at hl 3 rfl) ?_
                                obtain ⟨q152, e153, hk⟩ := ok_b hk
                                refine zSW X hz w (n := 5) (As := [.ref r1, .int (xs (Int32.toNatClampNeg (i4 + (1 : Int32)))), .int (xs (Int32.toNatClampNeg (i4 + (2 : Int32)))), .int (xs (Int32.toNatClampNeg (i4 + (3 : Int32)))), .ref r3]) (rest := []) (c_L_stay l hst D cy G M r1 (xs (Int32.toNatClampNeg (i4 + (1 : Int32)))) (xs (Int32.toNatClampNeg (i4 + (2 : Int32)))) (xs (Int32.toNatClampNeg (i4 + (3 : Int32)))) r3 e153) wm_L_98 wt_L_stay wn_L wc_L_stay rfl rfl rfl (by decide +kernel) (by decide) rfl rfl hl.1 (Nat.le_of_ble_eq_true rfl) dL_law_803 ⟨by show _ ≤ 601024; omega, by show _ ≤ 7293034; omega⟩ (fun H locs w => ?_)
                                refine lv_istore (lv' := [(5, .int q152.1), (0, .ref b), (1, .ref r1), (2, .ref r2), (3, .ref r3), (4, .int i4)]) hx hb dL_law_806 hl (by decide) rfl (fun ls hl => ?_)
                                refine lv_aload_n hx hb dL_law_808 rfl (lv_at hl 3 rfl) ?_
                                refine lv_aload_n hx hb dL_law_809 rfl (lv_at hl 1 rfl) ?_
                                refine lv_iload hx hb dL_law_810 (lv_at hl 5 rfl) ?_
                                refine lv_iconst (v := 1) hx hb dL_law_812 (by decide) ?_
                                refine lv_iadd hx hb dL_law_813 ?_
                                refine va_sld hx hb hX hbl hbA w.2.2.1 c149 dL_law_814 ?_
                                refine lv_aload_n hx hb dL_law_815 rfl (lv_at hl 1 rfl) ?_
                                refine lv_iload hx hb dL_law_816 (lv_at hl 5 rfl) ?_
                                refine lv_iconst (v := 2) hx hb dL_law_818 (by decide) ?_
                                refine lv_iadd hx hb dL_law_819 ?_
                                refine va_sld hx hb hX hbl hbA w.2.2.1 c150 dL_law_820 ?_
                                refine lv_aload_n hx hb dL_law_821 rfl (lv_at hl 1 rfl) ?_
                                refine lv_iload hx hb dL_law_822 (lv_at hl 5 rfl) ?_
                                refine lv_iconst (v := 3) hx hb dL_law_824 (by decide) ?_
                                refine lv_iadd hx hb dL_law_825 ?_
                                refine va_sld hx hb hX hbl hbA w.2.2.1 c151 dL_law_826 ?_
                                obtain ⟨c156, hk⟩ := ok_c hk
                                obtain ⟨q154, e155, hk⟩ := ok_b hk
                                refine zVl X w (n := 3) (As := [.int (xs (Int32.toNatClampNeg (i4 + (1 : Int32)))), .int (xs (Int32.toNatClampNeg (i4 + (2 : Int32)))), .int (xs (Int32.toNatClampNeg (i4 + (3 : Int32))))]) (rest := []) (ci := 9) (C := RX9) (T := TX9) (N := 23) (c_X9_stay l D cy G q152.2 r2 (xs (Int32.toNatClampNeg (i4 + (1 : Int32)))) (xs (Int32.toNatClampNeg (i4 + (2 : Int32)))) (xs (Int32.toNatClampNeg (i4 + (3 : Int32)))) e155) (gzV wm_L_101 wi_X9_stay ws_X9_stay wn_X9 wc_X9_stay) rfl rfl rfl (by decide +kernel) (by decide) rfl c156 rfl rfl hl.1 (Nat.le_of_ble_eq_true rfl) dL_law_827 ⟨by show _ ≤ 601024; omega, by show _ ≤ 7293034; omega⟩ (fun H locs w => ?_)
                                refine lv_lstore (lv' := [(6, .long q154.1), (5, .int q152.1), (0, .ref b), (1, .ref r1), (2, .ref r2), (3, .ref r3), (4, .int i4)]) hx hb dL_law_830 hl (by decide) rfl (fun ls hl => ?_)
                                refine lv_aload_n hx hb dL_law_832 rfl (lv_at hl 4 rfl) ?_
                                obtain ⟨q157, e158, hk⟩ := ok_b hk
                                refine zVi X w (n := 0) (As := []) (rest := []) (ci := 9) (C := RX9) (T := TX9) (N := 23) (c_X9_thrown l D cy G q154.2 r2 e158) (gzV wm_L_75 wi_X9_thrown ws_X9_thrown wn_X9 wc_X9_thrown) rfl rfl rfl (by decide +kernel) (by decide) rfl c156 rfl rfl hl.1 (Nat.le_of_ble_eq_true rfl) dL_law_833 ⟨by show _ ≤ 601024; omega, by show _ ≤ 7293034; omega⟩ (fun H locs w => ?_)
                                refine lv_iload hx hb dL_law_836 (lv_at hl 1 rfl) ?_
                                refine lv_icmp_eq (tgt := 843) hx hb dL_law_838 (by decide) (fun c159 => ?_) (fun c159 => ?_)
                                · have hk := ok_p c159 hk
                                  refine lv_iload hx hb dL_law_843 (lv_at hl 1 rfl) ?_
                                  refine lv_if_ne (tgt := 859) hx hb dL_law_845 (by decide) (fun c160 => ?_) (fun c160 => ?_)
                                  · have hk := ok_n c160 hk
                                    refine lv_goto (tgt := 1173) hx hb dL_law_859 (by decide) ?_
                                    refine lv_iinc (v := (i4 + 6)) (lv' := [(4, .int (i4 + 6)), (6, .long q154.1), (5, .int q152.1), (0, .ref b), (1, .ref r1), (2, .ref r2), (3, .ref r3)]) hx hb dL_law_1173 hl (k := 6) rfl rfl (by decide) rfl (fun ls hl => ?_)
                                    refine lv_goto (tgt := 23) hx hb dL_law_1176 (by decide) ?_
                                    exact hrec (i4 + 6) q154.2 _ _ (by omega) (by omega) _ _ _ w (lv_sub hl [3, 4, 5, 6, 0] rfl) hk
                                  · have hk := ok_p c160 hk
                                    refine lv_aload_n hx hb dL_law_848 rfl (lv_at hl 5 rfl) ?_
                                    refine lv_iconst (v := 0) hx hb dL_law_849 (by decide) ?_
                                    obtain ⟨c161, hk⟩ := ok_c hk
                                    obtain ⟨c162, hk⟩ := ok_c hk
                                    refine zal X w dL_law_850 c161 c162 ?_
                                    refine lv_lload hx hb dL_law_851 (lv_at hl 0 rfl) ?_
                                    refine W.lcmp hx hb dL_law_853 ?_
                                    refine lv_if_eq (tgt := 859) hx hb dL_law_854 (by decide) (fun c163 => ?_) (fun c163 => ?_)
                                    · have hk := ok_p c163 hk
                                      refine lv_goto (tgt := 1173) hx hb dL_law_859 (by decide) ?_
                                      refine lv_iinc (v := (i4 + 6)) (lv' := [(4, .int (i4 + 6)), (6, .long q154.1), (5, .int q152.1), (0, .ref b), (1, .ref r1), (2, .ref r2), (3, .ref r3)]) hx hb dL_law_1173 hl (k := 6) rfl rfl (by decide) rfl (fun ls hl => ?_)
                                      refine lv_goto (tgt := 23) hx hb dL_law_1176 (by decide) ?_
                                      exact hrec (i4 + 6) q154.2 _ _ (by omega) (by omega) _ _ _ w (lv_sub hl [3, 4, 5, 6, 0] rfl) hk
                                    · have hk := ok_n c163 hk
                                      refine lv_iconst (v := 0) hx hb dL_law_857 (by decide) ?_
                                      exact (hR _ (ok_s hk)).elim
                                · have hk := ok_n c159 hk
                                  refine lv_iconst (v := 0) hx hb dL_law_841 (by decide) ?_
                                  exact (hR _ (ok_s hk)).elim
                              · have hk := ok_n s148 hk
                                by_cases s164 : ((xs (Int32.toNatClampNeg i4)) &&& (31 : Int32)) = 13
                                · have hk := ok_p s164 hk
                                  refine lv_tableIn (off := 822) (tgt := 862) hx hb dL_law_40 (by rw [s164]; decide) (by rw [s164]; decide) (by rw [s164]; rfl) (by decide) ?_
                                  refine lv_aload_n hx hb dL_law_862 rfl (lv_at hl 1 rfl) ?_
                                  refine lv_aload_n hx hb dL_law_863 rfl (lv_at hl 0 rfl) ?_
                                  refine lv_iload hx hb dL_law_864 (lv_at hl 4 rfl) ?_
                                  refine lv_iconst (v := 1) hx hb dL_law_866 (by decide) ?_
                                  refine lv_iadd hx hb dL_law_867 ?_
                                  obtain ⟨c165, hk⟩ := ok_c hk
                                  refine va_sld hx hb hX hbl hbA w.2.2.1 c165 dL_law_868 ?_
                                  refine lv_aload_n hx hb dL_law_869 rfl (lv_at hl 0 rfl) ?_
                                  refine lv_iload hx hb dL_law_870 (lv_at hl 4 rfl) ?_
                                  refine lv_iconst (v := 2) hx hb dL_law_872 (by decide) ?_
                                  refine lv_iadd hx hb dL_law_873 ?_
                                  obtain ⟨c166, hk⟩ := ok_c hk
                                  refine va_sld hx hb hX hbl hbA w.2.2.1 c166 dL_law_874 ?_
                                  refine lv_aload_n hx hb dL_law_875 rfl (lv_at hl 0 rfl) ?_
                                  refine lv_iload hx hb dL_law_876 (lv_at hl 4 rfl) ?_
                                  refine lv_iconst (v := 3) hx hb dL_law_878 (by decide) ?_
                                  refine lv_iadd hx hb dL_law_879 ?_
                                  obtain ⟨c167, hk⟩ := ok_c hk
                                  refine va_sld hx hb hX hbl hbA w.2.2.1 c167 dL_law_880 ?_
                                  refine lv_aload_n hx hb dL_law_881 rfl (lv_at hl 0 rfl) ?_
                                  refine lv_iload hx hb dL_law_882 (lv_at hl 4 rfl) ?_
                                  refine lv_iconst (v := 4) hx hb dL_law_884 (by decide) ?_
                                  refine lv_iadd hx hb dL_law_885 ?_
                                  obtain ⟨c168, hk⟩ := ok_c hk
                                  refine va_sld hx hb hX hbl hbA w.2.2.1 c168 dL_law_886 ?_
                                  refine lv_aload_n hx hb dL_law_887 rfl (lv_at hl 3 rfl) ?_
                                  obtain ⟨q169, e170, hk⟩ := ok_b hk
                                  refine zSW X hz w (n := 6) (As := [.ref r1, .int (xs (Int32.toNatClampNeg (i4 + (1 : Int32)))), .int (xs (Int32.toNatClampNeg (i4 + (2 : Int32)))), .int (xs (Int32.toNatClampNeg (i4 + (3 : Int32)))), .int (xs (Int32.toNatClampNeg (i4 + (4 : Int32)))), .ref r3]) (rest := []) (c_L_steps l hst D cy G M r1 (xs (Int32.toNatClampNeg (i4 + (1 : Int32)))) (xs (Int32.toNatClampNeg (i4 + (2 : Int32)))) (xs (Int32.toNatClampNeg (i4 + (3 : Int32)))) (xs (Int32.toNatClampNeg (i4 + (4 : Int32)))) r3 e170) wm_L_102 wt_L_steps wn_L wc_L_steps rfl rfl rfl (by decide +kernel) (by decide) rfl rfl hl.1 (Nat.le_of_ble_eq_true rfl) dL_law_888 ⟨by show _ ≤ 601024; omega, by show _ ≤ 7293034; omega⟩ (fun H locs w => ?_)
                                  refine lv_istore (lv' := [(5, .int q169.1), (0, .ref b), (1, .ref r1), (2, .ref r2), (3, .ref r3), (4, .int i4)]) hx hb dL_law_891 hl (by decide) rfl (fun ls hl => ?_)
                                  refine lv_aload_n hx hb dL_law_893 rfl (lv_at hl 3 rfl) ?_
                                  refine lv_aload_n hx hb dL_law_894 rfl (lv_at hl 1 rfl) ?_
                                  refine lv_iload hx hb dL_law_895 (lv_at hl 5 rfl) ?_
                                  refine lv_iconst (v := 1) hx hb dL_law_897 (by decide) ?_
                                  refine lv_iadd hx hb dL_law_898 ?_
                                  refine va_sld hx hb hX hbl hbA w.2.2.1 c165 dL_law_899 ?_
                                  refine lv_aload_n hx hb dL_law_900 rfl (lv_at hl 1 rfl) ?_
                                  refine lv_iload hx hb dL_law_901 (lv_at hl 5 rfl) ?_
                                  refine lv_iconst (v := 2) hx hb dL_law_903 (by decide) ?_
                                  refine lv_iadd hx hb dL_law_904 ?_
                                  refine va_sld hx hb hX hbl hbA w.2.2.1 c166 dL_law_905 ?_
                                  refine lv_aload_n hx hb dL_law_906 rfl (lv_at hl 1 rfl) ?_
                                  refine lv_iload hx hb dL_law_907 (lv_at hl 5 rfl) ?_
                                  refine lv_iconst (v := 3) hx hb dL_law_909 (by decide) ?_
                                  refine lv_iadd hx hb dL_law_910 ?_
                                  refine va_sld hx hb hX hbl hbA w.2.2.1 c167 dL_law_911 ?_
                                  refine lv_aload_n hx hb dL_law_912 rfl (lv_at hl 1 rfl) ?_
                                  refine lv_iload hx hb dL_law_913 (lv_at hl 5 rfl) ?_
                                  refine lv_iconst (v := 4) hx hb dL_law_915 (by decide) ?_
                                  refine lv_iadd hx hb dL_law_916 ?_
                                  refine va_sld hx hb hX hbl hbA w.2.2.1 c168 dL_law_917 ?_
                                  obtain ⟨c173, hk⟩ := ok_c hk
                                  obtain ⟨q171, e172, hk⟩ := ok_b hk
                                  refine zVl X w (n := 4) (As := [.int (xs (Int32.toNatClampNeg (i4 + (1 : Int32)))), .int (xs (Int32.toNatClampNeg (i4 + (2 : Int32)))), .int (xs (Int32.toNatClampNeg (i4 + (3 : Int32)))), .int (xs (Int32.toNatClampNeg (i4 + (4 : Int32))))]) (rest := []) (ci := 9) (C := RX9) (T := TX9) (N := 23) (c_X9_steps l D cy G q169.2 r2 (xs (Int32.toNatClampNeg (i4 + (1 : Int32)))) (xs (Int32.toNatClampNeg (i4 + (2 : Int32)))) (xs (Int32.toNatClampNeg (i4 + (3 : Int32)))) (xs (Int32.toNatClampNeg (i4 + (4 : Int32)))) e172) (gzV wm_L_105 wi_X9_steps ws_X9_steps wn_X9 wc_X9_steps) rfl rfl rfl (by decide +kernel) (by decide) rfl c173 rfl rfl hl.1 (Nat.le_of_ble_eq_true rfl) dL_law_918 ⟨by show _ ≤ 601024; omega, by show _ ≤ 7293034; omega⟩ (fun H locs w => ?_)
                                  refine lv_lstore (lv' := [(6, .long q171.1), (5, .int q169.1), (0, .ref b), (1, .ref r1), (2, .ref r2), (3, .ref r3), (4, .int i4)]) hx hb dL_law_921 hl (by decide) rfl (fun ls hl => ?_)
                                  refine lv_aload_n hx hb dL_law_923 rfl (lv_at hl 4 rfl) ?_
                                  obtain ⟨q174, e175, hk⟩ := ok_b hk
                                  refine zVi X w (n := 0) (As := []) (rest := []) (ci := 9) (C := RX9) (T := TX9) (N := 23) (c_X9_thrown l D cy G q171.2 r2 e175) (gzV wm_L_75 wi_X9_thrown ws_X9_thrown wn_X9 wc_X9_thrown) rfl rfl rfl (by decide +kernel) (by decide) rfl c173 rfl rfl hl.1 (Nat.le_of_ble_eq_true rfl) dL_law_924 ⟨by show _ ≤ 601024; omega, by show _ ≤ 7293034; omega⟩ (fun H locs w => ?_)
                                  refine lv_iload hx hb dL_law_927 (lv_at hl 1 rfl) ?_
                                  refine lv_icmp_eq (tgt := 934) hx hb dL_law_929 (by decide) (fun c176 => ?_) (fun c176 => ?_)
                                  · have hk := ok_p c176 hk
                                    refine lv_iload hx hb dL_law_934 (lv_at hl 1 rfl) ?_
                                    refine lv_if_ne (tgt := 950) hx hb dL_law_936 (by decide) (fun c177 => ?_) (fun c177 => ?_)
                                    · have hk := ok_n c177 hk
                                      refine lv_goto (tgt := 1173) hx hb dL_law_950 (by decide) ?_
                                      refine lv_iinc (v := (i4 + 6)) (lv' := [(4, .int (i4 + 6)), (6, .long q171.1), (5, .int q169.1), (0, .ref b), (1, .ref r1), (2, .ref r2), (3, .ref r3)]) hx hb dL_law_1173 hl (k := 6) rfl rfl (by decide) rfl (fun ls hl => ?_)
                                      refine lv_goto (tgt := 23) hx hb dL_law_1176 (by decide) ?_
                                      exact hrec (i4 + 6) q171.2 _ _ (by omega) (by omega) _ _ _ w (lv_sub hl [3, 4, 5, 6, 0] rfl) hk
                                    · have hk := ok_p c177 hk
                                      refine lv_aload_n hx hb dL_law_939 rfl (lv_at hl 5 rfl) ?_
                                      refine lv_iconst (v := 0) hx hb dL_law_940 (by decide) ?_
                                      obtain ⟨c178, hk⟩ := ok_c hk
                                      obtain ⟨c179, hk⟩ := ok_c hk
                                      refine zal X w dL_law_941 c178 c179 ?_
                                      refine lv_lload hx hb dL_law_942 (lv_at hl 0 rfl) ?_
                                      refine W.lcmp hx hb dL_law_944 ?_
                                      refine lv_if_eq (tgt := 950) hx hb dL_law_945 (by decide) (fun c180 => ?_) (fun c180 => ?_)
                                      · have hk := ok_p c180 hk
                                        refine lv_goto (tgt := 1173) hx hb dL_law_950 (by decide) ?_
                                        refine lv_iinc (v := (i4 + 6)) (lv' := [(4, .int (i4 + 6)), (6, .long q171.1), (5, .int q169.1), (0, .ref b), (1, .ref r1), (2, .ref r2), (3, .ref r3)]) hx hb dL_law_1173 hl (k := 6) rfl rfl (by decide) rfl (fun ls hl => ?_)
                                        refine lv_goto (tgt := 23) hx hb dL_law_1176 (by decide) ?_
                                        exact hrec (i4 + 6) q171.2 _ _ (by omega) (by omega) _ _ _ w (lv_sub hl [3, 4, 5, 6, 0] rfl) hk
                                      · have hk := ok_n c180 hk
                                        refine lv_iconst (v := 0) hx hb dL_law_948 (by decide) ?_
                                        exact (hR _ (ok_s hk)).elim
                                  · have hk := ok_n c176 hk
                                    refine lv_iconst (v := 0) hx hb dL_law_932 (by decide) ?_
                                    exact (hR _ (ok_s hk)).elim
                                · have hk := ok_n s164 hk
                                  by_cases s181 : ((xs (Int32.toNatClampNeg i4)) &&& (31 : Int32)) = 14
                                  · have hk := ok_p s181 hk
                                    refine lv_tableIn (off := 913) (tgt := 953) hx hb dL_law_40 (by rw [s181]; decide) (by rw [s181]; decide) (by rw [s181]; rfl) (by decide) ?_
                                    refine lv_aload_n hx hb dL_law_953 rfl (lv_at hl 1 rfl) ?_
                                    refine lv_aload_n hx hb dL_law_954 rfl (lv_at hl 0 rfl) ?_
                                    refine lv_iload hx hb dL_law_955 (lv_at hl 4 rfl) ?_
                                    refine lv_iconst (v := 1) hx hb dL_law_957 (by decide) ?_
                                    refine lv_iadd hx hb dL_law_958 ?_
                                    obtain ⟨c182, hk⟩ := ok_c hk
                                    refine va_sld hx hb hX hbl hbA w.2.2.1 c182 dL_law_959 ?_
                                    refine lv_aload_n hx hb dL_law_960 rfl (lv_at hl 0 rfl) ?_
                                    refine lv_iload hx hb dL_law_961 (lv_at hl 4 rfl) ?_
                                    refine lv_iconst (v := 2) hx hb dL_law_963 (by decide) ?_
                                    refine lv_iadd hx hb dL_law_964 ?_
                                    obtain ⟨c183, hk⟩ := ok_c hk
                                    refine va_sld hx hb hX hbl hbA w.2.2.1 c183 dL_law_965 ?_
                                    refine lv_aload_n hx hb dL_law_966 rfl (lv_at hl 0 rfl) ?_
                                    refine lv_iload hx hb dL_law_967 (lv_at hl 4 rfl) ?_
                                    refine lv_iconst (v := 3) hx hb dL_law_969 (by decide) ?_
                                    refine lv_iadd hx hb dL_law_970 ?_
                                    obtain ⟨c184, hk⟩ := ok_c hk
                                    refine va_sld hx hb hX hbl hbA w.2.2.1 c184 dL_law_971 ?_
                                    refine lv_aload_n hx hb dL_law_972 rfl (lv_at hl 0 rfl) ?_
                                    refine lv_iload hx hb dL_law_973 (lv_at hl 4 rfl) ?_
                                    refine lv_iconst (v := 4) hx hb dL_law_975 (by decide) ?_
                                    refine lv_iadd hx hb dL_law_976 ?_
                                    obtain ⟨c185, hk⟩ := ok_c hk
                                    refine va_sld hx hb hX hbl hbA w.2.2.1 c185 dL_law_977 ?_
                                    refine lv_aload_n hx hb dL_law_978 rfl (lv_at hl 0 rfl) ?_
                                    refine lv_iload hx hb dL_law_979 (lv_at hl 4 rfl) ?_
                                    refine lv_iconst (v := 5) hx hb dL_law_981 (by decide) ?_
                                    refine lv_iadd hx hb dL_law_982 ?_
                                    obtain ⟨c186, hk⟩ := ok_c hk
                                    refine va_sld hx hb hX hbl hbA w.2.2.1 c186 dL_law_983 ?_
                                    refine lv_aload_n hx hb dL_law_984 rfl (lv_at hl 3 rfl) ?_
                                    obtain ⟨q187, e188, hk⟩ := ok_b hk
                                    refine zSW X hz w (n := 7) (As := [.ref r1, .int (xs (Int32.toNatClampNeg (i4 + (1 : Int32)))), .int (xs (Int32.toNatClampNeg (i4 + (2 : Int32)))), .int (xs (Int32.toNatClampNeg (i4 + (3 : Int32)))), .int (xs (Int32.toNatClampNeg (i4 + (4 : Int32)))), .int (xs (Int32.toNatClampNeg (i4 + (5 : Int32)))), .ref r3]) (rest := []) (c_L_ahead l hst D cy G M r1 (xs (Int32.toNatClampNeg (i4 + (1 : Int32)))) (xs (Int32.toNatClampNeg (i4 + (2 : Int32)))) (xs (Int32.toNatClampNeg (i4 + (3 : Int32)))) (xs (Int32.toNatClampNeg (i4 + (4 : Int32)))) (xs (Int32.toNatClampNeg (i4 + (5 : Int32)))) r3 e188) wm_L_106 wt_L_ahead wn_L wc_L_ahead rfl rfl rfl (by decide +kernel) (by decide) rfl rfl hl.1 (Nat.le_of_ble_eq_true rfl) dL_law_985 ⟨by show _ ≤ 601024; omega, by show _ ≤ 7293034; omega⟩ (fun H locs w => ?_)
                                    refine lv_istore (lv' := [(5, .int q187.1), (0, .ref b), (1, .ref r1), (2, .ref r2), (3, .ref r3), (4, .int i4)]) hx hb dL_law_988 hl (by decide) rfl (fun ls hl => ?_)
                                    refine lv_aload_n hx hb dL_law_990 rfl (lv_at hl 3 rfl) ?_
                                    refine lv_aload_n hx hb dL_law_991 rfl (lv_at hl 1 rfl) ?_
                                    refine lv_iload hx hb dL_law_992 (lv_at hl 5 rfl) ?_
                                    refine lv_iconst (v := 1) hx hb dL_law_994 (by decide) ?_
                                    refine lv_iadd hx hb dL_law_995 ?_
                                    refine va_sld hx hb hX hbl hbA w.2.2.1 c182 dL_law_996 ?_
                                    refine lv_aload_n hx hb dL_law_997 rfl (lv_at hl 1 rfl) ?_
                                    refine lv_iload hx hb dL_law_998 (lv_at hl 5 rfl) ?_
                                    refine lv_iconst (v := 2) hx hb dL_law_1000 (by decide) ?_
                                    refine lv_iadd hx hb dL_law_1001 ?_
                                    refine va_sld hx hb hX hbl hbA w.2.2.1 c183 dL_law_1002 ?_
                                    refine lv_aload_n hx hb dL_law_1003 rfl (lv_at hl 1 rfl) ?_
                                    refine lv_iload hx hb dL_law_1004 (lv_at hl 5 rfl) ?_
                                    refine lv_iconst (v := 3) hx hb dL_law_1006 (by decide) ?_
                                    refine lv_iadd hx hb dL_law_1007 ?_
                                    refine va_sld hx hb hX hbl hbA w.2.2.1 c184 dL_law_1008 ?_
                                    refine lv_aload_n hx hb dL_law_1009 rfl (lv_at hl 1 rfl) ?_
                                    refine lv_iload hx hb dL_law_1010 (lv_at hl 5 rfl) ?_
                                    refine lv_iconst (v := 4) hx hb dL_law_1012 (by decide) ?_
                                    refine lv_iadd hx hb dL_law_1013 ?_
                                    refine va_sld hx hb hX hbl hbA w.2.2.1 c185 dL_law_1014 ?_
                                    refine lv_aload_n hx hb dL_law_1015 rfl (lv_at hl 1 rfl) ?_
                                    refine lv_iload hx hb dL_law_1016 (lv_at hl 5 rfl) ?_
                                    refine lv_iconst (v := 5) hx hb dL_law_1018 (by decide) ?_
                                    refine lv_iadd hx hb dL_law_1019 ?_
                                    refine va_sld hx hb hX hbl hbA w.2.2.1 c186 dL_law_1020 ?_
                                    obtain ⟨c191, hk⟩ := ok_c hk
                                    obtain ⟨q189, e190, hk⟩ := ok_b hk
                                    refine zVl X w (n := 5) (As := [.int (xs (Int32.toNatClampNeg (i4 + (1 : Int32)))), .int (xs (Int32.toNatClampNeg (i4 + (2 : Int32)))), .int (xs (Int32.toNatClampNeg (i4 + (3 : Int32)))), .int (xs (Int32.toNatClampNeg (i4 + (4 : Int32)))), .int (xs (Int32.toNatClampNeg (i4 + (5 : Int32))))]) (rest := []) (ci := 9) (C := RX9) (T := TX9) (N := 23) (c_X9_ahead l D cy G q187.2 r2 (xs (Int32.toNatClampNeg (i4 + (1 : Int32)))) (xs (Int32.toNatClampNeg (i4 + (2 : Int32)))) (xs (Int32.toNatClampNeg (i4 + (3 : Int32)))) (xs (Int32.toNatClampNeg (i4 + (4 : Int32)))) (xs (Int32.toNatClampNeg (i4 + (5 : Int32)))) e190) (gzV wm_L_108 wi_X9_ahead ws_X9_ahead wn_X9 wc_X9_ahead) rfl rfl rfl (by decide +kernel) (by decide) rfl c191 rfl rfl hl.1 (Nat.le_of_ble_eq_true rfl) dL_law_1021 ⟨by show _ ≤ 601024; omega, by show _ ≤ 7293034; omega⟩ (fun H locs w => ?_)
                                    refine lv_lstore (lv' := [(6, .long q189.1), (5, .int q187.1), (0, .ref b), (1, .ref r1), (2, .ref r2), (3, .ref r3), (4, .int i4)]) hx hb dL_law_1024 hl (by decide) rfl (fun ls hl => ?_)
                                    refine lv_aload_n hx hb dL_law_1026 rfl (lv_at hl 4 rfl) ?_
                                    obtain ⟨q192, e193, hk⟩ := ok_b hk
                                    refine zVi X w (n := 0) (As := []) (rest := []) (ci := 9) (C := RX9) (T := TX9) (N := 23) (c_X9_thrown l D cy G q189.2 r2 e193) (gzV wm_L_75 wi_X9_thrown ws_X9_thrown wn_X9 wc_X9_thrown) rfl rfl rfl (by decide +kernel) (by decide) rfl c191 rfl rfl hl.1 (Nat.le_of_ble_eq_true rfl) dL_law_1027 ⟨by show _ ≤ 601024; omega, by show _ ≤ 7293034; omega⟩ (fun H locs w => ?_)
                                    refine lv_iload hx hb dL_law_1030 (lv_at hl 1 rfl) ?_
                                    refine lv_icmp_eq (tgt := 1037) hx hb dL_law_1032 (by decide) (fun c194 => ?_) (fun c194 => ?_)
                                    · have hk := ok_p c194 hk
                                      refine lv_iload hx hb dL_law_1037 (lv_at hl 1 rfl) ?_
                                      refine lv_if_ne (tgt := 1053) hx hb dL_law_1039 (by decide) (fun c195 => ?_) (fun c195 => ?_)
                                      · have hk := ok_n c195 hk
                                        refine lv_goto (tgt := 1173) hx hb dL_law_1053 (by decide) ?_
                                        refine lv_iinc (v := (i4 + 6)) (lv' := [(4, .int (i4 + 6)), (6, .long q189.1), (5, .int q187.1), (0, .ref b), (1, .ref r1), (2, .ref r2), (3, .ref r3)]) hx hb dL_law_1173 hl (k := 6) rfl rfl (by decide) rfl (fun ls hl => ?_)
                                        refine lv_goto (tgt := 23) hx hb dL_law_1176 (by decide) ?_
                                        exact hrec (i4 + 6) q189.2 _ _ (by omega) (by omega) _ _ _ w (lv_sub hl [3, 4, 5, 6, 0] rfl) hk
                                      · have hk := ok_p c195 hk
                                        refine lv_aload_n hx hb dL_law_1042 rfl (lv_at hl 5 rfl) ?_
                                        refine lv_iconst (v := 0) hx hb dL_law_1043 (by decide) ?_
                                        obtain ⟨c196, hk⟩ := ok_c hk
                                        obtain ⟨c197, hk⟩ := ok_c hk
                                        refine zal X w dL_law_1044 c196 c197 ?_
                                        refine lv_lload hx hb dL_law_1045 (lv_at hl 0 rfl) ?_
                                        refine W.lcmp hx hb dL_law_1047 ?_
                                        refine lv_if_eq (tgt := 1053) hx hb dL_law_1048 (by decide) (fun c198 => ?_) (fun c198 => ?_)
                                        · have hk := ok_p c198 hk
                                          refine lv_goto (tgt := 1173) hx hb dL_law_1053 (by decide) ?_
                                          refine lv_iinc (v := (i4 + 6)) (lv' := [(4, .int (i4 + 6)), (6, .long q189.1), (5, .int q187.1), (0, .ref b), (1, .ref r1), (2, .ref r2), (3, .ref r3)]) hx hb dL_law_1173 hl (k := 6) rfl rfl (by decide) rfl (fun ls hl => ?_)
                                          refine lv_goto (tgt := 23) hx hb dL_law_1176 (by decide) ?_
                                          exact hrec (i4 + 6) q189.2 _ _ (by omega) (by omega) _ _ _ w (lv_sub hl [3, 4, 5, 6, 0] rfl) hk
                                        · have hk := ok_n c198 hk
                                          refine lv_iconst (v := 0) hx hb dL_law_1051 (by decide) ?_
                                          exact (hR _ (ok_s hk)).elim
                                    · have hk := ok_n c194 hk
                                      refine lv_iconst (v := 0) hx hb dL_law_1035 (by decide) ?_
                                      exact (hR _ (ok_s hk)).elim
                                  · have hk := ok_n s181 hk
                                    by_cases s199 : ((xs (Int32.toNatClampNeg i4)) &&& (31 : Int32)) = 15
                                    · have hk := ok_p s199 hk
                                      refine lv_tableIn (off := 1016) (tgt := 1056) hx hb dL_law_40 (by rw [s199]; decide) (by rw [s199]; decide) (by rw [s199]; rfl) (by decide) ?_
                                      refine lv_aload_n hx hb dL_law_1056 rfl (lv_at hl 1 rfl) ?_
                                      refine lv_aload_n hx hb dL_law_1057 rfl (lv_at hl 0 rfl) ?_
                                      refine lv_iload hx hb dL_law_1058 (lv_at hl 4 rfl) ?_
                                      refine lv_iconst (v := 1) hx hb dL_law_1060 (by decide) ?_
                                      refine lv_iadd hx hb dL_law_1061 ?_
                                      obtain ⟨c200, hk⟩ := ok_c hk
                                      refine va_sld hx hb hX hbl hbA w.2.2.1 c200 dL_law_1062 ?_
                                      refine lv_aload_n hx hb dL_law_1063 rfl (lv_at hl 0 rfl) ?_
                                      refine lv_iload hx hb dL_law_1064 (lv_at hl 4 rfl) ?_
                                      refine lv_iconst (v := 2) hx hb dL_law_1066 (by decide) ?_
                                      refine lv_iadd hx hb dL_law_1067 ?_
                                      obtain ⟨c201, hk⟩ := ok_c hk
                                      refine va_sld hx hb hX hbl hbA w.2.2.1 c201 dL_law_1068 ?_
                                      refine lv_aload_n hx hb dL_law_1069 rfl (lv_at hl 3 rfl) ?_
                                      obtain ⟨q202, e203, hk⟩ := ok_b hk
                                      refine zSW X hz w (n := 4) (As := [.ref r1, .int (xs (Int32.toNatClampNeg (i4 + (1 : Int32)))), .int (xs (Int32.toNatClampNeg (i4 + (2 : Int32)))), .ref r3]) (rest := []) (c_L_narrow l hst D cy G M r1 (xs (Int32.toNatClampNeg (i4 + (1 : Int32)))) (xs (Int32.toNatClampNeg (i4 + (2 : Int32)))) r3 e203) wm_L_109 wt_L_narrow wn_L wc_L_narrow rfl rfl rfl (by decide +kernel) (by decide) rfl rfl hl.1 (Nat.le_of_ble_eq_true rfl) dL_law_1070 ⟨by show _ ≤ 601024; omega, by show _ ≤ 7293034; omega⟩ (fun H locs w => ?_)
                                      refine lv_istore (lv' := [(5, .int q202.1), (0, .ref b), (1, .ref r1), (2, .ref r2), (3, .ref r3), (4, .int i4)]) hx hb dL_law_1073 hl (by decide) rfl (fun ls hl => ?_)
                                      refine lv_aload_n hx hb dL_law_1075 rfl (lv_at hl 3 rfl) ?_
                                      refine lv_aload_n hx hb dL_law_1076 rfl (lv_at hl 1 rfl) ?_
                                      refine lv_iload hx hb dL_law_1077 (lv_at hl 5 rfl) ?_
                                      refine lv_iconst (v := 1) hx hb dL_law_1079 (by decide) ?_
                                      refine lv_iadd hx hb dL_law_1080 ?_
                                      refine va_sld hx hb hX hbl hbA w.2.2.1 c200 dL_law_1081 ?_
                                      refine lv_aload_n hx hb dL_law_1082 rfl (lv_at hl 1 rfl) ?_
                                      refine lv_iload hx hb dL_law_1083 (lv_at hl 5 rfl) ?_
                                      refine lv_iconst (v := 2) hx hb dL_law_1085 (by decide) ?_
                                      refine lv_iadd hx hb dL_law_1086 ?_
                                      refine va_sld hx hb hX hbl hbA w.2.2.1 c201 dL_law_1087 ?_
                                      obtain ⟨c206, hk⟩ := ok_c hk
                                      obtain ⟨q204, e205, hk⟩ := ok_b hk
                                      refine zVl X w (n := 2) (As := [.int (xs (Int32.toNatClampNeg (i4 + (1 : Int32)))), .int (xs (Int32.toNatClampNeg (i4 + (2 : Int32))))]) (rest := []) (ci := 9) (C := RX9) (T := TX9) (N := 23) (c_X9_narrow l D cy G q202.2 r2 (xs (Int32.toNatClampNeg (i4 + (1 : Int32)))) (xs (Int32.toNatClampNeg (i4 + (2 : Int32)))) e205) (gzV wm_L_112 wi_X9_narrow ws_X9_narrow wn_X9 wc_X9_narrow) rfl rfl rfl (by decide +kernel) (by decide) rfl c206 rfl rfl hl.1 (Nat.le_of_ble_eq_true rfl) dL_law_1088 ⟨by show _ ≤ 601024; omega, by show _ ≤ 7293034; omega⟩ (fun H locs w => ?_)
                                      refine lv_lstore (lv' := [(6, .long q204.1), (5, .int q202.1), (0, .ref b), (1, .ref r1), (2, .ref r2), (3, .ref r3), (4, .int i4)]) hx hb dL_law_1091 hl (by decide) rfl (fun ls hl => ?_)
                                      refine lv_aload_n hx hb dL_law_1093 rfl (lv_at hl 4 rfl) ?_
                                      obtain ⟨q207, e208, hk⟩ := ok_b hk
                                      refine zVi X w (n := 0) (As := []) (rest := []) (ci := 9) (C := RX9) (T := TX9) (N := 23) (c_X9_thrown l D cy G q204.2 r2 e208) (gzV wm_L_75 wi_X9_thrown ws_X9_thrown wn_X9 wc_X9_thrown) rfl rfl rfl (by decide +kernel) (by decide) rfl c206 rfl rfl hl.1 (Nat.le_of_ble_eq_true rfl) dL_law_1094 ⟨by show _ ≤ 601024; omega, by show _ ≤ 7293034; omega⟩ (fun H locs w => ?_)
                                      refine lv_iload hx hb dL_law_1097 (lv_at hl 1 rfl) ?_
                                      refine lv_icmp_eq (tgt := 1104) hx hb dL_law_1099 (by decide) (fun c209 => ?_) (fun c209 => ?_)
                                      · have hk := ok_p c209 hk
                                        refine lv_iload hx hb dL_law_1104 (lv_at hl 1 rfl) ?_
                                        refine lv_if_ne (tgt := 1120) hx hb dL_law_1106 (by decide) (fun c210 => ?_) (fun c210 => ?_)
                                        · have hk := ok_n c210 hk
                                          refine lv_goto (tgt := 1173) hx hb dL_law_1120 (by decide) ?_
                                          refine lv_iinc (v := (i4 + 6)) (lv' := [(4, .int (i4 + 6)), (6, .long q204.1), (5, .int q202.1), (0, .ref b), (1, .ref r1), (2, .ref r2), (3, .ref r3)]) hx hb dL_law_1173 hl (k := 6) rfl rfl (by decide) rfl (fun ls hl => ?_)
                                          refine lv_goto (tgt := 23) hx hb dL_law_1176 (by decide) ?_
                                          exact hrec (i4 + 6) q204.2 _ _ (by omega) (by omega) _ _ _ w (lv_sub hl [3, 4, 5, 6, 0] rfl) hk
                                        · have hk := ok_p c210 hk
                                          refine lv_aload_n hx hb dL_law_1109 rfl (lv_at hl 5 rfl) ?_
                                          refine lv_iconst (v := 0) hx hb dL_law_1110 (by decide) ?_
                                          obtain ⟨c211, hk⟩ := ok_c hk
                                          obtain ⟨c212, hk⟩ := ok_c hk
                                          refine zal X w dL_law_1111 c211 c212 ?_
                                          refine lv_lload hx hb dL_law_1112 (lv_at hl 0 rfl) ?_
                                          refine W.lcmp hx hb dL_law_1114 ?_
                                          refine lv_if_eq (tgt := 1120) hx hb dL_law_1115 (by decide) (fun c213 => ?_) (fun c213 => ?_)
                                          · have hk := ok_p c213 hk
                                            refine lv_goto (tgt := 1173) hx hb dL_law_1120 (by decide) ?_
                                            refine lv_iinc (v := (i4 + 6)) (lv' := [(4, .int (i4 + 6)), (6, .long q204.1), (5, .int q202.1), (0, .ref b), (1, .ref r1), (2, .ref r2), (3, .ref r3)]) hx hb dL_law_1173 hl (k := 6) rfl rfl (by decide) rfl (fun ls hl => ?_)
                                            refine lv_goto (tgt := 23) hx hb dL_law_1176 (by decide) ?_
                                            exact hrec (i4 + 6) q204.2 _ _ (by omega) (by omega) _ _ _ w (lv_sub hl [3, 4, 5, 6, 0] rfl) hk
                                          · have hk := ok_n c213 hk
                                            refine lv_iconst (v := 0) hx hb dL_law_1118 (by decide) ?_
                                            exact (hR _ (ok_s hk)).elim
                                      · have hk := ok_n c209 hk
                                        refine lv_iconst (v := 0) hx hb dL_law_1102 (by decide) ?_
                                        exact (hR _ (ok_s hk)).elim
                                    · have hk := ok_n s199 hk
                                      by_cases s214 : ((xs (Int32.toNatClampNeg i4)) &&& (31 : Int32)) = 16
                                      · have hk := ok_p s214 hk
                                        refine lv_tableIn (off := 1083) (tgt := 1123) hx hb dL_law_40 (by rw [s214]; decide) (by rw [s214]; decide) (by rw [s214]; rfl) (by decide) ?_
                                        refine lv_aload_n hx hb dL_law_1123 rfl (lv_at hl 1 rfl) ?_
                                        refine lv_aload_n hx hb dL_law_1124 rfl (lv_at hl 0 rfl) ?_
                                        refine lv_iload hx hb dL_law_1125 (lv_at hl 4 rfl) ?_
                                        refine lv_iconst (v := 1) hx hb dL_law_1127 (by decide) ?_
                                        refine lv_iadd hx hb dL_law_1128 ?_
                                        obtain ⟨c215, hk⟩ := ok_c hk
                                        refine va_sld hx hb hX hbl hbA w.2.2.1 c215 dL_law_1129 ?_
                                        obtain ⟨c218, hk⟩ := ok_c hk
                                        obtain ⟨q216, e217, hk⟩ := ok_b hk
                                        refine zVi X w (n := 1) (As := [.int (xs (Int32.toNatClampNeg (i4 + (1 : Int32))))]) (rest := []) (ci := 8) (C := RX8) (T := TX8) (N := 10) (c_X8_cut l D cy G M r1 (xs (Int32.toNatClampNeg (i4 + (1 : Int32)))) e217) (gzV wm_L_113 wi_X8_cut ws_X8_cut wn_X8 wc_X8_cut) rfl rfl rfl (by decide +kernel) (by decide) rfl c218 rfl rfl hl.1 (Nat.le_of_ble_eq_true rfl) dL_law_1130 ⟨by show _ ≤ 601024; omega, by show _ ≤ 7293034; omega⟩ (fun H locs w => ?_)
                                        refine lv_aload_n hx hb dL_law_1133 rfl (lv_at hl 2 rfl) ?_
                                        refine lv_aload_n hx hb dL_law_1134 rfl (lv_at hl 0 rfl) ?_
                                        refine lv_iload hx hb dL_law_1135 (lv_at hl 4 rfl) ?_
                                        refine lv_iconst (v := 1) hx hb dL_law_1137 (by decide) ?_
                                        refine lv_iadd hx hb dL_law_1138 ?_
                                        refine va_sld hx hb hX hbl hbA w.2.2.1 c215 dL_law_1139 ?_
                                        obtain ⟨c221, hk⟩ := ok_c hk
                                        obtain ⟨q219, e220, hk⟩ := ok_b hk
                                        refine zVi X w (n := 1) (As := [.int (xs (Int32.toNatClampNeg (i4 + (1 : Int32))))]) (rest := [.int q216.1]) (ci := 9) (C := RX9) (T := TX9) (N := 23) (c_X9_cut l D cy G q216.2 r2 (xs (Int32.toNatClampNeg (i4 + (1 : Int32)))) e220) (gzV wm_L_116 wi_X9_cut ws_X9_cut wn_X9 wc_X9_cut) rfl rfl rfl (by decide +kernel) (by decide) rfl c221 rfl rfl hl.1 (Nat.le_of_ble_eq_true rfl) dL_law_1140 ⟨by show _ ≤ 601024; omega, by show _ ≤ 7293034; omega⟩ (fun H locs w => ?_)
                                        refine lv_icmp_eq (tgt := 1173) hx hb dL_law_1143 (by decide) (fun c222 => ?_) (fun c222 => ?_)
                                        · have hk := ok_p c222 hk
                                          refine lv_iinc (v := (i4 + 6)) (lv' := [(4, .int (i4 + 6)), (0, .ref b), (1, .ref r1), (2, .ref r2), (3, .ref r3)]) hx hb dL_law_1173 hl (k := 4) rfl rfl (by decide) rfl (fun ls hl => ?_)
                                          refine lv_goto (tgt := 23) hx hb dL_law_1176 (by decide) ?_
                                          exact hrec (i4 + 6) q219.2 _ _ (by omega) (by omega) _ _ _ w (lv_sub hl [1, 2, 3, 4, 0] rfl) hk
                                        · have hk := ok_n c222 hk
                                          refine lv_iconst (v := 0) hx hb dL_law_1146 (by decide) ?_
                                          exact (hR _ (ok_s hk)).elim
                                      · have hk := ok_n s214 hk
                                        by_cases s223 : ((xs (Int32.toNatClampNeg i4)) &&& (31 : Int32)) = 17
                                        · have hk := ok_p s223 hk
                                          refine lv_tableIn (off := 1108) (tgt := 1148) hx hb dL_law_40 (by rw [s223]; decide) (by rw [s223]; decide) (by rw [s223]; rfl) (by decide) ?_
                                          refine lv_aload_n hx hb dL_law_1148 rfl (lv_at hl 1 rfl) ?_
                                          refine lv_aload_n hx hb dL_law_1149 rfl (lv_at hl 0 rfl) ?_
                                          refine lv_iload hx hb dL_law_1150 (lv_at hl 4 rfl) ?_
                                          refine lv_iconst (v := 1) hx hb dL_law_1152 (by decide) ?_
                                          refine lv_iadd hx hb dL_law_1153 ?_
                                          obtain ⟨c224, hk⟩ := ok_c hk
                                          refine va_sld hx hb hX hbl hbA w.2.2.1 c224 dL_law_1154 ?_
                                          obtain ⟨c227, hk⟩ := ok_c hk
                                          obtain ⟨q225, e226, hk⟩ := ok_b hk
                                          refine zVi X w (n := 1) (As := [.int (xs (Int32.toNatClampNeg (i4 + (1 : Int32))))]) (rest := []) (ci := 8) (C := RX8) (T := TX8) (N := 10) (c_X8_count l D cy G M r1 (xs (Int32.toNatClampNeg (i4 + (1 : Int32)))) e226) (gzV wm_L_117 wi_X8_count ws_X8_count wn_X8 wc_X8_count) rfl rfl rfl (by decide +kernel) (by decide) rfl c227 rfl rfl hl.1 (Nat.le_of_ble_eq_true rfl) dL_law_1155 ⟨by show _ ≤ 601024; omega, by show _ ≤ 7293034; omega⟩ (fun H locs w => ?_)
                                          refine lv_aload_n hx hb dL_law_1158 rfl (lv_at hl 2 rfl) ?_
                                          refine lv_aload_n hx hb dL_law_1159 rfl (lv_at hl 0 rfl) ?_
                                          refine lv_iload hx hb dL_law_1160 (lv_at hl 4 rfl) ?_
                                          refine lv_iconst (v := 1) hx hb dL_law_1162 (by decide) ?_
                                          refine lv_iadd hx hb dL_law_1163 ?_
                                          refine va_sld hx hb hX hbl hbA w.2.2.1 c224 dL_law_1164 ?_
                                          obtain ⟨c230, hk⟩ := ok_c hk
                                          obtain ⟨q228, e229, hk⟩ := ok_b hk
                                          refine zVi X w (n := 1) (As := [.int (xs (Int32.toNatClampNeg (i4 + (1 : Int32))))]) (rest := [.int q225]) (ci := 9) (C := RX9) (T := TX9) (N := 23) (c_X9_count l D cy G M r2 (xs (Int32.toNatClampNeg (i4 + (1 : Int32)))) e229) (gzV wm_L_120 wi_X9_count ws_X9_count wn_X9 wc_X9_count) rfl rfl rfl (by decide +kernel) (by decide) rfl c230 rfl rfl hl.1 (Nat.le_of_ble_eq_true rfl) dL_law_1165 ⟨by show _ ≤ 601024; omega, by show _ ≤ 7293034; omega⟩ (fun H locs w => ?_)
                                          refine lv_icmp_eq (tgt := 1173) hx hb dL_law_1168 (by decide) (fun c231 => ?_) (fun c231 => ?_)
                                          · have hk := ok_p c231 hk
                                            refine lv_iinc (v := (i4 + 6)) (lv' := [(4, .int (i4 + 6)), (0, .ref b), (1, .ref r1), (2, .ref r2), (3, .ref r3)]) hx hb dL_law_1173 hl (k := 4) rfl rfl (by decide) rfl (fun ls hl => ?_)
                                            refine lv_goto (tgt := 23) hx hb dL_law_1176 (by decide) ?_
                                            exact hrec (i4 + 6) q228.2 _ _ (by omega) (by omega) _ _ _ w (lv_sub hl [1, 2, 3, 4, 0] rfl) hk
                                          · have hk := ok_n c231 hk
                                            refine lv_iconst (v := 0) hx hb dL_law_1171 (by decide) ?_
                                            exact (hR _ (ok_s hk)).elim
                                        · have hk := ok_n s223 hk
                                          refine lv_tableOut (tgt := 1173) hx hb dL_law_40 (by have h0 := sw_ne (k := 0) (by decide) s3; have h1 := sw_ne (k := 1) (by decide) s16; have h2 := sw_ne (k := 2) (by decide) s25; have h3 := sw_ne (k := 3) (by decide) s36; have h4 := sw_ne (k := 4) (by decide) s46; have h5 := sw_ne (k := 5) (by decide) s56; have h6 := sw_ne (k := 6) (by decide) s66; have h7 := sw_ne (k := 7) (by decide) s80; have h8 := sw_ne (k := 8) (by decide) s90; have h9 := sw_ne (k := 9) (by decide) s101; have h10 := sw_ne (k := 10) (by decide) s119; have h11 := sw_ne (k := 11) (by decide) s137; have h12 := sw_ne (k := 12) (by decide) s148; have h13 := sw_ne (k := 13) (by decide) s164; have h14 := sw_ne (k := 14) (by decide) s181; have h15 := sw_ne (k := 15) (by decide) s199; have h16 := sw_ne (k := 16) (by decide) s214; have h17 := sw_ne (k := 17) (by decide) s223; omega) (by decide) ?_
                                          refine lv_iinc (v := (i4 + 6)) (lv' := [(4, .int (i4 + 6)), (0, .ref b), (1, .ref r1), (2, .ref r2), (3, .ref r3)]) hx hb dL_law_1173 hl (k := 4) rfl rfl (by decide) rfl (fun ls hl => ?_)
                                          refine lv_goto (tgt := 23) hx hb dL_law_1176 (by decide) ?_
                                          exact hrec (i4 + 6) M _ _ (by omega) (by omega) _ _ _ w (lv_sub hl [1, 2, 3, 4, 0] rfl) hk
theorem wl_law {p : Program} {l : Launch} {e : Env} {s : State} {m : MethodId} {below : List Frame} {meth : Method} {c : Code} {D : va_G} {cy : Cyy} {A : Nat → Prop} {G : Gg} {b L : Nat} {xs : Nat → Int32} {w0 : Cond} (X : Cx p m c cL_law 8 s #[Value.ref b] (w0 :: TBL) RL D cy) (hst : l.stackTraces = false) (hz : ZQ A s) (hX : va_X b L xs s s.heap) (hbl : b < s.heap.size) (hbA : ¬ A b) {Q : State → Prop} (r1 r2 r3 : Nat) (Qo : Int32 ⊕ Mm → Prop) (hR : ∀ x, Qo (.inl x) → False) (hE : ∀ (M : Mm), Qo (.inr M) → ∀ (cs sl : Nat), cs ≤ 601024 → sl ≤ 7293034 → ∀ (H : Heap) (locs : List Loc) (ls : Array Slot), Wo s D cy A G M H locs → W p l e room_1 s m #[Value.ref b] below meth c H locs cs sl Q (F0 m 1179 ls [])) : ∀ (nn : Nat) (i4 : Int32) (M : Mm) (cs sl : Nat), cs + nn ≤ 601024 → sl + 6 * nn ≤ 7293034 → ∀ (H : Heap) (locs : List Loc) (ls : Array Slot), Wo s D cy A G M H locs → lv_has ls 8 [(0, .ref b), (1, .ref r1), (2, .ref r2), (3, .ref r3), (4, .int i4)] → OK (lp_law G L xs r1 r2 r3 nn i4 M) Qo → W p l e room_1 s m #[Value.ref b] below meth c H locs cs sl Q (F0 m 23 ls []) := by
  intro nn
  induction nn with
  | zero => intro i4 M cs sl hc hs H locs ls w hl hk; exact ok_0 hk
  | succ n ih => intro i4 M cs sl hc hs H locs ls w hl hk; exact wb_law X hst hz hX hbl hbA r1 r2 r3 Qo hR hE n (lp_law G L xs r1 r2 r3 n) ih i4 M cs sl hc hs H locs ls w hl hk
