/-! the law's helpers: a static method that calls one that may throw, and catches it -/
def CH (l : Launch) (y : MethodName) (ws : List Cond) (rm : Room) (D : va_G) (cy : Cyy) (G : Gg) (M : Mm) (av : List Value) (r : Int32) (M1 : Mm) : Prop := ∀ sz : Nat, Met l y ws rm (PreX D cy G M av sz) (QI D cy G (PA cy G M sz) r M1) 1 6 (PA cy G M sz)
theorem CH_of {l : Launch} {y : MethodName} {ws ws' : List Cond} {rm : Room} {cc : ByteArray} {nL : Nat} {ret : Option FieldType} {hh : List (Nat × Nat × Nat × Nat)} {own : String} {D : va_G} {cy : Cyy} {G : Gg} {M M1 : Mm} {r : Int32} {av : List Value} {lv : List (Nat × Value)} (hy : plainName y.cls = true) (hw : ws = Cond.codeWith y cc nL ret hh :: ws') (ho : y.cls = own) (hn : (lg_sl av).length ≤ nL) (hlv : lv_args 0 av = lv)
    (body : ∀ (p : Program) (e : Env) (s : State) (m : MethodId) (args : Array Value) (below : List Frame) (meth : Method) (c : Code) (A : Nat → Prop) (ls : Array Slot), Cx p m c cc nL s args ws own D cy → meth.sig.returnType = ret → meth.locks = false → ZQ A s → c.exceptionTable.toList = tableOf hh → Wo s D cy A G M s.heap [] → lv_has ls nL lv → W p l e rm s m args below meth c s.heap [] 0 0 (MQ below (QI D cy G A r M1) args s 1 6 A) (F0 m 0 ls [])) :
    CH l y ws rm D cy G M av r M1 := by
  intro sz
  refine va_MetW (hh := hh) (cc := cc) (maxL := nL) (ret := ret) hy hw ?_
  intro p e s m args below meth c s₁ B hml hv
  obtain ⟨rfl, hsz, hN, hK, hP, hD0, hz⟩ := hv
  have hts := atoms_spec (ws := ws) B.pre
  have htab : c.exceptionTable.toList = tableOf hh := vx_table (x := y) B (hts _ (by rw [hw]; exact List.mem_cons_self))
  have hown : s.vm.findClass y.cls = some m.cls := findClass_of_methodNamed B.named
  rw [ho] at hown
  subst hsz
  have hl := lv_entry av (n := nL) hn
  rw [lg_entry_eq]
  generalize (lg_sl av ++ List.replicate (nL - (lg_sl av).length) Slot.unset).toArray = ls at hl ⊢
  rw [hlv] at hl
  exact body p e s m av.toArray below meth c (PA cy G M s.heap.size) ls ⟨⟨B.exec, B.bytes, hml, hown, hts⟩, hK, hN⟩ B.returns B.notSynchronized hz htab ⟨hP, hD0.self, va_S.rf, fun q h => Or.inr h⟩ hl
theorem gzW {w0 w1 : Cond} {own : String} {ix : Nat} {y : MethodName} (h1 : Cond.methodLink own ix y ∈ TBL) (h2 : Cond.static y ∈ TBL) (h4 : Cond.initialized y.cls ∈ TBL) (h : w1 ∈ TBL) : GoodIn (w0 :: TBL) (va_wsS own ix y (w1 :: TBL)) := by
  refine goodIn_app (fun w hw => ?_) (fun w hw => ?_)
  · simp only [List.mem_cons, List.not_mem_nil, or_false] at hw
    rcases hw with rfl | rfl | rfl
    · exact ⟨tb h1, good_of_word (tb_g h1)⟩
    · exact ⟨tb h2, good_of_word (tb_g h2)⟩
    · exact ⟨tb h4, good_of_word (tb_g h4)⟩
  · rcases List.mem_cons.mp hw with rfl | hw
    · exact ⟨tb h, good_of_word (tb_g h)⟩
    · exact ⟨tb hw, good_of_word (tb_g hw)⟩
theorem wl_L_13' : Cond.classLink RL 13 nse ∈ TBL := by decide +kernel
theorem wcast : Cond.castable nse nse ∈ nwL := by decide +kernel
section ROWS
variable {p : Program} {l : Launch} {e : Env} {R : Room} {s : State} {m : MethodId} {args : Array Value} {below : List Frame} {meth : Method} {c : Code} {H : Heap} {locs : List Loc} {cells slots : Nat} {Q : State → Prop}
variable {cc : ByteArray} {nL pc : Nat} {ls : Array Slot} {rest : List Value} {D : va_G} {cy : Cyy} {A : Nat → Prop} {G : Gg} {M : Mm} {C : String} {T : u_T} {N : Nat} {w0 : Cond}
theorem zVc (X : Cx p m c cc nL s args (w0 :: TBL) RL D cy) (hlk : meth.locks = false) (hz : ZQ A s) (w : Wo s D cy A G M H locs) {y : MethodName} {ws ws' : List Cond} {rm : Room} {cb : ByteArray} {mL n index : Nat} {ret : Option FieldType} {As st : List Value} {b ci : Nat} {M1 : Mm} (hM : XT l y ws rm D cy G M (.ref b :: As) M1) (hg : GoodIn (w0 :: TBL) (wsV RL index C y ws)) (hw : ws = Cond.code y cb mL ret :: ws') (hrc : rm.cells = 1) (hrs : rm.slots = 6) (hd0 : y.cls = C ∧ y.cls ≠ "java/lang/invoke/MethodHandle" ∧ y.cls ≠ "java/lang/invoke/VarHandle" ∧ (parseMethodDescriptor y.desc).map (fun d => d.parameters.length) = some n) (hR : rm.frames + 1 ≤ R.frames ∧ 8 + (mL + 11) + rm.locals ≤ R.locals) (hc : vwCl[ci]? = some (C, T, N)) (hbk : isK G b ci) (hn : As.length = n) (hst : st = As.reverse ++ .ref b :: rest) (hls : ls.size = nL) (hrm : (rest.map fun v => v.category).sum ≤ 8) (hd : decode cc pc = .ok (.invokevirtual index, 3)) (hcs : 1 ≤ R.cells ∧ 6 ≤ R.slots)
    {a1 a2 a3 : Nat} (htab : c.exceptionTable.toList = tableOf [(a1, a2, a3, 13)]) (hcov : a1 ≤ pc ∧ pc < a2) {tgt : Nat} (htg : a3 = tgt)
    (kk : ∀ (q9 : Nat) (H : Heap) (locs : List Loc), Wo s D cy A G M1 H locs → W p l e R s m args below meth c H locs 1 6 Q (F0 m tgt ls [.ref q9])) :
    W p l e R s m args below meth c H locs 0 0 Q (F0 m pc ls st) := by
  subst htg
  have hF := wo_free w
  obtain ⟨⟨hx, hb, hml, hown, hts⟩, hK, hN⟩ := X
  obtain ⟨hP, hD, hS, hA⟩ := w
  obtain ⟨q0, -, hq⟩ := pw_get hbk.1 (ce_o (M := M) (cy := cy) hbk.2 (cl_lt hc))
  intro T0 hT X0
  rcases vx_runV (As := As) (rest := rest) (g := F0 m pc ls st) (cells := 0) (slots := 0) ⟨hx, hb, hml, hown, hts⟩ (hM H.size) (cwV n hts hg hw hrc hrs hd0 hR) ⟨prex_blind, va_recv hK hP hc hq, fun U hU hW => ⟨rfl, by rw [hU], hN.warm hW, va_K.moved hW.alike hK, by rw [hU]; exact hP, hD.weaken (fun _ _ _ _ => trivial), zq_at hz hS hU hW.alike hF⟩⟩ rfl hn hls hst (lv_room hrm) hd (by omega) T0 hT X0 with ⟨v, st₀, t, T', L, h0, X', hL, e1, e2, hq, st⟩ | ⟨q, st₀, t, T', L, E, ce, h0, X', hL, e1, e2, ⟨u, hp, hb1, hF1⟩, hce, hcv, hcl, st⟩
  · exact hq.elim
  · subst hp
    obtain ⟨rfl, hP1, hK1, hD1⟩ := hb1
    obtain ⟨k1, k2, k3⟩ := vx_keep h0 e1 hS (fun q _ h => hF q h) hF hL hF1
    obtain ⟨t2, b1, b2⟩ := vx_catch (own := RL) (name := nse) (E := nse) (ce := ce) (q := q) (H := T'.heap) (pc := pc) (ls := ls) (rest := rest) (Q := Q) hown [] ⟨a1, a2, a3, 13⟩ [] htab (fun z h => by cases h) (by simp only [covers, decide_eq_true_eq, Bool.and_eq_true]; exact hcov) (show (13 : Nat) ≠ 0 by decide) (hts _ (tb wl_L_13')) (hN.use wcast) (by rw [e1]; exact hce) hcv hcl (kk q T'.heap _ ⟨by rw [e1]; exact hP1, hD1.weaken (fun k q _ h => hF q.1 h), k3, hA⟩) T' rfl X'
    exact ⟨t2, st.trans b1, b2⟩
theorem zSW (X : Cx p m c cc nL s args (w0 :: TBL) RL D cy) (hz : ZQ A s) (w : Wo s D cy A G M H locs) {y : MethodName} {ws : List Cond} {rm : Room} {cb : ByteArray} {mL n index : Nat} {ret : Option FieldType} {hh : List (Nat × Nat × Nat × Nat)} {As st : List Value} {r : Int32} {M1 : Mm} (hM : CH l y ws rm D cy G M As r M1) (h1 : Cond.methodLink RL index y ∈ TBL) (h2 : Cond.static y ∈ TBL) (h4 : Cond.initialized y.cls ∈ TBL) (h : Cond.codeWith y cb mL ret hh ∈ TBL) (hw : ws = Cond.codeWith y cb mL ret hh :: TBL) (hrc : rm.cells = 1) (hrs : rm.slots = 6) (hd0 : y.cls ≠ "java/lang/invoke/MethodHandle" ∧ y.cls ≠ "java/lang/invoke/VarHandle" ∧ (parseMethodDescriptor y.desc).map (fun d => d.parameters.length) = some n) (hR : rm.frames + 1 ≤ R.frames ∧ 8 + (mL + 11) + rm.locals ≤ R.locals) (hn : As.length = n) (hst : st = As.reverse ++ rest) (hls : ls.size = nL) (hrm : (rest.map fun v => v.category).sum ≤ 8) (hd : decode cc pc = .ok (.invokestatic index, 3)) (hcs : cells + 1 ≤ R.cells ∧ slots + 6 ≤ R.slots)
    (kk : ∀ (H : Heap) (locs : List Loc), Wo s D cy A G M1 H locs → W p l e R s m args below meth c H locs (cells + 1) (slots + 6) Q (F0 m (pc + 3) ls (.int r :: rest))) : W p l e R s m args below meth c H locs cells slots Q (F0 m pc ls st) := by
  have hF := wo_free w
  obtain ⟨⟨hx, hb, hml, hown, hts⟩, hK, hN⟩ := X
  obtain ⟨hP, hD, hS, hA⟩ := w
  have hg : GoodIn (w0 :: TBL) (va_wsS RL index y ws) := by rw [hw]; exact gzW h1 h2 h4 h
  refine va_calli (vx_runSW (As := As) (rest := rest) ⟨hx, hb, hml, hown, hts⟩ (hM H.size) (vx_cwSW n hts hg hw hrc hrs hd0 hR) ⟨prex_blind, fun U hU hW => ⟨rfl, by rw [hU], hN.warm hW, va_K.moved hW.alike hK, by rw [hU]; exact hP, hD.weaken (fun _ _ _ _ => trivial), zq_at hz hS hU hW.alike hF⟩⟩ rfl hn hls hst (lv_room hrm) hd hcs) hS (fun q _ h => hF q h) hF (fun r' u t H1 locs1 ht hvm hp hB hz1 hk1 hS1 => ?_)
  obtain ⟨rfl, rfl⟩ := hp
  obtain ⟨hP1, hK1, hD1⟩ := hB
  rw [ht] at hP1
  exact kk H1 locs1 ⟨hP1, hD1.weaken (fun k q _ h => hF q.1 h), hS1, hA⟩
end ROWS
theorem wm_L_7 : Cond.methodLink RL 7 yX8_octet ∈ TBL := tb_t 550 (by decide +kernel) (by decide +kernel)
theorem wm_L_15 : Cond.methodLink RL 15 yX8_chance ∈ TBL := tb_t 618 (by decide +kernel) (by decide +kernel)
theorem wm_L_19 : Cond.methodLink RL 19 yX8_apart ∈ TBL := tb_t 647 (by decide +kernel) (by decide +kernel)
theorem wm_L_22 : Cond.methodLink RL 22 yX8_stay ∈ TBL := tb_t 658 (by decide +kernel) (by decide +kernel)
theorem wm_L_26 : Cond.methodLink RL 26 yX8_steps ∈ TBL := tb_t 665 (by decide +kernel) (by decide +kernel)
theorem wm_L_30 : Cond.methodLink RL 30 yX8_ahead ∈ TBL := tb_t 700 (by decide +kernel) (by decide +kernel)
theorem wm_L_33 : Cond.methodLink RL 33 yX8_narrow ∈ TBL := tb_t 715 (by decide +kernel) (by decide +kernel)
theorem wm_L_37 : Cond.methodLink RL 37 yX8_init ∈ TBL := tb_t 20 (by decide +kernel) (by decide +kernel)
theorem wm_L_40 : Cond.methodLink RL 40 yX9_init ∈ TBL := tb_t 721 (by decide +kernel) (by decide +kernel)
theorem wm_L_41 : Cond.methodLink RL 41 yX8_feed ∈ TBL := tb_t 223 (by decide +kernel) (by decide +kernel)
theorem wm_L_45 : Cond.methodLink RL 45 yX9_feed ∈ TBL := tb_t 799 (by decide +kernel) (by decide +kernel)
theorem wm_L_46 : Cond.methodLink RL 46 yX8_end ∈ TBL := tb_t 235 (by decide +kernel) (by decide +kernel)
theorem wm_L_50 : Cond.methodLink RL 50 yX9_end ∈ TBL := tb_t 807 (by decide +kernel) (by decide +kernel)
theorem wm_L_51 : Cond.methodLink RL 51 yX8_sheet ∈ TBL := tb_t 243 (by decide +kernel) (by decide +kernel)
theorem wm_L_55 : Cond.methodLink RL 55 yX9_sheet ∈ TBL := tb_t 811 (by decide +kernel) (by decide +kernel)
theorem wm_L_56 : Cond.methodLink RL 56 yX8_lazy ∈ TBL := tb_t 348 (by decide +kernel) (by decide +kernel)
theorem wm_L_60 : Cond.methodLink RL 60 yX9_lazy ∈ TBL := tb_t 833 (by decide +kernel) (by decide +kernel)
theorem wm_L_61 : Cond.methodLink RL 61 yX8_back ∈ TBL := tb_t 360 (by decide +kernel) (by decide +kernel)
theorem wm_L_64 : Cond.methodLink RL 64 yX9_back ∈ TBL := tb_t 841 (by decide +kernel) (by decide +kernel)
theorem wm_L_65 : Cond.methodLink RL 65 yX8_melt ∈ TBL := tb_t 390 (by decide +kernel) (by decide +kernel)
theorem wm_L_68 : Cond.methodLink RL 68 yX9_melt ∈ TBL := tb_t 887 (by decide +kernel) (by decide +kernel)
theorem wm_L_69 : Cond.methodLink RL 69 yL_octet ∈ TBL := tb_t 546 (by decide +kernel) (by decide +kernel)
theorem wm_L_74 : Cond.methodLink RL 74 yX9_octet ∈ TBL := tb_t 899 (by decide +kernel) (by decide +kernel)
theorem wm_L_75 : Cond.methodLink RL 75 yX9_thrown ∈ TBL := tb_t 795 (by decide +kernel) (by decide +kernel)
theorem wm_L_79 : Cond.methodLink RL 79 yX8_about ∈ TBL := tb_t 435 (by decide +kernel) (by decide +kernel)
theorem wm_L_82 : Cond.methodLink RL 82 yX9_about ∈ TBL := tb_t 907 (by decide +kernel) (by decide +kernel)
theorem wm_L_83 : Cond.methodLink RL 83 yX8_state ∈ TBL := tb_t 463 (by decide +kernel) (by decide +kernel)
theorem wm_L_86 : Cond.methodLink RL 86 yX9_state ∈ TBL := tb_t 928 (by decide +kernel) (by decide +kernel)
theorem wm_L_87 : Cond.methodLink RL 87 yL_chance ∈ TBL := tb_t 615 (by decide +kernel) (by decide +kernel)
theorem wm_L_90 : Cond.methodLink RL 90 yX9_chance ∈ TBL := tb_t 936 (by decide +kernel) (by decide +kernel)
theorem wm_L_91 : Cond.methodLink RL 91 yL_apart ∈ TBL := tb_t 644 (by decide +kernel) (by decide +kernel)
theorem wm_L_93 : Cond.methodLink RL 93 yX9_apart ∈ TBL := tb_t 959 (by decide +kernel) (by decide +kernel)
theorem wm_L_94 : Cond.methodLink RL 94 yX8_when ∈ TBL := tb_t 474 (by decide +kernel) (by decide +kernel)
theorem wm_L_97 : Cond.methodLink RL 97 yX9_when ∈ TBL := tb_t 971 (by decide +kernel) (by decide +kernel)
theorem wm_L_98 : Cond.methodLink RL 98 yL_stay ∈ TBL := tb_t 655 (by decide +kernel) (by decide +kernel)
theorem wm_L_101 : Cond.methodLink RL 101 yX9_stay ∈ TBL := tb_t 975 (by decide +kernel) (by decide +kernel)
theorem wm_L_102 : Cond.methodLink RL 102 yL_steps ∈ TBL := tb_t 662 (by decide +kernel) (by decide +kernel)
theorem wm_L_105 : Cond.methodLink RL 105 yX9_steps ∈ TBL := tb_t 987 (by decide +kernel) (by decide +kernel)
theorem wm_L_106 : Cond.methodLink RL 106 yL_ahead ∈ TBL := tb_t 697 (by decide +kernel) (by decide +kernel)
theorem wm_L_108 : Cond.methodLink RL 108 yX9_ahead ∈ TBL := tb_t 999 (by decide +kernel) (by decide +kernel)
theorem wm_L_109 : Cond.methodLink RL 109 yL_narrow ∈ TBL := tb_t 712 (by decide +kernel) (by decide +kernel)
theorem wm_L_112 : Cond.methodLink RL 112 yX9_narrow ∈ TBL := tb_t 1007 (by decide +kernel) (by decide +kernel)
theorem wm_L_113 : Cond.methodLink RL 113 yX8_cut ∈ TBL := tb_t 513 (by decide +kernel) (by decide +kernel)
theorem wm_L_116 : Cond.methodLink RL 116 yX9_cut ∈ TBL := tb_t 1018 (by decide +kernel) (by decide +kernel)
theorem wm_L_117 : Cond.methodLink RL 117 yX8_count ∈ TBL := tb_t 538 (by decide +kernel) (by decide +kernel)
theorem wm_L_120 : Cond.methodLink RL 120 yX9_count ∈ TBL := tb_t 1022 (by decide +kernel) (by decide +kernel)
theorem wt_L_octet : Cond.static yL_octet ∈ TBL := tb_t 547 (by decide +kernel) (by decide +kernel)
theorem wc_L_octet : Cond.codeWith yL_octet cL_octet 4 (some .int) [(0, 9, 12, 13)] ∈ TBL := tb_t 548 (by decide +kernel) (by decide +kernel)
abbrev wz_L_octet : List Cond := Cond.codeWith yL_octet cL_octet 4 (some .int) [(0, 9, 12, 13)] :: TBL
theorem wt_L_chance : Cond.static yL_chance ∈ TBL := tb_t 616 (by decide +kernel) (by decide +kernel)
theorem wc_L_chance : Cond.codeWith yL_chance cL_chance 8 (some .int) [(0, 15, 18, 13)] ∈ TBL := tb_t 617 (by decide +kernel) (by decide +kernel)
abbrev wz_L_chance : List Cond := Cond.codeWith yL_chance cL_chance 8 (some .int) [(0, 15, 18, 13)] :: TBL
theorem wt_L_apart : Cond.static yL_apart ∈ TBL := tb_t 645 (by decide +kernel) (by decide +kernel)
theorem wc_L_apart : Cond.codeWith yL_apart cL_apart 8 (some .int) [(0, 15, 18, 13)] ∈ TBL := tb_t 646 (by decide +kernel) (by decide +kernel)
abbrev wz_L_apart : List Cond := Cond.codeWith yL_apart cL_apart 8 (some .int) [(0, 15, 18, 13)] :: TBL
theorem wt_L_stay : Cond.static yL_stay ∈ TBL := tb_t 656 (by decide +kernel) (by decide +kernel)
theorem wc_L_stay : Cond.codeWith yL_stay cL_stay 6 (some .int) [(0, 11, 14, 13)] ∈ TBL := tb_t 657 (by decide +kernel) (by decide +kernel)
abbrev wz_L_stay : List Cond := Cond.codeWith yL_stay cL_stay 6 (some .int) [(0, 11, 14, 13)] :: TBL
theorem wt_L_steps : Cond.static yL_steps ∈ TBL := tb_t 663 (by decide +kernel) (by decide +kernel)
theorem wc_L_steps : Cond.codeWith yL_steps cL_steps 7 (some .int) [(0, 13, 16, 13)] ∈ TBL := tb_t 664 (by decide +kernel) (by decide +kernel)
abbrev wz_L_steps : List Cond := Cond.codeWith yL_steps cL_steps 7 (some .int) [(0, 13, 16, 13)] :: TBL
theorem wt_L_ahead : Cond.static yL_ahead ∈ TBL := tb_t 698 (by decide +kernel) (by decide +kernel)
theorem wc_L_ahead : Cond.codeWith yL_ahead cL_ahead 8 (some .int) [(0, 15, 18, 13)] ∈ TBL := tb_t 699 (by decide +kernel) (by decide +kernel)
abbrev wz_L_ahead : List Cond := Cond.codeWith yL_ahead cL_ahead 8 (some .int) [(0, 15, 18, 13)] :: TBL
theorem wt_L_narrow : Cond.static yL_narrow ∈ TBL := tb_t 713 (by decide +kernel) (by decide +kernel)
theorem wc_L_narrow : Cond.codeWith yL_narrow cL_narrow 5 (some .int) [(0, 9, 12, 13)] ∈ TBL := tb_t 714 (by decide +kernel) (by decide +kernel)
abbrev wz_L_narrow : List Cond := Cond.codeWith yL_narrow cL_narrow 5 (some .int) [(0, 9, 12, 13)] :: TBL
theorem wn_L : Cond.initialized RL ∈ TBL := tb_t 0 (by decide +kernel) (by decide +kernel)
theorem wl_L_13 : Cond.classLink RL 13 nse ∈ TBL := tb_t 549 (by decide +kernel) (by decide +kernel)
theorem wl_L_8 : Cond.classLink RL 8 RX8 ∈ TBL := tb_t 18 (by decide +kernel) (by decide +kernel)
theorem wl_L_38 : Cond.classLink RL 38 RX9 ∈ TBL := tb_t 719 (by decide +kernel) (by decide +kernel)
theorem wq_X8 : Cond.instantiable RX8 10 ∈ TBL := by decide +kernel
theorem wq_X9 : Cond.instantiable RX9 23 ∈ TBL := by decide +kernel
