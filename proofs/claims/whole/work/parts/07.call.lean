/-! contracts over the memory: from the memory M a method comes back with an answer and the memory M1 -/
abbrev Pre (D : va_G) (cy : Cyy) (G : Gg) (M : Mm) (av : List Value) (sz : Nat) : Array Value → State → Prop := va_Pc av (fun U => U.heap.size = sz ∧ NW U ∧ va_K D vwCl (tyc cy) U ∧ va_P D vwCl (pw cy G M) U.heap ∧ va_D (fun _ => True) (pw cy G M))
abbrev PA (cy : Cyy) (G : Gg) (M : Mm) (sz : Nat) : Nat → Prop := va_A (pw cy G M) sz
def Pow (D : va_G) (cy : Cyy) (G : Gg) (A : Nat → Prop) (u : Mm) (t : State) : Prop := va_P D vwCl (pw cy G u) t.heap ∧ va_K D vwCl (tyc cy) t ∧ va_D A (pw cy G u)
abbrev QI (D : va_G) (cy : Cyy) (G : Gg) (A : Nat → Prop) (r : Int32) (M1 : Mm) : Array Value → State → Outcome → State → Prop := va_Qi (fun (r' : Int32) (u : Mm) => r' = r ∧ u = M1) (Pow D cy G A) A
abbrev QL (D : va_G) (cy : Cyy) (G : Gg) (A : Nat → Prop) (r : Int64) (M1 : Mm) : Array Value → State → Outcome → State → Prop := va_Ql (fun (r' : Int64) (u : Mm) => r' = r ∧ u = M1) (Pow D cy G A) A
abbrev QV (D : va_G) (cy : Cyy) (G : Gg) (A : Nat → Prop) (M1 : Mm) : Array Value → State → Outcome → State → Prop := va_Qv (fun (u : Mm) => u = M1) (Pow D cy G A) A
abbrev QP (D : va_G) (cy : Cyy) (G : Gg) (A : Nat → Prop) (r : Option Nat) (M1 : Mm) : Array Value → State → Outcome → State → Prop := va_Qq (fun (r' : Option Nat) (u : Mm) => r' = r ∧ u = M1) (Pow D cy G A) A
def CI (l : Launch) (y : MethodName) (ws : List Cond) (rm : Room) (D : va_G) (cy : Cyy) (G : Gg) (M : Mm) (av : List Value) (r : Int32) (M1 : Mm) : Prop := ∀ sz : Nat, Met l y ws rm (Pre D cy G M av sz) (QI D cy G (PA cy G M sz) r M1) 0 0 (PA cy G M sz)
def CL (l : Launch) (y : MethodName) (ws : List Cond) (rm : Room) (D : va_G) (cy : Cyy) (G : Gg) (M : Mm) (av : List Value) (r : Int64) (M1 : Mm) : Prop := ∀ sz : Nat, Met l y ws rm (Pre D cy G M av sz) (QL D cy G (PA cy G M sz) r M1) 0 0 (PA cy G M sz)
def CV (l : Launch) (y : MethodName) (ws : List Cond) (rm : Room) (D : va_G) (cy : Cyy) (G : Gg) (M : Mm) (av : List Value) (M1 : Mm) : Prop := ∀ sz : Nat, Met l y ws rm (Pre D cy G M av sz) (QV D cy G (PA cy G M sz) M1) 0 0 (PA cy G M sz)
def CP (l : Launch) (y : MethodName) (ws : List Cond) (rm : Room) (D : va_G) (cy : Cyy) (G : Gg) (M : Mm) (av : List Value) (r : Option Nat) (M1 : Mm) : Prop := ∀ sz : Nat, Met l y ws rm (Pre D cy G M av sz) (QP D cy G (PA cy G M sz) r M1) 0 0 (PA cy G M sz)
theorem pre_blind {D : va_G} {cy : Cyy} {G : Gg} {M : Mm} {av : List Value} {sz : Nat} : FrameBlind (Pre D cy G M av sz) := fun a U g mk q => by
  obtain ⟨q0, q1, q2, qK, qP, qD⟩ := q
  exact ⟨q0, q1, q2.same rfl, va_K.moved (u := U) (U := U.calling g mk a) (Vm.Alike.refl U.vm) qK, qP, qD⟩
theorem Met_of {l : Launch} {y : MethodName} {ws ws' : List Cond} {rm : Room} {cc : ByteArray} {nL : Nat} {ret : Option FieldType} {own : String} {D : va_G} {cy : Cyy} {G : Gg} {M : Mm} {av : List Value} {lv : List (Nat × Value)} {Qf : (Nat → Prop) → Array Value → State → Outcome → State → Prop} (hy : plainName y.cls = true) (hw : ws = Cond.code y cc nL ret :: ws') (ho : y.cls = own) (hn : (lg_sl av).length ≤ nL) (hlv : lv_args 0 av = lv)
    (body : ∀ (p : Program) (e : Env) (s : State) (m : MethodId) (args : Array Value) (below : List Frame) (meth : Method) (c : Code) (A : Nat → Prop) (ls : Array Slot), Cx p m c cc nL s args ws own D cy → meth.sig.returnType = ret → meth.locks = false → Wo s D cy A G M s.heap [] → lv_has ls nL lv → W p l e rm s m args below meth c s.heap [] 0 0 (MQ below (Qf A) args s 0 0 A) (F0 m 0 ls [])) :
    ∀ sz : Nat, Met l y ws rm (Pre D cy G M av sz) (Qf (PA cy G M sz)) 0 0 (PA cy G M sz) := by
  intro sz
  refine Met.ofW (cc := cc) (maxL := nL) (ret := ret) hy hw ?_
  intro p e s m args below meth c s₁ B hml hv
  obtain ⟨rfl, hsz, hN, hK, hP, hD0⟩ := hv
  have hts := atoms_spec (ws := ws) B.pre
  have hown : s.vm.findClass y.cls = some m.cls := findClass_of_methodNamed B.named
  rw [ho] at hown
  subst hsz
  have hl := lv_entry av (n := nL) hn
  rw [lg_entry_eq]
  generalize (lg_sl av ++ List.replicate (nL - (lg_sl av).length) Slot.unset).toArray = ls at hl ⊢
  rw [hlv] at hl
  exact body p e s m av.toArray below meth c (PA cy G M s.heap.size) ls ⟨⟨B.exec, B.bytes, hml, hown, hts⟩, hK, hN⟩ B.returns B.notSynchronized ⟨hP, hD0.self, va_S.rf, fun q h => Or.inr h⟩ hl
section ROWS
variable {p : Program} {l : Launch} {e : Env} {R : Room} {s : State} {m : MethodId} {args : Array Value} {below : List Frame} {meth : Method} {c : Code} {H : Heap} {locs : List Loc} {cells slots : Nat} {Q : State → Prop}
variable {cc : ByteArray} {nL pc : Nat} {ls : Array Slot} {rest : List Value} {D : va_G} {cy : Cyy} {A : Nat → Prop} {own : String} {Ts : List Cond} {G : Gg} {M : Mm} {C : String} {T : u_T} {N : Nat}
theorem wo_free (w : Wo s D cy A G M H locs) : ∀ q, PA cy G M H.size q → A q := by
  obtain ⟨hP, hD, hS, hA⟩ := w
  intro q h
  rcases h with ⟨k, e, h⟩ | h
  · exact hD.2 k (q, e) h
  · exact hA q (Nat.le_trans hS.1 h)
/-- the ends -/
theorem zri (X : Cx p m c cc nL s args Ts own D cy) (hr : meth.sig.returnType = some .int) (hlk : meth.locks = false) (w : Wo s D cy A G M H locs) {r0 v : Int32} {M0 : Mm} (hd : decode cc pc = .ok (.ireturn, 1)) (h1 : v = r0) (h2 : M = M0) : W p l e R s m args below meth c H locs cells slots (MQ below (QI D cy G A r0 M0) args s cells slots A) (F0 m pc ls [.int v]) := by
  subst h1; subst h2
  obtain ⟨⟨hx, hb, hml, hown, hts⟩, hK, hN⟩ := X
  obtain ⟨hP, hD, hS, hA⟩ := w
  exact W.iret hx hb hr (fun t ht hW => ⟨⟨v, M, rfl, ⟨rfl, rfl⟩, by rw [ht]; exact hP, va_K.moved hW.alike hK, hD⟩, hS.F ht⟩) hS.2.2 hd hlk
theorem zrz (X : Cx p m c cc nL s args Ts own D cy) (hr : meth.sig.returnType = some .boolean) (hlk : meth.locks = false) (w : Wo s D cy A G M H locs) {r0 v : Int32} {M0 : Mm} (hd : decode cc pc = .ok (.ireturn, 1)) (hv : v &&& 1 = v) (h1 : v = r0) (h2 : M = M0) : W p l e R s m args below meth c H locs cells slots (MQ below (QI D cy G A r0 M0) args s cells slots A) (F0 m pc ls [.int v]) := by
  subst h1; subst h2
  obtain ⟨⟨hx, hb, hml, hown, hts⟩, hK, hN⟩ := X
  obtain ⟨hP, hD, hS, hA⟩ := w
  exact W.zret hx hb hr (by show Value.int _ = _; rw [hv]) (fun t ht hW => ⟨⟨v, M, rfl, ⟨rfl, rfl⟩, by rw [ht]; exact hP, va_K.moved hW.alike hK, hD⟩, hS.F ht⟩) hS.2.2 hd hlk
theorem zrl (X : Cx p m c cc nL s args Ts own D cy) (hr : meth.sig.returnType = some .long) (hlk : meth.locks = false) (w : Wo s D cy A G M H locs) {r0 v : Int64} {M0 : Mm} (hd : decode cc pc = .ok (.lreturn, 1)) (h1 : v = r0) (h2 : M = M0) : W p l e R s m args below meth c H locs cells slots (MQ below (QL D cy G A r0 M0) args s cells slots A) (F0 m pc ls [.long v]) := by
  subst h1; subst h2
  obtain ⟨⟨hx, hb, hml, hown, hts⟩, hK, hN⟩ := X
  obtain ⟨hP, hD, hS, hA⟩ := w
  exact W.lret hx hb hr (fun t ht hW => ⟨⟨v, M, rfl, ⟨rfl, rfl⟩, by rw [ht]; exact hP, va_K.moved hW.alike hK, hD⟩, hS.F ht⟩) hS.2.2 hd hlk
theorem zrv (X : Cx p m c cc nL s args Ts own D cy) (hr : meth.sig.returnType = none) (hlk : meth.locks = false) (w : Wo s D cy A G M H locs) {M0 : Mm} (hd : decode cc pc = .ok (.return_, 1)) (h2 : M = M0) : W p l e R s m args below meth c H locs cells slots (MQ below (QV D cy G A M0) args s cells slots A) (F0 m pc ls []) := by
  subst h2
  obtain ⟨⟨hx, hb, hml, hown, hts⟩, hK, hN⟩ := X
  obtain ⟨hP, hD, hS, hA⟩ := w
  exact W.vret hx hb hr (fun t ht hW => ⟨⟨M, rfl, rfl, by rw [ht]; exact hP, va_K.moved hW.alike hK, hD⟩, hS.F ht⟩) hS.2.2 hd hlk
theorem zrp (X : Cx p m c cc nL s args Ts own D cy) {rn : String} (hr : meth.sig.returnType = some (.object rn)) (hlk : meth.locks = false) (w : Wo s D cy A G M H locs) {r0 v : Option Nat} {M0 : Mm} {vv : Value} (hd : decode cc pc = .ok (.areturn, 1)) (hv : vv = va_rf v) (h1 : v = r0) (h2 : M = M0) : W p l e R s m args below meth c H locs cells slots (MQ below (QP D cy G A r0 M0) args s cells slots A) (F0 m pc ls [vv]) := by
  subst h1; subst h2; subst hv
  obtain ⟨⟨hx, hb, hml, hown, hts⟩, hK, hN⟩ := X
  obtain ⟨hP, hD, hS, hA⟩ := w
  exact W.aret hx hb hr (Or.inl ⟨rn, rfl⟩) (by cases v with | none => exact Or.inl rfl | some a => exact Or.inr ⟨a, rfl⟩) (fun t ht hW => ⟨⟨v, M, rfl, ⟨rfl, rfl⟩, by rw [ht]; exact hP, va_K.moved hW.alike hK, hD⟩, hS.F ht⟩) hS.2.2 hd hlk
/-- the library's own -/
theorem zabs (X : Cx p m c cc nL s args Ts own D cy) (hls : ls.size = nL) {index : Nat} (h1 : Cond.methodLink own index Lib.MathLoose.abs_long.x ∈ Ts) (h2 : Cond.static Lib.MathLoose.abs_long.x ∈ Ts) (h3 : Cond.initialized "java/lang/Math" ∈ Ts) (h4 : Cond.code Lib.MathLoose.abs_long.x Lib.MathLoose.abs_long.code 2 (some .long) ∈ Ts) (hf : 1 ≤ R.frames) (hlo : (rest.map fun v => v.category).sum + 15 ≤ R.locals) (hc : cells ≤ R.cells) (hs : slots ≤ R.slots) {x : Int64} (hd : decode cc pc = .ok (.invokestatic index, 3))
    (kk : W p l e R s m args below meth c H locs cells slots Q (F0 m (pc + 3) ls (.long (if 0 < x then x else -x) :: rest))) : W p l e R s m args below meth c H locs cells slots Q (F0 m pc ls (.long x :: rest)) := by
  obtain ⟨⟨hx, hb, hml, hown, hts⟩, hK, hN⟩ := X
  exact va_mabs_long hx hb (hml.trans hls.symm) hown (hts _ h1) (hts _ h2) (hts _ h3) (hts _ h4) hf (by omega) hc hs hd kk
theorem zmax (X : Cx p m c cc nL s args Ts own D cy) (hls : ls.size = nL) {index : Nat} (h1 : Cond.methodLink own index Lib.MathLoose.max_long.x ∈ Ts) (h2 : Cond.static Lib.MathLoose.max_long.x ∈ Ts) (h3 : Cond.initialized "java/lang/Math" ∈ Ts) (h4 : Cond.code Lib.MathLoose.max_long.x Lib.MathLoose.max_long.code 4 (some .long) ∈ Ts) (hf : 1 ≤ R.frames) (hlo : (rest.map fun v => v.category).sum + 15 ≤ R.locals) (hc : cells ≤ R.cells) (hs : slots ≤ R.slots) {x y : Int64} (hd : decode cc pc = .ok (.invokestatic index, 3))
    (kk : W p l e R s m args below meth c H locs cells slots Q (F0 m (pc + 3) ls (.long (if y < x then x else y) :: rest))) : W p l e R s m args below meth c H locs cells slots Q (F0 m pc ls (.long y :: .long x :: rest)) := by
  obtain ⟨⟨hx, hb, hml, hown, hts⟩, hK, hN⟩ := X
  exact va_mmax_long hx hb (hml.trans hls.symm) hown (hts _ h1) (hts _ h2) (hts _ h3) (hts _ h4) hf (by omega) hc hs hd kk
theorem zldc2 (X : Cx p m c cc nL s args Ts own D cy) {index : Nat} {v : Int64} (h1 : Cond.constantLong own index v ∈ Ts) (hd : decode cc pc = .ok (.ldc2_w index, 3)) (kk : W p l e R s m args below meth c H locs cells slots Q (F0 m (pc + 3) ls (.long v :: rest))) : W p l e R s m args below meth c H locs cells slots Q (F0 m pc ls rest) := by
  obtain ⟨⟨hx, hb, hml, hown, hts⟩, hK, hN⟩ := X
  exact lv_ldc2 hx hb hown (hts _ h1) hd kk
theorem zldc (X : Cx p m c cc nL s args Ts own D cy) {index : Nat} {v : Int32} (h1 : Cond.constant own index v ∈ Ts) (hd : decode cc pc = .ok (.ldc index, 2)) (kk : W p l e R s m args below meth c H locs cells slots Q (F0 m (pc + 2) ls (.int v :: rest))) : W p l e R s m args below meth c H locs cells slots Q (F0 m pc ls rest) := by
  obtain ⟨⟨hx, hb, hml, hown, hts⟩, hK, hN⟩ := X
  exact lv_ldc hx hb hown (hts _ h1) hd kk
theorem zldcw (X : Cx p m c cc nL s args Ts own D cy) {index : Nat} {v : Int32} (h1 : Cond.constant own index v ∈ Ts) (hd : decode cc pc = .ok (.ldc_w index, 3)) (kk : W p l e R s m args below meth c H locs cells slots Q (F0 m (pc + 3) ls (.int v :: rest))) : W p l e R s m args below meth c H locs cells slots Q (F0 m pc ls rest) := by
  obtain ⟨⟨hx, hb, hml, hown, hts⟩, hK, hN⟩ := X
  exact lv_ldcw hx hb hown (hts _ h1) hd kk
theorem zcpy (X : Cx p m c cc nL s args Ts own D cy) (w : Wo s D cy A G M H locs) (hls : ls.size = nL) {index : Nat} (g1 : Cond.methodLink own index arraycopyName ∈ Ts) (g2 : Cond.native arraycopyName ∈ Ts) (g3 : Cond.static arraycopyName ∈ Ts) (g4 : Cond.initialized "java/lang/System" ∈ Ts) {a0 a1 : Nat} (k0 : isK G a0 10) (k1 : isK G a1 10)
    {sp dp n : Int32} (h1 : ¬ sp < 0) (h2 : ¬ dp < 0) (h3 : ¬ n < 0) (h4 : sp.toNatClampNeg + n.toNatClampNeg ≤ G.2.2 a0) (h5 : dp.toNatClampNeg + n.toNatClampNeg ≤ G.2.2 a1) (hf : 1 ≤ R.frames) (hlo : (rest.map fun v => v.category).sum + (nativeFrameWords "java/lang/System" "arraycopy" 5 + 11) ≤ R.locals) (hd : decode cc pc = .ok (.invokestatic index, 3))
    (kk : ∀ (H : Heap) (locs : List Loc), Wo s D cy A G (mwC M a1 (va_cpy (M.1 a0) (M.1 a1) sp.toNatClampNeg dp.toNatClampNeg n.toNatClampNeg)) H locs → W p l e R s m args below meth c H locs cells slots Q (F0 m (pc + 3) ls rest)) : W p l e R s m args below meth c H locs cells slots Q (F0 m pc ls (.int n :: .int dp :: .ref a1 :: .int sp :: .ref a0 :: rest)) := by
  obtain ⟨⟨hx, hb, hml, hown, hts⟩, hK, hN⟩ := X
  obtain ⟨hP, hD, hS, hA⟩ := w
  obtain ⟨q0, -, hq0⟩ := pw_get k0.1 (ce_i (M := M) (cy := cy) k0.2)
  obtain ⟨q1, hq1, hq⟩ := pw_get k1.1 (ce_i (M := M) (cy := cy) k1.2)
  have he : ∀ f, (pw cy G M).set q1 (a1, .inl (cy.1, G.2.2 a1, .inl f)) = pw cy G (mwC M a1 f) := fun f => pw_set hD k1.1 hq1 (by rw [ce_i k1.2, mwC_1]) mwC_o
  refine va_copyi hx hb (hml.trans hls.symm) hown (hts _ g1) (hts _ g2) (hts _ g3) (hts _ g4) hK hP hD hS q0 q1 0 0 (ty := .int) hq0 hq rfl rfl rfl h1 h2 h3 h4 h5 (fun i _ => rfl) hf hlo hd (fun H1 l1 hP1 hD1 hS1 => ?_)
  rw [he] at hP1 hD1
  exact kk H1 l1 ⟨hP1, hD1, hS1, hA⟩

theorem zVi (X : Cx p m c cc nL s args Ts own D cy) (w : Wo s D cy A G M H locs) {y : MethodName} {ws ws' : List Cond} {rm : Room} {cb : ByteArray} {mL n index : Nat} {ret : Option FieldType} {As st : List Value} {r : Int32} {M1 : Mm} {b ci : Nat} (hM : CI l y ws rm D cy G M (.ref b :: As) r M1) (hg : GoodIn Ts (wsV own index C y ws)) (hw : ws = Cond.code y cb mL ret :: ws') (hrc : rm.cells = 0) (hrs : rm.slots = 0) (hd0 : y.cls = C ∧ y.cls ≠ "java/lang/invoke/MethodHandle" ∧ y.cls ≠ "java/lang/invoke/VarHandle" ∧ (parseMethodDescriptor y.desc).map (fun d => d.parameters.length) = some n) (hR : rm.frames + 1 ≤ R.frames ∧ 8 + (mL + 11) + rm.locals ≤ R.locals) (hc : vwCl[ci]? = some (C, T, N)) (hbk : isK G b ci) (hn : As.length = n) (hst : st = As.reverse ++ .ref b :: rest) (hls : ls.size = nL) (hrm : (rest.map fun v => v.category).sum ≤ 8) (hd : decode cc pc = .ok (.invokevirtual index, 3)) (hcs : cells ≤ R.cells ∧ slots ≤ R.slots)
    (kk : ∀ (H : Heap) (locs : List Loc), Wo s D cy A G M1 H locs → W p l e R s m args below meth c H locs cells slots Q (F0 m (pc + 3) ls (.int r :: rest))) : W p l e R s m args below meth c H locs cells slots Q (F0 m pc ls st) := by
  have hF := wo_free w
  obtain ⟨⟨hx, hb, hml, hown, hts⟩, hK, hN⟩ := X
  obtain ⟨hP, hD, hS, hA⟩ := w
  obtain ⟨q0, -, hq⟩ := pw_get hbk.1 (ce_o (M := M) (cy := cy) hbk.2 (cl_lt hc))
  refine va_calli (va_runV (As := As) (rest := rest) ⟨hx, hb, hml, hown, hts⟩ (hM H.size) (cwV n hts hg hw hrc hrs hd0 hR) ⟨pre_blind, va_recv hK hP hc hq, fun U hU hW => ⟨rfl, by rw [hU], hN.warm hW, va_K.moved hW.alike hK, by rw [hU]; exact hP, hD.weaken (fun _ _ _ _ => trivial)⟩⟩ rfl hn hls hst (lv_room hrm) hd hcs) hS (fun q _ h => hF q h) hF (fun r' u t H1 locs1 ht hvm hp hB hz1 hk1 hS1 => ?_)
  obtain ⟨rfl, rfl⟩ := hp
  obtain ⟨hP1, hK1, hD1⟩ := hB
  rw [ht] at hP1
  exact kk H1 locs1 ⟨hP1, hD1.weaken (fun k q _ h => hF q.1 h), hS1, hA⟩
theorem zSi (X : Cx p m c cc nL s args Ts own D cy) (w : Wo s D cy A G M H locs) {y : MethodName} {ws ws' : List Cond} {rm : Room} {cb : ByteArray} {mL n index : Nat} {ret : Option FieldType} {As st : List Value} {r : Int32} {M1 : Mm} (hM : CI l y ws rm D cy G M As r M1) (hg : GoodIn Ts (va_wsS own index y ws)) (hw : ws = Cond.code y cb mL ret :: ws') (hrc : rm.cells = 0) (hrs : rm.slots = 0) (hd0 : y.cls ≠ "java/lang/invoke/MethodHandle" ∧ y.cls ≠ "java/lang/invoke/VarHandle" ∧ (parseMethodDescriptor y.desc).map (fun d => d.parameters.length) = some n) (hR : rm.frames + 1 ≤ R.frames ∧ 8 + (mL + 11) + rm.locals ≤ R.locals) (hn : As.length = n) (hst : st = As.reverse ++ rest) (hls : ls.size = nL) (hrm : (rest.map fun v => v.category).sum ≤ 8) (hd : decode cc pc = .ok (.invokestatic index, 3)) (hcs : cells ≤ R.cells ∧ slots ≤ R.slots)
    (kk : ∀ (H : Heap) (locs : List Loc), Wo s D cy A G M1 H locs → W p l e R s m args below meth c H locs cells slots Q (F0 m (pc + 3) ls (.int r :: rest))) : W p l e R s m args below meth c H locs cells slots Q (F0 m pc ls st) := by
  have hF := wo_free w
  obtain ⟨⟨hx, hb, hml, hown, hts⟩, hK, hN⟩ := X
  obtain ⟨hP, hD, hS, hA⟩ := w
  refine va_calli (va_runS (As := As) (rest := rest) ⟨hx, hb, hml, hown, hts⟩ (hM H.size) (va_cwS n hts hg hw hrc hrs hd0 hR) ⟨pre_blind, fun U hU hW => ⟨rfl, by rw [hU], hN.warm hW, va_K.moved hW.alike hK, by rw [hU]; exact hP, hD.weaken (fun _ _ _ _ => trivial)⟩⟩ rfl hn hls hst (lv_room hrm) hd hcs) hS (fun q _ h => hF q h) hF (fun r' u t H1 locs1 ht hvm hp hB hz1 hk1 hS1 => ?_)
  obtain ⟨rfl, rfl⟩ := hp
  obtain ⟨hP1, hK1, hD1⟩ := hB
  rw [ht] at hP1
  exact kk H1 locs1 ⟨hP1, hD1.weaken (fun k q _ h => hF q.1 h), hS1, hA⟩
theorem zNi (X : Cx p m c cc nL s args Ts own D cy) (w : Wo s D cy A G M H locs) {y : MethodName} {ws ws' : List Cond} {rm : Room} {cb : ByteArray} {mL n index : Nat} {ret : Option FieldType} {As st : List Value} {r : Int32} {M1 : Mm} {host : String} (hM : CI l y ws rm D cy G M As r M1) (hg : GoodIn Ts ws) (hw : ws = Cond.code y cb mL ret :: ws') (hrc : rm.cells = 0) (hrs : rm.slots = 0) (hl : Cond.methodLinkNest own index y host ∈ nwL) (hini : Cond.initialized y.cls ∈ Ts) (hst0 : Cond.static y ∈ Ts) (hd0 : y.cls ≠ "java/lang/invoke/MethodHandle" ∧ y.cls ≠ "java/lang/invoke/VarHandle" ∧ (parseMethodDescriptor y.desc).map (fun d => d.parameters.length) = some n) (hR : rm.frames + 1 ≤ R.frames ∧ 8 + (mL + 11) + rm.locals ≤ R.locals) (hn : As.length = n) (hst : st = As.reverse ++ rest) (hls : ls.size = nL) (hrm : (rest.map fun v => v.category).sum ≤ 8) (hd : decode cc pc = .ok (.invokestatic index, 3)) (hcs : cells ≤ R.cells ∧ slots ≤ R.slots)
    (kk : ∀ (H : Heap) (locs : List Loc), Wo s D cy A G M1 H locs → W p l e R s m args below meth c H locs cells slots Q (F0 m (pc + 3) ls (.int r :: rest))) : W p l e R s m args below meth c H locs cells slots Q (F0 m pc ls st) := by
  have hF := wo_free w
  obtain ⟨⟨hx, hb, hml, hown, hts⟩, hK, hN⟩ := X
  obtain ⟨hP, hD, hS, hA⟩ := w
  refine va_calli (va_runSN (As := As) (rest := rest) ⟨hx, hb, hml, hown, hts⟩ (hM H.size) ⟨va_cnB n hts hg hw hrc hrs (hN _ hl) (hts _ hini) hd0 hR, hts _ hst0, trivial⟩ ⟨pre_blind, fun U hU hW => ⟨rfl, by rw [hU], hN.warm hW, va_K.moved hW.alike hK, by rw [hU]; exact hP, hD.weaken (fun _ _ _ _ => trivial)⟩⟩ rfl hn hls hst (lv_room hrm) hd hcs) hS (fun q _ h => hF q h) hF (fun r' u t H1 locs1 ht hvm hp hB hz1 hk1 hS1 => ?_)
  obtain ⟨rfl, rfl⟩ := hp
  obtain ⟨hP1, hK1, hD1⟩ := hB
  rw [ht] at hP1
  exact kk H1 locs1 ⟨hP1, hD1.weaken (fun k q _ h => hF q.1 h), hS1, hA⟩
theorem zVl (X : Cx p m c cc nL s args Ts own D cy) (w : Wo s D cy A G M H locs) {y : MethodName} {ws ws' : List Cond} {rm : Room} {cb : ByteArray} {mL n index : Nat} {ret : Option FieldType} {As st : List Value} {r : Int64} {M1 : Mm} {b ci : Nat} (hM : CL l y ws rm D cy G M (.ref b :: As) r M1) (hg : GoodIn Ts (wsV own index C y ws)) (hw : ws = Cond.code y cb mL ret :: ws') (hrc : rm.cells = 0) (hrs : rm.slots = 0) (hd0 : y.cls = C ∧ y.cls ≠ "java/lang/invoke/MethodHandle" ∧ y.cls ≠ "java/lang/invoke/VarHandle" ∧ (parseMethodDescriptor y.desc).map (fun d => d.parameters.length) = some n) (hR : rm.frames + 1 ≤ R.frames ∧ 8 + (mL + 11) + rm.locals ≤ R.locals) (hc : vwCl[ci]? = some (C, T, N)) (hbk : isK G b ci) (hn : As.length = n) (hst : st = As.reverse ++ .ref b :: rest) (hls : ls.size = nL) (hrm : (rest.map fun v => v.category).sum ≤ 8) (hd : decode cc pc = .ok (.invokevirtual index, 3)) (hcs : cells ≤ R.cells ∧ slots ≤ R.slots)
    (kk : ∀ (H : Heap) (locs : List Loc), Wo s D cy A G M1 H locs → W p l e R s m args below meth c H locs cells slots Q (F0 m (pc + 3) ls (.long r :: rest))) : W p l e R s m args below meth c H locs cells slots Q (F0 m pc ls st) := by
  have hF := wo_free w
  obtain ⟨⟨hx, hb, hml, hown, hts⟩, hK, hN⟩ := X
  obtain ⟨hP, hD, hS, hA⟩ := w
  obtain ⟨q0, -, hq⟩ := pw_get hbk.1 (ce_o (M := M) (cy := cy) hbk.2 (cl_lt hc))
  refine va_calll (va_runV (As := As) (rest := rest) ⟨hx, hb, hml, hown, hts⟩ (hM H.size) (cwV n hts hg hw hrc hrs hd0 hR) ⟨pre_blind, va_recv hK hP hc hq, fun U hU hW => ⟨rfl, by rw [hU], hN.warm hW, va_K.moved hW.alike hK, by rw [hU]; exact hP, hD.weaken (fun _ _ _ _ => trivial)⟩⟩ rfl hn hls hst (lv_room hrm) hd hcs) hS (fun q _ h => hF q h) hF (fun r' u t H1 locs1 ht hvm hp hB hz1 hk1 hS1 => ?_)
  obtain ⟨rfl, rfl⟩ := hp
  obtain ⟨hP1, hK1, hD1⟩ := hB
  rw [ht] at hP1
  exact kk H1 locs1 ⟨hP1, hD1.weaken (fun k q _ h => hF q.1 h), hS1, hA⟩
theorem zSl (X : Cx p m c cc nL s args Ts own D cy) (w : Wo s D cy A G M H locs) {y : MethodName} {ws ws' : List Cond} {rm : Room} {cb : ByteArray} {mL n index : Nat} {ret : Option FieldType} {As st : List Value} {r : Int64} {M1 : Mm} (hM : CL l y ws rm D cy G M As r M1) (hg : GoodIn Ts (va_wsS own index y ws)) (hw : ws = Cond.code y cb mL ret :: ws') (hrc : rm.cells = 0) (hrs : rm.slots = 0) (hd0 : y.cls ≠ "java/lang/invoke/MethodHandle" ∧ y.cls ≠ "java/lang/invoke/VarHandle" ∧ (parseMethodDescriptor y.desc).map (fun d => d.parameters.length) = some n) (hR : rm.frames + 1 ≤ R.frames ∧ 8 + (mL + 11) + rm.locals ≤ R.locals) (hn : As.length = n) (hst : st = As.reverse ++ rest) (hls : ls.size = nL) (hrm : (rest.map fun v => v.category).sum ≤ 8) (hd : decode cc pc = .ok (.invokestatic index, 3)) (hcs : cells ≤ R.cells ∧ slots ≤ R.slots)
    (kk : ∀ (H : Heap) (locs : List Loc), Wo s D cy A G M1 H locs → W p l e R s m args below meth c H locs cells slots Q (F0 m (pc + 3) ls (.long r :: rest))) : W p l e R s m args below meth c H locs cells slots Q (F0 m pc ls st) := by
  have hF := wo_free w
  obtain ⟨⟨hx, hb, hml, hown, hts⟩, hK, hN⟩ := X
  obtain ⟨hP, hD, hS, hA⟩ := w
  refine va_calll (va_runS (As := As) (rest := rest) ⟨hx, hb, hml, hown, hts⟩ (hM H.size) (va_cwS n hts hg hw hrc hrs hd0 hR) ⟨pre_blind, fun U hU hW => ⟨rfl, by rw [hU], hN.warm hW, va_K.moved hW.alike hK, by rw [hU]; exact hP, hD.weaken (fun _ _ _ _ => trivial)⟩⟩ rfl hn hls hst (lv_room hrm) hd hcs) hS (fun q _ h => hF q h) hF (fun r' u t H1 locs1 ht hvm hp hB hz1 hk1 hS1 => ?_)
  obtain ⟨rfl, rfl⟩ := hp
  obtain ⟨hP1, hK1, hD1⟩ := hB
  rw [ht] at hP1
  exact kk H1 locs1 ⟨hP1, hD1.weaken (fun k q _ h => hF q.1 h), hS1, hA⟩
theorem zNl (X : Cx p m c cc nL s args Ts own D cy) (w : Wo s D cy A G M H locs) {y : MethodName} {ws ws' : List Cond} {rm : Room} {cb : ByteArray} {mL n index : Nat} {ret : Option FieldType} {As st : List Value} {r : Int64} {M1 : Mm} {host : String} (hM : CL l y ws rm D cy G M As r M1) (hg : GoodIn Ts ws) (hw : ws = Cond.code y cb mL ret :: ws') (hrc : rm.cells = 0) (hrs : rm.slots = 0) (hl : Cond.methodLinkNest own index y host ∈ nwL) (hini : Cond.initialized y.cls ∈ Ts) (hst0 : Cond.static y ∈ Ts) (hd0 : y.cls ≠ "java/lang/invoke/MethodHandle" ∧ y.cls ≠ "java/lang/invoke/VarHandle" ∧ (parseMethodDescriptor y.desc).map (fun d => d.parameters.length) = some n) (hR : rm.frames + 1 ≤ R.frames ∧ 8 + (mL + 11) + rm.locals ≤ R.locals) (hn : As.length = n) (hst : st = As.reverse ++ rest) (hls : ls.size = nL) (hrm : (rest.map fun v => v.category).sum ≤ 8) (hd : decode cc pc = .ok (.invokestatic index, 3)) (hcs : cells ≤ R.cells ∧ slots ≤ R.slots)
    (kk : ∀ (H : Heap) (locs : List Loc), Wo s D cy A G M1 H locs → W p l e R s m args below meth c H locs cells slots Q (F0 m (pc + 3) ls (.long r :: rest))) : W p l e R s m args below meth c H locs cells slots Q (F0 m pc ls st) := by
  have hF := wo_free w
  obtain ⟨⟨hx, hb, hml, hown, hts⟩, hK, hN⟩ := X
  obtain ⟨hP, hD, hS, hA⟩ := w
  refine va_calll (va_runSN (As := As) (rest := rest) ⟨hx, hb, hml, hown, hts⟩ (hM H.size) ⟨va_cnB n hts hg hw hrc hrs (hN _ hl) (hts _ hini) hd0 hR, hts _ hst0, trivial⟩ ⟨pre_blind, fun U hU hW => ⟨rfl, by rw [hU], hN.warm hW, va_K.moved hW.alike hK, by rw [hU]; exact hP, hD.weaken (fun _ _ _ _ => trivial)⟩⟩ rfl hn hls hst (lv_room hrm) hd hcs) hS (fun q _ h => hF q h) hF (fun r' u t H1 locs1 ht hvm hp hB hz1 hk1 hS1 => ?_)
  obtain ⟨rfl, rfl⟩ := hp
  obtain ⟨hP1, hK1, hD1⟩ := hB
  rw [ht] at hP1
  exact kk H1 locs1 ⟨hP1, hD1.weaken (fun k q _ h => hF q.1 h), hS1, hA⟩
theorem zVp (X : Cx p m c cc nL s args Ts own D cy) (w : Wo s D cy A G M H locs) {y : MethodName} {ws ws' : List Cond} {rm : Room} {cb : ByteArray} {mL n index : Nat} {ret : Option FieldType} {As st : List Value} {r : Option Nat} {M1 : Mm} {b ci : Nat} (hM : CP l y ws rm D cy G M (.ref b :: As) r M1) (hg : GoodIn Ts (wsV own index C y ws)) (hw : ws = Cond.code y cb mL ret :: ws') (hrc : rm.cells = 0) (hrs : rm.slots = 0) (hd0 : y.cls = C ∧ y.cls ≠ "java/lang/invoke/MethodHandle" ∧ y.cls ≠ "java/lang/invoke/VarHandle" ∧ (parseMethodDescriptor y.desc).map (fun d => d.parameters.length) = some n) (hR : rm.frames + 1 ≤ R.frames ∧ 8 + (mL + 11) + rm.locals ≤ R.locals) (hc : vwCl[ci]? = some (C, T, N)) (hbk : isK G b ci) (hn : As.length = n) (hst : st = As.reverse ++ .ref b :: rest) (hls : ls.size = nL) (hrm : (rest.map fun v => v.category).sum ≤ 8) (hd : decode cc pc = .ok (.invokevirtual index, 3)) (hcs : cells ≤ R.cells ∧ slots ≤ R.slots)
    (kk : ∀ (H : Heap) (locs : List Loc), Wo s D cy A G M1 H locs → W p l e R s m args below meth c H locs cells slots Q (F0 m (pc + 3) ls (va_rf r :: rest))) : W p l e R s m args below meth c H locs cells slots Q (F0 m pc ls st) := by
  have hF := wo_free w
  obtain ⟨⟨hx, hb, hml, hown, hts⟩, hK, hN⟩ := X
  obtain ⟨hP, hD, hS, hA⟩ := w
  obtain ⟨q0, -, hq⟩ := pw_get hbk.1 (ce_o (M := M) (cy := cy) hbk.2 (cl_lt hc))
  refine va_callq (va_runV (As := As) (rest := rest) ⟨hx, hb, hml, hown, hts⟩ (hM H.size) (cwV n hts hg hw hrc hrs hd0 hR) ⟨pre_blind, va_recv hK hP hc hq, fun U hU hW => ⟨rfl, by rw [hU], hN.warm hW, va_K.moved hW.alike hK, by rw [hU]; exact hP, hD.weaken (fun _ _ _ _ => trivial)⟩⟩ rfl hn hls hst (lv_room hrm) hd hcs) hS (fun q _ h => hF q h) hF (fun r' u t H1 locs1 ht hvm hp hB hz1 hk1 hS1 => ?_)
  obtain ⟨rfl, rfl⟩ := hp
  obtain ⟨hP1, hK1, hD1⟩ := hB
  rw [ht] at hP1
  exact kk H1 locs1 ⟨hP1, hD1.weaken (fun k q _ h => hF q.1 h), hS1, hA⟩
theorem zSp (X : Cx p m c cc nL s args Ts own D cy) (w : Wo s D cy A G M H locs) {y : MethodName} {ws ws' : List Cond} {rm : Room} {cb : ByteArray} {mL n index : Nat} {ret : Option FieldType} {As st : List Value} {r : Option Nat} {M1 : Mm} (hM : CP l y ws rm D cy G M As r M1) (hg : GoodIn Ts (va_wsS own index y ws)) (hw : ws = Cond.code y cb mL ret :: ws') (hrc : rm.cells = 0) (hrs : rm.slots = 0) (hd0 : y.cls ≠ "java/lang/invoke/MethodHandle" ∧ y.cls ≠ "java/lang/invoke/VarHandle" ∧ (parseMethodDescriptor y.desc).map (fun d => d.parameters.length) = some n) (hR : rm.frames + 1 ≤ R.frames ∧ 8 + (mL + 11) + rm.locals ≤ R.locals) (hn : As.length = n) (hst : st = As.reverse ++ rest) (hls : ls.size = nL) (hrm : (rest.map fun v => v.category).sum ≤ 8) (hd : decode cc pc = .ok (.invokestatic index, 3)) (hcs : cells ≤ R.cells ∧ slots ≤ R.slots)
    (kk : ∀ (H : Heap) (locs : List Loc), Wo s D cy A G M1 H locs → W p l e R s m args below meth c H locs cells slots Q (F0 m (pc + 3) ls (va_rf r :: rest))) : W p l e R s m args below meth c H locs cells slots Q (F0 m pc ls st) := by
  have hF := wo_free w
  obtain ⟨⟨hx, hb, hml, hown, hts⟩, hK, hN⟩ := X
  obtain ⟨hP, hD, hS, hA⟩ := w
  refine va_callq (va_runS (As := As) (rest := rest) ⟨hx, hb, hml, hown, hts⟩ (hM H.size) (va_cwS n hts hg hw hrc hrs hd0 hR) ⟨pre_blind, fun U hU hW => ⟨rfl, by rw [hU], hN.warm hW, va_K.moved hW.alike hK, by rw [hU]; exact hP, hD.weaken (fun _ _ _ _ => trivial)⟩⟩ rfl hn hls hst (lv_room hrm) hd hcs) hS (fun q _ h => hF q h) hF (fun r' u t H1 locs1 ht hvm hp hB hz1 hk1 hS1 => ?_)
  obtain ⟨rfl, rfl⟩ := hp
  obtain ⟨hP1, hK1, hD1⟩ := hB
  rw [ht] at hP1
  exact kk H1 locs1 ⟨hP1, hD1.weaken (fun k q _ h => hF q.1 h), hS1, hA⟩
theorem zNp (X : Cx p m c cc nL s args Ts own D cy) (w : Wo s D cy A G M H locs) {y : MethodName} {ws ws' : List Cond} {rm : Room} {cb : ByteArray} {mL n index : Nat} {ret : Option FieldType} {As st : List Value} {r : Option Nat} {M1 : Mm} {host : String} (hM : CP l y ws rm D cy G M As r M1) (hg : GoodIn Ts ws) (hw : ws = Cond.code y cb mL ret :: ws') (hrc : rm.cells = 0) (hrs : rm.slots = 0) (hl : Cond.methodLinkNest own index y host ∈ nwL) (hini : Cond.initialized y.cls ∈ Ts) (hst0 : Cond.static y ∈ Ts) (hd0 : y.cls ≠ "java/lang/invoke/MethodHandle" ∧ y.cls ≠ "java/lang/invoke/VarHandle" ∧ (parseMethodDescriptor y.desc).map (fun d => d.parameters.length) = some n) (hR : rm.frames + 1 ≤ R.frames ∧ 8 + (mL + 11) + rm.locals ≤ R.locals) (hn : As.length = n) (hst : st = As.reverse ++ rest) (hls : ls.size = nL) (hrm : (rest.map fun v => v.category).sum ≤ 8) (hd : decode cc pc = .ok (.invokestatic index, 3)) (hcs : cells ≤ R.cells ∧ slots ≤ R.slots)
    (kk : ∀ (H : Heap) (locs : List Loc), Wo s D cy A G M1 H locs → W p l e R s m args below meth c H locs cells slots Q (F0 m (pc + 3) ls (va_rf r :: rest))) : W p l e R s m args below meth c H locs cells slots Q (F0 m pc ls st) := by
  have hF := wo_free w
  obtain ⟨⟨hx, hb, hml, hown, hts⟩, hK, hN⟩ := X
  obtain ⟨hP, hD, hS, hA⟩ := w
  refine va_callq (va_runSN (As := As) (rest := rest) ⟨hx, hb, hml, hown, hts⟩ (hM H.size) ⟨va_cnB n hts hg hw hrc hrs (hN _ hl) (hts _ hini) hd0 hR, hts _ hst0, trivial⟩ ⟨pre_blind, fun U hU hW => ⟨rfl, by rw [hU], hN.warm hW, va_K.moved hW.alike hK, by rw [hU]; exact hP, hD.weaken (fun _ _ _ _ => trivial)⟩⟩ rfl hn hls hst (lv_room hrm) hd hcs) hS (fun q _ h => hF q h) hF (fun r' u t H1 locs1 ht hvm hp hB hz1 hk1 hS1 => ?_)
  obtain ⟨rfl, rfl⟩ := hp
  obtain ⟨hP1, hK1, hD1⟩ := hB
  rw [ht] at hP1
  exact kk H1 locs1 ⟨hP1, hD1.weaken (fun k q _ h => hF q.1 h), hS1, hA⟩
theorem zVv (X : Cx p m c cc nL s args Ts own D cy) (w : Wo s D cy A G M H locs) {y : MethodName} {ws ws' : List Cond} {rm : Room} {cb : ByteArray} {mL n index : Nat} {ret : Option FieldType} {As st : List Value} {M1 : Mm} {b ci : Nat} (hM : CV l y ws rm D cy G M (.ref b :: As) M1) (hg : GoodIn Ts (wsV own index C y ws)) (hw : ws = Cond.code y cb mL ret :: ws') (hrc : rm.cells = 0) (hrs : rm.slots = 0) (hd0 : y.cls = C ∧ y.cls ≠ "java/lang/invoke/MethodHandle" ∧ y.cls ≠ "java/lang/invoke/VarHandle" ∧ (parseMethodDescriptor y.desc).map (fun d => d.parameters.length) = some n) (hR : rm.frames + 1 ≤ R.frames ∧ 8 + (mL + 11) + rm.locals ≤ R.locals) (hc : vwCl[ci]? = some (C, T, N)) (hbk : isK G b ci) (hn : As.length = n) (hst : st = As.reverse ++ .ref b :: rest) (hls : ls.size = nL) (hrm : (rest.map fun v => v.category).sum ≤ 8) (hd : decode cc pc = .ok (.invokevirtual index, 3)) (hcs : cells ≤ R.cells ∧ slots ≤ R.slots)
    (kk : ∀ (H : Heap) (locs : List Loc), Wo s D cy A G M1 H locs → W p l e R s m args below meth c H locs cells slots Q (F0 m (pc + 3) ls (rest))) : W p l e R s m args below meth c H locs cells slots Q (F0 m pc ls st) := by
  have hF := wo_free w
  obtain ⟨⟨hx, hb, hml, hown, hts⟩, hK, hN⟩ := X
  obtain ⟨hP, hD, hS, hA⟩ := w
  obtain ⟨q0, -, hq⟩ := pw_get hbk.1 (ce_o (M := M) (cy := cy) hbk.2 (cl_lt hc))
  refine va_callv (va_runV (As := As) (rest := rest) ⟨hx, hb, hml, hown, hts⟩ (hM H.size) (cwV n hts hg hw hrc hrs hd0 hR) ⟨pre_blind, va_recv hK hP hc hq, fun U hU hW => ⟨rfl, by rw [hU], hN.warm hW, va_K.moved hW.alike hK, by rw [hU]; exact hP, hD.weaken (fun _ _ _ _ => trivial)⟩⟩ rfl hn hls hst (lv_room hrm) hd hcs) hS (fun q _ h => hF q h) hF (fun u t H1 locs1 ht hvm hp hB hz1 hk1 hS1 => ?_)
  subst hp
  obtain ⟨hP1, hK1, hD1⟩ := hB
  rw [ht] at hP1
  exact kk H1 locs1 ⟨hP1, hD1.weaken (fun k q _ h => hF q.1 h), hS1, hA⟩
theorem zSv (X : Cx p m c cc nL s args Ts own D cy) (w : Wo s D cy A G M H locs) {y : MethodName} {ws ws' : List Cond} {rm : Room} {cb : ByteArray} {mL n index : Nat} {ret : Option FieldType} {As st : List Value} {M1 : Mm} (hM : CV l y ws rm D cy G M As M1) (hg : GoodIn Ts (va_wsS own index y ws)) (hw : ws = Cond.code y cb mL ret :: ws') (hrc : rm.cells = 0) (hrs : rm.slots = 0) (hd0 : y.cls ≠ "java/lang/invoke/MethodHandle" ∧ y.cls ≠ "java/lang/invoke/VarHandle" ∧ (parseMethodDescriptor y.desc).map (fun d => d.parameters.length) = some n) (hR : rm.frames + 1 ≤ R.frames ∧ 8 + (mL + 11) + rm.locals ≤ R.locals) (hn : As.length = n) (hst : st = As.reverse ++ rest) (hls : ls.size = nL) (hrm : (rest.map fun v => v.category).sum ≤ 8) (hd : decode cc pc = .ok (.invokestatic index, 3)) (hcs : cells ≤ R.cells ∧ slots ≤ R.slots)
    (kk : ∀ (H : Heap) (locs : List Loc), Wo s D cy A G M1 H locs → W p l e R s m args below meth c H locs cells slots Q (F0 m (pc + 3) ls (rest))) : W p l e R s m args below meth c H locs cells slots Q (F0 m pc ls st) := by
  have hF := wo_free w
  obtain ⟨⟨hx, hb, hml, hown, hts⟩, hK, hN⟩ := X
  obtain ⟨hP, hD, hS, hA⟩ := w
  refine va_callv (va_runS (As := As) (rest := rest) ⟨hx, hb, hml, hown, hts⟩ (hM H.size) (va_cwS n hts hg hw hrc hrs hd0 hR) ⟨pre_blind, fun U hU hW => ⟨rfl, by rw [hU], hN.warm hW, va_K.moved hW.alike hK, by rw [hU]; exact hP, hD.weaken (fun _ _ _ _ => trivial)⟩⟩ rfl hn hls hst (lv_room hrm) hd hcs) hS (fun q _ h => hF q h) hF (fun u t H1 locs1 ht hvm hp hB hz1 hk1 hS1 => ?_)
  subst hp
  obtain ⟨hP1, hK1, hD1⟩ := hB
  rw [ht] at hP1
  exact kk H1 locs1 ⟨hP1, hD1.weaken (fun k q _ h => hF q.1 h), hS1, hA⟩
theorem zNv (X : Cx p m c cc nL s args Ts own D cy) (w : Wo s D cy A G M H locs) {y : MethodName} {ws ws' : List Cond} {rm : Room} {cb : ByteArray} {mL n index : Nat} {ret : Option FieldType} {As st : List Value} {M1 : Mm} {host : String} (hM : CV l y ws rm D cy G M As M1) (hg : GoodIn Ts ws) (hw : ws = Cond.code y cb mL ret :: ws') (hrc : rm.cells = 0) (hrs : rm.slots = 0) (hl : Cond.methodLinkNest own index y host ∈ nwL) (hini : Cond.initialized y.cls ∈ Ts) (hst0 : Cond.static y ∈ Ts) (hd0 : y.cls ≠ "java/lang/invoke/MethodHandle" ∧ y.cls ≠ "java/lang/invoke/VarHandle" ∧ (parseMethodDescriptor y.desc).map (fun d => d.parameters.length) = some n) (hR : rm.frames + 1 ≤ R.frames ∧ 8 + (mL + 11) + rm.locals ≤ R.locals) (hn : As.length = n) (hst : st = As.reverse ++ rest) (hls : ls.size = nL) (hrm : (rest.map fun v => v.category).sum ≤ 8) (hd : decode cc pc = .ok (.invokestatic index, 3)) (hcs : cells ≤ R.cells ∧ slots ≤ R.slots)
    (kk : ∀ (H : Heap) (locs : List Loc), Wo s D cy A G M1 H locs → W p l e R s m args below meth c H locs cells slots Q (F0 m (pc + 3) ls (rest))) : W p l e R s m args below meth c H locs cells slots Q (F0 m pc ls st) := by
  have hF := wo_free w
  obtain ⟨⟨hx, hb, hml, hown, hts⟩, hK, hN⟩ := X
  obtain ⟨hP, hD, hS, hA⟩ := w
  refine va_callv (va_runSN (As := As) (rest := rest) ⟨hx, hb, hml, hown, hts⟩ (hM H.size) ⟨va_cnB n hts hg hw hrc hrs (hN _ hl) (hts _ hini) hd0 hR, hts _ hst0, trivial⟩ ⟨pre_blind, fun U hU hW => ⟨rfl, by rw [hU], hN.warm hW, va_K.moved hW.alike hK, by rw [hU]; exact hP, hD.weaken (fun _ _ _ _ => trivial)⟩⟩ rfl hn hls hst (lv_room hrm) hd hcs) hS (fun q _ h => hF q h) hF (fun u t H1 locs1 ht hvm hp hB hz1 hk1 hS1 => ?_)
  subst hp
  obtain ⟨hP1, hK1, hD1⟩ := hB
  rw [ht] at hP1
  exact kk H1 locs1 ⟨hP1, hD1.weaken (fun k q _ h => hF q.1 h), hS1, hA⟩
end ROWS
