/-! methods that throw: the one exception of this class, made without a trace; nothing of the pool changes by it -/
abbrev nse : String := "java/util/NoSuchElementException"
abbrev nsu : List String := ["java/lang/RuntimeException", "java/lang/Exception"]
def ZQ (A : Nat → Prop) (U : State) : Prop := vx_Zq Bundle.tN "UNASSIGNED_STACK" Bundle.steD A U U.heap ∧ vx_Zq Bundle.tN "SUPPRESSED_SENTINEL" Bundle.listD A U U.heap
abbrev PreX (D : va_G) (cy : Cyy) (G : Gg) (M : Mm) (av : List Value) (sz : Nat) : Array Value → State → Prop := va_Pc av (fun U => U.heap.size = sz ∧ NW U ∧ va_K D vwCl (tyc cy) U ∧ va_P D vwCl (pw cy G M) U.heap ∧ va_D (fun _ => True) (pw cy G M) ∧ ZQ (PA cy G M sz) U)
abbrev XCx (D : va_G) (cy : Cyy) (G : Gg) (A : Nat → Prop) (M1 : Mm) : String → State → State → Prop := vx_X (fun u : Mm => u = M1) (fun E u t => E = nse ∧ Pow D cy G A u t) A
abbrev QF : Array Value → State → Outcome → State → Prop := fun _ _ _ _ => False
def XT (l : Launch) (y : MethodName) (ws : List Cond) (rm : Room) (D : va_G) (cy : Cyy) (G : Gg) (M : Mm) (av : List Value) (M1 : Mm) : Prop := ∀ sz : Nat, vx_Met l y ws rm (PreX D cy G M av sz) QF (XCx D cy G (PA cy G M sz) M1) 1 6 (PA cy G M sz)
theorem zq_at {s U : State} {A B : Nat → Prop} {H : Heap} {locs : List Loc} (hz : ZQ A s) (hS : va_S A s.heap H locs) (hU : U.heap = H) (hvm : s.vm.Alike U.vm) (hB : ∀ q, B q → A q) : ZQ B U := by
  obtain ⟨h1, h2⟩ := hz
  refine ⟨?_, ?_⟩
  · rw [hU]; exact vx_Zq.moved hvm ((h1.kept hS.2.1).narrow hB)
  · rw [hU]; exact vx_Zq.moved hvm ((h2.kept hS.2.1).narrow hB)
theorem prex_blind {D : va_G} {cy : Cyy} {G : Gg} {M : Mm} {av : List Value} {sz : Nat} : FrameBlind (PreX D cy G M av sz) := fun a U g mk q => by
  obtain ⟨q0, q1, q2, qK, qP, qD, qz⟩ := q
  exact ⟨q0, q1, q2.same rfl, va_K.moved (u := U) (U := U.calling g mk a) (Vm.Alike.refl U.vm) qK, qP, qD, vx_Zq.moved (u := U) (U := U.calling g mk a) (Vm.Alike.refl U.vm) qz.1, vx_Zq.moved (u := U) (U := U.calling g mk a) (Vm.Alike.refl U.vm) qz.2⟩
theorem XT_of {l : Launch} {y : MethodName} {ws ws' : List Cond} {rm : Room} {cc : ByteArray} {nL : Nat} {ret : Option FieldType} {own : String} {D : va_G} {cy : Cyy} {G : Gg} {M M1 : Mm} {av : List Value} {lv : List (Nat × Value)} (hy : plainName y.cls = true) (hw : ws = Cond.code y cc nL ret :: ws') (ho : y.cls = own) (hn : (lg_sl av).length ≤ nL) (hlv : lv_args 0 av = lv)
    (body : ∀ (p : Program) (e : Env) (s : State) (m : MethodId) (args : Array Value) (below : List Frame) (meth : Method) (c : Code) (A : Nat → Prop) (ls : Array Slot), Cx p m c cc nL s args ws own D cy → meth.sig.returnType = ret → meth.locks = false → ZQ A s → (∀ x ∈ c.exceptionTable.toList, False) → Wo s D cy A G M s.heap [] → lv_has ls nL lv → W p l e rm s m args below meth c s.heap [] 0 0 (vx_MQ below QF (XCx D cy G A M1) args s 1 6 A) (F0 m 0 ls [])) :
    XT l y ws rm D cy G M av M1 := by
  intro sz
  refine vx_ofW (cc := cc) (maxL := nL) (ret := ret) hy hw ?_
  intro p e s m args below meth c s₁ B hml ht hv
  obtain ⟨rfl, hsz, hN, hK, hP, hD0, hz⟩ := hv
  have hts := atoms_spec (ws := ws) B.pre
  have hown : s.vm.findClass y.cls = some m.cls := findClass_of_methodNamed B.named
  rw [ho] at hown
  subst hsz
  have hl := lv_entry av (n := nL) hn
  rw [lg_entry_eq]
  generalize (lg_sl av ++ List.replicate (nL - (lg_sl av).length) Slot.unset).toArray = ls at hl ⊢
  rw [hlv] at hl
  exact body p e s m av.toArray below meth c (PA cy G M s.heap.size) ls ⟨⟨B.exec, B.bytes, hml, hown, hts⟩, hK, hN⟩ B.returns B.notSynchronized hz ht ⟨hP, hD0.self, va_S.rf, fun q h => Or.inr h⟩ hl
theorem vxg : ∀ w ∈ (vx_at0 RX8 131 nse nsu).filter goodWord, w ∈ TBL := by decide +kernel
theorem vxb : ∀ w ∈ (vx_at0 RX8 131 nse nsu).filter (fun w => !goodWord w), w ∈ nwL := by decide +kernel
theorem vxo : ∀ w ∈ Cond.classLink RX8 129 nse :: Cond.initialized nse :: vx_at0 RX8 131 nse nsu, vx_ot w = true := by decide +kernel
theorem vxl : Cond.classLink RX8 129 nse ∈ TBL := by decide +kernel
theorem vxi : Cond.initialized nse ∈ TBL := by decide +kernel
section ROWS
variable {p : Program} {l : Launch} {e : Env} {R : Room} {s : State} {m : MethodId} {args : Array Value} {below : List Frame} {meth : Method} {c : Code} {H : Heap} {locs : List Loc} {Q : State → Prop}
variable {cc : ByteArray} {nL pc : Nat} {ls : Array Slot} {rest : List Value} {D : va_G} {cy : Cyy} {A : Nat → Prop} {G : Gg} {M M0 : Mm} {C : String} {T : u_T} {N : Nat} {w0 : Cond}
theorem zthrow (X : Cx p m c cc nL s args (w0 :: TBL) RX8 D cy) (hlk : meth.locks = false) (hz : ZQ A s) (hst : l.stackTraces = false) (ht : ∀ x ∈ c.exceptionTable.toList, False) (w : Wo s D cy A G M H locs) (hls : ls.size = nL)
    (d0 : decode cc pc = .ok (.new 129, 3)) (d3 : decode cc (pc + 3) = .ok (.dup, 1)) (d4 : decode cc (pc + 4) = .ok (.invokespecial 131, 3)) (d7 : decode cc (pc + 7) = .ok (.athrow, 1))
    (hRf : 5 < R.frames) (hRl : (rest.map fun v => v.category).sum + 81 ≤ R.locals) (hRc : 1 ≤ R.cells) (hRs : 6 ≤ R.slots) (h2 : M = M0) :
    W p l e R s m args below meth c H locs 0 0 (vx_MQ below QF (XCx D cy G A M0) args s 1 6 A) (F0 m pc ls rest) := by
  subst h2
  obtain ⟨⟨hx, hb, hml, hown, hts⟩, hK, hN⟩ := X
  obtain ⟨hP, hD, hS, hA⟩ := w
  refine vx_throw0 (cls := nse) (names := nsu) (ik := 129) (ic := 131) (own := RX8) hx hb hst hown (by decide +kernel) (by decide +kernel) (hts _ (tb vxl)) (hts _ (tb vxi)) (vx_hat (B := nwL) (fun w h => hts _ (tb (vxg w h))) vxb (fun w h => hN.use h)) vxo hz.1 hz.2 hS (hls.trans hml.symm) d0 d3 d4 d7 (fun x h => (ht x h).elim) hRf (by show _ + (13 * (2 + 1) + 42) ≤ _; omega) (by omega) (by omega) hlk ?_ hS.2.2 (by omega) (by omega)
  intro t hal hsz hkeep
  exact ⟨M, rfl, ⟨rfl, fun k q hk => (hP k q hk).kept (hkeep q.1 (hP k q hk).lt), va_K.moved hal hK, hD⟩, Nat.le_trans hS.1 hsz, fun q h1 h2 => (hkeep q (Nat.lt_of_lt_of_le h1 hS.1)).trans (hS.2.1 q h1 h2)⟩
theorem zVx (X : Cx p m c cc nL s args (w0 :: TBL) RX8 D cy) (hlk : meth.locks = false) (hz : ZQ A s) (ht : ∀ x ∈ c.exceptionTable.toList, False) (w : Wo s D cy A G M H locs) {y : MethodName} {ws ws' : List Cond} {rm : Room} {cb : ByteArray} {mL n index : Nat} {ret : Option FieldType} {As st : List Value} {b ci : Nat} {M1 : Mm} (hM : XT l y ws rm D cy G M (.ref b :: As) M1) (hg : GoodIn (w0 :: TBL) (wsV RX8 index C y ws)) (hw : ws = Cond.code y cb mL ret :: ws') (hrc : rm.cells = 1) (hrs : rm.slots = 6) (hd0 : y.cls = C ∧ y.cls ≠ "java/lang/invoke/MethodHandle" ∧ y.cls ≠ "java/lang/invoke/VarHandle" ∧ (parseMethodDescriptor y.desc).map (fun d => d.parameters.length) = some n) (hR : rm.frames + 1 ≤ R.frames ∧ 8 + (mL + 11) + rm.locals ≤ R.locals) (hc : vwCl[ci]? = some (C, T, N)) (hbk : isK G b ci) (hn : As.length = n) (hst : st = As.reverse ++ .ref b :: rest) (hls : ls.size = nL) (hrm : (rest.map fun v => v.category).sum ≤ 8) (hd : decode cc pc = .ok (.invokevirtual index, 3)) (hcs : 1 ≤ R.cells ∧ 6 ≤ R.slots) (h2 : M1 = M0) :
    W p l e R s m args below meth c H locs 0 0 (vx_MQ below QF (XCx D cy G A M0) args s 1 6 A) (F0 m pc ls st) := by
  subst h2
  have hF := wo_free w
  obtain ⟨⟨hx, hb, hml, hown, hts⟩, hK, hN⟩ := X
  obtain ⟨hP, hD, hS, hA⟩ := w
  obtain ⟨q0, -, hq⟩ := pw_get hbk.1 (ce_o (M := M) (cy := cy) hbk.2 (cl_lt hc))
  intro T0 hT X0
  rcases vx_runV (As := As) (rest := rest) (g := F0 m pc ls st) (cells := 0) (slots := 0) ⟨hx, hb, hml, hown, hts⟩ (hM H.size) (cwV n hts hg hw hrc hrs hd0 hR) ⟨prex_blind, va_recv hK hP hc hq, fun U hU hW => ⟨rfl, by rw [hU], hN.warm hW, va_K.moved hW.alike hK, by rw [hU]; exact hP, hD.weaken (fun _ _ _ _ => trivial), zq_at hz hS hU hW.alike hF⟩⟩ rfl hn hls hst (lv_room hrm) hd (by omega) T0 hT X0 with ⟨v, st₀, t, T', L, h0, X', hL, e1, e2, hq, st⟩ | ⟨q, st₀, t, T', L, E, ce, h0, X', hL, e1, e2, ⟨u, hp, hb1, hF1⟩, hce, hcv, hcl, st⟩
  · exact hq.elim
  · subst hp
    obtain ⟨rfl, hP1, hK1, hD1⟩ := hb1
    obtain ⟨k1, k2, k3⟩ := vx_keep h0 e1 hS (fun q _ h => hF q h) hF hL hF1
    have hv : s.vm.Alike t.vm := by rw [← e2]; exact X'.warmed.alike
    obtain ⟨t2, a1, b1⟩ := vx_out (Qc := QF) (XC := XCx D cy G A u) (mc := 1) (ms := 6) (free := A) (ls := ls) (rest := rest) (pc := pc) (E := nse) (ce := ce) (q := q) (H := T'.heap) (fun x h => (ht x h).elim) hlk (by rw [e1]; exact hce) hcv hcl (fun t1 h1 ha => ⟨u, rfl, ⟨rfl, by rw [h1, e1]; exact hP1, va_K.moved ha hK, hD1.weaken (fun k q _ h => hF q.1 h)⟩, by rw [h1]; exact k3.1, fun q h3 h4 => by rw [h1]; exact k3.2.1 q h3 h4⟩) k3.2.2 (by omega) (by omega) T' rfl X'
    exact ⟨t2, st.trans a1, b1⟩
end ROWS
