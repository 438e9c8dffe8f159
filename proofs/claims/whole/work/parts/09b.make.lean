/-! objects and arrays made: the pool grows by an address; what was there stays -/
def gN (G : Gg) (q k n : Nat) : Gg := (G.1 ++ [q], va_up G.2.1 q k, va_up G.2.2 q n)
def mz (M : Mm) (q : Nat) : Mm := (va_up M.1 q (fun _ => 0), va_up M.2.1 q (fun _ => 0), va_up M.2.2 q (fun _ => none))
def ext (G G' : Gg) : Prop := ∀ a, a ∈ G.1 → a ∈ G'.1 ∧ G'.2.1 a = G.2.1 a ∧ G'.2.2 a = G.2.2 a
theorem ext_rf (G : Gg) : ext G G := fun _ h => ⟨h, rfl, rfl⟩
theorem ext_tr {G G1 G2 : Gg} (h : ext G G1) (h2 : ext G1 G2) : ext G G2 := fun a ha => by
  obtain ⟨x1, x2, x3⟩ := h a ha
  obtain ⟨y1, y2, y3⟩ := h2 a x1
  exact ⟨y1, y2.trans x2, y3.trans x3⟩
theorem ext_N {G : Gg} {q k n : Nat} (h : q ∉ G.1) : ext G (gN G q k n) := fun a ha => by
  have hne : a ≠ q := fun e => h (e ▸ ha)
  exact ⟨List.mem_append_left _ ha, va_up_ne _ _ hne, va_up_ne _ _ hne⟩
theorem isK_ext {G G' : Gg} {a c : Nat} (h : ext G G') (ha : isK G a c) : isK G' a c := ⟨(h a ha.1).1, (h a ha.1).2.1.trans ha.2⟩
theorem isK_N {G : Gg} {q k n : Nat} : isK (gN G q k n) q k := ⟨List.mem_append_right _ (List.mem_singleton.mpr rfl), va_up_self _ _ _⟩
theorem pw_push {cy : Cyy} {G : Gg} {M : Mm} {q k n : Nat} {e : va_E} (hq : q ∉ G.1) (he : ce cy (gN G q k n) (mz M q) q = e) : pw cy G M ++ [(q, e)] = pw cy (gN G q k n) (mz M q) := by
  have h1 : pw cy G M ++ [(q, e)] = va_pl (G.1 ++ [q]) (va_up (ce cy G M) q e) := va_pl_push hq
  rw [h1]
  refine va_pl_congr (fun a => ?_)
  by_cases ha : a = q
  · subst ha
    rw [va_up_self, he]
  · rw [va_up_ne _ _ ha]
    have hk : (gN G q k n).2.1 a = G.2.1 a := va_up_ne _ _ ha
    have hn : (gN G q k n).2.2 a = G.2.2 a := va_up_ne _ _ ha
    have e1 : ce cy (gN G q k n) (mz M q) a = ce cy (gN G q k n) M a := ce_ne (va_up_ne _ _ ha) (va_up_ne _ _ ha) (va_up_ne _ _ ha)
    rw [e1]
    unfold ce
    rw [hk, hn]
def sameM (M M' : Mm) (z : Nat) : Prop := M'.1 z = M.1 z ∧ M'.2.1 z = M.2.1 z ∧ M'.2.2 z = M.2.2 z
/-- the pool may have grown; of the old cells only a's may have changed -/
def exm (G : Gg) (M : Mm) (a : Nat) (u : Gg × Mm) : Prop := ext G u.1 ∧ ∀ z, z ∈ G.1 → z ≠ a → sameM M u.2 z
theorem exm_rf (G : Gg) (M : Mm) (a : Nat) : exm G M a (G, M) := ⟨ext_rf G, fun _ _ _ => ⟨rfl, rfl, rfl⟩⟩
theorem exm_N {G G1 : Gg} {M M1 : Mm} {a q k n : Nat} (h : exm G M a (G1, M1)) (hq : q ∉ G1.1) : exm G M a (gN G1 q k n, mz M1 q) := ⟨ext_tr h.1 (ext_N hq), fun z hz hza => by
  have hne : z ≠ q := fun e => hq (e ▸ (h.1 z hz).1)
  obtain ⟨x1, x2, x3⟩ := h.2 z hz hza
  exact ⟨(va_up_ne _ _ hne).trans x1, (va_up_ne _ _ hne).trans x2, (va_up_ne _ _ hne).trans x3⟩⟩
theorem exm_w {G G1 : Gg} {M M1 M2 : Mm} {a b : Nat} (h : exm G M a (G1, M1)) (hb : ∀ z, z ∈ G.1 → z ≠ a → z ≠ b) (hw : ∀ z, z ≠ b → M2.1 z = M1.1 z ∧ M2.2.1 z = M1.2.1 z ∧ M2.2.2 z = M1.2.2 z) : exm G M a (G1, M2) := ⟨h.1, fun z hz hza => by
  obtain ⟨x1, x2, x3⟩ := h.2 z hz hza
  obtain ⟨y1, y2, y3⟩ := hw z (hb z hz hza)
  exact ⟨y1.trans x1, y2.trans x2, y3.trans x3⟩⟩
theorem exm_C {G G1 : Gg} {M M1 : Mm} {a b : Nat} {u : Gg × Mm} (h : exm G M a (G1, M1)) (h2 : exm G1 M1 b u) (hb : b ∉ G.1) : exm G M a (u.1, u.2) := ⟨ext_tr h.1 h2.1, fun z hz hza => by
  have hne : z ≠ b := fun e => hb (e ▸ hz)
  obtain ⟨x1, x2, x3⟩ := h.2 z hz hza
  obtain ⟨y1, y2, y3⟩ := h2.2 z (h.1 z hz).1 hne
  exact ⟨y1.trans x1, y2.trans x2, y3.trans x3⟩⟩
theorem mz_ne {M : Mm} {q z k : Nat} {x : Option Nat} (h : M.2.2 z k = x) (hne : z ≠ q) : (mz M q).2.2 z k = x := by
  show va_up M.2.2 q (fun _ => none) z k = x
  rw [va_up_ne _ _ hne]; exact h
theorem mwP_ne {M : Mm} {b j z k : Nat} {x y : Option Nat} (h : M.2.2 z k = x) (hne : z ≠ b) : (mwP M b j y).2.2 z k = x := by
  show va_up M.2.2 b _ z k = x
  rw [va_up_ne _ _ hne]; exact h
theorem mwP_nf {M : Mm} {j z k : Nat} {x y : Option Nat} (h : M.2.2 z k = x) (hne : k ≠ j) : (mwP M z j y).2.2 z k = x := by
  rw [mwP_1, va_up_ne _ _ hne]; exact h
theorem sm_get {M M' : Mm} {z k : Nat} {x : Option Nat} (h : sameM M M' z) (e : M.2.2 z k = x) : M'.2.2 z k = x := by rw [h.2.2]; exact e
theorem mwP_get {M : Mm} {a k : Nat} {x : Option Nat} : (mwP M a k x).2.2 a k = x := by rw [mwP_1, va_up_self]
def CN (l : Launch) (y : MethodName) (ws : List Cond) (rm : Room) (D : va_G) (cy : Cyy) (G : Gg) (M : Mm) (a mc ms : Nat) (X : State → Prop) (post : Gg × Mm → Prop) : Prop := ∀ sz : Nat, Met l y ws rm (va_Pc [.ref a] (fun U => U.heap.size = sz ∧ NW U ∧ va_K D vwCl (tyc cy) U ∧ va_P D vwCl (pw cy G M) U.heap ∧ va_D (fun _ => True) (pw cy G M) ∧ X U)) (va_Qv (fun u : Gg × Mm => post u ∧ exm G M a u) (fun u t => Pow D cy u.1 (PA cy G M sz) u.2 t) (PA cy G M sz)) mc ms (PA cy G M sz)
def AOw (U : State) : Prop := va_AO RX0 U
abbrev noX (_ : State) : Prop := True
theorem CN_of {l : Launch} {y : MethodName} {ws ws' : List Cond} {rm : Room} {cc : ByteArray} {nL mc ms : Nat} {own : String} {D : va_G} {cy : Cyy} {G : Gg} {M : Mm} {a : Nat} {XX : State → Prop} {post : Gg × Mm → Prop} (hy : plainName y.cls = true) (hy2 : y.name = "<init>") (hw : ws = Cond.code y cc nL none :: ws') (ho : y.cls = own) (hn : (lg_sl [.ref a]).length ≤ nL)
    (body : ∀ (p : Program) (e : Env) (s : State) (m : MethodId) (args : Array Value) (below : List Frame) (meth : Method) (c : Code) (A : Nat → Prop) (ls : Array Slot), Cx p m c cc nL s args ws own D cy → meth.sig.returnType = none → meth.locks = false → meth.name = "<init>" → XX s → Wo s D cy A G M s.heap [] → lv_has ls nL [(0, .ref a)] → W p l e rm s m args below meth c s.heap [] 0 0 (MQ below (va_Qv (fun u : Gg × Mm => post u ∧ exm G M a u) (fun u t => Pow D cy u.1 A u.2 t) A) args s mc ms A) (F0 m 0 ls [])) :
    CN l y ws rm D cy G M a mc ms XX post := by
  intro sz
  refine Met.ofW (cc := cc) (maxL := nL) (ret := none) hy hw ?_
  intro p e s m args below meth c s₁ B hml hv
  obtain ⟨rfl, hsz, hN, hK, hP, hD0, hX⟩ := hv
  have hts := atoms_spec (ws := ws) B.pre
  have hown : s.vm.findClass y.cls = some m.cls := findClass_of_methodNamed B.named
  rw [ho] at hown
  have hin : meth.name = "<init>" := ((name_of_methodNamed B.named B.method).1).trans hy2
  subst hsz
  have hl := lv_entry [.ref a] (n := nL) hn
  rw [lg_entry_eq]
  generalize (lg_sl [.ref a] ++ List.replicate (nL - (lg_sl [.ref a]).length) Slot.unset).toArray = ls at hl ⊢
  have hl : lv_has ls nL [(0, .ref a)] := hl
  exact body p e s m ([.ref a] : List Value).toArray below meth c (PA cy G M s.heap.size) ls ⟨⟨B.exec, B.bytes, hml, hown, hts⟩, hK, hN⟩ B.returns B.notSynchronized hin hX ⟨hP, hD0.self, va_S.rf, fun q h => Or.inr h⟩ hl
section ROWS
variable {p : Program} {l : Launch} {e : Env} {R : Room} {s : State} {m : MethodId} {args : Array Value} {below : List Frame} {meth : Method} {c : Code} {H : Heap} {locs : List Loc} {cells slots : Nat} {Q : State → Prop}
variable {cc : ByteArray} {nL pc : Nat} {ls : Array Slot} {rest : List Value} {D : va_G} {cy : Cyy} {A : Nat → Prop} {own : String} {Ts : List Cond} {G : Gg} {M : Mm} {a : Nat} {C : String} {T : u_T} {N : Nat}
theorem zrN (X : Cx p m c cc nL s args Ts own D cy) (hr : meth.sig.returnType = none) (hlk : meth.locks = false) {G0 : Gg} {M0 : Mm} {post : Gg × Mm → Prop} (w : Wo s D cy A G M H locs) (hp : post (G, M)) (he : exm G0 M0 a (G, M)) (hd : decode cc pc = .ok (.return_, 1)) : W p l e R s m args below meth c H locs cells slots (MQ below (va_Qv (fun u : Gg × Mm => post u ∧ exm G0 M0 a u) (fun u t => Pow D cy u.1 A u.2 t) A) args s cells slots A) (F0 m pc ls []) := by
  obtain ⟨⟨hx, hb, hml, hown, hts⟩, hK, hN⟩ := X
  obtain ⟨hP, hD, hS, hA⟩ := w
  exact W.vret hx hb hr (fun t ht hW => ⟨⟨(G, M), rfl, ⟨hp, he⟩, by rw [ht]; exact hP, va_K.moved hW.alike hK, hD⟩, hS.F ht⟩) hS.2.2 hd hlk
theorem zobj (X : Cx p m c cc nL s args Ts own D cy) (hls : ls.size = nL) {idx : Nat} (h1 : Cond.methodLink own idx Lib.objectInit ∈ Ts) (h2 : Cond.instanceMethod Lib.objectInit ∈ Ts) (h3 : Cond.code Lib.objectInit ⟨#[0xb1]⟩ 1 none ∈ Ts) (hd : decode cc pc = .ok (.invokespecial idx, 3)) (hf : 1 ≤ R.frames) (hlo : (rest.map fun v => v.category).sum + 12 ≤ R.locals)
    (kk : W p l e R s m args below meth c H locs cells slots Q (F0 m (pc + 3) ls rest)) : W p l e R s m args below meth c H locs cells slots Q (F0 m pc ls (.ref a :: rest)) := by
  obtain ⟨⟨hx, hb, hml, hown, hts⟩, hK, hN⟩ := X
  exact W.objInit hx hb hown (hts _ h1) (hts _ h2) (hts _ h3) rfl (hls.trans hml.symm) rfl hd hf (by show 2 * 0 + _ + 12 ≤ _; omega) kk
theorem zAi (X : Cx p m c cc nL s args Ts own D cy) (w : Wo s D cy A G M H locs) (h1 : Cond.arrayClass .int ∈ Ts) {n : Int32} (k : Nat) (hn : ¬ n < 0) (hN : n.toNatClampNeg = k) (hk : k * 4 ≤ 536870912) (hc : cells + 1 ≤ R.cells) (hs : slots + k ≤ R.slots) (hd : decode cc pc = .ok (.newarray .int, 2))
    (kk : ∀ (q : Nat) (H : Heap), q ∉ G.1 → Wo s D cy A (gN G q 10 k) (mz M q) H locs → W p l e R s m args below meth c H locs (cells + 1) (slots + k) Q (F0 m (pc + 2) ls (.ref q :: rest))) : W p l e R s m args below meth c H locs cells slots Q (F0 m pc ls (.int n :: rest)) := by
  obtain ⟨⟨hx, hb, hml, hown, hts⟩, hK, hN0⟩ := X
  obtain ⟨hP, hD, hS, hA⟩ := w
  refine va_newa (atype := .int) (ty := .int) (a0 := (k, .inl (fun _ => 0))) hx hb (hts _ h1) rfl hK hP hD hS hA (fun cA => rfl) hn hN hk hc hs hd (fun q cA H1 hK1 hP1 hD1 hS1 => ?_)
  have hq : q ∉ G.1 := va_pl_fresh2 (X := []) hD1
  have e1 := (hK1.2 3 (cA, .int) rfl).2
  have e2 := (hK.2 0 (cy.1, .int) rfl).2
  have e3 : cA = cy.1 := Option.some.inj ((show s.vm.findClass _ = some cA from e1).symm.trans (show s.vm.findClass _ = some cy.1 from e2))
  subst e3
  have he : pw cy G M ++ [(q, .inl (cy.1, k, .inl (fun _ => 0)))] = pw cy (gN G q 10 k) (mz M q) := pw_push hq (by
    rw [ce_i (va_up_self _ _ _)]
    show Sum.inl (cy.1, va_up G.2.2 q k q, Sum.inl (va_up M.1 q (fun _ => 0) q)) = _
    rw [va_up_self, va_up_self])
  rw [he] at hP1 hD1
  exact kk q H1 hq ⟨hP1, hD1, hS1, hA⟩
theorem zAl (X : Cx p m c cc nL s args Ts own D cy) (w : Wo s D cy A G M H locs) (h1 : Cond.arrayClass .long ∈ Ts) {n : Int32} (k : Nat) (hn : ¬ n < 0) (hN : n.toNatClampNeg = k) (hk : k * 8 ≤ 536870912) (hc : cells + 1 ≤ R.cells) (hs : slots + k ≤ R.slots) (hd : decode cc pc = .ok (.newarray .long, 2))
    (kk : ∀ (q : Nat) (H : Heap), q ∉ G.1 → Wo s D cy A (gN G q 11 k) (mz M q) H locs → W p l e R s m args below meth c H locs (cells + 1) (slots + k) Q (F0 m (pc + 2) ls (.ref q :: rest))) : W p l e R s m args below meth c H locs cells slots Q (F0 m pc ls (.int n :: rest)) := by
  obtain ⟨⟨hx, hb, hml, hown, hts⟩, hK, hN0⟩ := X
  obtain ⟨hP, hD, hS, hA⟩ := w
  refine va_newa (atype := .long) (ty := .long) (a0 := (k, .inr (.inl (fun _ => 0)))) hx hb (hts _ h1) rfl hK hP hD hS hA (fun cA => rfl) hn hN hk hc hs hd (fun q cA H1 hK1 hP1 hD1 hS1 => ?_)
  have hq : q ∉ G.1 := va_pl_fresh2 (X := []) hD1
  have e1 := (hK1.2 3 (cA, .long) rfl).2
  have e2 := (hK.2 1 (cy.2.1, .long) rfl).2
  have e3 : cA = cy.2.1 := Option.some.inj ((show s.vm.findClass _ = some cA from e1).symm.trans (show s.vm.findClass _ = some cy.2.1 from e2))
  subst e3
  have he : pw cy G M ++ [(q, .inl (cy.2.1, k, .inr (.inl (fun _ => 0))))] = pw cy (gN G q 11 k) (mz M q) := pw_push hq (by
    rw [ce_l (va_up_self _ _ _)]
    show Sum.inl (cy.2.1, va_up G.2.2 q k q, Sum.inr (Sum.inl (va_up M.2.1 q (fun _ => 0) q))) = _
    rw [va_up_self, va_up_self])
  rw [he] at hP1 hD1
  exact kk q H1 hq ⟨hP1, hD1, hS1, hA⟩
theorem zAr (X : Cx p m c cc nL s args Ts own D cy) (w : Wo s D cy A G M H locs) {idx : Nat} (h1 : Cond.classLink own idx RX0 ∈ Ts) (h2 : AOw s) {n : Int32} (k : Nat) (hn : ¬ n < 0) (hN : n.toNatClampNeg = k) (hk : k * 4 ≤ 536870912) (hc : cells + 1 ≤ R.cells) (hs : slots + k ≤ R.slots) (hd : decode cc pc = .ok (.anewarray idx, 3))
    (kk : ∀ (q : Nat) (H : Heap), q ∉ G.1 → Wo s D cy A (gN G q 12 k) (mz M q) H locs → W p l e R s m args below meth c H locs (cells + 1) (slots + k) Q (F0 m (pc + 3) ls (.ref q :: rest))) : W p l e R s m args below meth c H locs cells slots Q (F0 m pc ls (.int n :: rest)) := by
  obtain ⟨⟨hx, hb, hml, hown, hts⟩, hK, hN0⟩ := X
  obtain ⟨hP, hD, hS, hA⟩ := w
  refine va_newq (C := RX0) hx hb hown (hts _ h1) h2 hK hP hD hS hA hn hN hk hc hs hd (fun q cA H1 hK1 hP1 hD1 hS1 => ?_)
  have hq : q ∉ G.1 := va_pl_fresh2 (X := []) hD1
  obtain ⟨k1, c1, -, -, -, e1⟩ := (hK1.2 3 (cA, .object RX0) rfl).2
  obtain ⟨k2, c2, -, -, -, e2⟩ := (hK.2 2 (cy.2.2, .object RX0) rfl).2
  have e3 : cA = cy.2.2 := Option.some.inj (e1.symm.trans e2)
  subst e3
  have he : pw cy G M ++ [(q, .inl (cy.2.2, k, .inr (.inr (.inr (.inr (fun _ => none))))))] = pw cy (gN G q 12 k) (mz M q) := pw_push hq (by
    rw [ce_r (va_up_self _ _ _)]
    show Sum.inl (cy.2.2, va_up G.2.2 q k q, Sum.inr (Sum.inr (Sum.inr (Sum.inr (va_up M.2.2 q (fun _ => none) q))))) = _
    rw [va_up_self, va_up_self])
  rw [he] at hP1 hD1
  exact kk q H1 hq ⟨hP1, hD1, hS1, hA⟩
def fz (c : Nat) : List Value := fl ((fun _ _ => 0), (fun _ _ => 0), (fun _ _ => none)) 0 c
theorem fz_eq {M : Mm} {q c : Nat} : fl (mz M q) q c = fz c := by
  unfold fz fl
  congr 1
  funext k t
  unfold fv mz
  simp only [va_up_self]
theorem zAo (X : Cx p m c cc nL s args Ts own D cy) (w : Wo s D cy A G M H locs) {idx : Nat} (ci : Nat) (tt : Nat → FieldType) (hc0 : vwCl[ci]? = some (C, T, N)) (hin : ∀ w ∈ u_ws C T N, w ∈ Ts) (hty : ∀ k, k < N → parseFieldDescriptor (T k).2.2.1 = some (tt k)) (h1 : Cond.classLink own idx C ∈ Ts) (h2 : Cond.instantiable C N ∈ Ts) (h3 : Cond.initialized C ∈ Ts) (hfs : ∀ j, j < N → defaultValue (tt j) = vp_V (fz ci) j) (hc : cells + 1 ≤ R.cells) (hs : slots + N ≤ R.slots) (hd : decode cc pc = .ok (.new idx, 3))
    (kk : ∀ (q : Nat) (H : Heap), q ∉ G.1 → Wo s D cy A (gN G q ci 0) (mz M q) H locs → W p l e R s m args below meth c H locs (cells + 1) (slots + N) Q (F0 m (pc + 3) ls (.ref q :: rest))) : W p l e R s m args below meth c H locs cells slots Q (F0 m pc ls rest) := by
  obtain ⟨⟨hx, hb, hml, hown, hts⟩, hK, hN0⟩ := X
  obtain ⟨hP, hD, hS, hA⟩ := w
  refine va_new (fs := fz ci) hx hb hts hin tt hty hown (hts _ h1) (hts _ h2) (hts _ h3) hK hP hD hS hA hc0 hfs hc hs hd (fun q H1 hP1 hD1 hS1 => ?_)
  have hq : q ∉ G.1 := va_pl_fresh2 (X := []) hD1
  have he : pw cy G M ++ [(q, .inr (ci, fz ci))] = pw cy (gN G q ci 0) (mz M q) := pw_push hq (by
    rw [ce_o (va_up_self _ _ _) (cl_lt hc0), fz_eq])
  rw [he] at hP1 hD1
  exact kk q H1 hq ⟨hP1, hD1, hS1, hA⟩
theorem zpF (X : Cx p m c cc nL s args Ts own D cy) (w : Wo s D cy A G M H locs) (hin2 : meth.name = "<init>") (ci k idx : Nat) (tt : Nat → FieldType) (hc : vwCl[ci]? = some (C, T, N)) (hin : ∀ w ∈ u_ws C T N, w ∈ Ts) (hty : ∀ k, k < N → parseFieldDescriptor (T k).2.2.1 = some (tt k)) (hnm : ∀ a, a < N → ∀ b, b < N → a ≠ b → (T a).2.1 ≠ (T b).2.1) (hk : k < N) (ht : (fT ci)[k]? = some 2) (hl : Cond.fieldLink own idx (T k).1 (T k).2.1 (T k).2.2.1 ∈ Ts) (hfin : (T k).2.2.2 = true) (hdecl : (T k).1 = own) {x : Nat} (hn : narrow (tt k) (.ref x) = .ref x) (hfit : fits (tt k) (.ref x) = true) (hd : decode cc pc = .ok (.putfield idx, 3)) (ha : isK G a ci)
    (kk : ∀ (H : Heap) (locs : List Loc), Wo s D cy A G (mwP M a k (some x)) H locs → W p l e R s m args below meth c H locs cells slots Q (F0 m (pc + 3) ls rest)) : W p l e R s m args below meth c H locs cells slots Q (F0 m pc ls (.ref x :: .ref a :: rest)) := by
  obtain ⟨⟨hx, hb, hml, hown, hts⟩, hK, hN⟩ := X
  obtain ⟨hP, hD, hS, hA⟩ := w
  obtain ⟨q0, hq1, hq⟩ := pw_get ha.1 (ce_o (M := M) (cy := cy) ha.2 (cl_lt hc))
  have he : (pw cy G M).set q0 (a, .inr (ci, (fl M a ci).set k (.ref x))) = pw cy G (mwP M a k (some x)) := pw_set hD ha.1 hq1 (by rw [show (fl M a ci).set k (.ref x) = fl (mwP M a k (some x)) a ci from fl_P (x := some x) ht]; exact ce_o ha.2 (cl_lt hc)) mwP_o
  refine va_putF hx hb hts hin tt hty hnm hown hK hP hD hS q0 hq hc k hk (hts _ hl) (fun _ h9 => h9) hfin hin2 hdecl (hty k hk) hn hfit (by unfold fl; rw [List.length_mapIdx]; exact (List.getElem?_eq_some_iff.mp ht).1) hd (fun H1 l1 hP1 hD1 hS1 => ?_)
  rw [he] at hP1 hD1
  exact kk H1 l1 ⟨hP1, hD1, hS1, hA⟩
theorem zI (X : Cx p m c cc nL s args Ts own D cy) (w : Wo s D cy A G M H locs) {y : MethodName} {ws ws' : List Cond} {rm : Room} {cb : ByteArray} {mL n index mc ms : Nat} {b : Nat} {st : List Value} {XX : State → Prop} {post : Gg × Mm → Prop} (hM : CN l y ws rm D cy G M b mc ms XX post) (hxx : ∀ U : State, s.WarmedH U.vm → XX U) (hxb : ∀ (U : State) (g : JFrame) (mk : MethodId) (a : Array Value), XX U → XX (U.calling g mk a)) (hg : GoodIn Ts ws) (hw : ws = Cond.code y cb mL none :: ws') (hrc : rm.cells = mc) (hrs : rm.slots = ms) (hini : Cond.initialized y.cls ∈ Ts) (hl : Cond.methodLink own index y ∈ Ts) (hinm : Cond.instanceMethod y ∈ Ts) (hy1 : y.name = "<init>") (hd0 : y.cls ≠ "java/lang/invoke/MethodHandle" ∧ y.cls ≠ "java/lang/invoke/VarHandle" ∧ (parseMethodDescriptor y.desc).map (fun d => d.parameters.length) = some n) (hR : rm.frames + 1 ≤ R.frames ∧ 8 + (mL + 11) + rm.locals ≤ R.locals) (hn : 0 = n) (hst : st = .ref b :: rest) (hls : ls.size = nL) (hrm : (rest.map fun v => v.category).sum ≤ 8) (hd : decode cc pc = .ok (.invokespecial index, 3)) (hcs : cells + mc ≤ R.cells ∧ slots + ms ≤ R.slots)
    (kk : ∀ (u : Gg × Mm) (H : Heap) (locs : List Loc), post u → exm G M b u → Wo s D cy A u.1 u.2 H locs → W p l e R s m args below meth c H locs (cells + mc) (slots + ms) Q (F0 m (pc + 3) ls rest)) : W p l e R s m args below meth c H locs cells slots Q (F0 m pc ls st) := by
  have hF := wo_free w
  obtain ⟨⟨hx, hb, hml, hown, hts⟩, hK, hN⟩ := X
  obtain ⟨hP, hD, hS, hA⟩ := w
  refine va_callv (va_runI (As := []) (rest := rest) ⟨hx, hb, hml, hown, hts⟩ (hM H.size) (cwI n hts hg hw hrc hrs (hts _ hini) (hts _ hl) (hts _ hinm) hy1 hd0 hR) ⟨fun a U g mk q => (by
    obtain ⟨q0, q1, q2, qK, qP, qD, qX⟩ := q
    exact ⟨q0, q1, q2.same rfl, va_K.moved (u := U) (U := U.calling g mk a) (Vm.Alike.refl U.vm) qK, qP, qD, hxb U g mk a qX⟩), fun U hU hW => ⟨rfl, by rw [hU], hN.warm hW, va_K.moved hW.alike hK, by rw [hU]; exact hP, hD.weaken (fun _ _ _ _ => trivial), hxx U hW⟩⟩ rfl hn hls hst (lv_room hrm) hd hcs) hS (fun q _ h => hF q h) hF (fun u t H1 locs1 ht hvm hp hB hz1 hk1 hS1 => ?_)
  obtain ⟨hp1, hp2⟩ := hp
  obtain ⟨hP1, hK1, hD1⟩ := hB
  rw [ht] at hP1
  exact kk u H1 locs1 hp1 hp2 ⟨hP1, hD1.weaken (fun k q _ h => hF q.1 h), hS1, hA⟩
end ROWS
theorem wob : Cond.instanceMethod Lib.objectInit ∈ TBL := by decide +kernel
theorem woc : Cond.code Lib.objectInit ⟨#[0xb1]⟩ 1 none ∈ TBL := by decide +kernel
theorem wai : Cond.arrayClass .int ∈ TBL := by decide +kernel
theorem wal : Cond.arrayClass .long ∈ TBL := by decide +kernel
