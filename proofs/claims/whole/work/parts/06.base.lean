/-! the memory that every method here works on: ints, longs and references, by address and place; the shape: addresses, kinds, lengths -/
abbrev Mm : Type := (Nat → Nat → Int32) × (Nat → Nat → Int64) × (Nat → Nat → Option Nat)
abbrev Gg : Type := List Nat × (Nat → Nat) × (Nat → Nat)
def mwI (M : Mm) (a k : Nat) (x : Int32) : Mm := (va_up M.1 a (upd (M.1 a) k x), M.2.1, M.2.2)
def mwJ (M : Mm) (a k : Nat) (x : Int64) : Mm := (M.1, va_up M.2.1 a (vp_updL (M.2.1 a) k x), M.2.2)
def mwP (M : Mm) (a k : Nat) (x : Option Nat) : Mm := (M.1, M.2.1, va_up M.2.2 a (va_up (M.2.2 a) k x))
def mwC (M : Mm) (a : Nat) (f : Nat → Int32) : Mm := (va_up M.1 a f, M.2.1, M.2.2)
abbrev isK (G : Gg) (a c : Nat) : Prop := a ∈ G.1 ∧ G.2.1 a = c
abbrev inb (i : Int32) (n : Nat) : Prop := ¬ (i < 0 ∨ n ≤ i.toNatClampNeg)
/-- a check: what follows, or nothing -/
def ck {α : Type} (c : Prop) [Decidable c] (k : Option α) : Option α := if c then k else none
def OK {α : Type} (o : Option α) (Q : α → Prop) : Prop := ∃ x, o = some x ∧ Q x
theorem ok_c {α : Type} {c : Prop} [Decidable c] {k : Option α} {Q : α → Prop} (h : OK (ck c k) Q) : c ∧ OK k Q := by
  obtain ⟨x, h1, h2⟩ := h
  unfold ck at h1
  split at h1
  · rename_i hc
    exact ⟨hc, x, h1, h2⟩
  · cases h1
theorem ok_b {α β : Type} {o : Option α} {k : α → Option β} {Q : β → Prop} (h : OK (o.bind k) Q) : OK o (fun x => OK (k x) Q) := by
  obtain ⟨y, h1, h2⟩ := h
  cases o with
  | none => cases h1
  | some x => exact ⟨x, rfl, y, h1, h2⟩
theorem ok_p {α : Type} {c : Prop} [Decidable c] {a b : Option α} {Q : α → Prop} (hc : c) (h : OK (if c then a else b) Q) : OK a Q := by rw [if_pos hc] at h; exact h
theorem ok_n {α : Type} {c : Prop} [Decidable c] {a b : Option α} {Q : α → Prop} (hc : ¬ c) (h : OK (if c then a else b) Q) : OK b Q := by rw [if_neg hc] at h; exact h
theorem ok_s {α : Type} {x : α} {Q : α → Prop} (h : OK (some x) Q) : Q x := by
  obtain ⟨y, h1, h2⟩ := h
  cases h1
  exact h2
theorem ok_0 {α : Type} {P : Prop} {Q : α → Prop} (h : OK (none : Option α) Q) : P := by
  obtain ⟨y, h1, h2⟩ := h
  cases h1
theorem ok_i {α : Type} {x : α} {Q : α → Prop} (h : Q x) : OK (some x) Q := ⟨x, rfl, h⟩
def onE {α : Type} (q : Option Nat) (a : Option α) (b : Nat → Option α) : Option α := match q with
  | none => a
  | some r => b r
def onS {α β γ : Type} (q : α ⊕ β) (a : α → Option γ) (b : β → Option γ) : Option γ := match q with
  | .inl x => a x
  | .inr y => b y
theorem ok_e0 {α : Type} {a : Option α} {b : Nat → Option α} {Q : α → Prop} (h : OK (onE none a b) Q) : OK a Q := h
theorem ok_e1 {α : Type} {a : Option α} {b : Nat → Option α} {Q : α → Prop} {r : Nat} (h : OK (onE (some r) a b) Q) : OK (b r) Q := h
theorem ok_l {α β γ : Type} {a : α → Option γ} {b : β → Option γ} {Q : γ → Prop} {x : α} (h : OK (onS (.inl x) a b) Q) : OK (a x) Q := h
theorem ok_r {α β γ : Type} {a : α → Option γ} {b : β → Option γ} {Q : γ → Prop} {y : β} (h : OK (onS (.inr y) a b) Q) : OK (b y) Q := h
/-- more than any loop here needs -/
def FU : Nat := 1000
theorem sw_ne {x : Int32} {k : Nat} (hk : k < 2 ^ 31) (h : ¬ x = nI k) : x.toInt ≠ (k : Int) := by
  intro e
  apply h
  apply Int32.toInt_inj.mp
  rw [e, nI_toInt hk]
/-- the classes' fields: 0 an int, 1 a long, 2 a reference -/
def fT : Nat → List Nat
  | 0 => [0, 0, 2, 2, 2, 2, 1]
  | 1 => [1, 1]
  | 2 => [2, 2]
  | 3 => [2, 2, 0]
  | 4 => [0, 1, 1]
  | 5 => [2, 2, 0, 0]
  | 6 => [2, 0]
  | 7 => [2, 2, 1]
  | 8 => [2, 2, 0, 2, 2, 2, 2, 2, 2, 2]
  | 9 => [0, 2, 0, 2, 2, 2, 2, 2, 0, 2, 2, 2, 2, 2, 2, 2, 2, 0, 2, 2, 1, 1, 1]
  | _ => []
def fv (M : Mm) (a k t : Nat) : Value := match t with
  | 0 => .int (M.1 a k)
  | 1 => .long (M.2.1 a k)
  | _ => va_rf (M.2.2 a k)
def fl (M : Mm) (a c : Nat) : List Value := (fT c).mapIdx (fun k t => fv M a k t)
def ce (cy : ClassId × ClassId × ClassId) (G : Gg) (M : Mm) (a : Nat) : va_E :=
  if G.2.1 a < 10 then .inr (G.2.1 a, fl M a (G.2.1 a)) else if G.2.1 a = 10 then .inl (cy.1, G.2.2 a, .inl (M.1 a)) else if G.2.1 a = 11 then .inl (cy.2.1, G.2.2 a, .inr (.inl (M.2.1 a))) else .inl (cy.2.2, G.2.2 a, .inr (.inr (.inr (.inr (M.2.2 a)))))
theorem fl_at {M : Mm} {a c k t : Nat} (h : (fT c)[k]? = some t) : (fl M a c)[k]? = some (fv M a k t) := by
  unfold fl
  rw [List.getElem?_mapIdx, h]
  rfl
theorem fl_set {M M' : Mm} {a c k t : Nat} {v : Value} (h : (fT c)[k]? = some t) (hv : fv M' a k t = v) (ho : ∀ j u, j ≠ k → fv M' a j u = fv M a j u) : (fl M a c).set k v = fl M' a c := by
  apply List.ext_getElem?
  intro j
  rw [List.getElem?_set]
  unfold fl
  rw [List.length_mapIdx, List.getElem?_mapIdx, List.getElem?_mapIdx]
  by_cases hj : k = j
  · subst hj
    rw [if_pos rfl, h]
    have hl : k < (fT c).length := (List.getElem?_eq_some_iff.mp h).1
    rw [if_pos hl]
    simp [hv]
  · rw [if_neg hj]
    cases (fT c)[j]? with
    | none => rfl
    | some u => simp [ho j u (fun e => hj e.symm)]
theorem ce_o {cy : ClassId × ClassId × ClassId} {G : Gg} {M : Mm} {a c : Nat} (h : G.2.1 a = c) (hc : c < 10) : ce cy G M a = .inr (c, fl M a c) := by
  subst h
  unfold ce
  rw [if_pos hc]
theorem ce_i {cy : ClassId × ClassId × ClassId} {G : Gg} {M : Mm} {a : Nat} (h : G.2.1 a = 10) : ce cy G M a = .inl (cy.1, G.2.2 a, .inl (M.1 a)) := by
  unfold ce
  rw [h, if_neg (by decide), if_pos rfl]
theorem ce_l {cy : ClassId × ClassId × ClassId} {G : Gg} {M : Mm} {a : Nat} (h : G.2.1 a = 11) : ce cy G M a = .inl (cy.2.1, G.2.2 a, .inr (.inl (M.2.1 a))) := by
  unfold ce
  rw [h, if_neg (by decide), if_neg (by decide), if_pos rfl]
theorem ce_r {cy : ClassId × ClassId × ClassId} {G : Gg} {M : Mm} {a : Nat} (h : G.2.1 a = 12) : ce cy G M a = .inl (cy.2.2, G.2.2 a, .inr (.inr (.inr (.inr (M.2.2 a))))) := by
  unfold ce
  rw [h, if_neg (by decide), if_neg (by decide), if_neg (by decide)]
/-- cells at other addresses stay -/
theorem ce_ne {cy : ClassId × ClassId × ClassId} {G : Gg} {M M' : Mm} {b : Nat} (h1 : M'.1 b = M.1 b) (h2 : M'.2.1 b = M.2.1 b) (h3 : M'.2.2 b = M.2.2 b) : ce cy G M' b = ce cy G M b := by
  have hf : ∀ c, fl M' b c = fl M b c := by
    intro c
    unfold fl
    have : (fun k t => fv M' b k t) = (fun k t => fv M b k t) := by
      funext k t
      unfold fv
      rw [h1, h2, h3]
    rw [this]
  unfold ce
  rw [h1, h2, h3, hf]
theorem ce_up {cy : ClassId × ClassId × ClassId} {G : Gg} {M M' : Mm} {a : Nat} {x : va_E} (hx : ce cy G M' a = x) (h : ∀ b, b ≠ a → M'.1 b = M.1 b ∧ M'.2.1 b = M.2.1 b ∧ M'.2.2 b = M.2.2 b) : ∀ b, va_up (ce cy G M) a x b = ce cy G M' b := by
  intro b
  by_cases hb : b = a
  · subst hb
    rw [va_up_self, hx]
  · rw [va_up_ne _ _ hb]
    exact (ce_ne (h b hb).1 (h b hb).2.1 (h b hb).2.2).symm
theorem mwI_o {M : Mm} {a k : Nat} {x : Int32} : ∀ b, b ≠ a → (mwI M a k x).1 b = M.1 b ∧ (mwI M a k x).2.1 b = M.2.1 b ∧ (mwI M a k x).2.2 b = M.2.2 b := fun b hb => ⟨va_up_ne _ _ hb, rfl, rfl⟩
theorem mwJ_o {M : Mm} {a k : Nat} {x : Int64} : ∀ b, b ≠ a → (mwJ M a k x).1 b = M.1 b ∧ (mwJ M a k x).2.1 b = M.2.1 b ∧ (mwJ M a k x).2.2 b = M.2.2 b := fun b hb => ⟨rfl, va_up_ne _ _ hb, rfl⟩
theorem mwP_o {M : Mm} {a k : Nat} {x : Option Nat} : ∀ b, b ≠ a → (mwP M a k x).1 b = M.1 b ∧ (mwP M a k x).2.1 b = M.2.1 b ∧ (mwP M a k x).2.2 b = M.2.2 b := fun b hb => ⟨rfl, rfl, va_up_ne _ _ hb⟩
theorem mwC_o {M : Mm} {a : Nat} {f : Nat → Int32} : ∀ b, b ≠ a → (mwC M a f).1 b = M.1 b ∧ (mwC M a f).2.1 b = M.2.1 b ∧ (mwC M a f).2.2 b = M.2.2 b := fun b hb => ⟨va_up_ne _ _ hb, rfl, rfl⟩
theorem mwI_1 {M : Mm} {a k : Nat} {x : Int32} : (mwI M a k x).1 a = upd (M.1 a) k x := va_up_self _ _ _
theorem mwJ_1 {M : Mm} {a k : Nat} {x : Int64} : (mwJ M a k x).2.1 a = vp_updL (M.2.1 a) k x := va_up_self _ _ _
theorem mwP_1 {M : Mm} {a k : Nat} {x : Option Nat} : (mwP M a k x).2.2 a = va_up (M.2.2 a) k x := va_up_self _ _ _
theorem mwC_1 {M : Mm} {a : Nat} {f : Nat → Int32} : (mwC M a f).1 a = f := va_up_self _ _ _
theorem fl_I {M : Mm} {a c k : Nat} {x : Int32} (h : (fT c)[k]? = some 0) : (fl M a c).set k (.int x) = fl (mwI M a k x) a c := by
  refine fl_set h ?_ ?_
  · show Value.int _ = _
    rw [mwI_1]
    simp [upd]
  · intro j u hj
    unfold fv
    rw [mwI_1]
    simp [upd, hj, mwI]
theorem fl_J {M : Mm} {a c k : Nat} {x : Int64} (h : (fT c)[k]? = some 1) : (fl M a c).set k (.long x) = fl (mwJ M a k x) a c := by
  refine fl_set h ?_ ?_
  · show Value.long _ = _
    rw [mwJ_1]
    simp [vp_updL]
  · intro j u hj
    unfold fv
    rw [mwJ_1]
    simp [vp_updL, hj, mwJ]
theorem fl_P {M : Mm} {a c k : Nat} {x : Option Nat} (h : (fT c)[k]? = some 2) : (fl M a c).set k (va_rf x) = fl (mwP M a k x) a c := by
  refine fl_set h ?_ ?_
  · show va_rf _ = _
    rw [mwP_1]
    simp [va_up]
  · intro j u hj
    unfold fv
    rw [mwP_1]
    simp [va_up, hj, mwP]
/-- the words of nest mates, which stand in no method's list -/
def nwOk (w : Cond) : Bool := match w with
  | .fieldLinkNest _ _ _ _ _ _ => true
  | .methodLinkNest _ _ _ _ => true
  | .declares _ => true
  | .castable _ _ => true
  | _ => false
def nwL : List Cond := [.fieldLinkNest "BlendBench" 78 "BlendBench$Tape" "length" "I" "BlendBench", .fieldLinkNest "BlendBench$Chain" 48 "BlendBench$Tape" "length" "I" "BlendBench", .fieldLinkNest "BlendBench$Partition" 25 "BlendBench$Chain" "size" "I" "BlendBench", .fieldLinkNest "BlendBench$Neck" 20 "BlendBench$Chain" "size" "I" "BlendBench", .fieldLinkNest "BlendBench$Minors" 22 "BlendBench$Chain" "size" "I" "BlendBench", .fieldLinkNest "BlendBench$Walk" 29 "BlendBench$Chain" "size" "I" "BlendBench", .fieldLinkNest "BlendBench$Hits" 54 "BlendBench$Chain" "size" "I" "BlendBench", .fieldLinkNest "BlendBench" 111 "BlendBench$Chain" "size" "I" "BlendBench", .fieldLinkNest "BlendBench$Hits" 40 "BlendBench$Chain" "q" "I" "BlendBench", .fieldLinkNest "BlendBench$Minors" 33 "BlendBench$Chain" "q" "I" "BlendBench", .fieldLinkNest "BlendBench$Walk" 42 "BlendBench$Chain" "q" "I" "BlendBench", .fieldLinkNest "BlendBench" 132 "BlendBench$Chain" "q" "I" "BlendBench", .fieldLinkNest "BlendBench$Walk" 45 "BlendBench$Chain" "cells" "[I" "BlendBench", .fieldLinkNest "BlendBench$Hits" 68 "BlendBench$Chain" "nexts" "[I" "BlendBench", .fieldLinkNest "BlendBench$Hits" 57 "BlendBench$Chain" "leads" "[I" "BlendBench", .fieldLinkNest "BlendBench$Minors" 61 "BlendBench$Chain" "shares" "[J" "BlendBench", .fieldLinkNest "BlendBench" 210 "BlendBench$Chain" "shares" "[J" "BlendBench", .fieldLinkNest "BlendBench$Neck" 41 "BlendBench$Chain" "total" "J" "BlendBench", .fieldLinkNest "BlendBench$Minors" 57 "BlendBench$Chain" "total" "J" "BlendBench", .fieldLinkNest "BlendBench" 207 "BlendBench$Chain" "total" "J" "BlendBench", .fieldLinkNest "BlendBench" 126 "BlendBench$Partition" "parts" "I" "BlendBench", .fieldLinkNest "BlendBench$Chain" 97 "BlendBench$Partition" "parts" "I" "BlendBench", .fieldLinkNest "BlendBench" 178 "BlendBench$Walk" "power" "J" "BlendBench", .fieldLinkNest "BlendBench" 244 "BlendBench$Hits" "minors" "LBlendBench$Minors;" "BlendBench", .fieldLinkNest "BlendBench" 235 "BlendBench$Neck" "set" "I" "BlendBench", .fieldLinkNest "BlendBench" 229 "BlendBench$Neck" "flow" "J" "BlendBench", .fieldLinkNest "BlendBench" 232 "BlendBench$Neck" "share" "J" "BlendBench", .fieldLinkNest "BlendBench$Chain" 84 "BlendBench$Fraction" "up" "J" "BlendBench", .fieldLinkNest "BlendBench$Chain" 79 "BlendBench$Fraction" "low" "J" "BlendBench", .methodLinkNest "BlendBench$Chain" 44 ⟨"BlendBench", "has", "(II)Z"⟩ "BlendBench", .methodLinkNest "BlendBench$Chain" 87 ⟨"BlendBench", "commonDivisor", "(JJ)J"⟩ "BlendBench", .methodLinkNest "BlendBench$Minors" 25 ⟨"BlendBench", "has", "(II)Z"⟩ "BlendBench", .methodLinkNest "BlendBench$Fraction" 16 ⟨"BlendBench", "commonDivisor", "(JJ)J"⟩ "BlendBench", .methodLinkNest "BlendBench$Walk" 35 ⟨"BlendBench", "has", "(II)Z"⟩ "BlendBench", .methodLinkNest "BlendBench$Neck" 47 ⟨"BlendBench", "isBelow", "(JJJJ)Z"⟩ "BlendBench", .methodLinkNest "BlendBench$Hits" 22 ⟨"BlendBench", "has", "(II)Z"⟩ "BlendBench", .declares ⟨"java/lang/RuntimeException", "<init>", "()V"⟩, .declares ⟨"java/lang/Exception", "<init>", "()V"⟩, .declares ⟨"java/lang/Throwable", "<init>", "()V"⟩, .castable "java/util/NoSuchElementException" "java/util/NoSuchElementException"]
def NW (U : State) : Prop := ∀ w ∈ nwL, va_Nw w U
theorem nwL_ok : ∀ w ∈ nwL, nwOk w = true := by decide +kernel
theorem NW.warm {s U : State} (h : NW s) (hW : s.WarmedH U.vm) : NW U := by
  intro w hw
  have h1 := h w hw
  have h2 := nwL_ok w hw
  cases w with
  | fieldLinkNest a i b n d h => exact va_Nw.warmF hW h1
  | methodLinkNest a i x h => exact va_Nw.warmM hW h1
  | declares x => exact va_Nw.warmD hW h1
  | castable C T => exact va_Nw.warmC hW h1
  | _ => cases h2
theorem nw_on {w : Cond} (h : nwOk w = true) : w.onTables = true := by
  cases w with
  | fieldLinkNest a i b n d h => rfl
  | methodLinkNest a i x h => rfl
  | declares x => rfl
  | castable C T => rfl
  | _ => cases h
theorem NW.same {s U : State} (h : NW s) (hv : s.vm = U.vm) : NW U := fun w hw => va_Nw.same (nw_on (nwL_ok w hw)) hv (h w hw)
theorem NW.use {s : State} (h : NW s) {w : Cond} (hw : w ∈ nwL) {args : Array Value} : w.before args s = true := va_Nw.use (nw_on (nwL_ok w hw)) (h w hw)
abbrev Cyy : Type := ClassId × ClassId × ClassId
abbrev tyc (cy : Cyy) : List (ClassId × FieldType) := [(cy.1, .int), (cy.2.1, .long), (cy.2.2, .object RX0)]
abbrev pw (cy : Cyy) (G : Gg) (M : Mm) : va_W := va_pl G.1 (ce cy G M)
/-- what a method knows at any of its points: the machine, its code, its class, its words, the classes -/
def Cx (p : Program) (m : MethodId) (c : Code) (cc : ByteArray) (nL : Nat) (s : State) (args : Array Value) (Ts : List Cond) (own : String) (D : va_G) (cy : Cyy) : Prop := CallFix p m c cc nL s args Ts own ∧ va_K D vwCl (tyc cy) s ∧ NW s
/-- the world at a point -/
def Wo (s : State) (D : va_G) (cy : Cyy) (A : Nat → Prop) (G : Gg) (M : Mm) (H : Heap) (locs : List Loc) : Prop := va_P D vwCl (pw cy G M) H ∧ va_D A (pw cy G M) ∧ va_S A s.heap H locs ∧ ∀ q, s.heap.size ≤ q → A q
theorem pw_get {cy : Cyy} {G : Gg} {M : Mm} {a : Nat} {x : va_E} (h : a ∈ G.1) (hx : ce cy G M a = x) : ∃ k : Nat, (pw cy G M)[k]? = some (a, ce cy G M a) ∧ (pw cy G M)[k]? = some (a, x) := by
  obtain ⟨k, hk⟩ := va_pl_get (X := []) (f := ce cy G M) h
  exact ⟨k, hk, by rw [← hx]; exact hk⟩
theorem pw_set {cy : Cyy} {G : Gg} {M M' : Mm} {A : Nat → Prop} {a k : Nat} {x : va_E} (hD : va_D A (pw cy G M)) (h : a ∈ G.1) (hk : (pw cy G M)[k]? = some (a, ce cy G M a)) (hx : ce cy G M' a = x) (ho : ∀ b, b ≠ a → M'.1 b = M.1 b ∧ M'.2.1 b = M.2.1 b ∧ M'.2.2 b = M.2.2 b) : (pw cy G M).set k (a, x) = pw cy G M' := by
  have h1 := va_pl_set (X := []) (e := x) hD h hk
  exact h1.trans (va_pl_congr (ce_up hx ho))
theorem cl_lt {ci : Nat} {q : vw_C} (h : vwCl[ci]? = some q) : ci < 10 := by
  have h1 := (List.getElem?_eq_some_iff.mp h).1
  exact h1
section ROWS
variable {p : Program} {l : Launch} {e : Env} {R : Room} {s : State} {m : MethodId} {args : Array Value} {below : List Frame} {meth : Method} {c : Code} {H : Heap} {locs : List Loc} {cells slots : Nat} {Q : State → Prop}
variable {cc : ByteArray} {nL pc : Nat} {ls : Array Slot} {rest : List Value} {D : va_G} {cy : Cyy} {A : Nat → Prop} {own : String} {Ts : List Cond} {G : Gg} {M : Mm} {a : Nat} {C : String} {T : u_T} {N : Nat}
theorem zg_ (X : Cx p m c cc nL s args Ts own D cy) (w : Wo s D cy A G M H locs) (ci k idx t : Nat) (hc : vwCl[ci]? = some (C, T, N)) (hin : ∀ w ∈ u_ws C T N, w ∈ Ts) (hk : k < N) (ht : (fT ci)[k]? = some t) (hl : Cond.fieldLink own idx (T k).1 (T k).2.1 (T k).2.2.1 ∈ Ts) (hd : decode cc pc = .ok (.getfield idx, 3)) (ha : isK G a ci)
    (kk : W p l e R s m args below meth c H locs cells slots Q (F0 m (pc + 3) ls (fv M a k t :: rest))) : W p l e R s m args below meth c H locs cells slots Q (F0 m pc ls (.ref a :: rest)) := by
  obtain ⟨⟨hx, hb, hml, hown, hts⟩, hK, hN⟩ := X
  obtain ⟨hP, hD, hS, hA⟩ := w
  obtain ⟨q0, -, hq⟩ := pw_get ha.1 (ce_o (M := M) (cy := cy) ha.2 (cl_lt hc))
  exact va_get hx hb hts hin hown hK hP q0 hq hc k hk (hts _ hl) (fun _ h9 => h9) (fl_at ht) hd kk
theorem zgi (X : Cx p m c cc nL s args Ts own D cy) (w : Wo s D cy A G M H locs) (ci k idx : Nat) (hc : vwCl[ci]? = some (C, T, N)) (hin : ∀ w ∈ u_ws C T N, w ∈ Ts) (hk : k < N) (ht : (fT ci)[k]? = some 0) (hl : Cond.fieldLink own idx (T k).1 (T k).2.1 (T k).2.2.1 ∈ Ts) (hd : decode cc pc = .ok (.getfield idx, 3)) (ha : isK G a ci)
    (kk : W p l e R s m args below meth c H locs cells slots Q (F0 m (pc + 3) ls (.int (M.1 a k) :: rest))) : W p l e R s m args below meth c H locs cells slots Q (F0 m pc ls (.ref a :: rest)) := zg_ X w ci k idx 0 hc hin hk ht hl hd ha kk
theorem zgl (X : Cx p m c cc nL s args Ts own D cy) (w : Wo s D cy A G M H locs) (ci k idx : Nat) (hc : vwCl[ci]? = some (C, T, N)) (hin : ∀ w ∈ u_ws C T N, w ∈ Ts) (hk : k < N) (ht : (fT ci)[k]? = some 1) (hl : Cond.fieldLink own idx (T k).1 (T k).2.1 (T k).2.2.1 ∈ Ts) (hd : decode cc pc = .ok (.getfield idx, 3)) (ha : isK G a ci)
    (kk : W p l e R s m args below meth c H locs cells slots Q (F0 m (pc + 3) ls (.long (M.2.1 a k) :: rest))) : W p l e R s m args below meth c H locs cells slots Q (F0 m pc ls (.ref a :: rest)) := zg_ X w ci k idx 1 hc hin hk ht hl hd ha kk
theorem zgr (X : Cx p m c cc nL s args Ts own D cy) (w : Wo s D cy A G M H locs) (ci k idx : Nat) (hc : vwCl[ci]? = some (C, T, N)) (hin : ∀ w ∈ u_ws C T N, w ∈ Ts) (hk : k < N) (ht : (fT ci)[k]? = some 2) (hl : Cond.fieldLink own idx (T k).1 (T k).2.1 (T k).2.2.1 ∈ Ts) (hd : decode cc pc = .ok (.getfield idx, 3)) (ha : isK G a ci) {b : Nat} (hr : M.2.2 a k = some b)
    (kk : W p l e R s m args below meth c H locs cells slots Q (F0 m (pc + 3) ls (.ref b :: rest))) : W p l e R s m args below meth c H locs cells slots Q (F0 m pc ls (.ref a :: rest)) := zg_ X w ci k idx 2 hc hin hk ht hl hd ha (by
  show W p l e R s m args below meth c H locs cells slots Q (F0 m (pc + 3) ls (va_rf (M.2.2 a k) :: rest))
  rw [hr]
  exact kk)
theorem zgN_ (X : Cx p m c cc nL s args Ts own D cy) (w : Wo s D cy A G M H locs) (ci k idx t : Nat) {host : String} (hc : vwCl[ci]? = some (C, T, N)) (hin : ∀ w ∈ u_ws C T N, w ∈ Ts) (hk : k < N) (ht : (fT ci)[k]? = some t) (hl : Cond.fieldLinkNest own idx (T k).1 (T k).2.1 (T k).2.2.1 host ∈ nwL) (hd : decode cc pc = .ok (.getfield idx, 3)) (ha : isK G a ci)
    (kk : W p l e R s m args below meth c H locs cells slots Q (F0 m (pc + 3) ls (fv M a k t :: rest))) : W p l e R s m args below meth c H locs cells slots Q (F0 m pc ls (.ref a :: rest)) := by
  obtain ⟨⟨hx, hb, hml, hown, hts⟩, hK, hN⟩ := X
  obtain ⟨hP, hD, hS, hA⟩ := w
  obtain ⟨q0, -, hq⟩ := pw_get ha.1 (ce_o (M := M) (cy := cy) ha.2 (cl_lt hc))
  exact va_getN hx hb hts hin hown hK hP q0 hq hc k hk (hN.use hl) (fun _ h9 => h9) (fl_at ht) hd kk
theorem zgNi (X : Cx p m c cc nL s args Ts own D cy) (w : Wo s D cy A G M H locs) (ci k idx : Nat) (host : String) (hc : vwCl[ci]? = some (C, T, N)) (hin : ∀ w ∈ u_ws C T N, w ∈ Ts) (hk : k < N) (ht : (fT ci)[k]? = some 0) (hl : Cond.fieldLinkNest own idx (T k).1 (T k).2.1 (T k).2.2.1 host ∈ nwL) (hd : decode cc pc = .ok (.getfield idx, 3)) (ha : isK G a ci)
    (kk : W p l e R s m args below meth c H locs cells slots Q (F0 m (pc + 3) ls (.int (M.1 a k) :: rest))) : W p l e R s m args below meth c H locs cells slots Q (F0 m pc ls (.ref a :: rest)) := zgN_ X w ci k idx 0 hc hin hk ht hl hd ha kk
theorem zgNl (X : Cx p m c cc nL s args Ts own D cy) (w : Wo s D cy A G M H locs) (ci k idx : Nat) (host : String) (hc : vwCl[ci]? = some (C, T, N)) (hin : ∀ w ∈ u_ws C T N, w ∈ Ts) (hk : k < N) (ht : (fT ci)[k]? = some 1) (hl : Cond.fieldLinkNest own idx (T k).1 (T k).2.1 (T k).2.2.1 host ∈ nwL) (hd : decode cc pc = .ok (.getfield idx, 3)) (ha : isK G a ci)
    (kk : W p l e R s m args below meth c H locs cells slots Q (F0 m (pc + 3) ls (.long (M.2.1 a k) :: rest))) : W p l e R s m args below meth c H locs cells slots Q (F0 m pc ls (.ref a :: rest)) := zgN_ X w ci k idx 1 hc hin hk ht hl hd ha kk
theorem zgNr (X : Cx p m c cc nL s args Ts own D cy) (w : Wo s D cy A G M H locs) (ci k idx : Nat) (host : String) (hc : vwCl[ci]? = some (C, T, N)) (hin : ∀ w ∈ u_ws C T N, w ∈ Ts) (hk : k < N) (ht : (fT ci)[k]? = some 2) (hl : Cond.fieldLinkNest own idx (T k).1 (T k).2.1 (T k).2.2.1 host ∈ nwL) (hd : decode cc pc = .ok (.getfield idx, 3)) (ha : isK G a ci) {b : Nat} (hr : M.2.2 a k = some b)
    (kk : W p l e R s m args below meth c H locs cells slots Q (F0 m (pc + 3) ls (.ref b :: rest))) : W p l e R s m args below meth c H locs cells slots Q (F0 m pc ls (.ref a :: rest)) := zgN_ X w ci k idx 2 hc hin hk ht hl hd ha (by
  show W p l e R s m args below meth c H locs cells slots Q (F0 m (pc + 3) ls (va_rf (M.2.2 a k) :: rest))
  rw [hr]
  exact kk)
/-- putfield -/
theorem zp_ (X : Cx p m c cc nL s args Ts own D cy) (w : Wo s D cy A G M H locs) (ci k idx : Nat) (tt : Nat → FieldType) (hc : vwCl[ci]? = some (C, T, N)) (hin : ∀ w ∈ u_ws C T N, w ∈ Ts) (hty : ∀ k, k < N → parseFieldDescriptor (T k).2.2.1 = some (tt k)) (hnm : ∀ a, a < N → ∀ b, b < N → a ≠ b → (T a).2.1 ≠ (T b).2.1) (hk : k < N) (hl : Cond.fieldLink own idx (T k).1 (T k).2.1 (T k).2.2.1 ∈ Ts) (hfin : (T k).2.2.2 = false) {v : Value} (hn : narrow (tt k) v = v) (hfit : fits (tt k) v = true) (hlen : k < (fT ci).length) {M' : Mm} (hs : (fl M a ci).set k v = fl M' a ci) (ho : ∀ b, b ≠ a → M'.1 b = M.1 b ∧ M'.2.1 b = M.2.1 b ∧ M'.2.2 b = M.2.2 b) (hd : decode cc pc = .ok (.putfield idx, 3)) (ha : isK G a ci)
    (kk : ∀ (H : Heap) (locs : List Loc), Wo s D cy A G M' H locs → W p l e R s m args below meth c H locs cells slots Q (F0 m (pc + 3) ls rest)) : W p l e R s m args below meth c H locs cells slots Q (F0 m pc ls (v :: .ref a :: rest)) := by
  obtain ⟨⟨hx, hb, hml, hown, hts⟩, hK, hN⟩ := X
  obtain ⟨hP, hD, hS, hA⟩ := w
  obtain ⟨q0, hq1, hq⟩ := pw_get ha.1 (ce_o (M := M) (cy := cy) ha.2 (cl_lt hc))
  have he : (pw cy G M).set q0 (a, .inr (ci, (fl M a ci).set k v)) = pw cy G M' := pw_set hD ha.1 hq1 (by rw [hs]; exact ce_o ha.2 (cl_lt hc)) ho
  refine va_put hx hb hts hin tt hty hnm hown hK hP hD hS q0 hq hc k hk (hts _ hl) (fun _ h9 => h9) hfin (hty k hk) hn hfit (by unfold fl; rw [List.length_mapIdx]; exact hlen) hd (fun H1 l1 hP1 hD1 hS1 => ?_)
  rw [he] at hP1 hD1
  exact kk H1 l1 ⟨hP1, hD1, hS1, hA⟩
theorem zpi (X : Cx p m c cc nL s args Ts own D cy) (w : Wo s D cy A G M H locs) (ci k idx : Nat) (tt : Nat → FieldType) (hc : vwCl[ci]? = some (C, T, N)) (hin : ∀ w ∈ u_ws C T N, w ∈ Ts) (hty : ∀ k, k < N → parseFieldDescriptor (T k).2.2.1 = some (tt k)) (hnm : ∀ a, a < N → ∀ b, b < N → a ≠ b → (T a).2.1 ≠ (T b).2.1) (hk : k < N) (ht : (fT ci)[k]? = some 0) (hl : Cond.fieldLink own idx (T k).1 (T k).2.1 (T k).2.2.1 ∈ Ts) (hfin : (T k).2.2.2 = false) (htt : tt k = .int) {x : Int32} (hd : decode cc pc = .ok (.putfield idx, 3)) (ha : isK G a ci)
    (kk : ∀ (H : Heap) (locs : List Loc), Wo s D cy A G (mwI M a k x) H locs → W p l e R s m args below meth c H locs cells slots Q (F0 m (pc + 3) ls rest)) : W p l e R s m args below meth c H locs cells slots Q (F0 m pc ls (.int x :: .ref a :: rest)) :=
  zp_ X w ci k idx tt hc hin hty hnm hk hl hfin (by rw [htt]; rfl) (by rw [htt]; rfl) (List.getElem?_eq_some_iff.mp ht).1 (fl_I ht) mwI_o hd ha kk
theorem zpl (X : Cx p m c cc nL s args Ts own D cy) (w : Wo s D cy A G M H locs) (ci k idx : Nat) (tt : Nat → FieldType) (hc : vwCl[ci]? = some (C, T, N)) (hin : ∀ w ∈ u_ws C T N, w ∈ Ts) (hty : ∀ k, k < N → parseFieldDescriptor (T k).2.2.1 = some (tt k)) (hnm : ∀ a, a < N → ∀ b, b < N → a ≠ b → (T a).2.1 ≠ (T b).2.1) (hk : k < N) (ht : (fT ci)[k]? = some 1) (hl : Cond.fieldLink own idx (T k).1 (T k).2.1 (T k).2.2.1 ∈ Ts) (hfin : (T k).2.2.2 = false) (htt : tt k = .long) {x : Int64} (hd : decode cc pc = .ok (.putfield idx, 3)) (ha : isK G a ci)
    (kk : ∀ (H : Heap) (locs : List Loc), Wo s D cy A G (mwJ M a k x) H locs → W p l e R s m args below meth c H locs cells slots Q (F0 m (pc + 3) ls rest)) : W p l e R s m args below meth c H locs cells slots Q (F0 m pc ls (.long x :: .ref a :: rest)) :=
  zp_ X w ci k idx tt hc hin hty hnm hk hl hfin (by rw [htt]; rfl) (by rw [htt]; rfl) (List.getElem?_eq_some_iff.mp ht).1 (fl_J ht) mwJ_o hd ha kk
theorem zpr (X : Cx p m c cc nL s args Ts own D cy) (w : Wo s D cy A G M H locs) (ci k idx : Nat) (tt : Nat → FieldType) (hc : vwCl[ci]? = some (C, T, N)) (hin : ∀ w ∈ u_ws C T N, w ∈ Ts) (hty : ∀ k, k < N → parseFieldDescriptor (T k).2.2.1 = some (tt k)) (hnm : ∀ a, a < N → ∀ b, b < N → a ≠ b → (T a).2.1 ≠ (T b).2.1) (hk : k < N) (ht : (fT ci)[k]? = some 2) (hl : Cond.fieldLink own idx (T k).1 (T k).2.1 (T k).2.2.1 ∈ Ts) (hfin : (T k).2.2.2 = false) {x : Nat} (hn : narrow (tt k) (.ref x) = .ref x) (hfit : fits (tt k) (.ref x) = true) (hd : decode cc pc = .ok (.putfield idx, 3)) (ha : isK G a ci)
    (kk : ∀ (H : Heap) (locs : List Loc), Wo s D cy A G (mwP M a k (some x)) H locs → W p l e R s m args below meth c H locs cells slots Q (F0 m (pc + 3) ls rest)) : W p l e R s m args below meth c H locs cells slots Q (F0 m pc ls (.ref x :: .ref a :: rest)) :=
  zp_ X w ci k idx tt hc hin hty hnm hk hl hfin hn hfit (List.getElem?_eq_some_iff.mp ht).1 (fl_P (x := some x) ht) mwP_o hd ha kk
theorem zpN_ (X : Cx p m c cc nL s args Ts own D cy) (w : Wo s D cy A G M H locs) (ci k idx : Nat) {host : String} (tt : Nat → FieldType) (hc : vwCl[ci]? = some (C, T, N)) (hin : ∀ w ∈ u_ws C T N, w ∈ Ts) (hty : ∀ k, k < N → parseFieldDescriptor (T k).2.2.1 = some (tt k)) (hnm : ∀ a, a < N → ∀ b, b < N → a ≠ b → (T a).2.1 ≠ (T b).2.1) (hk : k < N) (hl : Cond.fieldLinkNest own idx (T k).1 (T k).2.1 (T k).2.2.1 host ∈ nwL) (hfin : (T k).2.2.2 = false) {v : Value} (hn : narrow (tt k) v = v) (hfit : fits (tt k) v = true) (hlen : k < (fT ci).length) {M' : Mm} (hs : (fl M a ci).set k v = fl M' a ci) (ho : ∀ b, b ≠ a → M'.1 b = M.1 b ∧ M'.2.1 b = M.2.1 b ∧ M'.2.2 b = M.2.2 b) (hd : decode cc pc = .ok (.putfield idx, 3)) (ha : isK G a ci)
    (kk : ∀ (H : Heap) (locs : List Loc), Wo s D cy A G M' H locs → W p l e R s m args below meth c H locs cells slots Q (F0 m (pc + 3) ls rest)) : W p l e R s m args below meth c H locs cells slots Q (F0 m pc ls (v :: .ref a :: rest)) := by
  obtain ⟨⟨hx, hb, hml, hown, hts⟩, hK, hN⟩ := X
  obtain ⟨hP, hD, hS, hA⟩ := w
  obtain ⟨q0, hq1, hq⟩ := pw_get ha.1 (ce_o (M := M) (cy := cy) ha.2 (cl_lt hc))
  have he : (pw cy G M).set q0 (a, .inr (ci, (fl M a ci).set k v)) = pw cy G M' := pw_set hD ha.1 hq1 (by rw [hs]; exact ce_o ha.2 (cl_lt hc)) ho
  refine va_putN hx hb hts hin tt hty hnm hown hK hP hD hS q0 hq hc k hk (hN.use hl) (fun _ h9 => h9) hfin (hty k hk) hn hfit (by unfold fl; rw [List.length_mapIdx]; exact hlen) hd (fun H1 l1 hP1 hD1 hS1 => ?_)
  rw [he] at hP1 hD1
  exact kk H1 l1 ⟨hP1, hD1, hS1, hA⟩
theorem zpNl (X : Cx p m c cc nL s args Ts own D cy) (w : Wo s D cy A G M H locs) (ci k idx : Nat) (host : String) (tt : Nat → FieldType) (hc : vwCl[ci]? = some (C, T, N)) (hin : ∀ w ∈ u_ws C T N, w ∈ Ts) (hty : ∀ k, k < N → parseFieldDescriptor (T k).2.2.1 = some (tt k)) (hnm : ∀ a, a < N → ∀ b, b < N → a ≠ b → (T a).2.1 ≠ (T b).2.1) (hk : k < N) (ht : (fT ci)[k]? = some 1) (hl : Cond.fieldLinkNest own idx (T k).1 (T k).2.1 (T k).2.2.1 host ∈ nwL) (hfin : (T k).2.2.2 = false) (htt : tt k = .long) {x : Int64} (hd : decode cc pc = .ok (.putfield idx, 3)) (ha : isK G a ci)
    (kk : ∀ (H : Heap) (locs : List Loc), Wo s D cy A G (mwJ M a k x) H locs → W p l e R s m args below meth c H locs cells slots Q (F0 m (pc + 3) ls rest)) : W p l e R s m args below meth c H locs cells slots Q (F0 m pc ls (.long x :: .ref a :: rest)) :=
  zpN_ X w ci k idx tt hc hin hty hnm hk hl hfin (by rw [htt]; rfl) (by rw [htt]; rfl) (List.getElem?_eq_some_iff.mp ht).1 (fl_J ht) mwJ_o hd ha kk
/-- arrays -/
theorem zai (X : Cx p m c cc nL s args Ts own D cy) (w : Wo s D cy A G M H locs) {i : Int32} (hd : decode cc pc = .ok (.iaload, 1)) (ha : isK G a 10) (hi : inb i (G.2.2 a))
    (kk : W p l e R s m args below meth c H locs cells slots Q (F0 m (pc + 1) ls (.int (M.1 a i.toNatClampNeg) :: rest))) : W p l e R s m args below meth c H locs cells slots Q (F0 m pc ls (.int i :: .ref a :: rest)) := by
  obtain ⟨⟨hx, hb, hml, hown, hts⟩, hK, hN⟩ := X
  obtain ⟨hP, hD, hS, hA⟩ := w
  obtain ⟨q0, -, hq⟩ := pw_get ha.1 (ce_i (M := M) (cy := cy) ha.2)
  exact va_iald hx hb hK hP q0 0 hq rfl hi hd kk
theorem zal (X : Cx p m c cc nL s args Ts own D cy) (w : Wo s D cy A G M H locs) {i : Int32} (hd : decode cc pc = .ok (.laload, 1)) (ha : isK G a 11) (hi : inb i (G.2.2 a))
    (kk : W p l e R s m args below meth c H locs cells slots Q (F0 m (pc + 1) ls (.long (M.2.1 a i.toNatClampNeg) :: rest))) : W p l e R s m args below meth c H locs cells slots Q (F0 m pc ls (.int i :: .ref a :: rest)) := by
  obtain ⟨⟨hx, hb, hml, hown, hts⟩, hK, hN⟩ := X
  obtain ⟨hP, hD, hS, hA⟩ := w
  obtain ⟨q0, -, hq⟩ := pw_get ha.1 (ce_l (M := M) (cy := cy) ha.2)
  exact va_lald hx hb hK hP q0 1 hq rfl hi hd kk
theorem zar (X : Cx p m c cc nL s args Ts own D cy) (w : Wo s D cy A G M H locs) {i : Int32} (hd : decode cc pc = .ok (.aaload, 1)) (ha : isK G a 12) (hi : inb i (G.2.2 a)) {b : Nat} (hr : M.2.2 a i.toNatClampNeg = some b)
    (kk : W p l e R s m args below meth c H locs cells slots Q (F0 m (pc + 1) ls (.ref b :: rest))) : W p l e R s m args below meth c H locs cells slots Q (F0 m pc ls (.int i :: .ref a :: rest)) := by
  obtain ⟨⟨hx, hb, hml, hown, hts⟩, hK, hN⟩ := X
  obtain ⟨hP, hD, hS, hA⟩ := w
  obtain ⟨q0, -, hq⟩ := pw_get ha.1 (ce_r (M := M) (cy := cy) ha.2)
  refine va_aldq hx hb hK hP q0 2 hq rfl hi hd ?_
  rw [hr]
  exact kk
theorem zsi (X : Cx p m c cc nL s args Ts own D cy) (w : Wo s D cy A G M H locs) {i x : Int32} (hd : decode cc pc = .ok (.iastore, 1)) (ha : isK G a 10) (hi : inb i (G.2.2 a))
    (kk : ∀ (H : Heap) (locs : List Loc), Wo s D cy A G (mwI M a i.toNatClampNeg x) H locs → W p l e R s m args below meth c H locs cells slots Q (F0 m (pc + 1) ls rest)) : W p l e R s m args below meth c H locs cells slots Q (F0 m pc ls (.int x :: .int i :: .ref a :: rest)) := by
  obtain ⟨⟨hx, hb, hml, hown, hts⟩, hK, hN⟩ := X
  obtain ⟨hP, hD, hS, hA⟩ := w
  obtain ⟨q0, hq1, hq⟩ := pw_get ha.1 (ce_i (M := M) (cy := cy) ha.2)
  have he : (pw cy G M).set q0 (a, .inl (cy.1, G.2.2 a, .inl (upd (M.1 a) i.toNatClampNeg x))) = pw cy G (mwI M a i.toNatClampNeg x) := pw_set hD ha.1 hq1 (by rw [← mwI_1]; exact ce_i ha.2) mwI_o
  refine va_iast hx hb hK hP hD hS q0 0 hq rfl hi hd (fun H1 l1 hP1 hD1 hS1 => ?_)
  rw [he] at hP1 hD1
  exact kk H1 l1 ⟨hP1, hD1, hS1, hA⟩
theorem zsl (X : Cx p m c cc nL s args Ts own D cy) (w : Wo s D cy A G M H locs) {i : Int32} {x : Int64} (hd : decode cc pc = .ok (.lastore, 1)) (ha : isK G a 11) (hi : inb i (G.2.2 a))
    (kk : ∀ (H : Heap) (locs : List Loc), Wo s D cy A G (mwJ M a i.toNatClampNeg x) H locs → W p l e R s m args below meth c H locs cells slots Q (F0 m (pc + 1) ls rest)) : W p l e R s m args below meth c H locs cells slots Q (F0 m pc ls (.long x :: .int i :: .ref a :: rest)) := by
  obtain ⟨⟨hx, hb, hml, hown, hts⟩, hK, hN⟩ := X
  obtain ⟨hP, hD, hS, hA⟩ := w
  obtain ⟨q0, hq1, hq⟩ := pw_get ha.1 (ce_l (M := M) (cy := cy) ha.2)
  have he : (pw cy G M).set q0 (a, .inl (cy.2.1, G.2.2 a, .inr (.inl (vp_updL (M.2.1 a) i.toNatClampNeg x)))) = pw cy G (mwJ M a i.toNatClampNeg x) := pw_set hD ha.1 hq1 (by rw [← mwJ_1]; exact ce_l ha.2) mwJ_o
  refine va_last hx hb hK hP hD hS q0 1 hq rfl hi hd (fun H1 l1 hP1 hD1 hS1 => ?_)
  rw [he] at hP1 hD1
  exact kk H1 l1 ⟨hP1, hD1, hS1, hA⟩
theorem zsr (X : Cx p m c cc nL s args Ts own D cy) (w : Wo s D cy A G M H locs) {i : Int32} {x : Nat} (hd : decode cc pc = .ok (.aastore, 1)) (ha : isK G a 12) (hi : inb i (G.2.2 a)) (hxk : isK G x 0)
    (kk : ∀ (H : Heap) (locs : List Loc), Wo s D cy A G (mwP M a i.toNatClampNeg (some x)) H locs → W p l e R s m args below meth c H locs cells slots Q (F0 m (pc + 1) ls rest)) : W p l e R s m args below meth c H locs cells slots Q (F0 m pc ls (.ref x :: .int i :: .ref a :: rest)) := by
  obtain ⟨⟨hx, hb, hml, hown, hts⟩, hK, hN⟩ := X
  obtain ⟨hP, hD, hS, hA⟩ := w
  obtain ⟨q0, hq1, hq⟩ := pw_get ha.1 (ce_r (M := M) (cy := cy) ha.2)
  obtain ⟨q2, -, hq2⟩ := pw_get hxk.1 (ce_o (M := M) (cy := cy) hxk.2 (by decide))
  have he : (pw cy G M).set q0 (a, .inl (cy.2.2, G.2.2 a, .inr (.inr (.inr (.inr (va_up (M.2.2 a) i.toNatClampNeg (some x))))))) = pw cy G (mwP M a i.toNatClampNeg (some x)) := pw_set hD ha.1 hq1 (by rw [← mwP_1]; exact ce_r ha.2) mwP_o
  refine va_astq (r := (RX0, TX0, 7)) hx hb hK hP hD hS q0 2 q2 0 hq rfl hq2 rfl hi hd (fun H1 l1 hP1 hD1 hS1 => ?_)
  rw [he] at hP1 hD1
  exact kk H1 l1 ⟨hP1, hD1, hS1, hA⟩
theorem zni (X : Cx p m c cc nL s args Ts own D cy) (w : Wo s D cy A G M H locs) (hd : decode cc pc = .ok (.arraylength, 1)) (ha : isK G a 10)
    (kk : W p l e R s m args below meth c H locs cells slots Q (F0 m (pc + 1) ls (.int (Int32.ofNat (G.2.2 a)) :: rest))) : W p l e R s m args below meth c H locs cells slots Q (F0 m pc ls (.ref a :: rest)) := by
  obtain ⟨⟨hx, hb, hml, hown, hts⟩, hK, hN⟩ := X
  obtain ⟨hP, hD, hS, hA⟩ := w
  obtain ⟨q0, -, hq⟩ := pw_get ha.1 (ce_i (M := M) (cy := cy) ha.2)
  exact va_alen (ty := .int) hx hb hK hP q0 0 hq rfl rfl hd kk
theorem znl (X : Cx p m c cc nL s args Ts own D cy) (w : Wo s D cy A G M H locs) (hd : decode cc pc = .ok (.arraylength, 1)) (ha : isK G a 11)
    (kk : W p l e R s m args below meth c H locs cells slots Q (F0 m (pc + 1) ls (.int (Int32.ofNat (G.2.2 a)) :: rest))) : W p l e R s m args below meth c H locs cells slots Q (F0 m pc ls (.ref a :: rest)) := by
  obtain ⟨⟨hx, hb, hml, hown, hts⟩, hK, hN⟩ := X
  obtain ⟨hP, hD, hS, hA⟩ := w
  obtain ⟨q0, -, hq⟩ := pw_get ha.1 (ce_l (M := M) (cy := cy) ha.2)
  exact va_alen (ty := .long) hx hb hK hP q0 1 hq rfl rfl hd kk
end ROWS
