/-! Methods that throw, and those that catch. (vy_throwS is the kit's vx_throwS with the heap's size told exactly.) -/
section VY
variable {p : Program} {l : Launch} {e : Env} {R : Room} {s : State} {m : MethodId} {args : Array Value} {below : List Frame} {meth : Method} {c : Code} {H : Heap} {locs : List Loc} {cells slots : Nat} {Q : State → Prop}
variable {mc ms : Nat} {free : Addr → Prop} {A0 A1 : Nat → Prop} {H0 : Heap} {a : Array Value} {ls : Array Slot} {st0 rest : List Value}
variable {Qc : Array Value → State → Outcome → State → Prop} {XC : String → State → State → Prop}
theorem vy_throwS {cc : ByteArray} {pc : Nat} (hexec : p.tables.exec = Jvm.exec) (hb : c.code = cc) (hl : l.stackTraces = false) {own cls text : String} {names : List String} {ik is ic mc ms sa : Nat} {A : Nat → Prop}
    (hown : s.vm.findClass own = some m.cls) (hcls : Bundle.fit cls = true) (hnames : ∀ n ∈ names, Bundle.fit n = true)
    (hk : (Cond.classLink own ik cls).before args s = true) (hini : (Cond.initialized cls).before args s = true) (hstr : vk_R own is text sa s) (hat : ∀ w ∈ vx_atS own ic cls names, w.before args s = true)
    (hgood : ∀ w ∈ Cond.classLink own ik cls :: Cond.initialized cls :: vx_atS own ic cls names, vx_ot w = true)
    (hU : vx_Zq Bundle.tN "UNASSIGNED_STACK" Bundle.steD A s s.heap) (hN : vx_Zq Bundle.tN "SUPPRESSED_SENTINEL" Bundle.listD A s s.heap) (hS : va_S A s.heap H locs) (hsize : ls.size = c.maxLocals)
    (d0 : decode cc pc = .ok (.new ik, 3)) (d3 : decode cc (pc + 3) = .ok (.dup, 1)) (d4 : decode cc (pc + 4) = .ok (.ldc is, 2)) (d6 : decode cc (pc + 6) = .ok (.invokespecial ic, 3)) (d9 : decode cc (pc + 9) = .ok (.athrow, 1))
    (hout : ∀ x ∈ c.exceptionTable.toList, covers x (pc + 9) = false)
    (hRframes : names.length + 3 < R.frames) (hRlocals : (rest.map fun v => v.category).sum + (13 * (names.length + 1) + 43) ≤ R.locals) (hRcells : cells + 1 ≤ R.cells) (hRslots : slots + 6 ≤ R.slots) (hlocks : meth.locks = false)
    (hx : ∀ t : State, s.vm.Alike t.vm → t.heap.size = H.size + 1 → (∀ q : Nat, q < H.size → t.heap[q]? = H[q]?) → XC cls s t)
    (hf : ∀ z ∈ locs, free z.base) (hc : cells + 1 ≤ mc) (hs : slots + 6 ≤ ms) :
    W p l e R s m args below meth c H locs cells slots (vx_MQ below Qc XC args s mc ms free) (F0 m pc ls rest) := by
  intro T hT X
  have htr : e.platform.stackTraces = false := (show e.platform.stackTraces = l.stackTraces by rw [X.admits.platform]).trans hl
  have Y := vx_rebase X (R' := { frames := R.frames, locals := R.locals, cells := 1, slots := 6 }) (Nat.le_refl _) (Nat.le_refl _) hRcells hRslots
  obtain ⟨s', hA⟩ : ∃ z, z = (T.setVm s.vm).setFrames (.invoking m args :: below) := ⟨_, rfl⟩
  rw [← hA] at Y
  have hvm : s'.vm = s.vm := by rw [hA]; rfl
  have hhp : s'.heap = H := by rw [hA]; exact hT
  have hW0 : s.WarmedH s'.vm := by rw [hvm]; exact State.WarmedH.refl s
  have hat' : ∀ w ∈ vx_atS own ic cls names, w.before args s' = true := fun w hw => vx_ot_at hW0 hvm.symm (hgood w (List.mem_cons_of_mem _ (List.mem_cons_of_mem _ hw))) (hat w hw)
  have hk' : (Cond.classLink own ik cls).before args s' = true := vx_ot_at hW0 hvm.symm (hgood _ List.mem_cons_self) hk
  have hini' : (Cond.initialized cls).before args s' = true := vx_ot_at hW0 hvm.symm (hgood _ (List.mem_cons_of_mem _ List.mem_cons_self)) hini
  have hU' : vx_Zq Bundle.tN "UNASSIGNED_STACK" Bundle.steD A s' s'.heap := by rw [hhp]; exact vx_Zq.moved hW0.alike (hU.kept hS.2.1)
  have hN' : vx_Zq Bundle.tN "SUPPRESSED_SENTINEL" Bundle.listD A s' s'.heap := by rw [hhp]; exact vx_Zq.moved hW0.alike (hN.kept hS.2.1)
  have h : ∀ w ∈ Bundle.ownAtoms own ic cls names, w.before args s' = true := vx_own hat' (vx_isRefq hU'.1) (vx_isRefq hN'.1) hU'.2.word hN'.2.word
  have hown' : s'.vm.findClass own = some m.cls := by rw [hvm]; exact hown
  have hins : (Cond.instantiable cls 6).before args s' = true := h _ (by simp [Bundle.ownAtoms])
  obtain ⟨vm₁, cX, kX, hfX, hkX, -, -, X₁, st1⟩ := Y.newCold hexec (own := own) (C := cls) (index := ik) (n := 6) hown' hk' hins hini'
    (g := F0 m pc ls rest) rfl (by rw [hb]; exact d0) (Nat.le_refl _) (Nat.le_refl _)
  generalize hT1 : (T.setVm vm₁).pushCell { cls := cX, slots := kX.instanceTypes.map defaultValue, vm := .none } = T1 at X₁ st1
  have hcat : (Value.ref T.heap.size).category = 1 := rfl
  have hcellA : T1.heap[T.heap.size]? = some (freshCell cX kX) := by rw [← hT1]; exact State.heap_pushCell_size _ _
  have d3' : decode c.code (pc + 3) = .ok (.dup, 1) := by rw [hb]; exact d3
  have d4' : decode c.code (pc + 4) = .ok (.ldc is, 2) := by rw [hb]; exact d4
  have hstr' : vk_R own is text sa s' := vk_R.warm hW0 hstr
  obtain ⟨U, hsteps, hrun, hend, hW, hsame, ce, hce, hO⟩ := X₁.ctorThrowS hexec htr (own := own) (cls := cls) (names := names) (ic := ic) hown' hcls hnames h (fun x hx => nomatch hx) hfX hkX hcellA (by rw [hhp, hT]; exact Nat.le_refl _) (msg := .ref sa) rfl
    (g := { method := m, pc := pc + 6, locals := ls, stack := .ref sa :: .ref T.heap.size :: .ref T.heap.size :: rest, locked := none }) rfl hsize rfl rfl (rest := rest) rfl
    (by rw [hb]; exact d6) (by rw [hb]; exact d9) hout hRframes (by simp only [List.map_cons, List.sum_cons, hcat]; omega) hlocks
  obtain ⟨f1, f2⟩ := vx_frame hsame
  rw [hhp] at f1 f2
  have fz : U.heap.size = H.size + 1 := by
    have g1 : U.heap.size ≤ s'.heap.size + (0 + 1) := hsame.2.2.1
    have g2 : T.heap.size < U.heap.size := (Array.getElem?_eq_some_iff.mp hce).1
    rw [hhp] at g1
    rw [hT] at g2
    omega
  have hWs : s.WarmedH U.vm := State.WarmedH.trans hW0 hW
  have hcl : s.vm.findClass cls = some ce.cls := by
    have h9 := hO.cls
    rw [hvm] at h9
    exact h9
  have hall : s.sameButNew ({ U with vm := s.vm } : State) locs mc ms := by
    subst hA
    obtain ⟨e1, e2⟩ := hsame
    rw [State.setFrames_setFrames] at e1
    have h2 : (T.setVm s.vm).sameButNew ({ U with vm := s.vm } : State) [] (0 + 1) (0 + 6) := ⟨e1, e2⟩
    have h3 := X.same.trans h2
    rw [List.append_nil] at h3
    exact h3.mono hc hs
  refine ⟨U, ?_, .threw T.heap.size, hrun, hend, Or.inr ⟨T.heap.size, rfl, cls, ce, locs, hx U hWs.alike fz (fun q hq => f2 q hq (fun z hz => nomatch hz)), hce, hO.vm, hcl, hWs, hall, hf⟩⟩
  refine st1 _ ?_
  show Steps p.tables e below (T1.setTop { method := m, pc := pc + 3, locals := ls, stack := .ref T.heap.size :: rest, locked := none }) _
  jvm_step X₁.here [X₁.here.top, hexec, d3', Value.category]
  exact X₁.ldcString hexec (own := own) (text := text) (index := is) (a := sa) hown' hstr'.1 hstr'.2
    (g := { method := m, pc := pc + 4, locals := ls, stack := .ref T.heap.size :: .ref T.heap.size :: rest, locked := none }) rfl d4' _ hsteps
end VY
def exN (k : Nat) : String := if k = 1 then "java/lang/IllegalStateException" else if k = 2 then "java/lang/IllegalArgumentException" else "java/lang/IndexOutOfBoundsException"
/-- a method that answers an int, or throws: the first number is 0, or says what it throws -/
def CX (l : Launch) (w : hp_W) (y : MethodName) (cc : ByteArray) (nL : Nat) (ty : FieldType) (rm : Room) (av : List Value) (h : hp_M) (out : Nat × Int32 × hp_M) : Prop :=
  vx_Met l y (Cond.code y cc nL (some ty) :: TB) rm (fun a U => a = av.toArray ∧ hp_R w h U.heap ∧ hp_K w U) (fun _ _ o t => out.1 = 0 ∧ o = .returned (some (.int out.2.1)) ∧ nar (some ty) (some (.int out.2.1)) ∧ hp_R w out.2.2 t.heap) (fun E _ t => out.1 ≠ 0 ∧ E = exN out.1 ∧ hp_R w out.2.2 t.heap) rm.cells rm.slots (hp_A w)
def QX (below : List Frame) (w : hp_W) (args : Array Value) (s : State) (rm : Room) (ty : FieldType) (out : Nat × Int32 × hp_M) : State → Prop :=
  vx_MQ below (fun _ _ o t => out.1 = 0 ∧ o = .returned (some (.int out.2.1)) ∧ nar (some ty) (some (.int out.2.1)) ∧ hp_R w out.2.2 t.heap) (fun E _ t => out.1 ≠ 0 ∧ E = exN out.1 ∧ hp_R w out.2.2 t.heap) args s rm.cells rm.slots (hp_A w)
def CTW (l : Launch) (w : hp_W) (y : MethodName) (cc : ByteArray) (nL : Nat) (ret : Option FieldType) (hh : List (Nat × Nat × Nat × Nat)) (rm : Room) (av : List Value) (h : hp_M) (res : Option Value) (h' : hp_M) : Prop :=
  Met l y (Cond.codeWith y cc nL ret hh :: TB) rm (fun a U => a = av.toArray ∧ hp_R w h U.heap ∧ hp_K w U) (fun _ _ o t => o = .returned res ∧ nar ret res ∧ hp_R w h' t.heap) rm.cells rm.slots (hp_A w)
section JE
variable {p : Program} {l : Launch} {e : Env} {R rm : Room} {s : State} {m : MethodId} {args : Array Value} {below : List Frame} {meth : Method} {c : Code} {Q : State → Prop} {w : hp_W} {cc : ByteArray} {nL cells slots pc : Nat} {own : String} {L L' : List (Nat × Value)} {st rest : List Value} {h h' : hp_M} {α β : Type} {ret : Option FieldType} {res : Option Value}
def JX (p : Program) (l : Launch) (e : Env) (R : Room) (s : State) (m : MethodId) (args : Array Value) (below : List Frame) (meth : Method) (c : Code) (Q : State → Prop) (w : hp_W) (nL cells slots pc : Nat) (L : List (Nat × Value)) (rest : List Value) (E : String) (h : hp_M) {α : Type} (X : Option α) (out : α) : Prop :=
  X = some out → ∀ (ls : Array Slot) (H : Heap) (locs : List Loc) (q : Nat) (ce : Cell), lv_has ls nL L → hp_R w h H → va_S (hp_A w) s.heap H locs → H[q]? = some ce → ce.vm = .none → s.vm.findClass E = some ce.cls → vx_W p l e R s m args below meth c H locs cells slots Q (F0 m pc ls rest) q
theorem jx_ite {out : α} {E : String} {cnd : Prop} {dc : Decidable cnd} {X1 X2 : Option α} (k1 : cnd → JX p l e R s m args below meth c (Q) w nL (cells) (slots) (pc) L (rest) (E) (h) (X1) out) (k2 : ¬ cnd → JX p l e R s m args below meth c (Q) w nL (cells) (slots) (pc) L (rest) (E) (h) (X2) out) : JX p l e R s m args below meth c (Q) w nL (cells) (slots) (pc) L (rest) (E) (h) (if cnd then X1 else X2) out := fun hX => by
  by_cases q : cnd
  · rw [if_pos q] at hX; exact k1 q hX
  · rw [if_neg q] at hX; exact k2 q hX
theorem jx_none {out : α} {E : String} : JX p l e R s m args below meth c (Q) w nL (cells) (slots) (pc) L (rest) (E) (h) ((none : Option α)) out := fun hX => nomatch hX
theorem jx_E {out : α} {X : Option α} {E : String} (E1 : String) (hE : E = E1) (k : JX p l e R s m args below meth c (Q) w nL (cells) (slots) (pc) L (rest) (E1) (h) (X) out) : JX p l e R s m args below meth c (Q) w nL (cells) (slots) (pc) L (rest) (E) (h) (X) out := by subst hE; exact k
theorem j_iteF {out : α} {cnd : Prop} {dc : Decidable cnd} {X1 X2 : Option α} (hn : ¬ cnd) (k : J p l e R s m args below meth c (Q) w nL (cells) (slots) (pc) L (st) (h) (X2) out) : J p l e R s m args below meth c (Q) w nL (cells) (slots) (pc) L (st) (h) (if cnd then X1 else X2) out := fun hX => by
  rw [if_neg hn] at hX
  exact k hX
theorem jx_catch (C : Cx p m c cc nL s args own w) {out : α} {X : Option α} {E name : String} (pre : List ExceptionTableEntry) (x : ExceptionTableEntry) (suf : List ExceptionTableEntry) (hsplit : c.exceptionTable.toList = pre ++ x :: suf) (hpass : ∀ z ∈ pre, covers z pc = false ∨ (z.catchType ≠ 0 ∧ ∃ nm : String, Cond.classLink own z.catchType nm ∈ TB ∧ va_Nc E nm s)) (hx : covers x pc = true) (h0 : x.catchType ≠ 0) (hlink : Cond.classLink own x.catchType name ∈ TB) (hcast : Cond.castable E name ∈ hp_nw) (k : ∀ q : Nat, J p l e R s m args below meth c (Q) w nL (cells) (slots) (x.handlerPc) L ([.ref q]) (h) (X) out) : JX p l e R s m args below meth c (Q) w nL (cells) (slots) (pc) L (rest) (E) (h) (X) out := fun hX ls H locs q ce hl hR hS hc hv hcl =>
  vx_catch C.1.2.2.2.1 pre x suf hsplit (fun z hz => (hpass z hz).elim Or.inl (fun ⟨h1, nm, h2, h3⟩ => Or.inr ⟨h1, nm, C.tb h2, h3⟩)) hx h0 (C.tb hlink) ((C.nw hcast).use rfl) hc hv hcl (k q hX ls H locs hl hR hS)
theorem cx_of {X : Option (Nat × Int32 × hp_M)} {out : Nat × Int32 × hp_M} {ty : FieldType} {y : MethodName} {av : List Value} (hy : plainName y.cls = true) (hl0 : (lg_sl av).length ≤ nL) (hX : X = some out)
    (body : ∀ p e s m args below meth c Q, Cx p m c cc nL s args y.cls w → meth.sig.returnType = some ty → meth.locks = false → (∀ x ∈ c.exceptionTable.toList, False) → QX below w args s rm ty out = Q → J p l e rm s m args below meth c Q w nL 0 0 0 (lv_args 0 av) [] h X out) : CX l w y cc nL ty rm av h out := by
  refine vx_ofW (cc := cc) (maxL := nL) (ret := some ty) hy rfl ?_
  intro p e s m args below meth c s₁ B hml ht hv
  obtain ⟨rfl, hR, hK⟩ := hv
  have hts := atoms_spec (ws := Cond.code y cc nL (some ty) :: TB) B.pre
  have C : Cx p m c cc nL s av.toArray y.cls w := ⟨⟨B.exec, B.bytes, hml, findClass_of_methodNamed B.named, fun x hx => hts x (List.mem_cons_of_mem _ hx)⟩, hK, hR.2.1⟩
  have hb := body p e s m av.toArray below meth c _ C B.returns B.notSynchronized ht rfl
  have hl := lv_entry av (n := nL) hl0
  rw [lg_entry_eq]
  exact hb hX _ s.heap [] hl hR va_S.rf
theorem ctw_of {X : Option α} {out : α} {y : MethodName} {av : List Value} {hh : List (Nat × Nat × Nat × Nat)} (hy : plainName y.cls = true) (hl0 : (lg_sl av).length ≤ nL) (hX : X = some out)
    (body : ∀ p e s m args below meth c Q, Cx p m c cc nL s args y.cls w → meth.sig.returnType = ret → meth.locks = false → c.exceptionTable.toList = tableOf hh → QM below w args s rm ret res h' = Q → J p l e rm s m args below meth c Q w nL 0 0 0 (lv_args 0 av) [] h X out) : CTW l w y cc nL ret hh rm av h res h' := by
  refine va_MetW (cc := cc) (maxL := nL) (ret := ret) (hh := hh) hy rfl ?_
  intro p e s m args below meth c s₁ B hml hv
  obtain ⟨rfl, hR, hK⟩ := hv
  have hts := atoms_spec (ws := Cond.codeWith y cc nL ret hh :: TB) B.pre
  have C : Cx p m c cc nL s av.toArray y.cls w := ⟨⟨B.exec, B.bytes, hml, findClass_of_methodNamed B.named, fun x hx => hts x (List.mem_cons_of_mem _ hx)⟩, hK, hR.2.1⟩
  have hb := body p e s m av.toArray below meth c _ C B.returns B.notSynchronized (vx_table (x := y) B (hts _ List.mem_cons_self)) rfl
  have hl := lv_entry av (n := nL) hl0
  rw [lg_entry_eq]
  exact hb hX _ s.heap [] hl hR va_S.rf
theorem e_iretX (C : Cx p m c cc nL s args own w) {ty : FieldType} {v : Int32} {out : Nat × Int32 × hp_M} (hQ : QX below w args s rm ty out = Q) (hr : meth.sig.returnType = some ty) (hn : narrow ty (.int v) = .int v) (hlk : meth.locks = false) (d : decode cc pc = .ok (.ireturn, 1)) (hc : cells ≤ rm.cells) (hs : slots ≤ rm.slots) : J p l e rm s m args below meth c (Q) w nL (cells) (slots) (pc) L ([.int v]) (h) (some (0, v, h)) out := fun hX ls H locs hl hR hS => by
  subst hQ
  cases hX
  refine vx_ret ?_
  refine W.widen hc hs ?_
  exact W.zret C.1.1 C.1.2.1 hr hn (fun t ht hW => ⟨rfl, rfl, fun ty2 v2 h1 h2 => by cases h1; cases h2; exact hn, by rw [ht]; exact hR⟩) hS.2.2 d hlk
def twL (own : String) (ic : Nat) (cls : String) : List Cond := vx_atS own ic cls ["java/lang/RuntimeException", "java/lang/Exception"]
theorem tw_use (C : Cx p m c cc nL s args own w) {L : List Cond} (hb : L.all (fun x => decide (x ∈ lw_tbl) && (goodWord x || nwOk x)) = true) : ∀ x ∈ L, x.before args s = true := by
  intro x hx
  have h1 := List.all_eq_true.mp hb x hx
  rw [Bool.and_eq_true, decide_eq_true_eq, Bool.or_eq_true] at h1
  obtain ⟨hm, hg | hg⟩ := h1
  · exact C.tb (tb_of hm hg)
  · rcases List.mem_append.mp hm with hm | hm
    · obtain ⟨q, hqm, rfl⟩ := List.mem_map.mp hm
      exact C.tb (tb_of (List.mem_append_left _ (List.mem_map.mpr ⟨q, hqm, rfl⟩)) rfl)
    · exact (C.nw (List.mem_filter.mpr ⟨hm, hg⟩)).use (nw_on hg)
theorem j_throw (C : Cx p m c cc nL s args own w) {out : Nat × Int32 × hp_M} {ty : FieldType} {cls text : String} {ik is ic k : Nat} (hst : l.stackTraces = false) (hno : ∀ x ∈ c.exceptionTable.toList, False) (hlk : meth.locks = false) (hQ : QX below w args s rm ty out = Q) (hcls : Bundle.fit cls = true ∧ ∀ n ∈ ["java/lang/RuntimeException", "java/lang/Exception"], Bundle.fit n = true) (hk : Cond.classLink own ik cls ∈ TB) (hini : Cond.initialized cls ∈ TB) (htx : (own, is, text) ∈ ex_tx)
    (hat : (twL own ic cls).all (fun x => decide (x ∈ lw_tbl) && (goodWord x || nwOk x)) = true) (hgood : ∀ x ∈ Cond.classLink own ik cls :: Cond.initialized cls :: vx_atS own ic cls ["java/lang/RuntimeException", "java/lang/Exception"], vx_ot x = true)
    (d0 : decode cc pc = .ok (.new ik, 3)) (d3 : decode cc (pc + 3) = .ok (.dup, 1)) (d4 : decode cc (pc + 4) = .ok (.ldc is, 2)) (d6 : decode cc (pc + 6) = .ok (.invokespecial ic, 3)) (d9 : decode cc (pc + 9) = .ok (.athrow, 1))
    (hf : 5 < rm.frames) (hlo : (rest.map fun v => v.category).sum + 82 ≤ rm.locals) (hc : cells + 1 ≤ rm.cells) (hs : slots + 6 ≤ rm.slots) (hk0 : k ≠ 0 ∧ exN k = cls) : J p l e rm s m args below meth c (Q) w nL (cells) (slots) (pc) L (rest) (h) (some (k, (0 : Int32), ((h.1, h.2 + 1) : hp_M))) out := fun hX ls H locs hl hR hS => by
  subst hQ
  cases hX
  obtain ⟨sa, hsa⟩ := C.2.1.2.2.2.2.2.2.1 _ htx
  have hj := C.2.1.2.2.2.2.2.1
  refine vy_throwS (A := hp_A w) C.1.1 C.1.2.1 hst C.1.2.2.2.1 hcls.1 hcls.2 (C.tb hk) (C.tb hini) hsa (tw_use C hat) hgood (hj.2.2.2.1.kept C.at) (hj.2.2.2.2.kept C.at) hS (hl.1.trans C.1.2.2.1.symm) d0 d3 d4 d6 d9 (fun x hx => (hno x hx).elim) hf hlo hc hs hlk (fun t hA hz ho => ⟨hk0.1, hk0.2.symm, ?_⟩) hS.2.2 hc hs
  refine ⟨hz.trans (by rw [hR.1]), fun q hq => ?_, fun q x hq => ?_⟩
  · have hb := hR.base C.2.1
    rw [ho q (by omega)]
    exact hR.2.1 q hq
  · have h3 := hR.2.2 q x hq
    exact ⟨h3.1, h3.2.kept (ho q h3.2.lt)⟩
theorem j_callVX (C : Cx p m c cc nL s args own w) {idx ci n : Nat} {Cn : String} {y : MethodName} {cc' : ByteArray} {nL' : Nat} {ty : FieldType} {rm : Room} {a : Nat} {As : List Value} {g : Option (Nat × Int32 × hp_M)} {X : (Nat × Int32 × hp_M) → Option α} {out : α} (ok : okV own idx Cn y cc' nL' (some ty) n ci) (hR0 : rm.frames + 1 ≤ R.frames ∧ 8 + (nL' + 11) + rm.locals ≤ R.locals) (hn : As.length = n) (hW : (rest.map fun v => v.category).sum ≤ 8) (hf : cells + rm.cells ≤ R.cells ∧ slots + rm.slots ≤ R.slots) (hst : st = As.reverse ++ .ref a :: rest) (d : decode cc pc = .ok (.invokevirtual idx, 3)) (hM : ∀ r, g = some r → CX l w y cc' nL' ty rm (.ref a :: As) h r)
    (kx : ∀ r, g = some r → r.1 ≠ 0 → JX p l e R s m args below meth c (Q) w nL (cells + rm.cells) (slots + rm.slots) (pc) L (rest) (exN r.1) (r.2.2) (X r) out) (kk : ∀ r, g = some r → r.1 = 0 → nar (some ty) (some (.int r.2.1)) → J p l e R s m args below meth c (Q) w nL (cells + rm.cells) (slots + rm.slots) (pc + 3) L (.int r.2.1 :: rest) (r.2.2) (X r) out) : J p l e R s m args below meth c (Q) w nL (cells) (slots) (pc) L (st) (h) ((onO h a ci g).bind X) out := fun hX => by
  obtain ⟨r, e1, hX⟩ := Option.bind_eq_some_iff.mp hX
  obtain ⟨⟨fs, ha⟩, e1⟩ := onO_spec e1
  obtain ⟨o1, o2, o3, o4, o5, o6, q, o7, o8⟩ := ok
  intro ls H locs hl hR hS T hT X0
  have hrun := vx_runV (As := As) (rest := rest) C.1 (hM r e1) (cwV n C.1.2.2.2.2 (tb_good (c5 o1 o2 o3 o4 (c1 o5 fun x hx => hx))) rfl rfl rfl o6 hR0) (H := H) ⟨ct_blind, by rw [← o8]; exact hp_recv C hR o7 ha, fun U hU hW => ⟨rfl, by rw [hU]; exact hR, C.2.1.warm hW⟩⟩ (g := F0 m pc ls st) (locs := locs) (cells := cells) (slots := slots) (l := l) (e := e) (R := R) (below := below) (meth := meth) rfl hn hl.1 hst (lv_room hW) d hf
  have fin : ∀ (T' : State) (L2 : List Loc), Stand p l e R s m args below meth c T' (locs ++ L2) (cells + rm.cells) (slots + rm.slots) → (∀ q ∈ L2, hp_A w q.base) → hp_R w r.2.2 T'.heap → va_S (hp_A w) s.heap T'.heap (locs ++ L2) := fun T' L2 X' hL hR2 =>
    ⟨X'.same.2.1, fun q h1 h2 => (hR2.2.1 q (Nat.lt_of_not_le h2)).trans (C.2.2 q (Nat.lt_of_not_le h2)).symm, fun z hz => (List.mem_append.mp hz).elim (fun h => hS.2.2 z h) (fun h => hL z h)⟩
  rcases hrun T hT X0 with ⟨v, st0, t, T', L2, e0, X', hL, e1', e2, ⟨h0, ho, hn', hR'⟩, sg⟩ | ⟨q2, st0, t, T', L2, E, ce, e0, X', hL, e1', e2, ⟨h0, hE, hR'⟩, hce, hcv, hcl, sg⟩
  · cases ho
    have hR2 : hp_R w r.2.2 T'.heap := by rw [e1']; exact hR'
    obtain ⟨t2, a1, b1⟩ := kk r e1 h0 hn' hX ls T'.heap (locs ++ L2) hl hR2 (fin T' L2 X' hL hR2) T' rfl X'
    exact ⟨t2, sg t2 a1, b1⟩
  · have hR2 : hp_R w r.2.2 T'.heap := by rw [e1']; exact hR'
    subst hE
    obtain ⟨t2, a1, b1⟩ := kx r e1 h0 hX ls T'.heap (locs ++ L2) q2 ce hl hR2 (fin T' L2 X' hL hR2) (by rw [e1']; exact hce) hcv hcl T' rfl X'
    exact ⟨t2, sg.trans a1, b1⟩
theorem j_callSW (C : Cx p m c cc nL s args own w) {idx n : Nat} {y : MethodName} {cc' : ByteArray} {nL' : Nat} {ret : Option FieldType} {hh : List (Nat × Nat × Nat × Nat)} {rm : Room} {As : List Value} {g : Option (Int32 × hp_M)} {X : (Int32 × hp_M) → Option α} {out : α} (ok : Cond.methodLink own idx y ∈ TB ∧ Cond.static y ∈ TB ∧ Cond.initialized y.cls ∈ TB ∧ Cond.codeWith y cc' nL' ret hh ∈ TB ∧ (y.cls ≠ "java/lang/invoke/MethodHandle" ∧ y.cls ≠ "java/lang/invoke/VarHandle" ∧ (parseMethodDescriptor y.desc).map (fun d => d.parameters.length) = some n)) (hR0 : rm.frames + 1 ≤ R.frames ∧ 8 + (nL' + 11) + rm.locals ≤ R.locals) (hn : As.length = n) (hW : (rest.map fun v => v.category).sum ≤ 8) (hf : cells + rm.cells ≤ R.cells ∧ slots + rm.slots ≤ R.slots) (hst : st = As.reverse ++ rest) (d : decode cc pc = .ok (.invokestatic idx, 3)) (hM : ∀ r, g = some r → CTW l w y cc' nL' ret hh rm As h (some (.int r.1)) r.2) (kk : ∀ r, g = some r → nar ret (some (.int r.1)) → J p l e R s m args below meth c (Q) w nL (cells + rm.cells) (slots + rm.slots) (pc + 3) L (.int r.1 :: rest) (r.2) (X r) out) : J p l e R s m args below meth c (Q) w nL (cells) (slots) (pc) L (st) (h) (g.bind X) out := fun hX => by
  obtain ⟨r, e1, hX⟩ := Option.bind_eq_some_iff.mp hX
  obtain ⟨o1, o2, o4, o5, o6⟩ := ok
  exact j_run (ret := ret) (rest := rest) (res := some (.int r.1)) (av := #[]) C (fun ls H locs hl hR => vx_runSW (hh := hh) (As := As) (rest := rest) C.1 (hM r e1) (vx_cwSW n C.1.2.2.2.2 (tb_good (c4 o1 o2 o4 (c1 o5 fun x hx => hx))) rfl rfl rfl o6 hR0) ⟨ct_blind, fun U hU hW => ⟨rfl, by rw [hU]; exact hR, C.2.1.warm hW⟩⟩ rfl hn hl.1 hst (lv_room hW) d hf) (fun hn => kk r e1 hn) hX
end JE
theorem tw_2 : (twL RX10 72 "java/lang/IllegalArgumentException").all (fun x => decide (x ∈ lw_tbl) && (goodWord x || nwOk x)) = true := by decide +kernel
theorem tg_2 : ∀ x ∈ Cond.classLink RX10 68 "java/lang/IllegalArgumentException" :: Cond.initialized "java/lang/IllegalArgumentException" :: vx_atS RX10 72 "java/lang/IllegalArgumentException" ["java/lang/RuntimeException", "java/lang/Exception"], vx_ot x = true := List.all_eq_true.mp (by decide +kernel)
theorem tk_2 : Cond.classLink RX10 68 "java/lang/IllegalArgumentException" ∈ TB := (tb_i 1043 (by decide +kernel) rfl)
theorem ti_2 : Cond.initialized "java/lang/IllegalArgumentException" ∈ TB := (tb_i 18 (by decide +kernel) rfl)
theorem tf_2 : Bundle.fit "java/lang/IllegalArgumentException" = true ∧ ∀ n ∈ ["java/lang/RuntimeException", "java/lang/Exception"], Bundle.fit n = true := by decide +kernel
theorem tc_2 : Cond.castable "java/lang/IllegalArgumentException" "java/lang/IllegalArgumentException" ∈ hp_nw := nw_i 1045 (by decide +kernel) rfl
theorem tw_1 : (twL RX10 57 "java/lang/IllegalStateException").all (fun x => decide (x ∈ lw_tbl) && (goodWord x || nwOk x)) = true := by decide +kernel
theorem tg_1 : ∀ x ∈ Cond.classLink RX10 53 "java/lang/IllegalStateException" :: Cond.initialized "java/lang/IllegalStateException" :: vx_atS RX10 57 "java/lang/IllegalStateException" ["java/lang/RuntimeException", "java/lang/Exception"], vx_ot x = true := List.all_eq_true.mp (by decide +kernel)
theorem tk_1 : Cond.classLink RX10 53 "java/lang/IllegalStateException" ∈ TB := (tb_i 959 (by decide +kernel) rfl)
theorem ti_1 : Cond.initialized "java/lang/IllegalStateException" ∈ TB := (tb_i 17 (by decide +kernel) rfl)
theorem tf_1 : Bundle.fit "java/lang/IllegalStateException" = true ∧ ∀ n ∈ ["java/lang/RuntimeException", "java/lang/Exception"], Bundle.fit n = true := by decide +kernel
theorem tc_1 : Cond.castable "java/lang/IllegalStateException" "java/lang/IllegalStateException" ∈ hp_nw := nw_i 961 (by decide +kernel) rfl
theorem tw_3 : (twL RX10 91 "java/lang/IndexOutOfBoundsException").all (fun x => decide (x ∈ lw_tbl) && (goodWord x || nwOk x)) = true := by decide +kernel
theorem tg_3 : ∀ x ∈ Cond.classLink RX10 87 "java/lang/IndexOutOfBoundsException" :: Cond.initialized "java/lang/IndexOutOfBoundsException" :: vx_atS RX10 91 "java/lang/IndexOutOfBoundsException" ["java/lang/RuntimeException", "java/lang/Exception"], vx_ot x = true := List.all_eq_true.mp (by decide +kernel)
theorem tk_3 : Cond.classLink RX10 87 "java/lang/IndexOutOfBoundsException" ∈ TB := (tb_i 1067 (by decide +kernel) rfl)
theorem ti_3 : Cond.initialized "java/lang/IndexOutOfBoundsException" ∈ TB := (tb_i 27 (by decide +kernel) rfl)
theorem tf_3 : Bundle.fit "java/lang/IndexOutOfBoundsException" = true ∧ ∀ n ∈ ["java/lang/RuntimeException", "java/lang/Exception"], Bundle.fit n = true := by decide +kernel
theorem tc_3 : Cond.castable "java/lang/IndexOutOfBoundsException" "java/lang/IndexOutOfBoundsException" ∈ hp_nw := nw_i 1069 (by decide +kernel) rfl
theorem tl_13 : Cond.classLink RL 13 "java/lang/IllegalStateException" ∈ TB := (tb_i 950 (by decide +kernel) rfl)
theorem tl_19 : Cond.classLink RL 19 "java/lang/IllegalArgumentException" ∈ TB := (tb_i 1038 (by decide +kernel) rfl)
theorem tl_24 : Cond.classLink RL 24 "java/lang/IndexOutOfBoundsException" ∈ TB := (tb_i 1062 (by decide +kernel) rfl)
