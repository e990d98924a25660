/-! Contracts and calls. -/
def nar (ret : Option FieldType) (res : Option Value) : Prop := ∀ ty v, ret = some ty → res = some v → narrow ty v = v
/-- method y, from the pure heap h, returns res, and leaves h' -/
def CT (l : Launch) (w : hp_W) (y : MethodName) (cc : ByteArray) (nL : Nat) (ret : Option FieldType) (rm : Room) (av : List Value) (h : hp_M) (res : Option Value) (h' : hp_M) : Prop :=
  Met l y (Cond.code y cc nL ret :: TB) rm (fun a U => a = av.toArray ∧ hp_R w h U.heap ∧ hp_K w U) (fun _ _ o t => o = .returned res ∧ nar ret res ∧ hp_R w h' t.heap) rm.cells rm.slots (hp_A w)
def QM (below : List Frame) (w : hp_W) (args : Array Value) (s : State) (rm : Room) (ret : Option FieldType) (res : Option Value) (h' : hp_M) : State → Prop :=
  MQ below (fun _ _ o t => o = .returned res ∧ nar ret res ∧ hp_R w h' t.heap) args s rm.cells rm.slots (hp_A w)
section JC
variable {p : Program} {l : Launch} {e : Env} {R rm : Room} {s : State} {m : MethodId} {args : Array Value} {below : List Frame} {meth : Method} {c : Code} {Q : State → Prop} {w : hp_W} {cc : ByteArray} {nL cells slots pc : Nat} {own : String} {L L' : List (Nat × Value)} {st rest : List Value} {h h' : hp_M} {α β : Type} {X : Option α} {out : α} {ret : Option FieldType} {res : Option Value}
theorem CT_of {y : MethodName} {av : List Value} (hy : plainName y.cls = true) (hl0 : (lg_sl av).length ≤ nL) (hX : X = some out)
    (body : ∀ p e s m args below meth c, Cx p m c cc nL s args y.cls w → meth.sig.returnType = ret → meth.locks = false → meth.name = y.name → J p l e rm s m args below meth c (QM below w args s rm ret res h') w nL (0) (0) (0) (lv_args 0 av) ([]) (h) (X) out) : CT l w y cc nL ret rm av h res h' := by
  refine Met.ofW (cc := cc) (maxL := nL) (ret := ret) hy rfl ?_
  intro p e s m args below meth c s₁ B hml hv
  obtain ⟨rfl, hR, hK⟩ := hv
  have hts := atoms_spec (ws := Cond.code y cc nL ret :: TB) B.pre
  have C : Cx p m c cc nL s av.toArray y.cls w := ⟨⟨B.exec, B.bytes, hml, findClass_of_methodNamed B.named, fun x hx => hts x (List.mem_cons_of_mem _ hx)⟩, hK, hR.2.1⟩
  have hb := body p e s m av.toArray below meth c C B.returns B.notSynchronized (name_of_methodNamed B.named B.method).1
  have hl := lv_entry av (n := nL) hl0
  rw [lg_entry_eq]
  exact hb hX _ s.heap [] hl hR va_S.rf
theorem vI_ret (C : Cx p m c cc nL s args own w) {ty : FieldType} {v : Int32} (hr : meth.sig.returnType = some ty) (hn : narrow ty (.int v) = .int v) (hlk : meth.locks = false) (d : decode cc pc = .ok (.ireturn, 1)) (hc : cells ≤ rm.cells) (hs : slots ≤ rm.slots) (ho : X = some out → res = some (.int v) ∧ h' = h) : J p l e R s m args below meth c (QM below w args s rm (some ty) res h') w nL (cells) (slots) (pc) L ([.int v]) (h) (X) out := fun hX ls H locs hl hR hS => by
  obtain ⟨rfl, rfl⟩ := ho hX
  refine W.widen hc hs ?_
  exact W.zret C.1.1 C.1.2.1 hr hn (fun t ht hW => ⟨rfl, fun ty2 v2 h1 h2 => by cases h1; cases h2; exact hn, by rw [ht]; exact hR⟩) hS.2.2 d hlk
theorem j_iretR (C : Cx p m c cc nL s args own w) {ty : FieldType} {v out : Int32} (hr : meth.sig.returnType = some ty) (hn : narrow ty (.int v) = .int v) (hlk : meth.locks = false) (d : decode cc pc = .ok (.ireturn, 1)) (hc : cells ≤ rm.cells) (hs : slots ≤ rm.slots) : J p l e R s m args below meth c (QM below w args s rm (some ty) (some (.int out)) h) w nL (cells) (slots) (pc) L ([.int v]) (h) (some v) out := vI_ret C hr hn hlk d hc hs (fun hX => by cases hX; exact ⟨rfl, rfl⟩)
theorem j_iretM (C : Cx p m c cc nL s args own w) {ty : FieldType} {v : Int32} {out : Int32 × hp_M} (hr : meth.sig.returnType = some ty) (hn : narrow ty (.int v) = .int v) (hlk : meth.locks = false) (d : decode cc pc = .ok (.ireturn, 1)) (hc : cells ≤ rm.cells) (hs : slots ≤ rm.slots) : J p l e R s m args below meth c (QM below w args s rm (some ty) (some (.int out.1)) out.2) w nL (cells) (slots) (pc) L ([.int v]) (h) (some (v, h)) out := vI_ret C hr hn hlk d hc hs (fun hX => by cases hX; exact ⟨rfl, rfl⟩)
theorem j_vretM (C : Cx p m c cc nL s args own w) {out : hp_M} (hr : meth.sig.returnType = none) (hlk : meth.locks = false) (d : decode cc pc = .ok (.return_, 1)) (hc : cells ≤ rm.cells) (hs : slots ≤ rm.slots) : J p l e R s m args below meth c (QM below w args s rm none none out) w nL (cells) (slots) (pc) L ([]) (h) (some h) out := fun hX ls H locs hl hR hS => by
  cases hX
  refine W.widen hc hs ?_
  exact W.vret C.1.1 C.1.2.1 hr (fun t ht hW => ⟨rfl, (fun ty2 v2 h1 h2 => nomatch h1), by rw [ht]; exact hR⟩) hS.2.2 d hlk
theorem vA_ret (C : Cx p m c cc nL s args own w) {ty : FieldType} {v : Nat} (hr : meth.sig.returnType = some ty) (hrt : (∃ n, ty = .object n) ∨ ∃ t, ty = .array t) (hlk : meth.locks = false) (d : decode cc pc = .ok (.areturn, 1)) (hc : cells ≤ rm.cells) (hs : slots ≤ rm.slots) (ho : X = some out → res = some (.ref v) ∧ h' = h) : J p l e R s m args below meth c (QM below w args s rm (some ty) res h') w nL (cells) (slots) (pc) L ([.ref v]) (h) (X) out := fun hX ls H locs hl hR hS => by
  obtain ⟨rfl, rfl⟩ := ho hX
  refine W.widen hc hs ?_
  exact W.aret C.1.1 C.1.2.1 hr hrt (Or.inr ⟨v, rfl⟩) (fun t ht hW => ⟨rfl, fun ty2 v2 h1 h2 => by cases h1; cases h2; rcases hrt with ⟨n, rfl⟩ | ⟨t, rfl⟩ <;> rfl, by rw [ht]; exact hR⟩) hS.2.2 d hlk
theorem j_aretR (C : Cx p m c cc nL s args own w) {ty : FieldType} {v out : Nat} (hr : meth.sig.returnType = some ty) (hrt : (∃ n, ty = .object n) ∨ ∃ t, ty = .array t) (hlk : meth.locks = false) (d : decode cc pc = .ok (.areturn, 1)) (hc : cells ≤ rm.cells) (hs : slots ≤ rm.slots) : J p l e R s m args below meth c (QM below w args s rm (some ty) (some (.ref out)) h) w nL (cells) (slots) (pc) L ([.ref v]) (h) (some v) out := vA_ret C hr hrt hlk d hc hs (fun hX => by cases hX; exact ⟨rfl, rfl⟩)
theorem j_aretM (C : Cx p m c cc nL s args own w) {ty : FieldType} {v : Nat} {out : Nat × hp_M} (hr : meth.sig.returnType = some ty) (hrt : (∃ n, ty = .object n) ∨ ∃ t, ty = .array t) (hlk : meth.locks = false) (d : decode cc pc = .ok (.areturn, 1)) (hc : cells ≤ rm.cells) (hs : slots ≤ rm.slots) : J p l e R s m args below meth c (QM below w args s rm (some ty) (some (.ref out.1)) out.2) w nL (cells) (slots) (pc) L ([.ref v]) (h) (some (v, h)) out := vA_ret C hr hrt hlk d hc hs (fun hX => by cases hX; exact ⟨rfl, rfl⟩)
theorem j_lretR (C : Cx p m c cc nL s args own w) {v out : Int64} (hr : meth.sig.returnType = some .long) (hlk : meth.locks = false) (d : decode cc pc = .ok (.lreturn, 1)) (hc : cells ≤ rm.cells) (hs : slots ≤ rm.slots) : J p l e R s m args below meth c (QM below w args s rm (some .long) (some (.long out)) h) w nL (cells) (slots) (pc) L ([.long v]) (h) (some v) out := fun hX ls H locs hl hR hS => by
  cases hX
  refine W.widen hc hs ?_
  exact W.lret C.1.1 C.1.2.1 hr (fun t ht hW => ⟨rfl, fun ty2 v2 h1 h2 => by cases h1; cases h2; rfl, by rw [ht]; exact hR⟩) hS.2.2 d hlk
theorem j_lretM (C : Cx p m c cc nL s args own w) {v : Int64} {out : Int64 × hp_M} (hr : meth.sig.returnType = some .long) (hlk : meth.locks = false) (d : decode cc pc = .ok (.lreturn, 1)) (hc : cells ≤ rm.cells) (hs : slots ≤ rm.slots) : J p l e R s m args below meth c (QM below w args s rm (some .long) (some (.long out.1)) out.2) w nL (cells) (slots) (pc) L ([.long v]) (h) (some (v, h)) out := fun hX ls H locs hl hR hS => by
  cases hX
  refine W.widen hc hs ?_
  exact W.lret C.1.1 C.1.2.1 hr (fun t ht hW => ⟨rfl, fun ty2 v2 h1 h2 => by cases h1; cases h2; rfl, by rw [ht]; exact hR⟩) hS.2.2 d hlk
theorem j_dretR (C : Cx p m c cc nL s args own w) {v : UInt64} {out : UInt64} (hr : meth.sig.returnType = some .double) (hlk : meth.locks = false) (d : decode cc pc = .ok (.dreturn, 1)) (hc : cells ≤ rm.cells) (hs : slots ≤ rm.slots) : J p l e R s m args below meth c (QM below w args s rm (some .double) (some (.double out)) h) w nL (cells) (slots) (pc) L ([.double v]) (h) (some v) out := fun hX ls H locs hl hR hS => by
  cases hX
  refine W.widen hc hs ?_
  exact W.dret C.1.1 C.1.2.1 hr (fun t ht hW => ⟨rfl, fun ty2 v2 h1 h2 => by cases h1; cases h2; rfl, by rw [ht]; exact hR⟩) hS.2.2 d hlk
theorem j_dretM (C : Cx p m c cc nL s args own w) {v : UInt64} {out : UInt64 × hp_M} (hr : meth.sig.returnType = some .double) (hlk : meth.locks = false) (d : decode cc pc = .ok (.dreturn, 1)) (hc : cells ≤ rm.cells) (hs : slots ≤ rm.slots) : J p l e R s m args below meth c (QM below w args s rm (some .double) (some (.double out.1)) out.2) w nL (cells) (slots) (pc) L ([.double v]) (h) (some (v, h)) out := fun hX ls H locs hl hR hS => by
  cases hX
  refine W.widen hc hs ?_
  exact W.dret C.1.1 C.1.2.1 hr (fun t ht hW => ⟨rfl, fun ty2 v2 h1 h2 => by cases h1; cases h2; rfl, by rw [ht]; exact hR⟩) hS.2.2 d hlk
theorem ct_blind {av : List Value} : FrameBlind (fun (a : Array Value) (U : State) => a = av.toArray ∧ hp_R w h U.heap ∧ hp_K w U) := fun a U g mk q => ⟨q.1, q.2.1, hp_K.same (u := U) rfl q.2.2⟩
theorem j_run (C : Cx p m c cc nL s args own w) {mc ms : Nat} {av : Array Value} (hrun : ∀ (ls : Array Slot) (H : Heap) (locs : List Loc), lv_has ls nL L → hp_R w h H → va_Run p l e R s m args below meth c H locs cells slots mc ms (F0 m pc ls st) rest (fun _ o t => o = .returned res ∧ nar ret res ∧ hp_R w h' t.heap) (hp_A w)) (kk : nar ret res → J p l e R s m args below meth c (Q) w nL (cells + mc) (slots + ms) (pc + 3) L (res.toList ++ rest) (h') (X) out) : J p l e R s m args below meth c (Q) w nL (cells) (slots) (pc) L (st) (h) (X) out := by
  intro hX ls H locs hl hR hS T hT X0
  obtain ⟨v, st0, t, T', L2, e0, X', hL, e1, e2, ⟨ho, hn, hR'⟩, sg⟩ := hrun ls H locs hl hR T hT X0
  cases ho
  have hR2 : hp_R w h' T'.heap := by rw [e1]; exact hR'
  have hz : s.heap.size ≤ T'.heap.size := X'.same.2.1
  obtain ⟨t2, a1, b1⟩ := kk hn hX ls T'.heap (locs ++ L2) hl hR2 ⟨hz, fun q h1 h2 => (hR2.2.1 q (Nat.lt_of_not_le h2)).trans (C.2.2 q (Nat.lt_of_not_le h2)).symm, fun z hz => (List.mem_append.mp hz).elim (fun h => hS.2.2 z h) (fun h => hL z h)⟩ T' rfl X'
  exact ⟨t2, sg t2 a1, b1⟩
theorem hp_recv (C : Cx p m c cc nL s args own w) {H : Heap} (hR : hp_R w h H) {a ci : Nat} {fs : List Value} {q : vw_C} (hc : vwCl[ci]? = some q) (ha : h.1 a = some (.inr (ci, fs))) : ∃ cell : Cell, H[a]? = some cell ∧ cell.vm.isStatics = false ∧ s.vm.findClass q.1 = some cell.cls :=
  va_recv (D := w.2.2.1) C.2.1.1 (hp_P1 hR ha) hc (q0 := 0) rfl
def okV (own : String) (idx : Nat) (Cn : String) (y : MethodName) (cc' : ByteArray) (nL' : Nat) (ret : Option FieldType) (n ci : Nat) : Prop := Cond.methodLink own idx y ∈ TB ∧ Cond.instanceMethod y ∈ TB ∧ Cond.selects Cn y y ∈ TB ∧ Cond.initialized Cn ∈ TB ∧ Cond.code y cc' nL' ret ∈ TB ∧ (y.cls = Cn ∧ y.cls ≠ "java/lang/invoke/MethodHandle" ∧ y.cls ≠ "java/lang/invoke/VarHandle" ∧ (parseMethodDescriptor y.desc).map (fun d => d.parameters.length) = some n) ∧ ∃ q : vw_C, vwCl[ci]? = some q ∧ q.1 = Cn
def okVN (own : String) (idx : Nat) (Cn : String) (y : MethodName) (cc' : ByteArray) (nL' : Nat) (ret : Option FieldType) (n ci : Nat) : Prop := (∃ host, Cond.methodLinkNest own idx y host ∈ hp_nw) ∧ Cond.instanceMethod y ∈ TB ∧ Cond.selects Cn y y ∈ TB ∧ Cond.initialized y.cls ∈ TB ∧ Cond.code y cc' nL' ret ∈ TB ∧ (y.cls ≠ "java/lang/invoke/MethodHandle" ∧ y.cls ≠ "java/lang/invoke/VarHandle" ∧ (parseMethodDescriptor y.desc).map (fun d => d.parameters.length) = some n) ∧ ∃ q : vw_C, vwCl[ci]? = some q ∧ q.1 = Cn
def okS (own : String) (idx : Nat) (y : MethodName) (cc' : ByteArray) (nL' : Nat) (ret : Option FieldType) (n : Nat) : Prop := Cond.methodLink own idx y ∈ TB ∧ Cond.static y ∈ TB ∧ Cond.initialized y.cls ∈ TB ∧ Cond.code y cc' nL' ret ∈ TB ∧ (y.cls ≠ "java/lang/invoke/MethodHandle" ∧ y.cls ≠ "java/lang/invoke/VarHandle" ∧ (parseMethodDescriptor y.desc).map (fun d => d.parameters.length) = some n)
def okSN (own : String) (idx : Nat) (y : MethodName) (cc' : ByteArray) (nL' : Nat) (ret : Option FieldType) (n : Nat) : Prop := (∃ host, Cond.methodLinkNest own idx y host ∈ hp_nw) ∧ Cond.static y ∈ TB ∧ Cond.initialized y.cls ∈ TB ∧ Cond.code y cc' nL' ret ∈ TB ∧ (y.cls ≠ "java/lang/invoke/MethodHandle" ∧ y.cls ≠ "java/lang/invoke/VarHandle" ∧ (parseMethodDescriptor y.desc).map (fun d => d.parameters.length) = some n)
def okI (own : String) (idx : Nat) (y : MethodName) (cc' : ByteArray) (nL' : Nat) (n : Nat) : Prop := Cond.methodLink own idx y ∈ TB ∧ Cond.instanceMethod y ∈ TB ∧ Cond.initialized y.cls ∈ TB ∧ Cond.code y cc' nL' none ∈ TB ∧ y.name = "<init>" ∧ (y.cls ≠ "java/lang/invoke/MethodHandle" ∧ y.cls ≠ "java/lang/invoke/VarHandle" ∧ (parseMethodDescriptor y.desc).map (fun d => d.parameters.length) = some n)
def okIN (own : String) (idx : Nat) (y : MethodName) (cc' : ByteArray) (nL' : Nat) (n : Nat) : Prop := (∃ host, Cond.methodLinkNest own idx y host ∈ hp_nw) ∧ Cond.instanceMethod y ∈ TB ∧ Cond.initialized y.cls ∈ TB ∧ Cond.code y cc' nL' none ∈ TB ∧ y.name = "<init>" ∧ (y.cls ≠ "java/lang/invoke/MethodHandle" ∧ y.cls ≠ "java/lang/invoke/VarHandle" ∧ (parseMethodDescriptor y.desc).map (fun d => d.parameters.length) = some n)
theorem c5 {P : Cond → Prop} {a b c d : Cond} {L : List Cond} (h1 : P a) (h2 : P b) (h3 : P c) (h4 : P d) (h5 : ∀ x ∈ L, P x) : ∀ x ∈ ([a, b, c, d] ++ L), P x := by
  intro x hx
  rcases List.mem_append.mp hx with h | h
  · simp only [List.mem_cons, List.not_mem_nil, or_false] at h
    rcases h with rfl | rfl | rfl | rfl <;> assumption
  · exact h5 x h
theorem c4 {P : Cond → Prop} {a b c : Cond} {L : List Cond} (h1 : P a) (h2 : P b) (h3 : P c) (h5 : ∀ x ∈ L, P x) : ∀ x ∈ ([a, b, c] ++ L), P x := by
  intro x hx
  rcases List.mem_append.mp hx with h | h
  · simp only [List.mem_cons, List.not_mem_nil, or_false] at h
    rcases h with rfl | rfl | rfl <;> assumption
  · exact h5 x h
theorem c1 {P : Cond → Prop} {a : Cond} {L : List Cond} (h1 : P a) (h5 : ∀ x ∈ L, P x) : ∀ x ∈ a :: L, P x := fun x hx => (List.mem_cons.mp hx).elim (fun e => e ▸ h1) (h5 x)
theorem j_callV (C : Cx p m c cc nL s args own w) {idx ci n : Nat} {Cn : String} {y : MethodName} {cc' : ByteArray} {nL' : Nat} {ret : Option FieldType} {rm : Room} {a : Nat} (As : List Value) {g : Option β} {X : β → Option α} (res : β → Option Value) (hh : β → hp_M) (ok : okV own idx Cn y cc' nL' ret n ci) (hR0 : rm.frames + 1 ≤ R.frames ∧ 8 + (nL' + 11) + rm.locals ≤ R.locals) (hn : As.length = n) (hW : (rest.map fun v => v.category).sum ≤ 8) (hf : cells + rm.cells ≤ R.cells ∧ slots + rm.slots ≤ R.slots) (hst : st = As.reverse ++ .ref a :: rest) (d : decode cc pc = .ok (.invokevirtual idx, 3)) (hM : ∀ r, g = some r → CT l w y cc' nL' ret rm (.ref a :: As) h (res r) (hh r)) (kk : ∀ r, g = some r → nar ret (res r) → J p l e R s m args below meth c (Q) w nL (cells + rm.cells) (slots + rm.slots) (pc + 3) L ((res r).toList ++ rest) (hh r) (X r) out) : J p l e R s m args below meth c (Q) w nL (cells) (slots) (pc) L (st) (h) ((onO h a ci g).bind X) out := fun hX => by
  obtain ⟨r, e1, hX⟩ := Option.bind_eq_some_iff.mp hX
  obtain ⟨⟨fs, ha⟩, e1⟩ := onO_spec e1
  obtain ⟨o1, o2, o3, o4, o5, o6, q, o7, o8⟩ := ok
  refine j_run (ret := ret) (av := #[]) C (fun ls H locs hl hR => va_runV (As := As) (rest := rest) C.1 (hM r e1) (cwV n C.1.2.2.2.2 (tb_good (c5 o1 o2 o3 o4 (c1 o5 fun x hx => hx))) rfl rfl rfl o6 hR0) ⟨ct_blind, ?_, fun U hU hW => ⟨rfl, by rw [hU]; exact hR, C.2.1.warm hW⟩⟩ rfl hn hl.1 hst (lv_room hW) d hf) (fun hn => kk r e1 hn) hX
  rw [← o8]
  exact hp_recv C hR o7 ha
theorem j_callVN (C : Cx p m c cc nL s args own w) {idx ci n : Nat} {Cn : String} {y : MethodName} {cc' : ByteArray} {nL' : Nat} {ret : Option FieldType} {rm : Room} {a : Nat} (As : List Value) {g : Option β} {X : β → Option α} (res : β → Option Value) (hh : β → hp_M) (ok : okVN own idx Cn y cc' nL' ret n ci) (hR0 : rm.frames + 1 ≤ R.frames ∧ 8 + (nL' + 11) + rm.locals ≤ R.locals) (hn : As.length = n) (hW : (rest.map fun v => v.category).sum ≤ 8) (hf : cells + rm.cells ≤ R.cells ∧ slots + rm.slots ≤ R.slots) (hst : st = As.reverse ++ .ref a :: rest) (d : decode cc pc = .ok (.invokevirtual idx, 3)) (hM : ∀ r, g = some r → CT l w y cc' nL' ret rm (.ref a :: As) h (res r) (hh r)) (kk : ∀ r, g = some r → nar ret (res r) → J p l e R s m args below meth c (Q) w nL (cells + rm.cells) (slots + rm.slots) (pc + 3) L ((res r).toList ++ rest) (hh r) (X r) out) : J p l e R s m args below meth c (Q) w nL (cells) (slots) (pc) L (st) (h) ((onO h a ci g).bind X) out := fun hX => by
  obtain ⟨r, e1, hX⟩ := Option.bind_eq_some_iff.mp hX
  obtain ⟨⟨fs, ha⟩, e1⟩ := onO_spec e1
  obtain ⟨⟨host, o1⟩, o2, o3, o4, o5, o6, q, o7, o8⟩ := ok
  refine j_run (ret := ret) (av := #[]) C (fun ls H locs hl hR => va_runVN (host := host) (As := As) (rest := rest) C.1 (hM r e1) ⟨va_cnB n C.1.2.2.2.2 (tb_good (c1 o5 fun x hx => hx)) rfl rfl rfl (C.nw o1) (C.tb o4) o6 hR0, C.tb o2, C.tb o3⟩ ⟨ct_blind, ?_, fun U hU hW => ⟨rfl, by rw [hU]; exact hR, C.2.1.warm hW⟩⟩ rfl hn hl.1 hst (lv_room hW) d hf) (fun hn => kk r e1 hn) hX
  rw [← o8]
  exact hp_recv C hR o7 ha
theorem j_callS (C : Cx p m c cc nL s args own w) {idx n : Nat} {y : MethodName} {cc' : ByteArray} {nL' : Nat} {ret : Option FieldType} {rm : Room} (As : List Value) {g : Option β} {X : β → Option α} (res : β → Option Value) (hh : β → hp_M) (ok : okS own idx y cc' nL' ret n) (hR0 : rm.frames + 1 ≤ R.frames ∧ 8 + (nL' + 11) + rm.locals ≤ R.locals) (hn : As.length = n) (hW : (rest.map fun v => v.category).sum ≤ 8) (hf : cells + rm.cells ≤ R.cells ∧ slots + rm.slots ≤ R.slots) (hst : st = As.reverse ++ rest) (d : decode cc pc = .ok (.invokestatic idx, 3)) (hM : ∀ r, g = some r → CT l w y cc' nL' ret rm As h (res r) (hh r)) (kk : ∀ r, g = some r → nar ret (res r) → J p l e R s m args below meth c (Q) w nL (cells + rm.cells) (slots + rm.slots) (pc + 3) L ((res r).toList ++ rest) (hh r) (X r) out) : J p l e R s m args below meth c (Q) w nL (cells) (slots) (pc) L (st) (h) (g.bind X) out := fun hX => by
  obtain ⟨r, e1, hX⟩ := Option.bind_eq_some_iff.mp hX
  obtain ⟨o1, o2, o4, o5, o6⟩ := ok
  exact j_run (ret := ret) (av := #[]) C (fun ls H locs hl hR => va_runS (As := As) (rest := rest) C.1 (hM r e1) (va_cwS n C.1.2.2.2.2 (tb_good (c4 o1 o2 o4 (c1 o5 fun x hx => hx))) rfl rfl rfl o6 hR0) ⟨ct_blind, fun U hU hW => ⟨rfl, by rw [hU]; exact hR, C.2.1.warm hW⟩⟩ rfl hn hl.1 hst (lv_room hW) d hf) (fun hn => kk r e1 hn) hX
theorem j_callSN (C : Cx p m c cc nL s args own w) {idx n : Nat} {y : MethodName} {cc' : ByteArray} {nL' : Nat} {ret : Option FieldType} {rm : Room} (As : List Value) {g : Option β} {X : β → Option α} (res : β → Option Value) (hh : β → hp_M) (ok : okSN own idx y cc' nL' ret n) (hR0 : rm.frames + 1 ≤ R.frames ∧ 8 + (nL' + 11) + rm.locals ≤ R.locals) (hn : As.length = n) (hW : (rest.map fun v => v.category).sum ≤ 8) (hf : cells + rm.cells ≤ R.cells ∧ slots + rm.slots ≤ R.slots) (hst : st = As.reverse ++ rest) (d : decode cc pc = .ok (.invokestatic idx, 3)) (hM : ∀ r, g = some r → CT l w y cc' nL' ret rm As h (res r) (hh r)) (kk : ∀ r, g = some r → nar ret (res r) → J p l e R s m args below meth c (Q) w nL (cells + rm.cells) (slots + rm.slots) (pc + 3) L ((res r).toList ++ rest) (hh r) (X r) out) : J p l e R s m args below meth c (Q) w nL (cells) (slots) (pc) L (st) (h) (g.bind X) out := fun hX => by
  obtain ⟨r, e1, hX⟩ := Option.bind_eq_some_iff.mp hX
  obtain ⟨⟨host, o1⟩, o2, o4, o5, o6⟩ := ok
  exact j_run (ret := ret) (av := #[]) C (fun ls H locs hl hR => va_runSN (host := host) (As := As) (rest := rest) C.1 (hM r e1) ⟨va_cnB n C.1.2.2.2.2 (tb_good (c1 o5 fun x hx => hx)) rfl rfl rfl (C.nw o1) (C.tb o4) o6 hR0, C.tb o2, trivial⟩ ⟨ct_blind, fun U hU hW => ⟨rfl, by rw [hU]; exact hR, C.2.1.warm hW⟩⟩ rfl hn hl.1 hst (lv_room hW) d hf) (fun hn => kk r e1 hn) hX
theorem j_callI (C : Cx p m c cc nL s args own w) {idx n : Nat} {y : MethodName} {cc' : ByteArray} {nL' : Nat} {rm : Room} {a : Nat} (As : List Value) {g : Option hp_M} {X : hp_M → Option α} (ok : okI own idx y cc' nL' n) (hR0 : rm.frames + 1 ≤ R.frames ∧ 8 + (nL' + 11) + rm.locals ≤ R.locals) (hn : As.length = n) (hW : (rest.map fun v => v.category).sum ≤ 8) (hf : cells + rm.cells ≤ R.cells ∧ slots + rm.slots ≤ R.slots) (hst : st = As.reverse ++ .ref a :: rest) (d : decode cc pc = .ok (.invokespecial idx, 3)) (hM : ∀ r, g = some r → CT l w y cc' nL' none rm (.ref a :: As) h none r) (kk : ∀ r, g = some r → J p l e R s m args below meth c (Q) w nL (cells + rm.cells) (slots + rm.slots) (pc + 3) L (rest) (r) (X r) out) : J p l e R s m args below meth c (Q) w nL (cells) (slots) (pc) L (st) (h) (g.bind X) out := fun hX => by
  obtain ⟨r, e1, hX⟩ := Option.bind_eq_some_iff.mp hX
  obtain ⟨o1, o2, o4, o5, o9, o6⟩ := ok
  exact j_run (ret := none) (av := #[]) C (fun ls H locs hl hR => va_runI (As := As) (rest := rest) C.1 (hM r e1) (cwI n C.1.2.2.2.2 (tb_good (c1 o5 fun x hx => hx)) rfl rfl rfl (C.tb o4) (C.tb o1) (C.tb o2) o9 o6 hR0) ⟨ct_blind, fun U hU hW => ⟨rfl, by rw [hU]; exact hR, C.2.1.warm hW⟩⟩ rfl hn hl.1 hst (lv_room hW) d hf) (fun hn => kk r e1) hX
theorem j_callIN (C : Cx p m c cc nL s args own w) {idx n : Nat} {y : MethodName} {cc' : ByteArray} {nL' : Nat} {rm : Room} {a : Nat} (As : List Value) {g : Option hp_M} {X : hp_M → Option α} (ok : okIN own idx y cc' nL' n) (hR0 : rm.frames + 1 ≤ R.frames ∧ 8 + (nL' + 11) + rm.locals ≤ R.locals) (hn : As.length = n) (hW : (rest.map fun v => v.category).sum ≤ 8) (hf : cells + rm.cells ≤ R.cells ∧ slots + rm.slots ≤ R.slots) (hst : st = As.reverse ++ .ref a :: rest) (d : decode cc pc = .ok (.invokespecial idx, 3)) (hM : ∀ r, g = some r → CT l w y cc' nL' none rm (.ref a :: As) h none r) (kk : ∀ r, g = some r → J p l e R s m args below meth c (Q) w nL (cells + rm.cells) (slots + rm.slots) (pc + 3) L (rest) (r) (X r) out) : J p l e R s m args below meth c (Q) w nL (cells) (slots) (pc) L (st) (h) (g.bind X) out := fun hX => by
  obtain ⟨r, e1, hX⟩ := Option.bind_eq_some_iff.mp hX
  obtain ⟨⟨host, o1⟩, o2, o4, o5, o9, o6⟩ := ok
  exact j_run (ret := none) (av := #[]) C (fun ls H locs hl hR => va_runIN (host := host) (As := As) (rest := rest) C.1 (hM r e1) ⟨va_cnB n C.1.2.2.2.2 (tb_good (c1 o5 fun x hx => hx)) rfl rfl rfl (C.nw o1) (C.tb o4) o6 hR0, o9, C.tb o2⟩ ⟨ct_blind, fun U hU hW => ⟨rfl, by rw [hU]; exact hR, C.2.1.warm hW⟩⟩ rfl hn hl.1 hst (lv_room hW) d hf) (fun hn => kk r e1) hX
theorem j_objInit (C : Cx p m c cc nL s args own w) {idx a : Nat} (o1 : Cond.methodLink own idx Lib.objectInit ∈ TB) (o2 : Cond.instanceMethod Lib.objectInit ∈ TB) (o3 : Cond.code Lib.objectInit ⟨#[0xb1]⟩ 1 none ∈ TB) (d : decode cc pc = .ok (.invokespecial idx, 3)) (h1 : 1 ≤ R.frames) (h2 : (rest.map fun v => v.category).sum + 12 ≤ R.locals) (k : J p l e R s m args below meth c (Q) w nL (cells) (slots) (pc + 3) L (rest) (h) (X) out) : J p l e R s m args below meth c (Q) w nL (cells) (slots) (pc) L (.ref a :: rest) (h) (X) out := fun hX ls H locs hl hR hS => by
  refine W.objInit C.1.1 C.1.2.1 C.1.2.2.2.1 (C.tb o1) (C.tb o2) (C.tb o3) rfl (hl.1.trans C.1.2.2.1.symm) rfl d h1 ?_ (k hX ls H locs hl hR hS)
  show 2 * (F0 m pc ls (.ref a :: rest)).monitorRoom + _ + 12 ≤ _
  rw [show (F0 m pc ls (.ref a :: rest)).monitorRoom = 0 from rfl]
  omega
end JC
