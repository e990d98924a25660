/-! Statics: the constants of Kind, their fields, the two static arrays, texts. -/
def kStep (w : hp_W) (a : Nat) : Option Int32 := (kx w a).bind fun i => some (kd_st.getD i 0)
def kText (w : hp_W) (a : Nat) : Option Nat := (kx w a).bind fun i => some (w_ka w (kd_tx.getD i 0))
def kAll (w : hp_W) (i : Int32) : Option Nat := if i < 0 ∨ 42 ≤ i.toNatClampNeg then none else some (w_kd w i.toNatClampNeg)
def kWord (w : hp_W) (i : Int32) : Option Nat := if i < 0 ∨ 22 ≤ i.toNatClampNeg then none else some (w_ka w (wd_tx.getD i.toNatClampNeg 0))
def sx (w : hp_W) (a : Nat) : Option Nat := (List.range 39).find? (fun j => w_ka w j == a)
def tLen (w : hp_W) (a : Nat) : Option Int32 := (sx w a).bind fun j => some (Int32.ofNat (tx_len.getD j 0))
def tAt (w : hp_W) (a : Nat) (i : Int32) : Option Int32 := (sx w a).bind fun j => if i < 0 ∨ tx_len.getD j 0 ≤ i.toNatClampNeg then none else some ((tx_byt.getD j []).getD i.toNatClampNeg 0)
theorem sx_spec {w : hp_W} {a k : Nat} (e : sx w a = some k) : k < 39 ∧ w_ka w k = a := by
  unfold sx at e
  have h1 := List.find?_some e
  have h2 := List.mem_range.mp (List.mem_of_find?_eq_some e)
  exact ⟨h2, by simpa using h1⟩
section JS
variable {p : Program} {l : Launch} {e : Env} {R rm : Room} {s : State} {m : MethodId} {args : Array Value} {below : List Frame} {meth : Method} {c : Code} {Q : State → Prop} {w : hp_W} {cc : ByteArray} {nL cells slots pc : Nat} {own : String} {L L' : List (Nat × Value)} {st rest : List Value} {h h' : hp_M} {α β : Type} {X : Option α} {out : α} {ret : Option FieldType} {res : Option Value}
theorem Cx.kd (C : Cx p m c cc nL s args own w) : hp_SK w s := C.2.1.2.2.2.1
theorem Cx.sa (C : Cx p m c cc nL s args own w) : hp_SA w s := C.2.1.2.2.2.2.1
theorem Cx.sj (C : Cx p m c cc nL s args own w) : hp_SJ w s := C.2.1.2.2.2.2.2.1
theorem j_gets (C : Cx p m c cc nL s args own w) {Cn n d0 : String} {v : Value} {idx : Nat} (hZ : va_Z Cn n d0 v (hp_A w) s w.2.1) (hl0 : Cond.fieldLink own idx Cn n d0 ∈ TB) (d : decode cc pc = .ok (.getstatic idx, 3)) (k : J p l e R s m args below meth c (Q) w nL (cells) (slots) (pc + 3) L (v :: rest) (h) (X) out) : J p l e R s m args below meth c (Q) w nL (cells) (slots) (pc) L (rest) (h) (X) out := fun hX ls H locs hl hR hS => va_gets C.1.1 C.1.2.1 (hZ.kept C.at) hS C.1.2.2.2.1 (C.tb hl0) (fun _ h => h) d (k hX ls H locs hl hR hS)
theorem j_getO (C : Cx p m c cc nL s args own w) {on n d0 : String} {v : Value} {idx q : Nat} (hE : va_OF on n d0 v q (hp_A w) s w.2.1) (hl0 : Cond.fieldLink own idx on n d0 ∈ TB) (d : decode cc pc = .ok (.getfield idx, 3)) (k : J p l e R s m args below meth c (Q) w nL (cells) (slots) (pc + 3) L (v :: rest) (h) (X) out) : J p l e R s m args below meth c (Q) w nL (cells) (slots) (pc) L (.ref q :: rest) (h) (X) out := fun hX ls H locs hl hR hS => vk_getf C.1.1 C.1.2.1 (hE.kept C.at) hS C.1.2.2.2.1 (C.tb hl0) (fun _ h => h) d (k hX ls H locs hl hR hS)
theorem j_talen (C : Cx p m c cc nL s args own w) {ty : FieldType} {t N : Nat} {f : Nat → Value} {v : Int32} (hT : va_T ty t N f (hp_A w) s w.2.1) (hv : Int32.ofNat N = v) (d : decode cc pc = .ok (.arraylength, 1)) (k : J p l e R s m args below meth c (Q) w nL (cells) (slots) (pc + 1) L (.int v :: rest) (h) (X) out) : J p l e R s m args below meth c (Q) w nL (cells) (slots) (pc) L (.ref t :: rest) (h) (X) out := fun hX ls H locs hl hR hS => va_tlen C.1.1 C.1.2.1 (hT.kept C.at) hS hv d (k hX ls H locs hl hR hS)
theorem j_tbload (C : Cx p m c cc nL s args own w) {t N : Nat} {f : Nat → Value} {i : Int32} {v : Value} (hT : va_T .byte t N f (hp_A w) s w.2.1) (hin : vp_in i N) (hv : f i.toNatClampNeg = v) (d : decode cc pc = .ok (.baload, 1)) (k : J p l e R s m args below meth c (Q) w nL (cells) (slots) (pc + 1) L (v :: rest) (h) (X) out) : J p l e R s m args below meth c (Q) w nL (cells) (slots) (pc) L (.int i :: .ref t :: rest) (h) (X) out := fun hX ls H locs hl hR hS => va_tb C.1.1 C.1.2.1 (hT.kept C.at) hS hin hv d (k hX ls H locs hl hR hS)
theorem j_taload (C : Cx p m c cc nL s args own w) {E : String} {t N : Nat} {f : Nat → Value} {i : Int32} {v : Value} (hN : N < 2 ^ 31) (hT : va_T (.object E) t N f (hp_A w) s w.2.1) (hin : vp_in i N) (hv : f i.toNatClampNeg = v) (d : decode cc pc = .ok (.aaload, 1)) (k : J p l e R s m args below meth c (Q) w nL (cells) (slots) (pc + 1) L (v :: rest) (h) (X) out) : J p l e R s m args below meth c (Q) w nL (cells) (slots) (pc) L (.int i :: .ref t :: rest) (h) (X) out := fun hX ls H locs hl hR hS => by
  obtain ⟨cell, h1, h2, h3, h4, h5, h6, h7⟩ := hT.kept C.at
  have hlt : i.toNatClampNeg < N := Nat.not_le.mp fun q => hin (Or.inr q)
  have hc : H[t]? = some cell := by rw [hS.2.1 t (Array.getElem?_eq_some_iff.mp h1).1 h7]; exact h1
  exact W.aald (ty := .object E) C.1.1 C.1.2.1 hc h2 rfl h3 (fun q => by rcases q with q | q; exact hin (Or.inl q); omega) (by rw [h6 _ hlt, hv]) rfl rfl d (k hX ls H locs hl hR hS)
theorem j_i2c (C : Cx p m c cc nL s args own w) {x v : Int32} (d : decode cc pc = .ok (.i2c, 1)) (hv : (x.toUInt32 % 65536).toInt32 = v) (k : J p l e R s m args below meth c (Q) w nL (cells) (slots) (pc + 1) L (.int v :: rest) (h) (X) out) : J p l e R s m args below meth c (Q) w nL (cells) (slots) (pc) L (.int x :: rest) (h) (X) out := fun hX ls H locs hl hR hS => lv_i2c C.1.1 C.1.2.1 d hv (k hX ls H locs hl hR hS)
theorem j_kind (C : Cx p m c cc nL s args own w) {idx i : Nat} (hl0 : Cond.fieldLink own idx RX2 (kd_nm.getD i "") "LShadowSpell$Kind;" ∈ TB) (hi : i < 42) (d : decode cc pc = .ok (.getstatic idx, 3)) (k : J p l e R s m args below meth c (Q) w nL (cells) (slots) (pc + 3) L (.ref (w_kd w i) :: rest) (h) (X) out) : J p l e R s m args below meth c (Q) w nL (cells) (slots) (pc) L (rest) (h) (X) out := j_gets C (C.kd i hi).1 hl0 d k
theorem j_all (C : Cx p m c cc nL s args own w) {idx : Nat} (hl0 : Cond.fieldLink own idx RX2 "ALL" "[LShadowSpell$Kind;" ∈ TB) (d : decode cc pc = .ok (.getstatic idx, 3)) (k : J p l e R s m args below meth c (Q) w nL (cells) (slots) (pc + 3) L (.ref (w_al w 0) :: rest) (h) (X) out) : J p l e R s m args below meth c (Q) w nL (cells) (slots) (pc) L (rest) (h) (X) out := j_gets C C.sa.1 hl0 d k
theorem j_words (C : Cx p m c cc nL s args own w) {idx : Nat} (hl0 : Cond.fieldLink own idx RX13 "WORDS" "[Ljava/lang/String;" ∈ TB) (d : decode cc pc = .ok (.getstatic idx, 3)) (k : J p l e R s m args below meth c (Q) w nL (cells) (slots) (pc + 3) L (.ref (w_al w 1) :: rest) (h) (X) out) : J p l e R s m args below meth c (Q) w nL (cells) (slots) (pc) L (rest) (h) (X) out := j_gets C C.sa.2.2.1 hl0 d k
theorem j_alllen (C : Cx p m c cc nL s args own w) (d : decode cc pc = .ok (.arraylength, 1)) (k : J p l e R s m args below meth c (Q) w nL (cells) (slots) (pc + 1) L (.int 42 :: rest) (h) (X) out) : J p l e R s m args below meth c (Q) w nL (cells) (slots) (pc) L (.ref (w_al w 0) :: rest) (h) (X) out := j_talen C C.sa.2.1 (by decide) d k
theorem j_wordlen (C : Cx p m c cc nL s args own w) (d : decode cc pc = .ok (.arraylength, 1)) (k : J p l e R s m args below meth c (Q) w nL (cells) (slots) (pc + 1) L (.int 22 :: rest) (h) (X) out) : J p l e R s m args below meth c (Q) w nL (cells) (slots) (pc) L (.ref (w_al w 1) :: rest) (h) (X) out := j_talen C C.sa.2.2.2 (by decide) d k
theorem j_allload (C : Cx p m c cc nL s args own w) {i : Int32} {X : Nat → Option α} (d : decode cc pc = .ok (.aaload, 1)) (kk : ∀ x, kAll w i = some x → J p l e R s m args below meth c (Q) w nL (cells) (slots) (pc + 1) L (.ref x :: rest) (h) (X x) out) : J p l e R s m args below meth c (Q) w nL (cells) (slots) (pc) L (.int i :: .ref (w_al w 0) :: rest) (h) ((kAll w i).bind X) out := fun hX => by
  obtain ⟨x, e1, hX2⟩ := Option.bind_eq_some_iff.mp hX
  have e0 := e1
  unfold kAll at e1
  by_cases hq : i < 0 ∨ 42 ≤ i.toNatClampNeg
  · rw [if_pos hq] at e1; cases e1
  · rw [if_neg hq] at e1
    cases e1
    exact j_taload C (by decide) C.sa.2.1 hq rfl d (kk _ e0) hX2
theorem j_wordload (C : Cx p m c cc nL s args own w) {i : Int32} {X : Nat → Option α} (d : decode cc pc = .ok (.aaload, 1)) (kk : ∀ x, kWord w i = some x → J p l e R s m args below meth c (Q) w nL (cells) (slots) (pc + 1) L (.ref x :: rest) (h) (X x) out) : J p l e R s m args below meth c (Q) w nL (cells) (slots) (pc) L (.int i :: .ref (w_al w 1) :: rest) (h) ((kWord w i).bind X) out := fun hX => by
  obtain ⟨x, e1, hX2⟩ := Option.bind_eq_some_iff.mp hX
  have e0 := e1
  unfold kWord at e1
  by_cases hq : i < 0 ∨ 22 ≤ i.toNatClampNeg
  · rw [if_pos hq] at e1; cases e1
  · rw [if_neg hq] at e1
    cases e1
    exact j_taload C (by decide) C.sa.2.2.2 hq rfl d (kk _ e0) hX2
theorem j_kstep (C : Cx p m c cc nL s args own w) {idx a : Nat} {X : Int32 → Option α} (hl0 : Cond.fieldLink own idx RX2 "step" "I" ∈ TB) (d : decode cc pc = .ok (.getfield idx, 3)) (kk : ∀ x, kStep w a = some x → J p l e R s m args below meth c (Q) w nL (cells) (slots) (pc + 3) L (.int x :: rest) (h) (X x) out) : J p l e R s m args below meth c (Q) w nL (cells) (slots) (pc) L (.ref a :: rest) (h) ((kStep w a).bind X) out := fun hX => by
  obtain ⟨x, e1, hX2⟩ := Option.bind_eq_some_iff.mp hX
  have e0 := e1
  obtain ⟨i, e2, e3⟩ := Option.bind_eq_some_iff.mp e1
  cases e3
  obtain ⟨hi, rfl⟩ := kx_spec e2
  exact j_getO C (C.kd i hi).2.2.1 hl0 d (kk _ e0) hX2
theorem j_ktext (C : Cx p m c cc nL s args own w) {idx a : Nat} {X : Nat → Option α} (hl0 : Cond.fieldLink own idx RX2 "spelling" "Ljava/lang/String;" ∈ TB) (d : decode cc pc = .ok (.getfield idx, 3)) (kk : ∀ x, kText w a = some x → J p l e R s m args below meth c (Q) w nL (cells) (slots) (pc + 3) L (.ref x :: rest) (h) (X x) out) : J p l e R s m args below meth c (Q) w nL (cells) (slots) (pc) L (.ref a :: rest) (h) ((kText w a).bind X) out := fun hX => by
  obtain ⟨x, e1, hX2⟩ := Option.bind_eq_some_iff.mp hX
  have e0 := e1
  obtain ⟨i, e2, e3⟩ := Option.bind_eq_some_iff.mp e1
  cases e3
  obtain ⟨hi, rfl⟩ := kx_spec e2
  exact j_getO C (C.kd i hi).2.2.2 hl0 d (kk _ e0) hX2
theorem j_aastoreK (C : Cx p m c cc nL s args own w) {a v : Nat} {i : Int32} {X : hp_M → Option α} (d : decode cc pc = .ok (.aastore, 1)) (kk : ∀ h', paK w h a i v = some h' → J p l e R s m args below meth c (Q) w nL (cells) (slots) (pc + 1) L (rest) (h') (X h') out) : J p l e R s m args below meth c (Q) w nL (cells) (slots) (pc) L (.ref v :: .int i :: .ref a :: rest) (h) ((paK w h a i v).bind X) out := fun hX ls H locs hl hR hS => by
  obtain ⟨h1, e1, hX⟩ := Option.bind_eq_some_iff.mp hX
  obtain ⟨n, f, k, hc, hin, hk, rfl, rfl⟩ := paK_spec e1
  have hlt : i.toNatClampNeg < n := Nat.not_le.mp fun q => hin (Or.inr q)
  have h0 : ¬ i < 0 := fun q => hin (Or.inl q)
  have hat := hR.2.2 a _ hc
  have hcell : H[a]? = some (vp_cell (w.2.2.2.1 2) (n, .inr (.inr (.inr (.inr f))))) := hat.2
  obtain ⟨cellV, g1, g2, g3, g4⟩ := (C.kd k hk).2.1.kept C.at
  have g5 : H[w_kd w k]? = some cellV := by rw [hS.2.1 _ (Array.getElem?_eq_some_iff.mp g1).1 g4]; exact g1
  obtain ⟨kA, comp, k1, k2, k3, -⟩ : ∃ (kA : Class) (comp : ClassId), s.vm.classes[w.2.2.2.1 2]? = some kA ∧ kA.kind = .array comp (.object RX2) ∧ s.vm.findClass RX2 = some comp ∧ s.vm.findClass ("[" ++ (FieldType.object RX2).toString) = some (w.2.2.2.1 2) := (C.2.1.1.2 2 _ rfl).2
  have hcomp : comp = cellV.cls := Option.some.inj (k3.symm.trans g3)
  subst hcomp
  obtain ⟨kC, hkC, -⟩ := Vm.findClass_spec g3
  refine W.aast C.1.1 C.1.2.1 hcell (fun q h => by cases h) (fun h => by cases h) k1 k2 rfl hkC ⟨h0, by show _ < (arrV _ _ _).slots.size; rw [arrV_size]; exact hlt⟩ g5 (fun q h => by rw [h] at g2; cases g2) hkC (by show Vm.assignableAux _ (255 + 1) _ _ = true; rw [Vm.assignableAux]; simp only [beq_self_eq_true, Bool.true_or]) rfl rfl d fun H1 e2 z oq => ?_
  rw [aR_store] at e2
  exact kk _ e1 hX ls H1 _ hl (hR.put hc z oq e2) (hS.put z oq hat.1)
def okO (own : String) (idx : Nat) (Cn : String) (y : MethodName) (cc' : ByteArray) (nL' : Nat) (ret : Option FieldType) (n : Nat) : Prop := Cond.methodLink own idx y ∈ TB ∧ Cond.instanceMethod y ∈ TB ∧ Cond.selects Cn y y ∈ TB ∧ Cond.initialized Cn ∈ TB ∧ Cond.code y cc' nL' ret ∈ TB ∧ (y.cls = Cn ∧ y.cls ≠ "java/lang/invoke/MethodHandle" ∧ y.cls ≠ "java/lang/invoke/VarHandle" ∧ (parseMethodDescriptor y.desc).map (fun d => d.parameters.length) = some n)
theorem j_callO (C : Cx p m c cc nL s args own w) {idx n : Nat} {Cn : String} {y : MethodName} {cc' : ByteArray} {nL' : Nat} {ret : Option FieldType} {rm : Room} {a : Nat} {As : List Value} {g : Option Int32} {X : Int32 → Option α} (ok : okO own idx Cn y cc' nL' ret n) (hR0 : rm.frames + 1 ≤ R.frames ∧ 8 + (nL' + 11) + rm.locals ≤ R.locals) (hn : As.length = n) (hW : (rest.map fun v => v.category).sum ≤ 8) (hf : cells + rm.cells ≤ R.cells ∧ slots + rm.slots ≤ R.slots) (hst : st = As.reverse ++ .ref a :: rest) (d : decode cc pc = .ok (.invokevirtual idx, 3)) (hO : ∀ r, g = some r → va_O Cn a (hp_A w) s w.2.1) (hM : ∀ r, g = some r → CT l w y cc' nL' ret rm (.ref a :: As) h (some (.int r)) h) (kk : ∀ r, g = some r → nar ret (some (.int r)) → J p l e R s m args below meth c (Q) w nL (cells + rm.cells) (slots + rm.slots) (pc + 3) L (.int r :: rest) (h) (X r) out) : J p l e R s m args below meth c (Q) w nL (cells) (slots) (pc) L (st) (h) (g.bind X) out := fun hX => by
  obtain ⟨r, e1, hX⟩ := Option.bind_eq_some_iff.mp hX
  obtain ⟨o1, o2, o3, o4, o5, o6⟩ := ok
  refine fun ls H locs hl hR hS => j_run (ret := ret) (rest := rest) (res := some (.int r)) (av := #[]) C (fun ls H locs hl hR => ?_) (fun hn => kk r e1 hn) hX ls H locs hl hR hS
  refine va_runV (As := As) (rest := rest) C.1 (hM r e1) (cwV n C.1.2.2.2.2 (tb_good (c5 o1 o2 o3 o4 (c1 o5 fun x hx => hx))) rfl rfl rfl o6 hR0) ⟨ct_blind, ?_, fun U hU hW => ⟨rfl, by rw [hU]; exact hR, C.2.1.warm hW⟩⟩ rfl hn hl.1 hst (lv_room hW) d hf
  obtain ⟨cellV, g1, g2, g3, g4⟩ := (hO r e1).kept C.at
  refine ⟨cellV, ?_, g2, g3⟩
  rw [hR.2.1 a (Nat.lt_of_not_le g4), ← C.2.2 a (Nat.lt_of_not_le g4)]
  exact g1
theorem j_ite_ifeq (C : Cx p m c cc nL s args own w) {x : Int32} {off : Int} {tgt : Nat} (d : decode cc pc = .ok (.ifCond .eq off, 3)) (ht : (pc : Int) + off = (tgt : Int)) (hx : ¬ x = 0) (k : J p l e R s m args below meth c (Q) w nL (cells) (slots) (pc + 3) L (rest) (h) (X) out) : J p l e R s m args below meth c (Q) w nL (cells) (slots) (pc) L (.int x :: rest) (h) (X) out := fun hX ls H locs hl hR hS => lv_if_eq C.1.1 C.1.2.1 d ht (fun q => absurd q hx) (fun _ => k hX ls H locs hl hR hS)
theorem j_ite_ifne (C : Cx p m c cc nL s args own w) {off : Int} {tgt : Nat} (d : decode cc pc = .ok (.ifCond .ne off, 3)) (ht : (pc : Int) + off = (tgt : Int)) (k : J p l e R s m args below meth c (Q) w nL (cells) (slots) (pc + 3) L (rest) (h) (X) out) : J p l e R s m args below meth c (Q) w nL (cells) (slots) (pc) L (.int 0 :: rest) (h) (X) out := fun hX ls H locs hl hR hS => lv_if_ne C.1.1 C.1.2.1 d ht (fun q => absurd rfl q) (fun _ => k hX ls H locs hl hR hS)
theorem j_ite_iflt (C : Cx p m c cc nL s args own w) {x : Int32} {off : Int} {tgt : Nat} (d : decode cc pc = .ok (.ifCond .lt off, 3)) (ht : (pc : Int) + off = (tgt : Int)) (hx : ¬ x < 0) (k : J p l e R s m args below meth c (Q) w nL (cells) (slots) (pc + 3) L (rest) (h) (X) out) : J p l e R s m args below meth c (Q) w nL (cells) (slots) (pc) L (.int x :: rest) (h) (X) out := fun hX ls H locs hl hR hS => lv_if_lt C.1.1 C.1.2.1 d ht (fun q => absurd q hx) (fun _ => k hX ls H locs hl hR hS)
theorem j_ite_icmplt (C : Cx p m c cc nL s args own w) {x y : Int32} {off : Int} {tgt : Nat} (d : decode cc pc = .ok (.if_icmp .lt off, 3)) (ht : (pc : Int) + off = (tgt : Int)) (hx : x < y) (k : J p l e R s m args below meth c (Q) w nL (cells) (slots) (tgt) L (rest) (h) (X) out) : J p l e R s m args below meth c (Q) w nL (cells) (slots) (pc) L (.int y :: .int x :: rest) (h) (X) out := fun hX ls H locs hl hR hS => lv_icmp_lt C.1.1 C.1.2.1 d ht (fun _ => k hX ls H locs hl hR hS) (fun q => absurd hx q)
def yS_length : MethodName := ⟨"java/lang/String", "length", "()I"⟩
def yS_coder : MethodName := ⟨"java/lang/String", "coder", "()B"⟩
def yS_charAt : MethodName := ⟨"java/lang/String", "charAt", "(I)C"⟩
def yS_isLatin1 : MethodName := ⟨"java/lang/String", "isLatin1", "()Z"⟩
def yL_charAt : MethodName := ⟨"java/lang/StringLatin1", "charAt", "([BI)C"⟩
def yS_checkIndex : MethodName := ⟨"java/lang/String", "checkIndex", "(II)V"⟩
def yP_checkIndex : MethodName := ⟨"jdk/internal/util/Preconditions", "checkIndex", "(IILjava/util/function/BiFunction;)I"⟩
theorem dS_length_0 : decode prog_23_method_54_code 0 = .ok (.aload_n 0, 1) := by decide +kernel
theorem dS_length_1 : decode prog_23_method_54_code 1 = .ok (.getfield 9, 3) := by decide +kernel
theorem dS_length_4 : decode prog_23_method_54_code 4 = .ok (.arraylength, 1) := by decide +kernel
theorem dS_length_5 : decode prog_23_method_54_code 5 = .ok (.aload_n 0, 1) := by decide +kernel
theorem dS_length_6 : decode prog_23_method_54_code 6 = .ok (.invokevirtual 335, 3) := by decide +kernel
theorem dS_length_9 : decode prog_23_method_54_code 9 = .ok (.ishr, 1) := by decide +kernel
theorem dS_length_10 : decode prog_23_method_54_code 10 = .ok (.ireturn, 1) := by decide +kernel
theorem dS_coder_0 : decode prog_23_method_152_code 0 = .ok (.getstatic 38, 3) := by decide +kernel
theorem dS_coder_3 : decode prog_23_method_152_code 3 = .ok (.ifCond .eq 10, 3) := by decide +kernel
theorem dS_coder_6 : decode prog_23_method_152_code 6 = .ok (.aload_n 0, 1) := by decide +kernel
theorem dS_coder_7 : decode prog_23_method_152_code 7 = .ok (.getfield 15, 3) := by decide +kernel
theorem dS_coder_10 : decode prog_23_method_152_code 10 = .ok (.goto 4, 3) := by decide +kernel
theorem dS_coder_14 : decode prog_23_method_152_code 14 = .ok (.ireturn, 1) := by decide +kernel
theorem dS_charAt_0 : decode prog_23_method_56_code 0 = .ok (.aload_n 0, 1) := by decide +kernel
theorem dS_charAt_1 : decode prog_23_method_56_code 1 = .ok (.invokevirtual 492, 3) := by decide +kernel
theorem dS_charAt_4 : decode prog_23_method_56_code 4 = .ok (.ifCond .eq 12, 3) := by decide +kernel
theorem dS_charAt_7 : decode prog_23_method_56_code 7 = .ok (.aload_n 0, 1) := by decide +kernel
theorem dS_charAt_8 : decode prog_23_method_56_code 8 = .ok (.getfield 9, 3) := by decide +kernel
theorem dS_charAt_11 : decode prog_23_method_56_code 11 = .ok (.iload_n 1, 1) := by decide +kernel
theorem dS_charAt_12 : decode prog_23_method_56_code 12 = .ok (.invokestatic 495, 3) := by decide +kernel
theorem dS_charAt_15 : decode prog_23_method_56_code 15 = .ok (.ireturn, 1) := by decide +kernel
theorem dS_isLatin1_0 : decode prog_23_method_154_code 0 = .ok (.getstatic 38, 3) := by decide +kernel
theorem dS_isLatin1_3 : decode prog_23_method_154_code 3 = .ok (.ifCond .eq 14, 3) := by decide +kernel
theorem dS_isLatin1_6 : decode prog_23_method_154_code 6 = .ok (.aload_n 0, 1) := by decide +kernel
theorem dS_isLatin1_7 : decode prog_23_method_154_code 7 = .ok (.getfield 15, 3) := by decide +kernel
theorem dS_isLatin1_10 : decode prog_23_method_154_code 10 = .ok (.ifCond .ne 7, 3) := by decide +kernel
theorem dS_isLatin1_13 : decode prog_23_method_154_code 13 = .ok (.iconst 1, 1) := by decide +kernel
theorem dS_isLatin1_14 : decode prog_23_method_154_code 14 = .ok (.goto 4, 3) := by decide +kernel
theorem dS_isLatin1_18 : decode prog_23_method_154_code 18 = .ok (.ireturn, 1) := by decide +kernel
theorem dL_charAt_0 : decode prog_24_method_2_code 0 = .ok (.iload_n 1, 1) := by decide +kernel
theorem dL_charAt_1 : decode prog_24_method_2_code 1 = .ok (.aload_n 0, 1) := by decide +kernel
theorem dL_charAt_2 : decode prog_24_method_2_code 2 = .ok (.arraylength, 1) := by decide +kernel
theorem dL_charAt_3 : decode prog_24_method_2_code 3 = .ok (.invokestatic 9, 3) := by decide +kernel
theorem dL_charAt_6 : decode prog_24_method_2_code 6 = .ok (.aload_n 0, 1) := by decide +kernel
theorem dL_charAt_7 : decode prog_24_method_2_code 7 = .ok (.iload_n 1, 1) := by decide +kernel
theorem dL_charAt_8 : decode prog_24_method_2_code 8 = .ok (.baload, 1) := by decide +kernel
theorem dL_charAt_9 : decode prog_24_method_2_code 9 = .ok (.sipush 255, 3) := by decide +kernel
theorem dL_charAt_12 : decode prog_24_method_2_code 12 = .ok (.iand, 1) := by decide +kernel
theorem dL_charAt_13 : decode prog_24_method_2_code 13 = .ok (.i2c, 1) := by decide +kernel
theorem dL_charAt_14 : decode prog_24_method_2_code 14 = .ok (.ireturn, 1) := by decide +kernel
theorem dS_checkIndex_0 : decode prog_23_method_155_code 0 = .ok (.iload_n 0, 1) := by decide +kernel
theorem dS_checkIndex_1 : decode prog_23_method_155_code 1 = .ok (.iload_n 1, 1) := by decide +kernel
theorem dS_checkIndex_2 : decode prog_23_method_155_code 2 = .ok (.getstatic 1053, 3) := by decide +kernel
theorem dS_checkIndex_5 : decode prog_23_method_155_code 5 = .ok (.invokestatic 1059, 3) := by decide +kernel
theorem dS_checkIndex_8 : decode prog_23_method_155_code 8 = .ok (.pop, 1) := by decide +kernel
theorem dS_checkIndex_9 : decode prog_23_method_155_code 9 = .ok (.return_, 1) := by decide +kernel
theorem dP_checkIndex_0 : decode prog_28_method_11_code 0 = .ok (.iload_n 0, 1) := by decide +kernel
theorem dP_checkIndex_1 : decode prog_28_method_11_code 1 = .ok (.ifCond .lt 8, 3) := by decide +kernel
theorem dP_checkIndex_4 : decode prog_28_method_11_code 4 = .ok (.iload_n 0, 1) := by decide +kernel
theorem dP_checkIndex_5 : decode prog_28_method_11_code 5 = .ok (.iload_n 1, 1) := by decide +kernel
theorem dP_checkIndex_6 : decode prog_28_method_11_code 6 = .ok (.if_icmp .lt 10, 3) := by decide +kernel
theorem dP_checkIndex_16 : decode prog_28_method_11_code 16 = .ok (.iload_n 0, 1) := by decide +kernel
theorem dP_checkIndex_17 : decode prog_28_method_11_code 17 = .ok (.ireturn, 1) := by decide +kernel
theorem k_S_335 : okO "java/lang/String" 335 "java/lang/String" yS_coder prog_23_method_152_code 1 (some .byte) 0 := ⟨(tb_i 353 (by decide +kernel) rfl), (tb_i 354 (by decide +kernel) rfl), (tb_i 355 (by decide +kernel) rfl), (tb_i 21 (by decide +kernel) rfl), (tb_i 356 (by decide +kernel) rfl), ⟨rfl, by decide, by decide, by decide +kernel⟩⟩
theorem k_S_492 : okO "java/lang/String" 492 "java/lang/String" yS_isLatin1 prog_23_method_154_code 1 (some .boolean) 0 := ⟨(tb_i 368 (by decide +kernel) rfl), (tb_i 369 (by decide +kernel) rfl), (tb_i 370 (by decide +kernel) rfl), (tb_i 21 (by decide +kernel) rfl), (tb_i 371 (by decide +kernel) rfl), ⟨rfl, by decide, by decide, by decide +kernel⟩⟩
theorem k_S_495 : okS "java/lang/String" 495 yL_charAt prog_24_method_2_code 2 (some .char) 2 := ⟨(tb_i 372 (by decide +kernel) rfl), (tb_i 373 (by decide +kernel) rfl), (tb_i 22 (by decide +kernel) rfl), (tb_i 374 (by decide +kernel) rfl), ⟨by decide, by decide, by decide +kernel⟩⟩
theorem k_L1_9 : okS "java/lang/StringLatin1" 9 yS_checkIndex prog_23_method_155_code 2 none 2 := ⟨(tb_i 375 (by decide +kernel) rfl), (tb_i 376 (by decide +kernel) rfl), (tb_i 21 (by decide +kernel) rfl), (tb_i 377 (by decide +kernel) rfl), ⟨by decide, by decide, by decide +kernel⟩⟩
theorem k_S_1059 : okS "java/lang/String" 1059 yP_checkIndex prog_28_method_11_code 3 (some .int) 3 := ⟨(tb_i 380 (by decide +kernel) rfl), (tb_i 381 (by decide +kernel) rfl), (tb_i 23 (by decide +kernel) rfl), (tb_i 382 (by decide +kernel) rfl), ⟨by decide, by decide, by decide +kernel⟩⟩
theorem s_S_9 : Cond.fieldLink "java/lang/String" 9 "java/lang/String" "value" "[B" ∈ TB := (tb_i 1706 (by decide +kernel) rfl)
theorem s_S_38 : Cond.fieldLink "java/lang/String" 38 "java/lang/String" "COMPACT_STRINGS" "Z" ∈ TB := (tb_i 357 (by decide +kernel) rfl)
theorem s_S_15 : Cond.fieldLink "java/lang/String" 15 "java/lang/String" "coder" "B" ∈ TB := (tb_i 1707 (by decide +kernel) rfl)
theorem s_S_1053 : Cond.fieldLink "java/lang/String" 1053 "jdk/internal/util/Preconditions" "SIOOBE_FORMATTER" "Ljava/util/function/BiFunction;" ∈ TB := (tb_i 378 (by decide +kernel) rfl)
theorem c_S_coder (l : Launch) (w : hp_W) (a0 : Nat) (h : hp_M) (out : Int32) (hX : ((sx w a0).bind fun _ => some (0 : Int32)) = some out) : CT l w yS_coder prog_23_method_152_code 1 (some .byte) ({ frames := 0, cells := 0, slots := 0, locals := 0 }) [.ref a0] h (some (.int out)) h := by
  obtain ⟨j, hj, hX⟩ := Option.bind_eq_some_iff.mp hX
  refine ct_of (by decide +kernel) (Nat.le_of_ble_eq_true rfl) hX ?_
  intro p e s m args below meth c Q C hr hlk hnm hQ
  obtain ⟨hj39, rfl⟩ := sx_spec hj
  obtain ⟨hV, hcs, -⟩ := C.sj
  refine j_gets C hcs s_S_38 dS_coder_0 ?_
  refine j_ite_ifeq C (tgt := 13) dS_coder_3 (by decide) (by decide) ?_
  refine j_aload_n C dS_coder_6 (i := 0) rfl rfl ?_
  refine j_getO C (hV.1 j hj39).2.1 s_S_15 dS_coder_7 ?_
  refine j_goto C (tgt := 14) dS_coder_10 (by decide) ?_
  exact e_iretR C hQ hr rfl hlk dS_coder_14 (Nat.le_of_ble_eq_true rfl) (Nat.le_of_ble_eq_true rfl)
theorem c_S_isLatin1 (l : Launch) (w : hp_W) (a0 : Nat) (h : hp_M) (out : Int32) (hX : ((sx w a0).bind fun _ => some (1 : Int32)) = some out) : CT l w yS_isLatin1 prog_23_method_154_code 1 (some .boolean) ({ frames := 0, cells := 0, slots := 0, locals := 0 }) [.ref a0] h (some (.int out)) h := by
  obtain ⟨j, hj, hX⟩ := Option.bind_eq_some_iff.mp hX
  refine ct_of (by decide +kernel) (Nat.le_of_ble_eq_true rfl) hX ?_
  intro p e s m args below meth c Q C hr hlk hnm hQ
  obtain ⟨hj39, rfl⟩ := sx_spec hj
  obtain ⟨hV, hcs, -⟩ := C.sj
  refine j_gets C hcs s_S_38 dS_isLatin1_0 ?_
  refine j_ite_ifeq C (tgt := 17) dS_isLatin1_3 (by decide) (by decide) ?_
  refine j_aload_n C dS_isLatin1_6 (i := 0) rfl rfl ?_
  refine j_getO C (hV.1 j hj39).2.1 s_S_15 dS_isLatin1_7 ?_
  refine j_ite_ifne C (tgt := 17) dS_isLatin1_10 (by decide) ?_
  refine j_iconst C (v := 1) dS_isLatin1_13 (by decide) ?_
  refine j_goto C (tgt := 18) dS_isLatin1_14 (by decide) ?_
  exact e_iretR C hQ hr rfl hlk dS_isLatin1_18 (Nat.le_of_ble_eq_true rfl) (Nat.le_of_ble_eq_true rfl)
theorem c_P_checkIndex (l : Launch) (w : hp_W) (x0 x1 : Int32) (r : Option Nat) (h : hp_M) (out : Int32) (h1 : ¬ x0 < 0) (h2 : x0 < x1) (hX : (some x0 : Option Int32) = some out) : CT l w yP_checkIndex prog_28_method_11_code 3 (some .int) ({ frames := 0, cells := 0, slots := 0, locals := 0 }) [.int x0, .int x1, va_rf r] h (some (.int out)) h := by
  have hlen : (lg_sl [.int x0, .int x1, va_rf r]).length ≤ 3 := by cases r <;> exact Nat.le_of_ble_eq_true rfl
  refine ct_of (by decide +kernel) hlen hX ?_
  intro p e s m args below meth c Q C hr hlk hnm hQ
  have hl0 : lv_args 0 [.int x0, .int x1, va_rf r] = [(0, .int x0), (1, .int x1), (2, va_rf r)] := by cases r <;> rfl
  rw [hl0]
  refine j_iload_n C dP_checkIndex_0 (i := 0) rfl rfl ?_
  refine j_ite_iflt C (tgt := 9) dP_checkIndex_1 (by decide) h1 ?_
  refine j_iload_n C dP_checkIndex_4 (i := 0) rfl rfl ?_
  refine j_iload_n C dP_checkIndex_5 (i := 1) rfl rfl ?_
  refine j_ite_icmplt C (tgt := 16) dP_checkIndex_6 (by decide) h2 ?_
  refine j_iload_n C dP_checkIndex_16 (i := 0) rfl rfl ?_
  exact e_iretR C hQ hr rfl hlk dP_checkIndex_17 (Nat.le_of_ble_eq_true rfl) (Nat.le_of_ble_eq_true rfl)
theorem c_S_checkIndex (l : Launch) (w : hp_W) (x0 x1 : Int32) (h out : hp_M) (h1 : ¬ x0 < 0) (h2 : x0 < x1) (hX : (some h : Option hp_M) = some out) : CT l w yS_checkIndex prog_23_method_155_code 2 none ({ frames := 1, cells := 0, slots := 0, locals := 22 }) [.int x0, .int x1] h none out := by
  refine ct_of (by decide +kernel) (Nat.le_of_ble_eq_true rfl) (X := (some x0 : Option Int32).bind fun _ => some h) hX ?_
  intro p e s m args below meth c Q C hr hlk hnm hQ
  have key : ∀ r : Option Nat, va_Z "jdk/internal/util/Preconditions" "SIOOBE_FORMATTER" "Ljava/util/function/BiFunction;" (va_rf r) (hp_A w) s w.2.1 → J p l e ({ frames := 1, cells := 0, slots := 0, locals := 22 }) s m args below meth c Q w 2 0 0 0 [(0, .int x0), (1, .int x1)] [] h ((some x0 : Option Int32).bind fun _ => some h) out := by
    intro r hZ
    refine j_iload_n C dS_checkIndex_0 (i := 0) rfl rfl ?_
    refine j_iload_n C dS_checkIndex_1 (i := 1) rfl rfl ?_
    refine j_gets C hZ s_S_1053 dS_checkIndex_2 ?_
    refine j_callSi C (As := [.int _, .int _, va_rf r]) (rest := []) k_S_1059 ⟨Nat.le_of_ble_eq_true rfl, Nat.le_of_ble_eq_true rfl⟩ rfl (Nat.le_of_ble_eq_true rfl) ⟨Nat.le_of_ble_eq_true rfl, Nat.le_of_ble_eq_true rfl⟩ rfl dS_checkIndex_5 (fun r0 q0 => c_P_checkIndex l w _ _ _ _ _ h1 h2 q0) (fun r1 er1 nr1 => ?_)
    refine j_pop C dS_checkIndex_8 rfl ?_
    exact e_vretM C hQ hr hlk dS_checkIndex_9 (Nat.le_of_ble_eq_true rfl) (Nat.le_of_ble_eq_true rfl)
  rcases C.sj.2.2.1 with hZ | ⟨t, hZ⟩
  · exact key none hZ
  · exact key (some t) hZ
theorem tx_all : ∀ j, j < 39 → (tx_len.getD j 0 < 2 ^ 31 ∧ ∀ i, i < tx_len.getD j 0 → ((((tx_byt.getD j []).getD i 0) &&& 255).toUInt32 % 65536).toInt32 = (tx_byt.getD j []).getD i 0 ∧ narrow .char (.int ((tx_byt.getD j []).getD i 0)) = .int ((tx_byt.getD j []).getD i 0)) := by decide +kernel
theorem c_L_charAt (l : Launch) (w : hp_W) (j : Nat) (x1 : Int32) (h : hp_M) (out : Int32) (hj : j < 39) (hin : vp_in x1 (tx_len.getD j 0)) (hX : (some ((tx_byt.getD j []).getD x1.toNatClampNeg 0) : Option Int32) = some out) : CT l w yL_charAt prog_24_method_2_code 2 (some .char) ({ frames := 2, cells := 0, slots := 0, locals := 43 }) [.ref (w_al w (j + 2)), .int x1] h (some (.int out)) h := by
  have hlt : x1.toNatClampNeg < tx_len.getD j 0 := Nat.not_le.mp fun q => hin (Or.inr q)
  obtain ⟨hL, hb⟩ := tx_all j hj
  obtain ⟨hb1, hb2⟩ := hb _ hlt
  refine ct_of (by decide +kernel) (Nat.le_of_ble_eq_true rfl) (X := (some h : Option hp_M).bind fun _ => some ((tx_byt.getD j []).getD x1.toNatClampNeg 0)) hX ?_
  intro p e s m args below meth c Q C hr hlk hnm hQ
  have hT := (C.sj.1.1 j hj).2.2.2
  have hx : x1 < Int32.ofNat (tx_len.getD j 0) := by
    obtain ⟨n, hn, rfl⟩ := vp_in_of hin hL
    exact nI_lt hn hL
  refine j_iload_n C dL_charAt_0 (i := 1) rfl rfl ?_
  refine j_aload_n C dL_charAt_1 (i := 0) rfl rfl ?_
  refine j_talen C hT rfl dL_charAt_2 ?_
  refine j_callSv C (As := [.int _, .int _]) (rest := []) k_L1_9 ⟨Nat.le_of_ble_eq_true rfl, Nat.le_of_ble_eq_true rfl⟩ rfl (Nat.le_of_ble_eq_true rfl) ⟨Nat.le_of_ble_eq_true rfl, Nat.le_of_ble_eq_true rfl⟩ rfl dL_charAt_3 (fun r0 q0 => c_S_checkIndex l w _ _ _ _ (fun q => hin (Or.inl q)) hx q0) (fun r1 er1 _ => ?_)
  cases er1
  refine j_aload_n C dL_charAt_6 (i := 0) rfl rfl ?_
  refine j_iload_n C dL_charAt_7 (i := 1) rfl rfl ?_
  refine j_tbload C hT hin rfl dL_charAt_8 ?_
  refine j_sipush C (v := 255) dL_charAt_9 (by decide) ?_
  refine j_iand C dL_charAt_12 ?_
  refine j_i2c C dL_charAt_13 hb1 ?_
  exact e_iretR C hQ hr hb2 hlk dL_charAt_14 (Nat.le_of_ble_eq_true rfl) (Nat.le_of_ble_eq_true rfl)
theorem c_S_charAt (l : Launch) (w : hp_W) (a0 : Nat) (x1 : Int32) (h : hp_M) (out : Int32) (hX : tAt w a0 x1 = some out) : CT l w yS_charAt prog_23_method_56_code 2 (some .char) ({ frames := 3, cells := 0, slots := 0, locals := 64 }) [.ref a0, .int x1] h (some (.int out)) h := by
  obtain ⟨j, hj, hX⟩ := Option.bind_eq_some_iff.mp hX
  by_cases hq : x1 < 0 ∨ tx_len.getD j 0 ≤ x1.toNatClampNeg
  · rw [if_pos hq] at hX; cases hX
  rw [if_neg hq] at hX
  refine ct_of (by decide +kernel) (Nat.le_of_ble_eq_true rfl) (X := ((sx w a0).bind fun _ => some (1 : Int32)).bind fun _ => (some ((tx_byt.getD j []).getD x1.toNatClampNeg 0) : Option Int32).bind fun z => some z) (by rw [hj]; exact hX) ?_
  intro p e s m args below meth c Q C hr hlk hnm hQ
  obtain ⟨hj39, rfl⟩ := sx_spec hj
  obtain ⟨hV, hcs, -⟩ := id C.sj
  refine j_aload_n C dS_charAt_0 (i := 0) rfl rfl ?_
  refine j_callO C (As := []) (rest := []) k_S_492 ⟨Nat.le_of_ble_eq_true rfl, Nat.le_of_ble_eq_true rfl⟩ rfl (Nat.le_of_ble_eq_true rfl) ⟨Nat.le_of_ble_eq_true rfl, Nat.le_of_ble_eq_true rfl⟩ rfl dS_charAt_1 (fun r q => (hV.1 j hj39).1) (fun r q => c_S_isLatin1 l w _ _ _ q) (fun r er _ => ?_)
  rw [hj] at er
  cases er
  refine j_ite_ifeq C (tgt := 16) dS_charAt_4 (by decide) (by decide) ?_
  refine j_aload_n C dS_charAt_7 (i := 0) rfl rfl ?_
  refine j_getO C (hV.1 j hj39).2.2.1 s_S_9 dS_charAt_8 ?_
  refine j_iload_n C dS_charAt_11 (i := 1) rfl rfl ?_
  refine j_callSi C (As := [.ref _, .int _]) (rest := []) k_S_495 ⟨Nat.le_of_ble_eq_true rfl, Nat.le_of_ble_eq_true rfl⟩ rfl (Nat.le_of_ble_eq_true rfl) ⟨Nat.le_of_ble_eq_true rfl, Nat.le_of_ble_eq_true rfl⟩ rfl dS_charAt_12 (fun r0 q0 => c_L_charAt l w j _ _ _ hj39 hq q0) (fun r1 er1 nr1 => ?_)
  exact e_iretR C hQ hr (nr1 _ _ rfl rfl) hlk dS_charAt_15 (Nat.le_of_ble_eq_true rfl) (Nat.le_of_ble_eq_true rfl)
theorem c_S_length (l : Launch) (w : hp_W) (a0 : Nat) (h : hp_M) (out : Int32) (hX : tLen w a0 = some out) : CT l w yS_length prog_23_method_54_code 1 (some .int) ({ frames := 1, cells := 0, slots := 0, locals := 22 }) [.ref a0] h (some (.int out)) h := by
  obtain ⟨j, hj, hX⟩ := Option.bind_eq_some_iff.mp hX
  have hz : ∀ k, k < 39 → Int32.ofNat (tx_len.getD k 0) >>> ((0 : Int32) &&& 31) = Int32.ofNat (tx_len.getD k 0) := by decide +kernel
  refine ct_of (by decide +kernel) (Nat.le_of_ble_eq_true rfl) (X := ((sx w a0).bind fun _ => some (0 : Int32)).bind fun _ => some (Int32.ofNat (tx_len.getD j 0))) (by rw [hj]; exact hX) ?_
  intro p e s m args below meth c Q C hr hlk hnm hQ
  obtain ⟨hj39, rfl⟩ := sx_spec hj
  obtain ⟨hV, hcs, -⟩ := id C.sj
  refine j_aload_n C dS_length_0 (i := 0) rfl rfl ?_
  refine j_getO C (hV.1 j hj39).2.2.1 s_S_9 dS_length_1 ?_
  refine j_talen C (hV.1 j hj39).2.2.2 rfl dS_length_4 ?_
  refine j_aload_n C dS_length_5 (i := 0) rfl rfl ?_
  refine j_callO C (As := []) (rest := [_]) k_S_335 ⟨Nat.le_of_ble_eq_true rfl, Nat.le_of_ble_eq_true rfl⟩ rfl (Nat.le_of_ble_eq_true rfl) ⟨Nat.le_of_ble_eq_true rfl, Nat.le_of_ble_eq_true rfl⟩ rfl dS_length_6 (fun r q => (hV.1 j hj39).1) (fun r q => c_S_coder l w _ _ _ q) (fun r er _ => ?_)
  rw [hj] at er
  cases er
  refine j_ishr C dS_length_9 ?_
  rw [hz j hj39]
  exact e_iretR C hQ hr rfl hlk dS_length_10 (Nat.le_of_ble_eq_true rfl) (Nat.le_of_ble_eq_true rfl)
theorem j_slen (C : Cx p m c cc nL s args own w) {idx a : Nat} {X : Int32 → Option α} (o : okO own idx "java/lang/String" yS_length prog_23_method_54_code 1 (some .int) 0 ∧ (rest.map fun v => v.category).sum ≤ 8 ∧ cells ≤ R.cells ∧ slots ≤ R.slots) (h1 : 2 ≤ R.frames) (h2 : 42 ≤ R.locals) (d : decode cc pc = .ok (.invokevirtual idx, 3)) (kk : ∀ r, tLen w a = some r → J p l e R s m args below meth c (Q) w nL (cells) (slots) (pc + 3) L (.int r :: rest) (h) (X r) out) : J p l e R s m args below meth c (Q) w nL (cells) (slots) (pc) L (.ref a :: rest) (h) ((tLen w a).bind X) out :=
  j_callO C (As := []) (rest := rest) o.1 (rm := { frames := 1, cells := 0, slots := 0, locals := 22 }) ⟨h1, h2⟩ rfl o.2.1 o.2.2 rfl d (fun r q => by obtain ⟨j, hj, -⟩ := Option.bind_eq_some_iff.mp q; obtain ⟨hj39, rfl⟩ := sx_spec hj; exact (C.sj.1.1 j hj39).1) (fun r q => c_S_length l w a h r q) (fun r q _ => kk r q)
theorem j_sat (C : Cx p m c cc nL s args own w) {idx a : Nat} {i : Int32} {X : Int32 → Option α} (o : okO own idx "java/lang/String" yS_charAt prog_23_method_56_code 2 (some .char) 1 ∧ (rest.map fun v => v.category).sum ≤ 8 ∧ cells ≤ R.cells ∧ slots ≤ R.slots) (h1 : 4 ≤ R.frames) (h2 : 85 ≤ R.locals) (d : decode cc pc = .ok (.invokevirtual idx, 3)) (kk : ∀ r, tAt w a i = some r → J p l e R s m args below meth c (Q) w nL (cells) (slots) (pc + 3) L (.int r :: rest) (h) (X r) out) : J p l e R s m args below meth c (Q) w nL (cells) (slots) (pc) L (.int i :: .ref a :: rest) (h) ((tAt w a i).bind X) out :=
  j_callO C (As := [.int i]) (rest := rest) o.1 (rm := { frames := 3, cells := 0, slots := 0, locals := 64 }) ⟨h1, h2⟩ rfl o.2.1 o.2.2 rfl d (fun r q => by obtain ⟨j, hj, -⟩ := Option.bind_eq_some_iff.mp q; obtain ⟨hj39, rfl⟩ := sx_spec hj; exact (C.sj.1.1 j hj39).1) (fun r q => c_S_charAt l w a i h r q) (fun r q _ => kk r q)

end JS
theorem s_X2_10 : Cond.fieldLink RX2 10 RX2 (kd_nm.getD 2 "") "LShadowSpell$Kind;" ∈ TB := (tb_i 402 (by decide +kernel) rfl)
theorem s_X2_149 : Cond.fieldLink RX2 149 RX2 "spelling" "Ljava/lang/String;" ∈ TB := (tb_i 1705 (by decide +kernel) rfl)
theorem s_X2_153 : Cond.fieldLink RX2 153 RX2 "step" "I" ∈ TB := (tb_i 1708 (by decide +kernel) rfl)
theorem s_X2_157 : Cond.fieldLink RX2 157 RX2 "ALL" "[LShadowSpell$Kind;" ∈ TB := (tb_i 347 (by decide +kernel) rfl)
theorem s_X2_7 : Cond.fieldLink RX2 7 RX2 (kd_nm.getD 1 "") "LShadowSpell$Kind;" ∈ TB := (tb_i 413 (by decide +kernel) rfl)
theorem s_X6_108 : Cond.fieldLink RX6 108 RX2 (kd_nm.getD 5 "") "LShadowSpell$Kind;" ∈ TB := (tb_i 458 (by decide +kernel) rfl)
theorem s_X6_118 : Cond.fieldLink RX6 118 RX2 (kd_nm.getD 6 "") "LShadowSpell$Kind;" ∈ TB := (tb_i 469 (by decide +kernel) rfl)
theorem s_X6_121 : Cond.fieldLink RX6 121 RX2 (kd_nm.getD 7 "") "LShadowSpell$Kind;" ∈ TB := (tb_i 471 (by decide +kernel) rfl)
theorem s_X6_126 : Cond.fieldLink RX6 126 RX2 (kd_nm.getD 8 "") "LShadowSpell$Kind;" ∈ TB := (tb_i 473 (by decide +kernel) rfl)
theorem s_X6_129 : Cond.fieldLink RX6 129 RX2 (kd_nm.getD 9 "") "LShadowSpell$Kind;" ∈ TB := (tb_i 475 (by decide +kernel) rfl)
theorem s_X6_136 : Cond.fieldLink RX6 136 RX2 (kd_nm.getD 30 "") "LShadowSpell$Kind;" ∈ TB := (tb_i 489 (by decide +kernel) rfl)
theorem s_X6_183 : Cond.fieldLink RX6 183 RX2 (kd_nm.getD 12 "") "LShadowSpell$Kind;" ∈ TB := (tb_i 659 (by decide +kernel) rfl)
theorem s_X6_189 : Cond.fieldLink RX6 189 RX2 (kd_nm.getD 13 "") "LShadowSpell$Kind;" ∈ TB := (tb_i 661 (by decide +kernel) rfl)
theorem s_X6_199 : Cond.fieldLink RX6 199 RX2 (kd_nm.getD 3 "") "LShadowSpell$Kind;" ∈ TB := (tb_i 464 (by decide +kernel) rfl)
theorem s_X6_208 : Cond.fieldLink RX6 208 RX2 (kd_nm.getD 23 "") "LShadowSpell$Kind;" ∈ TB := (tb_i 657 (by decide +kernel) rfl)
theorem s_X6_218 : Cond.fieldLink RX6 218 RX2 (kd_nm.getD 22 "") "LShadowSpell$Kind;" ∈ TB := (tb_i 655 (by decide +kernel) rfl)
theorem s_X6_221 : Cond.fieldLink RX6 221 RX2 (kd_nm.getD 21 "") "LShadowSpell$Kind;" ∈ TB := (tb_i 571 (by decide +kernel) rfl)
theorem s_X6_228 : Cond.fieldLink RX6 228 RX2 (kd_nm.getD 28 "") "LShadowSpell$Kind;" ∈ TB := (tb_i 585 (by decide +kernel) rfl)
theorem s_X6_231 : Cond.fieldLink RX6 231 RX2 (kd_nm.getD 29 "") "LShadowSpell$Kind;" ∈ TB := (tb_i 587 (by decide +kernel) rfl)
theorem s_X6_234 : Cond.fieldLink RX6 234 RX2 (kd_nm.getD 14 "") "LShadowSpell$Kind;" ∈ TB := (tb_i 589 (by decide +kernel) rfl)
theorem s_X6_237 : Cond.fieldLink RX6 237 RX2 (kd_nm.getD 15 "") "LShadowSpell$Kind;" ∈ TB := (tb_i 591 (by decide +kernel) rfl)
theorem s_X6_259 : Cond.fieldLink RX6 259 RX2 (kd_nm.getD 32 "") "LShadowSpell$Kind;" ∈ TB := (tb_i 650 (by decide +kernel) rfl)
theorem s_X6_262 : Cond.fieldLink RX6 262 RX2 (kd_nm.getD 33 "") "LShadowSpell$Kind;" ∈ TB := (tb_i 635 (by decide +kernel) rfl)
theorem s_X6_271 : Cond.fieldLink RX6 271 RX2 (kd_nm.getD 19 "") "LShadowSpell$Kind;" ∈ TB := (tb_i 625 (by decide +kernel) rfl)
theorem s_X6_274 : Cond.fieldLink RX6 274 RX2 (kd_nm.getD 20 "") "LShadowSpell$Kind;" ∈ TB := (tb_i 627 (by decide +kernel) rfl)
theorem s_X6_277 : Cond.fieldLink RX6 277 RX2 (kd_nm.getD 16 "") "LShadowSpell$Kind;" ∈ TB := (tb_i 629 (by decide +kernel) rfl)
theorem s_X6_280 : Cond.fieldLink RX6 280 RX2 (kd_nm.getD 17 "") "LShadowSpell$Kind;" ∈ TB := (tb_i 631 (by decide +kernel) rfl)
theorem s_X6_283 : Cond.fieldLink RX6 283 RX2 (kd_nm.getD 18 "") "LShadowSpell$Kind;" ∈ TB := (tb_i 633 (by decide +kernel) rfl)
theorem s_X6_286 : Cond.fieldLink RX6 286 RX2 (kd_nm.getD 24 "") "LShadowSpell$Kind;" ∈ TB := (tb_i 637 (by decide +kernel) rfl)
theorem s_X6_289 : Cond.fieldLink RX6 289 RX2 (kd_nm.getD 25 "") "LShadowSpell$Kind;" ∈ TB := (tb_i 639 (by decide +kernel) rfl)
theorem s_X6_292 : Cond.fieldLink RX6 292 RX2 (kd_nm.getD 26 "") "LShadowSpell$Kind;" ∈ TB := (tb_i 641 (by decide +kernel) rfl)
theorem s_X6_295 : Cond.fieldLink RX6 295 RX2 (kd_nm.getD 31 "") "LShadowSpell$Kind;" ∈ TB := (tb_i 643 (by decide +kernel) rfl)
theorem s_X6_298 : Cond.fieldLink RX6 298 RX2 (kd_nm.getD 27 "") "LShadowSpell$Kind;" ∈ TB := (tb_i 645 (by decide +kernel) rfl)
theorem s_X6_44 : Cond.fieldLink RX6 44 RX2 (kd_nm.getD 0 "") "LShadowSpell$Kind;" ∈ TB := (tb_i 418 (by decide +kernel) rfl)
theorem s_X6_54 : Cond.fieldLink RX6 54 RX2 (kd_nm.getD 4 "") "LShadowSpell$Kind;" ∈ TB := (tb_i 423 (by decide +kernel) rfl)
theorem s_X6_61 : Cond.fieldLink RX6 61 RX2 (kd_nm.getD 10 "") "LShadowSpell$Kind;" ∈ TB := (tb_i 491 (by decide +kernel) rfl)
theorem s_X6_67 : Cond.fieldLink RX6 67 RX2 (kd_nm.getD 11 "") "LShadowSpell$Kind;" ∈ TB := (tb_i 541 (by decide +kernel) rfl)
theorem s_X6_90 : Cond.fieldLink RX6 90 RX2 (kd_nm.getD 2 "") "LShadowSpell$Kind;" ∈ TB := (tb_i 433 (by decide +kernel) rfl)
theorem s_X7_103 : Cond.fieldLink RX7 103 RX2 (kd_nm.getD 3 "") "LShadowSpell$Kind;" ∈ TB := (tb_i 408 (by decide +kernel) rfl)
theorem s_X7_50 : Cond.fieldLink RX7 50 RX2 (kd_nm.getD 0 "") "LShadowSpell$Kind;" ∈ TB := (tb_i 326 (by decide +kernel) rfl)
theorem s_X7_54 : Cond.fieldLink RX7 54 RX2 (kd_nm.getD 1 "") "LShadowSpell$Kind;" ∈ TB := (tb_i 342 (by decide +kernel) rfl)
theorem s_X13_96 : Cond.fieldLink RX13 96 RX13 "WORDS" "[Ljava/lang/String;" ∈ TB := (tb_i 1423 (by decide +kernel) rfl)
theorem k_X2_160 : okO RX2 160 "java/lang/String" yS_length prog_23_method_54_code 1 (some .int) 0 := ⟨(tb_i 349 (by decide +kernel) rfl), (tb_i 350 (by decide +kernel) rfl), (tb_i 351 (by decide +kernel) rfl), (tb_i 21 (by decide +kernel) rfl), (tb_i 352 (by decide +kernel) rfl), ⟨rfl, by decide, by decide, by decide +kernel⟩⟩
theorem k_X6_247 : okO RX6 247 RX2 yX2_step cX2_step 1 (some .int) 0 := ⟨(tb_i 601 (by decide +kernel) rfl), (tb_i 602 (by decide +kernel) rfl), (tb_i 603 (by decide +kernel) rfl), (tb_i 20 (by decide +kernel) rfl), (tb_i 604 (by decide +kernel) rfl), ⟨rfl, by decide, by decide, by decide +kernel⟩⟩
theorem k_X7_91 : okO RX7 91 RX2 yX2_length cX2_length 1 (some .int) 0 := ⟨(tb_i 414 (by decide +kernel) rfl), (tb_i 415 (by decide +kernel) rfl), (tb_i 416 (by decide +kernel) rfl), (tb_i 20 (by decide +kernel) rfl), (tb_i 417 (by decide +kernel) rfl), ⟨rfl, by decide, by decide, by decide +kernel⟩⟩
theorem k_X9_21 : okO RX9 21 "java/lang/String" yS_length prog_23_method_54_code 1 (some .int) 0 := ⟨(tb_i 363 (by decide +kernel) rfl), (tb_i 350 (by decide +kernel) rfl), (tb_i 351 (by decide +kernel) rfl), (tb_i 21 (by decide +kernel) rfl), (tb_i 352 (by decide +kernel) rfl), ⟨rfl, by decide, by decide, by decide +kernel⟩⟩
theorem k_X9_27 : okO RX9 27 "java/lang/String" yS_charAt prog_23_method_56_code 2 (some .char) 1 := ⟨(tb_i 364 (by decide +kernel) rfl), (tb_i 365 (by decide +kernel) rfl), (tb_i 366 (by decide +kernel) rfl), (tb_i 21 (by decide +kernel) rfl), (tb_i 367 (by decide +kernel) rfl), ⟨rfl, by decide, by decide, by decide +kernel⟩⟩
theorem k_X13_100 : okO RX13 100 "java/lang/String" yS_length prog_23_method_54_code 1 (some .int) 0 := ⟨(tb_i 1425 (by decide +kernel) rfl), (tb_i 350 (by decide +kernel) rfl), (tb_i 351 (by decide +kernel) rfl), (tb_i 21 (by decide +kernel) rfl), (tb_i 352 (by decide +kernel) rfl), ⟨rfl, by decide, by decide, by decide +kernel⟩⟩
theorem k_X13_106 : okO RX13 106 "java/lang/String" yS_charAt prog_23_method_56_code 2 (some .char) 1 := ⟨(tb_i 1426 (by decide +kernel) rfl), (tb_i 365 (by decide +kernel) rfl), (tb_i 366 (by decide +kernel) rfl), (tb_i 21 (by decide +kernel) rfl), (tb_i 367 (by decide +kernel) rfl), ⟨rfl, by decide, by decide, by decide +kernel⟩⟩
