/-! The walk's rows over the pure heap; contracts; calls. -/
section JH
variable {p : Program} {l : Launch} {e : Env} {R : Room} {s : State} {m : MethodId} {args : Array Value} {below : List Frame} {meth : Method} {c : Code} {Q : State → Prop} {w : hp_W} {cc : ByteArray} {nL cells slots pc : Nat} {own : String} {L L' : List (Nat × Value)} {st rest : List Value} {h : hp_M} {α β : Type} {out : α}
theorem hp_P1 {H : Heap} (hR : hp_R w h H) {a : Nat} {q : va_E} (hq : h.1 a = some q) : va_P w.2.2.1 vwCl [(a, hp_e w.2.2.2.1 q)] H := by
  intro k z hz
  have hk : k < 1 := (List.getElem?_eq_some_iff.mp hz).1
  rw [show k = 0 by omega] at hz
  cases hz
  exact (hR.2.2 a _ hq).2
theorem j_getI (C : Cx p m c cc nL s args own w) {idx ci k a : Nat} {X : Int32 → Option α} (hg : hp_g own idx ci k) (d : decode cc pc = .ok (.getfield idx, 3)) (kk : ∀ x, gI h a ci k = some x → J p l e R s m args below meth c Q w nL (cells) (slots) (pc + 3) L (.int x :: rest) (h) (X x) out) : J p l e R s m args below meth c Q w nL (cells) (slots) (pc) L (.ref a :: rest) (h) ((gI h a ci k).bind X) out := fun hX ls H locs hl hR hS => by
  obtain ⟨x, e1, hX⟩ := Option.bind_eq_some_iff.mp hX
  exact hp_get C hg d (gI_spec e1) hR (kk x e1 hX ls H locs hl hR hS)
theorem j_getL (C : Cx p m c cc nL s args own w) {idx ci k a : Nat} {X : Int64 → Option α} (hg : hp_g own idx ci k) (d : decode cc pc = .ok (.getfield idx, 3)) (kk : ∀ x, gL h a ci k = some x → J p l e R s m args below meth c Q w nL (cells) (slots) (pc + 3) L (.long x :: rest) (h) (X x) out) : J p l e R s m args below meth c Q w nL (cells) (slots) (pc) L (.ref a :: rest) (h) ((gL h a ci k).bind X) out := fun hX ls H locs hl hR hS => by
  obtain ⟨x, e1, hX⟩ := Option.bind_eq_some_iff.mp hX
  exact hp_get C hg d (gL_spec e1) hR (kk x e1 hX ls H locs hl hR hS)
theorem j_getR (C : Cx p m c cc nL s args own w) {idx ci k a : Nat} {X : Nat → Option α} (hg : hp_g own idx ci k) (d : decode cc pc = .ok (.getfield idx, 3)) (kk : ∀ x, gR h a ci k = some x → J p l e R s m args below meth c Q w nL (cells) (slots) (pc + 3) L (.ref x :: rest) (h) (X x) out) : J p l e R s m args below meth c Q w nL (cells) (slots) (pc) L (.ref a :: rest) (h) ((gR h a ci k).bind X) out := fun hX ls H locs hl hR hS => by
  obtain ⟨x, e1, hX⟩ := Option.bind_eq_some_iff.mp hX
  exact hp_get C hg d (gR_spec e1) hR (kk x e1 hX ls H locs hl hR hS)
theorem j_putI (C : Cx p m c cc nL s args own w) {idx ci k a : Nat} {x : Int32}  {b : Bool} {X : hp_M → Option α} (hp : hp_p own idx ci k .int b) (hin2 : b = true → meth.name = "<init>") (d : decode cc pc = .ok (.putfield idx, 3))  (kk : ∀ h', pF h a ci k (.int x) = some h' → J p l e R s m args below meth c Q w nL (cells) (slots) (pc + 3) L (rest) (h') (X h') out) : J p l e R s m args below meth c Q w nL (cells) (slots) (pc) L (.int x :: .ref a :: rest) (h) ((pF h a ci k (.int x)).bind X) out := fun hX ls H locs hl hR hS => by
  obtain ⟨h1, e1, hX⟩ := Option.bind_eq_some_iff.mp hX
  exact hp_put C hp rfl rfl hin2 d e1 hR hS (fun H1 locs1 hR1 hS1 => kk h1 e1 hX ls H1 locs1 hl hR1 hS1)
theorem j_putL (C : Cx p m c cc nL s args own w) {idx ci k a : Nat} {x : Int64}  {b : Bool} {X : hp_M → Option α} (hp : hp_p own idx ci k .long b) (hin2 : b = true → meth.name = "<init>") (d : decode cc pc = .ok (.putfield idx, 3))  (kk : ∀ h', pF h a ci k (.long x) = some h' → J p l e R s m args below meth c Q w nL (cells) (slots) (pc + 3) L (rest) (h') (X h') out) : J p l e R s m args below meth c Q w nL (cells) (slots) (pc) L (.long x :: .ref a :: rest) (h) ((pF h a ci k (.long x)).bind X) out := fun hX ls H locs hl hR hS => by
  obtain ⟨h1, e1, hX⟩ := Option.bind_eq_some_iff.mp hX
  exact hp_put C hp rfl rfl hin2 d e1 hR hS (fun H1 locs1 hR1 hS1 => kk h1 e1 hX ls H1 locs1 hl hR1 hS1)
theorem j_putR (C : Cx p m c cc nL s args own w) {idx ci k a : Nat} {x : Nat} {ty : FieldType} {b : Bool} {X : hp_M → Option α} (hp : hp_p own idx ci k ty b) (hin2 : b = true → meth.name = "<init>") (d : decode cc pc = .ok (.putfield idx, 3)) (hn : narrow ty (.ref x) = .ref x) (hfit : fits ty (.ref x) = true) (kk : ∀ h', pF h a ci k (.ref x) = some h' → J p l e R s m args below meth c Q w nL (cells) (slots) (pc + 3) L (rest) (h') (X h') out) : J p l e R s m args below meth c Q w nL (cells) (slots) (pc) L (.ref x :: .ref a :: rest) (h) ((pF h a ci k (.ref x)).bind X) out := fun hX ls H locs hl hR hS => by
  obtain ⟨h1, e1, hX⟩ := Option.bind_eq_some_iff.mp hX
  exact hp_put C hp hn hfit hin2 d e1 hR hS (fun H1 locs1 hR1 hS1 => kk h1 e1 hX ls H1 locs1 hl hR1 hS1)
theorem j_iaload (C : Cx p m c cc nL s args own w) {a : Nat} {i : Int32} {X : Int32 → Option α} (d : decode cc pc = .ok (.iaload, 1)) (kk : ∀ x, gaI h a i = some x → J p l e R s m args below meth c Q w nL (cells) (slots) (pc + 1) L (.int x :: rest) (h) (X x) out) : J p l e R s m args below meth c Q w nL (cells) (slots) (pc) L (.int i :: .ref a :: rest) (h) ((gaI h a i).bind X) out := fun hX ls H locs hl hR hS => by
  obtain ⟨x, e1, hX⟩ := Option.bind_eq_some_iff.mp hX
  obtain ⟨n, f, hc, hin, rfl⟩ := gaI_spec e1
  exact va_iald (D := w.2.2.1) C.1.1 C.1.2.1 C.2.1.1 (hp_P1 hR hc) 0 0 rfl rfl hin d (kk _ e1 hX ls H locs hl hR hS)
theorem j_laload (C : Cx p m c cc nL s args own w) {a : Nat} {i : Int32} {X : Int64 → Option α} (d : decode cc pc = .ok (.laload, 1)) (kk : ∀ x, gaL h a i = some x → J p l e R s m args below meth c Q w nL (cells) (slots) (pc + 1) L (.long x :: rest) (h) (X x) out) : J p l e R s m args below meth c Q w nL (cells) (slots) (pc) L (.int i :: .ref a :: rest) (h) ((gaL h a i).bind X) out := fun hX ls H locs hl hR hS => by
  obtain ⟨x, e1, hX⟩ := Option.bind_eq_some_iff.mp hX
  obtain ⟨n, f, hc, hin, rfl⟩ := gaL_spec e1
  exact va_lald (D := w.2.2.1) C.1.1 C.1.2.1 C.2.1.1 (hp_P1 hR hc) 0 1 rfl rfl hin d (kk _ e1 hX ls H locs hl hR hS)
theorem j_aaload (C : Cx p m c cc nL s args own w) {t a : Nat} {i : Int32} {Cn : String} {X : Nat → Option α} (ht : (hp_tys w.2.2.2.1)[t]? = some (w.2.2.2.1 t, .object Cn)) (d : decode cc pc = .ok (.aaload, 1)) (kk : ∀ x, gaR h t a i = some x → J p l e R s m args below meth c Q w nL (cells) (slots) (pc + 1) L (.ref x :: rest) (h) (X x) out) : J p l e R s m args below meth c Q w nL (cells) (slots) (pc) L (.int i :: .ref a :: rest) (h) ((gaR h t a i).bind X) out := fun hX ls H locs hl hR hS => by
  obtain ⟨x, e1, hX⟩ := Option.bind_eq_some_iff.mp hX
  obtain ⟨n, f, hc, hin, hx⟩ := gaR_spec e1
  refine va_aldq (D := w.2.2.1) C.1.1 C.1.2.1 C.2.1.1 (hp_P1 hR hc) 0 t rfl ht hin d ?_
  rw [hx]
  exact kk _ e1 hX ls H locs hl hR hS
theorem j_alen (C : Cx p m c cc nL s args own w) {a : Nat} {X : Int32 → Option α} (d : decode cc pc = .ok (.arraylength, 1)) (kk : ∀ x, gLen h a = some x → J p l e R s m args below meth c Q w nL (cells) (slots) (pc + 1) L (.int x :: rest) (h) (X x) out) : J p l e R s m args below meth c Q w nL (cells) (slots) (pc) L (.ref a :: rest) (h) ((gLen h a).bind X) out := fun hX ls H locs hl hR hS => by
  obtain ⟨x, e1, hX⟩ := Option.bind_eq_some_iff.mp hX
  obtain ⟨n, f, hc, rfl⟩ := gLen_spec e1
  exact va_alen (D := w.2.2.1) C.1.1 C.1.2.1 C.2.1.1 (hp_P1 hR hc) 0 0 rfl rfl rfl d (kk _ e1 hX ls H locs hl hR hS)
theorem aI_store {cA : ClassId} {n : Nat} {f : Nat → Int32} {i x : Int32} : (vp_cell cA (n, .inl f)).setSlot i.toNatClampNeg (.int x) = vp_cell cA (n, .inl (upd f i.toNatClampNeg x)) := by
  rw [vp_cell_i, vp_cell_i, arrV_store]
  congr 2
  funext q
  by_cases hq : q = i.toNatClampNeg
  · subst hq
    simp [updV, upd]
  · simp [updV, upd, hq]
theorem aL_store {cA : ClassId} {n : Nat} {f : Nat → Int64} {i : Int32} {x : Int64} : (vp_cell cA (n, .inr (.inl f))).setSlot i.toNatClampNeg (.long x) = vp_cell cA (n, .inr (.inl (vp_updL f i.toNatClampNeg x))) := by
  rw [vp_cell_l, vp_cell_l, arrV_store]
  congr 2
  funext q
  by_cases hq : q = i.toNatClampNeg
  · subst hq
    simp [updV, vp_updL]
  · simp [updV, vp_updL, hq]
theorem aR_store {cA : ClassId} {n v : Nat} {f : Nat → Option Nat} {i : Int32} : (vp_cell cA (n, .inr (.inr (.inr (.inr f))))).setSlot i.toNatClampNeg (.ref v) = vp_cell cA (n, .inr (.inr (.inr (.inr (va_up f i.toNatClampNeg (some v)))))) := by
  rw [vp_cell_q, vp_cell_q, arrV_store]
  congr 2
  funext q
  by_cases hq : q = i.toNatClampNeg
  · subst hq
    simp [updV, va_up, va_rf]
  · simp [updV, va_up, hq]
theorem j_iastore (C : Cx p m c cc nL s args own w) {a : Nat} {i x : Int32} {X : hp_M → Option α} (d : decode cc pc = .ok (.iastore, 1)) (kk : ∀ h', paI h a i x = some h' → J p l e R s m args below meth c Q w nL (cells) (slots) (pc + 1) L (rest) (h') (X h') out) : J p l e R s m args below meth c Q w nL (cells) (slots) (pc) L (.int x :: .int i :: .ref a :: rest) (h) ((paI h a i x).bind X) out := fun hX ls H locs hl hR hS => by
  obtain ⟨h1, e1, hX⟩ := Option.bind_eq_some_iff.mp hX
  obtain ⟨n, f, hc, hin, rfl⟩ := paI_spec e1
  have hat := hR.2.2 a _ hc
  have hcell : H[a]? = some (vp_cell (w.2.2.2.1 0) (n, .inl f)) := hat.2
  refine W.iast C.1.1 C.1.2.1 hcell ((C.2.1.1.2 0 _ rfl).1 n (fun j => .int (f j))) (fun q => by cases q) (by rw [vp_cell_i, arrV_size]; exact hin) rfl rfl d fun H1 e2 z oq => ?_
  rw [aI_store] at e2
  exact kk _ e1 hX ls H1 _ hl (hR.put hc z oq e2) (hS.put z oq hat.1)
theorem j_lastore (C : Cx p m c cc nL s args own w) {a : Nat} {i : Int32} {x : Int64} {X : hp_M → Option α} (d : decode cc pc = .ok (.lastore, 1)) (kk : ∀ h', paL h a i x = some h' → J p l e R s m args below meth c Q w nL (cells) (slots) (pc + 1) L (rest) (h') (X h') out) : J p l e R s m args below meth c Q w nL (cells) (slots) (pc) L (.long x :: .int i :: .ref a :: rest) (h) ((paL h a i x).bind X) out := fun hX ls H locs hl hR hS => by
  obtain ⟨h1, e1, hX⟩ := Option.bind_eq_some_iff.mp hX
  obtain ⟨n, f, hc, hin, rfl⟩ := paL_spec e1
  have hat := hR.2.2 a _ hc
  have hcell : H[a]? = some (vp_cell (w.2.2.2.1 1) (n, .inr (.inl f))) := hat.2
  refine W.last C.1.1 C.1.2.1 hcell ((C.2.1.1.2 1 _ rfl).1 n (fun j => .long (f j))) (fun q => by cases q) (by rw [vp_cell_l, arrV_size]; exact hin) rfl rfl d fun H1 e2 z oq => ?_
  rw [aL_store] at e2
  exact kk _ e1 hX ls H1 _ hl (hR.put hc z oq e2) (hS.put z oq hat.1)
theorem j_aastore (C : Cx p m c cc nL s args own w) {t ci a v : Nat} {i : Int32} {r : vw_C} {X : hp_M → Option α} (ht : (hp_tys w.2.2.2.1)[t]? = some (w.2.2.2.1 t, .object r.1)) (hci : vwCl[ci]? = some r) (d : decode cc pc = .ok (.aastore, 1)) (kk : ∀ h', paR h t ci a i v = some h' → J p l e R s m args below meth c Q w nL (cells) (slots) (pc + 1) L (rest) (h') (X h') out) : J p l e R s m args below meth c Q w nL (cells) (slots) (pc) L (.ref v :: .int i :: .ref a :: rest) (h) ((paR h t ci a i v).bind X) out := fun hX ls H locs hl hR hS => by
  obtain ⟨h1, e1, hX⟩ := Option.bind_eq_some_iff.mp hX
  obtain ⟨n, f, fs, hc, hin, hv, rfl⟩ := paR_spec e1
  have hlt : i.toNatClampNeg < n := Nat.not_le.mp fun q => hin (Or.inr q)
  have h0 : ¬ i < 0 := fun q => hin (Or.inl q)
  have hat := hR.2.2 a _ hc
  have hcell : H[a]? = some (vp_cell (w.2.2.2.1 t) (n, .inr (.inr (.inr (.inr f))))) := hat.2
  obtain ⟨r', hr', cellV, g1, g2, g3, -⟩ : ∃ r : vw_C, vwCl[ci]? = some r ∧ t_OB v (w.2.2.1.1 ci) r.2.2 (w.2.2.1.2 ci) H (vp_V fs) := (hR.2.2 v _ hv).2
  have hcls := (C.2.1.1.1 ci r hci).2
  obtain ⟨kA, comp, k1, k2, k3, -⟩ : ∃ (kA : Class) (comp : ClassId), s.vm.classes[w.2.2.2.1 t]? = some kA ∧ kA.kind = .array comp (.object r.1) ∧ s.vm.findClass r.1 = some comp ∧ s.vm.findClass ("[" ++ (FieldType.object r.1).toString) = some (w.2.2.2.1 t) := (C.2.1.1.2 t _ ht).2
  have hcomp : comp = w.2.2.1.1 ci := Option.some.inj (k3.symm.trans hcls.1)
  subst hcomp
  obtain ⟨kC, hkC, -⟩ := hcls.2
  refine W.aast C.1.1 C.1.2.1 hcell (fun q h => by cases h) (fun h => by cases h) k1 k2 rfl hkC ⟨h0, by show _ < (arrV _ _ _).slots.size; rw [arrV_size]; exact hlt⟩ g1 (fun q h => by rw [g3] at h; cases h) (by rw [g2]; exact hkC) (by rw [g2]; exact va_assign hcls) rfl rfl d fun H1 e2 z oq => ?_
  rw [aR_store] at e2
  exact kk _ e1 hX ls H1 _ hl (hR.put hc z oq e2) (hS.put z oq hat.1)
theorem hp_P0 {H : Heap} : va_P w.2.2.1 vwCl [] H := fun k q hq => by simp at hq
theorem j_new (C : Cx p m c cc nL s args own w) {idx ci n : Nat} {fs : List Value} {X : Option α} (hn : hp_n own idx ci n fs) (hcells : cells + 1 ≤ R.cells) (hslots : slots + n ≤ R.slots) (d : decode cc pc = .ok (.new idx, 3)) (k : J p l e R s m args below meth c Q w nL (cells + 1) (slots + n) (pc + 3) L (.ref h.2 :: rest) (hN h (.inr (ci, fs))) (X) out) : J p l e R s m args below meth c Q w nL (cells) (slots) (pc) L (rest) (h) (X) out := fun hX ls H locs hl hR hS => by
  obtain ⟨Cn, T, ty0, hc, hin, hty, hfs, hcl, hinst, hini⟩ := hn
  have hKn := C.2.1.1.1 ci _ hc
  refine W.newcK C.1.1 C.1.2.1 C.1.2.2.2.1 (C.tb hcl) (C.tb hinst) (C.tb hini) rfl d hcells hslots hKn.2.1 rfl fun H1 kC hkC e1 z1 o1 => ?_
  have hR1 := hR.push (e := .inr (ci, fs)) (hR.base C.2.1) z1 o1 ⟨_, hc, (u_born ty0 C.1.2.2.2.2 hin hKn hkC e1 hty).to hfs⟩
  rw [hR.1]
  exact k hX ls H1 locs hl hR1 ⟨by have := hS.1; omega, fun x h1 h2 => (o1 x (Nat.lt_of_lt_of_le h1 hS.1)).trans (hS.2.1 x h1 h2), hS.2.2⟩
theorem j_newI (C : Cx p m c cc nL s args own w) {n : Int32} {N : Nat} {X : Option α} (harr : Cond.arrayClass .int ∈ TB) (hn : ¬ n < 0) (hNN : n.toNatClampNeg = N) (hb : N * 4 ≤ 536870912) (hcells : cells + 1 ≤ R.cells) (hslots : slots + N ≤ R.slots) (d : decode cc pc = .ok (.newarray .int, 2)) (k : J p l e R s m args below meth c Q w nL (cells + 1) (slots + N) (pc + 2) L (.ref h.2 :: rest) (hN h (aI N (fun _ => 0))) (X) out) : J p l e R s m args below meth c Q w nL (cells) (slots) (pc) L (.int n :: rest) (h) (X) out := fun hX ls H locs hl hR hS => by
  refine va_newaK (atype := .int) C.1.1 C.1.2.1 (C.tb harr) rfl d rfl hn hNN hb hcells hslots rfl fun H1 cA e1 z1 o1 hA hf => ?_
  have hcA : cA = w.2.2.2.1 0 := Option.some.inj (hf.symm.trans (C.2.1.1.2 0 _ rfl).2)
  subst hcA
  have hR1 := hR.push (e := aI N (fun _ => 0)) (hR.base C.2.1) z1 o1 e1
  rw [hR.1]
  exact k hX ls H1 locs hl hR1 ⟨by have := hS.1; omega, fun x h1 h2 => (o1 x (Nat.lt_of_lt_of_le h1 hS.1)).trans (hS.2.1 x h1 h2), hS.2.2⟩
theorem j_newL (C : Cx p m c cc nL s args own w) {n : Int32} {N : Nat} {X : Option α} (harr : Cond.arrayClass .long ∈ TB) (hn : ¬ n < 0) (hNN : n.toNatClampNeg = N) (hb : N * 8 ≤ 536870912) (hcells : cells + 1 ≤ R.cells) (hslots : slots + N ≤ R.slots) (d : decode cc pc = .ok (.newarray .long, 2)) (k : J p l e R s m args below meth c Q w nL (cells + 1) (slots + N) (pc + 2) L (.ref h.2 :: rest) (hN h (aL N (fun _ => 0))) (X) out) : J p l e R s m args below meth c Q w nL (cells) (slots) (pc) L (.int n :: rest) (h) (X) out := fun hX ls H locs hl hR hS => by
  refine va_newaK (atype := .long) C.1.1 C.1.2.1 (C.tb harr) rfl d rfl hn hNN hb hcells hslots rfl fun H1 cA e1 z1 o1 hA hf => ?_
  have hcA : cA = w.2.2.2.1 1 := Option.some.inj (hf.symm.trans (C.2.1.1.2 1 _ rfl).2)
  subst hcA
  have hR1 := hR.push (e := aL N (fun _ => 0)) (hR.base C.2.1) z1 o1 e1
  rw [hR.1]
  exact k hX ls H1 locs hl hR1 ⟨by have := hS.1; omega, fun x h1 h2 => (o1 x (Nat.lt_of_lt_of_le h1 hS.1)).trans (hS.2.1 x h1 h2), hS.2.2⟩
theorem j_newR (C : Cx p m c cc nL s args own w) {n : Int32} {N t idx : Nat} {Cn : String} {X : Option α} (ht : (hp_tys w.2.2.2.1)[t]? = some (w.2.2.2.1 t, .object Cn)) (hcl : Cond.classLink own idx Cn ∈ TB) (hov : va_AO Cn s) (hn : ¬ n < 0) (hNN : n.toNatClampNeg = N) (hb : N * 4 ≤ 536870912) (hcells : cells + 1 ≤ R.cells) (hslots : slots + N ≤ R.slots) (d : decode cc pc = .ok (.anewarray idx, 3)) (k : J p l e R s m args below meth c Q w nL (cells + 1) (slots + N) (pc + 3) L (.ref h.2 :: rest) (hN h (aR t N (fun _ => none))) (X) out) : J p l e R s m args below meth c Q w nL (cells) (slots) (pc) L (.int n :: rest) (h) (X) out := fun hX ls H locs hl hR hS => by
  subst hNN
  refine W.anew C.1.1 C.1.2.1 C.1.2.2.2.1 (C.tb hcl) (va_AO.use hov) rfl d rfl hn hb hcells hslots fun cA kA comp f1 f2 f3 f4 => ?_
  obtain ⟨kA', comp', k1, k2, k3, k4⟩ : ∃ (kA : Class) (comp : ClassId), s.vm.classes[w.2.2.2.1 t]? = some kA ∧ kA.kind = .array comp (.object Cn) ∧ s.vm.findClass Cn = some comp ∧ s.vm.findClass ("[" ++ (FieldType.object Cn).toString) = some (w.2.2.2.1 t) := (C.2.1.1.2 t _ ht).2
  have hcA : cA = w.2.2.2.1 t := Option.some.inj (f1.symm.trans k4)
  subst hcA
  generalize hH1 : H.push ({ cls := w.2.2.2.1 t, slots := Array.replicate n.toNatClampNeg .null, vm := .none } : Cell) = H1
  have z1 : H1.size = H.size + 1 := by rw [← hH1, Array.size_push]
  have e1 : H1[H.size]? = some (arrV (w.2.2.2.1 t) n.toNatClampNeg (fun _ => .null)) := by rw [← hH1, Array.getElem?_push_size, ← arrV_new]
  have o1 : ∀ q : Nat, q < H.size → H1[q]? = H[q]? := fun q hq => by rw [← hH1, Array.getElem?_push, if_neg (Nat.ne_of_lt hq)]
  have hR1 := hR.push (e := aR t n.toNatClampNeg (fun _ => none)) (hR.base C.2.1) z1 o1 e1
  rw [hR.1]
  exact k hX ls H1 locs hl hR1 ⟨by have := hS.1; omega, fun x h1 h2 => (o1 x (Nat.lt_of_lt_of_le h1 hS.1)).trans (hS.2.1 x h1 h2), hS.2.2⟩
end JH
