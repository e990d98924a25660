/-! Reads and writes of the pure heap. -/
abbrev aI (n : Nat) (f : Nat → Int32) : va_E := .inl (0, (n, .inl f))
abbrev aL (n : Nat) (f : Nat → Int64) : va_E := .inl (1, (n, .inr (.inl f)))
abbrev aR (t n : Nat) (f : Nat → Option Nat) : va_E := .inl (t, (n, .inr (.inr (.inr (.inr f)))))
abbrev oC (ci : Nat) (fs : List Value) : va_E := .inr (ci, fs)
def gF (h : hp_M) (a ci k : Nat) : Option Value := match h.1 a with
  | some (.inr (c, fs)) => if c = ci then fs[k]? else none
  | _ => none
def vI : Value → Option Int32
  | .int x => some x
  | _ => none
def vL : Value → Option Int64
  | .long x => some x
  | _ => none
def vR : Value → Option Nat
  | .ref x => some x
  | _ => none
def gI (h : hp_M) (a ci k : Nat) : Option Int32 := (gF h a ci k).bind vI
def gL (h : hp_M) (a ci k : Nat) : Option Int64 := (gF h a ci k).bind vL
def gR (h : hp_M) (a ci k : Nat) : Option Nat := (gF h a ci k).bind vR
def pF (h : hp_M) (a ci k : Nat) (v : Value) : Option hp_M := match h.1 a with
  | some (.inr (c, fs)) => if c = ci ∧ k < fs.length then some (va_up h.1 a (some (.inr (c, fs.set k v))), h.2) else none
  | _ => none
def onO {β : Type} (h : hp_M) (a ci : Nat) (g : Option β) : Option β := match h.1 a with
  | some (.inr (c, _)) => if c = ci then g else none
  | _ => none
theorem gF_spec {h : hp_M} {a ci k : Nat} {v : Value} (e : gF h a ci k = some v) : ∃ fs, h.1 a = some (.inr (ci, fs)) ∧ fs[k]? = some v := by
  unfold gF at e
  split at e
  next c fs hc =>
    by_cases hq : c = ci
    · subst hq
      rw [if_pos rfl] at e
      exact ⟨fs, hc, e⟩
    · rw [if_neg hq] at e; cases e
  next => cases e
theorem gI_spec {h : hp_M} {a ci k : Nat} {x : Int32} (e : gI h a ci k = some x) : gF h a ci k = some (.int x) := by
  unfold gI at e
  obtain ⟨v, h1, h2⟩ := Option.bind_eq_some_iff.mp e
  cases v <;> first | (cases h2; done) | (simp only [vI] at h2; cases h2; exact h1)
theorem gL_spec {h : hp_M} {a ci k : Nat} {x : Int64} (e : gL h a ci k = some x) : gF h a ci k = some (.long x) := by
  unfold gL at e
  obtain ⟨v, h1, h2⟩ := Option.bind_eq_some_iff.mp e
  cases v <;> first | (cases h2; done) | (simp only [vL] at h2; cases h2; exact h1)
theorem gR_spec {h : hp_M} {a ci k : Nat} {x : Nat} (e : gR h a ci k = some x) : gF h a ci k = some (.ref x) := by
  unfold gR at e
  obtain ⟨v, h1, h2⟩ := Option.bind_eq_some_iff.mp e
  cases v <;> first | (cases h2; done) | (simp only [vR] at h2; cases h2; exact h1)
theorem pF_spec {h h' : hp_M} {a ci k : Nat} {v : Value} (e : pF h a ci k v = some h') : ∃ fs, h.1 a = some (.inr (ci, fs)) ∧ k < fs.length ∧ h' = (va_up h.1 a (some (.inr (ci, fs.set k v))), h.2) := by
  unfold pF at e
  split at e
  next c fs hc =>
    by_cases hq : c = ci ∧ k < fs.length
    · rw [if_pos hq] at e
      obtain ⟨rfl, h2⟩ := hq
      exact ⟨fs, hc, h2, (Option.some.inj e).symm⟩
    · rw [if_neg hq] at e; cases e
  next => cases e
theorem onO_spec {β : Type} {h : hp_M} {a ci : Nat} {g : Option β} {x : β} (e : onO h a ci g = some x) : (∃ fs, h.1 a = some (.inr (ci, fs))) ∧ g = some x := by
  unfold onO at e
  split at e
  next c fs hc =>
    by_cases hq : c = ci
    · subst hq
      rw [if_pos rfl] at e
      exact ⟨⟨fs, hc⟩, e⟩
    · rw [if_neg hq] at e; cases e
  next => cases e
/-- arrays: by tags 0 (ints), 1 (longs), 2 to 4 (references) -/
def gaI (h : hp_M) (a : Nat) (i : Int32) : Option Int32 := match h.1 a with
  | some (.inl (0, (n, .inl f))) => if i < 0 ∨ n ≤ i.toNatClampNeg then none else some (f i.toNatClampNeg)
  | _ => none
def gaL (h : hp_M) (a : Nat) (i : Int32) : Option Int64 := match h.1 a with
  | some (.inl (1, (n, .inr (.inl f)))) => if i < 0 ∨ n ≤ i.toNatClampNeg then none else some (f i.toNatClampNeg)
  | _ => none
def gaR (h : hp_M) (t a : Nat) (i : Int32) : Option Nat := match h.1 a with
  | some (.inl (t0, (n, .inr (.inr (.inr (.inr f)))))) => if t0 = t ∧ ¬ (i < 0 ∨ n ≤ i.toNatClampNeg) then f i.toNatClampNeg else none
  | _ => none
def gLen (h : hp_M) (a : Nat) : Option Int32 := match h.1 a with
  | some (.inl (0, (n, .inl _))) => some (Int32.ofNat n)
  | _ => none
def paI (h : hp_M) (a : Nat) (i x : Int32) : Option hp_M := match h.1 a with
  | some (.inl (0, (n, .inl f))) => if i < 0 ∨ n ≤ i.toNatClampNeg then none else some (va_up h.1 a (some (.inl (0, (n, .inl (upd f i.toNatClampNeg x))))), h.2)
  | _ => none
def paL (h : hp_M) (a : Nat) (i : Int32) (x : Int64) : Option hp_M := match h.1 a with
  | some (.inl (1, (n, .inr (.inl f)))) => if i < 0 ∨ n ≤ i.toNatClampNeg then none else some (va_up h.1 a (some (.inl (1, (n, .inr (.inl (vp_updL f i.toNatClampNeg x)))))), h.2)
  | _ => none
def paR (h : hp_M) (t ci a : Nat) (i : Int32) (v : Nat) : Option hp_M := match h.1 a with
  | some (.inl (t0, (n, .inr (.inr (.inr (.inr f)))))) => if t0 = t ∧ ¬ (i < 0 ∨ n ≤ i.toNatClampNeg) then onO h v ci (some (va_up h.1 a (some (aR t0 n (va_up f i.toNatClampNeg (some v)))), h.2)) else none
  | _ => none
def kx (w : hp_W) (a : Nat) : Option Nat := (List.range 42).find? (fun i => w_kd w i == a)
def paK (w : hp_W) (h : hp_M) (a : Nat) (i : Int32) (v : Nat) : Option hp_M := match h.1 a with
  | some (.inl (2, (n, .inr (.inr (.inr (.inr f)))))) => if i < 0 ∨ n ≤ i.toNatClampNeg then none else (kx w v).bind fun _ => some (va_up h.1 a (some (aR 2 n (va_up f i.toNatClampNeg (some v)))), h.2)
  | _ => none
theorem gaI_spec {h : hp_M} {a : Nat} {i x : Int32} (e : gaI h a i = some x) : ∃ n f, h.1 a = some (.inl (0, (n, .inl f))) ∧ vp_in i n ∧ x = f i.toNatClampNeg := by
  unfold gaI at e
  split at e
  next n f hc =>
    by_cases hq : i < 0 ∨ n ≤ i.toNatClampNeg
    · rw [if_pos hq] at e; cases e
    · rw [if_neg hq] at e
      exact ⟨n, f, hc, hq, (Option.some.inj e).symm⟩
  next => cases e
theorem gaL_spec {h : hp_M} {a : Nat} {i : Int32} {x : Int64} (e : gaL h a i = some x) : ∃ n f, h.1 a = some (.inl (1, (n, .inr (.inl f)))) ∧ vp_in i n ∧ x = f i.toNatClampNeg := by
  unfold gaL at e
  split at e
  next n f hc =>
    by_cases hq : i < 0 ∨ n ≤ i.toNatClampNeg
    · rw [if_pos hq] at e; cases e
    · rw [if_neg hq] at e
      exact ⟨n, f, hc, hq, (Option.some.inj e).symm⟩
  next => cases e
theorem gaR_spec {h : hp_M} {t a : Nat} {i : Int32} {x : Nat} (e : gaR h t a i = some x) : ∃ n f, h.1 a = some (.inl (t, (n, .inr (.inr (.inr (.inr f)))))) ∧ vp_in i n ∧ f i.toNatClampNeg = some x := by
  unfold gaR at e
  split at e
  next t0 n f hc =>
    by_cases hq : t0 = t ∧ ¬ (i < 0 ∨ n ≤ i.toNatClampNeg)
    · rw [if_pos hq] at e
      obtain ⟨rfl, h2⟩ := hq
      exact ⟨n, f, hc, h2, e⟩
    · rw [if_neg hq] at e; cases e
  next => cases e
theorem gLen_spec {h : hp_M} {a : Nat} {x : Int32} (e : gLen h a = some x) : ∃ n f, h.1 a = some (.inl (0, (n, .inl f))) ∧ x = Int32.ofNat n := by
  unfold gLen at e
  split at e
  next n f hc => exact ⟨n, f, hc, (Option.some.inj e).symm⟩
  next => cases e
theorem paI_spec {h h' : hp_M} {a : Nat} {i x : Int32} (e : paI h a i x = some h') : ∃ n f, h.1 a = some (.inl (0, (n, .inl f))) ∧ vp_in i n ∧ h' = (va_up h.1 a (some (.inl (0, (n, .inl (upd f i.toNatClampNeg x))))), h.2) := by
  unfold paI at e
  split at e
  next n f hc =>
    by_cases hq : i < 0 ∨ n ≤ i.toNatClampNeg
    · rw [if_pos hq] at e; cases e
    · rw [if_neg hq] at e
      exact ⟨n, f, hc, hq, (Option.some.inj e).symm⟩
  next => cases e
theorem paL_spec {h h' : hp_M} {a : Nat} {i : Int32} {x : Int64} (e : paL h a i x = some h') : ∃ n f, h.1 a = some (.inl (1, (n, .inr (.inl f)))) ∧ vp_in i n ∧ h' = (va_up h.1 a (some (.inl (1, (n, .inr (.inl (vp_updL f i.toNatClampNeg x)))))), h.2) := by
  unfold paL at e
  split at e
  next n f hc =>
    by_cases hq : i < 0 ∨ n ≤ i.toNatClampNeg
    · rw [if_pos hq] at e; cases e
    · rw [if_neg hq] at e
      exact ⟨n, f, hc, hq, (Option.some.inj e).symm⟩
  next => cases e
theorem paR_spec {h h' : hp_M} {t ci a v : Nat} {i : Int32} (e : paR h t ci a i v = some h') : ∃ n f fs, h.1 a = some (.inl (t, (n, .inr (.inr (.inr (.inr f)))))) ∧ vp_in i n ∧ h.1 v = some (.inr (ci, fs)) ∧ h' = (va_up h.1 a (some (aR t n (va_up f i.toNatClampNeg (some v)))), h.2) := by
  unfold paR at e
  split at e
  next t0 n f hc =>
    by_cases hq : t0 = t ∧ ¬ (i < 0 ∨ n ≤ i.toNatClampNeg)
    · rw [if_pos hq] at e
      obtain ⟨rfl, h2⟩ := hq
      obtain ⟨⟨fs, h3⟩, h4⟩ := onO_spec e
      exact ⟨n, f, fs, hc, h2, h3, (Option.some.inj h4).symm⟩
    · rw [if_neg hq] at e; cases e
  next => cases e
theorem kx_spec {w : hp_W} {a k : Nat} (e : kx w a = some k) : k < 42 ∧ w_kd w k = a := by
  unfold kx at e
  have h1 := List.find?_some e
  have h2 := List.mem_range.mp (List.mem_of_find?_eq_some e)
  exact ⟨h2, by simpa using h1⟩
theorem paK_spec {w : hp_W} {h h' : hp_M} {a v : Nat} {i : Int32} (e : paK w h a i v = some h') : ∃ n f k, h.1 a = some (.inl (2, (n, .inr (.inr (.inr (.inr f)))))) ∧ vp_in i n ∧ k < 42 ∧ w_kd w k = v ∧ h' = (va_up h.1 a (some (aR 2 n (va_up f i.toNatClampNeg (some v)))), h.2) := by
  unfold paK at e
  split at e
  next n f hc =>
    by_cases hq : i < 0 ∨ n ≤ i.toNatClampNeg
    · rw [if_pos hq] at e; cases e
    · rw [if_neg hq] at e
      obtain ⟨k, h1, h2⟩ := Option.bind_eq_some_iff.mp e
      obtain ⟨h3, h4⟩ := kx_spec h1
      exact ⟨n, f, k, hc, hq, h3, h4, (Option.some.inj h2).symm⟩
  next => cases e
/-! What an entry of a class' pool links. -/
def lkF (own : String) (idx : Nat) (t : String × String × String × Bool) : Prop := Cond.fieldLink own idx t.1 t.2.1 t.2.2.1 ∈ TB ∨ ∃ host, Cond.fieldLinkNest own idx t.1 t.2.1 t.2.2.1 host ∈ hp_nw
def hp_g (own : String) (idx ci k : Nat) : Prop := ∃ (Cn : String) (T : u_T) (N : Nat), vwCl[ci]? = some (Cn, T, N) ∧ k < N ∧ (∀ x ∈ u_ws Cn T N, x ∈ TB) ∧ lkF own idx (T k)
def hp_p (own : String) (idx ci k : Nat) (ty : FieldType) (b : Bool) : Prop := ∃ (Cn : String) (T : u_T) (N : Nat) (ty0 : Nat → FieldType), vwCl[ci]? = some (Cn, T, N) ∧ k < N ∧ (∀ x ∈ u_ws Cn T N, x ∈ TB) ∧ (∀ k, k < N → parseFieldDescriptor (T k).2.2.1 = some (ty0 k)) ∧ (∀ a, a < N → ∀ b, b < N → a ≠ b → (T a).2.1 ≠ (T b).2.1) ∧ parseFieldDescriptor (T k).2.2.1 = some ty ∧ (T k).2.2.2 = b ∧ ((b = false ∧ lkF own idx (T k)) ∨ (b = true ∧ own = (T k).1 ∧ Cond.fieldLink own idx (T k).1 (T k).2.1 (T k).2.2.1 ∈ TB))
def hp_n (own : String) (idx ci n : Nat) (fs : List Value) : Prop := ∃ (Cn : String) (T : u_T) (ty0 : Nat → FieldType), vwCl[ci]? = some (Cn, T, n) ∧ (∀ x ∈ u_ws Cn T n, x ∈ TB) ∧ (∀ k, k < n → parseFieldDescriptor (T k).2.2.1 = some (ty0 k)) ∧ (∀ j, j < n → defaultValue (ty0 j) = vp_V fs j) ∧ Cond.classLink own idx Cn ∈ TB ∧ Cond.instantiable Cn n ∈ TB ∧ Cond.initialized Cn ∈ TB
section HR
variable {p : Program} {l : Launch} {e : Env} {R : Room} {s : State} {m : MethodId} {args : Array Value} {below : List Frame} {meth : Method} {c : Code} {Q : State → Prop} {w : hp_W} {cc : ByteArray} {nL cells slots pc : Nat} {own : String} {L L' : List (Nat × Value)} {st rest : List Value} {h : hp_M} {α β : Type} {X : Option α} {out : α} {ls : Array Slot} {H : Heap} {locs : List Loc}
theorem hp_get (C : Cx p m c cc nL s args own w) {idx ci k a : Nat} (hg : hp_g own idx ci k) (d : decode cc pc = .ok (.getfield idx, 3)) {v : Value} (hv : gF h a ci k = some v) (hR : hp_R w h H) (kk : W p l e R s m args below meth c H locs cells slots Q (F0 m (pc + 3) ls (v :: rest))) : W p l e R s m args below meth c H locs cells slots Q (F0 m pc ls (.ref a :: rest)) := by
  obtain ⟨fs, hc1, hf⟩ := gF_spec hv
  obtain ⟨Cn, T, N, hc, hk, hin, hlk⟩ := hg
  have hP : va_P w.2.2.1 vwCl [(a, .inr (ci, fs))] H := by
    intro k q hq
    have hz : k < 1 := (List.getElem?_eq_some_iff.mp hq).1
    rw [show k = 0 by omega] at hq
    cases hq
    exact (hR.2.2 a _ hc1).2
  rcases hlk with hlk | ⟨host, hlk⟩
  · exact va_get (D := w.2.2.1) (ref := (T k).1) C.1.1 C.1.2.1 C.1.2.2.2.2 hin C.1.2.2.2.1 C.2.1.1 hP 0 rfl hc k hk (C.tb hlk) (fun _ h => h) hf d kk
  · exact va_getN (D := w.2.2.1) (ref := (T k).1) C.1.1 C.1.2.1 C.1.2.2.2.2 hin C.1.2.2.2.1 C.2.1.1 hP 0 rfl hc k hk ((C.nw hlk).use rfl) (fun _ h => h) hf d kk
theorem hp_put (C : Cx p m c cc nL s args own w) {idx ci k a : Nat} {ty : FieldType} {b : Bool} (hp : hp_p own idx ci k ty b) {v : Value} (hn : narrow ty v = v) (hfit : fits ty v = true) (hin2 : b = true → meth.name = "<init>") (d : decode cc pc = .ok (.putfield idx, 3)) {h' : hp_M} (hh : pF h a ci k v = some h') (hR : hp_R w h H) (hS : va_S (hp_A w) s.heap H locs) (kk : ∀ (H1 : Heap) (locs1 : List Loc), hp_R w h' H1 → va_S (hp_A w) s.heap H1 locs1 → W p l e R s m args below meth c H1 locs1 cells slots Q (F0 m (pc + 3) ls rest)) : W p l e R s m args below meth c H locs cells slots Q (F0 m pc ls (v :: .ref a :: rest)) := by
  obtain ⟨fs, hcell, hkl, rfl⟩ := pF_spec hh
  obtain ⟨Cn, T, N, ty0, hc, hk, hin, hty, hnm, hd, hfb, hlk⟩ := hp
  have hKv := C.2.1.1
  have hts := C.1.2.2.2.2
  have hown := C.1.2.2.2.1
  have hap := va_apart (own := own) hts hin ty0 hty hnm hKv hc
  have hat := hR.2.2 a _ hcell
  have ha := hat.1
  obtain ⟨r, h1, cell, q1, q2, q3, q4⟩ : ∃ r : vw_C, vwCl[ci]? = some r ∧ t_OB a (w.2.2.1.1 ci) r.2.2 (w.2.2.1.2 ci) H (vp_V fs) := hat.2
  have hr : r = (Cn, T, N) := Option.some.inj (h1.symm.trans hc)
  subst hr
  obtain ⟨hSl, hfc, kC, hkC, hkind⟩ := hKv.1 ci _ hc
  obtain ⟨cf, kf, fi, f, hi, hsl⟩ := hSl k hk
  have hlay := hts _ (hin _ (u_in_lay hk))
  unfold u_lay at hlay
  have hst := (u_facts hfc hkC (u_lays hts hin hk) hi).1
  have fin : ∀ H' : Heap, H'[a]? = some (cell.setSlot f.slot v) → H'.size = H.size → (∀ q, q ≠ a → H'[q]? = H[q]?) → hp_R w (va_up h.1 a (some (.inr (ci, fs.set k v))), h.2) H' ∧ va_S (hp_A w) s.heap H' (locs ++ [⟨a, f.slot⟩]) := by
    intro H' e1 e2 e3
    rw [hsl] at e1
    exact ⟨hR.put hcell e2 e3 ⟨_, hc, t_OB.to (V := updV (vp_V fs) k v) ⟨_, e1, q2, q3, t_set q4 hap hk v⟩ (fun j _ => vp_updV_set hkl v j)⟩, hS.put e2 e3 ha⟩
  rcases hlk with ⟨hbf, hlk⟩ | ⟨hbt, hdecl, hlk⟩
  · have hfin : (T k).2.2.2 = false := hfb.trans hbf
    rw [if_neg (by rw [hfin]; decide)] at hlay
    have h6 := u_store hfc hkC hkind hlay hi hd hn hfit
    rcases hlk with hlk | ⟨host, hlk⟩
    · refine W.putK C.1.1 C.1.2.1 (f := f) ⟨hown, C.tb hlk, ⟨_, _, _, hi⟩, hst⟩ (by rw [q2]; exact h6) q1 q3 (by rw [hsl]; exact k2_hasslot (q4 k hk)) rfl rfl d fun H' e1 e2 e3 => ?_
      exact kk H' _ (fin H' e1 e2 e3).1 (fin H' e1 e2 e3).2
    · refine va_WputK C.1.1 C.1.2.1 (f := f) hown ((C.nw hlk).use rfl) hi hst (by rw [q2]; exact h6) q1 q3 (by rw [hsl]; exact k2_hasslot (q4 k hk)) rfl rfl d fun H' e1 e2 e3 => ?_
      exact kk H' _ (fin H' e1 e2 e3).1 (fin H' e1 e2 e3).2
  · have hfin : (T k).2.2.2 = true := hfb.trans hbt
    rw [if_pos hfin] at hlay
    have hcf : m.cls = cf := by
      obtain ⟨_, _, c', _, _, _, -, -, hf', -, -, -, hown2, -⟩ := Cond.laysFinal_spec hlay
      have e1 : c' = cf := by have := hi.symm.trans hf'; simp at this; exact this.1.symm
      rw [← hdecl] at hown2
      rw [← e1]; exact Option.some.inj (hown.symm.trans hown2)
    have h6 := u_fits hfc hkC hkind (Or.inr hlay) hi hd hn hfit
    refine W.putFinK C.1.1 C.1.2.1 hown (C.tb hlk) hi hst hcf (hin2 hbt) (by rw [q2]; exact h6) q1 q3 (by rw [hsl]; exact k2_hasslot (q4 k hk)) rfl rfl d fun H' e1 e2 e3 => ?_
    exact kk H' _ (fin H' e1 e2 e3).1 (fin H' e1 e2 e3).2
end HR
