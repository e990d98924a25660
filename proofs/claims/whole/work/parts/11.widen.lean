section JW
variable {p : Program} {l : Launch} {e : Env} {R rm : Room} {s : State} {m : MethodId} {args : Array Value} {below : List Frame} {meth : Method} {c : Code} {Q : State → Prop} {w : hp_W} {cc : ByteArray} {nL cells slots pc : Nat} {own : String} {L L' : List (Nat × Value)} {st rest : List Value} {h h' : hp_M} {α β : Type} {X : Option α} {out : α}
theorem kd_O (C : Cx p m c cc nL s args own w) {a i : Nat} (hk : kx w a = some i) : va_O RX2 a (hp_A w) s w.2.1 := by
  obtain ⟨hi, rfl⟩ := kx_spec hk
  exact (C.kd i hi).2.1
theorem j_widen {c1 s1 : Nat} (h1 : cells ≤ c1) (h2 : slots ≤ s1) (k : J p l e R s m args below meth c (Q) w nL (c1) (s1) (pc) L (st) (h) (X) out) : J p l e R s m args below meth c (Q) w nL (cells) (slots) (pc) L (st) (h) (X) out := fun hX ls H locs hl hR hS => W.widen h1 h2 (k hX ls H locs hl hR hS)
def ddC (x y : UInt64) : Option UInt64 := if (FP.ddiv x y) &&& 0x7fffffffffffffff ≤ 0x7ff0000000000000 then some (FP.ddiv x y) else none
theorem j_ddivC (C : Cx p m c cc nL s args own w) {x y : UInt64} {X : UInt64 → Option α} (d : decode cc pc = .ok (.ddiv, 1)) (kk : ∀ z, ddC x y = some z → J p l e R s m args below meth c (Q) w nL (cells) (slots) (pc + 1) L (.double z :: rest) (h) (X z) out) : J p l e R s m args below meth c (Q) w nL (cells) (slots) (pc) L (.double y :: .double x :: rest) (h) ((ddC x y).bind X) out := fun hX ls H locs hl hR hS => by
  obtain ⟨z, e1, hX⟩ := Option.bind_eq_some_iff.mp hX
  have e0 := e1
  unfold ddC at e1
  by_cases hq : (FP.ddiv x y) &&& 0x7fffffffffffffff ≤ 0x7ff0000000000000
  · rw [if_pos hq] at e1
    cases e1
    exact lv_ddiv C.1.1 C.1.2.1 d hq (kk _ e0 hX ls H locs hl hR hS)
  · rw [if_neg hq] at e1; cases e1
end JW
