section JW
variable {p : Program} {l : Launch} {e : Env} {R rm : Room} {s : State} {m : MethodId} {args : Array Value} {below : List Frame} {meth : Method} {c : Code} {Q : State → Prop} {w : hp_W} {cc : ByteArray} {nL cells slots pc : Nat} {own : String} {L L' : List (Nat × Value)} {st rest : List Value} {h h' : hp_M} {α β : Type} {X : Option α} {out : α}
theorem kd_O (C : Cx p m c cc nL s args own w) {a i : Nat} (hk : kx w a = some i) : va_O RX2 a (hp_A w) s w.2.1 := by
  obtain ⟨hi, rfl⟩ := kx_spec hk
  exact (C.kd i hi).2.1
theorem j_widen {c1 s1 : Nat} (h1 : cells ≤ c1) (h2 : slots ≤ s1) (k : J p l e R s m args below meth c (Q) w nL (c1) (s1) (pc) L (st) (h) (X) out) : J p l e R s m args below meth c (Q) w nL (cells) (slots) (pc) L (st) (h) (X) out := fun hX ls H locs hl hR hS => W.widen h1 h2 (k hX ls H locs hl hR hS)
end JW
