/-! The class reads a text. -/
abbrev stV : Type := Nat × Nat × Nat × Nat × List evV × List evV
def gSt (K : Nat → Nat) (p : Nat) : Bool × Nat × stV := if K p = 4 then ((gPl K p).1, (gPl K p).2.1, 0, p, (gPl K p).2.2.1, (gPl K p).2.2.2, [], []) else if K p = 10 then ((gAl K p).1, (gAl K p).2, 1, p, 0, 0, [], []) else if K p = 11 then ((gRu K p).1, (gRu K p).2.1, 2, p, (gRu K p).2.2.2.2, 0, (gRu K p).2.2.1, (gRu K p).2.2.2.1) else (false, p, 3, p, 0, 0, [], [])
def stX (B : bkV) (tp : Nat → Int32) (L : List tokV) (x : Int32 × Int32) (s : stV) : Int32 × Int32 := if s.1 = 0 then plX B tp L x s.2.1 s.2.2.1 s.2.2.2.1 else if s.1 = 1 then alX B tp L x s.2.1 else ruX B tp L x s.2.1 s.2.2.2.2.1 s.2.2.2.2.2 s.2.2.1
def stB (B : bkV) (tp : Nat → Int32) (L : List tokV) (s : stV) : bkV := if s.1 = 0 then plB B tp L s.2.1 s.2.2.1 s.2.2.2.1 else if s.1 = 1 then alB B tp L s.2.1 else ruB B tp L s.2.2.2.2.1 s.2.2.2.2.2 s.2.2.1
def gTx (K : Nat → Nat) : Nat → Nat → Bool × Nat × List stV
  | 0, p => (true, p, [])
  | n + 1, p => if K p = 0 then (true, p, []) else if (gSt K p).1 = true then ((gTx K n (gSt K p).2.1).1, (gTx K n (gSt K p).2.1).2.1, (gSt K p).2.2 :: (gTx K n (gSt K p).2.1).2.2) else (false, (gSt K p).2.1, [])
def stXs (tp : Nat → Int32) (L : List tokV) : List stV → bkV → Int32 × Int32 → Int32 × Int32
  | [], _, x => x
  | s :: l, B, x => stXs tp L l (stB B tp L s) (stX B tp L x s)
def stBs (tp : Nat → Int32) (L : List tokV) : List stV → bkV → bkV
  | [], B => B
  | s :: l, B => stBs tp L l (stB B tp L s)
theorem ite4_ge {p : Nat} {c : Prop} [Decidable c] {x y : Bool × Nat × Nat × Nat} (hx : p ≤ x.2.1) (hy : p ≤ y.2.1) : p ≤ (if c then x else y).2.1 := by split <;> assumption
theorem gPl2_ge (K : Nat → Nat) (a p q : Nat) (h : p ≤ q) : p ≤ (gPl2 K a q).2.1 := by
  unfold gPl2
  (repeat' refine ite4_ge ?_ ?_) <;> (dsimp only; omega)
theorem gPl_ge (K : Nat → Nat) (p : Nat) : p ≤ (gPl K p).2.1 := by
  unfold gPl
  (repeat' refine ite4_ge ?_ ?_) <;> first | (exact gPl2_ge K _ _ _ (by omega)) | (dsimp only; omega)
theorem gAl_ge (K : Nat → Nat) (p : Nat) : p ≤ (gAl K p).2 := by
  unfold gAl
  (repeat' split) <;> (try dsimp only) <;> omega
theorem gRu_B {K : Nat → Nat} {N : Nat} (ok : okN K N) {p : Nat} (hp : p + 1 < N) (g : (gRu K p).1 = true) : (gRu K p).2.2.1.length + (gRu K p).2.2.2.1.length + p + 5 ≤ (gRu K p).2.1 ∧ wsm (gRu K p).2.2.1 + wsm (gRu K p).2.2.2.1 + 2 * p + 10 ≤ 2 * (gRu K p).2.1 ∧ osm (gRu K p).2.2.1 + osm (gRu K p).2.2.2.1 + p + 5 ≤ (gRu K p).2.1 := by
  obtain ⟨b1, b2, b3⟩ := gTst_B ok (gSin_B ok 8) (p + 1) hp
  unfold gRu at g ⊢
  by_cases c1 : (gTS K (p + 1)).1 = true
  · rw [if_pos c1] at g ⊢
    obtain ⟨d1, d2, d3, d4⟩ := b3 c1
    have d1' : p + 1 + 1 ≤ (gTS K (p + 1)).2.1 := d1
    have d2' : (gTS K (p + 1)).2.2.length + (p + 1) + 1 ≤ (gTS K (p + 1)).2.1 + 1 := d2
    have d3' : wsm (gTS K (p + 1)).2.2 + 2 * (p + 1 + 1) ≤ 2 * (gTS K (p + 1)).2.1 + 2 := d3
    have d4' : osm (gTS K (p + 1)).2.2 + (p + 1) + 1 ≤ (gTS K (p + 1)).2.1 + 1 := d4
    by_cases c2 : K (gTS K (p + 1)).2.1 = 12
    · rw [if_pos c2] at g ⊢
      have n1 := (ok _ b1).2 (show 2 ≤ K (gTS K (p + 1)).2.1 by omega)
      obtain ⟨i1, i2, i3⟩ := gSum_B ok (gVal_B ok 8) _ n1
      by_cases c3 : (gSM K ((gTS K (p + 1)).2.1 + 1)).1 = true
      · rw [if_pos c3] at g ⊢
        obtain ⟨j1, j2, j3, j4⟩ := i3 c3
        have j1' : (gTS K (p + 1)).2.1 + 1 + 1 ≤ (gSM K ((gTS K (p + 1)).2.1 + 1)).2.1 := j1
        have j2' : (gSM K ((gTS K (p + 1)).2.1 + 1)).2.2.length + ((gTS K (p + 1)).2.1 + 1) + 1 ≤ (gSM K ((gTS K (p + 1)).2.1 + 1)).2.1 + 1 := j2
        have j3' : wsm (gSM K ((gTS K (p + 1)).2.1 + 1)).2.2 + 2 * ((gTS K (p + 1)).2.1 + 1 + 1) ≤ 2 * (gSM K ((gTS K (p + 1)).2.1 + 1)).2.1 + 2 := j3
        have j4' : osm (gSM K ((gTS K (p + 1)).2.1 + 1)).2.2 + ((gTS K (p + 1)).2.1 + 1) + 1 ≤ (gSM K ((gTS K (p + 1)).2.1 + 1)).2.1 + 1 := j4
        by_cases c4 : K (gSM K ((gTS K (p + 1)).2.1 + 1)).2.1 = 13
        · rw [if_pos c4] at g ⊢
          by_cases c5 : K ((gSM K ((gTS K (p + 1)).2.1 + 1)).2.1 + 1) = 2
          · rw [if_pos c5] at g ⊢
            by_cases c6 : K ((gSM K ((gTS K (p + 1)).2.1 + 1)).2.1 + 2) = 30
            · rw [if_pos c6]
              dsimp only
              omega
            · rw [if_neg c6] at g; cases g
          · rw [if_neg c5] at g; cases g
        · rw [if_neg c4] at g; cases g
      · rw [if_neg c3] at g; cases g
    · rw [if_neg c2] at g; cases g
  · rw [if_neg c1] at g; cases g
section
variable {w : hp_W} {r tpA dr tn : Nat} {tp : Nat → Int32} {L : List tokV} {h0 h : hp_M} {p : Nat} {x : Int32 × Int32} {lt : Int32} {B : bkV}
theorem OX.call {β : Type} {ok : Bool} {q : Nat} {z : Option (Int32 × hp_M)} {P : Option β → Prop} {F : Int32 × hp_M → Option β} (o : OX w r tpA dr tn tp L h0 ok q x B z) (hs : ok = true → ∀ h' lt', CR w r tpA dr tn tp L h0 h' q x.1 x.2 lt' B → P (F (1, h'))) (hf : ok = false → ∀ h' e' ep' lt' B', CR w r tpA dr tn tp L h0 h' q e' ep' lt' B' → P (F (0, h'))) : P (z.bind F) := by
  cases c : ok with
  | true =>
    obtain ⟨h', lt', e, c'⟩ := o.1 c
    rw [e]; exact hs c h' lt' c'
  | false =>
    obtain ⟨h', e', ep', lt', B', e, c'⟩ := o.2 c
    rw [e]; exact hf c h' e' ep' lt' B' c'
theorem text_b (ow : okW w) (otk : okTk tn tp L) {fl : Nat} (hfl : 5000 ≤ fl) (K : Int32 → hp_M → Option (Int32 × hp_M)) : ∀ (n i fu p : Nat) (h : hp_M) (x : Int32 × Int32) (lt : Int32) (B : bkV), i + n = 400 → n < fu → B.2.2.1.length ≤ p → CR w r tpA dr tn tp L h0 h p x.1 x.2 lt B →
    ((gTx (kdp L) n p).1 = true → ∃ h' lt', f_Rd_readInto_b33 w fl r K fu 1 (ix i) h = K 1 h' ∧ CR w r tpA dr tn tp L h0 h' (gTx (kdp L) n p).2.1 (stXs tp L (gTx (kdp L) n p).2.2 B x).1 (stXs tp L (gTx (kdp L) n p).2.2 B x).2 lt' (stBs tp L (gTx (kdp L) n p).2.2 B)) ∧
    ((gTx (kdp L) n p).1 = false → ∃ h' e' ep' lt' B', f_Rd_readInto_b33 w fl r K fu 1 (ix i) h = K 0 h' ∧ CR w r tpA dr tn tp L h0 h' (gTx (kdp L) n p).2.1 e' ep' lt' B') := by
  intro n
  induction n with
  | zero =>
    intro i fu p h x lt B hi hf hl c
    obtain ⟨fu, rfl⟩ : ∃ q, fu = q + 1 := ⟨fu - 1, by omega⟩
    refine ⟨fun _ => ⟨h, lt, ?_, c⟩, fun q => by cases q⟩
    unfold f_Rd_readInto_b33
    exact ite_p (show (400 : Int32) ≤ ix i from ix_le1 (i := 400) (by omega) (by omega)) rfl
  | succ n ih =>
    intro i fu p h x lt B hi hf hl c
    obtain ⟨fu, rfl⟩ : ∃ q, fu = q + 1 := ⟨fu - 1, by omega⟩
    obtain ⟨fu, rfl⟩ : ∃ q, fu = q + 1 := ⟨fu - 1, by omega⟩
    have n4 : ¬ (400 : Int32) ≤ ix i := ix_nle (n := i) (i := 400) (by omega) (by omega)
    have okk := c.okk
    have fail : ∀ h1, f_Rd_readInto_b33 w fl r K (fu + 1) 0 (ix i + 1) h1 = K 0 h1 := by
      intro h1
      unfold f_Rd_readInto_b33
      by_cases q : (400 : Int32) ≤ ix i + 1
      · exact ite_p q rfl
      · exact ite_n q (ite_p rfl rfl)
    by_cases k0 : kdp L p = 0
    · unfold gTx
      rw [if_pos k0]
      refine ⟨fun _ => ⟨h, lt, ?_, c⟩, fun q => by cases q⟩
      unfold f_Rd_readInto_b33
      exact ite_n n4 (ite_n z10 (bnd c.r0 (bnd (c.isY ow (by omega) k0) (ite_n z10 rfl))))
    -- what a statement's call brings
    have go : ∀ (z : Option (Int32 × hp_M)), OX w r tpA dr tn tp L h0 (gSt (kdp L) p).1 (gSt (kdp L) p).2.1 (stX B tp L x (gSt (kdp L) p).2.2) (stB B tp L (gSt (kdp L) p).2.2) z → ((gSt (kdp L) p).1 = true → (stB B tp L (gSt (kdp L) p).2.2).2.2.1.length ≤ (gSt (kdp L) p).2.1) → (∀ h1, z = some (1, h1) → f_Rd_readInto_b33 w fl r K (fu + 1 + 1) 1 (ix i) h = f_Rd_readInto_b33 w fl r K (fu + 1) 1 (ix i + 1) h1) → (∀ h1, z = some (0, h1) → f_Rd_readInto_b33 w fl r K (fu + 1 + 1) 1 (ix i) h = f_Rd_readInto_b33 w fl r K (fu + 1) 0 (ix i + 1) h1) →
        ((gTx (kdp L) (n + 1) p).1 = true → ∃ h' lt', f_Rd_readInto_b33 w fl r K (fu + 1 + 1) 1 (ix i) h = K 1 h' ∧ CR w r tpA dr tn tp L h0 h' (gTx (kdp L) (n + 1) p).2.1 (stXs tp L (gTx (kdp L) (n + 1) p).2.2 B x).1 (stXs tp L (gTx (kdp L) (n + 1) p).2.2 B x).2 lt' (stBs tp L (gTx (kdp L) (n + 1) p).2.2 B)) ∧
        ((gTx (kdp L) (n + 1) p).1 = false → ∃ h' e' ep' lt' B', f_Rd_readInto_b33 w fl r K (fu + 1 + 1) 1 (ix i) h = K 0 h' ∧ CR w r tpA dr tn tp L h0 h' (gTx (kdp L) (n + 1) p).2.1 e' ep' lt' B') := by
      intro z o hb e1 e0
      unfold gTx
      rw [if_neg k0]
      by_cases d : (gSt (kdp L) p).1 = true
      · rw [if_pos d]
        obtain ⟨h1, lt1, e, c1⟩ := o.1 d
        rw [e1 h1 e, ixp1]
        exact ih (i + 1) (fu + 1) (gSt (kdp L) p).2.1 h1 _ lt1 _ (by omega) (by omega) (hb d) c1
      · rw [if_neg d]
        obtain ⟨h1, e', ep', lt', B', e, c1⟩ := o.2 (by simpa using d)
        refine ⟨(fun q => by cases q), fun _ => ⟨h1, e', ep', lt', B', ?_, c1⟩⟩
        rw [e0 h1 e, fail]
    by_cases k4 : kdp L p = 4
    · refine go (onO h r 5 (f_Rd_readPlanet w fl r h)) ?_ ?_ ?_ ?_
      · unfold gSt; rw [if_pos k4]
        exact planet_of ow hfl c k4
      · unfold gSt; rw [if_pos k4]
        intro _
        exact Nat.le_trans hl (gPl_ge _ _)
      · intro h1 e
        conv => lhs; unfold f_Rd_readInto_b33
        exact ite_n n4 (ite_n z10 (bnd c.r0 (bnd (c.isN ow (by omega) k0) (ite_p rfl (jnE (bnd c.r0 (bnd (c.isY ow (by omega) k4) (ite_n z10 (bnd e rfl)))))))))
      · intro h1 e
        conv => lhs; unfold f_Rd_readInto_b33
        exact ite_n n4 (ite_n z10 (bnd c.r0 (bnd (c.isN ow (by omega) k0) (ite_p rfl (jnE (bnd c.r0 (bnd (c.isY ow (by omega) k4) (ite_n z10 (bnd e rfl)))))))))
    by_cases k10 : kdp L p = 10
    · refine go (onO h r 5 (f_Rd_readAlphabet w fl r h)) ?_ ?_ ?_ ?_
      · unfold gSt; rw [if_neg k4, if_pos k10]
        exact alphabet_of ow otk hfl c k10
      · unfold gSt; rw [if_neg k4, if_pos k10]
        intro _
        exact Nat.le_trans hl (gAl_ge _ _)
      · intro h1 e
        conv => lhs; unfold f_Rd_readInto_b33
        exact ite_n n4 (ite_n z10 (bnd c.r0 (bnd (c.isN ow (by omega) k0) (ite_p rfl (jnE (bnd c.r0 (bnd (c.isN ow (by omega) k4) (ite_p rfl (bnd c.r0 (bnd (c.isY ow (by omega) k10) (ite_n z10 (bnd e rfl))))))))))))
      · intro h1 e
        conv => lhs; unfold f_Rd_readInto_b33
        exact ite_n n4 (ite_n z10 (bnd c.r0 (bnd (c.isN ow (by omega) k0) (ite_p rfl (jnE (bnd c.r0 (bnd (c.isN ow (by omega) k4) (ite_p rfl (bnd c.r0 (bnd (c.isY ow (by omega) k10) (ite_n z10 (bnd e rfl))))))))))))
    by_cases k11 : kdp L p = 11
    · refine go (onO h r 5 (f_Rd_readRule w fl r h)) ?_ ?_ ?_ ?_
      · unfold gSt; rw [if_neg k4, if_neg k10, if_pos k11]
        exact rule_of ow hfl hl c k11
      · unfold gSt; rw [if_neg k4, if_neg k10, if_pos k11]
        intro d
        obtain ⟨d1, _, _⟩ := gRu_B (kN okk) (c.nxt (by omega)) d
        show (B.2.2.1 ++ ((gRu (kdp L) p).2.2.1 ++ (gRu (kdp L) p).2.2.2.1).map (itm B tp L)).length ≤ (gRu (kdp L) p).2.1
        rw [List.length_append, List.length_map, List.length_append]
        omega
      · intro h1 e
        conv => lhs; unfold f_Rd_readInto_b33
        exact ite_n n4 (ite_n z10 (bnd c.r0 (bnd (c.isN ow (by omega) k0) (ite_p rfl (jnE (bnd c.r0 (bnd (c.isN ow (by omega) k4) (ite_p rfl (bnd c.r0 (bnd (c.isN ow (by omega) k10) (ite_p rfl (jnE (jnE (bnd c.r0 (bnd (c.isY ow (by omega) k11) (ite_n z10 (bnd e (ite_n z10 rfl))))))))))))))))))
      · intro h1 e
        conv => lhs; unfold f_Rd_readInto_b33
        exact ite_n n4 (ite_n z10 (bnd c.r0 (bnd (c.isN ow (by omega) k0) (ite_p rfl (jnE (bnd c.r0 (bnd (c.isN ow (by omega) k4) (ite_p rfl (bnd c.r0 (bnd (c.isN ow (by omega) k10) (ite_p rfl (jnE (jnE (bnd c.r0 (bnd (c.isY ow (by omega) k11) (ite_n z10 (bnd e (ite_p rfl rfl))))))))))))))))))
    · have e : f_Rd_readInto_b33 w fl r K (fu + 1 + 1) 1 (ix i) h = f_Rd_readInto_b33 w fl r K (fu + 1) 0 (ix i + 1) h := by
        conv => lhs; unfold f_Rd_readInto_b33
        exact ite_n n4 (ite_n z10 (bnd c.r0 (bnd (c.isN ow (by omega) k0) (ite_p rfl (jnE (bnd c.r0 (bnd (c.isN ow (by omega) k4) (ite_p rfl (bnd c.r0 (bnd (c.isN ow (by omega) k10) (ite_p rfl (jnE (jnE (bnd c.r0 (bnd (c.isN ow (by omega) k11) (ite_p rfl rfl))))))))))))))))
      unfold gTx gSt
      rw [if_neg k0, if_neg k4, if_neg k10, if_neg k11]
      dsimp only
      rw [if_neg (by decide)]
      exact ⟨(fun q => by cases q), fun _ => ⟨h, _, _, _, _, by rw [e, fail], c⟩⟩
end
def rdV (tn : Nat) (tp : Nat → Int32) : Int32 × Int32 × bkV :=
  if (gTx (kdp (tksV tn tp)) 400 0).1 = true ∧ kdp (tksV tn tp) (gTx (kdp (tksV tn tp)) 400 0).2.1 = 0 then ((stXs tp (tksV tn tp) (gTx (kdp (tksV tn tp)) 400 0).2.2 ([], [], [], []) (0, -1)).1, (stXs tp (tksV tn tp) (gTx (kdp (tksV tn tp)) 400 0).2.2 ([], [], [], []) (0, -1)).2, stBs tp (tksV tn tp) (gTx (kdp (tksV tn tp)) 400 0).2.2 ([], [], [], []))
  else (1, ix (tkn (tksV tn tp) (gTx (kdp (tksV tn tp)) 400 0).2.1).2.1, [], [], [], [])
