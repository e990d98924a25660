/-! The class reads a planet, an alphabet, a rule. -/
def OX (w : hp_W) (r tpA dr tn : Nat) (tp : Nat → Int32) (L : List tokV) (h0 : hp_M) (ok : Bool) (q : Nat) (x : Int32 × Int32) (B : bkV) (z : Option (Int32 × hp_M)) : Prop :=
  (ok = true → ∃ h' lt', z = some (1, h') ∧ CR w r tpA dr tn tp L h0 h' q x.1 x.2 lt' B) ∧ (ok = false → ∃ h' e' ep' lt' B', z = some (0, h') ∧ CR w r tpA dr tn tp L h0 h' q e' ep' lt' B')
def nb (tp : Nat → Int32) (L : List tokV) (i : Nat) : Int32 := nvL 0 (tbt tp L i)
def bl (x : Int32 × Int32) (k : Int32) (L : List tokV) (i : Nat) : Int32 × Int32 := (blE x.1 k, blP x.1 x.2 (ix (tkn L i).2.1))
def erN (tp : Nat → Int32) (L : List tokV) (x : Int32 × Int32) (i : Nat) (lo hi : Int32) : Int32 × Int32 := if nb tp L i < lo ∨ ¬ nb tp L i ≤ hi then bl x 5 L i else x
/-- a new name: told already, or no room -/
def erK (L : List tokV) (x : Int32 × Int32) (i : Nat) (u : Nat) (full : Bool) : Int32 × Int32 := if full = true then bl (if unk u then x else bl x 2 L i) 4 L i else (if unk u then x else bl x 2 L i)
def gPl2 (K : Nat → Nat) (a q : Nat) : Bool × Nat × Nat × Nat := if K q = 8 then (if K (q + 1) = 3 then (if K (q + 2) = 9 then (if K (q + 3) = 3 then (if K (q + 4) = 30 then (true, q + 5, a, q + 1) else (false, q + 4, 0, 0)) else (false, q + 3, 0, 0)) else (false, q + 2, 0, 0)) else (false, q + 1, 0, 0)) else if K q = 30 then (true, q + 1, a, 0) else (false, q, 0, 0)
def gPl (K : Nat → Nat) (p : Nat) : Bool × Nat × Nat × Nat := if K (p + 1) = 2 then (if K (p + 2) = 5 then (if K (p + 3) = 3 then (if K (p + 4) = 6 then (if K (p + 5) = 3 then (if K (p + 6) = 7 then (if K (p + 7) = 3 then gPl2 K (p + 7) (p + 8) else (false, p + 7, 0, 0)) else gPl2 K 0 (p + 6)) else (false, p + 5, 0, 0)) else (false, p + 4, 0, 0)) else (false, p + 3, 0, 0)) else (false, p + 2, 0, 0)) else (false, p + 1, 0, 0)
def plX1 (B : bkV) (tp : Nat → Int32) (L : List tokV) (x : Int32 × Int32) (p : Nat) : Int32 × Int32 := erN tp L (erN tp L (erK L x (p + 1) (lkP B tp L (p + 1)) (decide (8 ≤ B.1.length))) (p + 3) 1 20) (p + 5) 1 60
def plX2 (tp : Nat → Int32) (L : List tokV) (x : Int32 × Int32) (b : Nat) : Int32 × Int32 := if b = 0 then x else erN tp L (erN tp L x b 0 29) (b + 2) (nb tp L b + 1) 60
def plX (B : bkV) (tp : Nat → Int32) (L : List tokV) (x : Int32 × Int32) (p a b : Nat) : Int32 × Int32 := plX2 tp L (if a = 0 then plX1 B tp L x p else erN tp L (plX1 B tp L x p) a 0 359) b
def plV (tp : Nat → Int32) (L : List tokV) (p a b : Nat) : Nat → Int32 := tl (nb tp L (p + 3)) (nb tp L (p + 5)) (if a = 0 then 0 else nb tp L a) (if b = 0 then 0 else nb tp L b) (if b = 0 then 1 else nb tp L (b + 2))
def plB (B : bkV) (tp : Nat → Int32) (L : List tokV) (p a b : Nat) : bkV := (if B.1.length < 8 then B.1 ++ [(wcL 0 (tbt tp L (p + 1)), plV tp L p a b)] else B.1, B.2.1, B.2.2.1, B.2.2.2)
section
variable {w : hp_W} {r tpA dr tn : Nat} {tp : Nat → Int32} {L : List tokV} {h0 h : hp_M} {p : Nat} {x : Int32 × Int32} {lt : Int32} {B : bkV}
theorem OX.ok {q : Nat} {z : Option (Int32 × hp_M)} {h' : hp_M} (e : z = some (1, h')) (c : CR w r tpA dr tn tp L h0 h' q x.1 x.2 lt B) : OX w r tpA dr tn tp L h0 true q x B z := ⟨fun _ => ⟨h', lt, e, c⟩, fun q => by cases q⟩
theorem OX.no {q : Nat} {z : Option (Int32 × hp_M)} {h' : hp_M} {e' ep' lt' : Int32} {B' : bkV} (e : z = some (0, h')) (c : CR w r tpA dr tn tp L h0 h' q e' ep' lt' B') : OX w r tpA dr tn tp L h0 false q x B z := ⟨(fun q => by cases q), fun _ => ⟨h', e', ep', lt', B', e, c⟩⟩
theorem CR.num (c : CR w r tpA dr tn tp L h0 h p x.1 x.2 lt B) (ow : okW w) (lo hi : Int32) (hk : kdp L p = 3) : ∃ h', onO h r 5 (f_Rd_readNumber w r lo hi h) = some (1, h') ∧ CR w r tpA dr tn tp L h0 h' (p + 1) (erN tp L x p lo hi).1 (erN tp L x p lo hi).2 (nb tp L p) B := by
  rw [c.on]
  obtain ⟨h1, e1, c1⟩ := c.late (nb tp L p)
  have fin : ∀ (y : Int32 × Int32) h2, CR w r tpA dr tn tp L h0 h2 p y.1 y.2 (nb tp L p) B → ∃ h', ((gR h2 r 5 0).bind fun v14 => (onO h2 v14 6 (f_Sc_take v14 (w_kd w 3) h2)).bind fun r15 => some (r15.1, r15.2)) = some (1, h') ∧ CR w r tpA dr tn tp L h0 h' (p + 1) y.1 y.2 (nb tp L p) B := by
    intro y h2 c2
    obtain ⟨h3, e3, c3⟩ := c2.takeY ow (k := 3) (by omega) (by omega) hk
    exact ⟨h3, bnd c2.r0 (bnd e3 rfl), c3⟩
  unfold f_Rd_readNumber erN
  by_cases z : nb tp L p < lo ∨ ¬ nb tp L p ≤ hi
  · rw [if_pos z]
    obtain ⟨h2, e2, c2⟩ := c1.blame 5 (ix (tkn L p).2.1)
    obtain ⟨h3, e3, c3⟩ := fin (bl x 5 L p) h2 c2
    refine ⟨h3, ?_, c3⟩
    have bad : ((gR h1 r 5 0).bind fun v23 => (onO h1 v23 6 (f_Sc_start v23 h1)).bind fun r24 => (onO h1 r 5 (f_Rd_blame r 5 r24 h1)).bind fun h25 => (gR h25 r 5 0).bind fun v14 => (onO h25 v14 6 (f_Sc_take v14 (w_kd w 3) h25)).bind fun r15 => some (r15.1, r15.2)) = some (1, h3) := bnd c1.r0 (bnd c1.start (bnd e2 e3))
    refine bnd c.r0 ?_
    refine bnd (c.isY ow (by omega) hk) ?_
    refine ite_n z10 ?_
    refine jnE ?_
    refine jnE ?_
    refine bnd c.r0 ?_
    refine bnd (c.numb hk) ?_
    refine bnd e1 ?_
    refine bnd c1.r5 ?_
    by_cases y : nb tp L p < lo
    · exact ite_p y bad
    · refine ite_n y ?_
      refine bnd c1.r5 ?_
      exact ite_n (fun q => z.elim y (fun z => z q)) bad
  · rw [if_neg z]
    obtain ⟨h3, e3, c3⟩ := fin x h1 c1
    refine ⟨h3, ?_, c3⟩
    refine bnd c.r0 ?_
    refine bnd (c.isY ow (by omega) hk) ?_
    refine ite_n z10 ?_
    refine jnE ?_
    refine jnE ?_
    refine bnd c.r0 ?_
    refine bnd (c.numb hk) ?_
    refine bnd e1 ?_
    refine bnd c1.r5 ?_
    refine ite_n (fun q => z (Or.inl q)) ?_
    refine bnd c1.r5 ?_
    exact ite_p (Classical.byContradiction fun q => z (Or.inr q)) e3
theorem CR.numN (c : CR w r tpA dr tn tp L h0 h p x.1 x.2 lt B) (ow : okW w) (lo hi : Int32) (hk : kdp L p ≠ 3) : onO h r 5 (f_Rd_readNumber w r lo hi h) = some (0, h) := by
  rw [c.on]
  unfold f_Rd_readNumber
  exact bnd c.r0 (bnd (c.isN ow (by omega) hk) (ite_p rfl rfl))
theorem CR.check (c : CR w r tpA dr tn tp L h0 h p x.1 x.2 lt B) {u : Nat} (ng : (0 ≤ ix u) ↔ ¬ unk u) {full : Bool} {y : Int32} (hy : y = if full = true then 0 else 1) : ∃ h', onO h r 5 (f_Rd_checkNewName r (ix u) y h) = some h' ∧ CR w r tpA dr tn tp L h0 h' p (erK L x p u full).1 (erK L x p u full).2 lt B := by
  rw [c.on]
  have fin : ∀ (z : Int32 × Int32) h2, CR w r tpA dr tn tp L h0 h2 p z.1 z.2 lt B → ∃ h', (if y = 0 then ((gR h2 r 5 0).bind fun v7 => (onO h2 v7 6 (f_Sc_start v7 h2)).bind fun r8 => (onO h2 r 5 (f_Rd_blame r 4 r8 h2)).bind fun h9 => some h9) else (some h2)) = some h' ∧ CR w r tpA dr tn tp L h0 h' p (if full = true then bl z 4 L p else z).1 (if full = true then bl z 4 L p else z).2 lt B := by
    intro z h2 c2
    by_cases q : full = true
    · rw [if_pos q]
      obtain ⟨h3, e3, c3⟩ := c2.blame 4 (ix (tkn L p).2.1)
      exact ⟨h3, ite_p (by rw [hy, if_pos q]) (bnd c2.r0 (bnd c2.start (bnd e3 rfl))), c3⟩
    · rw [if_neg q]
      exact ⟨h2, ite_n (by rw [hy, if_neg q]; decide) rfl, c2⟩
  unfold f_Rd_checkNewName erK
  by_cases z : unk u
  · rw [if_pos z]
    obtain ⟨h3, e3, c3⟩ := fin x h c
    refine ⟨h3, ?_, c3⟩
    refine jnE ?_
    exact ite_p (show ix u < 0 from by rw [show u = 4294967295 from z]; decide) e3
  · rw [if_neg z]
    obtain ⟨h2, e2, c2⟩ := c.blame 2 (ix (tkn L p).2.1)
    obtain ⟨h3, e3, c3⟩ := fin (bl x 2 L p) h2 c2
    refine ⟨h3, ?_, c3⟩
    refine jnE ?_
    refine ite_n (show ¬ ix u < 0 from fun q => by have := ng.mpr z; rw [i32_le, i32_z] at this; rw [i32_lt, i32_z] at q; omega) ?_
    exact bnd c.r0 (bnd c.start (bnd e2 e3))
theorem planet_of (ow : okW w) {fl : Nat} (hfl : 5000 ≤ fl) (c : CR w r tpA dr tn tp L h0 h p x.1 x.2 lt B) (hk : kdp L p = 4) : OX w r tpA dr tn tp L h0 (gPl (kdp L) p).1 (gPl (kdp L) p).2.1 (plX B tp L x p (gPl (kdp L) p).2.2.1 (gPl (kdp L) p).2.2.2) (plB B tp L p (gPl (kdp L) p).2.2.1 (gPl (kdp L) p).2.2.2) (onO h r 5 (f_Rd_readPlanet w fl r h)) := by
  have pL := c.pL
  rw [c.on]
  unfold f_Rd_readPlanet gPl
  refine dg_b c.r0 ?_
  obtain ⟨h1, e1, c1⟩ := c.takeY ow (k := 4) (by omega) (by omega) hk
  refine dg_b e1 ?_
  refine dg_n z10 ?_
  refine dg_b c1.r0 ?_
  by_cases k1 : kdp L (p + 1) = 2
  case neg =>
    rw [if_neg k1]
    refine dg_b (c1.isN ow (by omega) k1) ?_
    refine dg_p rfl ?_
    exact OX.no rfl c1
  rw [if_pos k1]
  refine dg_b (c1.isY ow (by omega) k1) ?_
  refine dg_n z10 ?_
  refine dg_j ?_
  have h8 : B.1.length ≤ 8 := c1.bk.2.1.1
  have en : f_Bk_planetNamed fl dr (wcL 0 (tbt tp L (p + 1))) h1 = some (ix (lkP B tp L (p + 1))) := plNamed c1.bk hfl _
  have ng : (0 ≤ ix (lkP B tp L (p + 1))) ↔ ¬ unk (lkP B tp L (p + 1)) := neg_unk (by simp; omega)
  refine dg_b c1.r0 ?_
  refine dg_b (c1.word k1) ?_
  refine dg_b c1.r2 ?_
  refine dg_b ((c1.bon _).trans en) ?_
  refine dg_b c1.r2 ?_
  refine dg_b ((c1.bon _).trans (is_Bk.planets c1.bk)) ?_
  -- the rest, behind the check of the name
  have rest : ∀ y : Int32, y = (if decide (8 ≤ B.1.length) = true then 0 else 1) → OX w r tpA dr tn tp L h0 (if kdp L (p + 2) = 5 then (if kdp L (p + 3) = 3 then (if kdp L (p + 4) = 6 then (if kdp L (p + 5) = 3 then (if kdp L (p + 6) = 7 then (if kdp L (p + 7) = 3 then gPl2 (kdp L) (p + 7) (p + 8) else (false, p + 7, 0, 0)) else gPl2 (kdp L) 0 (p + 6)) else (false, p + 5, 0, 0)) else (false, p + 4, 0, 0)) else (false, p + 3, 0, 0)) else (false, p + 2, 0, 0)).1 (if kdp L (p + 2) = 5 then (if kdp L (p + 3) = 3 then (if kdp L (p + 4) = 6 then (if kdp L (p + 5) = 3 then (if kdp L (p + 6) = 7 then (if kdp L (p + 7) = 3 then gPl2 (kdp L) (p + 7) (p + 8) else (false, p + 7, 0, 0)) else gPl2 (kdp L) 0 (p + 6)) else (false, p + 5, 0, 0)) else (false, p + 4, 0, 0)) else (false, p + 3, 0, 0)) else (false, p + 2, 0, 0)).2.1 (plX B tp L x p (if kdp L (p + 2) = 5 then (if kdp L (p + 3) = 3 then (if kdp L (p + 4) = 6 then (if kdp L (p + 5) = 3 then (if kdp L (p + 6) = 7 then (if kdp L (p + 7) = 3 then gPl2 (kdp L) (p + 7) (p + 8) else (false, p + 7, 0, 0)) else gPl2 (kdp L) 0 (p + 6)) else (false, p + 5, 0, 0)) else (false, p + 4, 0, 0)) else (false, p + 3, 0, 0)) else (false, p + 2, 0, 0)).2.2.1 (if kdp L (p + 2) = 5 then (if kdp L (p + 3) = 3 then (if kdp L (p + 4) = 6 then (if kdp L (p + 5) = 3 then (if kdp L (p + 6) = 7 then (if kdp L (p + 7) = 3 then gPl2 (kdp L) (p + 7) (p + 8) else (false, p + 7, 0, 0)) else gPl2 (kdp L) 0 (p + 6)) else (false, p + 5, 0, 0)) else (false, p + 4, 0, 0)) else (false, p + 3, 0, 0)) else (false, p + 2, 0, 0)).2.2.2) (plB B tp L p (if kdp L (p + 2) = 5 then (if kdp L (p + 3) = 3 then (if kdp L (p + 4) = 6 then (if kdp L (p + 5) = 3 then (if kdp L (p + 6) = 7 then (if kdp L (p + 7) = 3 then gPl2 (kdp L) (p + 7) (p + 8) else (false, p + 7, 0, 0)) else gPl2 (kdp L) 0 (p + 6)) else (false, p + 5, 0, 0)) else (false, p + 4, 0, 0)) else (false, p + 3, 0, 0)) else (false, p + 2, 0, 0)).2.2.1 (if kdp L (p + 2) = 5 then (if kdp L (p + 3) = 3 then (if kdp L (p + 4) = 6 then (if kdp L (p + 5) = 3 then (if kdp L (p + 6) = 7 then (if kdp L (p + 7) = 3 then gPl2 (kdp L) (p + 7) (p + 8) else (false, p + 7, 0, 0)) else gPl2 (kdp L) 0 (p + 6)) else (false, p + 5, 0, 0)) else (false, p + 4, 0, 0)) else (false, p + 3, 0, 0)) else (false, p + 2, 0, 0)).2.2.2) ((fun (u14 : Int64) (u15 : Int32) (u16 : Int32) (u17 : Nat) => (onO h1 u17 5 (f_Rd_checkNewName u17 u16 u15 h1)).bind fun h18 => (gR h18 r 5 0).bind fun v19 => (onO h18 v19 6 (f_Sc_take v19 (w_kd w 2) h18)).bind fun r20 => if r20.1 = 0 then (some (0, r20.2)) else ((gR r20.2 r 5 0).bind fun v22 => (onO r20.2 v22 6 (f_Sc_take v22 (w_kd w 5) r20.2)).bind fun r23 => if r23.1 = 0 then (some (0, r23.2)) else ((onO r23.2 r 5 (f_Rd_readNumber w r 1 20 r23.2)).bind fun r25 => if r25.1 = 0 then (some (0, r25.2)) else ((gI r25.2 r 5 5).bind fun v27 => (gR r25.2 r 5 0).bind fun v28 => (onO r25.2 v28 6 (f_Sc_take v28 (w_kd w 6) r25.2)).bind fun r29 => if r29.1 = 0 then (some (0, r29.2)) else ((onO r29.2 r 5 (f_Rd_readNumber w r 1 60 r29.2)).bind fun r31 => if r31.1 = 0 then (some (0, r31.2)) else (jn (fun (u41 : Int32) (u42 : Int32) (h43 : hp_M) => jn (fun (u55 : Int32) (u56 : Int32) (h57 : hp_M) => (gR h57 r 5 2).bind fun v58 => (onO h57 v58 1 (f_Bk_addPlanet v58 u14 v27 u41 u42 u55 u56 h57)).bind fun h59 => (gR h59 r 5 0).bind fun v60 => (onO h59 v60 6 (f_Sc_take v60 (w_kd w 30) h59)).bind fun r61 => some (r61.1, r61.2)) fun (j54 : Int32 → Int32 → hp_M → Option (Int32 × hp_M)) => (gR h43 r 5 0).bind fun v62 => (onO h43 v62 6 (f_Sc_isAt v62 (w_kd w 8) h43)).bind fun r63 => if r63 = 0 then (j54 0 1 h43) else ((gR h43 r 5 0).bind fun v65 => (onO h43 v65 6 (f_Sc_take v65 (w_kd w 8) h43)).bind fun r66 => if r66.1 = 0 then (some (0, r66.2)) else ((onO r66.2 r 5 (f_Rd_readNumber w r 0 29 r66.2)).bind fun r68 => if r68.1 = 0 then (some (0, r68.2)) else ((gI r68.2 r 5 5).bind fun v70 => (gR r68.2 r 5 0).bind fun v71 => (onO r68.2 v71 6 (f_Sc_take v71 (w_kd w 9) r68.2)).bind fun r72 => if r72.1 = 0 then (some (0, r72.2)) else ((onO r72.2 r 5 (f_Rd_readNumber w r (v70 + 1) 60 r72.2)).bind fun r74 => if r74.1 = 0 then (some (0, r74.2)) else ((gI r74.2 r 5 5).bind fun v76 => j54 v70 v76 r74.2)))))) fun (j40 : Int32 → Int32 → hp_M → Option (Int32 × hp_M)) => (gI r31.2 r 5 5).bind fun v77 => (gR r31.2 r 5 0).bind fun v78 => (onO r31.2 v78 6 (f_Sc_isAt v78 (w_kd w 7) r31.2)).bind fun r79 => if r79 = 0 then (j40 v77 0 r31.2) else ((gR r31.2 r 5 0).bind fun v81 => (onO r31.2 v81 6 (f_Sc_take v81 (w_kd w 7) r31.2)).bind fun r82 => if r82.1 = 0 then (some (0, r82.2)) else ((onO r82.2 r 5 (f_Rd_readNumber w r 0 359 r82.2)).bind fun r84 => if r84.1 = 0 then (some (0, r84.2)) else ((gI r84.2 r 5 5).bind fun v86 => j40 v77 v86 r84.2))))))))) (wcL 0 (tbt tp L (p + 1))) y (ix (lkP B tp L (p + 1))) r) := by
    intro y hy
    obtain ⟨h2, e2, c2⟩ := c1.check ng (full := decide (8 ≤ B.1.length)) hy
    refine dg_b e2 ?_
    refine dg_b c2.r0 ?_
    obtain ⟨h3, e3, c3⟩ := c2.takeY ow (k := 2) (by omega) (by omega) k1
    refine dg_b e3 ?_
    refine dg_n z10 ?_
    refine dg_b c3.r0 ?_
    by_cases k2 : kdp L (p + 2) = 5
    case neg =>
      rw [if_neg k2]
      refine dg_b (c3.takeN ow (by omega) k2) ?_
      refine dg_p rfl ?_
      exact OX.no rfl c3
    rw [if_pos k2]
    obtain ⟨h4, e4, c4⟩ := c3.takeY ow (k := 5) (by omega) (by omega) k2
    refine dg_b e4 ?_
    refine dg_n z10 ?_
    by_cases k3 : kdp L (p + 3) = 3
    case neg =>
      rw [if_neg k3]
      refine dg_b (c4.numN ow 1 20 k3) ?_
      refine dg_p rfl ?_
      exact OX.no rfl c4
    rw [if_pos k3]
    obtain ⟨h5, e5, c5⟩ := c4.num ow 1 20 k3
    refine dg_b e5 ?_
    refine dg_n z10 ?_
    refine dg_b c5.r5 ?_
    refine dg_b c5.r0 ?_
    by_cases k4 : kdp L (p + 4) = 6
    case neg =>
      rw [if_neg k4]
      refine dg_b (c5.takeN ow (by omega) k4) ?_
      refine dg_p rfl ?_
      exact OX.no rfl c5
    rw [if_pos k4]
    obtain ⟨h6, e6, c6⟩ := c5.takeY ow (k := 6) (by omega) (by omega) k4
    refine dg_b e6 ?_
    refine dg_n z10 ?_
    by_cases k5 : kdp L (p + 5) = 3
    case neg =>
      rw [if_neg k5]
      refine dg_b (c6.numN ow 1 60 k5) ?_
      refine dg_p rfl ?_
      exact OX.no rfl c6
    rw [if_pos k5]
    obtain ⟨h7, e7, c7⟩ := c6.num ow 1 60 k5
    refine dg_b e7 ?_
    refine dg_n z10 ?_
    refine dg_j ?_
    -- behind the angle
    have tail : ∀ (a q : Nat) (x2 : Int32 × Int32) (A : Int32) (h8 : hp_M) (lt8 : Int32), x2 = (if a = 0 then plX1 B tp L x p else erN tp L (plX1 B tp L x p) a 0 359) → A = (if a = 0 then 0 else nb tp L a) → CR w r tpA dr tn tp L h0 h8 q x2.1 x2.2 lt8 B → OX w r tpA dr tn tp L h0 (gPl2 (kdp L) a q).1 (gPl2 (kdp L) a q).2.1 (plX B tp L x p (gPl2 (kdp L) a q).2.2.1 (gPl2 (kdp L) a q).2.2.2) (plB B tp L p (gPl2 (kdp L) a q).2.2.1 (gPl2 (kdp L) a q).2.2.2) (jn (fun (u55 : Int32) (u56 : Int32) (h57 : hp_M) => (gR h57 r 5 2).bind fun v58 => (onO h57 v58 1 (f_Bk_addPlanet v58 (wcL 0 (tbt tp L (p + 1))) (nb tp L (p + 3)) (nb tp L (p + 5)) A u55 u56 h57)).bind fun h59 => (gR h59 r 5 0).bind fun v60 => (onO h59 v60 6 (f_Sc_take v60 (w_kd w 30) h59)).bind fun r61 => some (r61.1, r61.2)) fun (j54 : Int32 → Int32 → hp_M → Option (Int32 × hp_M)) => (gR h8 r 5 0).bind fun v62 => (onO h8 v62 6 (f_Sc_isAt v62 (w_kd w 8) h8)).bind fun r63 => if r63 = 0 then (j54 0 1 h8) else ((gR h8 r 5 0).bind fun v65 => (onO h8 v65 6 (f_Sc_take v65 (w_kd w 8) h8)).bind fun r66 => if r66.1 = 0 then (some (0, r66.2)) else ((onO r66.2 r 5 (f_Rd_readNumber w r 0 29 r66.2)).bind fun r68 => if r68.1 = 0 then (some (0, r68.2)) else ((gI r68.2 r 5 5).bind fun v70 => (gR r68.2 r 5 0).bind fun v71 => (onO r68.2 v71 6 (f_Sc_take v71 (w_kd w 9) r68.2)).bind fun r72 => if r72.1 = 0 then (some (0, r72.2)) else ((onO r72.2 r 5 (f_Rd_readNumber w r (v70 + 1) 60 r72.2)).bind fun r74 => if r74.1 = 0 then (some (0, r74.2)) else ((gI r74.2 r 5 5).bind fun v76 => j54 v70 v76 r74.2)))))) := by
      intro a q x2 A h8 lt8 hx2 hA c8
      refine dg_j ?_
      refine dg_b c8.r0 ?_
      have fin : ∀ (b : Nat) (h9 : hp_M) (q9 : Nat) (x9 : Int32 × Int32) (lt9 u v : Int32), x9 = plX B tp L x p a b → u = (if b = 0 then 0 else nb tp L b) → v = (if b = 0 then 1 else nb tp L (b + 2)) → CR w r tpA dr tn tp L h0 h9 q9 x9.1 x9.2 lt9 B → OX w r tpA dr tn tp L h0 (if kdp L q9 = 30 then (true, q9 + 1, a, b) else (false, q9, 0, 0)).1 (if kdp L q9 = 30 then (true, q9 + 1, a, b) else (false, q9, 0, 0)).2.1 (plX B tp L x p (if kdp L q9 = 30 then (true, q9 + 1, a, b) else (false, q9, 0, 0)).2.2.1 (if kdp L q9 = 30 then (true, q9 + 1, a, b) else (false, q9, 0, 0)).2.2.2) (plB B tp L p (if kdp L q9 = 30 then (true, q9 + 1, a, b) else (false, q9, 0, 0)).2.2.1 (if kdp L q9 = 30 then (true, q9 + 1, a, b) else (false, q9, 0, 0)).2.2.2) ((gR h9 r 5 2).bind fun v58 => (onO h9 v58 1 (f_Bk_addPlanet v58 (wcL 0 (tbt tp L (p + 1))) (nb tp L (p + 3)) (nb tp L (p + 5)) A u v h9)).bind fun h59 => (gR h59 r 5 0).bind fun v60 => (onO h59 v60 6 (f_Sc_take v60 (w_kd w 30) h59)).bind fun r61 => some (r61.1, r61.2)) := by
        intro b h9 q9 x9 lt9 u v hx9 hu hv c9
        refine dg_b c9.r2 ?_
        obtain ⟨h10, e10, b10, f10, z10'⟩ := is_Bk.addPl c9.bk (wcL 0 (tbt tp L (p + 1))) (nb tp L (p + 3)) (nb tp L (p + 5)) A u v
        have b10' : is_BK h10 dr (plB B tp L p a b) := by
          unfold plB plV
          rw [← hA, ← hu, ← hv]
          exact b10
        have c10 := c9.book b10' f10 z10'
        refine dg_b ((c9.bon _).trans e10) ?_
        refine dg_b c10.r0 ?_
        by_cases y : kdp L q9 = 30
        · rw [if_pos y]
          obtain ⟨h11, e11, c11⟩ := c10.takeY ow (k := 30) (by omega) (by omega) y
          refine dg_b e11 ?_
          rw [hx9] at c11
          exact OX.ok rfl c11
        · rw [if_neg y]
          refine dg_b (c10.takeN ow (by omega) y) ?_
          exact OX.no rfl c10
      unfold gPl2
      by_cases y : kdp L q = 8
      case neg =>
        rw [if_neg y]
        refine dg_b (c8.isN ow (by omega) y) ?_
        refine dg_p rfl ?_
        exact fin 0 h8 q x2 lt8 0 1 (by unfold plX plX2; rw [if_pos rfl, hx2]) (by rw [if_pos rfl]) (by rw [if_pos rfl]) c8
      rw [if_pos y]
      refine dg_b (c8.isY ow (by omega) y) ?_
      refine dg_n z10 ?_
      refine dg_b c8.r0 ?_
      obtain ⟨h9, e9, c9⟩ := c8.takeY ow (k := 8) (by omega) (by omega) y
      refine dg_b e9 ?_
      refine dg_n z10 ?_
      by_cases y1 : kdp L (q + 1) = 3
      case neg =>
        rw [if_neg y1]
        refine dg_b (c9.numN ow 0 29 y1) ?_
        refine dg_p rfl ?_
        exact OX.no rfl c9
      rw [if_pos y1]
      obtain ⟨h10, e10, c10⟩ := c9.num ow 0 29 y1
      refine dg_b e10 ?_
      refine dg_n z10 ?_
      refine dg_b c10.r5 ?_
      refine dg_b c10.r0 ?_
      by_cases y2 : kdp L (q + 2) = 9
      case neg =>
        rw [if_neg y2]
        refine dg_b (c10.takeN ow (by omega) y2) ?_
        refine dg_p rfl ?_
        exact OX.no rfl c10
      rw [if_pos y2]
      obtain ⟨h11, e11, c11⟩ := c10.takeY ow (k := 9) (by omega) (by omega) y2
      refine dg_b e11 ?_
      refine dg_n z10 ?_
      by_cases y3 : kdp L (q + 3) = 3
      case neg =>
        rw [if_neg y3]
        refine dg_b (c11.numN ow _ 60 y3) ?_
        refine dg_p rfl ?_
        exact OX.no rfl c11
      rw [if_pos y3]
      obtain ⟨h12, e12, c12⟩ := c11.num ow (nb tp L (q + 1) + 1) 60 y3
      refine dg_b e12 ?_
      refine dg_n z10 ?_
      refine dg_b c12.r5 ?_
      exact fin (q + 1) h12 (q + 4) _ _ _ _ (by unfold plX plX2; rw [if_neg (by omega), ← hx2]) (by rw [if_neg (by omega)]) (by rw [if_neg (by omega)]) c12
    refine dg_b c7.r5 ?_
    refine dg_b c7.r0 ?_
    by_cases k6 : kdp L (p + 6) = 7
    case neg =>
      rw [if_neg k6]
      refine dg_b (c7.isN ow (by omega) k6) ?_
      refine dg_p rfl ?_
      exact tail 0 (p + 6) _ 0 h7 _ (by rw [if_pos rfl]; rfl) (by rw [if_pos rfl]) c7
    rw [if_pos k6]
    refine dg_b (c7.isY ow (by omega) k6) ?_
    refine dg_n z10 ?_
    refine dg_b c7.r0 ?_
    obtain ⟨h8, e8, c8⟩ := c7.takeY ow (k := 7) (by omega) (by omega) k6
    refine dg_b e8 ?_
    refine dg_n z10 ?_
    by_cases k7 : kdp L (p + 7) = 3
    case neg =>
      rw [if_neg k7]
      refine dg_b (c8.numN ow 0 359 k7) ?_
      refine dg_p rfl ?_
      exact OX.no rfl c8
    rw [if_pos k7]
    obtain ⟨h9, e9, c9⟩ := c8.num ow 0 359 k7
    refine dg_b e9 ?_
    refine dg_n z10 ?_
    refine dg_b c9.r5 ?_
    exact tail (p + 7) (p + 8) _ _ h9 _ (by rw [if_neg (by omega)]; rfl) (by rw [if_neg (by omega)]) c9
  by_cases z : 8 ≤ B.1.length
  · refine dg_p (show (8 : Int32) ≤ ix B.1.length from ix_le1 (i := 8) z (by omega)) ?_
    exact rest 0 (by rw [if_pos (decide_eq_true z)])
  · refine dg_n (show ¬ (8 : Int32) ≤ ix B.1.length from ix_nle (n := B.1.length) (i := 8) (by omega) (by omega)) ?_
    exact rest 1 (by rw [if_neg (by rw [decide_eq_true_eq]; exact z)])
end
