/-! The class's reader follows the grammar: what it leaves. -/
theorem ix_bv (x : Int32) : ix x.toBitVec.toNat = x := by
  apply Int32.toBitVec_inj.mp
  show BitVec.ofNat 32 x.toBitVec.toNat = x.toBitVec
  simp
def nuN (tp : Nat → Int32) (L : List tokV) (i : Nat) : Nat := (nvL 0 (tbt tp L i)).toBitVec.toNat
def itm (B : bkV) (tp : Nat → Int32) (L : List tokV) (q : evV) : Nat × Nat × Nat :=
  if q.1 = 0 then (0, nuN tp L q.2.1, 0) else if q.1 = 3 ∨ q.1 = 4 ∨ q.1 = 6 then (q.1, lkP B tp L q.2.1, 0) else if q.1 = 5 ∨ q.1 = 7 ∨ q.1 = 8 then (q.1, lkP B tp L q.2.1, lkP B tp L q.2.2) else q
def er1 (B : bkV) (tp : Nat → Int32) (L : List tokV) (x : Int32 × Int32) (i : Nat) : Int32 × Int32 := (if unk (lkP B tp L i) then blE x.1 3 else x.1, if unk (lkP B tp L i) then blP x.1 x.2 (ix (tkn L i).2.1) else x.2)
def er6 (B : bkV) (tp : Nat → Int32) (L : List tokV) (x : Int32 × Int32) (i j : Nat) : Int32 × Int32 := if ix (lkP B tp L j) = ix (lkP B tp L i) then (blE x.1 6, blP x.1 x.2 (ix (tkn L j).2.1)) else x
def erF (B : bkV) (tp : Nat → Int32) (L : List tokV) (x : Int32 × Int32) (q : evV) : Int32 × Int32 :=
  if q.1 = 3 ∨ q.1 = 4 ∨ q.1 = 6 then er1 B tp L x q.2.1 else if q.1 = 5 ∨ q.1 = 7 ∨ q.1 = 8 then er6 B tp L (er1 B tp L (er1 B tp L x q.2.1) q.2.2) q.2.1 q.2.2 else x
def erL (B : bkV) (tp : Nat → Int32) (L : List tokV) (x : Int32 × Int32) (l : List evV) : Int32 × Int32 := l.foldl (erF B tp L) x
def addL (B : bkV) (tp : Nat → Int32) (L : List tokV) (l : List evV) : bkV := (B.1, B.2.1, B.2.2.1 ++ l.map (itm B tp L), B.2.2.2)
theorem erL_app (B : bkV) (tp : Nat → Int32) (L : List tokV) (x : Int32 × Int32) (l m : List evV) : erL B tp L x (l ++ m) = erL B tp L (erL B tp L x l) m := List.foldl_append
theorem addL_app (B : bkV) (tp : Nat → Int32) (L : List tokV) (l m : List evV) : addL (addL B tp L l) tp L m = addL B tp L (l ++ m) := by
  show (B.1, B.2.1, (B.2.2.1 ++ l.map (itm B tp L)) ++ m.map (itm B tp L), B.2.2.2) = _
  unfold addL
  rw [List.map_append, List.append_assoc]
theorem addL_nil (B : bkV) (tp : Nat → Int32) (L : List tokV) : addL B tp L [] = B := by
  unfold addL
  rw [List.map_nil, List.append_nil]
theorem addI_L (B : bkV) (tp : Nat → Int32) (L : List tokV) (q : evV) : addI B (itm B tp L q) = addL B tp L [q] := rfl
/-- steps without names or numbers -/
def pln (k : Nat) : Prop := k ≠ 0 ∧ ¬ (k = 3 ∨ k = 4 ∨ k = 6) ∧ ¬ (k = 5 ∨ k = 7 ∨ k = 8)
theorem itm_pln {k : Nat} (h : pln k) (B : bkV) (tp : Nat → Int32) (L : List tokV) : itm B tp L (k, 0, 0) = (k, 0, 0) := by
  unfold itm
  rw [if_neg h.1, if_neg h.2.1, if_neg h.2.2]
theorem erF_pln {k : Nat} (h : pln k) (B : bkV) (tp : Nat → Int32) (L : List tokV) (x : Int32 × Int32) (u v : Nat) : erF B tp L x (k, u, v) = x := by
  unfold erF
  rw [if_neg h.2.1, if_neg h.2.2]
theorem stp_pln : ∀ k, k < 42 → (opPro k = true ∨ opSum k = true ∨ opAnd k = true ∨ opOr k = true ∨ 37 ≤ k ∨ k = 24 ∨ k = 25 ∨ k = 19 ∨ k = 20) → stp k ≠ 0 ∧ ¬ (stp k = 3 ∨ stp k = 4 ∨ stp k = 6) ∧ ¬ (stp k = 5 ∨ stp k = 7 ∨ stp k = 8) := by decide +kernel
def OC (w : hp_W) (r tpA dr tn : Nat) (tp : Nat → Int32) (L : List tokV) (h0 : hp_M) (res : resV) (x : Int32 × Int32) (B : bkV) (z : Option (Int32 × hp_M)) : Prop :=
  (res.1 = true → ∃ h' lt', z = some (1, h') ∧ CR w r tpA dr tn tp L h0 h' res.2.1 (erL B tp L x res.2.2).1 (erL B tp L x res.2.2).2 lt' (addL B tp L res.2.2)) ∧ (res.1 = false → ∃ h' e' ep' lt' B', z = some (0, h') ∧ CR w r tpA dr tn tp L h0 h' res.2.1 e' ep' lt' B')
section
variable {w : hp_W} {r tpA dr tn : Nat} {tp : Nat → Int32} {L : List tokV} {h0 h : hp_M} {p : Nat} {x : Int32 × Int32} {lt : Int32} {B : bkV}
theorem OC.ok {l : List evV} {q : Nat} {z : Option (Int32 × hp_M)} {h' : hp_M} (e : z = some (1, h')) (c : CR w r tpA dr tn tp L h0 h' q (erL B tp L x l).1 (erL B tp L x l).2 lt (addL B tp L l)) : OC w r tpA dr tn tp L h0 (true, q, l) x B z := ⟨fun _ => ⟨h', lt, e, c⟩, fun q => by cases q⟩
theorem OC.ok0 {z : Option (Int32 × hp_M)} {h' : hp_M} (e : z = some (1, h')) (c : CR w r tpA dr tn tp L h0 h' p x.1 x.2 lt B) : OC w r tpA dr tn tp L h0 (true, p, []) x B z := OC.ok e (by rw [addL_nil]; exact c)
theorem OC.no {q : Nat} {z : Option (Int32 × hp_M)} {h' : hp_M} {e' ep' lt' : Int32} {B' : bkV} (e : z = some (0, h')) (c : CR w r tpA dr tn tp L h0 h' q e' ep' lt' B') : OC w r tpA dr tn tp L h0 (gFl q) x B z := ⟨(fun q => by cases q), fun _ => ⟨h', e', ep', lt', B', e, c⟩⟩
theorem OC.call {res : resV} {z : Option (Int32 × hp_M)} {P : Option (Int32 × hp_M) → Prop} {F : Int32 × hp_M → Option (Int32 × hp_M)} (o : OC w r tpA dr tn tp L h0 res x B z) (hs : res.1 = true → ∀ h' lt', CR w r tpA dr tn tp L h0 h' res.2.1 (erL B tp L x res.2.2).1 (erL B tp L x res.2.2).2 lt' (addL B tp L res.2.2) → P (F (1, h'))) (hf : res.1 = false → ∀ h' e' ep' lt' B', CR w r tpA dr tn tp L h0 h' res.2.1 e' ep' lt' B' → P (F (0, h'))) : P (z.bind F) := by
  cases q : res.1 with
  | true =>
    obtain ⟨h', lt', e, c⟩ := o.1 q
    rw [e]
    exact hs q h' lt' c
  | false =>
    obtain ⟨h', e', ep', lt', B', e, c⟩ := o.2 q
    rw [e]
    exact hf q h' e' ep' lt' B' c
/-- what was told before -/
theorem OC.pre {res : resV} {z : Option (Int32 × hp_M)} {l : List evV} (o : OC w r tpA dr tn tp L h0 res (erL B tp L x l) (addL B tp L l) z) : OC w r tpA dr tn tp L h0 (res.1, res.2.1, l ++ res.2.2) x B z := by
  refine ⟨fun q => ?_, o.2⟩
  obtain ⟨h', lt', e, c⟩ := o.1 q
  refine ⟨h', lt', e, ?_⟩
  dsimp only
  rw [erL_app, ← addL_app]
  exact c
theorem kN (c : okK L) : okN (kdp L) L.length := fun i hi => ⟨(c.2.2 i hi).1, fun q => (c.2.2 i hi).2.mpr q⟩
/-- f reads what g says -/
def CS (w : hp_W) (r tpA dr tn : Nat) (tp : Nat → Int32) (L : List tokV) (h0 : hp_M) (f : hp_M → Option (Int32 × hp_M)) (g : Nat → resV) : Prop :=
  ∀ (h : hp_M) (p : Nat) (x : Int32 × Int32) (lt : Int32) (B : bkV), B.2.2.1.length ≤ p → CR w r tpA dr tn tp L h0 h p x.1 x.2 lt B → OC w r tpA dr tn tp L h0 (g p) x B (f h)
theorem addL_len (B : bkV) (l : List evV) : (addL B tp L l).2.2.1.length = B.2.2.1.length + l.length := by
  show (B.2.2.1 ++ l.map _).length = _
  rw [List.length_append, List.length_map]
/-- a plain step written behind what was read -/
theorem CR.plain {l : List evV} {k q : Nat} {X : Int32} (c : CR w r tpA dr tn tp L h0 h q (erL B tp L x l).1 (erL B tp L x l).2 lt (addL B tp L l)) (hl : (addL B tp L l).2.2.1.length < 400) (hk : pln k) (eX : X = ix k) : ∃ h', onO h r 5 (f_Rd_write r X 0 0 h) = some (1, h') ∧ CR w r tpA dr tn tp L h0 h' q (erL B tp L x (l ++ [(k, 0, 0)])).1 (erL B tp L x (l ++ [(k, 0, 0)])).2 lt (addL B tp L (l ++ [(k, 0, 0)])) := by
  obtain ⟨h', e1, c1⟩ := c.write hl (k := k) (u := 0) (v := 0) eX rfl rfl
  refine ⟨h', e1, ?_⟩
  have e2 : addI (addL B tp L l) (k, 0, 0) = addL B tp L (l ++ [(k, 0, 0)]) := by
    rw [← addL_app, ← addI_L, itm_pln hk]
  have e3 : erL B tp L x (l ++ [(k, 0, 0)]) = erL B tp L x l := by
    rw [erL_app]
    exact erF_pln hk _ _ _ _ _ _
  rw [e3, ← e2]
  exact c1
theorem pro_b (ow : okW w) {fl : Nat} {rc : Nat → Nat → Int32 → hp_M → Option (Int32 × hp_M)} {x1 : Int32} {v : Nat → resV} (okk : okK L) (hv : CS w r tpA dr tn tp L h0 (fun h => onO h r 5 (rc 2 r x1 h)) v) (vB : ∀ q, q < L.length → gB L.length 1 q (v q)) : ∀ n j fu, j + n = 400 → n < fu → CS w r tpA dr tn tp L h0 (fun h => f_Rd_readProduct_b12 w fl rc r x1 fu (ix j) h) (gLp (kdp L) v opPro n) := by
  intro n
  induction n with
  | zero =>
    intro j fu hj hf h p x lt B hl c
    obtain ⟨fu, rfl⟩ : ∃ q, fu = q + 1 := ⟨fu - 1, by omega⟩
    dsimp only
    unfold f_Rd_readProduct_b12
    rw [show (400 : Int32) = ix 400 from rfl, if_pos (ix_le1 (by omega) (by omega))]
    exact OC.ok0 rfl c
  | succ n ih =>
    intro j fu hj hf h p x lt B hl c
    obtain ⟨fu, rfl⟩ : ∃ q, fu = q + 1 := ⟨fu - 1, by omega⟩
    have k42 := c.k42
    have pL := c.pL
    dsimp only
    unfold f_Rd_readProduct_b12 gLp
    refine dg_n (show ¬ (400 : Int32) ≤ ix j from ix_nle (n := j) (i := 400) (by omega) (by omega)) ?_
    refine dg_b c.r0 ?_
    refine dg_b c.kind ?_
    refine dg_b (kstep_of ow k42 h) ?_
    refine dg_b (isPro_of _ k42 h) ?_
    by_cases z : kdp L p = 34 ∨ kdp L p = 35 ∨ kdp L p = 36
    · have z' : opPro (kdp L p) = true := decide_eq_true z
      have sp := stp_pln _ k42 (Or.inl z')
      rw [if_pos z']
      refine dg_n (by rw [if_pos z]; decide) ?_
      refine dg_b c.r0 ?_
      refine dg_b c.kind ?_
      refine dg_b (kstep_of ow k42 h) ?_
      refine dg_b c.r0 ?_
      obtain ⟨h1, e1, c1⟩ := c.any (by omega)
      refine dg_b e1 ?_
      refine dg_n z10 ?_
      obtain ⟨b1, b2, b3⟩ := vB (p + 1) c1.pl
      refine OC.call (hv h1 (p + 1) x lt B (by omega) c1) (fun q h2 lt2 c2 => ?_) (fun q h2 e2 ep2 lt2 B2 c2 => ?_)
      · rw [if_pos q]
        obtain ⟨d1, d2, d3, d4⟩ := b3 q
        refine dg_n z10 ?_
        obtain ⟨h3, e3, c3⟩ := c2.plain (k := stp (kdp L p)) (by rw [addL_len]; omega) sp (stp_of _ k42 (by omega) (by omega))
        refine dg_b e3 ?_
        have := ih (j + 1) fu (by omega) (by omega) h3 _ _ _ _ (by rw [addL_len, List.length_append, List.length_singleton]; omega) c3
        have o := OC.pre this
        rw [List.append_assoc] at o
        rw [ixp1]
        exact o
      · rw [if_neg (by rw [q]; decide)]
        refine dg_p rfl ?_
        exact OC.no rfl c2
    · rw [if_neg (show ¬ opPro (kdp L p) = true from fun q => z (of_decide_eq_true q))]
      refine dg_p (by rw [if_neg z]) ?_
      exact OC.ok0 rfl c
theorem sum_b (ow : okW w) {fl : Nat} {rc : Nat → Nat → Int32 → hp_M → Option (Int32 × hp_M)} {x1 : Int32} {v : Nat → resV} (okk : okK L) (hv : CS w r tpA dr tn tp L h0 (fun h => onO h r 5 (rc 0 r x1 h)) v) (vB : ∀ q, q < L.length → gB L.length 1 q (v q)) : ∀ n j fu, j + n = 400 → n < fu → CS w r tpA dr tn tp L h0 (fun h => f_Rd_readSum_b12 w fl rc r x1 fu (ix j) h) (gLp (kdp L) v opSum n) := by
  intro n
  induction n with
  | zero =>
    intro j fu hj hf h p x lt B hl c
    obtain ⟨fu, rfl⟩ : ∃ q, fu = q + 1 := ⟨fu - 1, by omega⟩
    dsimp only
    unfold f_Rd_readSum_b12
    rw [show (400 : Int32) = ix 400 from rfl, if_pos (ix_le1 (by omega) (by omega))]
    exact OC.ok0 rfl c
  | succ n ih =>
    intro j fu hj hf h p x lt B hl c
    obtain ⟨fu, rfl⟩ : ∃ q, fu = q + 1 := ⟨fu - 1, by omega⟩
    have k42 := c.k42
    have pL := c.pL
    dsimp only
    unfold f_Rd_readSum_b12 gLp
    refine dg_n (show ¬ (400 : Int32) ≤ ix j from ix_nle (n := j) (i := 400) (by omega) (by omega)) ?_
    by_cases z : kdp L p = 32 ∨ kdp L p = 33
    · have z' : opSum (kdp L p) = true := decide_eq_true z
      have sp := stp_pln _ k42 (Or.inr (Or.inl z'))
      rw [if_pos z']
      have body : OC w r tpA dr tn tp L h0 (if (v (p + 1)).1 = true then ((gLp (kdp L) v opSum n (v (p + 1)).2.1).1, (gLp (kdp L) v opSum n (v (p + 1)).2.1).2.1, (v (p + 1)).2.2 ++ (stp (kdp L p), 0, 0) :: (gLp (kdp L) v opSum n (v (p + 1)).2.1).2.2) else gFl (v (p + 1)).2.1) x B ((gR h r 5 0).bind fun v1009 => (onO h v1009 6 (f_Sc_kind w v1009 h)).bind fun r1010 => (f_Kd_step w r1010 h).bind fun r1011 => (gR h r 5 0).bind fun v1012 => (onO h v1012 6 (f_Sc_takeAny v1012 h)).bind fun r1013 => if r1013.1 = 0 then (some (0, r1013.2)) else ((onO r1013.2 r 5 (rc 0 r x1 r1013.2)).bind fun r1015 => if r1015.1 = 0 then (some (0, r1015.2)) else ((onO r1015.2 r 5 (f_Rd_write r r1011 0 0 r1015.2)).bind fun r1017 => f_Rd_readSum_b12 w fl rc r x1 fu (ix j + 1) r1017.2))) := by
        refine dg_b c.r0 ?_
        refine dg_b c.kind ?_
        refine dg_b (kstep_of ow k42 h) ?_
        refine dg_b c.r0 ?_
        obtain ⟨h1, e1, c1⟩ := c.any (by omega)
        refine dg_b e1 ?_
        refine dg_n z10 ?_
        obtain ⟨b1, b2, b3⟩ := vB (p + 1) c1.pl
        refine OC.call (hv h1 (p + 1) x lt B (by omega) c1) (fun q h2 lt2 c2 => ?_) (fun q h2 e2 ep2 lt2 B2 c2 => ?_)
        · rw [if_pos q]
          obtain ⟨d1, d2, d3, d4⟩ := b3 q
          refine dg_n z10 ?_
          obtain ⟨h3, e3, c3⟩ := c2.plain (k := stp (kdp L p)) (by rw [addL_len]; omega) sp (stp_of _ k42 (by omega) (by omega))
          refine dg_b e3 ?_
          have := ih (j + 1) fu (by omega) (by omega) h3 _ _ _ _ (by rw [addL_len, List.length_append, List.length_singleton]; omega) c3
          have o := OC.pre this
          rw [List.append_assoc] at o
          rw [ixp1]
          exact o
        · rw [if_neg (by rw [q]; decide)]
          refine dg_p rfl ?_
          exact OC.no rfl c2
      refine dg_j ?_
      refine dg_b c.r0 ?_
      by_cases y : kdp L p = 32
      · refine dg_b (c.isY ow (by omega) y) ?_
        exact dg_n z10 body
      · refine dg_b (c.isN ow (by omega) y) ?_
        refine dg_p rfl ?_
        refine dg_b c.r0 ?_
        refine dg_b (c.isY ow (by omega) (show kdp L p = 33 by omega)) ?_
        exact dg_n z10 body
    · rw [if_neg (show ¬ opSum (kdp L p) = true from fun q => z (of_decide_eq_true q))]
      refine dg_j ?_
      refine dg_b c.r0 ?_
      refine dg_b (c.isN ow (by omega) (fun q => z (Or.inl q))) ?_
      refine dg_p rfl ?_
      refine dg_b c.r0 ?_
      refine dg_b (c.isN ow (by omega) (fun q => z (Or.inr q))) ?_
      refine dg_p rfl ?_
      exact OC.ok0 rfl c
theorem seq_of {K : Nat → Nat} {v : Nat → resV} {op : Nat → Bool} {z : Option (Int32 × hp_M)} {F : hp_M → Option (Int32 × hp_M)} (hK : K = kdp L) (hl : B.2.2.1.length ≤ p) (vB : gB L.length 1 p (v p)) (o : OC w r tpA dr tn tp L h0 (v p) x B z) (hF : CS w r tpA dr tn tp L h0 F (gLp K v op 400)) : OC w r tpA dr tn tp L h0 (gSq K v op p) x B (z.bind fun r1 => if r1.1 = 0 then (some (0, r1.2)) else F r1.2) := by
  obtain ⟨b1, b2, b3⟩ := vB
  unfold gSq
  refine OC.call o (fun q h2 lt2 c2 => ?_) (fun q h2 e2 ep2 lt2 B2 c2 => ?_)
  · rw [if_pos q]
    obtain ⟨d1, d2, d3, d4⟩ := b3 q
    refine dg_n z10 ?_
    exact OC.pre (hF h2 _ _ _ _ (by rw [addL_len]; omega) c2)
  · rw [if_neg (by rw [q]; decide)]
    refine dg_p rfl ?_
    exact OC.no rfl c2
end
