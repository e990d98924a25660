/-! The class reads alphabets, rules, and a text. -/
def badL : List Int32 → List Int32 → Bool
  | _, [] => false
  | pre, b :: l => isDV b || decide (b ∈ pre) || badL (pre ++ [b]) l
def gAl (K : Nat → Nat) (p : Nat) : Bool × Nat := if K (p + 1) = 2 then (if K (p + 2) = 2 then (if K (p + 3) = 30 then (true, p + 4) else (false, p + 3)) else (false, p + 2)) else (false, p + 1)
def alX (B : bkV) (tp : Nat → Int32) (L : List tokV) (x : Int32 × Int32) (p : Nat) : Int32 × Int32 := if badL [] (tbt tp L (p + 2)) = true then bl (erK L x (p + 1) (lkA B tp L (p + 1)) (decide (6 ≤ B.2.1.length))) 7 L (p + 2) else erK L x (p + 1) (lkA B tp L (p + 1)) (decide (6 ≤ B.2.1.length))
def alB (B : bkV) (tp : Nat → Int32) (L : List tokV) (p : Nat) : bkV := (B.1, if B.2.1.length < 6 then B.2.1 ++ [(wcL 0 (tbt tp L (p + 1)), tbt tp L (p + 2))] else B.2.1, B.2.2.1, B.2.2.2)
theorem noV_neg (x : Int32) : ∀ (l : List Int32) (i : Nat), i + l.length < 2147483648 → (noV x l i < 0 ↔ x ∉ l) := by
  intro l
  induction l with
  | nil => intro i _; exact ⟨fun _ => by simp, fun _ => (by decide : (-1 : Int32) < 0)⟩
  | cons y l ih =>
    intro i hi
    simp only [List.length_cons] at hi
    unfold noV
    by_cases c : y = x
    · rw [if_pos c]
      exact ⟨fun q => absurd q (ix_nn (by omega)), fun q => absurd (by rw [c]; exact List.mem_cons_self ..) q⟩
    · rw [if_neg c, ih (i + 1) (by omega)]
      simp only [List.mem_cons, not_or]
      exact ⟨fun q => ⟨fun e => c e.symm, q⟩, fun q => q.2⟩
theorem bts_len (tp : Nat → Int32) : ∀ l p, (bts tp p l).length = l := by
  intro l
  induction l with
  | zero => intro p; rfl
  | succ l ih => intro p; show (bts tp (p + 1) l).length + 1 = l + 1; rw [ih]
theorem bts_snoc (tp : Nat → Int32) : ∀ l p, bts tp p (l + 1) = bts tp p l ++ [tp (p + l)] := by
  intro l
  induction l with
  | zero => intro p; rfl
  | succ l ih =>
    intro p
    show tp p :: bts tp (p + 1) (l + 1) = tp p :: bts tp (p + 1) l ++ [tp (p + (l + 1))]
    rw [ih, show p + 1 + l = p + (l + 1) by omega]; rfl
theorem bts_cons (tp : Nat → Int32) (p l : Nat) : bts tp p (l + 1) = tp p :: bts tp (p + 1) l := rfl
def okTk (tn : Nat) (tp : Nat → Int32) (L : List tokV) : Prop := ∀ i, i < L.length → ((tkn L i).1 = 2 → (tkn L i).2.1 + (tkn L i).2.2 ≤ tn ∧ (tkn L i).2.2 ≤ 12 ∧ 1 ≤ (tkn L i).2.2)
section
variable {w : hp_W} {r tpA dr tn : Nat} {tp : Nat → Int32} {L : List tokV} {h0 h : hp_M} {p : Nat} {x : Int32 × Int32} {lt : Int32} {B : bkV}
theorem CR.blameL {e ep : Int32} {l : List Int32} (c : CR w r tpA dr tn tp L h0 h p e ep lt B) (a : is_Al h (r + 1) l) (k y : Int32) : ∃ h', onO h r 5 (f_Rd_blame r k y h) = some h' ∧ CR w r tpA dr tn tp L h0 h' p (blE e k) (blP e ep y) lt B ∧ is_Al h' (r + 1) l := by
  have pt : ∀ {h e ep e' ep' k v}, CR w r tpA dr tn tp L h0 h p e ep lt B → is_Al h (r + 1) l → k < 6 → [Value.ref (r + 3), .ref (r + 1), .ref dr, .int e, .int ep, .int lt].set k v = [Value.ref (r + 3), .ref (r + 1), .ref dr, .int e', .int ep', .int lt] → ∃ h', pF h r 5 k v = some h' ∧ CR w r tpA dr tn tp L h0 h' p e' ep' lt B ∧ is_Al h' (r + 1) l := by
    intro h e ep e' ep' k v c a hk hv
    obtain ⟨h', e1, c1⟩ := c.put hk hv
    have : h' = wr h r (oC 5 [Value.ref (r + 3), .ref (r + 1), .ref dr, .int e', .int ep', .int lt]) := by
      have := e1.symm.trans (pF_of c.2.1 hk)
      rw [hv] at this
      exact Option.some.inj this
    refine ⟨h', e1, c1, ?_⟩
    rw [this]
    exact a.keep (wr_fr _ _ _) (by omega)
  rw [c.on]
  unfold f_Rd_blame blE blP
  by_cases z : e = 0
  · obtain ⟨h1, e1, c1, a1⟩ := pt (k := 3) (v := .int k) (e' := k) (ep' := ep) c a (by omega) rfl
    obtain ⟨h2, e2, c2, a2⟩ := pt (k := 4) (v := .int y) (e' := k) (ep' := y) c1 a1 (by omega) rfl
    refine ⟨h2, ?_, by rw [if_pos z, if_pos z]; exact c2, a2⟩
    simp only [c.r3, e1, e2, Option.bind_some]
    rw [if_pos z]
  · refine ⟨h, ?_, by rw [if_neg z, if_neg z]; exact c, a⟩
    simp only [c.r3, Option.bind_some]
    rw [if_neg z]
theorem CR.setAl {e ep : Int32} {l : List Int32} {h' : hp_M} (c : CR w r tpA dr tn tp L h0 h p e ep lt B) (a : is_Al h' (r + 1) l) (f : fr (r + 1) (r + 3) h h') (z : h'.2 = h.2) : CR w r tpA dr tn tp L h0 h' p e ep lt B := by
  obtain ⟨⟨q1, q2, q3, q4, q5, q6⟩, c1, ⟨l, c2⟩, ⟨x1, x2, x3, q⟩, c4, c5, c6, c7, c8⟩ := c
  exact ⟨⟨by omega, q2, q3, q4, q5, q6⟩, f.cell c1 (by omega) (by omega), ⟨_, a⟩, ⟨x1, x2, x3, f.cell q (by omega) (by omega)⟩, c4.keep f (by omega) (by omega), c5.keep f (by omega), c6.keep f (by omega), c7.trans (f.to2 (by omega)), by omega⟩
theorem bl_bl (x : Int32 × Int32) {k : Int32} (hk : k ≠ 0) (i : Nat) : bl (bl x k L i) k L i = bl x k L i := by
  unfold bl blE blP
  by_cases z : x.1 = 0
  · simp [z, hk]
  · simp [z]
theorem letters_b {fl : Nat} (hfl : 5000 ≤ fl) (S N : Nat) (hS : (tkn L p).2.1 = S) (hN : (tkn L p).2.2 = N) (h12 : N ≤ 12) (hT : S + N ≤ tn) : ∀ n i fu (h : hp_M) (x : Int32 × Int32), i + n = N → n < fu → CR w r tpA dr tn tp L h0 h p x.1 x.2 lt B → is_Al h (r + 1) (bts tp S i) → ∃ h', f_Rd_readLetters_b9 fl r fu (ix i) h = some h' ∧ CR w r tpA dr tn tp L h0 h' p (if badL (bts tp S i) (bts tp (S + i) n) = true then bl x 7 L p else x).1 (if badL (bts tp S i) (bts tp (S + i) n) = true then bl x 7 L p else x).2 lt B ∧ is_Al h' (r + 1) (bts tp S N) := by
  intro n
  induction n with
  | zero =>
    intro i fu h x hi hf c a
    obtain ⟨fu, rfl⟩ : ∃ q, fu = q + 1 := ⟨fu - 1, by omega⟩
    have : i = N := by omega
    subst this
    refine ⟨h, ?_, ?_, a⟩
    · unfold f_Rd_readLetters_b9
      have e1 := c.leng
      rw [hN] at e1
      by_cases q : i = 12
      · rw [if_pos (show (12 : Int32) ≤ ix i from ix_le1 (i := 12) (by omega) (by omega))]
      · rw [if_neg (show ¬ (12 : Int32) ≤ ix i from ix_nle (n := i) (i := 12) (by omega) (by omega))]
        simp only [c.r0, e1, Option.bind_some]
        rw [if_pos (ix_le1 (Nat.le_refl _) (by omega))]
    · rw [show bts tp (S + i) 0 = [] from rfl, show badL (bts tp S i) [] = false from rfl, if_neg (by decide)]
      exact c
  | succ n ih =>
    intro i fu h x hi hf c a
    obtain ⟨fu, rfl⟩ : ∃ q, fu = q + 1 := ⟨fu - 1, by omega⟩
    have e1 := c.leng
    rw [hN] at e1
    have e2 := c.sign (j := i) (by rw [hS]; omega)
    rw [hS] at e2
    have al : (bts tp S i).length = i := bts_len tp i S
    have nxt : ∀ (y : Int32 × Int32) h1, CR w r tpA dr tn tp L h0 h1 p y.1 y.2 lt B → is_Al h1 (r + 1) (bts tp S i) → ∃ h', ((gR h1 r 5 1).bind fun v1018 => (onO h1 v1018 0 (f_Al_add v1018 (tp (S + i)) h1)).bind fun h1019 => f_Rd_readLetters_b9 fl r fu (ix i + 1) h1019) = some h' ∧ CR w r tpA dr tn tp L h0 h' p (if badL (bts tp S (i + 1)) (bts tp (S + (i + 1)) n) = true then bl y 7 L p else y).1 (if badL (bts tp S (i + 1)) (bts tp (S + (i + 1)) n) = true then bl y 7 L p else y).2 lt B ∧ is_Al h' (r + 1) (bts tp S N) := by
      intro y h1 c1 a1
      obtain ⟨h2, e3, a2, f2', z2⟩ := a1.add (by omega) (tp (S + i))
      rw [← bts_snoc] at a2
      have c2 := c1.setAl a2 f2' z2
      obtain ⟨h3, e4, c3, a3⟩ := ih (i + 1) fu h2 y (by omega) (by omega) c2 a2
      refine ⟨h3, ?_, c3, a3⟩
      refine bnd c1.r1 ?_
      refine bnd ((a1.on _).trans e3) ?_
      rw [ixp1]; exact e4
    unfold f_Rd_readLetters_b9
    have ng := noV_neg (tp (S + i)) (bts tp S i) 0 (by omega)
    have n1 : noV (tp (S + i)) (bts tp S i) 0 < 0 ↔ tp (S + i) ∉ bts tp S i := ng
    rw [bts_cons]
    by_cases bad : isDV (tp (S + i)) = true ∨ tp (S + i) ∈ bts tp S i
    · obtain ⟨h1, e3, c1, a1⟩ := c.blameL a 7 (ix (tkn L p).2.1)
      obtain ⟨h', e4, c4, a4⟩ := nxt (bl x 7 L p) h1 c1 a1
      have hb : badL (bts tp S i) (tp (S + i) :: bts tp (S + i + 1) n) = true := by
        unfold badL
        rcases bad with q | q
        · rw [q]; rfl
        · rw [decide_eq_true q, Bool.or_true]; rfl
      refine ⟨h', ?_, ?_, a4⟩
      · have body : ((gR h r 5 0).bind fun v1027 => (onO h v1027 6 (f_Sc_start v1027 h)).bind fun r1028 => (onO h r 5 (f_Rd_blame r 7 r1028 h)).bind fun h1029 => (gR h1029 r 5 1).bind fun v1018 => (onO h1029 v1018 0 (f_Al_add v1018 (tp (S + i)) h1029)).bind fun h1019 => f_Rd_readLetters_b9 fl r fu (ix i + 1) h1019) = some h' := bnd c.r0 (bnd c.start (bnd e3 e4))
        refine ite_n (show ¬ (12 : Int32) ≤ ix i from ix_nle (n := i) (i := 12) (by omega) (by omega)) ?_
        refine bnd c.r0 ?_
        refine bnd e1 ?_
        refine ite_n (ix_nle (by omega) (by omega)) ?_
        refine jnE ?_
        refine jnE ?_
        refine bnd c.r0 ?_
        refine bnd e2 ?_
        refine bnd (isD_of _ _) ?_
        by_cases q : isDV (tp (S + i)) = true
        · exact ite_n (by rw [if_pos q]; decide) body
        · refine ite_p (by rw [if_neg q]) ?_
          refine bnd c.r1 ?_
          refine bnd ((a.on _).trans (a.numberOf hfl _)) ?_
          exact ite_n (fun z => n1.mp z (bad.elim (fun z => absurd z q) id)) body
      · rw [hb, if_pos rfl]
        by_cases z : badL (bts tp S (i + 1)) (bts tp (S + (i + 1)) n) = true
        · rw [if_pos z, bl_bl _ (by decide)] at c4
          exact c4
        · rw [if_neg z] at c4
          exact c4
    · obtain ⟨h', e4, c4, a4⟩ := nxt x h c a
      have q1 : isDV (tp (S + i)) = false := by simpa using fun q => bad (Or.inl q)
      have q2 : tp (S + i) ∉ bts tp S i := fun q => bad (Or.inr q)
      have hb : badL (bts tp S i) (tp (S + i) :: bts tp (S + i + 1) n) = badL (bts tp S (i + 1)) (bts tp (S + (i + 1)) n) := by
        show (isDV _ || decide _ || badL _ _) = _
        rw [q1, decide_eq_false q2, bts_snoc]; rfl
      refine ⟨h', ?_, ?_, a4⟩
      · refine ite_n (show ¬ (12 : Int32) ≤ ix i from ix_nle (n := i) (i := 12) (by omega) (by omega)) ?_
        refine bnd c.r0 ?_
        refine bnd e1 ?_
        refine ite_n (ix_nle (by omega) (by omega)) ?_
        refine jnE ?_
        refine jnE ?_
        refine bnd c.r0 ?_
        refine bnd e2 ?_
        refine bnd (isD_of _ _) ?_
        refine ite_p (by rw [q1]; rfl) ?_
        refine bnd c.r1 ?_
        refine bnd ((a.on _).trans (a.numberOf hfl _)) ?_
        exact ite_p (n1.mpr q2) e4
      · rw [hb]; exact c4
theorem alphabet_of (ow : okW w) (otk : okTk tn tp L) {fl : Nat} (hfl : 5000 ≤ fl) (c : CR w r tpA dr tn tp L h0 h p x.1 x.2 lt B) (hk : kdp L p = 10) : OX w r tpA dr tn tp L h0 (gAl (kdp L) p).1 (gAl (kdp L) p).2 (alX B tp L x p) (alB B tp L p) (onO h r 5 (f_Rd_readAlphabet w fl r h)) := by
  have pL := c.pL
  rw [c.on]
  unfold f_Rd_readAlphabet gAl
  refine dg_b c.r0 ?_
  obtain ⟨h1, e1, c1⟩ := c.takeY ow (k := 10) (by omega) (by omega) hk
  refine dg_b e1 ?_
  refine dg_n z10 ?_
  refine dg_b c1.r0 ?_
  by_cases k1 : kdp L (p + 1) = 2
  case neg =>
    rw [if_neg k1]
    refine dg_b (c1.isN ow (by omega) k1) ?_
    refine dg_p rfl ?_
    exact OX.no rfl c1
  rw [if_pos k1]
  refine dg_b (c1.isY ow (by omega) k1) ?_
  refine dg_n z10 ?_
  refine dg_j ?_
  have h8 : B.2.1.length ≤ 6 := c1.bk.2.1.2.1
  have en : f_Bk_alphabetNamed fl dr (wcL 0 (tbt tp L (p + 1))) h1 = some (ix (lkA B tp L (p + 1))) := alNamed c1.bk hfl _
  have ng : (0 ≤ ix (lkA B tp L (p + 1))) ↔ ¬ unk (lkA B tp L (p + 1)) := neg_unk (by simp; omega)
  refine dg_b c1.r0 ?_
  refine dg_b (c1.word k1) ?_
  refine dg_b c1.r2 ?_
  refine dg_b ((c1.bon _).trans en) ?_
  refine dg_b c1.r2 ?_
  refine dg_b ((c1.bon _).trans (is_Bk.alphabets c1.bk)) ?_
  have rest : ∀ y : Int32, y = (if decide (6 ≤ B.2.1.length) = true then 0 else 1) → OX w r tpA dr tn tp L h0 (if kdp L (p + 2) = 2 then (if kdp L (p + 3) = 30 then (true, p + 4) else (false, p + 3)) else (false, p + 2)).1 (if kdp L (p + 2) = 2 then (if kdp L (p + 3) = 30 then (true, p + 4) else (false, p + 3)) else (false, p + 2)).2 (alX B tp L x p) (alB B tp L p) ((fun (u14 : Int64) (u15 : Int32) (u16 : Int32) (u17 : Nat) => (onO h1 u17 5 (f_Rd_checkNewName u17 u16 u15 h1)).bind fun h18 => (gR h18 r 5 0).bind fun v19 => (onO h18 v19 6 (f_Sc_take v19 (w_kd w 2) h18)).bind fun r20 => if r20.1 = 0 then (some (0, r20.2)) else ((gR r20.2 r 5 0).bind fun v22 => (onO r20.2 v22 6 (f_Sc_isAt v22 (w_kd w 2) r20.2)).bind fun r23 => if r23 = 0 then (some (0, r20.2)) else (jn (fun (h34 : hp_M) => some (0, h34)) fun (j33 : hp_M → Option (Int32 × hp_M)) => (onO r20.2 r 5 (f_Rd_readLetters fl r r20.2)).bind fun h35 => (gR h35 r 5 2).bind fun v36 => (gR h35 r 5 1).bind fun v37 => (onO h35 v36 1 (f_Bk_addAlphabet v36 u14 v37 h35)).bind fun h38 => (gR h38 r 5 0).bind fun v39 => (onO h38 v39 6 (f_Sc_take v39 (w_kd w 2) h38)).bind fun r40 => if r40.1 = 0 then (j33 r40.2) else ((gR r40.2 r 5 0).bind fun v42 => (onO r40.2 v42 6 (f_Sc_take v42 (w_kd w 30) r40.2)).bind fun r43 => if r43.1 = 0 then (j33 r43.2) else (some (1, r43.2)))))) (wcL 0 (tbt tp L (p + 1))) y (ix (lkA B tp L (p + 1))) r) := by
    intro y hy
    obtain ⟨h2, e2, c2⟩ := c1.check ng (full := decide (6 ≤ B.2.1.length)) hy
    refine dg_b e2 ?_
    refine dg_b c2.r0 ?_
    obtain ⟨h3, e3, c3⟩ := c2.takeY ow (k := 2) (by omega) (by omega) k1
    refine dg_b e3 ?_
    refine dg_n z10 ?_
    refine dg_b c3.r0 ?_
    by_cases k2 : kdp L (p + 2) = 2
    case neg =>
      rw [if_neg k2]
      refine dg_b (c3.isN ow (by omega) k2) ?_
      refine dg_p rfl ?_
      exact OX.no rfl c3
    rw [if_pos k2]
    refine dg_b (c3.isY ow (by omega) k2) ?_
    refine dg_n z10 ?_
    refine dg_j ?_
    obtain ⟨t1, t2, t3⟩ := otk (p + 2) c3.pl k2
    obtain ⟨l0, a0⟩ := c3.2.2.1
    obtain ⟨h4, e4, a4, f4, z4⟩ := a0.empty
    have c4 := c3.setAl a4 f4 z4
    obtain ⟨h5, e5, c5, a5⟩ := letters_b hfl (tkn L (p + 2)).2.1 (tkn L (p + 2)).2.2 rfl rfl t2 t1 (tkn L (p + 2)).2.2 0 fl h4 _ (by omega) (by omega) c4 a4
    have e5' : onO h3 r 5 (f_Rd_readLetters fl r h3) = some h5 := by
      rw [c3.on]
      unfold f_Rd_readLetters
      exact bnd c3.r1 (bnd ((a0.on _).trans e4) e5)
    refine dg_b e5' ?_
    refine dg_b c5.r2 ?_
    refine dg_b c5.r1 ?_
    have q34 := c5.1.2.2.1
    obtain ⟨h6, e6, b6, f6, z6⟩ := is_Bk.addAl c5.bk (wcL 0 (tbt tp L (p + 1))) a5 (by omega)
    have b6' : is_BK h6 dr (alB B tp L p) := b6
    have c6 := c5.book b6' f6 z6
    refine dg_b ((c5.bon _).trans e6) ?_
    refine dg_b c6.r0 ?_
    obtain ⟨h7, e7, c7⟩ := c6.takeY ow (k := 2) (by omega) (by omega) k2
    refine dg_b e7 ?_
    refine dg_n z10 ?_
    refine dg_b c7.r0 ?_
    by_cases k3 : kdp L (p + 3) = 30
    · rw [if_pos k3]
      obtain ⟨h8, e8, c8⟩ := c7.takeY ow (k := 30) (by omega) (by omega) k3
      refine dg_b e8 ?_
      refine dg_n z10 ?_
      exact OX.ok rfl c8
    · rw [if_neg k3]
      refine dg_b (c7.takeN ow (by omega) k3) ?_
      refine dg_p rfl ?_
      exact OX.no rfl c7
  by_cases z : 6 ≤ B.2.1.length
  · refine dg_p (show (6 : Int32) ≤ ix B.2.1.length from ix_le1 (i := 6) z (by omega)) ?_
    exact rest 0 (by rw [if_pos (decide_eq_true z)])
  · refine dg_n (show ¬ (6 : Int32) ≤ ix B.2.1.length from ix_nle (n := B.2.1.length) (i := 6) (by omega) (by omega)) ?_
    exact rest 1 (by rw [if_neg (by rw [decide_eq_true_eq]; exact z)])
end
/-! A rule. -/
def gTS (K : Nat → Nat) : Nat → resV := gTst K (gSin K 8)
def gSM (K : Nat → Nat) : Nat → resV := gSum K (gVal K 8)
/-- (is it so, where it ends, the test's events, the sum's, the alphabet's token) -/
def gRu (K : Nat → Nat) (p : Nat) : Bool × Nat × List evV × List evV × Nat :=
  if (gTS K (p + 1)).1 = true then (if K (gTS K (p + 1)).2.1 = 12 then (if (gSM K ((gTS K (p + 1)).2.1 + 1)).1 = true then (if K (gSM K ((gTS K (p + 1)).2.1 + 1)).2.1 = 13 then (if K ((gSM K ((gTS K (p + 1)).2.1 + 1)).2.1 + 1) = 2 then (if K ((gSM K ((gTS K (p + 1)).2.1 + 1)).2.1 + 2) = 30 then (true, (gSM K ((gTS K (p + 1)).2.1 + 1)).2.1 + 3, (gTS K (p + 1)).2.2, (gSM K ((gTS K (p + 1)).2.1 + 1)).2.2, (gSM K ((gTS K (p + 1)).2.1 + 1)).2.1 + 1) else (false, (gSM K ((gTS K (p + 1)).2.1 + 1)).2.1 + 2, [], [], 0)) else (false, (gSM K ((gTS K (p + 1)).2.1 + 1)).2.1 + 1, [], [], 0)) else (false, (gSM K ((gTS K (p + 1)).2.1 + 1)).2.1, [], [], 0)) else (false, (gSM K ((gTS K (p + 1)).2.1 + 1)).2.1, [], [], 0)) else (false, (gTS K (p + 1)).2.1, [], [], 0)) else (false, (gTS K (p + 1)).2.1, [], [], 0)
def ruX0 (B : bkV) (L : List tokV) (x : Int32 × Int32) (p : Nat) : Int32 × Int32 := if 12 ≤ B.2.2.2.length then bl x 4 L p else x
def erA (B : bkV) (tp : Nat → Int32) (L : List tokV) (x : Int32 × Int32) (i : Nat) : Int32 × Int32 := if unk (lkA B tp L i) then bl x 3 L i else x
def ruX (B : bkV) (tp : Nat → Int32) (L : List tokV) (x : Int32 × Int32) (p : Nat) (T S : List evV) (a : Nat) : Int32 × Int32 := erA B tp L (erL B tp L (ruX0 B L x p) (T ++ S)) a
def ruB (B : bkV) (tp : Nat → Int32) (L : List tokV) (T S : List evV) (a : Nat) : bkV := (B.1, B.2.1, B.2.2.1 ++ (T ++ S).map (itm B tp L), if B.2.2.2.length < 12 then B.2.2.2 ++ [(B.2.2.1.length, B.2.2.1.length + T.length, B.2.2.1.length + T.length + S.length, lkA B tp L a)] else B.2.2.2)
section
variable {w : hp_W} {r tpA dr tn : Nat} {tp : Nat → Int32} {L : List tokV} {h0 h : hp_M} {p : Nat} {x : Int32 × Int32} {lt : Int32} {B : bkV}
theorem rule_of (ow : okW w) {fl : Nat} (hfl : 5000 ≤ fl) (hl : B.2.2.1.length ≤ p) (c : CR w r tpA dr tn tp L h0 h p x.1 x.2 lt B) (hk : kdp L p = 11) : OX w r tpA dr tn tp L h0 (gRu (kdp L) p).1 (gRu (kdp L) p).2.1 (ruX B tp L x p (gRu (kdp L) p).2.2.1 (gRu (kdp L) p).2.2.2.1 (gRu (kdp L) p).2.2.2.2) (ruB B tp L (gRu (kdp L) p).2.2.1 (gRu (kdp L) p).2.2.2.1 (gRu (kdp L) p).2.2.2.2) (onO h r 5 (f_Rd_readRule w fl r h)) := by
  have pL := c.pL
  have okk := c.okk
  have h12 : B.2.2.2.length ≤ 12 := c.bk.2.1.2.2
  rw [c.on]
  unfold f_Rd_readRule
  refine dg_j ?_
  refine dg_b c.r2 ?_
  refine dg_b ((c.bon _).trans (is_Bk.rules c.bk)) ?_
  have rest : ∀ h1, CR w r tpA dr tn tp L h0 h1 p (ruX0 B L x p).1 (ruX0 B L x p).2 lt B → OX w r tpA dr tn tp L h0 (gRu (kdp L) p).1 (gRu (kdp L) p).2.1 (ruX B tp L x p (gRu (kdp L) p).2.2.1 (gRu (kdp L) p).2.2.2.1 (gRu (kdp L) p).2.2.2.2) (ruB B tp L (gRu (kdp L) p).2.2.1 (gRu (kdp L) p).2.2.2.1 (gRu (kdp L) p).2.2.2.2) ((fun (h7 : hp_M) => (gR h7 r 5 2).bind fun v8 => (onO h7 v8 1 (f_Bk_program v8 h7)).bind fun r9 => (onO h7 r9 4 (f_Pr_size r9 h7)).bind fun r10 => (gR h7 r 5 0).bind fun v11 => (onO h7 v11 6 (f_Sc_take v11 (w_kd w 11) h7)).bind fun r12 => if r12.1 = 0 then (some (0, r12.2)) else ((onO r12.2 r 5 (f_Rd_readTest w fl r 0 r12.2)).bind fun r14 => if r14.1 = 0 then (some (0, r14.2)) else ((gR r14.2 r 5 0).bind fun v16 => (onO r14.2 v16 6 (f_Sc_take v16 (w_kd w 12) r14.2)).bind fun r17 => if r17.1 = 0 then (some (0, r17.2)) else ((gR r17.2 r 5 2).bind fun v19 => (onO r17.2 v19 1 (f_Bk_program v19 r17.2)).bind fun r20 => (onO r17.2 r20 4 (f_Pr_size r20 r17.2)).bind fun r21 => (onO r17.2 r 5 (f_Rd_readSum w fl r 0 r17.2)).bind fun r22 => if r22.1 = 0 then (some (0, r22.2)) else ((gR r22.2 r 5 0).bind fun v24 => (onO r22.2 v24 6 (f_Sc_take v24 (w_kd w 13) r22.2)).bind fun r25 => if r25.1 = 0 then (some (0, r25.2)) else ((onO r25.2 r 5 (f_Rd_readName w fl r 1 r25.2)).bind fun r27 => if r27.1 = 0 then (some (0, r27.2)) else ((gR r27.2 r 5 2).bind fun v29 => (gI r27.2 r 5 5).bind fun v30 => (onO r27.2 v29 1 (f_Bk_addRule v29 r10 r21 v30 r27.2)).bind fun h31 => (gR h31 r 5 0).bind fun v32 => (onO h31 v32 6 (f_Sc_take v32 (w_kd w 30) h31)).bind fun r33 => some (r33.1, r33.2)))))))) h1) := by
    intro h1 c1
    have l4 : B.2.2.1.length ≤ 400 := (is_Bk.pr c1.bk).elim fun _ q => q.2.1
    refine dg_b c1.r2 ?_
    refine dg_b ((c1.bon _).trans (is_Bk.program c1.bk)) ?_
    refine dg_b (((is_Bk.pr c1.bk).on _).trans (is_Bk.pr c1.bk).size) ?_
    refine dg_b c1.r0 ?_
    obtain ⟨h2, e2, c2⟩ := c1.takeY ow (k := 11) (by omega) (by omega) hk
    refine dg_b e2 ?_
    refine dg_n z10 ?_
    have tB := gTst_B (kN okk) (gSin_B (kN okk) 8) (p + 1) c2.pl
    obtain ⟨b1, b2, b3⟩ := tB
    unfold gRu
    refine OC.call (rd_tstF ow okk hfl h2 (p + 1) (ruX0 B L x p) lt B (by omega) c2) (fun q h3 lt3 c3 => ?_) (fun q h3 e3 ep3 lt3 B3 c3 => ?_)
    case _ =>
      have q' : (gTS (kdp L) (p + 1)).1 = true := q
      rw [if_pos q']
      obtain ⟨d1, d2, d3, d4⟩ := b3 q
      have c3' : CR w r tpA dr tn tp L h0 h3 (gTS (kdp L) (p + 1)).2.1 (erL B tp L (ruX0 B L x p) (gTS (kdp L) (p + 1)).2.2).1 (erL B tp L (ruX0 B L x p) (gTS (kdp L) (p + 1)).2.2).2 lt3 (addL B tp L (gTS (kdp L) (p + 1)).2.2) := c3
      have b2' : (gTS (kdp L) (p + 1)).2.2.length + (p + 1) + 1 ≤ (gTS (kdp L) (p + 1)).2.1 + 1 := d2
      refine dg_n z10 ?_
      refine dg_b c3'.r0 ?_
      by_cases k1 : kdp L (gTS (kdp L) (p + 1)).2.1 = 12
      case neg =>
        rw [if_neg k1]
        refine dg_b (c3'.takeN ow (by omega) k1) ?_
        refine dg_p rfl ?_
        exact OX.no rfl c3'
      rw [if_pos k1]
      obtain ⟨h4, e4, c4⟩ := c3'.takeY ow (k := 12) (by omega) (by omega) k1
      refine dg_b e4 ?_
      refine dg_n z10 ?_
      refine dg_b c4.r2 ?_
      refine dg_b ((c4.bon _).trans (is_Bk.program c4.bk)) ?_
      refine dg_b (((is_Bk.pr c4.bk).on _).trans (is_Bk.pr c4.bk).size) ?_
      obtain ⟨i1, i2, i3⟩ := gSum_B (kN okk) (gVal_B (kN okk) 8) ((gTS (kdp L) (p + 1)).2.1 + 1) c4.pl
      refine OC.call (rd_sumF ow okk hfl (d := 0) (k := 8) (by omega) h4 ((gTS (kdp L) (p + 1)).2.1 + 1) _ _ _ (by rw [addL_len]; omega) c4) (fun q2 h5 lt5 c5 => ?_) (fun q2 h5 e5 ep5 lt5 B5 c5 => ?_)
      case _ =>
        have q2' : (gSM (kdp L) ((gTS (kdp L) (p + 1)).2.1 + 1)).1 = true := q2
        rw [if_pos q2']
        obtain ⟨g1, g2, g3, g4⟩ := i3 q2
        have g2' : (gSM (kdp L) ((gTS (kdp L) (p + 1)).2.1 + 1)).2.2.length + ((gTS (kdp L) (p + 1)).2.1 + 1) + 1 ≤ (gSM (kdp L) ((gTS (kdp L) (p + 1)).2.1 + 1)).2.1 + 1 := g2
        have c5' : CR w r tpA dr tn tp L h0 h5 (gSM (kdp L) ((gTS (kdp L) (p + 1)).2.1 + 1)).2.1 (erL B tp L (ruX0 B L x p) ((gTS (kdp L) (p + 1)).2.2 ++ (gSM (kdp L) ((gTS (kdp L) (p + 1)).2.1 + 1)).2.2)).1 (erL B tp L (ruX0 B L x p) ((gTS (kdp L) (p + 1)).2.2 ++ (gSM (kdp L) ((gTS (kdp L) (p + 1)).2.1 + 1)).2.2)).2 lt5 (addL B tp L ((gTS (kdp L) (p + 1)).2.2 ++ (gSM (kdp L) ((gTS (kdp L) (p + 1)).2.1 + 1)).2.2)) := by
          rw [erL_app, ← addL_app]; exact c5
        refine dg_n z10 ?_
        refine dg_b c5'.r0 ?_
        by_cases k2 : kdp L (gSM (kdp L) ((gTS (kdp L) (p + 1)).2.1 + 1)).2.1 = 13
        case neg =>
          rw [if_neg k2]
          refine dg_b (c5'.takeN ow (by omega) k2) ?_
          refine dg_p rfl ?_
          exact OX.no rfl c5'
        rw [if_pos k2]
        obtain ⟨h6, e6, c6⟩ := c5'.takeY ow (k := 13) (by omega) (by omega) k2
        refine dg_b e6 ?_
        refine dg_n z10 ?_
        by_cases k3 : kdp L ((gSM (kdp L) ((gTS (kdp L) (p + 1)).2.1 + 1)).2.1 + 1) = 2
        case neg =>
          rw [if_neg k3]
          refine dg_b (c6.nameN ow k3) ?_
          refine dg_p rfl ?_
          exact OX.no rfl c6
        rw [if_pos k3]
        obtain ⟨h7, e7, c7⟩ := c6.nameA ow hfl k3
        refine dg_b e7 ?_
        refine dg_n z10 ?_
        refine dg_b c7.r2 ?_
        refine dg_b c7.r5 ?_
        obtain ⟨h8, e8, b8, f8, z8⟩ := is_Bk.addRu c7.bk B.2.2.1.length (addL B tp L (gTS (kdp L) (p + 1)).2.2).2.2.1.length (lkA B tp L ((gSM (kdp L) ((gTS (kdp L) (p + 1)).2.1 + 1)).2.1 + 1))
        have b8' : is_BK h8 dr (ruB B tp L (gTS (kdp L) (p + 1)).2.2 (gSM (kdp L) ((gTS (kdp L) (p + 1)).2.1 + 1)).2.2 ((gSM (kdp L) ((gTS (kdp L) (p + 1)).2.1 + 1)).2.1 + 1)) := by
          have el : (addL B tp L ((gTS (kdp L) (p + 1)).2.2 ++ (gSM (kdp L) ((gTS (kdp L) (p + 1)).2.1 + 1)).2.2)).2.2.1.length = B.2.2.1.length + (gTS (kdp L) (p + 1)).2.2.length + (gSM (kdp L) ((gTS (kdp L) (p + 1)).2.1 + 1)).2.2.length := by
            rw [addL_len, List.length_append]; omega
          rw [addL_len] at b8
          rw [el] at b8
          exact b8
        have c8 := c7.book b8' f8 z8
        refine dg_b ((c7.bon _).trans e8) ?_
        refine dg_b c8.r0 ?_
        have ex : (if unk (lkA B tp L ((gSM (kdp L) ((gTS (kdp L) (p + 1)).2.1 + 1)).2.1 + 1)) then blE (erL B tp L (ruX0 B L x p) ((gTS (kdp L) (p + 1)).2.2 ++ (gSM (kdp L) ((gTS (kdp L) (p + 1)).2.1 + 1)).2.2)).1 3 else (erL B tp L (ruX0 B L x p) ((gTS (kdp L) (p + 1)).2.2 ++ (gSM (kdp L) ((gTS (kdp L) (p + 1)).2.1 + 1)).2.2)).1) = (ruX B tp L x p (gTS (kdp L) (p + 1)).2.2 (gSM (kdp L) ((gTS (kdp L) (p + 1)).2.1 + 1)).2.2 ((gSM (kdp L) ((gTS (kdp L) (p + 1)).2.1 + 1)).2.1 + 1)).1 := by
          unfold ruX erA
          split <;> rfl
        have ey : (if unk (lkA B tp L ((gSM (kdp L) ((gTS (kdp L) (p + 1)).2.1 + 1)).2.1 + 1)) then blP (erL B tp L (ruX0 B L x p) ((gTS (kdp L) (p + 1)).2.2 ++ (gSM (kdp L) ((gTS (kdp L) (p + 1)).2.1 + 1)).2.2)).1 (erL B tp L (ruX0 B L x p) ((gTS (kdp L) (p + 1)).2.2 ++ (gSM (kdp L) ((gTS (kdp L) (p + 1)).2.1 + 1)).2.2)).2 (ix (tkn L ((gSM (kdp L) ((gTS (kdp L) (p + 1)).2.1 + 1)).2.1 + 1)).2.1) else (erL B tp L (ruX0 B L x p) ((gTS (kdp L) (p + 1)).2.2 ++ (gSM (kdp L) ((gTS (kdp L) (p + 1)).2.1 + 1)).2.2)).2) = (ruX B tp L x p (gTS (kdp L) (p + 1)).2.2 (gSM (kdp L) ((gTS (kdp L) (p + 1)).2.1 + 1)).2.2 ((gSM (kdp L) ((gTS (kdp L) (p + 1)).2.1 + 1)).2.1 + 1)).2 := by
          unfold ruX erA
          split <;> rfl
        have c8' : CR w r tpA dr tn tp L h0 h8 ((gSM (kdp L) ((gTS (kdp L) (p + 1)).2.1 + 1)).2.1 + 2) (ruX B tp L x p (gTS (kdp L) (p + 1)).2.2 (gSM (kdp L) ((gTS (kdp L) (p + 1)).2.1 + 1)).2.2 ((gSM (kdp L) ((gTS (kdp L) (p + 1)).2.1 + 1)).2.1 + 1)).1 (ruX B tp L x p (gTS (kdp L) (p + 1)).2.2 (gSM (kdp L) ((gTS (kdp L) (p + 1)).2.1 + 1)).2.2 ((gSM (kdp L) ((gTS (kdp L) (p + 1)).2.1 + 1)).2.1 + 1)).2 (ix (lkA B tp L ((gSM (kdp L) ((gTS (kdp L) (p + 1)).2.1 + 1)).2.1 + 1))) (ruB B tp L (gTS (kdp L) (p + 1)).2.2 (gSM (kdp L) ((gTS (kdp L) (p + 1)).2.1 + 1)).2.2 ((gSM (kdp L) ((gTS (kdp L) (p + 1)).2.1 + 1)).2.1 + 1)) := by
          rw [← ex, ← ey]
          exact c8
        by_cases k4 : kdp L ((gSM (kdp L) ((gTS (kdp L) (p + 1)).2.1 + 1)).2.1 + 2) = 30
        · rw [if_pos k4]
          obtain ⟨h9, e9, c9⟩ := c8'.takeY ow (k := 30) (by omega) (by omega) k4
          refine dg_b e9 ?_
          exact OX.ok rfl c9
        · rw [if_neg k4]
          refine dg_b (c8'.takeN ow (by omega) k4) ?_
          exact OX.no rfl c8'
      case _ =>
        have q2' : (gSM (kdp L) ((gTS (kdp L) (p + 1)).2.1 + 1)).1 = false := q2
        rw [if_neg (by rw [q2']; decide)]
        refine dg_p rfl ?_
        exact OX.no rfl c5
    case _ =>
      have q' : (gTS (kdp L) (p + 1)).1 = false := q
      rw [if_neg (by rw [q']; decide)]
      refine dg_p rfl ?_
      exact OX.no rfl c3
  by_cases z : 12 ≤ B.2.2.2.length
  · refine dg_n (show ¬ ix B.2.2.2.length < 12 from ix_nlt (n := 12) (i := B.2.2.2.length) (by omega) (by omega)) ?_
    refine dg_b c.r0 ?_
    refine dg_b c.start ?_
    obtain ⟨h1, e1, c1⟩ := c.blame 4 (ix (tkn L p).2.1)
    refine dg_b e1 ?_
    refine rest h1 ?_
    unfold ruX0
    rw [if_pos z]
    exact c1
  · refine dg_p (show ix B.2.2.2.length < 12 from ix_lt1 (n := 12) (by omega) (by omega)) ?_
    refine rest h ?_
    unfold ruX0
    rw [if_neg z]
    exact c
end
