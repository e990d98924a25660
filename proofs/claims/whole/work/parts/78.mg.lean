/-! The Model reads names, numbers, and rows of operators. -/
def OM (m t rd tn : Nat) (tp : Nat → Int32) (th ea : Int32) (L : List tokV) (h0 : hp_M) (nr : Nat) (Z : zV) (res : resV) (d : Nat) (E : List evV) (Rl : List (Nat × Nat)) (z : Option (Int32 × hp_M)) : Prop :=
  (res.1 = true → ∃ h', z = some (1, h') ∧ MR m t rd tn tp th ea L h0 nr Z h' res.2.1 d (E ++ res.2.2) (Rl ++ evRs res.2.2)) ∧ (res.1 = false → ∃ h', z = some (0, h') ∧ MF m t rd tn tp th ea L h0 h' res.2.1)
def CM (m t rd tn : Nat) (tp : Nat → Int32) (th ea : Int32) (L : List tokV) (h0 : hp_M) (nr : Nat) (Z : zV) (d : Nat) (f : hp_M → Option (Int32 × hp_M)) (g : Nat → resV) : Prop :=
  ∀ (h : hp_M) (p : Nat) (E : List evV) (Rl : List (Nat × Nat)), wsm E ≤ 2 * p → osm E ≤ p → MR m t rd tn tp th ea L h0 nr Z h p d E Rl → OM m t rd tn tp th ea L h0 nr Z (g p) d E Rl (f h)
def okIn (tn : Nat) (L : List tokV) : Prop := ∀ i, i < L.length → 2 ≤ (tkn L i).1 → (tkn L i).2.1 + (tkn L i).2.2 ≤ tn ∧ 1 ≤ (tkn L i).2.2 ∧ ((tkn L i).1 = 2 ∨ (tkn L i).1 = 3 → (tkn L i).2.2 ≤ 12)
section
variable {m t rd tn : Nat} {tp : Nat → Int32} {th ea : Int32} {L : List tokV} {h0 : hp_M} {nr : Nat} {Z : zV} {h : hp_M} {p d : Nat} {E : List evV} {Rl : List (Nat × Nat)}
theorem OM.ok {l : List evV} {q : Nat} {z : Option (Int32 × hp_M)} {h' : hp_M} (e : z = some (1, h')) (c : MR m t rd tn tp th ea L h0 nr Z h' q d (E ++ l) (Rl ++ evRs l)) : OM m t rd tn tp th ea L h0 nr Z (true, q, l) d E Rl z := ⟨fun _ => ⟨h', e, c⟩, fun q => by cases q⟩
theorem OM.ok0 {z : Option (Int32 × hp_M)} {h' : hp_M} (e : z = some (1, h')) (c : MR m t rd tn tp th ea L h0 nr Z h' p d E Rl) : OM m t rd tn tp th ea L h0 nr Z (true, p, []) d E Rl z := OM.ok e (by rw [List.append_nil, show evRs [] = [] from rfl, List.append_nil]; exact c)
theorem OM.no {q : Nat} {z : Option (Int32 × hp_M)} {h' : hp_M} (e : z = some (0, h')) (c : MF m t rd tn tp th ea L h0 h' q) : OM m t rd tn tp th ea L h0 nr Z (gFl q) d E Rl z := ⟨(fun q => by cases q), fun _ => ⟨h', e, c⟩⟩
theorem OM.call {res : resV} {z : Option (Int32 × hp_M)} {P : Option (Int32 × hp_M) → Prop} {F : Int32 × hp_M → Option (Int32 × hp_M)} (o : OM m t rd tn tp th ea L h0 nr Z res d E Rl z) (hs : res.1 = true → ∀ h', MR m t rd tn tp th ea L h0 nr Z h' res.2.1 d (E ++ res.2.2) (Rl ++ evRs res.2.2) → P (F (1, h'))) (hf : res.1 = false → ∀ h', MF m t rd tn tp th ea L h0 h' res.2.1 → P (F (0, h'))) : P (z.bind F) := by
  cases q : res.1 with
  | true =>
    obtain ⟨h', e, c⟩ := o.1 q
    rw [e]
    exact hs q h' c
  | false =>
    obtain ⟨h', e, c⟩ := o.2 q
    rw [e]
    exact hf q h' c
theorem OM.pre {res : resV} {z : Option (Int32 × hp_M)} {l : List evV} (o : OM m t rd tn tp th ea L h0 nr Z res d (E ++ l) (Rl ++ evRs l) z) : OM m t rd tn tp th ea L h0 nr Z (res.1, res.2.1, l ++ res.2.2) d E Rl z := by
  refine ⟨fun q => ?_, o.2⟩
  obtain ⟨h', e, c⟩ := o.1 q
  refine ⟨h', e, ?_⟩
  dsimp only
  rw [evRs_app, ← List.append_assoc, ← List.append_assoc]
  exact c
/-- a plain step behind what was read -/
theorem MR.plus {l : List evV} {k q : Nat} {X : Int32} (c : MR m t rd tn tp th ea L h0 nr Z h q d (E ++ l) (Rl ++ evRs l)) (hl : wsm (E ++ l) < 1200) (hk : pln k) (eX : X = ix (cod k)) : ∃ h', onO h m 12 (f_Md_put m X h) = some h' ∧ MR m t rd tn tp th ea L h0 nr Z h' q d (E ++ (l ++ [(k, 0, 0)])) (Rl ++ evRs (l ++ [(k, 0, 0)])) := by
  obtain ⟨h', e, c'⟩ := c.plain hl hk eX
  refine ⟨h', e, ?_⟩
  have o0 : osn k = 0 := by unfold osn; rw [if_neg (by have := hk.2.2; omega), if_neg hk.2.1]
  have er : evRs [(k, 0, 0)] = [] := by rw [evRs_one]; unfold evR; dsimp only; rw [o0]; rfl
  rw [evRs_app, er, List.append_nil, ← List.append_assoc]
  exact c'
theorem cod_op : ∀ k, k < 42 → (opPro k = true ∨ opSum k = true ∨ opAnd k = true ∨ opOr k = true ∨ 37 ≤ k ∨ k = 24 ∨ k = 25 ∨ k = 19 ∨ k = 20) → pln (stp k) := fun k hk o => stp_pln k hk o
/-- one more turn of a row -/
theorem row_turn {v : Nat → resV} {op : Nat → Bool} {n : Nat} {X : Int32} {rcall loop : hp_M → Option (Int32 × hp_M)} (hv : CM m t rd tn tp th ea L h0 nr Z d rcall v) (vB : ∀ q, q < L.length → gB L.length 1 q (v q)) (hw : wsm E ≤ 2 * p) (ho : osm E ≤ p) (c1 : MR m t rd tn tp th ea L h0 nr Z h (p + 1) d E Rl) (sp : pln (stp (kdp L p))) (eX : X = ix (cod (stp (kdp L p)))) (hl : ∀ h' q E' Rl', p + 1 < q → wsm E' ≤ 2 * q → osm E' ≤ q → MR m t rd tn tp th ea L h0 nr Z h' q d E' Rl' → OM m t rd tn tp th ea L h0 nr Z (gLp (kdp L) v op n q) d E' Rl' (loop h')) : OM m t rd tn tp th ea L h0 nr Z (if (v (p + 1)).1 = true then ((gLp (kdp L) v op n (v (p + 1)).2.1).1, (gLp (kdp L) v op n (v (p + 1)).2.1).2.1, (v (p + 1)).2.2 ++ (stp (kdp L p), 0, 0) :: (gLp (kdp L) v op n (v (p + 1)).2.1).2.2) else gFl (v (p + 1)).2.1) d E Rl ((rcall h).bind fun r1 => if r1.1 = 0 then (some (0, r1.2)) else ((onO r1.2 m 12 (f_Md_put m X r1.2)).bind fun h3 => loop h3)) := by
  have pL := c1.pL
  have pl := c1.pl
  obtain ⟨b1, b2, b3⟩ := vB (p + 1) c1.pl
  refine OM.call (hv h (p + 1) E Rl (by omega) (by omega) c1) (fun q h2 c2 => ?_) (fun q h2 c2 => ?_)
  · rw [if_pos q]
    obtain ⟨d1, d2, d3, d4⟩ := b3 q
    refine dg_n z10 ?_
    obtain ⟨h3, e3, c3⟩ := c2.plus (k := stp (kdp L p)) (by rw [wsm_app]; omega) sp eX
    refine dg_b e3 ?_
    have w1 : wid (stp (kdp L p)) = 1 := by
      have o0 : osn (stp (kdp L p)) = 0 := by unfold osn; rw [if_neg (by have := sp.2.2; omega), if_neg sp.2.1]
      rw [osn_wid _ sp.1, o0]
    have o1 : osn (stp (kdp L p)) = 0 := by unfold osn; rw [if_neg (by have := sp.2.2; omega), if_neg sp.2.1]
    have o := OM.pre (hl h3 _ _ _ (by omega) (by rw [wsm_app, wsm_app, wsm_cons, wsm_nil, w1]; omega) (by rw [osm_app, osm_app, osm_cons, osm_nil, o1]; omega) c3)
    rw [List.append_assoc] at o
    exact o
  · rw [if_neg (by rw [q]; decide)]
    refine dg_p rfl ?_
    exact OM.no rfl c2
theorem mpro_b {fl : Nat} {rc : Nat → Nat → hp_M → Option (Int32 × hp_M)} {v : Nat → resV} (hv : CM m t rd tn tp th ea L h0 nr Z d (fun h => onO h m 12 (rc 2 m h)) v) (vB : ∀ q, q < L.length → gB L.length 1 q (v q)) : ∀ n fu (h : hp_M) (p : Nat) (E : List evV) (Rl : List (Nat × Nat)), n < fu → L.length ≤ p + n → wsm E ≤ 2 * p → osm E ≤ p → MR m t rd tn tp th ea L h0 nr Z h p d E Rl → OM m t rd tn tp th ea L h0 nr Z (gLp (kdp L) v opPro n p) d E Rl (f_Md_isProduct_b9 fl rc m fu h) := by
  intro n
  induction n with
  | zero => intro fu h p E Rl _ hp _ _ c; have := c.pl; omega
  | succ n ih =>
    intro fu h p E Rl hf hp hw ho c
    obtain ⟨fu, rfl⟩ : ∃ q, fu = q + 1 := ⟨fu - 1, by omega⟩
    have k42 := c.k42
    unfold f_Md_isProduct_b9 gLp
    by_cases z : kdp L p = 34 ∨ kdp L p = 35 ∨ kdp L p = 36
    · have z' : opPro (kdp L p) = true := decide_eq_true z
      rw [if_pos z']
      have body : ∀ X : Int32, X = ix (cod (stp (kdp L p))) → OM m t rd tn tp th ea L h0 nr Z (if (v (p + 1)).1 = true then ((gLp (kdp L) v opPro n (v (p + 1)).2.1).1, (gLp (kdp L) v opPro n (v (p + 1)).2.1).2.1, (v (p + 1)).2.2 ++ (stp (kdp L p), 0, 0) :: (gLp (kdp L) v opPro n (v (p + 1)).2.1).2.2) else gFl (v (p + 1)).2.1) d E Rl ((fun (u1009 : Int32) => (gI h m 12 9).bind fun v1010 => (pF h m 12 9 (.int (v1010 + 1))).bind fun h1011 => (onO h1011 m 12 (rc 2 m h1011)).bind fun r1012 => if r1012.1 = 0 then (some (0, r1012.2)) else ((onO r1012.2 m 12 (f_Md_put m u1009 r1012.2)).bind fun h1014 => f_Md_isProduct_b9 fl rc m fu h1014)) X) := by
        intro X eX
        obtain ⟨h1, e1, c1⟩ := c.step (by omega)
        refine dg_b c.mo.r9 ?_
        refine dg_b e1 ?_
        exact row_turn hv vB hw ho c1 (cod_op _ k42 (Or.inl z')) eX (fun h' q E' Rl' a b b' c' => ih fu h' q E' Rl' (by omega) (by omega) b b' c')
      have inner : OM m t rd tn tp th ea L h0 nr Z (if (v (p + 1)).1 = true then ((gLp (kdp L) v opPro n (v (p + 1)).2.1).1, (gLp (kdp L) v opPro n (v (p + 1)).2.1).2.1, (v (p + 1)).2.2 ++ (stp (kdp L p), 0, 0) :: (gLp (kdp L) v opPro n (v (p + 1)).2.1).2.2) else gFl (v (p + 1)).2.1) d E Rl (jn (fun (u1009 : Int32) => (gI h m 12 9).bind fun v1010 => (pF h m 12 9 (.int (v1010 + 1))).bind fun h1011 => (onO h1011 m 12 (rc 2 m h1011)).bind fun r1012 => if r1012.1 = 0 then (some (0, r1012.2)) else ((onO r1012.2 m 12 (f_Md_put m u1009 r1012.2)).bind fun h1014 => f_Md_isProduct_b9 fl rc m fu h1014)) fun (j1008 : Int32 → Option (Int32 × hp_M)) => (onO h m 12 (f_Md_isSign m 42 h)).bind fun r1015 => if r1015 = 0 then ((onO h m 12 (f_Md_isSign m 47 h)).bind fun r1017 => if r1017 = 0 then (j1008 46) else (j1008 45)) else (j1008 44)) := by
        refine dg_j ?_
        by_cases y : kdp L p = 34
        · refine dg_b (c.sgY (k := 34) (by omega) rfl y) ?_
          exact dg_n z10 (body 44 (by rw [y]; rfl))
        · refine dg_b (c.sgN (k := 34) (by omega) rfl y) ?_
          refine dg_p rfl ?_
          by_cases y2 : kdp L p = 35
          · refine dg_b (c.sgY (k := 35) (by omega) rfl y2) ?_
            exact dg_n z10 (body 45 (by rw [y2]; rfl))
          · refine dg_b (c.sgN (k := 35) (by omega) rfl y2) ?_
            exact dg_p rfl (body 46 (by rw [show kdp L p = 36 by omega]; rfl))
      refine dg_j ?_
      by_cases y : kdp L p = 34
      · refine dg_b (c.sgY (k := 34) (by omega) rfl y) ?_
        exact dg_n z10 inner
      · refine dg_b (c.sgN (k := 34) (by omega) rfl y) ?_
        refine dg_p rfl ?_
        by_cases y2 : kdp L p = 35
        · refine dg_b (c.sgY (k := 35) (by omega) rfl y2) ?_
          exact dg_n z10 inner
        · refine dg_b (c.sgN (k := 35) (by omega) rfl y2) ?_
          refine dg_p rfl ?_
          refine dg_b (c.sgY (k := 36) (by omega) rfl (by omega)) ?_
          exact dg_n z10 inner
    · rw [if_neg (show ¬ opPro (kdp L p) = true from fun q => z (of_decide_eq_true q))]
      refine dg_j ?_
      refine dg_b (c.sgN (k := 34) (by omega) rfl (by omega)) ?_
      refine dg_p rfl ?_
      refine dg_b (c.sgN (k := 35) (by omega) rfl (by omega)) ?_
      refine dg_p rfl ?_
      refine dg_b (c.sgN (k := 36) (by omega) rfl (by omega)) ?_
      refine dg_p rfl ?_
      exact OM.ok0 rfl c
theorem msum_b {fl : Nat} {rc : Nat → Nat → hp_M → Option (Int32 × hp_M)} {v : Nat → resV} (hv : CM m t rd tn tp th ea L h0 nr Z d (fun h => onO h m 12 (rc 0 m h)) v) (vB : ∀ q, q < L.length → gB L.length 1 q (v q)) : ∀ n fu (h : hp_M) (p : Nat) (E : List evV) (Rl : List (Nat × Nat)), n < fu → L.length ≤ p + n → wsm E ≤ 2 * p → osm E ≤ p → MR m t rd tn tp th ea L h0 nr Z h p d E Rl → OM m t rd tn tp th ea L h0 nr Z (gLp (kdp L) v opSum n p) d E Rl (f_Md_isSum_b9 fl rc m fu h) := by
  intro n
  induction n with
  | zero => intro fu h p E Rl _ hp _ _ c; have := c.pl; omega
  | succ n ih =>
    intro fu h p E Rl hf hp hw ho c
    obtain ⟨fu, rfl⟩ : ∃ q, fu = q + 1 := ⟨fu - 1, by omega⟩
    have k42 := c.k42
    unfold f_Md_isSum_b9 gLp
    by_cases z : kdp L p = 32 ∨ kdp L p = 33
    · have z' : opSum (kdp L p) = true := decide_eq_true z
      rw [if_pos z']
      have body : ∀ X : Int32, X = ix (cod (stp (kdp L p))) → OM m t rd tn tp th ea L h0 nr Z (if (v (p + 1)).1 = true then ((gLp (kdp L) v opSum n (v (p + 1)).2.1).1, (gLp (kdp L) v opSum n (v (p + 1)).2.1).2.1, (v (p + 1)).2.2 ++ (stp (kdp L p), 0, 0) :: (gLp (kdp L) v opSum n (v (p + 1)).2.1).2.2) else gFl (v (p + 1)).2.1) d E Rl ((fun (u1008 : Int32) => (gI h m 12 9).bind fun v1009 => (pF h m 12 9 (.int (v1009 + 1))).bind fun h1010 => (onO h1010 m 12 (rc 0 m h1010)).bind fun r1011 => if r1011.1 = 0 then (some (0, r1011.2)) else ((onO r1011.2 m 12 (f_Md_put m u1008 r1011.2)).bind fun h1013 => f_Md_isSum_b9 fl rc m fu h1013)) X) := by
        intro X eX
        obtain ⟨h1, e1, c1⟩ := c.step (by omega)
        refine dg_b c.mo.r9 ?_
        refine dg_b e1 ?_
        exact row_turn hv vB hw ho c1 (cod_op _ k42 (Or.inr (Or.inl z'))) eX (fun h' q E' Rl' a b b' c' => ih fu h' q E' Rl' (by omega) (by omega) b b' c')
      have inner : OM m t rd tn tp th ea L h0 nr Z (if (v (p + 1)).1 = true then ((gLp (kdp L) v opSum n (v (p + 1)).2.1).1, (gLp (kdp L) v opSum n (v (p + 1)).2.1).2.1, (v (p + 1)).2.2 ++ (stp (kdp L p), 0, 0) :: (gLp (kdp L) v opSum n (v (p + 1)).2.1).2.2) else gFl (v (p + 1)).2.1) d E Rl (jn (fun (u1008 : Int32) => (gI h m 12 9).bind fun v1009 => (pF h m 12 9 (.int (v1009 + 1))).bind fun h1010 => (onO h1010 m 12 (rc 0 m h1010)).bind fun r1011 => if r1011.1 = 0 then (some (0, r1011.2)) else ((onO r1011.2 m 12 (f_Md_put m u1008 r1011.2)).bind fun h1013 => f_Md_isSum_b9 fl rc m fu h1013)) fun (j1007 : Int32 → Option (Int32 × hp_M)) => (onO h m 12 (f_Md_isSign m 43 h)).bind fun r1014 => if r1014 = 0 then (j1007 43) else (j1007 42)) := by
        refine dg_j ?_
        by_cases y : kdp L p = 32
        · refine dg_b (c.sgY (k := 32) (by omega) rfl y) ?_
          exact dg_n z10 (body 42 (by rw [y]; rfl))
        · refine dg_b (c.sgN (k := 32) (by omega) rfl y) ?_
          exact dg_p rfl (body 43 (by rw [show kdp L p = 33 by omega]; rfl))
      refine dg_j ?_
      by_cases y : kdp L p = 32
      · refine dg_b (c.sgY (k := 32) (by omega) rfl y) ?_
        exact dg_n z10 inner
      · refine dg_b (c.sgN (k := 32) (by omega) rfl y) ?_
        refine dg_p rfl ?_
        refine dg_b (c.sgY (k := 33) (by omega) rfl (by omega)) ?_
        exact dg_n z10 inner
    · rw [if_neg (show ¬ opSum (kdp L p) = true from fun q => z (of_decide_eq_true q))]
      refine dg_j ?_
      refine dg_b (c.sgN (k := 32) (by omega) rfl (by omega)) ?_
      refine dg_p rfl ?_
      refine dg_b (c.sgN (k := 33) (by omega) rfl (by omega)) ?_
      refine dg_p rfl ?_
      exact OM.ok0 rfl c
theorem mboth_b {fl : Nat} {rc : Nat → Nat → hp_M → Option (Int32 × hp_M)} {v : Nat → resV} (hv : CM m t rd tn tp th ea L h0 nr Z d (fun h => onO h m 12 (rc 1 m h)) v) (vB : ∀ q, q < L.length → gB L.length 1 q (v q)) : ∀ n fu (h : hp_M) (p : Nat) (E : List evV) (Rl : List (Nat × Nat)), n < fu → L.length ≤ p + n → wsm E ≤ 2 * p → osm E ≤ p → MR m t rd tn tp th ea L h0 nr Z h p d E Rl → OM m t rd tn tp th ea L h0 nr Z (gLp (kdp L) v opAnd n p) d E Rl (f_Md_isBoth_b9 fl rc m fu h) := by
  intro n
  induction n with
  | zero => intro fu h p E Rl _ hp _ _ c; have := c.pl; omega
  | succ n ih =>
    intro fu h p E Rl hf hp hw ho c
    obtain ⟨fu, rfl⟩ : ∃ q, fu = q + 1 := ⟨fu - 1, by omega⟩
    have k42 := c.k42
    unfold f_Md_isBoth_b9 gLp
    by_cases z : kdp L p = 22
    · have z' : opAnd (kdp L p) = true := decide_eq_true z
      rw [if_pos z']
      obtain ⟨h1, e1, c1⟩ := c.eatY (k := 22) (X := 18) (by omega) (by omega) rfl z
      refine dg_b e1 ?_
      refine dg_n z10 ?_
      exact row_turn hv vB hw ho c1 (cod_op _ k42 (Or.inr (Or.inr (Or.inl z')))) (by rw [z]; rfl) (fun h' q E' Rl' a b b' c' => ih fu h' q E' Rl' (by omega) (by omega) b b' c')
    · rw [if_neg (show ¬ opAnd (kdp L p) = true from fun q => z (of_decide_eq_true q))]
      refine dg_b (c.eatN (k := 22) (X := 18) (by omega) rfl z) ?_
      refine dg_p rfl ?_
      exact OM.ok0 rfl c
theorem mtest_b {fl : Nat} {rc : Nat → Nat → hp_M → Option (Int32 × hp_M)} {v : Nat → resV} (hv : CM m t rd tn tp th ea L h0 nr Z d (fun h => onO h m 12 (rc 0 m h)) v) (vB : ∀ q, q < L.length → gB L.length 1 q (v q)) : ∀ n fu (h : hp_M) (p : Nat) (E : List evV) (Rl : List (Nat × Nat)), n < fu → L.length ≤ p + n → wsm E ≤ 2 * p → osm E ≤ p → MR m t rd tn tp th ea L h0 nr Z h p d E Rl → OM m t rd tn tp th ea L h0 nr Z (gLp (kdp L) v opOr n p) d E Rl (f_Md_isTest_b9 fl rc m fu h) := by
  intro n
  induction n with
  | zero => intro fu h p E Rl _ hp _ _ c; have := c.pl; omega
  | succ n ih =>
    intro fu h p E Rl hf hp hw ho c
    obtain ⟨fu, rfl⟩ : ∃ q, fu = q + 1 := ⟨fu - 1, by omega⟩
    have k42 := c.k42
    unfold f_Md_isTest_b9 gLp
    by_cases z : kdp L p = 23
    · have z' : opOr (kdp L p) = true := decide_eq_true z
      rw [if_pos z']
      obtain ⟨h1, e1, c1⟩ := c.eatY (k := 23) (X := 19) (by omega) (by omega) rfl z
      refine dg_b e1 ?_
      refine dg_n z10 ?_
      exact row_turn hv vB hw ho c1 (cod_op _ k42 (Or.inr (Or.inr (Or.inr (Or.inl z'))))) (by rw [z]; rfl) (fun h' q E' Rl' a b b' c' => ih fu h' q E' Rl' (by omega) (by omega) b b' c')
    · rw [if_neg (show ¬ opOr (kdp L p) = true from fun q => z (of_decide_eq_true q))]
      refine dg_b (c.eatN (k := 23) (X := 19) (by omega) rfl z) ?_
      refine dg_p rfl ?_
      exact OM.ok0 rfl c
theorem mseq_of {v : Nat → resV} {op : Nat → Bool} {z : Option (Int32 × hp_M)} {F : hp_M → Option (Int32 × hp_M)} (c : MR m t rd tn tp th ea L h0 nr Z h p d E Rl) (hw : wsm E ≤ 2 * p) (ho : osm E ≤ p) (vB : gB L.length 1 p (v p)) (o : OM m t rd tn tp th ea L h0 nr Z (v p) d E Rl z) (hF : ∀ (h : hp_M) (p : Nat) (E : List evV) (Rl : List (Nat × Nat)), L.length ≤ p + 400 → wsm E ≤ 2 * p → osm E ≤ p → MR m t rd tn tp th ea L h0 nr Z h p d E Rl → OM m t rd tn tp th ea L h0 nr Z (gLp (kdp L) v op 400 p) d E Rl (F h)) : OM m t rd tn tp th ea L h0 nr Z (gSq (kdp L) v op p) d E Rl (z.bind fun r1 => if r1.1 = 0 then (some (0, r1.2)) else F r1.2) := by
  have pL := c.pL
  obtain ⟨b1, b2, b3⟩ := vB
  unfold gSq
  refine OM.call o (fun q h2 c2 => ?_) (fun q h2 c2 => ?_)
  · rw [if_pos q]
    obtain ⟨d1, d2, d3, d4⟩ := b3 q
    refine dg_n z10 ?_
    exact OM.pre (hF h2 _ _ _ (by omega) (by rw [wsm_app]; omega) (by rw [osm_app]; omega) c2)
  · rw [if_neg (by rw [q]; decide)]
    refine dg_p rfl ?_
    exact OM.no rfl c2
end
