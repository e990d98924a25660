/-! The class's reader in the midst of a text: its state, and its smallest steps. -/
def CR (w : hp_W) (r tpA dr tn : Nat) (tp : Nat → Int32) (L : List tokV) (h0 h : hp_M) (p : Nat) (e ep lt : Int32) (B : bkV) : Prop :=
  (r + 9 ≤ h.2 ∧ tpA + 2 ≤ dr ∧ dr + 34 ≤ r ∧ okK L ∧ p < L.length ∧ okT tn tp) ∧ h.1 r = some (oC 5 [.ref (r + 3), .ref (r + 1), .ref dr, .int e, .int ep, .int lt]) ∧ (∃ l, is_Al h (r + 1) l) ∧
  (∃ (pl : Int32) (wd : Int64) (nb : Int32), h.1 (r + 3) = some (scC (r + 3) tpA (ix L.length) (ix p) pl wd nb)) ∧ sc_ar w h (r + 3) tp L ∧ is_Tp h tpA tn tp ∧ is_BK h dr B ∧ (f2 dr (dr + 34) r (r + 9) h0 h ∧ h.2 = h0.2)
theorem sc_ar.keep {w : hp_W} {h h' : hp_M} {s lo hi : Nat} {tp : Nat → Int32} {L : List tokV} (a : sc_ar w h s tp L) (r : fr lo hi h h') (hz : s + 6 ≤ h.2) (ho : s + 6 ≤ lo ∨ hi ≤ s + 1) : sc_ar w h' s tp L := by
  obtain ⟨gk, gs, gl, gw, gn, a1, a2, a3, a4, a5, a6⟩ := a
  exact ⟨gk, gs, gl, gw, gn, r.cell a1 (by omega) (by omega), r.cell a2 (by omega) (by omega), r.cell a3 (by omega) (by omega), r.cell a4 (by omega) (by omega), r.cell a5 (by omega) (by omega), a6⟩
def kdp (L : List tokV) (p : Nat) : Nat := (tkn L p).1
section
variable {w : hp_W} {r tpA dr tn : Nat} {tp : Nat → Int32} {L : List tokV} {h0 h : hp_M} {p : Nat} {e ep lt : Int32} {B : bkV}
theorem CR.on {β : Type} (c : CR w r tpA dr tn tp L h0 h p e ep lt B) (g : Option β) : onO h r 5 g = g := onO_of c.2.1
theorem CR.r0 (c : CR w r tpA dr tn tp L h0 h p e ep lt B) : gR h r 5 0 = some (r + 3) := gR_of c.2.1 rfl
theorem CR.r1 (c : CR w r tpA dr tn tp L h0 h p e ep lt B) : gR h r 5 1 = some (r + 1) := gR_of c.2.1 rfl
theorem CR.r2 (c : CR w r tpA dr tn tp L h0 h p e ep lt B) : gR h r 5 2 = some dr := gR_of c.2.1 rfl
theorem CR.r3 (c : CR w r tpA dr tn tp L h0 h p e ep lt B) : gI h r 5 3 = some e := gI_of c.2.1 rfl
theorem CR.r4 (c : CR w r tpA dr tn tp L h0 h p e ep lt B) : gI h r 5 4 = some ep := gI_of c.2.1 rfl
theorem CR.r5 (c : CR w r tpA dr tn tp L h0 h p e ep lt B) : gI h r 5 5 = some lt := gI_of c.2.1 rfl
theorem CR.son {β : Type} (c : CR w r tpA dr tn tp L h0 h p e ep lt B) (g : Option β) : onO h (r + 3) 6 g = g := by
  obtain ⟨_, _, _, ⟨pl, wd, nb, q⟩, _⟩ := c
  exact sc_on q g
theorem CR.bk (c : CR w r tpA dr tn tp L h0 h p e ep lt B) : is_BK h dr B := c.2.2.2.2.2.2.1
theorem CR.bon {β : Type} (c : CR w r tpA dr tn tp L h0 h p e ep lt B) (g : Option β) : onO h dr 1 g = g := is_Bk.on c.bk g
theorem CR.okk (c : CR w r tpA dr tn tp L h0 h p e ep lt B) : okK L := c.1.2.2.2.1
theorem CR.okt (c : CR w r tpA dr tn tp L h0 h p e ep lt B) : okT tn tp := c.1.2.2.2.2.2
theorem CR.pl (c : CR w r tpA dr tn tp L h0 h p e ep lt B) : p < L.length := c.1.2.2.2.2.1
theorem CR.pL (c : CR w r tpA dr tn tp L h0 h p e ep lt B) : L.length ≤ 401 := c.okk.2.1
theorem CR.k42 (c : CR w r tpA dr tn tp L h0 h p e ep lt B) : kdp L p < 42 := (c.okk.2.2 p c.pl).1
theorem CR.nxt (c : CR w r tpA dr tn tp L h0 h p e ep lt B) (hk : 2 ≤ kdp L p) : p + 1 < L.length := (c.okk.2.2 p c.pl).2.mpr hk
theorem kd_eq (ow : okW w) {i j : Nat} (hi : i < 42) (hj : j < 42) : w_kd w i = w_kd w j ↔ i = j := ⟨ow.1 i j hi hj, fun q => by rw [q]⟩
theorem CR.isAt (c : CR w r tpA dr tn tp L h0 h p e ep lt B) (ow : okW w) {k : Nat} (hk : k < 42) : f_Sc_isAt (r + 3) (w_kd w k) h = some (if kdp L p = k then 1 else 0) := by
  have k42 := c.k42
  have pL := c.pL
  have pl := c.pl
  obtain ⟨_, _, _, ⟨x1, x2, x3, q⟩, ⟨gk, gs, gl, gw, gn, a1, a2, a3, a4, a5, a6⟩, _⟩ := c
  obtain ⟨b1, b2, b3, b4, b5⟩ := a6 p pl
  have e1 : gaR h 2 (r + 3 + 1) (ix p) = some (w_kd w (kdp L p)) := by rw [gaR_of a1 (by omega) (by omega)]; exact b1
  unfold f_Sc_isAt jn; dsimp only
  simp only [sc_r7 q, sc_r6 q, sc_r1 q, e1, Option.bind_some]
  rw [if_neg (ix_nle pl (by omega))]
  by_cases z : kdp L p = k
  · rw [if_pos (by rw [z]), if_pos z]
  · rw [if_neg (fun x => z ((kd_eq ow k42 hk).mp x)), if_neg z]
theorem CR.isY (c : CR w r tpA dr tn tp L h0 h p e ep lt B) (ow : okW w) {k : Nat} (hk : k < 42) (z : kdp L p = k) : onO h (r + 3) 6 (f_Sc_isAt (r + 3) (w_kd w k) h) = some 1 := by rw [c.son, c.isAt ow hk, if_pos z]
theorem CR.isN (c : CR w r tpA dr tn tp L h0 h p e ep lt B) (ow : okW w) {k : Nat} (hk : k < 42) (z : kdp L p ≠ k) : onO h (r + 3) 6 (f_Sc_isAt (r + 3) (w_kd w k) h) = some 0 := by rw [c.son, c.isAt ow hk, if_neg z]
theorem CR.kind (c : CR w r tpA dr tn tp L h0 h p e ep lt B) : onO h (r + 3) 6 (f_Sc_kind w (r + 3) h) = some (w_kd w (kdp L p)) := by
  rw [c.son]
  have pL := c.pL
  have pl := c.pl
  obtain ⟨_, _, _, ⟨x1, x2, x3, q⟩, ⟨gk, gs, gl, gw, gn, a1, a2, a3, a4, a5, a6⟩, _⟩ := c
  obtain ⟨b1, b2, b3, b4, b5⟩ := a6 p pl
  have e1 : gaR h 2 (r + 3 + 1) (ix p) = some (w_kd w (kdp L p)) := by rw [gaR_of a1 (by omega) (by omega)]; exact b1
  unfold f_Sc_kind
  simp only [sc_r7 q, sc_r6 q, sc_r1 q, e1, Option.bind_some]
  rw [if_neg (ix_nle pl (by omega))]
theorem kstep_of (ow : okW w) {k : Nat} (hk : k < 42) (h : hp_M) : f_Kd_step w (w_kd w k) h = some (kd_st.getD k 0) := by
  unfold f_Kd_step
  rw [kStep_of ow hk]; rfl
theorem CR.start (c : CR w r tpA dr tn tp L h0 h p e ep lt B) : onO h (r + 3) 6 (f_Sc_start (r + 3) h) = some (ix (tkn L p).2.1) := by
  rw [c.son]
  have pL := c.pL
  have pl := c.pl
  obtain ⟨_, _, _, ⟨x1, x2, x3, q⟩, ⟨gk, gs, gl, gw, gn, a1, a2, a3, a4, a5, a6⟩, _⟩ := c
  obtain ⟨b1, b2, b3, b4, b5⟩ := a6 p pl
  have e1 : gaI h (r + 3 + 2) (ix p) = some (ix (tkn L p).2.1) := by rw [gaI_of a2 (by omega) (by omega), b2]
  unfold f_Sc_start
  simp only [sc_r7 q, sc_r6 q, sc_r2 q, e1, Option.bind_some]
  rw [if_neg (ix_nle pl (by omega))]
theorem CR.leng (c : CR w r tpA dr tn tp L h0 h p e ep lt B) : onO h (r + 3) 6 (f_Sc_length (r + 3) h) = some (ix (tkn L p).2.2) := by
  rw [c.son]
  have pL := c.pL
  have pl := c.pl
  obtain ⟨_, _, _, ⟨x1, x2, x3, q⟩, ⟨gk, gs, gl, gw, gn, a1, a2, a3, a4, a5, a6⟩, _⟩ := c
  obtain ⟨b1, b2, b3, b4, b5⟩ := a6 p pl
  have e1 : gaI h (r + 3 + 3) (ix p) = some (ix (tkn L p).2.2) := by rw [gaI_of a3 (by omega) (by omega), b3]
  unfold f_Sc_length
  simp only [sc_r7 q, sc_r6 q, sc_r3 q, e1, Option.bind_some]
  rw [if_neg (ix_nle pl (by omega))]
def tbt (tp : Nat → Int32) (L : List tokV) (i : Nat) : List Int32 := bts tp (tkn L i).2.1 (tkn L i).2.2
theorem CR.word (c : CR w r tpA dr tn tp L h0 h p e ep lt B) (hk : kdp L p = 2) : onO h (r + 3) 6 (f_Sc_word (r + 3) h) = some (wcL 0 (tbt tp L p)) := by
  rw [c.son]
  have pL := c.pL
  have pl := c.pl
  obtain ⟨_, _, _, ⟨x1, x2, x3, q⟩, ⟨gk, gs, gl, gw, gn, a1, a2, a3, a4, a5, a6⟩, _⟩ := c
  obtain ⟨b1, b2, b3, b4, b5⟩ := a6 p pl
  have e1 : gaL h (r + 3 + 4) (ix p) = some (wcL 0 (tbt tp L p)) := by rw [gaL_of a4 (by omega) (by omega), b4 hk]; rfl
  unfold f_Sc_word
  simp only [sc_r7 q, sc_r6 q, sc_r4 q, e1, Option.bind_some]
  rw [if_neg (ix_nle pl (by omega))]
theorem CR.numb (c : CR w r tpA dr tn tp L h0 h p e ep lt B) (hk : kdp L p = 3) : onO h (r + 3) 6 (f_Sc_number (r + 3) h) = some (nvL 0 (tbt tp L p)) := by
  rw [c.son]
  have pL := c.pL
  have pl := c.pl
  obtain ⟨_, _, _, ⟨x1, x2, x3, q⟩, ⟨gk, gs, gl, gw, gn, a1, a2, a3, a4, a5, a6⟩, _⟩ := c
  obtain ⟨b1, b2, b3, b4, b5⟩ := a6 p pl
  have e1 : gaI h (r + 3 + 5) (ix p) = some (nvL 0 (tbt tp L p)) := by rw [gaI_of a5 (by omega) (by omega), b5 hk]; rfl
  unfold f_Sc_number
  simp only [sc_r7 q, sc_r6 q, sc_r5 q, e1, Option.bind_some]
  rw [if_neg (ix_nle pl (by omega))]
theorem CR.sign (c : CR w r tpA dr tn tp L h0 h p e ep lt B) {j : Nat} (hj : (tkn L p).2.1 + j < tn) : onO h (r + 3) 6 (f_Sc_signAt (r + 3) (ix j) h) = some (tp ((tkn L p).2.1 + j)) := by
  rw [c.son]
  have pL := c.pL
  have pl := c.pl
  obtain ⟨_, _, _, ⟨x1, x2, x3, q⟩, ⟨gk, gs, gl, gw, gn, a1, a2, a3, a4, a5, a6⟩, t, _⟩ := c
  obtain ⟨b1, b2, b3, b4, b5⟩ := a6 p pl
  have e1 : gaI h (r + 3 + 2) (ix p) = some (ix (tkn L p).2.1) := by rw [gaI_of a2 (by omega) (by omega), b2]
  unfold f_Sc_signAt
  simp only [sc_r7 q, sc_r6 q, sc_r2 q, sc_r0 q, e1, ix_add, t.on, t.at hj, Option.bind_some]
  rw [if_neg (ix_nle pl (by omega))]
/-- the front goes on -/
theorem CR.step (c : CR w r tpA dr tn tp L h0 h p e ep lt B) (hp : p + 1 < L.length) : ∃ h', pF h (r + 3) 6 7 (.int (ix (p + 1))) = some h' ∧ CR w r tpA dr tn tp L h0 h' (p + 1) e ep lt B := by
  obtain ⟨⟨q1, q2, q3, q4, q5, q6⟩, c1, ⟨l, c2⟩, ⟨x1, x2, x3, q⟩, c4, c5, c6, c7, c8⟩ := c
  have f : fr (r + 3) (r + 4) h (wr h (r + 3) (scC (r + 3) tpA (ix L.length) (ix (p + 1)) x1 x2 x3)) := wr_fr _ _ _
  refine ⟨_, sc_p7 q (ix (p + 1)), ⟨q1, q2, q3, q4, hp, q6⟩, f.cell c1 (by omega) (by omega), ⟨l, c2.keep f (by omega)⟩, ⟨x1, x2, x3, wr_self _ _ _⟩, c4.keep f (by omega) (by omega), c5.keep f (by omega), c6.keep f (by omega), c7.trans (f.to2 (by omega)), c8⟩
theorem CR.takeY (c : CR w r tpA dr tn tp L h0 h p e ep lt B) (ow : okW w) {k : Nat} (hk : k < 42) (k2 : 2 ≤ k) (z : kdp L p = k) : ∃ h', onO h (r + 3) 6 (f_Sc_take (r + 3) (w_kd w k) h) = some (1, h') ∧ CR w r tpA dr tn tp L h0 h' (p + 1) e ep lt B := by
  have k42 := c.k42
  have pL := c.pL
  have pl := c.pl
  obtain ⟨h', e1, c'⟩ := c.step (c.nxt (by omega))
  refine ⟨h', ?_, c'⟩
  rw [c.son]
  obtain ⟨_, _, _, ⟨x1, x2, x3, q⟩, ⟨gk, gs, gl, gw, gn, a1, a2, a3, a4, a5, a6⟩, _⟩ := c
  obtain ⟨b1, b2, b3, b4, b5⟩ := a6 p pl
  have e2 : gaR h 2 (r + 3 + 1) (ix p) = some (w_kd w (kdp L p)) := by rw [gaR_of a1 (by omega) (by omega)]; exact b1
  unfold f_Sc_take
  simp only [sc_r7 q, sc_r6 q, sc_r1 q, e2, ixp1, e1, Option.bind_some]
  rw [if_neg (ix_nle pl (by omega)), if_pos (by rw [z])]
theorem CR.takeN (c : CR w r tpA dr tn tp L h0 h p e ep lt B) (ow : okW w) {k : Nat} (hk : k < 42) (z : kdp L p ≠ k) : onO h (r + 3) 6 (f_Sc_take (r + 3) (w_kd w k) h) = some (0, h) := by
  have k42 := c.k42
  have pL := c.pL
  have pl := c.pl
  rw [c.son]
  obtain ⟨_, _, _, ⟨x1, x2, x3, q⟩, ⟨gk, gs, gl, gw, gn, a1, a2, a3, a4, a5, a6⟩, _⟩ := c
  obtain ⟨b1, b2, b3, b4, b5⟩ := a6 p pl
  have e2 : gaR h 2 (r + 3 + 1) (ix p) = some (w_kd w (kdp L p)) := by rw [gaR_of a1 (by omega) (by omega)]; exact b1
  unfold f_Sc_take
  simp only [sc_r7 q, sc_r6 q, sc_r1 q, e2, Option.bind_some]
  rw [if_neg (ix_nle pl (by omega)), if_neg (fun x => z ((kd_eq ow k42 hk).mp x))]
theorem CR.any (c : CR w r tpA dr tn tp L h0 h p e ep lt B) (hk : 2 ≤ kdp L p) : ∃ h', onO h (r + 3) 6 (f_Sc_takeAny (r + 3) h) = some (1, h') ∧ CR w r tpA dr tn tp L h0 h' (p + 1) e ep lt B := by
  have pL := c.pL
  have pl := c.pl
  obtain ⟨h', e1, c'⟩ := c.step (c.nxt hk)
  refine ⟨h', ?_, c'⟩
  rw [c.son]
  obtain ⟨_, _, _, ⟨x1, x2, x3, q⟩, _⟩ := c
  unfold f_Sc_takeAny
  simp only [sc_r7 q, sc_r6 q, ixp1, e1, Option.bind_some]
  rw [if_pos (ix_lt1 pl (by omega))]
/-- fields of the reader written -/
theorem CR.put (c : CR w r tpA dr tn tp L h0 h p e ep lt B) {k : Nat} {v : Value} {e' ep' lt' : Int32} (hk : k < 6) (hv : [Value.ref (r + 3), .ref (r + 1), .ref dr, .int e, .int ep, .int lt].set k v = [Value.ref (r + 3), .ref (r + 1), .ref dr, .int e', .int ep', .int lt']) : ∃ h', pF h r 5 k v = some h' ∧ CR w r tpA dr tn tp L h0 h' p e' ep' lt' B := by
  obtain ⟨⟨q1, q2, q3, q4, q5, q6⟩, c1, ⟨l, c2⟩, ⟨x1, x2, x3, q⟩, c4, c5, c6, c7, c8⟩ := c
  have f : fr r (r + 1) h (wr h r (oC 5 [Value.ref (r + 3), .ref (r + 1), .ref dr, .int e', .int ep', .int lt'])) := wr_fr _ _ _
  refine ⟨wr h r (oC 5 [Value.ref (r + 3), .ref (r + 1), .ref dr, .int e', .int ep', .int lt']), ?_, ⟨q1, q2, q3, q4, q5, q6⟩, wr_self _ _ _, ⟨l, c2.keep f (by omega)⟩, ⟨x1, x2, x3, f.cell q (by omega) (by omega)⟩, c4.keep f (by omega) (by omega), c5.keep f (by omega), c6.keep f (by omega), c7.trans (f.to2 (by omega)), c8⟩
  rw [pF_of c1 hk, hv]
theorem CR.late (c : CR w r tpA dr tn tp L h0 h p e ep lt B) (x : Int32) : ∃ h', pF h r 5 5 (.int x) = some h' ∧ CR w r tpA dr tn tp L h0 h' p e ep x B := c.put (by omega) rfl
/-- the first error stays -/
def blE (e k : Int32) : Int32 := if e = 0 then k else e
def blP (e ep x : Int32) : Int32 := if e = 0 then x else ep
theorem CR.blame (c : CR w r tpA dr tn tp L h0 h p e ep lt B) (k x : Int32) : ∃ h', onO h r 5 (f_Rd_blame r k x h) = some h' ∧ CR w r tpA dr tn tp L h0 h' p (blE e k) (blP e ep x) lt B := by
  rw [c.on]
  unfold f_Rd_blame blE blP
  by_cases z : e = 0
  · obtain ⟨h1, e1, c1⟩ := c.put (k := 3) (v := .int k) (e' := k) (ep' := ep) (lt' := lt) (by omega) rfl
    obtain ⟨h2, e2, c2⟩ := c1.put (k := 4) (v := .int x) (e' := k) (ep' := x) (lt' := lt) (by omega) rfl
    refine ⟨h2, ?_, by rw [if_pos z, if_pos z]; exact c2⟩
    simp only [c.r3, e1, e2, Option.bind_some]
    rw [if_pos z]
  · refine ⟨h, ?_, by rw [if_neg z, if_neg z]; exact c⟩
    simp only [c.r3, Option.bind_some]
    rw [if_neg z]
/-- the book becomes another one -/
theorem CR.book {h' : hp_M} {B' : bkV} (c : CR w r tpA dr tn tp L h0 h p e ep lt B) (b : is_BK h' dr B') (f : fr dr (dr + 34) h h') (z : h'.2 = h.2) : CR w r tpA dr tn tp L h0 h' p e ep lt B' := by
  obtain ⟨⟨q1, q2, q3, q4, q5, q6⟩, c1, ⟨l, c2⟩, ⟨x1, x2, x3, q⟩, c4, c5, c6, c7, c8⟩ := c
  exact ⟨⟨by omega, q2, q3, q4, q5, q6⟩, f.cell c1 (by omega) (by omega), ⟨l, c2.keep f (by omega)⟩, ⟨x1, x2, x3, f.cell q (by omega) (by omega)⟩, c4.keep f (by omega) (by omega), c5.keep f (by omega), b, c7.trans (f.to2 (by omega)), by omega⟩
def addI (B : bkV) (q : Nat × Nat × Nat) : bkV := (B.1, B.2.1, B.2.2.1 ++ [q], B.2.2.2)
theorem CR.write (c : CR w r tpA dr tn tp L h0 h p e ep lt B) (hl : B.2.2.1.length < 400) {k u v : Nat} {x1 x2 x3 : Int32} (e1 : x1 = ix k) (e2 : x2 = ix u) (e3 : x3 = ix v) : ∃ h', onO h r 5 (f_Rd_write r x1 x2 x3 h) = some (1, h') ∧ CR w r tpA dr tn tp L h0 h' p e ep lt (addI B (k, u, v)) := by
  subst e1 e2 e3
  have b := c.bk
  obtain ⟨h', e4, p', f, z⟩ := (is_Bk.pr b).add hl k u v
  have b' : is_BK h' dr (addI B (k, u, v)) := by
    obtain ⟨h1, h2, h3, ⟨g4, a4, b4⟩, ⟨g5, a5, b5⟩, ⟨g6, a6, b6⟩, ⟨g7, a7, b7⟩, h8, ⟨g9, a9, b9⟩, ⟨g10, a10, b10⟩, ⟨g11, a11, b11⟩, ⟨g12, a12, b12⟩, h13, h14⟩ := b
    refine ⟨Nat.le_trans h1 f.1, h2, f.cell h3 (by omega) (by omega), ⟨g4, f.cell a4 (by omega) (by omega), b4⟩, ⟨g5, f.cell a5 (by omega) (by omega), b5⟩, ⟨g6, f.cell a6 (by omega) (by omega), b6⟩, ⟨g7, f.cell a7 (by omega) (by omega), b7⟩, p', ⟨g9, f.cell a9 (by omega) (by omega), b9⟩, ⟨g10, f.cell a10 (by omega) (by omega), b10⟩, ⟨g11, f.cell a11 (by omega) (by omega), b11⟩, ⟨g12, f.cell a12 (by omega) (by omega), b12⟩, fun i hi => ?_, fun i hi => ?_⟩
    · obtain ⟨p, hp, hq⟩ := h13 i hi
      exact ⟨p, f.cell hp (by omega) (by omega), hq⟩
    · obtain ⟨m, hp, hq⟩ := h14 i hi
      exact ⟨m, hp.keep f (by omega), hq⟩
  refine ⟨h', ?_, c.book b' (f.mono (by omega) (by omega)) z⟩
  rw [c.on]
  unfold f_Rd_write
  simp only [c.r2, c.bon, is_Bk.program b, (is_Bk.pr b).on, e4, Option.bind_some]
/-- planets and alphabets by the tokens that name them -/
def lkP (B : bkV) (tp : Nat → Int32) (L : List tokV) (i : Nat) : Nat := lkC (wcL 0 (tbt tp L i)) (B.1.map (·.1)) 0
def lkA (B : bkV) (tp : Nat → Int32) (L : List tokV) (i : Nat) : Nat := lkC (wcL 0 (tbt tp L i)) (B.2.1.map (·.1)) 0
theorem lkC_in (c : Int64) : ∀ (l : List Int64) (i : Nat), lkC c l i = 4294967295 ∨ (i ≤ lkC c l i ∧ lkC c l i < i + l.length) := by
  intro l
  induction l with
  | nil => intro i; exact Or.inl rfl
  | cons x l ih =>
    intro i
    unfold lkC
    split
    · exact Or.inr ⟨Nat.le_refl _, by simp⟩
    · rcases ih (i + 1) with q | q
      · exact Or.inl q
      · exact Or.inr ⟨by omega, by simp; omega⟩
abbrev unk (u : Nat) : Prop := u = 4294967295
theorem neg_unk {c : Int64} {l : List Int64} (hl : l.length < 1000) : (0 ≤ ix (lkC c l 0)) ↔ ¬ unk (lkC c l 0) := by
  show _ ↔ ¬ (_ = 4294967295)
  rcases lkC_in c l 0 with q | q
  · rw [q]
    exact ⟨fun z => absurd z (by decide), fun z => absurd rfl z⟩
  · rw [i32_le, i32_z, ix_toInt (by omega)]
    exact ⟨fun _ => by omega, fun _ => by omega⟩
theorem CR.nameP (c : CR w r tpA dr tn tp L h0 h p e ep lt B) (ow : okW w) {fl : Nat} (hfl : 5000 ≤ fl) (hk : kdp L p = 2) : ∃ h', onO h r 5 (f_Rd_readName w fl r 0 h) = some (1, h') ∧ CR w r tpA dr tn tp L h0 h' (p + 1) (if unk (lkP B tp L p) then blE e 3 else e) (if unk (lkP B tp L p) then blP e ep (ix (tkn L p).2.1) else ep) (ix (lkP B tp L p)) B := by
  rw [c.on]
  have h8 : B.1.length ≤ 8 := c.bk.2.1.1
  have en : f_Bk_planetNamed fl dr (wcL 0 (tbt tp L p)) h = some (ix (lkP B tp L p)) := plNamed c.bk hfl _
  have ng : (0 ≤ ix (lkP B tp L p)) ↔ ¬ unk (lkP B tp L p) := neg_unk (by simp; omega)
  obtain ⟨h1, e1, c1⟩ := c.late (ix (lkP B tp L p))
  unfold f_Rd_readName
  simp only [c.r0, c.isY ow (show 2 < 42 by omega) hk, c.word hk, c.r2, c.bon, en, Option.bind_some, jn, if_neg z10, if_true, e1, c1.r5, c1.r0, c1.start]
  by_cases z : unk (lkP B tp L p)
  · obtain ⟨h2, e2, c2⟩ := c1.blame 3 (ix (tkn L p).2.1)
    obtain ⟨h3, e3, c3⟩ := c2.takeY ow (show 2 < 42 by omega) (by omega) hk
    refine ⟨h3, ?_, by rw [if_pos z, if_pos z]; exact c3⟩
    rw [if_neg (fun q => ng.mp q z)]
    simp only [e2, c2.r0, e3, Option.bind_some]
  · obtain ⟨h3, e3, c3⟩ := c1.takeY ow (show 2 < 42 by omega) (by omega) hk
    refine ⟨h3, ?_, by rw [if_neg z, if_neg z]; exact c3⟩
    rw [if_pos (ng.mpr z)]
    simp only [e3, Option.bind_some]
theorem CR.nameA (c : CR w r tpA dr tn tp L h0 h p e ep lt B) (ow : okW w) {fl : Nat} (hfl : 5000 ≤ fl) (hk : kdp L p = 2) : ∃ h', onO h r 5 (f_Rd_readName w fl r 1 h) = some (1, h') ∧ CR w r tpA dr tn tp L h0 h' (p + 1) (if unk (lkA B tp L p) then blE e 3 else e) (if unk (lkA B tp L p) then blP e ep (ix (tkn L p).2.1) else ep) (ix (lkA B tp L p)) B := by
  rw [c.on]
  have h8 : B.2.1.length ≤ 6 := c.bk.2.1.2.1
  have en : f_Bk_alphabetNamed fl dr (wcL 0 (tbt tp L p)) h = some (ix (lkA B tp L p)) := alNamed c.bk hfl _
  have ng : (0 ≤ ix (lkA B tp L p)) ↔ ¬ unk (lkA B tp L p) := neg_unk (by simp; omega)
  obtain ⟨h1, e1, c1⟩ := c.late (ix (lkA B tp L p))
  unfold f_Rd_readName
  simp only [c.r0, c.isY ow (show 2 < 42 by omega) hk, c.word hk, c.r2, c.bon, en, Option.bind_some, jn, if_neg z10, e1, c1.r5, c1.r0, c1.start]
  by_cases z : unk (lkA B tp L p)
  · obtain ⟨h2, e2, c2⟩ := c1.blame 3 (ix (tkn L p).2.1)
    obtain ⟨h3, e3, c3⟩ := c2.takeY ow (show 2 < 42 by omega) (by omega) hk
    refine ⟨h3, ?_, by rw [if_pos z, if_pos z]; exact c3⟩
    rw [if_neg (fun q => ng.mp q z)]
    simp only [e2, c2.r0, e3, Option.bind_some]
  · obtain ⟨h3, e3, c3⟩ := c1.takeY ow (show 2 < 42 by omega) (by omega) hk
    refine ⟨h3, ?_, by rw [if_neg z, if_neg z]; exact c3⟩
    rw [if_pos (ng.mpr z)]
    simp only [e3, Option.bind_some]
theorem CR.nameN (c : CR w r tpA dr tn tp L h0 h p e ep lt B) (ow : okW w) {fl : Nat} {x : Int32} (hk : kdp L p ≠ 2) : onO h r 5 (f_Rd_readName w fl r x h) = some (0, h) := by
  rw [c.on]
  unfold f_Rd_readName
  simp only [c.r0, c.isN ow (show 2 < 42 by omega) hk, Option.bind_some]
  rw [if_pos trivial]
end
