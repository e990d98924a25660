/-! The Model's second pass: its state, and what a token brings. -/
def psC (rd nP nA nr sz os : Nat) : va_E := oC 11 [.int (ix nP), .ref (rd + 1), .int (ix nA), .ref (rd + 2), .ref (rd + 3), .int (ix nr), .ref (rd + 4), .ref (rd + 5), .ref (rd + 6), .ref (rd + 7), .int (ix sz), .ref (rd + 8), .int (ix os)]
abbrev pcV : Type := Nat × zV × (Nat → Int32) × Nat × (Nat → Int32) × Nat
/-- planets, their numbers; alphabets, how many letters, the letters; what names mean -/
abbrev pdV : Type := Nat × (Nat → Int32) × Nat × (Nat → Int32) × (Nat → Int32) × (Nat → Nat)
def PS (m t rd tn : Nat) (tp : Nat → Int32) (th ea : Int32) (L : List tokV) (h0 : hp_M) (R : Nat → Nat) (C : pcV) (h : hp_M) (i : Nat) (D : pdV) : Prop :=
  (m + 30 ≤ rd ∧ rd + 9 ≤ h.2 ∧ okK L) ∧ (∃ d, is_Mo h m th tn tp ea (ix i) d t rd) ∧ md_ar h m L R D.2.2.2.2.2 ∧ h.1 rd = some (psC rd D.1 D.2.2.1 C.1 C.2.2.2.1 C.2.2.2.2.2) ∧
  (h.1 (rd + 1) = some (aI 40 D.2.1) ∧ h.1 (rd + 2) = some (aI 6 D.2.2.2.1) ∧ h.1 (rd + 3) = some (aI 72 D.2.2.2.2.1)) ∧ (h.1 (rd + 4) = some (aI 13 C.2.1.1) ∧ h.1 (rd + 5) = some (aI 13 C.2.1.2.1) ∧ h.1 (rd + 6) = some (aI 13 C.2.1.2.2)) ∧
  h.1 (rd + 7) = some (aI 1200 C.2.2.1) ∧ h.1 (rd + 8) = some (aI 400 C.2.2.2.2.1) ∧ f2 m (m + 7) rd (rd + 9) h0 h ∧ h.2 = h0.2
def eoB (fl m : Nat) (x1 : Int32) (h : hp_M) (u7 : Nat) (u8 u9 : Int32) : Option (Int32 × hp_M) := jn ((gR h m 12 8).bind fun v25 => (onO h m 12 (f_Md_told fl m x1 1 h)).bind fun r26 => (paI h v25 x1 r26).bind fun h27 => (gR h27 m 12 8).bind fun v28 => (gaI h27 v28 x1).bind fun v29 => if v29 = (-1) then (some (3, h27)) else (jn (some (0, h27)) fun (j37 : Option (Int32 × hp_M)) => (gR h27 m 12 7).bind fun v38 => (gaI h27 v38 x1).bind fun v39 => if v39 = 5 then ((gR h27 m 12 8).bind fun v41 => (gaI h27 v41 x1).bind fun v42 => (gR h27 m 12 8).bind fun v43 => (gaI h27 v43 (x1 - 1)).bind fun v44 => if v42 = v44 then (some (6, h27)) else (j37)) else (j37))) fun (j24 : Option (Int32 × hp_M)) => (gR h m 12 7).bind fun v46 => (gaI h v46 x1).bind fun v47 => if v47 = 1 then ((onO h m 12 (f_Md_told fl m x1 1 h)).bind fun r49 => if r49 = (-1) then ((gI h u7 11 0).bind fun v51 => if v51 = 8 then (some (4, h)) else ((gR h u7 11 1).bind fun v53 => (gI h u7 11 0).bind fun v54 => (paI h v53 ((5 * v54) + 4) 1).bind fun h55 => (gI h55 u7 11 0).bind fun v56 => (pF h55 u7 11 0 (.int (v56 + 1))).bind fun h57 => some (0, h57))) else (some (2, h))) else if v47 = 2 then ((onO h m 12 (f_Md_told fl m x1 2 h)).bind fun r59 => if r59 = (-1) then ((gI h u7 11 2).bind fun v61 => if v61 = 6 then (some (4, h)) else ((gI h u7 11 2).bind fun v63 => (pF h u7 11 2 (.int (v63 + 1))).bind fun h64 => some (0, h64))) else (some (2, h))) else if v47 = 3 then ((onO h m 12 (f_Md_areLetters fl m x1 h)).bind fun r66 => if r66.1 = 0 then (some (7, r66.2)) else (some (0, r66.2))) else if v47 = 4 then (j24) else if v47 = 5 then (j24) else if v47 = 6 then ((gR h m 12 8).bind fun v71 => (onO h m 12 (f_Md_told fl m x1 2 h)).bind fun r72 => (paI h v71 x1 r72).bind fun h73 => (gR h73 m 12 8).bind fun v74 => (gaI h73 v74 x1).bind fun v75 => if v75 = (-1) then (some (3, h73)) else (some (0, h73))) else if v47 = 7 then ((gR h m 12 8).bind fun v78 => (gaI h v78 0).bind fun v79 => (paI h v78 0 (v79 + 1)).bind fun h80 => (gR h80 m 12 8).bind fun v81 => (gaI h80 v81 0).bind fun v82 => if v82 ≤ 12 then (some (0, h80)) else (some (4, h80))) else if v47 = 8 then ((gR h u7 11 1).bind fun v85 => (paI h v85 u8 u9).bind fun h86 => (f_Md_isIn u9 1 20 h86).bind fun r87 => if r87 = 0 then (some (5, h86)) else (some (0, h86))) else if v47 = 9 then ((gR h u7 11 1).bind fun v90 => (paI h v90 (u8 + 1) u9).bind fun h91 => (f_Md_isIn u9 1 60 h91).bind fun r92 => if r92 = 0 then (some (5, h91)) else (some (0, h91))) else if v47 = 10 then ((gR h u7 11 1).bind fun v95 => (paI h v95 (u8 + 2) u9).bind fun h96 => (f_Md_isIn u9 0 359 h96).bind fun r97 => if r97 = 0 then (some (5, h96)) else (some (0, h96))) else if v47 = 11 then ((gR h u7 11 1).bind fun v100 => (paI h v100 (u8 + 3) u9).bind fun h101 => (f_Md_isIn u9 0 29 h101).bind fun r102 => if r102 = 0 then (some (5, h101)) else (some (0, h101))) else if v47 = 12 then (jn (fun (h111 : hp_M) => some (5, h111)) fun (j110 : hp_M → Option (Int32 × hp_M)) => (gR h u7 11 1).bind fun v112 => (paI h v112 (u8 + 4) u9).bind fun h113 => (f_Md_isIn u9 1 60 h113).bind fun r114 => if r114 = 0 then (j110 h113) else ((gR h113 u7 11 1).bind fun v116 => (gaI h113 v116 (u8 + 3)).bind fun v117 => if u9 ≤ v117 then (j110 h113) else (some (0, h113)))) else (some (0, h))
section
variable {m t rd tn : Nat} {tp : Nat → Int32} {th ea : Int32} {L : List tokV} {h0 : hp_M} {R : Nat → Nat} {C : pcV} {h : hp_M} {i : Nat} {nP : Nat} {g1 : Nat → Int32} {nA : Nat} {g2 g3 : Nat → Int32} {M : Nat → Nat} {D : pdV}
theorem PS.mo (c : PS m t rd tn tp th ea L h0 R C h i D) : ∃ d, is_Mo h m th tn tp ea (ix i) d t rd := c.2.1
theorem PS.pL (c : PS m t rd tn tp th ea L h0 R C h i D) : L.length ≤ 401 := c.1.2.2.2.1
theorem PS.on {β : Type} (c : PS m t rd tn tp th ea L h0 R C h i D) (g : Option β) : onO h m 12 g = g := by obtain ⟨d, q⟩ := c.mo; exact q.on g
theorem PS.r12 (c : PS m t rd tn tp th ea L h0 R C h i D) : gR h m 12 12 = some rd := by obtain ⟨d, q⟩ := c.mo; exact q.r12
theorem PS.r4 (c : PS m t rd tn tp th ea L h0 R C h i D) : gR h m 12 4 = some (m + 2) := by obtain ⟨d, q⟩ := c.mo; exact q.r4
theorem PS.r7 (c : PS m t rd tn tp th ea L h0 R C h i D) : gR h m 12 7 = some (m + 5) := by obtain ⟨d, q⟩ := c.mo; exact q.r7
theorem PS.r8 (c : PS m t rd tn tp th ea L h0 R C h i D) : gR h m 12 8 = some (m + 6) := by obtain ⟨d, q⟩ := c.mo; exact q.r8
theorem PS.r9 (c : PS m t rd tn tp th ea L h0 R C h i D) : gI h m 12 9 = some (ix i) := by obtain ⟨d, q⟩ := c.mo; exact q.r9
theorem PS.rd0 (c : PS m t rd tn tp th ea L h0 R C h i D) : gI h rd 11 0 = some (ix D.1) := gI_of c.2.2.2.1 rfl
theorem PS.rd1 (c : PS m t rd tn tp th ea L h0 R C h i D) : gR h rd 11 1 = some (rd + 1) := gR_of c.2.2.2.1 rfl
theorem PS.rd2 (c : PS m t rd tn tp th ea L h0 R C h i D) : gI h rd 11 2 = some (ix D.2.2.1) := gI_of c.2.2.2.1 rfl
theorem PS.rd3 (c : PS m t rd tn tp th ea L h0 R C h i D) : gR h rd 11 3 = some (rd + 2) := gR_of c.2.2.2.1 rfl
theorem PS.rd4 (c : PS m t rd tn tp th ea L h0 R C h i D) : gR h rd 11 4 = some (rd + 3) := gR_of c.2.2.2.1 rfl
theorem PS.kat (c : PS m t rd tn tp th ea L h0 R C h i D) {j : Nat} (hj : j < L.length) : gaI h (m + 2) (ix j) = some (ix (mkT (kdp L j))) := by
  have pL := c.pL
  obtain ⟨gk, gf, gm, gr, gt, a1, a2, a3, a4, a5, a6⟩ := c.2.2.1
  rw [gaI_of a1 (by omega) (by omega), (a6 j hj).1]; rfl
theorem PS.rol (c : PS m t rd tn tp th ea L h0 R C h i D) {j : Nat} (hj : j < L.length) : gaI h (m + 5) (ix j) = some (ix (R j)) := by
  have pL := c.pL
  obtain ⟨gk, gf, gm, gr, gt, a1, a2, a3, a4, a5, a6⟩ := c.2.2.1
  rw [gaI_of a4 (by omega) (by omega), (a6 j hj).2.2.2.1]
theorem PS.mea (c : PS m t rd tn tp th ea L h0 R C h i D) {j : Nat} (hj : j < L.length) : gaI h (m + 6) (ix j) = some (ix (D.2.2.2.2.2 j)) := by
  have pL := c.pL
  obtain ⟨gk, gf, gm, gr, gt, a1, a2, a3, a4, a5, a6⟩ := c.2.2.1
  rw [gaI_of a5 (by omega) (by omega), (a6 j hj).2.2.2.2]
theorem PS.num (c : PS m t rd tn tp th ea L h0 R C h i D) {k : Nat} (hk : k < 40) : gaI h (rd + 1) (ix k) = some (D.2.1 k) := gaI_of c.2.2.2.2.1.1 hk (by omega)
/-- what a name means is written -/
theorem PS.putM (c : PS m t rd tn tp th ea L h0 R C h i (nP, g1, nA, g2, g3, M)) {j : Nat} (hj : j < L.length) (x : Nat) : ∃ h', paI h (m + 6) (ix j) (ix x) = some h' ∧ PS m t rd tn tp th ea L h0 R C h' i (nP, g1, nA, g2, g3, fun q => if q = j then x else M q) := by
  have pL := c.pL
  obtain ⟨⟨q1, q2, q3⟩, ⟨d, c1⟩, ⟨gk, gf, gm, gr, gt, a1, a2, a3, a4, a5, a6⟩, c3, ⟨c4, c5, c6⟩, ⟨c7, c8, c9⟩, c10, c11, c12, c13⟩ := c
  have f := wr_fr h (m + 6) (aI 401 (upd gt j (ix x)))
  refine ⟨_, paI_of a5 (show j < 401 by omega) (by omega), ⟨q1, q2, q3⟩, ⟨d, c1.keep2 f (by omega)⟩, ⟨gk, gf, gm, gr, upd gt j (ix x), f.cell a1 (by omega) (by omega), f.cell a2 (by omega) (by omega), f.cell a3 (by omega) (by omega), f.cell a4 (by omega) (by omega), wr_self _ _ _, fun q hq => ?_⟩, f.cell c3 (by omega) (by omega), ⟨f.cell c4 (by omega) (by omega), f.cell c5 (by omega) (by omega), f.cell c6 (by omega) (by omega)⟩, ⟨f.cell c7 (by omega) (by omega), f.cell c8 (by omega) (by omega), f.cell c9 (by omega) (by omega)⟩, f.cell c10 (by omega) (by omega), f.cell c11 (by omega) (by omega), c12.trans (f.to2 (by omega)), c13⟩
  obtain ⟨j1, j2, j3, j4, j5⟩ := a6 q hq
  refine ⟨j1, j2, j3, j4, ?_⟩
  unfold upd
  dsimp only
  by_cases z : q = j
  · rw [if_pos z, if_pos z]
  · rw [if_neg z, if_neg z]; exact j5
/-- a cell of what is told is written -/
theorem PS.cellW (c : PS m t rd tn tp th ea L h0 R C h i D) {D' : pdV} (hM : D'.2.2.2.2.2 = D.2.2.2.2.2) {u : Nat} {e : va_E} (hu : rd ≤ u ∧ u ≤ rd + 3) (hc : (wr h u e).1 rd = some (psC rd D'.1 D'.2.2.1 C.1 C.2.2.2.1 C.2.2.2.2.2) ∧ (wr h u e).1 (rd + 1) = some (aI 40 D'.2.1) ∧ (wr h u e).1 (rd + 2) = some (aI 6 D'.2.2.2.1) ∧ (wr h u e).1 (rd + 3) = some (aI 72 D'.2.2.2.2.1)) : PS m t rd tn tp th ea L h0 R C (wr h u e) i D' := by
  obtain ⟨⟨q1, q2, q3⟩, ⟨d, c1⟩, ⟨gk, gf, gm, gr, gt, a1, a2, a3, a4, a5, a6⟩, c3, ⟨c4, c5, c6⟩, ⟨c7, c8, c9⟩, c10, c11, c12, c13⟩ := c
  have f := wr_fr h u e
  exact ⟨⟨q1, q2, q3⟩, ⟨d, c1.keep f (by omega)⟩, ⟨gk, gf, gm, gr, gt, f.cell a1 (by omega) (by omega), f.cell a2 (by omega) (by omega), f.cell a3 (by omega) (by omega), f.cell a4 (by omega) (by omega), f.cell a5 (by omega) (by omega), by rw [hM]; exact a6⟩, hc.1, hc.2, ⟨f.cell c7 (by omega) (by omega), f.cell c8 (by omega) (by omega), f.cell c9 (by omega) (by omega)⟩, f.cell c10 (by omega) (by omega), f.cell c11 (by omega) (by omega), c12.trans (f.to2 (by omega)), c13⟩
theorem PS.put1 (c : PS m t rd tn tp th ea L h0 R C h i (nP, g1, nA, g2, g3, M)) {k : Nat} (hk : k < 40) (x : Int32) : ∃ h', paI h (rd + 1) (ix k) x = some h' ∧ PS m t rd tn tp th ea L h0 R C h' i (nP, upd g1 k x, nA, g2, g3, M) :=
  ⟨_, paI_of c.2.2.2.2.1.1 hk (by omega), PS.cellW (D' := (nP, upd g1 k x, nA, g2, g3, M)) (u := rd + 1) (e := aI 40 (upd g1 k x)) c rfl (by omega) ⟨(wr_ne _ _ (by omega)).trans c.2.2.2.1, wr_self _ _ _, (wr_ne _ _ (by omega)).trans c.2.2.2.2.1.2.1, (wr_ne _ _ (by omega)).trans c.2.2.2.2.1.2.2⟩⟩
theorem PS.put2 (c : PS m t rd tn tp th ea L h0 R C h i (nP, g1, nA, g2, g3, M)) {k : Nat} (hk : k < 6) (x : Int32) : ∃ h', paI h (rd + 2) (ix k) x = some h' ∧ PS m t rd tn tp th ea L h0 R C h' i (nP, g1, nA, upd g2 k x, g3, M) :=
  ⟨_, paI_of c.2.2.2.2.1.2.1 hk (by omega), PS.cellW (D' := (nP, g1, nA, upd g2 k x, g3, M)) (u := rd + 2) (e := aI 6 (upd g2 k x)) c rfl (by omega) ⟨(wr_ne _ _ (by omega)).trans c.2.2.2.1, (wr_ne _ _ (by omega)).trans c.2.2.2.2.1.1, wr_self _ _ _, (wr_ne _ _ (by omega)).trans c.2.2.2.2.1.2.2⟩⟩
theorem PS.put3 (c : PS m t rd tn tp th ea L h0 R C h i (nP, g1, nA, g2, g3, M)) {k : Nat} (hk : k < 72) (x : Int32) : ∃ h', paI h (rd + 3) (ix k) x = some h' ∧ PS m t rd tn tp th ea L h0 R C h' i (nP, g1, nA, g2, upd g3 k x, M) :=
  ⟨_, paI_of c.2.2.2.2.1.2.2 hk (by omega), PS.cellW (D' := (nP, g1, nA, g2, upd g3 k x, M)) (u := rd + 3) (e := aI 72 (upd g3 k x)) c rfl (by omega) ⟨(wr_ne _ _ (by omega)).trans c.2.2.2.1, (wr_ne _ _ (by omega)).trans c.2.2.2.2.1.1, (wr_ne _ _ (by omega)).trans c.2.2.2.2.1.2.1, wr_self _ _ _⟩⟩
theorem PS.incP (c : PS m t rd tn tp th ea L h0 R C h i (nP, g1, nA, g2, g3, M)) : ∃ h', pF h rd 11 0 (.int (ix (nP + 1))) = some h' ∧ PS m t rd tn tp th ea L h0 R C h' i (nP + 1, g1, nA, g2, g3, M) :=
  ⟨_, (pF_of c.2.2.2.1 (by simp) : pF h rd 11 0 (.int (ix (nP + 1))) = some (wr h rd (psC rd (nP + 1) nA C.1 C.2.2.2.1 C.2.2.2.2.2))), PS.cellW (D' := (nP + 1, g1, nA, g2, g3, M)) (u := rd) (e := psC rd (nP + 1) nA C.1 C.2.2.2.1 C.2.2.2.2.2) c rfl (by omega) ⟨wr_self _ _ _, (wr_ne _ _ (by omega)).trans c.2.2.2.2.1.1, (wr_ne _ _ (by omega)).trans c.2.2.2.2.1.2.1, (wr_ne _ _ (by omega)).trans c.2.2.2.2.1.2.2⟩⟩
theorem PS.incA (c : PS m t rd tn tp th ea L h0 R C h i (nP, g1, nA, g2, g3, M)) : ∃ h', pF h rd 11 2 (.int (ix (nA + 1))) = some h' ∧ PS m t rd tn tp th ea L h0 R C h' i (nP, g1, nA + 1, g2, g3, M) :=
  ⟨_, (pF_of c.2.2.2.1 (by simp) : pF h rd 11 2 (.int (ix (nA + 1))) = some (wr h rd (psC rd nP (nA + 1) C.1 C.2.2.2.1 C.2.2.2.2.2))), PS.cellW (D' := (nP, g1, nA + 1, g2, g3, M)) (u := rd) (e := psC rd nP (nA + 1) C.1 C.2.2.2.1 C.2.2.2.2.2) c rfl (by omega) ⟨wr_self _ _ _, (wr_ne _ _ (by omega)).trans c.2.2.2.2.1.1, (wr_ne _ _ (by omega)).trans c.2.2.2.2.1.2.1, (wr_ne _ _ (by omega)).trans c.2.2.2.2.1.2.2⟩⟩
theorem PS.next (c : PS m t rd tn tp th ea L h0 R C h i D) : ∃ h', pF h m 12 9 (.int (ix i + 1)) = some h' ∧ PS m t rd tn tp th ea L h0 R C h' (i + 1) D := by
  obtain ⟨⟨q1, q2, q3⟩, ⟨d, c1⟩, ⟨gk, gf, gm, gr, gt, a1, a2, a3, a4, a5, a6⟩, c3, ⟨c4, c5, c6⟩, ⟨c7, c8, c9⟩, c10, c11, c12, c13⟩ := c
  obtain ⟨h', e, mo, f, z⟩ := c1.put (k := 9) (v := .int (ix i + 1)) (th' := th) (ea' := ea) (tk' := ix (i + 1)) (dp' := d) (tn' := tn) (t' := t) (rd' := rd) (by omega) (Nat.le_refl _) (by rw [ixp1]; rfl)
  exact ⟨h', e, ⟨q1, by omega, q3⟩, ⟨d, mo⟩, ⟨gk, gf, gm, gr, gt, f.cell a1 (by omega) (by omega), f.cell a2 (by omega) (by omega), f.cell a3 (by omega) (by omega), f.cell a4 (by omega) (by omega), f.cell a5 (by omega) (by omega), a6⟩, f.cell c3 (by omega) (by omega), ⟨f.cell c4 (by omega) (by omega), f.cell c5 (by omega) (by omega), f.cell c6 (by omega) (by omega)⟩, ⟨f.cell c7 (by omega) (by omega), f.cell c8 (by omega) (by omega), f.cell c9 (by omega) (by omega)⟩, f.cell c10 (by omega) (by omega), f.cell c11 (by omega) (by omega), c12.trans (f.to2 (by omega)), by omega⟩
theorem mkT_31 : ∀ k, k < 42 → (ix (mkT k) = 31 ↔ k = 3) := by decide
/-- the head of errorOf -/
theorem eo_head (oi : okIn tn L) (c : PS m t rd tn tp th ea L h0 R C h i D) {j : Nat} (hj : j < L.length) {fl : Nat} (hfl : 5000 ≤ fl) : f_Md_errorOf fl m (ix j) h = eoB fl m (ix j) h rd (5 * (ix D.1 - 1)) (if kdp L j = 3 then nb tp L j else 0) := by
  obtain ⟨d, mo⟩ := c.mo
  unfold f_Md_errorOf
  refine jnE ?_
  refine bnd c.r12 (bnd c.rd0 (bnd c.r4 (bnd (c.kat hj) ?_)))
  have k := mkT_31 _ (c.1.2.2.2.2 j hj).1
  by_cases z : kdp L j = 3
  · rw [if_pos z]
    refine ite_p (k.mpr z) ?_
    exact bnd (mnum_of oi mo c.2.2.1 hj c.pL z hfl) rfl
  · rw [if_neg z]
    exact ite_n (fun q => z (k.mp q)) rfl
theorem eo_0 (c : PS m t rd tn tp th ea L h0 R C h i D) {j : Nat} (hj : j < L.length) (hr : R j = 0) (fl : Nat) (u8 u9 : Int32) : eoB fl m (ix j) h rd u8 u9 = some (0, h) := by
  unfold eoB
  refine jnE (bnd c.r7 (bnd (c.rol hj) ?_))
  rw [hr]
  rfl
end
