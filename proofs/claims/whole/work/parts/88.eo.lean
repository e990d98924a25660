/-! The Model's second pass: a token by its role. -/
theorem isIn_of (x lo hi : Int32) (h : hp_M) : f_Md_isIn x lo hi h = some (if x < lo ∨ ¬ x ≤ hi then 0 else 1) := by
  unfold f_Md_isIn jn; dsimp only
  by_cases a : x < lo
  · rw [if_pos a, if_pos (Or.inl a)]
  · rw [if_neg a]
    by_cases b : hi < x
    · rw [if_pos b, if_pos (Or.inr (fun q => by rw [i32_lt] at b; rw [i32_le] at q; omega))]
    · rw [if_neg b, if_neg (fun q => q.elim a (fun q => q (by rw [i32_lt] at b; rw [i32_le]; omega)))]
section
variable {m t rd tn : Nat} {tp : Nat → Int32} {th ea : Int32} {L : List tokV} {h0 : hp_M} {R : Nat → Nat} {C : pcV} {h : hp_M} {i : Nat} {nP : Nat} {g1 : Nat → Int32} {nA : Nat} {g2 g3 : Nat → Int32} {M : Nat → Nat}
/-- the roles of numbers -/
theorem eo_num (c : PS m t rd tn tp th ea L h0 R C h i (nP, g1, nA, g2, g3, M)) {j : Nat} (hj : j < L.length) {o : Nat} {lo hi : Int32} (hr : (R j = 8 ∧ o = 0 ∧ lo = 1 ∧ hi = 20) ∨ (R j = 9 ∧ o = 1 ∧ lo = 1 ∧ hi = 60) ∨ (R j = 10 ∧ o = 2 ∧ lo = 0 ∧ hi = 359) ∨ (R j = 11 ∧ o = 3 ∧ lo = 0 ∧ hi = 29)) (hP : 1 ≤ nP ∧ nP ≤ 8) (fl : Nat) (x : Int32) : ∃ h', eoB fl m (ix j) h rd (5 * (ix nP - 1)) x = some (if x < lo ∨ ¬ x ≤ hi then 5 else 0, h') ∧ PS m t rd tn tp th ea L h0 R C h' i (nP, upd g1 (5 * (nP - 1) + o) x, nA, g2, g3, M) := by
  have o3 : o ≤ 3 := by omega
  obtain ⟨h', e, c'⟩ := c.put1 (k := 5 * (nP - 1) + o) (by omega) x
  refine ⟨h', ?_, c'⟩
  rw [ixm1 hP.1, ix5]
  unfold eoB
  refine jnE (bnd c.r7 (bnd (c.rol hj) ?_))
  have fin : ((f_Md_isIn x lo hi h').bind fun r87 => if r87 = 0 then (some ((5 : Int32), h')) else (some (0, h'))) = some (if x < lo ∨ ¬ x ≤ hi then 5 else 0, h') := by
    refine bnd (isIn_of _ _ _ _) ?_
    by_cases z : x < lo ∨ ¬ x ≤ hi
    · rw [if_pos z, if_pos z]; rfl
    · rw [if_neg z, if_neg z]; rfl
  rcases hr with ⟨r, rfl, rfl, rfl⟩ | ⟨r, rfl, rfl, rfl⟩ | ⟨r, rfl, rfl, rfl⟩ | ⟨r, rfl, rfl, rfl⟩
  · rw [r]
    show ((gR h rd 11 1).bind fun v85 => (paI h v85 (ix (5 * (nP - 1))) x).bind fun h86 => (f_Md_isIn x 1 20 h86).bind fun r87 => if r87 = 0 then (some ((5 : Int32), h86)) else (some (0, h86))) = _
    exact bnd c.rd1 (bnd e fin)
  · rw [r]
    show ((gR h rd 11 1).bind fun v85 => (paI h v85 (ix (5 * (nP - 1)) + 1) x).bind fun h86 => (f_Md_isIn x 1 60 h86).bind fun r87 => if r87 = 0 then (some ((5 : Int32), h86)) else (some (0, h86))) = _
    rw [ixp1]
    exact bnd c.rd1 (bnd e fin)
  · rw [r]
    show ((gR h rd 11 1).bind fun v85 => (paI h v85 (ix (5 * (nP - 1)) + 2) x).bind fun h86 => (f_Md_isIn x 0 359 h86).bind fun r87 => if r87 = 0 then (some ((5 : Int32), h86)) else (some (0, h86))) = _
    rw [ixp2]
    exact bnd c.rd1 (bnd e fin)
  · rw [r]
    show ((gR h rd 11 1).bind fun v85 => (paI h v85 (ix (5 * (nP - 1)) + 3) x).bind fun h86 => (f_Md_isIn x 0 29 h86).bind fun r87 => if r87 = 0 then (some ((5 : Int32), h86)) else (some (0, h86))) = _
    rw [ixp3]
    exact bnd c.rd1 (bnd e fin)
theorem eo_12 (c : PS m t rd tn tp th ea L h0 R C h i (nP, g1, nA, g2, g3, M)) {j : Nat} (hj : j < L.length) (hr : R j = 12) (hP : 1 ≤ nP ∧ nP ≤ 8) (fl : Nat) (x : Int32) : ∃ h', eoB fl m (ix j) h rd (5 * (ix nP - 1)) x = some (if (x < 1 ∨ ¬ x ≤ 60) ∨ x ≤ g1 (5 * (nP - 1) + 3) then 5 else 0, h') ∧ PS m t rd tn tp th ea L h0 R C h' i (nP, upd g1 (5 * (nP - 1) + 4) x, nA, g2, g3, M) := by
  obtain ⟨h', e, c'⟩ := c.put1 (k := 5 * (nP - 1) + 4) (by omega) x
  refine ⟨h', ?_, c'⟩
  rw [ixm1 hP.1, ix5]
  unfold eoB
  refine jnE (bnd c.r7 (bnd (c.rol hj) ?_))
  rw [hr]
  show (jn (fun (h111 : hp_M) => some ((5 : Int32), h111)) fun (j110 : hp_M → Option (Int32 × hp_M)) => (gR h rd 11 1).bind fun v112 => (paI h v112 (ix (5 * (nP - 1)) + 4) x).bind fun h113 => (f_Md_isIn x 1 60 h113).bind fun r114 => if r114 = 0 then (j110 h113) else ((gR h113 rd 11 1).bind fun v116 => (gaI h113 v116 (ix (5 * (nP - 1)) + 3)).bind fun v117 => if x ≤ v117 then (j110 h113) else (some (0, h113)))) = _
  refine jnE (bnd c.rd1 ?_)
  rw [ixp4]
  refine bnd e (bnd (isIn_of _ _ _ _) ?_)
  by_cases z : x < 1 ∨ ¬ x ≤ 60
  · rw [if_pos z, if_pos (Or.inl z)]; rfl
  · rw [if_neg z]
    refine ite_n z10 ?_
    refine bnd c'.rd1 ?_
    rw [ixp3]
    refine bnd (c'.num (k := 5 * (nP - 1) + 3) (by omega)) ?_
    rw [show (nP, upd g1 (5 * (nP - 1) + 4) x, nA, g2, g3, M).2.1 (5 * (nP - 1) + 3) = g1 (5 * (nP - 1) + 3) from upd_ne _ _ (by omega)]
    by_cases y : x ≤ g1 (5 * (nP - 1) + 3)
    · rw [if_pos y, if_pos (Or.inr y)]
    · rw [if_neg y, if_neg (fun q => q.elim z y)]
/-- the number of a name among those of its kind before it -/
def tdV (tp : Nat → Int32) (L : List tokV) (R : Nat → Nat) (k j : Nat) : Nat := lkC (wcL 0 (tbt tp L j)) ((nmR R k 0 j).map (fun q => wcL 0 (tbt tp L q))) 0
theorem td_of (oi : okIn tn L) (on : okNm tp L) {D : pdV} (c : PS m t rd tn tp th ea L h0 R C h i D) (hR : ∀ q, R q < 100) {j k : Nat} (hj : j < L.length) (kj : kdp L j = 2) (hk : k < 100) (hn : ∀ q, q < j → R q = k → kdp L q = 2) {fl : Nat} (hfl : 5000 ≤ fl) {X : Int32} (eX : X = ix k) : onO h m 12 (f_Md_told fl m (ix j) X h) = some (ix (tdV tp L R k j)) := by
  obtain ⟨d, mo⟩ := c.mo
  exact told_of oi on mo c.2.2.1 c.pL hj kj hR hk hn hfl eX
theorem td_unk {j k : Nat} (hj : j ≤ 401) : ix (tdV tp L R k j) = -1 ↔ unk (tdV tp L R k j) := by
  have l := lkC_in (wcL 0 (tbt tp L j)) ((nmR R k 0 j).map (fun q => wcL 0 (tbt tp L q))) 0
  have ll : ((nmR R k 0 j).map (fun q => wcL 0 (tbt tp L q))).length ≤ 401 := by
    rw [List.length_map]
    unfold nmR
    exact Nat.le_trans (List.length_filter_le _ _) (by rw [List.length_range']; exact hj)
  show ix (tdV tp L R k j) = -1 ↔ tdV tp L R k j = 4294967295
  refine ⟨fun q => ?_, fun q => by rw [q, ix_m1]⟩
  rcases l with l | l
  · exact l
  · have l2 : tdV tp L R k j < 401 := by unfold tdV; omega
    exfalso
    rcases ix_cases (ix (tdV tp L R k j)) 1 (by omega) with z | z | z
    · exact ix_nn (by omega) z
    · rw [q] at z; obtain ⟨a, ha, e⟩ := z; have : a = 0 := by omega
      subst this; exact absurd e (by decide)
    · obtain ⟨a, ha, hb, e⟩ := z
      rw [q] at e
      have : (ix a) < 0 := by rw [← e]; decide
      exact ix_nn hb this
theorem eo_1 (oi : okIn tn L) (on : okNm tp L) (c : PS m t rd tn tp th ea L h0 R C h i (nP, g1, nA, g2, g3, M)) (hR : ∀ q, R q < 100) {j : Nat} (hj : j < L.length) (kj : kdp L j = 2) (hr : R j = 1) (hn : ∀ q, q < j → R q = 1 → kdp L q = 2) (hP : nP ≤ 8) {fl : Nat} (hfl : 5000 ≤ fl) (u8 u9 : Int32) : (¬ unk (tdV tp L R 1 j) → eoB fl m (ix j) h rd u8 u9 = some (2, h)) ∧ (unk (tdV tp L R 1 j) → nP = 8 → eoB fl m (ix j) h rd u8 u9 = some (4, h)) ∧ (unk (tdV tp L R 1 j) → nP < 8 → ∃ h', eoB fl m (ix j) h rd u8 u9 = some (0, h') ∧ PS m t rd tn tp th ea L h0 R C h' i (nP + 1, upd g1 (5 * nP + 4) 1, nA, g2, g3, M)) := by
  have pL := c.pL
  have td := td_of oi on c hR hj kj (k := 1) (by omega) hn hfl (X := 1) rfl
  have tu := td_unk (tp := tp) (L := L) (R := R) (k := 1) (show j ≤ 401 by omega)
  have pre : ∀ y, (((if ix (tdV tp L R 1 j) = (-1) then ((gI h rd 11 0).bind fun v51 => if v51 = 8 then (some ((4 : Int32), h)) else ((gR h rd 11 1).bind fun v53 => (gI h rd 11 0).bind fun v54 => (paI h v53 ((5 * v54) + 4) 1).bind fun h55 => (gI h55 rd 11 0).bind fun v56 => (pF h55 rd 11 0 (.int (v56 + 1))).bind fun h57 => some (0, h57))) else (some (2, h)))) = y) → eoB fl m (ix j) h rd u8 u9 = y := by
    intro y q
    unfold eoB
    refine jnE (bnd c.r7 (bnd (c.rol hj) ?_))
    rw [hr]
    exact bnd td q
  refine ⟨fun n => pre _ (ite_n (fun q => n (tu.mp q)) rfl), fun u e => pre _ (ite_p (tu.mpr u) ?_), fun u e => ?_⟩
  · refine bnd c.rd0 (ite_p ?_ rfl)
    show ix nP = 8
    rw [e]; rfl
  · obtain ⟨h1, e1, c1⟩ := c.put1 (k := 5 * nP + 4) (by omega) 1
    obtain ⟨h2, e2, c2⟩ := c1.incP
    refine ⟨h2, pre _ (ite_p (tu.mpr u) (bnd c.rd0 (ite_n (fun q => ?_) ?_))), c2⟩
    · have := (ix_inj (i := nP) (n := 8) (by omega) (by omega)).mp q
      omega
    · refine bnd c.rd1 (bnd c.rd0 ?_)
      show (paI h (rd + 1) (5 * ix nP + 4) 1).bind _ = _
      rw [ix5, ixp4]
      refine bnd e1 (bnd c1.rd0 ?_)
      show (pF h1 rd 11 0 (.int (ix nP + 1))).bind _ = _
      rw [ixp1]
      exact bnd e2 rfl
theorem eo_2 (oi : okIn tn L) (on : okNm tp L) (c : PS m t rd tn tp th ea L h0 R C h i (nP, g1, nA, g2, g3, M)) (hR : ∀ q, R q < 100) {j : Nat} (hj : j < L.length) (kj : kdp L j = 2) (hr : R j = 2) (hn : ∀ q, q < j → R q = 2 → kdp L q = 2) (hA : nA ≤ 6) {fl : Nat} (hfl : 5000 ≤ fl) (u8 u9 : Int32) : (¬ unk (tdV tp L R 2 j) → eoB fl m (ix j) h rd u8 u9 = some (2, h)) ∧ (unk (tdV tp L R 2 j) → nA = 6 → eoB fl m (ix j) h rd u8 u9 = some (4, h)) ∧ (unk (tdV tp L R 2 j) → nA < 6 → ∃ h', eoB fl m (ix j) h rd u8 u9 = some (0, h') ∧ PS m t rd tn tp th ea L h0 R C h' i (nP, g1, nA + 1, g2, g3, M)) := by
  have pL := c.pL
  have td := td_of oi on c hR hj kj (k := 2) (by omega) hn hfl (X := 2) rfl
  have tu := td_unk (tp := tp) (L := L) (R := R) (k := 2) (show j ≤ 401 by omega)
  have pre : ∀ y, (((if ix (tdV tp L R 2 j) = (-1) then ((gI h rd 11 2).bind fun v61 => if v61 = 6 then (some ((4 : Int32), h)) else ((gI h rd 11 2).bind fun v63 => (pF h rd 11 2 (.int (v63 + 1))).bind fun h64 => some (0, h64))) else (some (2, h)))) = y) → eoB fl m (ix j) h rd u8 u9 = y := by
    intro y q
    unfold eoB
    refine jnE (bnd c.r7 (bnd (c.rol hj) ?_))
    rw [hr]
    exact bnd td q
  refine ⟨fun n => pre _ (ite_n (fun q => n (tu.mp q)) rfl), fun u e => pre _ (ite_p (tu.mpr u) ?_), fun u e => ?_⟩
  · refine bnd c.rd2 (ite_p ?_ rfl)
    show ix nA = 6
    rw [e]; rfl
  · obtain ⟨h2, e2, c2⟩ := c.incA
    refine ⟨h2, pre _ (ite_p (tu.mpr u) (bnd c.rd2 (ite_n (fun q => ?_) ?_))), c2⟩
    · have := (ix_inj (i := nA) (n := 6) (by omega) (by omega)).mp q
      omega
    · refine bnd c.rd2 ?_
      show (pF h rd 11 2 (.int (ix nA + 1))).bind _ = _
      rw [ixp1]
      exact bnd e2 rfl
theorem eo_6 (oi : okIn tn L) (on : okNm tp L) (c : PS m t rd tn tp th ea L h0 R C h i (nP, g1, nA, g2, g3, M)) (hR : ∀ q, R q < 100) {j : Nat} (hj : j < L.length) (kj : kdp L j = 2) (hr : R j = 6) (hn : ∀ q, q < j → R q = 2 → kdp L q = 2) {fl : Nat} (hfl : 5000 ≤ fl) (u8 u9 : Int32) : ∃ h', eoB fl m (ix j) h rd u8 u9 = some (if unk (tdV tp L R 2 j) then 3 else 0, h') ∧ PS m t rd tn tp th ea L h0 R C h' i (nP, g1, nA, g2, g3, fun q => if q = j then tdV tp L R 2 j else M q) := by
  have pL := c.pL
  have td := td_of oi on c hR hj kj (k := 2) (by omega) hn hfl (X := 2) rfl
  have tu := td_unk (tp := tp) (L := L) (R := R) (k := 2) (show j ≤ 401 by omega)
  obtain ⟨h1, e1, c1⟩ := c.putM hj (tdV tp L R 2 j)
  refine ⟨h1, ?_, c1⟩
  have me : gaI h1 (m + 6) (ix j) = some (ix (tdV tp L R 2 j)) := by
    rw [c1.mea hj]; dsimp only; rw [if_pos rfl]
  unfold eoB
  refine jnE (bnd c.r7 (bnd (c.rol hj) ?_))
  rw [hr]
  refine bnd c.r8 (bnd td (bnd e1 (bnd c1.r8 (bnd me ?_))))
  by_cases u : unk (tdV tp L R 2 j)
  · rw [if_pos (tu.mpr u), if_pos u]
  · rw [if_neg (fun q => u (tu.mp q)), if_neg u]
theorem eo_7 (c : PS m t rd tn tp th ea L h0 R C h i (nP, g1, nA, g2, g3, M)) {j : Nat} (hj : j < L.length) (hr : R j = 7) (hM : M 0 < 1000) (fl : Nat) (u8 u9 : Int32) : ∃ h', eoB fl m (ix j) h rd u8 u9 = some (if M 0 + 1 ≤ 12 then 0 else 4, h') ∧ PS m t rd tn tp th ea L h0 R C h' i (nP, g1, nA, g2, g3, fun q => if q = 0 then M 0 + 1 else M q) := by
  have pL := c.pL
  have j0 : 0 < L.length := by omega
  obtain ⟨h1, e1, c1⟩ := c.putM j0 (M 0 + 1)
  refine ⟨h1, ?_, c1⟩
  have me : gaI h1 (m + 6) 0 = some (ix (M 0 + 1)) := by
    have := c1.mea j0
    dsimp only at this
    rw [if_pos rfl] at this
    exact this
  unfold eoB
  refine jnE (bnd c.r7 (bnd (c.rol hj) ?_))
  rw [hr]
  refine bnd c.r8 (bnd (c.mea j0) ?_)
  show (paI h (m + 6) 0 (ix (M 0) + 1)).bind _ = _
  rw [ixp1]
  refine bnd e1 (bnd c1.r8 (bnd me ?_))
  by_cases u : M 0 + 1 ≤ 12
  · rw [if_pos u]
    exact ite_p (show ix (M 0 + 1) ≤ 12 from ix_le1 (n := 12) u (by omega)) rfl
  · rw [if_neg u]
    exact ite_n (show ¬ ix (M 0 + 1) ≤ 12 from ix_nle (i := M 0 + 1) (n := 12) (by omega) (by omega)) rfl
end
