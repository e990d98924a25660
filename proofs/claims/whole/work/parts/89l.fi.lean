/-! Behind the second pass: names filled in. -/
section
variable {m t rd tn : Nat} {tp : Nat → Int32} {th ea : Int32} {L : List tokV} {h0 : hp_M} {R : Nat → Nat} {h : hp_M} {i : Nat} {D : pdV} {nr : Nat} {Z : zV} {gc : Nat → Int32} {sz : Nat} {go : Nat → Int32} {os : Nat}
theorem PS.putC (c : PS m t rd tn tp th ea L h0 R (nr, Z, gc, sz, go, os) h i D) {o : Nat} (ho : o < 1200) (x : Int32) : ∃ h', paI h (rd + 7) (ix o) x = some h' ∧ PS m t rd tn tp th ea L h0 R (nr, Z, upd gc o x, sz, go, os) h' i D := by
  obtain ⟨⟨q1, q2, q3⟩, ⟨d, c1⟩, ⟨gk, gf, gm, gr, gt, a1, a2, a3, a4, a5, a6⟩, c3, ⟨c4, c5, c6⟩, ⟨c7, c8, c9⟩, c10, c11, c12, c13⟩ := c
  have f := wr_fr h (rd + 7) (aI 1200 (upd gc o x))
  exact ⟨_, paI_of c10 ho (by omega), ⟨q1, q2, q3⟩, ⟨d, c1.keep f (by omega)⟩, ⟨gk, gf, gm, gr, gt, f.cell a1 (by omega) (by omega), f.cell a2 (by omega) (by omega), f.cell a3 (by omega) (by omega), f.cell a4 (by omega) (by omega), f.cell a5 (by omega) (by omega), a6⟩, f.cell c3 (by omega) (by omega), ⟨f.cell c4 (by omega) (by omega), f.cell c5 (by omega) (by omega), f.cell c6 (by omega) (by omega)⟩, ⟨f.cell c7 (by omega) (by omega), f.cell c8 (by omega) (by omega), f.cell c9 (by omega) (by omega)⟩, wr_self _ _ _, f.cell c11 (by omega) (by omega), c12.trans (f.to2 (by omega)), c13⟩
theorem PS.putO {Z1 Z2 Zo : Nat → Int32} (c : PS m t rd tn tp th ea L h0 R (nr, (Z1, Z2, Zo), gc, sz, go, os) h i D) {o : Nat} (ho : o < 13) (x : Int32) : ∃ h', paI h (rd + 6) (ix o) x = some h' ∧ PS m t rd tn tp th ea L h0 R (nr, (Z1, Z2, upd Zo o x), gc, sz, go, os) h' i D := by
  obtain ⟨⟨q1, q2, q3⟩, ⟨d, c1⟩, ⟨gk, gf, gm, gr, gt, a1, a2, a3, a4, a5, a6⟩, c3, ⟨c4, c5, c6⟩, ⟨c7, c8, c9⟩, c10, c11, c12, c13⟩ := c
  have f := wr_fr h (rd + 6) (aI 13 (upd Zo o x))
  exact ⟨_, paI_of c9 ho (by omega), ⟨q1, q2, q3⟩, ⟨d, c1.keep f (by omega)⟩, ⟨gk, gf, gm, gr, gt, f.cell a1 (by omega) (by omega), f.cell a2 (by omega) (by omega), f.cell a3 (by omega) (by omega), f.cell a4 (by omega) (by omega), f.cell a5 (by omega) (by omega), a6⟩, f.cell c3 (by omega) (by omega), ⟨f.cell c4 (by omega) (by omega), f.cell c5 (by omega) (by omega), f.cell c6 (by omega) (by omega)⟩, ⟨f.cell c7 (by omega) (by omega), f.cell c8 (by omega) (by omega), wr_self _ _ _⟩, f.cell c10 (by omega) (by omega), f.cell c11 (by omega) (by omega), c12.trans (f.to2 (by omega)), c13⟩
theorem PS.seek (c : PS m t rd tn tp th ea L h0 R (nr, Z, gc, sz, go, os) h i D) (k : Nat) {v : Value} (hv : v = .int (ix k)) : ∃ h', pF h m 12 9 v = some h' ∧ PS m t rd tn tp th ea L h0 R (nr, Z, gc, sz, go, os) h' k D := by
  obtain ⟨⟨q1, q2, q3⟩, ⟨d, c1⟩, ⟨gk, gf, gm, gr, gt, a1, a2, a3, a4, a5, a6⟩, c3, ⟨c4, c5, c6⟩, ⟨c7, c8, c9⟩, c10, c11, c12, c13⟩ := c
  obtain ⟨h', e, mo, f, z⟩ := c1.put (k := 9) (v := v) (th' := th) (ea' := ea) (tk' := ix k) (dp' := d) (tn' := tn) (t' := t) (rd' := rd) (by omega) (Nat.le_refl _) (by rw [hv]; rfl)
  exact ⟨h', e, ⟨q1, by omega, q3⟩, ⟨d, mo⟩, ⟨gk, gf, gm, gr, gt, f.cell a1 (by omega) (by omega), f.cell a2 (by omega) (by omega), f.cell a3 (by omega) (by omega), f.cell a4 (by omega) (by omega), f.cell a5 (by omega) (by omega), a6⟩, f.cell c3 (by omega) (by omega), ⟨f.cell c4 (by omega) (by omega), f.cell c5 (by omega) (by omega), f.cell c6 (by omega) (by omega)⟩, ⟨f.cell c7 (by omega) (by omega), f.cell c8 (by omega) (by omega), f.cell c9 (by omega) (by omega)⟩, f.cell c10 (by omega) (by omega), f.cell c11 (by omega) (by omega), c12.trans (f.to2 (by omega)), by omega⟩
theorem PS.rd5 (c : PS m t rd tn tp th ea L h0 R (nr, Z, gc, sz, go, os) h i D) : gI h rd 11 5 = some (ix nr) ∧ gR h rd 11 8 = some (rd + 6) ∧ gR h rd 11 9 = some (rd + 7) ∧ gR h rd 11 11 = some (rd + 8) ∧ gI h rd 11 12 = some (ix os) := ⟨gI_of c.2.2.2.1 rfl, gR_of c.2.2.2.1 rfl, gR_of c.2.2.2.1 rfl, gR_of c.2.2.2.1 rfl, gI_of c.2.2.2.1 rfl⟩
theorem PS.gOp (c : PS m t rd tn tp th ea L h0 R (nr, Z, gc, sz, go, os) h i D) {k : Nat} (hk : k < 400) : gaI h (rd + 8) (ix k) = some (go k) := gaI_of c.2.2.2.2.2.2.2.1 hk (by omega)
theorem PS.gCo (c : PS m t rd tn tp th ea L h0 R (nr, Z, gc, sz, go, os) h i D) {k : Nat} (hk : k < 1200) : gaI h (rd + 7) (ix k) = some (gc k) := gaI_of c.2.2.2.2.2.2.1 hk (by omega)
theorem PS.gOf (c : PS m t rd tn tp th ea L h0 R (nr, Z, gc, sz, go, os) h i D) {k : Nat} (hk : k < 13) : gaI h (rd + 6) (ix k) = some (Z.2.2 k) := gaI_of c.2.2.2.2.2.1.2.2 hk (by omega)
theorem fill1 (c : PS m t rd tn tp th ea L h0 R (nr, Z, gc, sz, go, os) h i D) {k o x : Nat} (hk : k < os) (hos : os ≤ 400) (eo : go k = ix o) (ho : o < 1200) (ex : gc o = ix x) (hx : x < L.length) (w : hp_W) (fl : Nat) (K : hp_M → Option (Int32 × hp_M)) : ∃ h', PS m t rd tn tp th ea L h0 R (nr, Z, upd gc o (ix (D.2.2.2.2.2 x)), sz, go, os) h' i D ∧ ∀ fu y, f_Md_read_b118 w fl m K fu (ix (k + 1)) h' = y → f_Md_read_b118 w fl m K (fu + 1) (ix k) h = y := by
  obtain ⟨h', e, c'⟩ := c.putC ho (ix (D.2.2.2.2.2 x))
  obtain ⟨r5, r8, r9, r11, r12⟩ := c.rd5
  refine ⟨h', c', fun fu y q => ?_⟩
  unfold f_Md_read_b118
  refine bnd c.r12 (bnd r12 (ite_n (ix_nle hk (by omega)) ?_))
  refine bnd c.r12 (bnd r9 (bnd c.r12 (bnd r11 (bnd (c.gOp (show k < 400 by omega)) ?_))))
  rw [eo]
  refine bnd c.r8 (bnd c.r12 (bnd r9 (bnd c.r12 (bnd r11 (bnd (c.gOp (show k < 400 by omega)) ?_)))))
  rw [eo]
  refine bnd (c.gCo ho) ?_
  rw [ex]
  refine bnd (c.mea hx) (bnd e ?_)
  rw [ixp1]
  exact q
theorem segC_one {g : Nat → Int32} {q : Nat × Nat × Nat} {u : Nat} (h : encOk g q u) : segC g [q] u (u + wid q.1) := ⟨h, rfl⟩
theorem fill_b (w : hp_W) (fl : Nat) (K : hp_M → Option (Int32 × hp_M)) {E0 : List evV} (hos : os ≤ 400) (eos : os = osm E0) (hgo : ∀ j, j < os → go j = ix ((opn E0 0).getD j 0)) (hsz : wsm E0 ≤ 1190) : ∀ (E2 E1 : List evV) (gc : Nat → Int32) (h : hp_M) (fu : Nat), E0 = E1 ++ E2 → PS m t rd tn tp th ea L h0 R (nr, Z, gc, sz, go, os) h i D → segC gc (E1.map (itM tp L D.2.2.2.2.2)) 0 (wsm E1) → segC gc (E2.map (prT tp L)) (wsm E1) (wsm E0) → (∀ q, q ∈ E2 → (1 ≤ osn q.1 → q.2.1 < L.length) ∧ (osn q.1 = 2 → q.2.2 < L.length)) → osm E2 < fu → ∃ h' gc', f_Md_read_b118 w fl m K fu (ix (osm E1)) h = K h' ∧ PS m t rd tn tp th ea L h0 R (nr, Z, gc', sz, go, os) h' i D ∧ segC gc' (E0.map (itM tp L D.2.2.2.2.2)) 0 (wsm E0) := by
  intro E2
  induction E2 with
  | nil =>
    intro E1 gc h fu e c s1 _ _ hf
    rw [List.append_nil] at e
    obtain ⟨fu, rfl⟩ : ∃ q, fu = q + 1 := ⟨fu - 1, by omega⟩
    refine ⟨h, gc, ?_, c, by rw [e]; exact s1⟩
    unfold f_Md_read_b118
    refine bnd c.r12 (bnd c.rd5.2.2.2.2 (ite_p ?_ rfl))
    exact ix_le1 (by rw [eos, e]; exact Nat.le_refl _) (by rw [← e, ← eos]; omega)
  | cons q E2 ih =>
    intro E1 gc h fu e c s1 s2 hq hf
    have e' : E0 = (E1 ++ [q]) ++ E2 := by rw [List.append_assoc]; exact e
    have w1 : wsm (E1 ++ [q]) = wsm E1 + wid q.1 := by rw [wsm_app, wsm_cons, wsm_nil, Nat.add_zero]
    have wt : wsm E0 = wsm E1 + (wid q.1 + wsm E2) := by rw [e, wsm_app, wsm_cons]
    have o1 : osm (E1 ++ [q]) = osm E1 + osn q.1 := by rw [osm_app, osm_cons, osm_nil, Nat.add_zero]
    have ot : os = osm E1 + (osn q.1 + osm E2) := by rw [eos, e, osm_app, osm_cons]
    rw [osm_cons] at hf
    have wm := wid_1 q.1
    obtain ⟨sa, sb⟩ := s2
    rw [prT_1] at sb
    have hq' : ∀ q, q ∈ E2 → (1 ≤ osn q.1 → q.2.1 < L.length) ∧ (osn q.1 = 2 → q.2.2 < L.length) := fun y hy => hq y (List.mem_cons_of_mem _ hy)
    obtain ⟨hq1, hq2⟩ := hq q (List.mem_cons_self ..)
    obtain ⟨i0, i1, i2⟩ := osn_is q.1
    obtain ⟨sa1, sa2, sa3⟩ := sa
    rw [prT_1] at sa1 sa2 sa3
    rcases osn_012 q.1 with o | o | o
    · have ie : itM tp L D.2.2.2.2.2 q = prT tp L q := by
        unfold itM prT
        by_cases z : q.1 = 0
        · rw [if_pos z, if_pos z]
        · rw [if_neg z, if_neg z, if_neg (i0 o).1, if_neg (i0 o).2]
      have s1' : segC gc ((E1 ++ [q]).map (itM tp L D.2.2.2.2.2)) 0 (wsm (E1 ++ [q])) := by
        rw [List.map_append, w1]
        refine segC_app gc _ _ _ _ _ s1 ?_
        show segC gc [itM tp L D.2.2.2.2.2 q] (wsm E1) (wsm E1 + wid q.1)
        rw [← itM_1 tp L D.2.2.2.2.2 q]
        refine segC_one ?_
        rw [ie]
        exact ⟨by rw [prT_1]; exact sa1, by rw [prT_1]; exact sa2, by rw [prT_1]; exact sa3⟩
      obtain ⟨h', gc', a1, a2, a3⟩ := ih (E1 ++ [q]) gc h fu e' c s1' (by rw [w1]; exact sb) hq' (by omega)
      rw [o1, o, Nat.add_zero] at a1
      exact ⟨h', gc', a1, a2, a3⟩
    · have q0 : ¬ q.1 = 0 := by have := (i1 o).1; omega
      have wd : wid q.1 = 2 := by rw [osn_wid _ q0, o]
      have pe : prT tp L q = q := by unfold prT; rw [if_neg q0]
      have go1 : go (osm E1) = ix (wsm E1 + 1) := by
        rw [hgo _ (by omega), e, opn_app, getD_ar _ _ _ (by rw [opn_len]; exact Nat.le_refl _), opn_len, Nat.sub_self]
        unfold opn
        rw [o, Nat.zero_add]; rfl
      have gx : gc (wsm E1 + 1) = ix q.2.1 := by have := sa2 (by omega); rw [pe] at this; exact this
      obtain ⟨h1, c1, st⟩ := fill1 c (k := osm E1) (o := wsm E1 + 1) (x := q.2.1) (by omega) hos go1 (by omega) gx (hq1 (by omega)) w fl K
      obtain ⟨fu, rfl⟩ : ∃ y, fu = y + 1 := ⟨fu - 1, by omega⟩
      have s1' : segC (upd gc (wsm E1 + 1) (ix (D.2.2.2.2.2 q.2.1))) ((E1 ++ [q]).map (itM tp L D.2.2.2.2.2)) 0 (wsm (E1 ++ [q])) := by
        rw [List.map_append, w1]
        refine segC_app _ _ _ _ _ _ (segC_keep _ _ _ s1 (fun j hj => upd_ne _ _ (by omega))) ?_
        show segC _ [itM tp L D.2.2.2.2.2 q] (wsm E1) (wsm E1 + wid q.1)
        rw [← itM_1 tp L D.2.2.2.2.2 q]
        refine segC_one ?_
        have im : itM tp L D.2.2.2.2.2 q = (q.1, D.2.2.2.2.2 q.2.1, 0) := by unfold itM; rw [if_neg q0, if_pos (i1 o).1]
        rw [im]
        exact ⟨by rw [upd_ne _ _ (by omega)]; exact sa1, fun _ => upd_self _ _ _, fun z => by dsimp only at z; omega⟩
      obtain ⟨h', gc', a1, a2, a3⟩ := ih (E1 ++ [q]) _ h1 fu e' c1 s1' (by rw [w1]; exact segC_up _ _ _ sb (fun j hj => upd_ne _ _ (by omega))) hq' (by omega)
      rw [o1, o] at a1
      exact ⟨h', gc', st _ _ a1, a2, a3⟩
    · have q0 : ¬ q.1 = 0 := by have := (i2 o).2; omega
      have wd : wid q.1 = 3 := by rw [osn_wid _ q0, o]
      have pe : prT tp L q = q := by unfold prT; rw [if_neg q0]
      have gg : opn (q :: E2) (wsm E1) = (wsm E1 + 1) :: (wsm E1 + 2) :: opn E2 (wsm E1 + wid q.1) := by
        show (if osn q.1 = 2 then [wsm E1 + 1, wsm E1 + 2] else if osn q.1 = 1 then [wsm E1 + 1] else []) ++ opn E2 (wsm E1 + wid q.1) = _
        rw [if_pos o]; rfl
      have go1 : go (osm E1) = ix (wsm E1 + 1) := by
        rw [hgo _ (by omega), e, opn_app, getD_ar _ _ _ (by rw [opn_len]; exact Nat.le_refl _), opn_len, Nat.sub_self, Nat.zero_add, gg]; rfl
      have go2 : go (osm E1 + 1) = ix (wsm E1 + 2) := by
        rw [hgo _ (by omega), e, opn_app, getD_ar _ _ _ (by rw [opn_len]; exact Nat.le_succ _), opn_len, Nat.add_sub_cancel_left, Nat.zero_add, gg]; rfl
      have gx : gc (wsm E1 + 1) = ix q.2.1 := by have := sa2 (by omega); rw [pe] at this; exact this
      have gy : gc (wsm E1 + 2) = ix q.2.2 := by have := sa3 wd; rw [pe] at this; exact this
      obtain ⟨h1, c1, st⟩ := fill1 c (k := osm E1) (o := wsm E1 + 1) (x := q.2.1) (by omega) hos go1 (by omega) gx (hq1 (by omega)) w fl K
      obtain ⟨h2, c2, st2⟩ := fill1 c1 (k := osm E1 + 1) (o := wsm E1 + 2) (x := q.2.2) (by omega) hos go2 (by omega) (by rw [upd_ne _ _ (by omega)]; exact gy) (hq2 o) w fl K
      obtain ⟨fu, rfl⟩ : ∃ y, fu = y + 1 + 1 := ⟨fu - 2, by omega⟩
      have s1' : segC (upd (upd gc (wsm E1 + 1) (ix (D.2.2.2.2.2 q.2.1))) (wsm E1 + 2) (ix (D.2.2.2.2.2 q.2.2))) ((E1 ++ [q]).map (itM tp L D.2.2.2.2.2)) 0 (wsm (E1 ++ [q])) := by
        rw [List.map_append, w1]
        refine segC_app _ _ _ _ _ _ (segC_keep _ _ _ s1 (fun j hj => by rw [upd_ne _ _ (by omega), upd_ne _ _ (by omega)])) ?_
        show segC _ [itM tp L D.2.2.2.2.2 q] (wsm E1) (wsm E1 + wid q.1)
        rw [← itM_1 tp L D.2.2.2.2.2 q]
        refine segC_one ?_
        have im : itM tp L D.2.2.2.2.2 q = (q.1, D.2.2.2.2.2 q.2.1, D.2.2.2.2.2 q.2.2) := by unfold itM; rw [if_neg q0, if_neg (i2 o).1, if_pos (i2 o).2]
        rw [im]
        exact ⟨by rw [upd_ne _ _ (by omega), upd_ne _ _ (by omega)]; exact sa1, fun _ => by rw [upd_ne _ _ (by omega), upd_self], fun _ => upd_self _ _ _⟩
      obtain ⟨h', gc', a1, a2, a3⟩ := ih (E1 ++ [q]) _ h2 fu e' c2 s1' (by rw [w1]; exact segC_up _ _ _ sb (fun j hj => by rw [upd_ne _ _ (by omega), upd_ne _ _ (by omega)])) hq' (by omega)
      rw [o1, o] at a1
      exact ⟨h', gc', st _ _ (st2 _ _ a1), a2, a3⟩
theorem of_b (w : hp_W) (fl : Nat) {A : Nat → Nat} (hnr : nr ≤ 12) {Z1 Z2 : Nat → Int32} : ∀ (r k fu : Nat) (h : hp_M) (Zo : Nat → Int32), k + r = nr → r < fu → PS m t rd tn tp th ea L h0 R (nr, (Z1, Z2, Zo), gc, sz, go, os) h i D → (∀ j, k ≤ j → j < nr → Zo j = ix (A j) ∧ A j < L.length) → ∃ h' Zo', f_Md_read_b176 w fl m fu (ix k) h = some (0, h') ∧ PS m t rd tn tp th ea L h0 R (nr, (Z1, Z2, Zo'), gc, sz, go, os) h' i D ∧ (∀ j, j < k → Zo' j = Zo j) ∧ ∀ j, k ≤ j → j < nr → Zo' j = ix (D.2.2.2.2.2 (A j)) := by
  intro r
  induction r with
  | zero =>
    intro k fu h Zo hk hf c _
    obtain ⟨fu, rfl⟩ : ∃ q, fu = q + 1 := ⟨fu - 1, by omega⟩
    refine ⟨h, Zo, ?_, c, fun _ _ => rfl, fun j a b => by omega⟩
    unfold f_Md_read_b176
    exact bnd c.r12 (bnd c.rd5.1 (ite_p (ix_le1 (by omega) (by omega)) rfl))
  | succ r ih =>
    intro k fu h Zo hk hf c hA
    obtain ⟨fu, rfl⟩ : ∃ q, fu = q + 1 := ⟨fu - 1, by omega⟩
    obtain ⟨z1, z2⟩ := hA k (Nat.le_refl _) (by omega)
    obtain ⟨h1, e1, c1⟩ := c.putO (o := k) (by omega) (ix (D.2.2.2.2.2 (A k)))
    obtain ⟨h', Zo', a1, a2, a3, a4⟩ := ih (k + 1) fu h1 _ (by omega) (by omega) c1 (fun j a b => by rw [upd_ne _ _ (by omega)]; exact hA j (by omega) b)
    refine ⟨h', Zo', ?_, a2, fun j hj => by rw [a3 j (by omega), upd_ne _ _ (by omega)], fun j a b => ?_⟩
    · obtain ⟨r5, r8, r9, r11, r12⟩ := c.rd5
      have g := c.gOf (k := k) (by omega)
      rw [show (Z1, Z2, Zo).2.2 k = Zo k from rfl, z1] at g
      unfold f_Md_read_b176
      refine bnd c.r12 (bnd r5 (ite_n (ix_nle (by omega) (by omega)) ?_))
      refine bnd c.r12 (bnd r8 (bnd c.r8 (bnd c.r12 (bnd r8 (bnd g (bnd (c.mea z2) (bnd e1 ?_)))))))
      rw [ixp1]
      exact a1
    · by_cases y : j = k
      · rw [y, a3 k (by omega), upd_self]
      · exact a4 j (by omega) b
end
