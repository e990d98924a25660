/-! The class is taught. -/
section
variable {w : hp_W} {r tpA dr tn : Nat} {tp : Nat → Int32} {h : hp_M}
theorem scan_of {w : hp_W} (ow : okW w) (ot : okT tn tp) {s : Nat} (hs : tpA + 2 ≤ s) {fl : Nat} (hfl : 5000 ≤ fl) (hz : s + 6 ≤ h.2) (t : is_Tp h tpA tn tp) {rw fr pl : Int32} {wd : Int64} {nb : Int32} (c : h.1 s = some (scC s tpA rw fr pl wd nb)) (a : sc_ar w h s tp []) : ∃ h' pl' wd' nb', f_Sc_scan w fl s h = some h' ∧ h'.1 s = some (scC s tpA (ix (tksV tn tp).length) 0 pl' wd' nb') ∧ sc_ar w h' s tp (tksV tn tp) ∧ Jvm.Pilot.CShadowSpellLaw_law_r9225_03f26d.fr s (s + 6) h h' ∧ h'.2 = h.2 := by
  have c3 : (wr h s (scC s tpA (ix 0) 0 (ix 0) wd nb)).1 s = some (scC s tpA (ix 0) 0 (ix 0) wd nb) := wr_self _ _ _
  have f3 := wr_fr h s (scC s tpA (ix 0) 0 (ix 0) wd nb)
  obtain ⟨h', pl', wd', nb', e, c4, a4, f4, z4⟩ := scan_b ow ot hs hfl 401 0 fl 0 (wr h s (scC s tpA (ix 0) 0 (ix 0) wd nb)) [] wd nb rfl (by omega) (by omega) (by omega) hz (t.keep f3 (by omega)) c3 (by
    obtain ⟨gk, gs, gl, gw, gn, a1, a2, a3, a4, a5, a6⟩ := a
    exact ⟨gk, gs, gl, gw, gn, (wr_ne _ _ (by omega)).trans a1, (wr_ne _ _ (by omega)).trans a2, (wr_ne _ _ (by omega)).trans a3, (wr_ne _ _ (by omega)).trans a4, (wr_ne _ _ (by omega)).trans a5, a6⟩)
  refine ⟨h', pl', wd', nb', ?_, c4, a4, (f3.mono (Nat.le_refl _) (by omega)).trans f4, z4⟩
  unfold f_Sc_scan
  refine bnd (sc_p7 c 0) ?_
  refine bnd (sc_p8 (wr_self _ _ _) 0) ?_
  rw [wr_wr]
  refine bnd (sc_p6 (wr_self _ _ _) 0) ?_
  rw [wr_wr]
  exact e
theorem okTk_of (ot : okT tn tp) : okTk tn tp (tksV tn tp) := fun i hi hk => by
  obtain ⟨a1, a2, a3, _⟩ := tksV_in ot hi (by omega)
  exact ⟨a1, (a3 hk).1, a2⟩
theorem readInto_of (ow : okW w) (ot : okT tn tp) {fl : Nat} (hfl : 5000 ≤ fl) (h1 : tpA + 2 ≤ dr) (h2 : dr + 34 ≤ r) (o : is_Rd h r tpA) (t : is_Tp h tpA tn tp) {B0 : bkV} (b : is_BK h dr B0) : ∃ h', f_Rd_readInto w fl r dr h = some ((rdV tn tp).1, h') ∧ f_Rd_placeOfError r h' = some (rdV tn tp).2.1 ∧ is_Rd h' r tpA ∧ (∃ B', is_BK h' dr B' ∧ ((rdV tn tp).1 = 0 → B' = (rdV tn tp).2.2)) ∧ f2 dr (dr + 34) r (r + 9) h h' ∧ h'.2 = h.2 := by
  obtain ⟨z, ⟨bk, e, ep, lt, c⟩, ⟨l, al⟩, ⟨rw, fr, pl, wd, nb, s⟩, ⟨g1, a1⟩, ⟨g2, a2⟩, ⟨g3, a3⟩, ⟨g4, a4⟩, ⟨g5, a5⟩⟩ := o
  have p1 : pF h r 5 2 (.ref dr) = some (wr h r (oC 5 [.ref (r + 3), .ref (r + 1), .ref dr, .int e, .int ep, .int lt])) := pF_of c (by simp)
  have f1 := wr_fr h r (oC 5 [.ref (r + 3), .ref (r + 1), .ref dr, .int e, .int ep, .int lt])
  have c1 := wr_self h r (oC 5 [.ref (r + 3), .ref (r + 1), .ref dr, .int e, .int ep, .int lt])
  have zz : (wr h r (oC 5 [.ref (r + 3), .ref (r + 1), .ref dr, .int e, .int ep, .int lt])).2 = h.2 := rfl
  obtain ⟨H1, hH⟩ : ∃ q, wr h r (oC 5 [.ref (r + 3), .ref (r + 1), .ref dr, .int e, .int ep, .int lt]) = q := ⟨_, rfl⟩
  rw [hH] at p1 f1 c1 zz
  have b1 : is_BK H1 dr B0 := b.keep f1 (by omega)
  obtain ⟨H2, e2, b2, f2', z2⟩ := is_Bk.emptied b1
  have b2' : is_BK H2 dr ([], [], [], []) := b2
  have hz2 : H2.2 = h.2 := z2.trans zz
  have s2 : H2.1 (r + 3) = some (scC (r + 3) tpA rw fr pl wd nb) := f2'.cell (f1.cell s (by omega) (by omega)) (by omega) (by omega)
  have ar2 : sc_ar w H2 (r + 3) tp [] := ⟨g1, g2, g3, g4, g5, f2'.cell (f1.cell a1 (by omega) (by omega)) (by omega) (by omega), f2'.cell (f1.cell a2 (by omega) (by omega)) (by omega) (by omega), f2'.cell (f1.cell a3 (by omega) (by omega)) (by omega) (by omega), f2'.cell (f1.cell a4 (by omega) (by omega)) (by omega) (by omega), f2'.cell (f1.cell a5 (by omega) (by omega)) (by omega) (by omega), fun i hi => by simp at hi⟩
  have t2 : is_Tp H2 tpA tn tp := (t.keep f1 (by omega)).keep f2' (by omega)
  obtain ⟨H3, pl3, wd3, nb3, e3, s3, ar3, f3, z3⟩ := scan_of ow ot (show tpA + 2 ≤ r + 3 by omega) hfl (by omega) t2 s2 ar2
  have c2 : H2.1 r = some (oC 5 [.ref (r + 3), .ref (r + 1), .ref dr, .int e, .int ep, .int lt]) := f2'.cell c1 (by omega) (by omega)
  have c3 : H3.1 r = some (oC 5 [.ref (r + 3), .ref (r + 1), .ref dr, .int e, .int ep, .int lt]) := f3.cell c2 (by omega) (by omega)
  have okk := tksV_ok ot
  have hz3 : H3.2 = h.2 := z3.trans hz2
  have C3 : CR w r tpA dr tn tp (tksV tn tp) h H3 0 e ep lt ([], [], [], []) := ⟨⟨by omega, h1, h2, okk, okk.1, ot⟩, c3, ⟨l, ((al.keep f1 (by omega)).keep f2' (by omega)).keep f3 (by omega)⟩, ⟨pl3, wd3, nb3, s3⟩, ar3, t2.keep f3 (by omega), is_BK.keep b2' f3 (by omega), ((f1.to2 (by omega)).trans (f2'.to2 (by omega))).trans (f3.to2 (by omega)), hz3⟩
  obtain ⟨H4, e4, C4⟩ := C3.put (k := 3) (v := .int 0) (e' := 0) (ep' := ep) (lt' := lt) (by omega) rfl
  obtain ⟨H5, e5, C5⟩ := C4.put (k := 4) (v := .int (-1)) (e' := 0) (ep' := -1) (lt' := lt) (by omega) rfl
  have tb := text_b (x := (0, -1)) ow (okTk_of ot) hfl (fun (u8 : Int32) (h9 : hp_M) => jn ((pF h9 r 5 3 (.int 1)).bind fun h13 => (gR h13 r 5 0).bind fun v14 => (onO h13 v14 6 (f_Sc_start v14 h13)).bind fun r15 => (pF h13 r 5 4 (.int r15)).bind fun h16 => (gI h16 r 5 3).bind fun v17 => some (v17, h16)) fun (j12 : Option (Int32 × hp_M)) => if u8 = 0 then (j12) else ((gR h9 r 5 0).bind fun v19 => (onO h9 v19 6 (f_Sc_isAt v19 (w_kd w 0) h9)).bind fun r20 => if r20 = 0 then (j12) else ((gI h9 r 5 3).bind fun v22 => some (v22, h9)))) 400 0 fl 0 H5 lt ([], [], [], []) (by omega) (by omega) (by simp) C5
  have start : ∀ y, f_Rd_readInto_b33 w fl r (fun (u8 : Int32) (h9 : hp_M) => jn ((pF h9 r 5 3 (.int 1)).bind fun h13 => (gR h13 r 5 0).bind fun v14 => (onO h13 v14 6 (f_Sc_start v14 h13)).bind fun r15 => (pF h13 r 5 4 (.int r15)).bind fun h16 => (gI h16 r 5 3).bind fun v17 => some (v17, h16)) fun (j12 : Option (Int32 × hp_M)) => if u8 = 0 then (j12) else ((gR h9 r 5 0).bind fun v19 => (onO h9 v19 6 (f_Sc_isAt v19 (w_kd w 0) h9)).bind fun r20 => if r20 = 0 then (j12) else ((gI h9 r 5 3).bind fun v22 => some (v22, h9)))) fl 1 (ix 0) H5 = y → f_Rd_readInto w fl r dr h = y := by
    intro y q
    unfold f_Rd_readInto
    refine bnd p1 ?_
    refine bnd (gR_of c1 rfl) ?_
    refine bnd ((is_Bk.on b1 _).trans e2) ?_
    refine bnd (gR_of c2 rfl) ?_
    refine bnd ((sc_on s2 _).trans e3) ?_
    refine bnd e4 ?_
    exact bnd e5 q
  -- error 1 at the front
  have bad : ∀ h9 p e' ep' lt' B', CR w r tpA dr tn tp (tksV tn tp) h h9 p e' ep' lt' B' → ∃ h', ((pF h9 r 5 3 (.int 1)).bind fun h13 => (gR h13 r 5 0).bind fun v14 => (onO h13 v14 6 (f_Sc_start v14 h13)).bind fun r15 => (pF h13 r 5 4 (.int r15)).bind fun h16 => (gI h16 r 5 3).bind fun v17 => some (v17, h16)) = some (1, h') ∧ CR w r tpA dr tn tp (tksV tn tp) h h' p 1 (ix (tkn (tksV tn tp) p).2.1) lt' B' := by
    intro h9 p e' ep' lt' B' d
    obtain ⟨h10, q1, d1⟩ := d.put (k := 3) (v := .int 1) (e' := 1) (ep' := ep') (lt' := lt') (by omega) rfl
    obtain ⟨h11, q2, d2⟩ := d1.put (k := 4) (v := .int (ix (tkn (tksV tn tp) p).2.1)) (e' := 1) (ep' := ix (tkn (tksV tn tp) p).2.1) (lt' := lt') (by omega) rfl
    exact ⟨h11, bnd q1 (bnd d1.r0 (bnd d1.start (bnd q2 (bnd d2.r3 rfl)))), d2⟩
  have fin : ∀ h' p e' ep' lt' B', CR w r tpA dr tn tp (tksV tn tp) h h' p e' ep' lt' B' → f_Rd_placeOfError r h' = some ep' ∧ is_Rd h' r tpA ∧ is_BK h' dr B' ∧ f2 dr (dr + 34) r (r + 9) h h' ∧ h'.2 = h.2 := by
    intro h' p e' ep' lt' B' d
    refine ⟨bnd d.r4 rfl, ?_, d.bk, d.2.2.2.2.2.2.2⟩
    obtain ⟨⟨d1, _, _, _, _, _⟩, d2, d3, ⟨x1, x2, x3, d4⟩, ⟨gk, gs, gl, gw, gn, a1, a2, a3, a4, a5, a6⟩, _⟩ := d
    exact ⟨d1, ⟨dr, e', ep', lt', d2⟩, d3, ⟨_, _, x1, x2, x3, d4⟩, ⟨gk, a1⟩, ⟨gs, a2⟩, ⟨gl, a3⟩, ⟨gw, a4⟩, ⟨gn, a5⟩⟩
  unfold rdV
  by_cases g : (gTx (kdp (tksV tn tp)) 400 0).1 = true
  · obtain ⟨h9, lt9, q9, C9⟩ := tb.1 g
    by_cases k0 : kdp (tksV tn tp) (gTx (kdp (tksV tn tp)) 400 0).2.1 = 0
    · rw [if_pos ⟨g, k0⟩]
      obtain ⟨i1, i2, i3, i4, i5⟩ := fin _ _ _ _ _ _ C9
      refine ⟨h9, start _ (q9.trans ?_), i1, i2, ⟨_, i3, fun _ => rfl⟩, i4, i5⟩
      exact jnE (ite_n z10 (bnd C9.r0 (bnd (C9.isY ow (by omega) k0) (ite_n z10 (bnd C9.r3 rfl)))))
    · rw [if_neg (fun q => k0 q.2)]
      obtain ⟨h10, q10, C10⟩ := bad _ _ _ _ _ _ C9
      obtain ⟨i1, i2, i3, i4, i5⟩ := fin _ _ _ _ _ _ C10
      refine ⟨h10, start _ (q9.trans ?_), i1, i2, ⟨_, i3, fun q => absurd q z10⟩, i4, i5⟩
      exact jnE (ite_n z10 (bnd C9.r0 (bnd (C9.isN ow (by omega) k0) (ite_p rfl q10))))
  · obtain ⟨h9, e9, ep9, lt9, B9, q9, C9⟩ := tb.2 (by simpa using g)
    rw [if_neg (fun q => g q.1)]
    obtain ⟨h10, q10, C10⟩ := bad _ _ _ _ _ _ C9
    obtain ⟨i1, i2, i3, i4, i5⟩ := fin _ _ _ _ _ _ C10
    refine ⟨h10, start _ (q9.trans ?_), i1, i2, ⟨_, i3, fun q => absurd q z10⟩, i4, i5⟩
    exact jnE (ite_p rfl q10)
end
/-! The sky begins with the planets of a book. -/
section
variable {a b n : Nat} {P : Nat → Nat → Int32} {wt : Nat → Int32} {pn : Nat} {pp : Nat → Int32} {d : Int32} {B : bkV}
def plOf (B : bkV) (i : Nat) : Nat → Int32 := (B.1.getD i (0, fun _ => 0)).2
theorem is_BK.copyPl {h : hp_M} (t : is_BK h b B) {i c : Nat} (hi : i < B.1.length) {p : Nat → Int32} (e : h.1 c = some (oC 3 (pfs p))) (hc : c < b ∨ b + 34 ≤ c) : onO h b 1 (f_Bk_copyPlanetTo b (ix i) c h) = some (wr h c (oC 3 (pfs (plOf B i)))) := by
  have h8 : B.1.length ≤ 8 := t.2.1.1
  rw [is_Bk.on t]
  obtain ⟨_, _, c0, ⟨g, a1, b1⟩, _, _, _, _, _, _, _, _, pl, _⟩ := t
  obtain ⟨p', hp, hq⟩ := pl i (by omega)
  unfold f_Bk_copyPlanetTo
  refine ite_n (ix_nn (by omega)) ?_
  refine bnd (gI_of c0 rfl) ?_
  refine ite_n (ix_nle hi (by omega)) ?_
  refine bnd (gR_of c0 rfl) ?_
  refine bnd ((gaR_of a1 (show i < 8 by omega) (by omega)).trans (b1 i (by omega))) ?_
  refine bnd ((onO_of e).trans (f_Pl_copyFrom_of e hp (by omega))) ?_
  rw [hq hi]
  rfl
theorem is_Sk.start_b (hab : a + 13 ≤ b ∨ b + 34 ≤ a) (fl : Nat) (k40 : hp_M → Option hp_M) (hn : n = B.1.length) : ∀ r fu i (h : hp_M) (Q : Nat → Nat → Int32), is_Sk h a n Q wt pn pp d → is_BK h b B → i + r = n → r < fu → ∃ h', f_Sk_startWith_b15 fl a b k40 fu (ix i) h = k40 h' ∧ is_Sk h' a n (fun j => if i ≤ j then plOf B j else Q j) wt pn pp d ∧ fr a (a + 13) h h' ∧ h'.2 = h.2 := by
  intro r
  induction r with
  | zero =>
    intro fu i h Q t u hi hf
    have h8 := t.n8
    obtain ⟨fu, rfl⟩ : ∃ q, fu = q + 1 := ⟨fu - 1, by omega⟩
    have : i = n := by omega
    subst this
    unfold f_Sk_startWith_b15
    rw [t.rI1]
    simp only [Option.bind_some]
    rw [if_pos (ix_le1 (Nat.le_refl _) (by omega))]
    exact ⟨h, rfl, t.congr (fun j hj => by rw [if_neg (by omega)]), fr.refl _ _ _, rfl⟩
  | succ r ih =>
    intro fu i h Q t u hi hf
    have h8 := t.n8
    obtain ⟨fu, rfl⟩ : ∃ q, fu = q + 1 := ⟨fu - 1, by omega⟩
    unfold f_Sk_startWith_b15
    rw [t.rI1]
    simp only [Option.bind_some]
    rw [if_neg (ix_nle (by omega) (by omega)), t.rR0]
    simp only [Option.bind_some]
    rw [t.ga (by omega)]
    simp only [Option.bind_some]
    rw [u.copyPl (by omega) (t.pl (by omega)) (by omega), ix_add1]
    simp only [Option.bind_some]
    have t1 := t.setPl (i := i) (by omega) (plOf B i)
    have u1 : is_BK (wr h (a + 5 + i) (oC 3 (pfs (plOf B i)))) b B := u.keep (wr_fr _ _ _) (by omega)
    obtain ⟨h', e', t', r', z'⟩ := ih fu (i + 1) _ _ t1 u1 (by omega) (by omega)
    refine ⟨h', e', t'.congr (fun j hj => ?_), (wr_frI h _ (by omega) (by omega)).trans r', z'⟩
    unfold upP
    by_cases hq : j = i
    · subst hq
      rw [if_neg (by omega), if_pos (Nat.le_refl _), if_pos rfl]
    · rw [if_neg hq]
      by_cases hq2 : i ≤ j
      · rw [if_pos (by omega), if_pos hq2]
      · rw [if_neg (by omega), if_neg hq2]
theorem is_Sk.setW {h : hp_M} (t : is_Sk h a n P wt pn pp d) {i : Nat} (hi : i < 12) (x : Int32) : ∃ h', paI h (a + 2) (ix i) x = some h' ∧ is_Sk h' a n P (upd wt i x) pn pp d ∧ fr a (a + 13) h h' ∧ h'.2 = h.2 := by
  obtain ⟨h1, h2, h3, ⟨g, h4, h5⟩, ⟨g2, h6, h7⟩, h8, h9⟩ := t
  refine ⟨_, paI_of h6 hi (by omega), ⟨h1, h2, ?_, ⟨g, ?_, h5⟩, ⟨upd g2 i x, wr_self _ _ _, fun j hj => ?_⟩, h8.keep (wr_fr _ _ _) (by omega), fun j hj => ?_⟩, wr_frI h _ (by omega) (by omega), rfl⟩
  · rw [wr_ne _ _ (by omega)]; exact h3
  · rw [wr_ne _ _ (by omega)]; exact h4
  · unfold upd; by_cases q : j = i
    · rw [if_pos q, if_pos q]
    · rw [if_neg q, if_neg q]; exact h7 j hj
  · obtain ⟨p, hp, hq⟩ := h9 j hj
    exact ⟨p, by rw [wr_ne _ _ (by omega)]; exact hp, hq⟩
theorem is_Sk.congrW {h : hp_M} {wt' : Nat → Int32} (t : is_Sk h a n P wt pn pp d) (e : ∀ i, i < 12 → wt i = wt' i) : is_Sk h a n P wt' pn pp d := by
  obtain ⟨h1, h2, h3, h4, ⟨g2, h6, h7⟩, h8, h9⟩ := t
  exact ⟨h1, h2, h3, h4, ⟨g2, h6, fun i hi => (h7 i hi).trans (e i hi)⟩, h8, h9⟩
theorem is_Sk.unwrite_b (fl : Nat) : ∀ r fu i (h : hp_M) (wt : Nat → Int32), is_Sk h a n P wt pn pp d → i + r = 12 → r < fu → (∀ j, j < i → wt j = 0) → ∃ h', f_Sk_startWith_b42 fl a fu (ix i) h = some h' ∧ is_Sk h' a n P (fun _ => 0) pn pp d ∧ fr a (a + 13) h h' ∧ h'.2 = h.2 := by
  intro r
  induction r with
  | zero =>
    intro fu i h wt t hi hf hw
    obtain ⟨fu, rfl⟩ : ∃ q, fu = q + 1 := ⟨fu - 1, by omega⟩
    unfold f_Sk_startWith_b42
    rw [if_pos (show (12 : Int32) ≤ ix i from ix_le1 (i := 12) (by omega) (by omega))]
    exact ⟨h, rfl, t.congrW (fun j hj => hw j (by omega)), fr.refl _ _ _, rfl⟩
  | succ r ih =>
    intro fu i h wt t hi hf hw
    obtain ⟨fu, rfl⟩ : ∃ q, fu = q + 1 := ⟨fu - 1, by omega⟩
    obtain ⟨h1, e1, t1, r1, z1⟩ := t.setW (i := i) (by omega) 0
    obtain ⟨h2, e2, t2, r2, z2⟩ := ih fu (i + 1) h1 _ t1 (by omega) (by omega) (fun j hj => by
      unfold upd; by_cases q : j = i
      · rw [if_pos q]
      · rw [if_neg q]; exact hw j (by omega))
    refine ⟨h2, ?_, t2, r1.trans r2, z2.trans z1⟩
    unfold f_Sk_startWith_b42
    refine ite_n (show ¬ (12 : Int32) ≤ ix i from ix_nle (n := i) (i := 12) (by omega) (by omega)) ?_
    refine bnd t.rR2 ?_
    refine bnd e1 ?_
    rw [ixp1]; exact e2
theorem is_Sk.startWith {h : hp_M} {n0 : Nat} {Q : Nat → Nat → Int32} (t : is_Sk h a n0 Q wt pn pp d) (u : is_BK h b B) (hab : a + 13 ≤ b ∨ b + 34 ≤ a) {fl : Nat} (hfl : 5000 ≤ fl) : ∃ h', f_Sk_startWith fl a b h = some h' ∧ is_Sk h' a B.1.length (plOf B) (fun _ => 0) pn pp d ∧ fr a (a + 13) h h' ∧ h'.2 = h.2 := by
  have h8 : B.1.length ≤ 8 := u.2.1.1
  have em : imin (ix B.1.length) 8 = ix B.1.length := by
    unfold imin
    by_cases q : B.1.length = 8
    · rw [q]; decide
    · rw [if_neg (show ¬ (8 : Int32) < ix B.1.length from ix_nlt (n := B.1.length) (i := 8) (by omega) (by omega))]
  have p2 : pF h a 7 1 (.int (ix B.1.length)) = some (wr h a (oC 7 [.ref (a + 1), .int (ix B.1.length), .ref (a + 2), .ref (a + 3), .int d])) := pF_of t.2.2.1 (by simp)
  obtain ⟨Q', t2⟩ := t.grow (m := B.1.length) h8 d
  have u2 : is_BK (wr h a (oC 7 [.ref (a + 1), .int (ix B.1.length), .ref (a + 2), .ref (a + 3), .int d])) b B := u.keep (wr_fr _ _ _) (by omega)
  obtain ⟨h3, e3, t3, r3, z3⟩ := is_Sk.start_b (b := b) (B := B) hab fl (fun (h3 : hp_M) => f_Sk_startWith_b42 fl a fl 0 h3) rfl B.1.length fl 0 _ _ t2 u2 (by omega) (by omega)
  obtain ⟨h4, e4, t4, r4, z4⟩ := is_Sk.unwrite_b fl 12 fl 0 h3 _ t3 (by omega) (by omega) (fun j hj => by omega)
  refine ⟨h4, ?_, t4.congr (fun i hi => by rw [if_pos (Nat.zero_le _)]), ((wr_frI h _ (Nat.le_refl _) (by omega)).trans r3).trans r4, z4.trans z3⟩
  unfold f_Sk_startWith
  refine bnd ((is_Bk.on u _).trans (is_Bk.planets u)) ?_
  rw [em]
  refine bnd p2 ?_
  exact e3.trans e4
end
