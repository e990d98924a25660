/-! The Model reads values and sums. -/
section
variable {m t rd tn : Nat} {tp : Nat → Int32} {th ea : Int32} {L : List tokV} {h0 : hp_M} {nr : Nat} {Z : zV} {h : hp_M} {p d : Nat} {E : List evV} {Rl : List (Nat × Nat)}
theorem mnum_b {dp tk : Int32} (oi : okIn tn L) (o : is_Mo h m th tn tp ea tk dp t rd) {R M : Nat → Nat} (a : md_ar h m L R M) {i : Nat} (hi : i < L.length) (hL : L.length ≤ 401) (hk : (tkn L i).1 = 3) (fl : Nat) : ∀ r j fu (x : Int32), j + r = (tkn L i).2.2 → r < fu → f_Md_numberAt_b4 fl m (ix i) h fu x (ix j) = some (nvL x (bts tp ((tkn L i).2.1 + j) r)) := by
  have t2 := o.tn2
  obtain ⟨i1, i2, i3⟩ := oi i hi (by omega)
  have i4 := i3 (Or.inr hk)
  obtain ⟨gk, gf, gm, gr, gt, a1, a2, a3, a4, a5, a6⟩ := a
  obtain ⟨b1, b2, b3, b4, b5⟩ := a6 i hi
  have e4 : gaI h (m + 4) (ix i) = some (ix (tkn L i).2.2) := by rw [gaI_of a3 (by omega) (by omega), b3 (by omega)]
  have e3 : gaI h (m + 3) (ix i) = some (ix (tkn L i).2.1) := by rw [gaI_of a2 (by omega) (by omega), b2]
  intro r
  induction r with
  | zero =>
    intro j fu x hj hf
    obtain ⟨fu, rfl⟩ : ∃ q, fu = q + 1 := ⟨fu - 1, by omega⟩
    unfold f_Md_numberAt_b4
    refine bnd o.r6 (bnd e4 ?_)
    exact ite_p (ix_le1 (by omega) (by omega)) rfl
  | succ r ih =>
    intro j fu x hj hf
    obtain ⟨fu, rfl⟩ : ∃ q, fu = q + 1 := ⟨fu - 1, by omega⟩
    unfold f_Md_numberAt_b4
    refine bnd o.r6 (bnd e4 ?_)
    refine ite_n (ix_nle (by omega) (by omega)) ?_
    refine bnd o.r1 (bnd o.r5 (bnd e3 ?_))
    rw [ix_add]
    refine bnd (o.ga (by omega)) ?_
    rw [ixp1, ih (j + 1) fu _ (by omega) (by omega)]
    rw [bts_cons, Nat.add_assoc]
    show _ = some (nvL (x * 10 + tp ((tkn L i).2.1 + j) - 48) _)
    rw [Int32.mul_comm]
theorem mnum_of {dp tk : Int32} (oi : okIn tn L) (o : is_Mo h m th tn tp ea tk dp t rd) {R M : Nat → Nat} (a : md_ar h m L R M) {i : Nat} (hi : i < L.length) (hL : L.length ≤ 401) (hk : (tkn L i).1 = 3) {fl : Nat} (hfl : 5000 ≤ fl) : onO h m 12 (f_Md_numberAt fl m (ix i) h) = some (nb tp L i) := by
  obtain ⟨i1, i2, i3⟩ := oi i hi (by omega)
  rw [o.on]
  have := mnum_b oi o a hi hL hk fl (tkn L i).2.2 0 fl 0 (by omega) (by have := i3 (Or.inr hk); omega)
  unfold f_Md_numberAt
  exact this
theorem upd_eq (f : Nat → Int32) (i : Nat) (x : Int32) : upd f i x i = x := by unfold upd; rw [if_pos rfl]
theorem mone_of (c : MR m t rd tn tp th ea L h0 nr Z h p d E Rl) (hw : wsm E ≤ 2 * p) (ho : osm E ≤ p) (k2 : 2 ≤ kdp L p) {st : Nat} (hs : st = 3 ∨ st = 4 ∨ st = 6) {X : Int32} (eX : X = ix (cod st)) : OM m t rd tn tp th ea L h0 nr Z (gOne (kdp L) st p) d E Rl (onO h m 12 (f_Md_isOne m X h)) := by
  have pL := c.pL
  have p1 := c.nxt k2
  have s0 : st ≠ 0 := by omega
  have o1 : osn st = 1 := by unfold osn; rw [if_neg (by omega), if_pos hs]
  have w1 : wid st = 2 := by rw [osn_wid st s0, o1]
  rw [c.on]
  obtain ⟨gc, go, c1, c2, c3⟩ := c
  obtain ⟨h1, e1, d1⟩ := c1.code (by omega) X
  obtain ⟨h2, e2, d2⟩ := d1.step p1
  obtain ⟨h3, e3, d3⟩ := d2.gap (by omega) (by omega) (ix (p + 1))
  unfold f_Md_isOne gOne
  refine dg_b e1 ?_
  refine dg_b d1.mo.r9 ?_
  refine dg_b e2 ?_
  refine dg_b d2.mo.r9 ?_
  refine dg_b e3 ?_
  by_cases z : kdp L (p + 1) = 2
  · rw [if_pos z]
    obtain ⟨h4, e4, d4⟩ := d3.asY (k := 2) (X := 30) (Y := 4) (by omega) (by omega) rfl z 4 rfl
    refine dg_b e4 ?_
    refine OM.ok rfl ?_
    have er : evRs [(st, p + 1, 0)] = [(p + 1, 4)] := by
      rw [evRs_one]; unfold evR; dsimp only; rw [o1]; rfl
    rw [er]
    refine MR.more (q := (st, p + 1, 0)) c2 c3 (by dsimp only; rw [w1, o1]; exact d4) (fun i hi => ?_) ?_ (fun j hj => ?_) (fun _ => ?_) (fun q => by dsimp only at q; omega)
    · rw [upd_ne _ _ (by omega), upd_ne _ _ (by omega)]
    · unfold prT
      rw [if_neg s0]
      refine ⟨?_, fun _ => ?_, fun q => by dsimp only at q; omega⟩
      · rw [upd_ne _ _ (by omega), upd_eq, eX]
      · rw [upd_eq]
    · rw [upd_ne _ _ (by omega)]
    · rw [upd_eq]
  · rw [if_neg z]
    obtain ⟨h4, e4, d4⟩ := d3.asN (k := 2) (X := 30) (Y := 4) (by omega) rfl z 4 rfl
    refine dg_b e4 ?_
    exact OM.no rfl d4
theorem mtwo_of (c : MR m t rd tn tp th ea L h0 nr Z h p d E Rl) (hw : wsm E ≤ 2 * p) (ho : osm E ≤ p) (k2 : 2 ≤ kdp L p) (hs : stp (kdp L p) = 5 ∨ stp (kdp L p) = 7 ∨ stp (kdp L p) = 8) {X : Int32} (eX : X = ix (cod (stp (kdp L p)))) : OM m t rd tn tp th ea L h0 nr Z (gTwo (kdp L) p) d E Rl (onO h m 12 (f_Md_isPair m X h)) := by
  have pL := c.pL
  have p1 := c.nxt k2
  unfold gTwo
  obtain ⟨st, hst⟩ : ∃ q, stp (kdp L p) = q := ⟨_, rfl⟩
  rw [hst] at hs eX ⊢
  have s0 : st ≠ 0 := by omega
  have o1 : osn st = 2 := by unfold osn; rw [if_pos hs]
  have w1 : wid st = 3 := by rw [osn_wid st s0, o1]
  rw [c.on]
  obtain ⟨gc, go, c1, c2, c3⟩ := c
  obtain ⟨h1, e1, d1⟩ := c1.code (by omega) X
  obtain ⟨h2, e2, d2⟩ := d1.step p1
  obtain ⟨h3, e3, d3⟩ := d2.gap (by omega) (by omega) (ix (p + 1))
  unfold f_Md_isPair
  refine dg_b e1 ?_
  refine dg_b d1.mo.r9 ?_
  refine dg_b e2 ?_
  refine dg_b d2.mo.r9 ?_
  refine dg_b e3 ?_
  by_cases z : kdp L (p + 1) = 2
  · rw [if_pos z]
    obtain ⟨h4, e4, d4⟩ := d3.asY (k := 2) (X := 30) (Y := 4) (by omega) (by omega) rfl z 4 rfl
    refine dg_b e4 ?_
    refine dg_n z10 ?_
    have pl4 := d4.pl
    obtain ⟨h5, e5, d5⟩ := d4.gap (by omega) (by omega) (ix (p + 1 + 1))
    refine dg_b d4.mo.r9 ?_
    refine dg_b e5 ?_
    by_cases y : kdp L (p + 2) = 2
    · rw [if_pos y]
      obtain ⟨h6, e6, d6⟩ := d5.asY (k := 2) (X := 30) (Y := 5) (by omega) (by omega) rfl y 5 rfl
      refine dg_b e6 ?_
      refine OM.ok rfl ?_
      have er : evRs [(st, p + 1, p + 2)] = [(p + 1, 4), (p + 2, 5)] := by
        rw [evRs_one]; unfold evR; dsimp only; rw [o1]; rfl
      rw [er]
      have d6' : MW m t rd tn tp th ea L h0 nr Z h6 (p + 3) d (upd (upd (upd gc (wsm E) X) (wsm E + 1) (ix (p + 1))) (wsm E + 1 + 1) (ix (p + 1 + 1))) (wsm E + 3) (upd (upd go (osm E) (ix (wsm E + 1))) (osm E + 1) (ix (wsm E + 1 + 1))) (osm E + 2) (Rl ++ [(p + 1, 4), (p + 2, 5)]) := by
        have : Rl ++ [(p + 1, 4), (p + 2, 5)] = Rl ++ [(p + 1, 4)] ++ [(p + 1 + 1, 5)] := by rw [List.append_assoc]; rfl
        rw [this]; exact d6
      refine MR.more (q := (st, p + 1, p + 2)) c2 c3 (by dsimp only; rw [w1, o1]; exact d6') (fun i hi => ?_) ?_ (fun j hj => ?_) (fun _ => ?_) (fun _ => ?_)
      · rw [upd_ne _ _ (by omega), upd_ne _ _ (by omega), upd_ne _ _ (by omega)]
      · unfold prT
        rw [if_neg s0]
        refine ⟨?_, fun _ => ?_, fun _ => ?_⟩
        · rw [upd_ne _ _ (by omega), upd_ne _ _ (by omega), upd_eq, eX]
        · rw [upd_ne _ _ (by omega), upd_eq]
        · rw [upd_eq]
      · rw [upd_ne _ _ (by omega), upd_ne _ _ (by omega)]
      · rw [upd_ne _ _ (by omega), upd_eq]
      · rw [upd_eq]
    · rw [if_neg y]
      obtain ⟨h6, e6, d6⟩ := d5.asN (k := 2) (X := 30) (Y := 5) (by omega) rfl y 5 rfl
      refine dg_b e6 ?_
      exact OM.no rfl d6
  · rw [if_neg z]
    obtain ⟨h4, e4, d4⟩ := d3.asN (k := 2) (X := 30) (Y := 4) (by omega) rfl z 4 rfl
    refine dg_b e4 ?_
    refine dg_p rfl ?_
    exact OM.no rfl d4
/-- a number in the code -/
theorem mlit_of (oi : okIn tn L) (c : MR m t rd tn tp th ea L h0 nr Z h p d E Rl) (hw : wsm E ≤ 2 * p) (hk : kdp L p = 3) {fl : Nat} (hfl : 5000 ≤ fl) : OM m t rd tn tp th ea L h0 nr Z (true, p + 1, [(0, p, 0)]) d E Rl ((onO h m 12 (f_Md_put m 40 h)).bind fun h88 => (gI h88 m 12 9).bind fun v89 => (onO h88 m 12 (f_Md_numberAt fl m v89 h88)).bind fun r90 => (onO h88 m 12 (f_Md_put m r90 h88)).bind fun h91 => (gI h91 m 12 9).bind fun v92 => (pF h91 m 12 9 (.int (v92 + 1))).bind fun h93 => some (1, h93)) := by
  have pL := c.pL
  have pl := c.pl
  have p1 := c.nxt (by omega)
  obtain ⟨gc, go, c1, c2, c3⟩ := c
  obtain ⟨h1, e1, d1⟩ := c1.code (by omega) 40
  obtain ⟨h2, e2, d2⟩ := d1.code (by omega) (nb tp L p)
  obtain ⟨h3, e3, d3⟩ := d2.step p1
  refine dg_b e1 ?_
  refine dg_b d1.mo.r9 ?_
  refine dg_b (mnum_of oi d1.mo d1.2.2.1 pl pL hk hfl) ?_
  refine dg_b e2 ?_
  refine dg_b d2.mo.r9 ?_
  refine dg_b e3 ?_
  refine OM.ok rfl ?_
  have er : evRs [(0, p, 0)] = [] := rfl
  rw [er, List.append_nil]
  refine MR.more (q := (0, p, 0)) c2 c3 d3 (fun i hi => ?_) ?_ (fun j hj => rfl) (fun q => absurd q (by show ¬ 1 ≤ osn 0; decide)) (fun q => absurd q (by show ¬ osn 0 = 2; decide))
  · rw [upd_ne _ _ (by omega), upd_ne _ _ (by omega)]
  · show encOk _ (0, nuN tp L p, 0) _
    refine ⟨?_, fun _ => ?_, fun q => absurd q (by show ¬ wid 0 = 3; decide)⟩
    · rw [upd_ne _ _ (by omega), upd_eq]; rfl
    · rw [upd_eq]; exact (ix_bv _).symm
theorem mval_of (oi : okIn tn L) {fl : Nat} (hfl : 5000 ≤ fl) {rc : Nat → Nat → hp_M → Option (Int32 × hp_M)} {v s : Nat → resV} (hv : d < 8 → CM m t rd tn tp th ea L h0 nr Z (d + 1) (fun h => onO h m 12 (rc 2 m h)) v) (vB : d < 8 → ∀ q, q < L.length → gB L.length 1 q (v q)) (hs : d < 8 → CM m t rd tn tp th ea L h0 nr Z (d + 1) (fun h => onO h m 12 (rc 1 m h)) s) (sB : d < 8 → ∀ q, q < L.length → gB L.length 1 q (s q)) : CM m t rd tn tp th ea L h0 nr Z d (fun h => f_Md_isValue_body fl rc m h) (gValF (kdp L) v s (decide (d < 8))) := by
  intro h p E Rl hw ho c
  have k42 := c.k42
  have pL := c.pL
  have pl := c.pl
  dsimp only
  unfold f_Md_isValue_body gValF
  by_cases c1 : kdp L p = 3
  · rw [if_pos c1]
    refine dg_b (c.isY (k := 3) (by omega) rfl c1) ?_
    refine dg_n z10 ?_
    exact mlit_of oi c hw c1 hfl
  rw [if_neg c1]
  refine dg_b (c.isN (k := 3) (by omega) rfl c1) ?_
  refine dg_p rfl ?_
  refine dg_j ?_
  by_cases c2 : kdp L p = 19 ∨ kdp L p = 20
  · rw [if_pos c2]
    have p1 := c.nxt (by omega)
    have body : OM m t rd tn tp th ea L h0 nr Z (true, p + 1, [(stp (kdp L p), 0, 0)]) d E Rl ((gR h m 12 4).bind fun v6 => (gI h m 12 9).bind fun v7 => (gaI h v6 v7).bind fun v8 => (onO h m 12 (f_Md_put m v8 h)).bind fun h9 => (gI h9 m 12 9).bind fun v10 => (pF h9 m 12 9 (.int (v10 + 1))).bind fun h11 => some (1, h11)) := by
      refine dg_b c.mo.r4 ?_
      refine dg_b c.mo.r9 ?_
      refine dg_b c.kat ?_
      have c0 : MR m t rd tn tp th ea L h0 nr Z h p d (E ++ []) (Rl ++ evRs []) := by rw [List.append_nil, show evRs [] = [] from rfl, List.append_nil]; exact c
      obtain ⟨h1, e1, d1⟩ := c0.plus (k := stp (kdp L p)) (X := ix (mkT (kdp L p))) (by rw [List.append_nil]; omega) (cod_op _ k42 (by omega)) (by rcases c2 with q | q <;> rw [q] <;> rfl)
      refine dg_b e1 ?_
      refine dg_b d1.mo.r9 ?_
      obtain ⟨h2, e2, d2⟩ := d1.step (by omega)
      refine dg_b e2 ?_
      exact OM.ok rfl d2
    by_cases y : kdp L p = 19
    · refine dg_b (c.isY (k := 19) (by omega) rfl y) ?_
      exact dg_n z10 body
    · refine dg_b (c.isN (k := 19) (by omega) rfl y) ?_
      refine dg_p rfl ?_
      refine dg_b (c.isY (k := 20) (by omega) rfl (by omega)) ?_
      exact dg_n z10 body
  rw [if_neg c2]
  refine dg_b (c.isN (k := 19) (by omega) rfl (by omega)) ?_
  refine dg_p rfl ?_
  refine dg_b (c.isN (k := 20) (by omega) rfl (by omega)) ?_
  refine dg_p rfl ?_
  refine dg_j ?_
  by_cases c3 : kdp L p = 16 ∨ kdp L p = 17
  · rw [if_pos c3]
    have sp : stp (kdp L p) = 3 ∨ stp (kdp L p) = 4 ∨ stp (kdp L p) = 6 := by rcases c3 with q | q <;> rw [q] <;> decide
    have body : OM m t rd tn tp th ea L h0 nr Z (gOne (kdp L) (stp (kdp L p)) p) d E Rl ((gR h m 12 4).bind fun v19 => (gI h m 12 9).bind fun v20 => (gaI h v19 v20).bind fun v21 => (onO h m 12 (f_Md_isOne m v21 h)).bind fun r22 => some (r22.1, r22.2)) := by
      refine dg_b c.mo.r4 ?_
      refine dg_b c.mo.r9 ?_
      refine dg_b c.kat ?_
      refine OM.call (mone_of c hw ho (by omega) sp (X := ix (mkT (kdp L p))) (by rcases c3 with q | q <;> rw [q] <;> rfl)) (fun q h2 d2 => ?_) (fun q h2 d2 => ?_)
      · exact ⟨fun _ => ⟨h2, rfl, d2⟩, fun z => by rw [q] at z; cases z⟩
      · exact ⟨fun z => (by rw [q] at z; cases z), fun _ => ⟨h2, rfl, d2⟩⟩
    by_cases y : kdp L p = 16
    · refine dg_b (c.isY (k := 16) (by omega) rfl y) ?_
      exact dg_n z10 body
    · refine dg_b (c.isN (k := 16) (by omega) rfl y) ?_
      refine dg_p rfl ?_
      refine dg_b (c.isY (k := 17) (by omega) rfl (by omega)) ?_
      exact dg_n z10 body
  rw [if_neg c3]
  refine dg_b (c.isN (k := 16) (by omega) rfl (by omega)) ?_
  refine dg_p rfl ?_
  refine dg_b (c.isN (k := 17) (by omega) rfl (by omega)) ?_
  refine dg_p rfl ?_
  by_cases c4 : kdp L p = 18
  · rw [if_pos c4]
    refine dg_b (c.isY (k := 18) (by omega) rfl c4) ?_
    refine dg_n z10 ?_
    refine OM.call (mtwo_of c hw ho (by omega) (by rw [c4]; decide) (X := 14) (by rw [c4]; rfl)) (fun q h2 d2 => ?_) (fun q h2 d2 => ?_)
    · exact ⟨fun _ => ⟨h2, rfl, d2⟩, fun z => by rw [q] at z; cases z⟩
    · exact ⟨fun z => (by rw [q] at z; cases z), fun _ => ⟨h2, rfl, d2⟩⟩
  rw [if_neg c4]
  refine dg_b (c.isN (k := 18) (by omega) rfl c4) ?_
  refine dg_p rfl ?_
  by_cases c5 : kdp L p = 33
  · rw [if_pos c5]
    refine dg_b (c.sgY (k := 33) (by omega) rfl c5) ?_
    refine dg_n z10 ?_
    by_cases hd8 : d < 8
    · rw [if_pos (decide_eq_true hd8)]
      obtain ⟨h1, e1, d1⟩ := c.inY (by omega) hd8
      refine dg_b e1 ?_
      refine dg_n z10 ?_
      obtain ⟨b1, b2, b3⟩ := vB hd8 (p + 1) d1.pl
      refine OM.call (hv hd8 h1 (p + 1) E Rl (by omega) (by omega) d1) (fun q h2 d2 => ?_) (fun q h2 d2 => ?_)
      · rw [gAft_Y q]
        obtain ⟨f1, f2, f3, f4⟩ := b3 q
        refine dg_n z10 ?_
        refine dg_b d2.mo.r10 ?_
        obtain ⟨h3, e3, d3⟩ := d2.out
        refine dg_b e3 ?_
        obtain ⟨h4, e4, d4⟩ := d3.plus (k := 9) (X := 41) (by rw [wsm_app]; omega) (by unfold pln; omega) rfl
        refine dg_b e4 ?_
        exact OM.ok rfl d4
      · rw [gAft_N q]
        refine dg_p rfl ?_
        exact OM.no rfl d2
    · rw [if_neg (by rw [decide_eq_true_eq]; exact hd8)]
      refine dg_b (c.inN hd8) ?_
      refine dg_p rfl ?_
      exact OM.no rfl c.mf
  rw [if_neg c5]
  refine dg_b (c.sgN (k := 33) (by omega) rfl c5) ?_
  refine dg_p rfl ?_
  refine dg_j ?_
  refine dg_j ?_
  refine dg_b c.mo.r4 ?_
  refine dg_b c.mo.r9 ?_
  refine dg_b c.kat ?_
  by_cases c6 : kdp L p = 24 ∨ kdp L p = 25
  · rw [if_pos c6]
    have sp := cod_op _ k42 (show _ from Or.inr (Or.inr (Or.inr (Or.inr (Or.inr (c6.elim Or.inl (fun q => Or.inr (Or.inl q))))))))
    have eX : ix (mkT (kdp L p)) = ix (cod (stp (kdp L p))) := by rcases c6 with q | q <;> rw [q] <;> rfl
    have body : ∀ h1, MR m t rd tn tp th ea L h0 nr Z h1 (p + 1) d E Rl → OM m t rd tn tp th ea L h0 nr Z (if kdp L (p + 1) = 26 ∧ decide (d < 8) = true then gAft (gCls (kdp L) (gThn (gCls (kdp L) (s (p + 2)) 31) s) 27) (stp (kdp L p), 0, 0) else gFl (p + 1)) d E Rl ((onO h1 m 12 (f_Md_isSign m 40 h1)).bind fun r40 => if r40 = 0 then (some (0, h1)) else ((onO h1 m 12 (f_Md_isIn_ m h1)).bind fun r42 => if r42.1 = 0 then (some (0, r42.2)) else ((onO r42.2 m 12 (rc 1 m r42.2)).bind fun r44 => if r44.1 = 0 then (some (0, r44.2)) else (jn (fun (h49 : hp_M) => jn (fun (h54 : hp_M) => (onO h54 m 12 (f_Md_eatSign m 41 h54)).bind fun r55 => some (r55.1, r55.2)) fun (j53 : hp_M → Option (Int32 × hp_M)) => (gI h49 m 12 10).bind fun v56 => (pF h49 m 12 10 (.int (v56 - 1))).bind fun h57 => if (1 : Int32) = 0 then (j53 h57) else ((onO h57 m 12 (f_Md_put m (ix (mkT (kdp L p))) h57)).bind fun h59 => j53 h59)) fun (j48 : hp_M → Option (Int32 × hp_M)) => if (1 : Int32) = 0 then (j48 r44.2) else ((onO r44.2 m 12 (f_Md_eatSign m 44 r44.2)).bind fun r61 => if r61.1 = 0 then (some (0, r61.2)) else ((onO r61.2 m 12 (rc 1 m r61.2)).bind fun r63 => if r63.1 = 0 then (some (0, r63.2)) else (j48 r63.2))))))) := by
      intro h1 d1
      by_cases z : kdp L (p + 1) = 26
      case neg =>
        rw [if_neg (fun q => z q.1)]
        refine dg_b (d1.sgN (k := 26) (by omega) rfl z) ?_
        refine dg_p rfl ?_
        exact OM.no rfl d1.mf
      refine dg_b (d1.sgY (k := 26) (by omega) rfl z) ?_
      refine dg_n z10 ?_
      by_cases hd8 : d < 8
      case neg =>
        rw [if_neg (fun q => hd8 (of_decide_eq_true q.2))]
        refine dg_b (d1.inN hd8) ?_
        refine dg_p rfl ?_
        exact OM.no rfl d1.mf
      rw [if_pos ⟨z, decide_eq_true hd8⟩]
      obtain ⟨h2, e2, d2⟩ := d1.inY (by omega) hd8
      refine dg_b e2 ?_
      refine dg_n z10 ?_
      obtain ⟨b1, b2, b3⟩ := sB hd8 (p + 2) d2.pl
      refine OM.call (hs hd8 h2 (p + 2) E Rl (by omega) (by omega) d2) (fun q h3 d3 => ?_) (fun q h3 d3 => ?_)
      · obtain ⟨f1, f2, f3, f4⟩ := b3 q
        refine dg_n z10 ?_
        refine dg_j ?_
        refine dg_n z10 ?_
        by_cases y : kdp L (s (p + 2)).2.1 = 31
        · rw [gCls_Y q y, gThn_T]
          obtain ⟨h4, e4, d4⟩ := d3.esY (k := 31) (X := 44) (by omega) (by omega) rfl y
          refine dg_b e4 ?_
          refine dg_n z10 ?_
          obtain ⟨i1, i2, i3⟩ := sB hd8 ((s (p + 2)).2.1 + 1) d4.pl
          refine OM.call (hs hd8 h4 ((s (p + 2)).2.1 + 1) _ _ (by rw [wsm_app]; omega) (by rw [osm_app]; omega) d4) (fun q' h5 d5 => ?_) (fun q' h5 d5 => ?_)
          · obtain ⟨g1, g2, g3, g4⟩ := i3 q'
            refine dg_n z10 ?_
            refine dg_j ?_
            refine dg_b d5.mo.r10 ?_
            obtain ⟨h6, e6, d6⟩ := d5.out
            refine dg_b e6 ?_
            refine dg_n z10 ?_
            have d6' : MR m t rd tn tp th ea L h0 nr Z h6 (s ((s (p + 2)).2.1 + 1)).2.1 d (E ++ ((s (p + 2)).2.2 ++ (s ((s (p + 2)).2.1 + 1)).2.2)) (Rl ++ evRs ((s (p + 2)).2.2 ++ (s ((s (p + 2)).2.1 + 1)).2.2)) := by
              rw [evRs_app, ← List.append_assoc, ← List.append_assoc]; exact d6
            obtain ⟨h7, e7, d7⟩ := d6'.plus (k := stp (kdp L p)) (by rw [wsm_app, wsm_app]; omega) sp eX
            refine dg_b e7 ?_
            by_cases x : kdp L (s ((s (p + 2)).2.1 + 1)).2.1 = 27
            · rw [gCls_Y (g := ((s ((s (p + 2)).2.1 + 1)).1, (s ((s (p + 2)).2.1 + 1)).2.1, (s (p + 2)).2.2 ++ (s ((s (p + 2)).2.1 + 1)).2.2)) q' x, gAft_Y rfl]
              obtain ⟨h8, e8, d8⟩ := d7.esY (k := 27) (X := 41) (by omega) (by omega) rfl x
              refine dg_b e8 ?_
              exact OM.ok rfl d8
            · rw [gCls_Z (g := ((s ((s (p + 2)).2.1 + 1)).1, (s ((s (p + 2)).2.1 + 1)).2.1, (s (p + 2)).2.2 ++ (s ((s (p + 2)).2.1 + 1)).2.2)) q' x, gAft_F]
              refine dg_b (d7.esN (k := 27) (X := 41) (by omega) rfl x) ?_
              exact OM.no rfl d7.mf
          · rw [gCls_N (g := ((s ((s (p + 2)).2.1 + 1)).1, (s ((s (p + 2)).2.1 + 1)).2.1, (s (p + 2)).2.2 ++ (s ((s (p + 2)).2.1 + 1)).2.2)) q', gAft_F]
            refine dg_p rfl ?_
            exact OM.no rfl d5
        · rw [gCls_Z q y, gThn_F, gCls_F, gAft_F]
          refine dg_b (d3.esN (k := 31) (X := 44) (by omega) rfl y) ?_
          refine dg_p rfl ?_
          exact OM.no rfl d3.mf
      · rw [gCls_N q, gThn_F, gCls_F, gAft_F]
        refine dg_p rfl ?_
        exact OM.no rfl d3
    by_cases y : kdp L p = 24
    · obtain ⟨h1, e1, d1⟩ := c.eatY (k := 24) (X := 20) (by omega) (by omega) rfl y
      refine dg_b e1 ?_
      refine dg_n z10 ?_
      exact body h1 d1
    · refine dg_b (c.eatN (k := 24) (X := 20) (by omega) rfl y) ?_
      refine dg_p rfl ?_
      obtain ⟨h1, e1, d1⟩ := c.eatY (k := 25) (X := 21) (by omega) (by omega) rfl (by omega)
      refine dg_b e1 ?_
      refine dg_n z10 ?_
      exact body h1 d1
  rw [if_neg c6]
  refine dg_b (c.eatN (k := 24) (X := 20) (by omega) rfl (by omega)) ?_
  refine dg_p rfl ?_
  refine dg_b (c.eatN (k := 25) (X := 21) (by omega) rfl (by omega)) ?_
  refine dg_p rfl ?_
  by_cases c7 : kdp L p = 26
  case neg =>
    rw [if_neg (fun q => c7 q.1)]
    refine dg_b (c.sgN (k := 26) (by omega) rfl c7) ?_
    refine dg_p rfl ?_
    exact OM.no rfl c.mf
  refine dg_b (c.sgY (k := 26) (by omega) rfl c7) ?_
  refine dg_n z10 ?_
  by_cases hd8 : d < 8
  case neg =>
    rw [if_neg (fun q => hd8 (of_decide_eq_true q.2))]
    refine dg_b (c.inN hd8) ?_
    refine dg_p rfl ?_
    exact OM.no rfl c.mf
  rw [if_pos ⟨c7, decide_eq_true hd8⟩]
  obtain ⟨h2, e2, d2⟩ := c.inY (by omega) hd8
  refine dg_b e2 ?_
  refine dg_n z10 ?_
  refine OM.call (hs hd8 h2 (p + 1) E Rl (by omega) (by omega) d2) (fun q h3 d3 => ?_) (fun q h3 d3 => ?_)
  · refine dg_n z10 ?_
    refine dg_j ?_
    refine dg_p rfl ?_
    refine dg_j ?_
    refine dg_b d3.mo.r10 ?_
    obtain ⟨h4, e4, d4⟩ := d3.out
    refine dg_b e4 ?_
    refine dg_p rfl ?_
    by_cases y : kdp L (s (p + 1)).2.1 = 27
    · rw [gCls_Y q y]
      obtain ⟨h5, e5, d5⟩ := d4.esY (k := 27) (X := 41) (by omega) (by omega) rfl y
      refine dg_b e5 ?_
      exact OM.ok rfl d5
    · rw [gCls_Z q y]
      refine dg_b (d4.esN (k := 27) (X := 41) (by omega) rfl y) ?_
      exact OM.no rfl d4.mf
  · rw [gCls_N q]
    refine dg_p rfl ?_
    exact OM.no rfl d3
end
