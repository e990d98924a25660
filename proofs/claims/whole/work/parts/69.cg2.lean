/-! The class reads values and sums. -/
section
variable {w : hp_W} {r tpA dr tn : Nat} {tp : Nat → Int32} {L : List tokV} {h0 h : hp_M} {p : Nat} {x : Int32 × Int32} {lt : Int32} {B : bkV}
theorem gAft_Y {g : resV} (q : g.1 = true) (v : evV) : gAft g v = (true, g.2.1, g.2.2 ++ [v]) := by unfold gAft; rw [if_pos q]
theorem gAft_N {g : resV} (q : g.1 = false) (v : evV) : gAft g v = gFl g.2.1 := by unfold gAft; rw [if_neg (by rw [q]; decide)]
theorem gCls_Y {K : Nat → Nat} {g : resV} {k : Nat} (q : g.1 = true) (z : K g.2.1 = k) : gCls K g k = (true, g.2.1 + 1, g.2.2) := by unfold gCls; rw [if_pos q, if_pos z]
theorem gCls_Z {K : Nat → Nat} {g : resV} {k : Nat} (q : g.1 = true) (z : K g.2.1 ≠ k) : gCls K g k = gFl g.2.1 := by unfold gCls; rw [if_pos q, if_neg z]
theorem gCls_N {K : Nat → Nat} {g : resV} {k : Nat} (q : g.1 = false) : gCls K g k = gFl g.2.1 := by unfold gCls; rw [if_neg (by rw [q]; decide)]
theorem gThn_Y {g : resV} {f : Nat → resV} (q : g.1 = true) : gThn g f = ((f g.2.1).1, (f g.2.1).2.1, g.2.2 ++ (f g.2.1).2.2) := by unfold gThn; rw [if_pos q]
theorem gThn_N {g : resV} {f : Nat → resV} (q : g.1 = false) : gThn g f = gFl g.2.1 := by unfold gThn; rw [if_neg (by rw [q]; decide)]
theorem gThn_T (a : Nat) (l : List evV) (f : Nat → resV) : gThn (true, a, l) f = ((f a).1, (f a).2.1, l ++ (f a).2.2) := rfl
theorem gAft_F (q : Nat) (v : evV) : gAft (gFl q) v = gFl q := rfl
theorem gCls_F (K : Nat → Nat) (q k : Nat) : gCls K (gFl q) k = gFl q := rfl
theorem gThn_F (q : Nat) (f : Nat → resV) : gThn (gFl q) f = gFl q := rfl
theorem dpN (ow : okW w) (c : CR w r tpA dr tn tp L h0 h p x.1 x.2 lt B) {k d : Nat} (hk : k < 42) (hd : d ≤ 8) (z : kdp L p ≠ k ∨ ¬ d < 8) : onO h r 5 (f_Rd_takeDeeper r (w_kd w k) (ix d) h) = some (0, h) := by
  rw [c.on]
  unfold f_Rd_takeDeeper
  refine jnE ?_
  by_cases q : d < 8
  · refine ite_n (show ¬ (8 : Int32) ≤ ix d from ix_nle (n := d) (i := 8) q (by omega)) ?_
    refine bnd c.r0 ?_
    refine bnd (c.takeN ow hk (z.elim id (fun z => absurd q z))) ?_
    exact ite_p rfl rfl
  · exact ite_p (show (8 : Int32) ≤ ix d from ix_le1 (i := 8) (by omega) (by omega)) rfl
theorem dpY (ow : okW w) {e ep : Int32} (c : CR w r tpA dr tn tp L h0 h p e ep lt B) {k d : Nat} (hk : k < 42) (k2 : 2 ≤ k) (hd : d < 8) (z : kdp L p = k) : ∃ h', onO h r 5 (f_Rd_takeDeeper r (w_kd w k) (ix d) h) = some (1, h') ∧ CR w r tpA dr tn tp L h0 h' (p + 1) e ep lt B := by
  obtain ⟨h', e1, c1⟩ := c.takeY ow hk k2 z
  refine ⟨h', ?_, c1⟩
  rw [c.on]
  unfold f_Rd_takeDeeper
  refine jnE ?_
  refine ite_n (show ¬ (8 : Int32) ≤ ix d from ix_nle (n := d) (i := 8) hd (by omega)) ?_
  refine bnd c.r0 ?_
  refine bnd e1 ?_
  exact ite_n z10 rfl
theorem two_of (ow : okW w) {fl : Nat} (hfl : 5000 ≤ fl) (hl : B.2.2.1.length ≤ p) (c : CR w r tpA dr tn tp L h0 h p x.1 x.2 lt B) (hk : kdp L p = 14 ∨ kdp L p = 15 ∨ kdp L p = 18) : OC w r tpA dr tn tp L h0 (gTwo (kdp L) p) x B (onO h r 5 (f_Rd_readOfTwo w fl r h)) := by
  have k42 := c.k42
  have pL := c.pL
  have st : stp (kdp L p) = 5 ∨ stp (kdp L p) = 7 ∨ stp (kdp L p) = 8 := by rcases hk with q | q | q <;> rw [q] <;> decide
  rw [c.on]
  unfold f_Rd_readOfTwo gTwo
  refine dg_b c.r0 ?_
  refine dg_b c.kind ?_
  refine dg_b (kstep_of ow k42 h) ?_
  refine dg_b c.r0 ?_
  obtain ⟨h1, e1, c1⟩ := c.any (by omega)
  refine dg_b e1 ?_
  refine dg_n z10 ?_
  by_cases z : kdp L (p + 1) = 2
  · rw [if_pos z]
    obtain ⟨h2, e2, c2⟩ := c1.nameP ow hfl z
    refine dg_b e2 ?_
    refine dg_n z10 ?_
    refine dg_b c2.r5 ?_
    refine dg_b c2.r0 ?_
    refine dg_b c2.start ?_
    by_cases y : kdp L (p + 2) = 2
    · rw [if_pos y]
      obtain ⟨h3, e3, c3⟩ := c2.nameP ow hfl y
      have pl3 := c3.pl
      refine dg_b e3 ?_
      refine dg_n z10 ?_
      refine dg_j ?_
      refine dg_b c3.r5 ?_
      have it : itm B tp L (stp (kdp L p), p + 1, p + 2) = (stp (kdp L p), lkP B tp L (p + 1), lkP B tp L (p + 2)) := by
        unfold itm
        rw [if_neg (by omega), if_neg (by omega), if_pos st]
      have er : erL B tp L x [(stp (kdp L p), p + 1, p + 2)] = er6 B tp L (er1 B tp L (er1 B tp L x (p + 1)) (p + 2)) (p + 1) (p + 2) := by
        show erF B tp L x (stp (kdp L p), p + 1, p + 2) = _
        unfold erF
        rw [if_neg (by dsimp only; omega), if_pos st]
      have fin : ∀ h4, CR w r tpA dr tn tp L h0 h4 (p + 3) (er6 B tp L (er1 B tp L (er1 B tp L x (p + 1)) (p + 2)) (p + 1) (p + 2)).1 (er6 B tp L (er1 B tp L (er1 B tp L x (p + 1)) (p + 2)) (p + 1) (p + 2)).2 (ix (lkP B tp L (p + 2))) B → OC w r tpA dr tn tp L h0 (true, p + 3, [(stp (kdp L p), p + 1, p + 2)]) x B ((gI h4 r 5 5).bind fun v18 => (onO h4 r 5 (f_Rd_write r (kd_st.getD (kdp L p) 0) (ix (lkP B tp L (p + 1))) v18 h4)).bind fun r19 => some (r19.1, r19.2)) := by
        intro h4 c4
        refine dg_b c4.r5 ?_
        obtain ⟨h5, e5, c5⟩ := c4.write (by omega) (stp_of _ k42 (by omega) (by omega)) (u := lkP B tp L (p + 1)) (v := lkP B tp L (p + 2)) rfl rfl
        refine dg_b e5 ?_
        refine OC.ok (lt := ix (lkP B tp L (p + 2))) rfl ?_
        rw [er, ← addI_L, it]
        exact c5
      by_cases u : ix (lkP B tp L (p + 2)) = ix (lkP B tp L (p + 1))
      · refine dg_p u ?_
        obtain ⟨h4, e4, c4⟩ := c3.blame 6 (ix (tkn L (p + 2)).2.1)
        refine dg_b e4 ?_
        refine fin h4 ?_
        unfold er6
        rw [if_pos u]
        exact c4
      · refine dg_n u ?_
        refine fin h3 ?_
        unfold er6
        rw [if_neg u]
        exact c3
    · rw [if_neg y]
      refine dg_b (c2.nameN ow y) ?_
      refine dg_p rfl ?_
      exact OC.no rfl c2
  · rw [if_neg z]
    refine dg_b (c1.nameN ow z) ?_
    refine dg_p rfl ?_
    exact OC.no rfl c1
/-- a step of one name, written behind it -/
theorem one_w {e ep : Int32} {l2 : Int32} {k : Nat} {X : Int32} {q : Nat} (hl : B.2.2.1.length < 400) (hk : k = 3 ∨ k = 4 ∨ k = 6) (eX : X = ix k) (c : CR w r tpA dr tn tp L h0 h q (er1 B tp L x p).1 (er1 B tp L x p).2 (ix (lkP B tp L p)) B) : ∃ h', onO h r 5 (f_Rd_write r X (ix (lkP B tp L p)) 0 h) = some (1, h') ∧ CR w r tpA dr tn tp L h0 h' q (erL B tp L x [(k, p, 0)]).1 (erL B tp L x [(k, p, 0)]).2 (ix (lkP B tp L p)) (addL B tp L [(k, p, 0)]) := by
  obtain ⟨h', e1, c1⟩ := c.write hl eX (u := lkP B tp L p) (v := 0) rfl rfl
  refine ⟨h', e1, ?_⟩
  have it : itm B tp L (k, p, 0) = (k, lkP B tp L p, 0) := by
    unfold itm
    rw [if_neg (by dsimp only; omega), if_pos hk]
  have er : erL B tp L x [(k, p, 0)] = er1 B tp L x p := by
    show erF B tp L x (k, p, 0) = _
    unfold erF
    rw [if_pos hk]
  rw [er, ← addI_L, it]
  exact c1
theorem val_of (ow : okW w) {fl : Nat} (hfl : 5000 ≤ fl) {rc : Nat → Nat → Int32 → hp_M → Option (Int32 × hp_M)} {d : Nat} (hd : d ≤ 8) {v s : Nat → resV} (hv : d < 8 → CS w r tpA dr tn tp L h0 (fun h => onO h r 5 (rc 2 r (ix (d + 1)) h)) v) (vB : d < 8 → ∀ q, q < L.length → gB L.length 1 q (v q)) (hs : d < 8 → CS w r tpA dr tn tp L h0 (fun h => onO h r 5 (rc 1 r (ix (d + 1)) h)) s) (sB : d < 8 → ∀ q, q < L.length → gB L.length 1 q (s q)) : CS w r tpA dr tn tp L h0 (fun h => f_Rd_readValue_body w fl rc r (ix d) h) (gValF (kdp L) v s (decide (d < 8))) := by
  intro h p x lt B hl c
  have k42 := c.k42
  have pL := c.pL
  dsimp only
  unfold f_Rd_readValue_body gValF
  refine dg_b c.r0 ?_
  refine dg_b c.kind ?_
  refine dg_b (kstep_of ow k42 h) ?_
  refine dg_b c.r0 ?_
  by_cases c1 : kdp L p = 3
  · rw [if_pos c1]
    refine dg_b (c.isY ow (by omega) c1) ?_
    refine dg_n z10 ?_
    refine dg_j ?_
    refine dg_b c.r0 ?_
    refine dg_b (c.numb c1) ?_
    have p1 := c.nxt (by omega)
    obtain ⟨h1, e1, c2⟩ := c.write (by omega) (k := 0) (u := nuN tp L p) (v := 0) rfl (ix_bv _).symm rfl
    refine dg_b e1 ?_
    refine dg_n z10 ?_
    refine dg_b c2.r0 ?_
    obtain ⟨h2, e2, c3⟩ := c2.any (by omega)
    refine dg_b e2 ?_
    refine dg_n z10 ?_
    exact OC.ok (l := [(0, p, 0)]) rfl c3
  rw [if_neg c1]
  refine dg_b (c.isN ow (by omega) c1) ?_
  refine dg_p rfl ?_
  refine dg_j ?_
  refine dg_b c.r0 ?_
  by_cases c2 : kdp L p = 19 ∨ kdp L p = 20
  · rw [if_pos c2]
    have p1 := c.nxt (by omega)
    have sp := stp_pln _ k42 (by omega)
    have body : OC w r tpA dr tn tp L h0 (true, p + 1, [(stp (kdp L p), 0, 0)]) x B (jn (fun (h16 : hp_M) => some (0, h16)) fun (j15 : hp_M → Option (Int32 × hp_M)) => (onO h r 5 (f_Rd_write r (kd_st.getD (kdp L p) 0) 0 0 h)).bind fun r17 => if r17.1 = 0 then (j15 r17.2) else ((gR r17.2 r 5 0).bind fun v19 => (onO r17.2 v19 6 (f_Sc_takeAny v19 r17.2)).bind fun r20 => if r20.1 = 0 then (j15 r20.2) else (some (1, r20.2)))) := by
      refine dg_j ?_
      have c0 : CR w r tpA dr tn tp L h0 h p (erL B tp L x []).1 (erL B tp L x []).2 lt (addL B tp L []) := by rw [addL_nil]; exact c
      obtain ⟨h1, e1, c3⟩ := c0.plain (by rw [addL_len]; simp; omega) sp (stp_of _ k42 (by omega) (by omega))
      refine dg_b e1 ?_
      refine dg_n z10 ?_
      refine dg_b c3.r0 ?_
      obtain ⟨h2, e2, c4⟩ := c3.any (by omega)
      refine dg_b e2 ?_
      refine dg_n z10 ?_
      exact OC.ok rfl c4
    by_cases y : kdp L p = 19
    · refine dg_b (c.isY ow (by omega) y) ?_
      exact dg_n z10 body
    · refine dg_b (c.isN ow (by omega) y) ?_
      refine dg_p rfl ?_
      refine dg_b c.r0 ?_
      refine dg_b (c.isY ow (by omega) (show kdp L p = 20 by omega)) ?_
      exact dg_n z10 body
  rw [if_neg c2]
  refine dg_b (c.isN ow (by omega) (fun q => c2 (Or.inl q))) ?_
  refine dg_p rfl ?_
  refine dg_b c.r0 ?_
  refine dg_b (c.isN ow (by omega) (fun q => c2 (Or.inr q))) ?_
  refine dg_p rfl ?_
  refine dg_j ?_
  refine dg_b c.r0 ?_
  by_cases c3 : kdp L p = 16 ∨ kdp L p = 17
  · rw [if_pos c3]
    have sp : stp (kdp L p) = 3 ∨ stp (kdp L p) = 4 ∨ stp (kdp L p) = 6 := by rcases c3 with q | q <;> rw [q] <;> decide
    have body : OC w r tpA dr tn tp L h0 (gOne (kdp L) (stp (kdp L p)) p) x B (jn (fun (h39 : hp_M) => some (0, h39)) fun (j38 : hp_M → Option (Int32 × hp_M)) => (gR h r 5 0).bind fun v40 => (onO h v40 6 (f_Sc_takeAny v40 h)).bind fun r41 => if r41.1 = 0 then (j38 r41.2) else ((onO r41.2 r 5 (f_Rd_readName w fl r 0 r41.2)).bind fun r43 => if r43.1 = 0 then (j38 r43.2) else ((gI r43.2 r 5 5).bind fun v45 => (onO r43.2 r 5 (f_Rd_write r (kd_st.getD (kdp L p) 0) v45 0 r43.2)).bind fun r46 => if r46.1 = 0 then (j38 r46.2) else (some (1, r46.2))))) := by
      refine dg_j ?_
      refine dg_b c.r0 ?_
      obtain ⟨h1, e1, d1⟩ := c.any (by omega)
      refine dg_b e1 ?_
      refine dg_n z10 ?_
      unfold gOne
      by_cases z : kdp L (p + 1) = 2
      · rw [if_pos z]
        obtain ⟨h2, e2, d2⟩ := d1.nameP ow hfl z
        have pl2 := d2.pl
        refine dg_b e2 ?_
        refine dg_n z10 ?_
        refine dg_b d2.r5 ?_
        obtain ⟨h3, e3, d3⟩ := one_w (e := 0) (ep := 0) (l2 := 0) (x := x) (by omega) sp (stp_of _ k42 (by omega) (by omega)) d2
        refine dg_b e3 ?_
        refine dg_n z10 ?_
        exact OC.ok rfl d3
      · rw [if_neg z]
        refine dg_b (d1.nameN ow z) ?_
        refine dg_p rfl ?_
        exact OC.no rfl d1
    by_cases y : kdp L p = 16
    · refine dg_b (c.isY ow (by omega) y) ?_
      exact dg_n z10 body
    · refine dg_b (c.isN ow (by omega) y) ?_
      refine dg_p rfl ?_
      refine dg_b c.r0 ?_
      refine dg_b (c.isY ow (by omega) (show kdp L p = 17 by omega)) ?_
      exact dg_n z10 body
  rw [if_neg c3]
  refine dg_b (c.isN ow (by omega) (fun q => c3 (Or.inl q))) ?_
  refine dg_p rfl ?_
  refine dg_b c.r0 ?_
  refine dg_b (c.isN ow (by omega) (fun q => c3 (Or.inr q))) ?_
  refine dg_p rfl ?_
  refine dg_b c.r0 ?_
  by_cases c4 : kdp L p = 18
  · rw [if_pos c4]
    refine dg_b (c.isY ow (by omega) c4) ?_
    refine dg_n z10 ?_
    refine OC.call (two_of ow hfl hl c (by omega)) (fun q h2 lt2 d2 => ?_) (fun q h2 e2 ep2 lt2 B2 d2 => ?_)
    · exact ⟨fun _ => ⟨h2, lt2, rfl, d2⟩, fun z => by rw [q] at z; cases z⟩
    · exact ⟨fun z => (by rw [q] at z; cases z), fun _ => ⟨h2, e2, ep2, lt2, B2, rfl, d2⟩⟩
  rw [if_neg c4]
  refine dg_b (c.isN ow (by omega) c4) ?_
  refine dg_p rfl ?_
  refine dg_b c.r0 ?_
  by_cases c5 : kdp L p = 33
  · rw [if_pos c5]
    refine dg_b (c.isY ow (by omega) c5) ?_
    refine dg_n z10 ?_
    refine dg_j ?_
    by_cases hd8 : d < 8
    · rw [if_pos (decide_eq_true hd8)]
      obtain ⟨h1, e1, d1⟩ := dpY ow c (k := 33) (by omega) (by omega) hd8 c5
      refine dg_b e1 ?_
      refine dg_n z10 ?_
      rw [ixp1]
      obtain ⟨b1, b2, b3⟩ := vB hd8 (p + 1) d1.pl
      refine OC.call (hv hd8 h1 (p + 1) x lt B (by omega) d1) (fun q h2 lt2 d2 => ?_) (fun q h2 e2 ep2 lt2 B2 d2 => ?_)
      · rw [gAft_Y q]
        obtain ⟨f1, f2, f3, f4⟩ := b3 q
        refine dg_n z10 ?_
        obtain ⟨h3, e3, d3⟩ := d2.plain (k := 9) (X := 9) (by rw [addL_len]; omega) (by unfold pln; omega) rfl
        refine dg_b e3 ?_
        refine dg_n z10 ?_
        exact OC.ok rfl d3
      · rw [gAft_N q]
        refine dg_p rfl ?_
        exact OC.no rfl d2
    · rw [if_neg (by rw [decide_eq_true_eq]; exact hd8)]
      refine dg_b (dpN ow c (k := 33) (by omega) hd (Or.inr hd8)) ?_
      refine dg_p rfl ?_
      exact OC.no rfl c
  rw [if_neg c5]
  refine dg_b (c.isN ow (by omega) c5) ?_
  refine dg_p rfl ?_
  refine dg_j ?_
  refine dg_b c.r0 ?_
  by_cases c6 : kdp L p = 24 ∨ kdp L p = 25
  · rw [if_pos c6]
    have sp := stp_pln _ k42 (by omega)
    have body : OC w r tpA dr tn tp L h0 (if kdp L (p + 1) = 26 ∧ decide (d < 8) = true then gAft (gCls (kdp L) (gThn (gCls (kdp L) (s (p + 2)) 31) s) 27) (stp (kdp L p), 0, 0) else gFl (p + 1)) x B (jn (fun (h76 : hp_M) => some (0, h76)) fun (j75 : hp_M → Option (Int32 × hp_M)) => (gR h r 5 0).bind fun v77 => (onO h v77 6 (f_Sc_takeAny v77 h)).bind fun r78 => if r78.1 = 0 then (j75 r78.2) else ((onO r78.2 r 5 (f_Rd_takeDeeper r (w_kd w 26) (ix d) r78.2)).bind fun r80 => if r80.1 = 0 then (j75 r80.2) else ((onO r80.2 r 5 (rc 1 r (ix d + 1) r80.2)).bind fun r82 => if r82.1 = 0 then (j75 r82.2) else ((gR r82.2 r 5 0).bind fun v84 => (onO r82.2 v84 6 (f_Sc_take v84 (w_kd w 31) r82.2)).bind fun r85 => if r85.1 = 0 then (j75 r85.2) else ((onO r85.2 r 5 (rc 1 r (ix d + 1) r85.2)).bind fun r87 => if r87.1 = 0 then (j75 r87.2) else ((gR r87.2 r 5 0).bind fun v89 => (onO r87.2 v89 6 (f_Sc_take v89 (w_kd w 27) r87.2)).bind fun r90 => if r90.1 = 0 then (j75 r90.2) else ((onO r90.2 r 5 (f_Rd_write r (kd_st.getD (kdp L p) 0) 0 0 r90.2)).bind fun r92 => if r92.1 = 0 then (j75 r92.2) else (some (1, r92.2))))))))) := by
      refine dg_j ?_
      refine dg_b c.r0 ?_
      obtain ⟨h1, e1, d1⟩ := c.any (by omega)
      refine dg_b e1 ?_
      refine dg_n z10 ?_
      by_cases z : kdp L (p + 1) = 26 ∧ decide (d < 8) = true
      · rw [if_pos z]
        have hd8 := of_decide_eq_true z.2
        obtain ⟨h2, e2, d2⟩ := dpY ow d1 (k := 26) (by omega) (by omega) hd8 z.1
        refine dg_b e2 ?_
        refine dg_n z10 ?_
        rw [ixp1]
        obtain ⟨b1, b2, b3⟩ := sB hd8 (p + 2) d2.pl
        refine OC.call (hs hd8 h2 (p + 2) x lt B (by omega) d2) (fun q h3 lt3 d3 => ?_) (fun q h3 e3 ep3 lt3 B3 d3 => ?_)
        · obtain ⟨f1, f2, f3, f4⟩ := b3 q
          refine dg_n z10 ?_
          refine dg_b d3.r0 ?_
          by_cases y : kdp L (s (p + 2)).2.1 = 31
          · rw [gCls_Y q y, gThn_T]
            obtain ⟨h4, e4, d4⟩ := d3.takeY ow (k := 31) (by omega) (by omega) y
            refine dg_b e4 ?_
            refine dg_n z10 ?_
            obtain ⟨i1, i2, i3⟩ := sB hd8 ((s (p + 2)).2.1 + 1) d4.pl
            refine OC.call (hs hd8 h4 ((s (p + 2)).2.1 + 1) _ _ _ (by rw [addL_len]; omega) d4) (fun q' h5 lt5 d5 => ?_) (fun q' h5 e5 ep5 lt5 B5 d5 => ?_)
            · obtain ⟨g1, g2, g3, g4⟩ := i3 q'
              have d5' : CR w r tpA dr tn tp L h0 h5 (s ((s (p + 2)).2.1 + 1)).2.1 (erL B tp L x ((s (p + 2)).2.2 ++ (s ((s (p + 2)).2.1 + 1)).2.2)).1 (erL B tp L x ((s (p + 2)).2.2 ++ (s ((s (p + 2)).2.1 + 1)).2.2)).2 lt5 (addL B tp L ((s (p + 2)).2.2 ++ (s ((s (p + 2)).2.1 + 1)).2.2)) := by
                rw [erL_app, ← addL_app]; exact d5
              refine dg_n z10 ?_
              refine dg_b d5.r0 ?_
              by_cases y' : kdp L (s ((s (p + 2)).2.1 + 1)).2.1 = 27
              · rw [gCls_Y (g := ((s ((s (p + 2)).2.1 + 1)).1, (s ((s (p + 2)).2.1 + 1)).2.1, (s (p + 2)).2.2 ++ (s ((s (p + 2)).2.1 + 1)).2.2)) q' y', gAft_Y rfl]
                obtain ⟨h6, e6, d6⟩ := d5'.takeY ow (k := 27) (by omega) (by omega) y'
                refine dg_b e6 ?_
                refine dg_n z10 ?_
                obtain ⟨h7, e7, d7⟩ := d6.plain (k := stp (kdp L p)) (by have := d6.pl; rw [addL_len, List.length_append]; omega) sp (stp_of _ k42 (by omega) (by omega))
                refine dg_b e7 ?_
                refine dg_n z10 ?_
                exact OC.ok rfl d7
              · rw [gCls_Z (g := ((s ((s (p + 2)).2.1 + 1)).1, (s ((s (p + 2)).2.1 + 1)).2.1, (s (p + 2)).2.2 ++ (s ((s (p + 2)).2.1 + 1)).2.2)) q' y', gAft_F]
                refine dg_b (d5.takeN ow (by omega) y') ?_
                refine dg_p rfl ?_
                exact OC.no rfl d5
            · rw [gCls_N (g := ((s ((s (p + 2)).2.1 + 1)).1, (s ((s (p + 2)).2.1 + 1)).2.1, (s (p + 2)).2.2 ++ (s ((s (p + 2)).2.1 + 1)).2.2)) q', gAft_F]
              refine dg_p rfl ?_
              exact OC.no rfl d5
          · rw [gCls_Z q y, gThn_F, gCls_F, gAft_F]
            refine dg_b (d3.takeN ow (by omega) y) ?_
            refine dg_p rfl ?_
            exact OC.no rfl d3
        · rw [gCls_N q, gThn_F, gCls_F, gAft_F]
          refine dg_p rfl ?_
          exact OC.no rfl d3
      · rw [if_neg z]
        refine dg_b (dpN ow (x := x) d1 (k := 26) (by omega) hd (by
          by_cases y : kdp L (p + 1) = 26
          · right; intro q; exact z ⟨y, decide_eq_true q⟩
          · left; exact y)) ?_
        refine dg_p rfl ?_
        exact OC.no rfl d1
    by_cases y : kdp L p = 24
    · refine dg_b (c.isY ow (by omega) y) ?_
      exact dg_n z10 body
    · refine dg_b (c.isN ow (by omega) y) ?_
      refine dg_p rfl ?_
      refine dg_b c.r0 ?_
      refine dg_b (c.isY ow (by omega) (show kdp L p = 25 by omega)) ?_
      exact dg_n z10 body
  rw [if_neg c6]
  refine dg_b (c.isN ow (by omega) (fun q => c6 (Or.inl q))) ?_
  refine dg_p rfl ?_
  refine dg_b c.r0 ?_
  refine dg_b (c.isN ow (by omega) (fun q => c6 (Or.inr q))) ?_
  refine dg_p rfl ?_
  refine dg_j ?_
  by_cases z : kdp L p = 26 ∧ decide (d < 8) = true
  · rw [if_pos z]
    have hd8 := of_decide_eq_true z.2
    obtain ⟨h2, e2, d2⟩ := dpY ow c (k := 26) (by omega) (by omega) hd8 z.1
    refine dg_b e2 ?_
    refine dg_n z10 ?_
    rw [ixp1]
    obtain ⟨b1, b2, b3⟩ := sB hd8 (p + 1) d2.pl
    refine OC.call (hs hd8 h2 (p + 1) x lt B (by omega) d2) (fun q h3 lt3 d3 => ?_) (fun q h3 e3 ep3 lt3 B3 d3 => ?_)
    · refine dg_n z10 ?_
      refine dg_b d3.r0 ?_
      by_cases y : kdp L (s (p + 1)).2.1 = 27
      · rw [gCls_Y q y]
        obtain ⟨h4, e4, d4⟩ := d3.takeY ow (k := 27) (by omega) (by omega) y
        refine dg_b e4 ?_
        refine dg_n z10 ?_
        exact OC.ok rfl d4
      · rw [gCls_Z q y]
        refine dg_b (d3.takeN ow (by omega) y) ?_
        refine dg_p rfl ?_
        exact OC.no rfl d3
    · rw [gCls_N q]
      refine dg_p rfl ?_
      exact OC.no rfl d3
  · rw [if_neg z]
    refine dg_b (dpN ow c (k := 26) (by omega) hd (by
      by_cases y : kdp L p = 26
      · right; intro q; exact z ⟨y, decide_eq_true q⟩
      · left; exact y)) ?_
    refine dg_p rfl ?_
    exact OC.no rfl c
end
