/-! The class reads sums and tests, at every depth. -/
section
variable {w : hp_W} {r tpA dr tn : Nat} {tp : Nat → Int32} {L : List tokV} {h0 h : hp_M} {p : Nat} {x : Int32 × Int32} {lt : Int32} {B : bkV}
theorem CS.on {f : hp_M → Option (Int32 × hp_M)} {g : Nat → resV} (c : CS w r tpA dr tn tp L h0 f g) : CS w r tpA dr tn tp L h0 (fun h => onO h r 5 (f h)) g := fun h p x lt B hl cr => by
  show OC w r tpA dr tn tp L h0 (g p) x B (onO h r 5 (f h))
  rw [cr.on]
  exact c h p x lt B hl cr
theorem rd_pro (ow : okW w) (okk : okK L) {fl : Nat} (hfl : 5000 ≤ fl) {n d : Nat} {v : Nat → resV} (vB : ∀ q, q < L.length → gB L.length 1 q (v q)) (hv : CS w r tpA dr tn tp L h0 (fun h => onO h r 5 (g_Rd_readProduct w fl n 2 r (ix d) h)) v) : CS w r tpA dr tn tp L h0 (fun h => onO h r 5 (g_Rd_readProduct w fl (n + 1) 0 r (ix d) h)) (gSq (kdp L) v opPro) := by
  refine CS.on (fun h p x lt B hl c => ?_)
  exact seq_of rfl hl (vB p c.pl) (hv h p x lt B hl c) (pro_b ow okk hv vB 400 0 fl (by omega) (by omega))
theorem rd_sum (ow : okW w) (okk : okK L) {fl : Nat} (hfl : 5000 ≤ fl) {n d : Nat} {v : Nat → resV} (vB : ∀ q, q < L.length → gB L.length 1 q (v q)) (hv : CS w r tpA dr tn tp L h0 (fun h => onO h r 5 (g_Rd_readProduct w fl n 0 r (ix d) h)) v) : CS w r tpA dr tn tp L h0 (fun h => onO h r 5 (g_Rd_readProduct w fl (n + 1) 1 r (ix d) h)) (gSq (kdp L) v opSum) := by
  refine CS.on (fun h p x lt B hl c => ?_)
  exact seq_of rfl hl (vB p c.pl) (hv h p x lt B hl c) (sum_b ow okk hv vB 400 0 fl (by omega) (by omega))
theorem rd_val (ow : okW w) (okk : okK L) {fl : Nat} (hfl : 5000 ≤ fl) : ∀ k d n, d + k = 8 → 3 * k + 1 ≤ n → CS w r tpA dr tn tp L h0 (fun h => onO h r 5 (g_Rd_readProduct w fl n 2 r (ix d) h)) (gVal (kdp L) k) := by
  intro k
  induction k with
  | zero =>
    intro d n hd hn
    obtain ⟨n, rfl⟩ : ∃ q, n = q + 1 := ⟨n - 1, by omega⟩
    refine CS.on (fun h p x lt B hl c => ?_)
    have := val_of ow (rc := g_Rd_readProduct w fl n) hfl (d := d) (by omega) (v := gFl) (s := gFl) (fun q => by omega) (fun q => by omega) (fun q => by omega) (fun q => by omega) h p x lt B hl c
    rw [decide_eq_false (show ¬ d < 8 by omega)] at this
    exact this
  | succ k ih =>
    intro d n hd hn
    obtain ⟨n, rfl⟩ : ∃ q, n = q + 1 := ⟨n - 1, by omega⟩
    refine CS.on (fun h p x lt B hl c => ?_)
    have vB := gVal_B (kN okk) k
    have hs : CS w r tpA dr tn tp L h0 (fun h => onO h r 5 (g_Rd_readProduct w fl n 1 r (ix (d + 1)) h)) (gSum (kdp L) (gVal (kdp L) k)) := by
      obtain ⟨n, rfl⟩ : ∃ q, n = q + 1 := ⟨n - 1, by omega⟩
      obtain ⟨n, rfl⟩ : ∃ q, n = q + 1 := ⟨n - 1, by omega⟩
      exact rd_sum ow okk hfl (gPro_B (kN okk) vB) (rd_pro ow okk hfl vB (ih (d + 1) n (by omega) (by omega)))
    have := val_of ow (rc := g_Rd_readProduct w fl n) hfl (d := d) (by omega) (v := gVal (kdp L) k) (s := gSum (kdp L) (gVal (kdp L) k)) (fun q => ih (d + 1) n (by omega) (by omega)) (fun q => vB) (fun q => hs) (fun q => gSum_B (kN okk) vB) h p x lt B hl c
    rw [decide_eq_true (show d < 8 by omega)] at this
    exact this
theorem rd_sumF (ow : okW w) (okk : okK L) {fl : Nat} (hfl : 5000 ≤ fl) {k d : Nat} (hd : d + k = 8) : CS w r tpA dr tn tp L h0 (fun h => onO h r 5 (f_Rd_readSum w fl r (ix d) h)) (gSum (kdp L) (gVal (kdp L) k)) :=
  rd_sum ow okk hfl (n := 63) (gPro_B (kN okk) (gVal_B (kN okk) k)) (rd_pro ow okk hfl (n := 62) (gVal_B (kN okk) k) (rd_val ow okk hfl k d 62 hd (by omega)))
theorem both_b (ow : okW w) {fl : Nat} {rc : Nat → Nat → Int32 → hp_M → Option (Int32 × hp_M)} {x1 : Int32} {v : Nat → resV} (okk : okK L) (hv : CS w r tpA dr tn tp L h0 (fun h => onO h r 5 (rc 1 r x1 h)) v) (vB : ∀ q, q < L.length → gB L.length 1 q (v q)) : ∀ n j fu, j + n = 400 → n < fu → CS w r tpA dr tn tp L h0 (fun h => f_Rd_readBoth_b12 w fl rc r x1 fu (ix j) h) (gLp (kdp L) v opAnd n) := by
  intro n
  induction n with
  | zero =>
    intro j fu hj hf h p x lt B hl c
    obtain ⟨fu, rfl⟩ : ∃ q, fu = q + 1 := ⟨fu - 1, by omega⟩
    dsimp only
    unfold f_Rd_readBoth_b12
    rw [show (400 : Int32) = ix 400 from rfl, if_pos (ix_le1 (by omega) (by omega))]
    exact OC.ok0 rfl c
  | succ n ih =>
    intro j fu hj hf h p x lt B hl c
    obtain ⟨fu, rfl⟩ : ∃ q, fu = q + 1 := ⟨fu - 1, by omega⟩
    have k42 := c.k42
    have pL := c.pL
    dsimp only
    unfold f_Rd_readBoth_b12 gLp
    refine dg_n (show ¬ (400 : Int32) ≤ ix j from ix_nle (n := j) (i := 400) (by omega) (by omega)) ?_
    refine dg_b c.r0 ?_
    by_cases z : kdp L p = 22
    · have z' : opAnd (kdp L p) = true := decide_eq_true z
      have sp := stp_pln _ k42 (Or.inr (Or.inr (Or.inl z')))
      rw [if_pos z']
      refine dg_b (c.isY ow (by omega) z) ?_
      refine dg_n z10 ?_
      refine dg_b c.r0 ?_
      obtain ⟨h1, e1, c1⟩ := c.takeY ow (k := 22) (by omega) (by omega) z
      refine dg_b e1 ?_
      refine dg_n z10 ?_
      obtain ⟨b1, b2, b3⟩ := vB (p + 1) c1.pl
      refine OC.call (hv h1 (p + 1) x lt B (by omega) c1) (fun q h2 lt2 c2 => ?_) (fun q h2 e2 ep2 lt2 B2 c2 => ?_)
      · rw [if_pos q]
        obtain ⟨d1, d2, d3, d4⟩ := b3 q
        refine dg_n z10 ?_
        obtain ⟨h3, e3, c3⟩ := c2.plain (k := stp (kdp L p)) (X := 11) (by rw [addL_len]; omega) sp (by rw [z]; rfl)
        refine dg_b e3 ?_
        have := ih (j + 1) fu (by omega) (by omega) h3 _ _ _ _ (by rw [addL_len, List.length_append, List.length_singleton]; omega) c3
        have o := OC.pre this
        rw [List.append_assoc] at o
        rw [ixp1]
        exact o
      · rw [if_neg (by rw [q]; decide)]
        refine dg_p rfl ?_
        exact OC.no rfl c2
    · rw [if_neg (show ¬ opAnd (kdp L p) = true from fun q => z (of_decide_eq_true q))]
      refine dg_b (c.isN ow (by omega) z) ?_
      refine dg_p rfl ?_
      exact OC.ok0 rfl c
theorem test_b (ow : okW w) {fl : Nat} {rc : Nat → Nat → Int32 → hp_M → Option (Int32 × hp_M)} {x1 : Int32} {v : Nat → resV} (okk : okK L) (hv : CS w r tpA dr tn tp L h0 (fun h => onO h r 5 (rc 0 r x1 h)) v) (vB : ∀ q, q < L.length → gB L.length 1 q (v q)) : ∀ n j fu, j + n = 400 → n < fu → CS w r tpA dr tn tp L h0 (fun h => f_Rd_readTest_b12 w fl rc r x1 fu (ix j) h) (gLp (kdp L) v opOr n) := by
  intro n
  induction n with
  | zero =>
    intro j fu hj hf h p x lt B hl c
    obtain ⟨fu, rfl⟩ : ∃ q, fu = q + 1 := ⟨fu - 1, by omega⟩
    dsimp only
    unfold f_Rd_readTest_b12
    rw [show (400 : Int32) = ix 400 from rfl, if_pos (ix_le1 (by omega) (by omega))]
    exact OC.ok0 rfl c
  | succ n ih =>
    intro j fu hj hf h p x lt B hl c
    obtain ⟨fu, rfl⟩ : ∃ q, fu = q + 1 := ⟨fu - 1, by omega⟩
    have k42 := c.k42
    have pL := c.pL
    dsimp only
    unfold f_Rd_readTest_b12 gLp
    refine dg_n (show ¬ (400 : Int32) ≤ ix j from ix_nle (n := j) (i := 400) (by omega) (by omega)) ?_
    refine dg_b c.r0 ?_
    by_cases z : kdp L p = 23
    · have z' : opOr (kdp L p) = true := decide_eq_true z
      have sp := stp_pln _ k42 (Or.inr (Or.inr (Or.inr (Or.inl z'))))
      rw [if_pos z']
      refine dg_b (c.isY ow (by omega) z) ?_
      refine dg_n z10 ?_
      refine dg_b c.r0 ?_
      obtain ⟨h1, e1, c1⟩ := c.takeY ow (k := 23) (by omega) (by omega) z
      refine dg_b e1 ?_
      refine dg_n z10 ?_
      obtain ⟨b1, b2, b3⟩ := vB (p + 1) c1.pl
      refine OC.call (hv h1 (p + 1) x lt B (by omega) c1) (fun q h2 lt2 c2 => ?_) (fun q h2 e2 ep2 lt2 B2 c2 => ?_)
      · rw [if_pos q]
        obtain ⟨d1, d2, d3, d4⟩ := b3 q
        refine dg_n z10 ?_
        obtain ⟨h3, e3, c3⟩ := c2.plain (k := stp (kdp L p)) (X := 12) (by rw [addL_len]; omega) sp (by rw [z]; rfl)
        refine dg_b e3 ?_
        have := ih (j + 1) fu (by omega) (by omega) h3 _ _ _ _ (by rw [addL_len, List.length_append, List.length_singleton]; omega) c3
        have o := OC.pre this
        rw [List.append_assoc] at o
        rw [ixp1]
        exact o
      · rw [if_neg (by rw [q]; decide)]
        refine dg_p rfl ?_
        exact OC.no rfl c2
    · rw [if_neg (show ¬ opOr (kdp L p) = true from fun q => z (of_decide_eq_true q))]
      refine dg_b (c.isN ow (by omega) z) ?_
      refine dg_p rfl ?_
      exact OC.ok0 rfl c
theorem sin_of (ow : okW w) {fl : Nat} (hfl : 5000 ≤ fl) {rc : Nat → Nat → Int32 → hp_M → Option (Int32 × hp_M)} {d : Nat} (hd : d ≤ 8) {sum s t : Nat → resV} (hu : CS w r tpA dr tn tp L h0 (fun h => onO h r 5 (f_Rd_readSum w fl r (ix d) h)) sum) (uB : ∀ q, q < L.length → gB L.length 1 q (sum q)) (hs : d < 8 → CS w r tpA dr tn tp L h0 (fun h => onO h r 5 (rc 1 r (ix (d + 1)) h)) s) (sB : d < 8 → ∀ q, q < L.length → gB L.length 1 q (s q)) (ht : d < 8 → CS w r tpA dr tn tp L h0 (fun h => onO h r 5 (rc 2 r (ix (d + 1)) h)) t) : CS w r tpA dr tn tp L h0 (fun h => f_Rd_readSingle_body w fl rc r (ix d) h) (gSinF (kdp L) sum s t (decide (d < 8))) := by
  intro h p x lt B hl c
  have k42 := c.k42
  have pL := c.pL
  dsimp only
  unfold f_Rd_readSingle_body gSinF
  refine dg_b c.r0 ?_
  by_cases c1 : kdp L p = 21
  · rw [if_pos c1]
    refine dg_b (c.isY ow (by omega) c1) ?_
    refine dg_n z10 ?_
    refine dg_j ?_
    by_cases hd8 : d < 8
    · rw [if_pos (decide_eq_true hd8)]
      obtain ⟨h1, e1, d1⟩ := dpY ow c (k := 21) (by omega) (by omega) hd8 c1
      refine dg_b e1 ?_
      refine dg_n z10 ?_
      rw [ixp1]
      obtain ⟨b1, b2, b3⟩ := sB hd8 (p + 1) d1.pl
      refine OC.call (hs hd8 h1 (p + 1) x lt B (by omega) d1) (fun q h2 lt2 d2 => ?_) (fun q h2 e2 ep2 lt2 B2 d2 => ?_)
      · rw [gAft_Y q]
        obtain ⟨f1, f2, f3, f4⟩ := b3 q
        refine dg_n z10 ?_
        obtain ⟨h3, e3, d3⟩ := d2.plain (k := 10) (X := 10) (by rw [addL_len]; omega) (by unfold pln; omega) rfl
        refine dg_b e3 ?_
        refine dg_n z10 ?_
        exact OC.ok rfl d3
      · rw [gAft_N q]
        refine dg_p rfl ?_
        exact OC.no rfl d2
    · rw [if_neg (by rw [decide_eq_true_eq]; exact hd8)]
      refine dg_b (dpN ow c (k := 21) (by omega) hd (Or.inr hd8)) ?_
      refine dg_p rfl ?_
      exact OC.no rfl c
  rw [if_neg c1]
  refine dg_b (c.isN ow (by omega) c1) ?_
  refine dg_p rfl ?_
  refine dg_b c.r0 ?_
  by_cases c2 : kdp L p = 28
  · rw [if_pos c2]
    refine dg_b (c.isY ow (by omega) c2) ?_
    refine dg_n z10 ?_
    refine dg_j ?_
    by_cases hd8 : d < 8
    · rw [if_pos (decide_eq_true hd8)]
      obtain ⟨h2, e2, d2⟩ := dpY ow c (k := 28) (by omega) (by omega) hd8 c2
      refine dg_b e2 ?_
      refine dg_n z10 ?_
      rw [ixp1]
      refine OC.call (ht hd8 h2 (p + 1) x lt B (by omega) d2) (fun q h3 lt3 d3 => ?_) (fun q h3 e3 ep3 lt3 B3 d3 => ?_)
      · refine dg_n z10 ?_
        refine dg_b d3.r0 ?_
        by_cases y : kdp L (t (p + 1)).2.1 = 29
        · rw [gCls_Y q y]
          obtain ⟨h4, e4, d4⟩ := d3.takeY ow (k := 29) (by omega) (by omega) y
          refine dg_b e4 ?_
          refine dg_n z10 ?_
          exact OC.ok rfl d4
        · rw [gCls_Z q y]
          refine dg_b (d3.takeN ow (by omega) y) ?_
          refine dg_p rfl ?_
          exact OC.no rfl d3
      · rw [gCls_N q]
        refine dg_p rfl ?_
        exact OC.no rfl d3
    · rw [if_neg (by rw [decide_eq_true_eq]; exact hd8)]
      refine dg_b (dpN ow c (k := 28) (by omega) hd (Or.inr hd8)) ?_
      refine dg_p rfl ?_
      exact OC.no rfl c
  rw [if_neg c2]
  refine dg_b (c.isN ow (by omega) c2) ?_
  refine dg_p rfl ?_
  refine dg_j ?_
  refine dg_b c.r0 ?_
  by_cases c3 : kdp L p = 14 ∨ kdp L p = 15
  · rw [if_pos c3]
    have body : OC w r tpA dr tn tp L h0 (gTwo (kdp L) p) x B ((onO h r 5 (f_Rd_readOfTwo w fl r h)).bind fun r12 => some (r12.1, r12.2)) := by
      refine OC.call (two_of ow hfl hl c (by omega)) (fun q h2 lt2 d2 => ?_) (fun q h2 e2 ep2 lt2 B2 d2 => ?_)
      · exact ⟨fun _ => ⟨h2, lt2, rfl, d2⟩, fun z => by rw [q] at z; cases z⟩
      · exact ⟨fun z => (by rw [q] at z; cases z), fun _ => ⟨h2, e2, ep2, lt2, B2, rfl, d2⟩⟩
    by_cases y : kdp L p = 14
    · refine dg_b (c.isY ow (by omega) y) ?_
      exact dg_n z10 body
    · refine dg_b (c.isN ow (by omega) y) ?_
      refine dg_p rfl ?_
      refine dg_b c.r0 ?_
      refine dg_b (c.isY ow (by omega) (show kdp L p = 15 by omega)) ?_
      exact dg_n z10 body
  rw [if_neg c3]
  refine dg_b (c.isN ow (by omega) (fun q => c3 (Or.inl q))) ?_
  refine dg_p rfl ?_
  refine dg_b c.r0 ?_
  refine dg_b (c.isN ow (by omega) (fun q => c3 (Or.inr q))) ?_
  refine dg_p rfl ?_
  refine dg_b c.r0 ?_
  by_cases c4 : kdp L p = 8
  · rw [if_pos c4]
    refine dg_b (c.isY ow (by omega) c4) ?_
    refine dg_n z10 ?_
    refine dg_j ?_
    refine dg_b c.r0 ?_
    obtain ⟨h1, e1, d1⟩ := c.takeY ow (k := 8) (by omega) (by omega) c4
    refine dg_b e1 ?_
    refine dg_n z10 ?_
    unfold gOne
    by_cases z : kdp L (p + 1) = 2
    · rw [if_pos z]
      obtain ⟨h2, e2, d2⟩ := d1.nameP ow hfl z
      have pl2 := d2.pl
      refine dg_b e2 ?_
      refine dg_n z10 ?_
      refine dg_b d2.r5 ?_
      obtain ⟨h3, e3, d3⟩ := one_w (e := 0) (ep := 0) (l2 := 0) (x := x) (k := 6) (X := 6) (by omega) (by omega) rfl d2
      refine dg_b e3 ?_
      refine dg_n z10 ?_
      exact OC.ok rfl d3
    · rw [if_neg z]
      refine dg_b (d1.nameN ow z) ?_
      refine dg_p rfl ?_
      exact OC.no rfl d1
  rw [if_neg c4]
  refine dg_b (c.isN ow (by omega) c4) ?_
  refine dg_p rfl ?_
  obtain ⟨b1, b2, b3⟩ := uB p c.pl
  refine OC.call (hu h p x lt B hl c) (fun q h2 lt2 d2 => ?_) (fun q h2 e2 ep2 lt2 B2 d2 => ?_)
  · rw [if_pos q]
    obtain ⟨f1, f2, f3, f4⟩ := b3 q
    have k42' := d2.k42
    refine dg_n z10 ?_
    refine dg_j ?_
    refine dg_b d2.r0 ?_
    refine dg_b d2.kind ?_
    refine dg_b (kstep_of ow k42' h2) ?_
    refine dg_b (isCmp_of _ k42' h2) ?_
    by_cases y : 37 ≤ kdp L (sum p).2.1
    · rw [if_pos y]
      have sp := stp_pln _ k42' (by omega)
      refine dg_n (by rw [if_pos y]; decide) ?_
      refine dg_b d2.r0 ?_
      obtain ⟨h3, e3, d3⟩ := d2.any (by omega)
      refine dg_b e3 ?_
      refine dg_n z10 ?_
      rw [gThn_T]
      obtain ⟨i1, i2, i3⟩ := uB ((sum p).2.1 + 1) d3.pl
      refine OC.call (hu h3 ((sum p).2.1 + 1) _ _ _ (by rw [addL_len]; omega) d3) (fun q' h4 lt4 d4 => ?_) (fun q' h4 e4 ep4 lt4 B4 d4 => ?_)
      · obtain ⟨g1, g2, g3, g4⟩ := i3 q'
        have d4' : CR w r tpA dr tn tp L h0 h4 (sum ((sum p).2.1 + 1)).2.1 (erL B tp L x ((sum p).2.2 ++ (sum ((sum p).2.1 + 1)).2.2)).1 (erL B tp L x ((sum p).2.2 ++ (sum ((sum p).2.1 + 1)).2.2)).2 lt4 (addL B tp L ((sum p).2.2 ++ (sum ((sum p).2.1 + 1)).2.2)) := by
          rw [erL_app, ← addL_app]; exact d4
        rw [gAft_Y (g := ((sum ((sum p).2.1 + 1)).1, (sum ((sum p).2.1 + 1)).2.1, (sum p).2.2 ++ (sum ((sum p).2.1 + 1)).2.2)) q']
        refine dg_n z10 ?_
        obtain ⟨h5, e5, d5⟩ := d4'.plain (k := stp (kdp L (sum p).2.1)) (by rw [addL_len, List.length_append]; omega) sp (stp_of _ k42' (by omega) (by omega))
        refine dg_b e5 ?_
        refine dg_n z10 ?_
        exact OC.ok rfl d5
      · rw [gAft_N (g := ((sum ((sum p).2.1 + 1)).1, (sum ((sum p).2.1 + 1)).2.1, (sum p).2.2 ++ (sum ((sum p).2.1 + 1)).2.2)) q']
        refine dg_p rfl ?_
        exact OC.no rfl d4
    · rw [if_neg y]
      refine dg_p (by rw [if_neg y]) ?_
      exact OC.no rfl d2
  · rw [if_neg (by rw [q]; decide)]
    refine dg_p rfl ?_
    exact OC.no rfl d2
theorem rd_bth (ow : okW w) (okk : okK L) {fl : Nat} (hfl : 5000 ≤ fl) {n d : Nat} {v : Nat → resV} (vB : ∀ q, q < L.length → gB L.length 1 q (v q)) (hv : CS w r tpA dr tn tp L h0 (fun h => onO h r 5 (g_Rd_readBoth w fl n 1 r (ix d) h)) v) : CS w r tpA dr tn tp L h0 (fun h => onO h r 5 (g_Rd_readBoth w fl (n + 1) 0 r (ix d) h)) (gSq (kdp L) v opAnd) := by
  refine CS.on (fun h p x lt B hl c => ?_)
  exact seq_of rfl hl (vB p c.pl) (hv h p x lt B hl c) (both_b ow okk hv vB 400 0 fl (by omega) (by omega))
theorem rd_tst (ow : okW w) (okk : okK L) {fl : Nat} (hfl : 5000 ≤ fl) {n d : Nat} {v : Nat → resV} (vB : ∀ q, q < L.length → gB L.length 1 q (v q)) (hv : CS w r tpA dr tn tp L h0 (fun h => onO h r 5 (g_Rd_readBoth w fl n 0 r (ix d) h)) v) : CS w r tpA dr tn tp L h0 (fun h => onO h r 5 (g_Rd_readBoth w fl (n + 1) 2 r (ix d) h)) (gSq (kdp L) v opOr) := by
  refine CS.on (fun h p x lt B hl c => ?_)
  exact seq_of rfl hl (vB p c.pl) (hv h p x lt B hl c) (test_b ow okk hv vB 400 0 fl (by omega) (by omega))
theorem rd_sin (ow : okW w) (okk : okK L) {fl : Nat} (hfl : 5000 ≤ fl) : ∀ k d n, d + k = 8 → 3 * k + 1 ≤ n → CS w r tpA dr tn tp L h0 (fun h => onO h r 5 (g_Rd_readBoth w fl n 1 r (ix d) h)) (gSin (kdp L) k) := by
  intro k
  induction k with
  | zero =>
    intro d n hd hn
    obtain ⟨n, rfl⟩ : ∃ q, n = q + 1 := ⟨n - 1, by omega⟩
    refine CS.on (fun h p x lt B hl c => ?_)
    have := sin_of ow (rc := g_Rd_readBoth w fl n) hfl (d := d) (by omega) (s := gFl) (t := gFl) (rd_sumF ow okk hfl (k := 0) hd) (gSum_B (kN okk) (gVal_B (kN okk) 0)) (fun q => by omega) (fun q => by omega) (fun q => by omega) h p x lt B hl c
    rw [decide_eq_false (show ¬ d < 8 by omega)] at this
    exact this
  | succ k ih =>
    intro d n hd hn
    obtain ⟨n, rfl⟩ : ∃ q, n = q + 1 := ⟨n - 1, by omega⟩
    refine CS.on (fun h p x lt B hl c => ?_)
    have vB := gSin_B (kN okk) k
    have ht : CS w r tpA dr tn tp L h0 (fun h => onO h r 5 (g_Rd_readBoth w fl n 2 r (ix (d + 1)) h)) (gTst (kdp L) (gSin (kdp L) k)) := by
      obtain ⟨n, rfl⟩ : ∃ q, n = q + 1 := ⟨n - 1, by omega⟩
      obtain ⟨n, rfl⟩ : ∃ q, n = q + 1 := ⟨n - 1, by omega⟩
      exact rd_tst ow okk hfl (gBth_B (kN okk) vB) (rd_bth ow okk hfl vB (ih (d + 1) n (by omega) (by omega)))
    have := sin_of ow (rc := g_Rd_readBoth w fl n) hfl (d := d) (by omega) (s := gSin (kdp L) k) (t := gTst (kdp L) (gSin (kdp L) k)) (rd_sumF ow okk hfl (k := k + 1) hd) (gSum_B (kN okk) (gVal_B (kN okk) (k + 1))) (fun q => ih (d + 1) n (by omega) (by omega)) (fun q => vB) (fun q => ht) h p x lt B hl c
    rw [decide_eq_true (show d < 8 by omega)] at this
    exact this
theorem rd_tstF (ow : okW w) (okk : okK L) {fl : Nat} (hfl : 5000 ≤ fl) : CS w r tpA dr tn tp L h0 (fun h => onO h r 5 (f_Rd_readTest w fl r 0 h)) (gTst (kdp L) (gSin (kdp L) 8)) :=
  rd_tst ow okk hfl (n := 63) (d := 0) (gBth_B (kN okk) (gSin_B (kN okk) 8)) (rd_bth ow okk hfl (n := 62) (gSin_B (kN okk) 8) (rd_sin ow okk hfl 8 0 62 (by omega) (by omega)))
end
