/-! The Model reads sums and tests, at every depth. -/
section
variable {m t rd tn : Nat} {tp : Nat → Int32} {th ea : Int32} {L : List tokV} {h0 : hp_M} {nr : Nat} {Z : zV} {h : hp_M} {p d : Nat} {E : List evV} {Rl : List (Nat × Nat)}
theorem CM.on {f : hp_M → Option (Int32 × hp_M)} {g : Nat → resV} (c : CM m t rd tn tp th ea L h0 nr Z d f g) : CM m t rd tn tp th ea L h0 nr Z d (fun h => onO h m 12 (f h)) g := fun h p E Rl hw ho q => by
  dsimp only
  rw [q.on]
  exact c h p E Rl hw ho q
theorem md_pro {fl : Nat} (hfl : 5000 ≤ fl) {n : Nat} {v : Nat → resV} (vB : ∀ q, q < L.length → gB L.length 1 q (v q)) (hv : CM m t rd tn tp th ea L h0 nr Z d (fun h => onO h m 12 (g_Md_isProduct fl n 2 m h)) v) : CM m t rd tn tp th ea L h0 nr Z d (fun h => onO h m 12 (g_Md_isProduct fl (n + 1) 0 m h)) (gSq (kdp L) v opPro) := by
  refine CM.on (fun h p E Rl hw ho c => ?_)
  exact mseq_of c hw ho (vB p c.pl) (hv h p E Rl hw ho c) (fun h p E Rl a b b' c => mpro_b hv vB 400 fl h p E Rl (by omega) a b b' c)
theorem md_sum {fl : Nat} (hfl : 5000 ≤ fl) {n : Nat} {v : Nat → resV} (vB : ∀ q, q < L.length → gB L.length 1 q (v q)) (hv : CM m t rd tn tp th ea L h0 nr Z d (fun h => onO h m 12 (g_Md_isProduct fl n 0 m h)) v) : CM m t rd tn tp th ea L h0 nr Z d (fun h => onO h m 12 (g_Md_isProduct fl (n + 1) 1 m h)) (gSq (kdp L) v opSum) := by
  refine CM.on (fun h p E Rl hw ho c => ?_)
  exact mseq_of c hw ho (vB p c.pl) (hv h p E Rl hw ho c) (fun h p E Rl a b b' c => msum_b hv vB 400 fl h p E Rl (by omega) a b b' c)
theorem md_val (oi : okIn tn L) (okk : okK L) {fl : Nat} (hfl : 5000 ≤ fl) : ∀ k d n, d + k = 8 → 3 * k + 1 ≤ n → CM m t rd tn tp th ea L h0 nr Z d (fun h => onO h m 12 (g_Md_isProduct fl n 2 m h)) (gVal (kdp L) k) := by
  intro k
  induction k with
  | zero =>
    intro d n hd hn
    obtain ⟨n, rfl⟩ : ∃ q, n = q + 1 := ⟨n - 1, by omega⟩
    refine CM.on (fun h p E Rl hw ho c => ?_)
    have := mval_of oi (rc := g_Md_isProduct fl n) hfl (d := d) (v := gFl) (s := gFl) (fun q => by omega) (fun q => by omega) (fun q => by omega) (fun q => by omega) h p E Rl hw ho c
    rw [decide_eq_false (show ¬ d < 8 by omega)] at this
    exact this
  | succ k ih =>
    intro d n hd hn
    obtain ⟨n, rfl⟩ : ∃ q, n = q + 1 := ⟨n - 1, by omega⟩
    refine CM.on (fun h p E Rl hw ho c => ?_)
    have vB := gVal_B (kN okk) k
    have hs : CM m t rd tn tp th ea L h0 nr Z (d + 1) (fun h => onO h m 12 (g_Md_isProduct fl n 1 m h)) (gSum (kdp L) (gVal (kdp L) k)) := by
      obtain ⟨n, rfl⟩ : ∃ q, n = q + 1 := ⟨n - 1, by omega⟩
      obtain ⟨n, rfl⟩ : ∃ q, n = q + 1 := ⟨n - 1, by omega⟩
      exact md_sum hfl (gPro_B (kN okk) vB) (md_pro hfl vB (ih (d + 1) n (by omega) (by omega)))
    have := mval_of oi (rc := g_Md_isProduct fl n) hfl (d := d) (v := gVal (kdp L) k) (s := gSum (kdp L) (gVal (kdp L) k)) (fun q => ih (d + 1) n (by omega) (by omega)) (fun q => vB) (fun q => hs) (fun q => gSum_B (kN okk) vB) h p E Rl hw ho c
    rw [decide_eq_true (show d < 8 by omega)] at this
    exact this
theorem md_sumF (oi : okIn tn L) (okk : okK L) {fl : Nat} (hfl : 5000 ≤ fl) {k : Nat} (hd : d + k = 8) : CM m t rd tn tp th ea L h0 nr Z d (fun h => onO h m 12 (f_Md_isSum fl m h)) (gSum (kdp L) (gVal (kdp L) k)) :=
  md_sum hfl (n := 63) (gPro_B (kN okk) (gVal_B (kN okk) k)) (md_pro hfl (n := 62) (gVal_B (kN okk) k) (md_val oi okk hfl k d 62 hd (by omega)))
theorem mcmp_of {fl : Nat} {sum : Nat → resV} (hu : CM m t rd tn tp th ea L h0 nr Z d (fun h => onO h m 12 (f_Md_isSum fl m h)) sum) (uB : ∀ q, q < L.length → gB L.length 1 q (sum q)) (c : MR m t rd tn tp th ea L h0 nr Z h p d E Rl) (hw : wsm E ≤ 2 * p) (ho : osm E ≤ p) : OM m t rd tn tp th ea L h0 nr Z (if (sum p).1 = true then (if 37 ≤ kdp L (sum p).2.1 then gAft (gThn (true, (sum p).2.1 + 1, (sum p).2.2) sum) (stp (kdp L (sum p).2.1), 0, 0) else gFl (sum p).2.1) else gFl (sum p).2.1) d E Rl (f_Md_isCompared fl m h) := by
  have pL := c.pL
  obtain ⟨b1, b2, b3⟩ := uB p c.pl
  unfold f_Md_isCompared
  refine OM.call (hu h p E Rl hw ho c) (fun q h2 d2 => ?_) (fun q h2 d2 => ?_)
  · rw [if_pos q]
    obtain ⟨f1, f2, f3, f4⟩ := b3 q
    have k42 := d2.k42
    refine dg_n z10 ?_
    obtain ⟨k, hk⟩ : ∃ q, kdp L (sum p).2.1 = q := ⟨_, rfl⟩
    rw [hk] at k42
    have yes : ∀ X : Int32, 37 ≤ k → ¬ X = -1 → X = ix (cod (stp k)) → OM m t rd tn tp th ea L h0 nr Z (if 37 ≤ k then gAft (gThn (true, (sum p).2.1 + 1, (sum p).2.2) sum) (stp k, 0, 0) else gFl (sum p).2.1) d E Rl (if X = (-1) then (some (0, h2)) else ((gI h2 m 12 9).bind fun v7 => (pF h2 m 12 9 (.int (v7 + 1))).bind fun h8 => (onO h8 m 12 (f_Md_isSum fl m h8)).bind fun r9 => if r9.1 = 0 then (some (0, r9.2)) else ((onO r9.2 m 12 (f_Md_put m X r9.2)).bind fun h11 => some (1, h11)))) := by
      intro X y nx eX
      rw [if_pos y, gThn_T]
      have sp := cod_op k k42 (by omega)
      refine dg_n nx ?_
      refine dg_b d2.mo.r9 ?_
      obtain ⟨h3, e3, d3⟩ := d2.step (by omega)
      refine dg_b e3 ?_
      obtain ⟨i1, i2, i3⟩ := uB ((sum p).2.1 + 1) d3.pl
      refine OM.call (hu h3 ((sum p).2.1 + 1) _ _ (by rw [wsm_app]; omega) (by rw [osm_app]; omega) d3) (fun q' h4 d4 => ?_) (fun q' h4 d4 => ?_)
      · obtain ⟨g1, g2, g3, g4⟩ := i3 q'
        have d4' : MR m t rd tn tp th ea L h0 nr Z h4 (sum ((sum p).2.1 + 1)).2.1 d (E ++ ((sum p).2.2 ++ (sum ((sum p).2.1 + 1)).2.2)) (Rl ++ evRs ((sum p).2.2 ++ (sum ((sum p).2.1 + 1)).2.2)) := by
          rw [evRs_app, ← List.append_assoc, ← List.append_assoc]; exact d4
        rw [gAft_Y (g := ((sum ((sum p).2.1 + 1)).1, (sum ((sum p).2.1 + 1)).2.1, (sum p).2.2 ++ (sum ((sum p).2.1 + 1)).2.2)) q']
        refine dg_n z10 ?_
        obtain ⟨h5, e5, d5⟩ := d4'.plus (k := stp k) (by rw [wsm_app, wsm_app]; omega) sp eX
        refine dg_b e5 ?_
        exact OM.ok rfl d5
      · rw [gAft_N (g := ((sum ((sum p).2.1 + 1)).1, (sum ((sum p).2.1 + 1)).2.1, (sum p).2.2 ++ (sum ((sum p).2.1 + 1)).2.2)) q']
        refine dg_p rfl ?_
        exact OM.no rfl d4
    rw [hk]
    refine dg_j ?_
    refine dg_j ?_
    by_cases y1 : k = 37
    · refine dg_b (d2.sgY (k := 37) (by omega) rfl (hk.trans y1)) ?_
      exact dg_n z10 (yes 47 (by omega) (by decide) (by rw [y1]; rfl))
    refine dg_b (d2.sgN (k := 37) (by omega) rfl (by omega)) ?_
    refine dg_p rfl ?_
    by_cases y2 : k = 38
    · refine dg_b (d2.sgY (k := 38) (by omega) rfl (hk.trans y2)) ?_
      exact dg_n z10 (yes 48 (by omega) (by decide) (by rw [y2]; rfl))
    refine dg_b (d2.sgN (k := 38) (by omega) rfl (by omega)) ?_
    refine dg_p rfl ?_
    by_cases y3 : k = 39
    · refine dg_b (d2.sgY (k := 39) (by omega) rfl (hk.trans y3)) ?_
      exact dg_n z10 (yes 49 (by omega) (by decide) (by rw [y3]; rfl))
    refine dg_b (d2.sgN (k := 39) (by omega) rfl (by omega)) ?_
    refine dg_p rfl ?_
    by_cases y4 : k = 40
    · refine dg_b (d2.isY (k := 40) (by omega) rfl (hk.trans y4)) ?_
      exact dg_n z10 (yes 50 (by omega) (by decide) (by rw [y4]; rfl))
    refine dg_b (d2.isN (k := 40) (by omega) rfl (by omega)) ?_
    refine dg_p rfl ?_
    by_cases y5 : k = 41
    · refine dg_b (d2.isY (k := 41) (by omega) rfl (hk.trans y5)) ?_
      exact dg_n z10 (yes 51 (by omega) (by decide) (by rw [y5]; rfl))
    refine dg_b (d2.isN (k := 41) (by omega) rfl (by omega)) ?_
    refine dg_p rfl ?_
    rw [if_neg (by omega)]
    refine dg_p rfl ?_
    exact OM.no rfl d2.mf
  · rw [if_neg (by rw [q]; decide)]
    refine dg_p rfl ?_
    exact OM.no rfl d2
theorem msin_of {fl : Nat} {rc : Nat → Nat → hp_M → Option (Int32 × hp_M)} {sum s u : Nat → resV} (hu : CM m t rd tn tp th ea L h0 nr Z d (fun h => onO h m 12 (f_Md_isSum fl m h)) sum) (uB : ∀ q, q < L.length → gB L.length 1 q (sum q)) (hs : d < 8 → CM m t rd tn tp th ea L h0 nr Z (d + 1) (fun h => onO h m 12 (rc 1 m h)) s) (sB : d < 8 → ∀ q, q < L.length → gB L.length 1 q (s q)) (ht : d < 8 → CM m t rd tn tp th ea L h0 nr Z (d + 1) (fun h => onO h m 12 (rc 2 m h)) u) : CM m t rd tn tp th ea L h0 nr Z d (fun h => f_Md_isSingle_body fl rc m h) (gSinF (kdp L) sum s u (decide (d < 8))) := by
  intro h p E Rl hw ho c
  have k42 := c.k42
  have pL := c.pL
  dsimp only
  unfold f_Md_isSingle_body gSinF
  by_cases c1 : kdp L p = 21
  · rw [if_pos c1]
    refine dg_b (c.isY (k := 21) (by omega) rfl c1) ?_
    refine dg_n z10 ?_
    by_cases hd8 : d < 8
    · rw [if_pos (decide_eq_true hd8)]
      obtain ⟨h1, e1, d1⟩ := c.inY (by omega) hd8
      refine dg_b e1 ?_
      refine dg_n z10 ?_
      obtain ⟨b1, b2, b3⟩ := sB hd8 (p + 1) d1.pl
      refine OM.call (hs hd8 h1 (p + 1) E Rl (by omega) (by omega) d1) (fun q h2 d2 => ?_) (fun q h2 d2 => ?_)
      · rw [gAft_Y q]
        obtain ⟨f1, f2, f3, f4⟩ := b3 q
        refine dg_n z10 ?_
        refine dg_b d2.mo.r10 ?_
        obtain ⟨h3, e3, d3⟩ := d2.out
        refine dg_b e3 ?_
        obtain ⟨h4, e4, d4⟩ := d3.plus (k := 10) (X := 17) (by rw [wsm_app]; omega) (by unfold pln; omega) rfl
        refine dg_b e4 ?_
        exact OM.ok rfl d4
      · rw [gAft_N q]
        refine dg_p rfl ?_
        exact OM.no rfl d2
    · rw [if_neg (by rw [decide_eq_true_eq]; exact hd8)]
      refine dg_b (c.inN hd8) ?_
      refine dg_p rfl ?_
      exact OM.no rfl c.mf
  rw [if_neg c1]
  refine dg_b (c.isN (k := 21) (by omega) rfl c1) ?_
  refine dg_p rfl ?_
  by_cases c2 : kdp L p = 28
  · rw [if_pos c2]
    refine dg_b (c.sgY (k := 28) (by omega) rfl c2) ?_
    refine dg_n z10 ?_
    by_cases hd8 : d < 8
    · rw [if_pos (decide_eq_true hd8)]
      obtain ⟨h1, e1, d1⟩ := c.inY (by omega) hd8
      refine dg_b e1 ?_
      refine dg_n z10 ?_
      refine OM.call (ht hd8 h1 (p + 1) E Rl (by omega) (by omega) d1) (fun q h2 d2 => ?_) (fun q h2 d2 => ?_)
      · refine dg_n z10 ?_
        refine dg_b d2.mo.r10 ?_
        obtain ⟨h3, e3, d3⟩ := d2.out
        refine dg_b e3 ?_
        by_cases y : kdp L (u (p + 1)).2.1 = 29
        · rw [gCls_Y q y]
          obtain ⟨h4, e4, d4⟩ := d3.esY (k := 29) (X := 93) (by omega) (by omega) rfl y
          refine dg_b e4 ?_
          exact OM.ok rfl d4
        · rw [gCls_Z q y]
          refine dg_b (d3.esN (k := 29) (X := 93) (by omega) rfl y) ?_
          exact OM.no rfl d3.mf
      · rw [gCls_N q]
        refine dg_p rfl ?_
        exact OM.no rfl d2
    · rw [if_neg (by rw [decide_eq_true_eq]; exact hd8)]
      refine dg_b (c.inN hd8) ?_
      refine dg_p rfl ?_
      exact OM.no rfl c.mf
  rw [if_neg c2]
  refine dg_b (c.sgN (k := 28) (by omega) rfl c2) ?_
  refine dg_p rfl ?_
  refine dg_j ?_
  by_cases c3 : kdp L p = 14 ∨ kdp L p = 15
  · rw [if_pos c3]
    have body : OM m t rd tn tp th ea L h0 nr Z (gTwo (kdp L) p) d E Rl ((gR h m 12 4).bind fun v8 => (gI h m 12 9).bind fun v9 => (gaI h v8 v9).bind fun v10 => (onO h m 12 (f_Md_isPair m v10 h)).bind fun r11 => some (r11.1, r11.2)) := by
      refine dg_b c.mo.r4 ?_
      refine dg_b c.mo.r9 ?_
      refine dg_b c.kat ?_
      refine OM.call (mtwo_of c hw ho (by omega) (by rcases c3 with q | q <;> rw [q] <;> decide) (X := ix (mkT (kdp L p))) (by rcases c3 with q | q <;> rw [q] <;> rfl)) (fun q h2 d2 => ?_) (fun q h2 d2 => ?_)
      · exact ⟨fun _ => ⟨h2, rfl, d2⟩, fun z => by rw [q] at z; cases z⟩
      · exact ⟨fun z => (by rw [q] at z; cases z), fun _ => ⟨h2, rfl, d2⟩⟩
    by_cases y : kdp L p = 14
    · refine dg_b (c.isY (k := 14) (by omega) rfl y) ?_
      exact dg_n z10 body
    · refine dg_b (c.isN (k := 14) (by omega) rfl y) ?_
      refine dg_p rfl ?_
      refine dg_b (c.isY (k := 15) (by omega) rfl (by omega)) ?_
      exact dg_n z10 body
  rw [if_neg c3]
  refine dg_b (c.isN (k := 14) (by omega) rfl (by omega)) ?_
  refine dg_p rfl ?_
  refine dg_b (c.isN (k := 15) (by omega) rfl (by omega)) ?_
  refine dg_p rfl ?_
  by_cases c4 : kdp L p = 8
  · rw [if_pos c4]
    refine dg_b (c.isY (k := 8) (by omega) rfl c4) ?_
    refine dg_n z10 ?_
    refine OM.call (mone_of c hw ho (by omega) (st := 6) (by omega) (X := 4) rfl) (fun q h2 d2 => ?_) (fun q h2 d2 => ?_)
    · exact ⟨fun _ => ⟨h2, rfl, d2⟩, fun z => by rw [q] at z; cases z⟩
    · exact ⟨fun z => (by rw [q] at z; cases z), fun _ => ⟨h2, rfl, d2⟩⟩
  rw [if_neg c4]
  refine dg_b (c.isN (k := 8) (by omega) rfl c4) ?_
  refine dg_p rfl ?_
  have := mcmp_of hu uB c hw ho
  rw [c.on]
  refine OM.call this (fun q h2 d2 => ?_) (fun q h2 d2 => ?_)
  · exact ⟨fun _ => ⟨h2, rfl, d2⟩, fun z => by rw [q] at z; cases z⟩
  · exact ⟨fun z => (by rw [q] at z; cases z), fun _ => ⟨h2, rfl, d2⟩⟩
theorem md_bth {fl : Nat} (hfl : 5000 ≤ fl) {n : Nat} {v : Nat → resV} (vB : ∀ q, q < L.length → gB L.length 1 q (v q)) (hv : CM m t rd tn tp th ea L h0 nr Z d (fun h => onO h m 12 (g_Md_isBoth fl n 1 m h)) v) : CM m t rd tn tp th ea L h0 nr Z d (fun h => onO h m 12 (g_Md_isBoth fl (n + 1) 0 m h)) (gSq (kdp L) v opAnd) := by
  refine CM.on (fun h p E Rl hw ho c => ?_)
  exact mseq_of c hw ho (vB p c.pl) (hv h p E Rl hw ho c) (fun h p E Rl a b b' c => mboth_b hv vB 400 fl h p E Rl (by omega) a b b' c)
theorem md_tst {fl : Nat} (hfl : 5000 ≤ fl) {n : Nat} {v : Nat → resV} (vB : ∀ q, q < L.length → gB L.length 1 q (v q)) (hv : CM m t rd tn tp th ea L h0 nr Z d (fun h => onO h m 12 (g_Md_isBoth fl n 0 m h)) v) : CM m t rd tn tp th ea L h0 nr Z d (fun h => onO h m 12 (g_Md_isBoth fl (n + 1) 2 m h)) (gSq (kdp L) v opOr) := by
  refine CM.on (fun h p E Rl hw ho c => ?_)
  exact mseq_of c hw ho (vB p c.pl) (hv h p E Rl hw ho c) (fun h p E Rl a b b' c => mtest_b hv vB 400 fl h p E Rl (by omega) a b b' c)
theorem md_sin (oi : okIn tn L) (okk : okK L) {fl : Nat} (hfl : 5000 ≤ fl) : ∀ k d n, d + k = 8 → 3 * k + 1 ≤ n → CM m t rd tn tp th ea L h0 nr Z d (fun h => onO h m 12 (g_Md_isBoth fl n 1 m h)) (gSin (kdp L) k) := by
  intro k
  induction k with
  | zero =>
    intro d n hd hn
    obtain ⟨n, rfl⟩ : ∃ q, n = q + 1 := ⟨n - 1, by omega⟩
    refine CM.on (fun h p E Rl hw ho c => ?_)
    have := msin_of (rc := g_Md_isBoth fl n) (d := d) (s := gFl) (u := gFl) (md_sumF oi okk hfl (k := 0) hd) (gSum_B (kN okk) (gVal_B (kN okk) 0)) (fun q => by omega) (fun q => by omega) (fun q => by omega) h p E Rl hw ho c
    rw [decide_eq_false (show ¬ d < 8 by omega)] at this
    exact this
  | succ k ih =>
    intro d n hd hn
    obtain ⟨n, rfl⟩ : ∃ q, n = q + 1 := ⟨n - 1, by omega⟩
    refine CM.on (fun h p E Rl hw ho c => ?_)
    have vB := gSin_B (kN okk) k
    have ht : CM m t rd tn tp th ea L h0 nr Z (d + 1) (fun h => onO h m 12 (g_Md_isBoth fl n 2 m h)) (gTst (kdp L) (gSin (kdp L) k)) := by
      obtain ⟨n, rfl⟩ : ∃ q, n = q + 1 := ⟨n - 1, by omega⟩
      obtain ⟨n, rfl⟩ : ∃ q, n = q + 1 := ⟨n - 1, by omega⟩
      exact md_tst hfl (gBth_B (kN okk) vB) (md_bth hfl vB (ih (d + 1) n (by omega) (by omega)))
    have := msin_of (rc := g_Md_isBoth fl n) (d := d) (s := gSin (kdp L) k) (u := gTst (kdp L) (gSin (kdp L) k)) (md_sumF oi okk hfl (k := k + 1) hd) (gSum_B (kN okk) (gVal_B (kN okk) (k + 1))) (fun q => ih (d + 1) n (by omega) (by omega)) (fun q => vB) (fun q => ht) h p E Rl hw ho c
    rw [decide_eq_true (show d < 8 by omega)] at this
    exact this
theorem md_tstF (oi : okIn tn L) (okk : okK L) {fl : Nat} (hfl : 5000 ≤ fl) : CM m t rd tn tp th ea L h0 nr Z 0 (fun h => onO h m 12 (f_Md_isTest fl m h)) (gTS (kdp L)) :=
  md_tst hfl (n := 63) (d := 0) (gBth_B (kN okk) (gSin_B (kN okk) 8)) (md_bth hfl (n := 62) (gSin_B (kN okk) 8) (md_sin oi okk hfl 8 0 62 (by omega) (by omega)))
theorem md_sm0 (oi : okIn tn L) (okk : okK L) {fl : Nat} (hfl : 5000 ≤ fl) : CM m t rd tn tp th ea L h0 nr Z 0 (fun h => onO h m 12 (f_Md_isSum fl m h)) (gSM (kdp L)) := md_sumF oi okk hfl (k := 8) rfl
end
