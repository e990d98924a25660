/-! The Model reads rules and a text. -/
section
variable {m t rd tn : Nat} {tp : Nat → Int32} {th ea : Int32} {L : List tokV} {h0 : hp_M} {nr : Nat} {Z : zV} {h : hp_M} {p d : Nat} {E : List evV} {Rl : List (Nat × Nat)}
theorem OM.call2 {β : Type} {res : resV} {z : Option (Int32 × hp_M)} {P : Option β → Prop} {F : Int32 × hp_M → Option β} (o : OM m t rd tn tp th ea L h0 nr Z res d E Rl z) (hs : res.1 = true → ∀ h', MR m t rd tn tp th ea L h0 nr Z h' res.2.1 d (E ++ res.2.2) (Rl ++ evRs res.2.2) → P (F (1, h'))) (hf : res.1 = false → ∀ h', MF m t rd tn tp th ea L h0 h' res.2.1 → P (F (0, h'))) : P (z.bind F) := by
  cases q : res.1 with
  | true =>
    obtain ⟨h', e, c⟩ := o.1 q
    rw [e]
    exact hs q h' c
  | false =>
    obtain ⟨h', e, c⟩ := o.2 q
    rw [e]
    exact hf q h' c
theorem mrule_of (oi : okIn tn L) {fl : Nat} (hfl : 5000 ≤ fl) (hn : nr ≤ p) (hw : wsm E ≤ 2 * p) (ho : osm E ≤ p) (c : MR m t rd tn tp th ea L h0 nr Z h p 0 E Rl) (hk : kdp L p = 11) : OS m t rd tn tp th ea L h0 (gRu (kdp L) p).1 (gRu (kdp L) p).2.1 (ruN (nr, Z, E) (gRu (kdp L) p).2.2.1 (gRu (kdp L) p).2.2.2.1 (gRu (kdp L) p).2.2.2.2) (Rl ++ (p, 7) :: (evRs ((gRu (kdp L) p).2.2.1 ++ (gRu (kdp L) p).2.2.2.1) ++ [((gRu (kdp L) p).2.2.2.2, 6)])) (onO h m 12 (f_Md_isRule fl m h)) := by
  have pL := c.pL
  have okk := c.okk
  have pl := c.pl
  rw [c.on]
  unfold f_Md_isRule
  refine dg_b c.mo.r7 ?_
  refine dg_b c.mo.r9 ?_
  obtain ⟨h1, e1, c1⟩ := c.putRole 7
  refine dg_b e1 ?_
  refine dg_b c1.mo.r9 ?_
  obtain ⟨h2, e2, c2⟩ := c1.step (by omega)
  refine dg_b e2 ?_
  refine dg_b c2.mo.r12 ?_
  refine dg_b (gI_of c2.rdc rfl) ?_
  refine dg_b c2.mo.r12 ?_
  refine dg_b (gR_of c2.rdc rfl) ?_
  refine dg_b c2.mo.r12 ?_
  refine dg_b (gI_of c2.rdc rfl) ?_
  rw [imin12 (i := nr) (by omega)]
  obtain ⟨h3, e3, c3⟩ := (c2.putZ (i := min nr 12) (by omega) (ix (wsm E))).1
  refine dg_b e3 ?_
  obtain ⟨b1, b2, b3⟩ := gTst_B (kN okk) (gSin_B (kN okk) 8) (p + 1) c3.pl
  unfold gRu
  refine OM.call2 (md_tstF oi okk hfl h3 (p + 1) E _ (by omega) (by omega) c3) (fun q h4 c4 => ?_) (fun q h4 c4 => ?_)
  case _ =>
    rw [if_pos q]
    obtain ⟨d1, d2, d3, d4⟩ := b3 q
    have d1' : p + 1 + 1 ≤ (gTS (kdp L) (p + 1)).2.1 := d1
    have d3' : wsm (gTS (kdp L) (p + 1)).2.2 + 2 * (p + 1 + 1) ≤ 2 * (gTS (kdp L) (p + 1)).2.1 + 2 := d3
    have d4' : osm (gTS (kdp L) (p + 1)).2.2 + (p + 1) + 1 ≤ (gTS (kdp L) (p + 1)).2.1 + 1 := d4
    have b1' : (gTS (kdp L) (p + 1)).2.1 < L.length := b1
    refine dg_n z10 ?_
    obtain ⟨T, hT⟩ : ∃ q, (gTS (kdp L) (p + 1)).2.2 = q := ⟨_, rfl⟩
    obtain ⟨q1, hq1⟩ : ∃ q, (gTS (kdp L) (p + 1)).2.1 = q := ⟨_, rfl⟩
    rw [hT, hq1] at c4 ⊢
    rw [hq1, hT] at d3' d4'
    rw [hq1] at d1' b1'
    by_cases k1 : kdp L q1 = 12
    case neg =>
      rw [if_neg k1]
      refine dg_b (c4.eatN (k := 12) (X := 8) (by omega) rfl k1) ?_
      refine dg_p rfl ?_
      exact OS.no rfl c4.mf
    rw [if_pos k1]
    obtain ⟨h5, e5, c5⟩ := c4.eatY (k := 12) (X := 8) (by omega) (by omega) rfl k1
    refine dg_b e5 ?_
    refine dg_n z10 ?_
    refine dg_b c5.mo.r12 ?_
    refine dg_b (gR_of c5.rdc rfl) ?_
    refine dg_b c5.mo.r12 ?_
    refine dg_b (gI_of c5.rdc rfl) ?_
    obtain ⟨h6, e6, c6⟩ := (c5.putZ (i := min nr 12) (by omega) (ix (wsm (E ++ T)))).2.1
    refine dg_b e6 ?_
    obtain ⟨i1, i2, i3⟩ := gSum_B (kN okk) (gVal_B (kN okk) 8) (q1 + 1) c6.pl
    refine OM.call2 (md_sm0 oi okk hfl h6 (q1 + 1) _ _ (by rw [wsm_app]; omega) (by rw [osm_app]; omega) c6) (fun q2 h7 c7 => ?_) (fun q2 h7 c7 => ?_)
    case _ =>
      rw [if_pos q2]
      obtain ⟨g1, g2, g3, g4⟩ := i3 q2
      have i1' : (gSM (kdp L) (q1 + 1)).2.1 < L.length := i1
      refine dg_n z10 ?_
      obtain ⟨S, hS⟩ : ∃ q, (gSM (kdp L) (q1 + 1)).2.2 = q := ⟨_, rfl⟩
      obtain ⟨q3, hq3⟩ : ∃ q, (gSM (kdp L) (q1 + 1)).2.1 = q := ⟨_, rfl⟩
      rw [hS, hq3] at c7 ⊢
      rw [hq3] at i1'
      by_cases k2 : kdp L q3 = 13
      case neg =>
        rw [if_neg k2]
        refine dg_b (c7.eatN (k := 13) (X := 9) (by omega) rfl k2) ?_
        refine dg_p rfl ?_
        exact OS.no rfl c7.mf
      rw [if_pos k2]
      obtain ⟨h8, e8, c8⟩ := c7.eatY (k := 13) (X := 9) (by omega) (by omega) rfl k2
      refine dg_b e8 ?_
      refine dg_n z10 ?_
      refine dg_b c8.mo.r12 ?_
      refine dg_b (gR_of c8.rdc rfl) ?_
      refine dg_b c8.mo.r9 ?_
      obtain ⟨h9, e9, c9⟩ := (c8.putZ (i := min nr 12) (by omega) (ix (q3 + 1))).2.2
      refine dg_b e9 ?_
      by_cases k3 : kdp L (q3 + 1) = 2
      case neg =>
        rw [if_neg k3]
        obtain ⟨h10, e10, c10⟩ := c9.asN (k := 2) (X := 30) (Y := 6) (by omega) rfl k3 6 rfl
        refine dg_b e10 ?_
        refine dg_p rfl ?_
        exact OS.no rfl c10
      rw [if_pos k3]
      obtain ⟨h10, e10, c10⟩ := c9.asY (k := 2) (X := 30) (Y := 6) (by omega) (by omega) rfl k3 6 rfl
      refine dg_b e10 ?_
      refine dg_n z10 ?_
      refine dg_b c10.mo.r12 ?_
      refine dg_b (gI_of c10.rdc rfl) ?_
      rw [ixp1]
      obtain ⟨h11, e11, c11⟩ := c10.incR
      refine dg_b e11 ?_
      refine dg_b c11.mo.r12 ?_
      refine dg_b (gR_of c11.rdc rfl) ?_
      refine dg_b c11.mo.r12 ?_
      refine dg_b (gI_of c11.rdc rfl) ?_
      refine dg_b c11.mo.r12 ?_
      refine dg_b (gI_of c11.rdc rfl) ?_
      rw [imin12 (i := nr + 1) (by omega)]
      obtain ⟨h12, e12, c12⟩ := (c11.putZ (i := min (nr + 1) 12) (by omega) (ix (wsm (E ++ T ++ S)))).1
      refine dg_b e12 ?_
      by_cases k4 : kdp L (q3 + 2) = 30
      case neg =>
        rw [if_neg k4]
        refine dg_b (c12.esN (k := 30) (X := 59) (by omega) rfl k4) ?_
        exact OS.no rfl c12.mf
      rw [if_pos k4]
      obtain ⟨h13, e13, c13⟩ := c12.esY (k := 30) (X := 59) (by omega) (by omega) rfl k4
      refine dg_b e13 ?_
      refine OS.ok rfl ?_
      unfold ruN
      dsimp only
      have rl : Rl ++ (p, 7) :: (evRs (T ++ S) ++ [(q3 + 1, 6)]) = Rl ++ [(p, 7)] ++ evRs T ++ evRs S ++ [(q3 + 1, 6)] := by
        rw [evRs_app]
        simp only [List.append_assoc, List.cons_append, List.nil_append]
      rw [rl, ← List.append_assoc]
      exact c13
    case _ =>
      rw [if_neg (by rw [q2]; decide)]
      refine dg_p rfl ?_
      exact OS.no rfl c7
  case _ =>
    rw [if_neg (by rw [q]; decide)]
    refine dg_p rfl ?_
    exact OS.no rfl c4
/-- the statements' effects on what is read -/
def stNs (l : List stV) (c : mcV) : mcV := l.foldl (fun c s => stN s c) c
def stRs (l : List stV) : List (Nat × Nat) := l.flatMap stR
theorem gSt_ge (K : Nat → Nat) (p : Nat) (g : (gSt K p).1 = true) (hN : ∃ N, okN K N ∧ p + 1 < N) : p + 2 ≤ (gSt K p).2.1 := by
  obtain ⟨N, ok, hp⟩ := hN
  unfold gSt at g ⊢
  by_cases k4 : K p = 4
  · rw [if_pos k4] at g ⊢
    dsimp only at g ⊢
    have ge2 : ∀ a q, q ≤ (gPl2 K a q).2.1 := fun a q => gPl2_ge K a q q (Nat.le_refl _)
    unfold gPl at g ⊢
    by_cases x1 : K (p + 1) = 2
    · rw [if_pos x1] at g ⊢
      by_cases x2 : K (p + 2) = 5
      · rw [if_pos x2] at g ⊢
        refine ite4_ge (p := p + 2) ?_ (by dsimp only; omega)
        refine ite4_ge (p := p + 2) ?_ (by dsimp only; omega)
        refine ite4_ge (p := p + 2) ?_ (by dsimp only; omega)
        refine ite4_ge (p := p + 2) (ite4_ge (p := p + 2) ?_ (by dsimp only; omega)) ?_
        · exact Nat.le_trans (by omega) (ge2 _ _)
        · exact Nat.le_trans (by omega) (ge2 _ _)
      · rw [if_neg x2]; dsimp only; omega
    · rw [if_neg x1] at g; cases g
  rw [if_neg k4] at g ⊢
  by_cases k10 : K p = 10
  · rw [if_pos k10] at g ⊢
    dsimp only at g ⊢
    unfold gAl at g ⊢
    by_cases x1 : K (p + 1) = 2
    · rw [if_pos x1] at g ⊢
      (repeat' split) <;> (try dsimp only) <;> omega
    · rw [if_neg x1] at g; cases g
  rw [if_neg k10] at g ⊢
  by_cases k11 : K p = 11
  · rw [if_pos k11] at g ⊢
    dsimp only at g ⊢
    have := gRu_B ok hp g
    omega
  · rw [if_neg k11] at g; cases g
theorem mstat_of (oi : okIn tn L) {fl : Nat} (hfl : 5000 ≤ fl) (c0 : mcV) (hn : c0.1 ≤ p) (hw : wsm c0.2.2 ≤ 2 * p) (ho : osm c0.2.2 ≤ p) (c : MR m t rd tn tp th ea L h0 c0.1 c0.2.1 h p 0 c0.2.2 Rl) {z : Option (Int32 × hp_M)} (hz : (kdp L p = 4 → z = onO h m 12 (f_Md_isPlanetLine m h)) ∧ (kdp L p = 10 → z = onO h m 12 (f_Md_isAlphabetLine m h)) ∧ (kdp L p = 11 → z = onO h m 12 (f_Md_isRule fl m h)) ∧ (kdp L p ≠ 4 → kdp L p ≠ 10 → kdp L p ≠ 11 → z = some (0, h))) : OS m t rd tn tp th ea L h0 (gSt (kdp L) p).1 (gSt (kdp L) p).2.1 (stN (gSt (kdp L) p).2.2 c0) (Rl ++ stR (gSt (kdp L) p).2.2) z := by
  unfold gSt
  by_cases k4 : kdp L p = 4
  · rw [if_pos k4, hz.1 k4]
    exact mplanet_of c k4
  rw [if_neg k4]
  by_cases k10 : kdp L p = 10
  · rw [if_pos k10, hz.2.1 k10]
    exact malph_of c k10
  rw [if_neg k10]
  by_cases k11 : kdp L p = 11
  · rw [if_pos k11, hz.2.2.1 k11]
    exact mrule_of oi hfl hn hw ho c k11
  · rw [if_neg k11, hz.2.2.2 k4 k10 k11]
    exact OS.no rfl c.mf
end
