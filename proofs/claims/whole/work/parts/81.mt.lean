/-! The Model reads planets, alphabets, rules. -/
def plR (p a b : Nat) : List (Nat × Nat) := [(p + 1, 1), (p + 3, 8), (p + 5, 9)] ++ ((if a = 0 then [] else [(a, 10)]) ++ (if b = 0 then [] else [(b, 11), (b + 2, 12)]))
def stR (s : stV) : List (Nat × Nat) := if s.1 = 0 then plR s.2.1 s.2.2.1 s.2.2.2.1 else if s.1 = 1 then [(s.2.1 + 1, 2), (s.2.1 + 2, 3)] else (s.2.1, 7) :: (evRs (s.2.2.2.2.1 ++ s.2.2.2.2.2) ++ [(s.2.2.1, 6)])
abbrev mcV : Type := Nat × zV × List evV
def ruN (c : mcV) (T S : List evV) (a : Nat) : mcV := (c.1 + 1, (upd (upd c.2.1.1 (min c.1 12) (ix (wsm c.2.2))) (min (c.1 + 1) 12) (ix (wsm (c.2.2 ++ (T ++ S)))), upd c.2.1.2.1 (min c.1 12) (ix (wsm (c.2.2 ++ T))), upd c.2.1.2.2 (min c.1 12) (ix a)), c.2.2 ++ (T ++ S))
def stN (s : stV) (c : mcV) : mcV := if s.1 = 0 then c else if s.1 = 1 then c else ruN c s.2.2.2.2.1 s.2.2.2.2.2 s.2.2.1
def OS (m t rd tn : Nat) (tp : Nat → Int32) (th ea : Int32) (L : List tokV) (h0 : hp_M) (ok : Bool) (q : Nat) (c : mcV) (Rl : List (Nat × Nat)) (z : Option (Int32 × hp_M)) : Prop :=
  (ok = true → ∃ h', z = some (1, h') ∧ MR m t rd tn tp th ea L h0 c.1 c.2.1 h' q 0 c.2.2 Rl) ∧ (ok = false → ∃ h', z = some (0, h') ∧ MF m t rd tn tp th ea L h0 h' q)
theorem imin12 {i : Nat} (h : i < 2147483648) : imin (ix i) 12 = ix (min i 12) := by
  unfold imin
  by_cases q : 12 < i
  · rw [if_pos (show (12 : Int32) < ix i from ix_lt1 (i := 12) q h), Nat.min_eq_right (by omega)]; rfl
  · rw [if_neg (show ¬ (12 : Int32) < ix i from ix_nlt (n := i) (i := 12) (by omega) (by omega)), Nat.min_eq_left (by omega)]
section
variable {m t rd tn : Nat} {tp : Nat → Int32} {th ea : Int32} {L : List tokV} {h0 : hp_M} {nr : Nat} {Z : zV} {h : hp_M} {p d : Nat} {E : List evV} {Rl : List (Nat × Nat)}
theorem OS.ok {q : Nat} {c : mcV} {z : Option (Int32 × hp_M)} {h' : hp_M} (e : z = some (1, h')) (r : MR m t rd tn tp th ea L h0 c.1 c.2.1 h' q 0 c.2.2 Rl) : OS m t rd tn tp th ea L h0 true q c Rl z := ⟨fun _ => ⟨h', e, r⟩, fun q => by cases q⟩
theorem OS.no {q : Nat} {c : mcV} {z : Option (Int32 × hp_M)} {h' : hp_M} (e : z = some (0, h')) (r : MF m t rd tn tp th ea L h0 h' q) : OS m t rd tn tp th ea L h0 false q c Rl z := ⟨(fun q => by cases q), fun _ => ⟨h', e, r⟩⟩
theorem MR.rdc (c : MR m t rd tn tp th ea L h0 nr Z h p d E Rl) : h.1 rd = some (rdC rd nr (wsm E) (osm E)) := by
  obtain ⟨gc, go, c1, _⟩ := c
  exact c1.2.2.2.1
theorem MR.putRole (c : MR m t rd tn tp th ea L h0 nr Z h p d E Rl) (k : Nat) : ∃ h', paI h (m + 5) (ix p) (ix k) = some h' ∧ MR m t rd tn tp th ea L h0 nr Z h' p d E (Rl ++ [(p, k)]) := c.lift (F := fun h => h) (fun _ _ _ _ w => w.role k)
theorem MR.putZ (c : MR m t rd tn tp th ea L h0 nr Z h p d E Rl) {i : Nat} (hi : i < 13) (x : Int32) : (∃ h', paI h (rd + 4) (ix i) x = some h' ∧ MR m t rd tn tp th ea L h0 nr (upd Z.1 i x, Z.2.1, Z.2.2) h' p d E Rl) ∧ (∃ h', paI h (rd + 5) (ix i) x = some h' ∧ MR m t rd tn tp th ea L h0 nr (Z.1, upd Z.2.1 i x, Z.2.2) h' p d E Rl) ∧ (∃ h', paI h (rd + 6) (ix i) x = some h' ∧ MR m t rd tn tp th ea L h0 nr (Z.1, Z.2.1, upd Z.2.2 i x) h' p d E Rl) := by
  obtain ⟨gc, go, ⟨⟨q1, q2, q3, q4, q5, q6⟩, c1, ⟨gk, gf, gm, gr, gt, a1, a2, a3, a4, a5, a6⟩, c3, ⟨c4, ⟨b2, c5⟩, ⟨b3, c6⟩⟩, ⟨c7, c8, c9⟩, c10, c11, c12, c13⟩, s1, s2⟩ := c
  have gen : ∀ (u : Nat) (e : va_E), rd + 4 ≤ u → u ≤ rd + 6 → ∀ Z' : zV, ((wr h u e).1 (rd + 4) = some (aI 13 Z'.1) ∧ (wr h u e).1 (rd + 5) = some (aI 13 Z'.2.1) ∧ (wr h u e).1 (rd + 6) = some (aI 13 Z'.2.2)) → MR m t rd tn tp th ea L h0 nr Z' (wr h u e) p d E Rl := by
    intro u e u1 u2 Z' hz
    have f := wr_fr h u e
    exact ⟨gc, go, ⟨⟨q1, q2, q3, q4, q5, q6⟩, c1.keep f (by omega), ⟨gk, gf, gm, gr, gt, f.cell a1 (by omega) (by omega), f.cell a2 (by omega) (by omega), f.cell a3 (by omega) (by omega), f.cell a4 (by omega) (by omega), f.cell a5 (by omega) (by omega), a6⟩, f.cell c3 (by omega) (by omega), ⟨f.cell c4 (by omega) (by omega), ⟨b2, f.cell c5 (by omega) (by omega)⟩, ⟨b3, f.cell c6 (by omega) (by omega)⟩⟩, hz, f.cell c10 (by omega) (by omega), f.cell c11 (by omega) (by omega), c12.trans (f.to2 (by omega)), c13⟩, s1, s2⟩
  refine ⟨⟨_, paI_of c7 hi (by omega), gen _ _ (by omega) (by omega) _ ⟨wr_self _ _ _, (wr_ne _ _ (by omega)).trans c8, (wr_ne _ _ (by omega)).trans c9⟩⟩, ⟨_, paI_of c8 hi (by omega), gen _ _ (by omega) (by omega) _ ⟨(wr_ne _ _ (by omega)).trans c7, wr_self _ _ _, (wr_ne _ _ (by omega)).trans c9⟩⟩, ⟨_, paI_of c9 hi (by omega), gen _ _ (by omega) (by omega) _ ⟨(wr_ne _ _ (by omega)).trans c7, (wr_ne _ _ (by omega)).trans c8, wr_self _ _ _⟩⟩⟩
theorem MR.incR (c : MR m t rd tn tp th ea L h0 nr Z h p d E Rl) : ∃ h', pF h rd 11 5 (.int (ix (nr + 1))) = some h' ∧ MR m t rd tn tp th ea L h0 (nr + 1) Z h' p d E Rl := by
  obtain ⟨gc, go, ⟨⟨q1, q2, q3, q4, q5, q6⟩, c1, ⟨gk, gf, gm, gr, gt, a1, a2, a3, a4, a5, a6⟩, c3, ⟨c4, ⟨b2, c5⟩, ⟨b3, c6⟩⟩, ⟨c7, c8, c9⟩, c10, c11, c12, c13⟩, s1, s2⟩ := c
  have e : pF h rd 11 5 (.int (ix (nr + 1))) = some (wr h rd (rdC rd (nr + 1) (wsm E) (osm E))) := pF_of c3 (by simp)
  have f := wr_fr h rd (rdC rd (nr + 1) (wsm E) (osm E))
  exact ⟨_, e, gc, go, ⟨⟨q1, q2, q3, q4, q5, q6⟩, c1.keep f (by omega), ⟨gk, gf, gm, gr, gt, f.cell a1 (by omega) (by omega), f.cell a2 (by omega) (by omega), f.cell a3 (by omega) (by omega), f.cell a4 (by omega) (by omega), f.cell a5 (by omega) (by omega), a6⟩, wr_self _ _ _, ⟨f.cell c4 (by omega) (by omega), ⟨b2, f.cell c5 (by omega) (by omega)⟩, ⟨b3, f.cell c6 (by omega) (by omega)⟩⟩, ⟨f.cell c7 (by omega) (by omega), f.cell c8 (by omega) (by omega), f.cell c9 (by omega) (by omega)⟩, f.cell c10 (by omega) (by omega), f.cell c11 (by omega) (by omega), c12.trans (f.to2 (by omega)), c13⟩, s1, s2⟩
theorem mpl2 {a q : Nat} {R0 : List (Nat × Nat)} (c : MR m t rd tn tp th ea L h0 nr Z h q 0 E R0) : OS m t rd tn tp th ea L h0 (gPl2 (kdp L) a q).1 (gPl2 (kdp L) a q).2.1 (nr, Z, E) (R0 ++ (if (gPl2 (kdp L) a q).2.2.2 = 0 then [] else [((gPl2 (kdp L) a q).2.2.2, 11), ((gPl2 (kdp L) a q).2.2.2 + 2, 12)])) (jn (fun (h22 : hp_M) => (onO h22 m 12 (f_Md_eatSign m 59 h22)).bind fun r23 => some (r23.1, r23.2)) fun (j21 : hp_M → Option (Int32 × hp_M)) => (onO h m 12 (f_Md_eat m 4 h)).bind fun r24 => if r24.1 = 0 then (j21 r24.2) else ((onO r24.2 m 12 (f_Md_eatAs m 31 11 r24.2)).bind fun r26 => if r26.1 = 0 then (some (0, r26.2)) else ((onO r26.2 m 12 (f_Md_eat m 5 r26.2)).bind fun r28 => if r28.1 = 0 then (some (0, r28.2)) else ((onO r28.2 m 12 (f_Md_eatAs m 31 12 r28.2)).bind fun r30 => if r30.1 = 0 then (some (0, r30.2)) else (j21 r30.2))))) := by
  refine dg_j ?_
  unfold gPl2
  by_cases k1 : kdp L q = 8
  · rw [if_pos k1]
    obtain ⟨h1, e1, c1⟩ := c.eatY (k := 8) (X := 4) (by omega) (by omega) rfl k1
    refine dg_b e1 ?_
    refine dg_n z10 ?_
    by_cases k2 : kdp L (q + 1) = 3
    case neg =>
      rw [if_neg k2]
      obtain ⟨h2, e2, c2⟩ := c1.asN (k := 3) (X := 31) (Y := 11) (by omega) rfl k2 11 rfl
      refine dg_b e2 ?_
      refine dg_p rfl ?_
      exact OS.no rfl c2
    rw [if_pos k2]
    obtain ⟨h2, e2, c2⟩ := c1.asY (k := 3) (X := 31) (Y := 11) (by omega) (by omega) rfl k2 11 rfl
    refine dg_b e2 ?_
    refine dg_n z10 ?_
    by_cases k3 : kdp L (q + 2) = 9
    case neg =>
      rw [if_neg k3]
      refine dg_b (c2.eatN (k := 9) (X := 5) (by omega) rfl k3) ?_
      refine dg_p rfl ?_
      exact OS.no rfl c2.mf
    rw [if_pos k3]
    obtain ⟨h3, e3, c3⟩ := c2.eatY (k := 9) (X := 5) (by omega) (by omega) rfl k3
    refine dg_b e3 ?_
    refine dg_n z10 ?_
    by_cases k4 : kdp L (q + 3) = 3
    case neg =>
      rw [if_neg k4]
      obtain ⟨h4, e4, c4⟩ := c3.asN (k := 3) (X := 31) (Y := 12) (by omega) rfl k4 12 rfl
      refine dg_b e4 ?_
      refine dg_p rfl ?_
      exact OS.no rfl c4
    rw [if_pos k4]
    obtain ⟨h4, e4, c4⟩ := c3.asY (k := 3) (X := 31) (Y := 12) (by omega) (by omega) rfl k4 12 rfl
    refine dg_b e4 ?_
    refine dg_n z10 ?_
    by_cases k5 : kdp L (q + 4) = 30
    case neg =>
      rw [if_neg k5]
      refine dg_b (c4.esN (k := 30) (X := 59) (by omega) rfl k5) ?_
      exact OS.no rfl c4.mf
    rw [if_pos k5]
    obtain ⟨h5, e5, c5⟩ := c4.esY (k := 30) (X := 59) (by omega) (by omega) rfl k5
    refine dg_b e5 ?_
    refine OS.ok rfl ?_
    dsimp only
    rw [if_neg (by omega), show R0 ++ [(q + 1, 11), (q + 1 + 2, 12)] = R0 ++ [(q + 1, 11)] ++ [(q + 2 + 1, 12)] by rw [List.append_assoc]; rfl]
    exact c5
  · rw [if_neg k1]
    refine dg_b (c.eatN (k := 8) (X := 4) (by omega) rfl k1) ?_
    refine dg_p rfl ?_
    by_cases k5 : kdp L q = 30
    · rw [if_pos k5]
      obtain ⟨h5, e5, c5⟩ := c.esY (k := 30) (X := 59) (by omega) (by omega) rfl k5
      refine dg_b e5 ?_
      refine OS.ok rfl ?_
      dsimp only
      rw [if_pos rfl, List.append_nil]
      exact c5
    · rw [if_neg k5]
      refine dg_b (c.esN (k := 30) (X := 59) (by omega) rfl k5) ?_
      exact OS.no rfl c.mf
theorem mplanet_of (c : MR m t rd tn tp th ea L h0 nr Z h p 0 E Rl) (hk : kdp L p = 4) : OS m t rd tn tp th ea L h0 (gPl (kdp L) p).1 (gPl (kdp L) p).2.1 (nr, Z, E) (Rl ++ plR p (gPl (kdp L) p).2.2.1 (gPl (kdp L) p).2.2.2) (onO h m 12 (f_Md_isPlanetLine m h)) := by
  rw [c.on]
  unfold f_Md_isPlanetLine gPl
  refine dg_b c.mo.r9 ?_
  obtain ⟨h1, e1, c1⟩ := c.step (by omega)
  refine dg_b e1 ?_
  by_cases k1 : kdp L (p + 1) = 2
  case neg =>
    rw [if_neg k1]
    obtain ⟨h2, e2, c2⟩ := c1.asN (k := 2) (X := 30) (Y := 1) (by omega) rfl k1 1 rfl
    refine dg_b e2 ?_
    refine dg_p rfl ?_
    exact OS.no rfl c2
  rw [if_pos k1]
  obtain ⟨h2, e2, c2⟩ := c1.asY (k := 2) (X := 30) (Y := 1) (by omega) (by omega) rfl k1 1 rfl
  refine dg_b e2 ?_
  refine dg_n z10 ?_
  by_cases k2 : kdp L (p + 2) = 5
  case neg =>
    rw [if_neg k2]
    refine dg_b (c2.eatN (k := 5) (X := 1) (by omega) rfl k2) ?_
    refine dg_p rfl ?_
    exact OS.no rfl c2.mf
  rw [if_pos k2]
  obtain ⟨h3, e3, c3⟩ := c2.eatY (k := 5) (X := 1) (by omega) (by omega) rfl k2
  refine dg_b e3 ?_
  refine dg_n z10 ?_
  by_cases k3 : kdp L (p + 3) = 3
  case neg =>
    rw [if_neg k3]
    obtain ⟨h4, e4, c4⟩ := c3.asN (k := 3) (X := 31) (Y := 8) (by omega) rfl k3 8 rfl
    refine dg_b e4 ?_
    refine dg_p rfl ?_
    exact OS.no rfl c4
  rw [if_pos k3]
  obtain ⟨h4, e4, c4⟩ := c3.asY (k := 3) (X := 31) (Y := 8) (by omega) (by omega) rfl k3 8 rfl
  refine dg_b e4 ?_
  refine dg_n z10 ?_
  by_cases k4 : kdp L (p + 4) = 6
  case neg =>
    rw [if_neg k4]
    refine dg_b (c4.eatN (k := 6) (X := 2) (by omega) rfl k4) ?_
    refine dg_p rfl ?_
    exact OS.no rfl c4.mf
  rw [if_pos k4]
  obtain ⟨h5, e5, c5⟩ := c4.eatY (k := 6) (X := 2) (by omega) (by omega) rfl k4
  refine dg_b e5 ?_
  refine dg_n z10 ?_
  by_cases k5 : kdp L (p + 5) = 3
  case neg =>
    rw [if_neg k5]
    obtain ⟨h6, e6, c6⟩ := c5.asN (k := 3) (X := 31) (Y := 9) (by omega) rfl k5 9 rfl
    refine dg_b e6 ?_
    refine dg_p rfl ?_
    exact OS.no rfl c6
  rw [if_pos k5]
  obtain ⟨h6, e6, c6⟩ := c5.asY (k := 3) (X := 31) (Y := 9) (by omega) (by omega) rfl k5 9 rfl
  refine dg_b e6 ?_
  refine dg_n z10 ?_
  refine dg_j ?_
  have rl : Rl ++ [(p + 1, 1)] ++ [(p + 2 + 1, 8)] ++ [(p + 4 + 1, 9)] = Rl ++ [(p + 1, 1), (p + 3, 8), (p + 5, 9)] := by
    rw [List.append_assoc, List.append_assoc]; rfl
  have c6' : MR m t rd tn tp th ea L h0 nr Z h6 (p + 6) 0 E (Rl ++ [(p + 1, 1), (p + 3, 8), (p + 5, 9)]) := by rw [← rl]; exact c6
  have a2 : ∀ a q, (gPl2 (kdp L) a q).1 = true → (gPl2 (kdp L) a q).2.2.1 = a := by
    intro a q g
    unfold gPl2 at g ⊢
    (repeat' split at g) <;> first | (cases g; done) | (simp [*])
  by_cases k6 : kdp L (p + 6) = 7
  · rw [if_pos k6]
    obtain ⟨h7, e7, c7⟩ := c6'.eatY (k := 7) (X := 3) (by omega) (by omega) rfl k6
    refine dg_b e7 ?_
    refine dg_n z10 ?_
    by_cases k7 : kdp L (p + 7) = 3
    case neg =>
      rw [if_neg k7]
      obtain ⟨h8, e8, c8⟩ := c7.asN (k := 3) (X := 31) (Y := 10) (by omega) rfl k7 10 rfl
      refine dg_b e8 ?_
      refine dg_p rfl ?_
      exact OS.no rfl c8
    rw [if_pos k7]
    obtain ⟨h8, e8, c8⟩ := c7.asY (k := 3) (X := 31) (Y := 10) (by omega) (by omega) rfl k7 10 rfl
    refine dg_b e8 ?_
    refine dg_n z10 ?_
    obtain ⟨o1, o2⟩ := mpl2 (a := p + 7) c8
    refine ⟨fun g => ?_, o2⟩
    obtain ⟨h', z, c'⟩ := o1 g
    refine ⟨h', z, ?_⟩
    unfold plR
    rw [a2 _ _ g, if_neg (show ¬ p + 7 = 0 by omega), ← List.append_assoc, ← List.append_assoc]
    exact c'
  · rw [if_neg k6]
    refine dg_b (c6'.eatN (k := 7) (X := 3) (by omega) rfl k6) ?_
    refine dg_p rfl ?_
    obtain ⟨o1, o2⟩ := mpl2 (a := 0) c6'
    refine ⟨fun g => ?_, o2⟩
    obtain ⟨h', z, c'⟩ := o1 g
    refine ⟨h', z, ?_⟩
    unfold plR
    rw [a2 _ _ g, if_pos rfl, List.nil_append, ← List.append_assoc]
    exact c'
theorem malph_of (c : MR m t rd tn tp th ea L h0 nr Z h p 0 E Rl) (hk : kdp L p = 10) : OS m t rd tn tp th ea L h0 (gAl (kdp L) p).1 (gAl (kdp L) p).2 (nr, Z, E) (Rl ++ [(p + 1, 2), (p + 2, 3)]) (onO h m 12 (f_Md_isAlphabetLine m h)) := by
  rw [c.on]
  unfold f_Md_isAlphabetLine gAl
  refine dg_j ?_
  refine dg_b c.mo.r9 ?_
  obtain ⟨h1, e1, c1⟩ := c.step (by omega)
  refine dg_b e1 ?_
  by_cases k1 : kdp L (p + 1) = 2
  case neg =>
    rw [if_neg k1]
    obtain ⟨h2, e2, c2⟩ := c1.asN (k := 2) (X := 30) (Y := 2) (by omega) rfl k1 2 rfl
    refine dg_b e2 ?_
    refine dg_p rfl ?_
    exact OS.no rfl c2
  rw [if_pos k1]
  obtain ⟨h2, e2, c2⟩ := c1.asY (k := 2) (X := 30) (Y := 2) (by omega) (by omega) rfl k1 2 rfl
  refine dg_b e2 ?_
  refine dg_n z10 ?_
  by_cases k2 : kdp L (p + 2) = 2
  case neg =>
    rw [if_neg k2]
    obtain ⟨h3, e3, c3⟩ := c2.asN (k := 2) (X := 30) (Y := 3) (by omega) rfl k2 3 rfl
    refine dg_b e3 ?_
    refine dg_p rfl ?_
    exact OS.no rfl c3
  rw [if_pos k2]
  obtain ⟨h3, e3, c3⟩ := c2.asY (k := 2) (X := 30) (Y := 3) (by omega) (by omega) rfl k2 3 rfl
  refine dg_b e3 ?_
  refine dg_n z10 ?_
  by_cases k3 : kdp L (p + 3) = 30
  case neg =>
    rw [if_neg k3]
    refine dg_b (c3.esN (k := 30) (X := 59) (by omega) rfl k3) ?_
    refine dg_p rfl ?_
    exact OS.no rfl c3.mf
  rw [if_pos k3]
  obtain ⟨h4, e4, c4⟩ := c3.esY (k := 30) (X := 59) (by omega) (by omega) rfl k3
  refine dg_b e4 ?_
  refine dg_n z10 ?_
  refine OS.ok rfl ?_
  rw [show Rl ++ [(p + 1, 2), (p + 2, 3)] = Rl ++ [(p + 1, 2)] ++ [(p + 1 + 1, 3)] by rw [List.append_assoc]; rfl]
  exact c4
end
