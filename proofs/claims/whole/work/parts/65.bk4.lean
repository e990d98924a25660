/-! The book: names looked up, things added. -/
def lkC (c : Int64) : List Int64 → Nat → Nat
  | [], _ => 4294967295
  | x :: l, i => if x = c then i else lkC c l (i + 1)
theorem lg_cmp0 (x y : Int64) : lg_cmp x y = 0 ↔ x = y := by
  unfold lg_cmp
  by_cases h : x > y
  · rw [if_pos h]
    refine ⟨fun q => absurd q (by decide), fun q => ?_⟩
    rw [q] at h
    exact absurd h (Int64.lt_irrefl)
  · rw [if_neg h]
    by_cases e : x = y
    · rw [if_pos e]; exact ⟨fun _ => e, fun _ => rfl⟩
    · rw [if_neg e]; exact ⟨fun q => absurd q (by decide), fun q => absurd q e⟩
theorem ix_m1 : ix 4294967295 = -1 := by decide
section
variable {h : hp_M} {b : Nat} {pl : List (Int64 × (Nat → Int32))} {al : List (Int64 × List Int32)} {l : List (Nat × Nat × Nat)} {rl : List (Nat × Nat × Nat × Nat)}
theorem plNamed_b (t : is_Bk h b pl al l rl) (fl : Nat) (c : Int64) : ∀ r fu i, i + r = pl.length → r < fu → f_Bk_planetNamed_b2 fl b c h fu (ix i) = some (ix (lkC c ((pl.map (·.1)).drop i) i)) := by
  have h8 := t.2.1.1
  obtain ⟨g, a5, b5⟩ := t.2.2.2.2.1
  intro r
  induction r with
  | zero =>
    intro fu i hi hf
    obtain ⟨fu, rfl⟩ : ∃ q, fu = q + 1 := ⟨fu - 1, by omega⟩
    have e0 : gI h b 1 2 = some (ix pl.length) := gI_of t.2.2.1 rfl
    unfold f_Bk_planetNamed_b2
    simp only [e0, Option.bind_some]
    rw [if_pos (ix_le1 (by omega) (by omega)), List.drop_eq_nil_of_le (by simp; omega)]
    show some (-1) = some (ix 4294967295)
    rw [ix_m1]
  | succ r ih =>
    intro fu i hi hf
    obtain ⟨fu, rfl⟩ : ∃ q, fu = q + 1 := ⟨fu - 1, by omega⟩
    have e0 : gI h b 1 2 = some (ix pl.length) := gI_of t.2.2.1 rfl
    have e1 : gR h b 1 1 = some (b + 2) := gR_of t.2.2.1 rfl
    have e2 : gaL h (b + 2) (ix i) = some (pl.getD i (0, fun _ => 0)).1 := by rw [gaL_of a5 (by omega) (by omega), b5 i (by omega)]
    have hg : (pl.getD i (0, fun _ => 0)).1 = (pl[i]'(by omega)).1 := by simp [List.getD_eq_getElem?_getD, show i < pl.length by omega]
    unfold f_Bk_planetNamed_b2
    simp only [e0, e1, e2, ixp1, Option.bind_some]
    rw [if_neg (ix_nle (by omega) (by omega)), List.drop_eq_getElem_cons (show i < (pl.map (·.1)).length by simp; omega)]
    unfold lkC
    rw [hg]
    have hm : (pl.map (·.1))[i]'(by simp; omega) = (pl[i]'(by omega)).1 := by simp
    rw [hm]
    by_cases c1 : (pl[i]'(by omega)).1 = c
    · rw [if_pos ((lg_cmp0 _ _).mpr c1), if_pos c1]
    · rw [if_neg (fun q => c1 ((lg_cmp0 _ _).mp q)), if_neg c1]
      exact ih fu (i + 1) (by omega) (by omega)
theorem plNamed (t : is_Bk h b pl al l rl) {fl : Nat} (hfl : 5000 ≤ fl) (c : Int64) : f_Bk_planetNamed fl b c h = some (ix (lkC c (pl.map (·.1)) 0)) := by
  have h8 := t.2.1.1
  have := plNamed_b t fl c pl.length fl 0 (by omega) (by omega)
  rw [List.drop_zero] at this
  exact this
theorem alNamed_b (t : is_Bk h b pl al l rl) (fl : Nat) (c : Int64) : ∀ r fu i, i + r = al.length → r < fu → f_Bk_alphabetNamed_b2 fl b c h fu (ix i) = some (ix (lkC c ((al.map (·.1)).drop i) i)) := by
  have h8 := t.2.1.2.1
  obtain ⟨g, a5, b5⟩ := t.2.2.2.2.2.2.1
  intro r
  induction r with
  | zero =>
    intro fu i hi hf
    obtain ⟨fu, rfl⟩ : ∃ q, fu = q + 1 := ⟨fu - 1, by omega⟩
    have e0 : gI h b 1 5 = some (ix al.length) := gI_of t.2.2.1 rfl
    unfold f_Bk_alphabetNamed_b2
    simp only [e0, Option.bind_some]
    rw [if_pos (ix_le1 (by omega) (by omega)), List.drop_eq_nil_of_le (by simp; omega)]
    show some (-1) = some (ix 4294967295)
    rw [ix_m1]
  | succ r ih =>
    intro fu i hi hf
    obtain ⟨fu, rfl⟩ : ∃ q, fu = q + 1 := ⟨fu - 1, by omega⟩
    have e0 : gI h b 1 5 = some (ix al.length) := gI_of t.2.2.1 rfl
    have e1 : gR h b 1 4 = some (b + 4) := gR_of t.2.2.1 rfl
    have e2 : gaL h (b + 4) (ix i) = some (al.getD i (0, [])).1 := by rw [gaL_of a5 (by omega) (by omega), b5 i (by omega)]
    have hg : (al.getD i (0, [])).1 = (al[i]'(by omega)).1 := by simp [List.getD_eq_getElem?_getD, show i < al.length by omega]
    unfold f_Bk_alphabetNamed_b2
    simp only [e0, e1, e2, ixp1, Option.bind_some]
    rw [if_neg (ix_nle (by omega) (by omega)), List.drop_eq_getElem_cons (show i < (al.map (·.1)).length by simp; omega)]
    unfold lkC
    rw [hg]
    have hm : (al.map (·.1))[i]'(by simp; omega) = (al[i]'(by omega)).1 := by simp
    rw [hm]
    by_cases c1 : (al[i]'(by omega)).1 = c
    · rw [if_pos ((lg_cmp0 _ _).mpr c1), if_pos c1]
    · rw [if_neg (fun q => c1 ((lg_cmp0 _ _).mp q)), if_neg c1]
      exact ih fu (i + 1) (by omega) (by omega)
theorem alNamed (t : is_Bk h b pl al l rl) {fl : Nat} (hfl : 5000 ≤ fl) (c : Int64) : f_Bk_alphabetNamed fl b c h = some (ix (lkC c (al.map (·.1)) 0)) := by
  have h8 := t.2.1.2.1
  have := alNamed_b t fl c al.length fl 0 (by omega) (by omega)
  rw [List.drop_zero] at this
  exact this
/-- the object's cell -/
def bkC (b n nA nR : Nat) : va_E := oC 1 [.ref (b + 1), .ref (b + 2), .int (ix n), .ref (b + 3), .ref (b + 4), .int (ix nA), .ref (b + 5), .ref (b + 10), .ref (b + 11), .ref (b + 12), .ref (b + 13), .int (ix nR)]
theorem bk_p5 {h : hp_M} {b n nA nR : Nat} (c : h.1 b = some (bkC b n nA nR)) : pF h b 1 5 (.int 0) = some (wr h b (bkC b n 0 nR)) := pF_of c (by simp)
theorem bk_p11 {h : hp_M} {b n nA nR : Nat} (c : h.1 b = some (bkC b n nA nR)) : pF h b 1 11 (.int 0) = some (wr h b (bkC b n nA 0)) := pF_of c (by simp)
theorem is_Bk.emptied (t : is_Bk h b pl al l rl) : ∃ h', f_Bk_empty b h = some h' ∧ is_Bk h' b [] [] [] [] ∧ fr b (b + 34) h h' ∧ h'.2 = h.2 := by
  obtain ⟨h1, h2, h3, ⟨g4, a4, b4⟩, ⟨g5, a5, b5⟩, ⟨g6, a6, b6⟩, ⟨g7, a7, b7⟩, h8, ⟨g9, a9, b9⟩, ⟨g10, a10, b10⟩, ⟨g11, a11, b11⟩, ⟨g12, a12, b12⟩, h13, h14⟩ := t
  have e1 : pF h b 1 2 (.int 0) = some (wr h b (bkC b 0 al.length rl.length)) := pF_of h3 (by simp)
  have e2 : pF (wr h b (bkC b 0 al.length rl.length)) b 1 5 (.int 0) = some (wr h b (bkC b 0 0 rl.length)) := by
    rw [bk_p5 (wr_self _ _ _), wr_wr]
  have e3 : pF (wr h b (bkC b 0 0 rl.length)) b 1 11 (.int 0) = some (wr h b (bkC b 0 0 0)) := by
    rw [bk_p11 (wr_self _ _ _), wr_wr]
  have c3 : (wr h b (bkC b 0 0 0)).1 b = some (bkC b 0 0 0) := wr_self _ _ _
  have e4 : gR (wr h b (bkC b 0 0 0)) b 1 6 = some (b + 5) := gR_of c3 rfl
  have r3 : fr b (b + 1) h (wr h b (bkC b 0 0 0)) := wr_fr _ _ _
  have p3 := h8.keep r3 (by omega)
  obtain ⟨h', e5, p5, r5, z5⟩ := p3.empty
  have rr : ∀ q e, q ≠ b → (q < b + 5 ∨ b + 10 ≤ q) → h.1 q = some e → q < h.2 → h'.1 q = some e := fun q e n1 n2 hq hl => r5.cell ((wr_ne _ _ n1).trans hq) hl n2
  refine ⟨h', ?_, ⟨by rw [z5]; exact h1, ⟨by simp, by simp, by simp⟩, r5.cell c3 (by rw [wr_2]; omega) (by omega), ⟨g4, rr _ _ (by omega) (by omega) a4 (by omega), b4⟩, ⟨g5, rr _ _ (by omega) (by omega) a5 (by omega), fun i hi => by simp at hi⟩, ⟨g6, rr _ _ (by omega) (by omega) a6 (by omega), b6⟩, ⟨g7, rr _ _ (by omega) (by omega) a7 (by omega), fun i hi => by simp at hi⟩, p5, ⟨g9, rr _ _ (by omega) (by omega) a9 (by omega), fun i hi => by simp at hi⟩, ⟨g10, rr _ _ (by omega) (by omega) a10 (by omega), fun i hi => by simp at hi⟩, ⟨g11, rr _ _ (by omega) (by omega) a11 (by omega), fun i hi => by simp at hi⟩, ⟨g12, rr _ _ (by omega) (by omega) a12 (by omega), fun i hi => by simp at hi⟩, fun i hi => ?_, fun i hi => ?_⟩, (r3.mono (by omega) (by omega)).trans (r5.mono (by omega) (by omega)), by rw [z5, wr_2]⟩
  · unfold f_Bk_empty
    simp only [e1, e2, e3, e4, p3.on, e5, Option.bind_some]
  · obtain ⟨p, hp, _⟩ := h13 i hi
    exact ⟨p, rr _ _ (by omega) (by omega) hp (by omega), fun q => by simp at q⟩
  · obtain ⟨q, hq, _⟩ := h14 i hi
    exact ⟨q, (hq.keep r3 (by omega)).keep r5 (by omega), fun q => by simp at q⟩
theorem is_Bk.addPl (t : is_Bk h b pl al l rl) (c : Int64) (x1 x2 x3 x4 x5 : Int32) : ∃ h', f_Bk_addPlanet b c x1 x2 x3 x4 x5 h = some h' ∧ is_Bk h' b (if pl.length < 8 then pl ++ [(c, tl x1 x2 x3 x4 x5)] else pl) al l rl ∧ fr b (b + 34) h h' ∧ h'.2 = h.2 := by
  by_cases c8 : pl.length < 8
  · rw [if_pos c8]
    obtain ⟨h1, h2, h3, ⟨g4, a4, b4⟩, ⟨g5, a5, b5⟩, ⟨g6, a6, b6⟩, ⟨g7, a7, b7⟩, h8, ⟨g9, a9, b9⟩, ⟨g10, a10, b10⟩, ⟨g11, a11, b11⟩, ⟨g12, a12, b12⟩, h13, h14⟩ := t
    obtain ⟨p0, hp0, _⟩ := h13 pl.length c8
    have e0 : gI h b 1 2 = some (ix pl.length) := gI_of h3 rfl
    have e1 : gR h b 1 0 = some (b + 1) := gR_of h3 rfl
    have e2 : gaR h 3 (b + 1) (ix pl.length) = some (b + 14 + pl.length) := by rw [gaR_of a4 c8 (by omega), b4 _ c8]
    have e3 := f_Pl_tell_of hp0 x1 x2 x3 x4 x5
    have n3 : ∀ q, q ≠ b + 14 + pl.length → (wr h (b + 14 + pl.length) (oC 3 (pfs (tl x1 x2 x3 x4 x5)))).1 q = h.1 q := fun q hq => wr_ne _ _ hq
    have e4 : gR (wr h (b + 14 + pl.length) (oC 3 (pfs (tl x1 x2 x3 x4 x5)))) b 1 1 = some (b + 2) := gR_of ((n3 b (by omega)).trans h3) rfl
    have e5 : gI (wr h (b + 14 + pl.length) (oC 3 (pfs (tl x1 x2 x3 x4 x5)))) b 1 2 = some (ix pl.length) := gI_of ((n3 b (by omega)).trans h3) rfl
    have e6 := paL_of (x := c) ((n3 (b + 2) (by omega)).trans a5) c8 (by omega)
    obtain ⟨H, hH⟩ : ∃ q, wr (wr h (b + 14 + pl.length) (oC 3 (pfs (tl x1 x2 x3 x4 x5)))) (b + 2) (aL 8 (vp_updL g5 pl.length c)) = q := ⟨_, rfl⟩
    rw [hH] at e6
    have n6 : ∀ q, q ≠ b + 14 + pl.length → q ≠ b + 2 → H.1 q = h.1 q := fun q h1 h2 => by rw [← hH, wr_ne _ _ h2]; exact n3 q h1
    have e7 : gI H b 1 2 = some (ix pl.length) := gI_of ((n6 b (by omega) (by omega)).trans h3) rfl
    have e8 : pF H b 1 2 (.int (ix (pl.length + 1))) = some (wr H b (bkC b (pl.length + 1) al.length rl.length)) := pF_of ((n6 b (by omega) (by omega)).trans h3) (by simp)
    have n8 : ∀ q, q ≠ b + 14 + pl.length → q ≠ b + 2 → q ≠ b → (wr H b (bkC b (pl.length + 1) al.length rl.length)).1 q = h.1 q := fun q h1 h2 h3 => (wr_ne _ _ h3).trans (n6 q h1 h2)
    have z8 : (wr H b (bkC b (pl.length + 1) al.length rl.length)).2 = h.2 := by rw [wr_2, ← hH]; rfl
    have fa : ∀ lo hi, (lo = b + 5 ∧ hi = b + 10) ∨ (b + 22 ≤ lo ∧ hi ≤ b + 34) → ∀ q, lo ≤ q → q < hi → (wr H b (bkC b (pl.length + 1) al.length rl.length)).1 q = h.1 q := fun lo hi hc q h1 h2 => n8 q (by omega) (by omega) (by omega)
    have frP : ∃ hm, fr b (b + 5) h hm ∧ fr (b + 10) (b + 22) hm (wr H b (bkC b (pl.length + 1) al.length rl.length)) := f2.split ⟨by rw [z8]; exact Nat.le_refl _, fun q h1 h2 _ => n8 q (by omega) (by omega) (by omega)⟩
    obtain ⟨hm, fA, fB⟩ := frP
    refine ⟨_, ?_, ⟨by rw [z8]; exact h1, ⟨by simp; omega, h2.2⟩, ?_, ⟨g4, (n8 _ (by omega) (by omega) (by omega)).trans a4, b4⟩, ⟨vp_updL g5 pl.length c, ?_, fun i hi => ?_⟩, ⟨g6, (n8 _ (by omega) (by omega) (by omega)).trans a6, b6⟩, ⟨g7, (n8 _ (by omega) (by omega) (by omega)).trans a7, b7⟩, (h8.keep fA (by omega)).keep fB (by omega), ⟨g9, (n8 _ (by omega) (by omega) (by omega)).trans a9, b9⟩, ⟨g10, (n8 _ (by omega) (by omega) (by omega)).trans a10, b10⟩, ⟨g11, (n8 _ (by omega) (by omega) (by omega)).trans a11, b11⟩, ⟨g12, (n8 _ (by omega) (by omega) (by omega)).trans a12, b12⟩, fun i hi => ?_, fun i hi => ?_⟩, ⟨by rw [z8]; exact Nat.le_refl _, fun q hq _ => n8 q (by omega) (by omega) (by omega)⟩, z8⟩
    · unfold f_Bk_addPlanet
      rw [e0]
      simp only [Option.bind_some]
      rw [if_neg (show ¬ (8 : Int32) ≤ ix pl.length from ix_nle (n := pl.length) (i := 8) c8 (by omega))]
      simp only [e1, e2, onO_of hp0, e3, e4, e5, e6, e7, ixp1, e8, Option.bind_some]
    · rw [wr_self]; simp [bkC]
    · rw [wr_ne _ _ (by omega), ← hH]; exact wr_self _ _ _
    · simp at hi
      unfold vp_updL
      by_cases q : i = pl.length
      · subst q; rw [if_pos rfl, getD_snoc_eq]
      · rw [if_neg q, b5 i (by omega), getD_snoc_lt _ _ _ (by omega)]
    · by_cases q : i = pl.length
      · subst q
        refine ⟨tl x1 x2 x3 x4 x5, ?_, fun _ => by rw [getD_snoc_eq]⟩
        rw [wr_ne _ _ (by omega), ← hH, wr_ne _ _ (by omega)]
        exact wr_self _ _ _
      · obtain ⟨p, hp, hq⟩ := h13 i hi
        refine ⟨p, (n8 _ (by omega) (by omega) (by omega)).trans hp, fun w => ?_⟩
        simp at w
        rw [hq (by omega), getD_snoc_lt _ _ _ (by omega)]
    · obtain ⟨q, hq, hw⟩ := h14 i hi
      exact ⟨q, (hq.keep fA (by omega)).keep fB (by omega), hw⟩
  · rw [if_neg c8]
    have h8 := t.2.1.1
    have e0 : gI h b 1 2 = some (ix pl.length) := gI_of t.2.2.1 rfl
    refine ⟨h, ?_, t, fr.refl _ _ _, rfl⟩
    unfold f_Bk_addPlanet
    simp only [e0, Option.bind_some]
    rw [if_pos (show (8 : Int32) ≤ ix pl.length from ix_le1 (i := 8) (by omega) (by omega))]
theorem is_Bk.addAl (t : is_Bk h b pl al l rl) (c : Int64) {a : Nat} {m : List Int32} (u : is_Al h a m) (ha : b + 34 ≤ a ∨ a + 2 ≤ b) : ∃ h', f_Bk_addAlphabet b c a h = some h' ∧ is_Bk h' b pl (if al.length < 6 then al ++ [(c, m)] else al) l rl ∧ fr b (b + 34) h h' ∧ h'.2 = h.2 := by
  by_cases c8 : al.length < 6
  · rw [if_pos c8]
    obtain ⟨h1, h2, h3, ⟨g4, a4, b4⟩, ⟨g5, a5, b5⟩, ⟨g6, a6, b6⟩, ⟨g7, a7, b7⟩, h8, ⟨g9, a9, b9⟩, ⟨g10, a10, b10⟩, ⟨g11, a11, b11⟩, ⟨g12, a12, b12⟩, h13, h14⟩ := t
    obtain ⟨m0, hm0, _⟩ := h14 al.length c8
    have e0 : gI h b 1 5 = some (ix al.length) := gI_of h3 rfl
    have e1 : gR h b 1 3 = some (b + 3) := gR_of h3 rfl
    have e2 : gaR h 4 (b + 3) (ix al.length) = some (b + 22 + 2 * al.length) := by rw [gaR_of a6 c8 (by omega), b6 _ c8]
    obtain ⟨H3, e3, m3, r3, z3⟩ := hm0.copyFrom u (by omega)
    have n3 : ∀ q, (q < b + 22 + 2 * al.length ∨ b + 22 + 2 * al.length + 2 ≤ q) → q < h.2 → H3.1 q = h.1 q := fun q hq hl => r3.2 q hq hl
    have h3' := (n3 b (by omega) (by omega)).trans h3
    have e4 : gR H3 b 1 4 = some (b + 4) := gR_of h3' rfl
    have e5 : gI H3 b 1 5 = some (ix al.length) := gI_of h3' rfl
    have e6 := paL_of (x := c) ((n3 (b + 4) (by omega) (by omega)).trans a7) c8 (by omega)
    obtain ⟨H, hH⟩ : ∃ q, wr H3 (b + 4) (aL 6 (vp_updL g7 al.length c)) = q := ⟨_, rfl⟩
    rw [hH] at e6
    have n6 : ∀ q, q ≠ b + 4 → H.1 q = H3.1 q := fun q h2 => by rw [← hH]; exact wr_ne _ _ h2
    have e7 : gI H b 1 5 = some (ix al.length) := gI_of ((n6 b (by omega)).trans h3') rfl
    have e8 : pF H b 1 5 (.int (ix (al.length + 1))) = some (wr H b (bkC b pl.length (al.length + 1) rl.length)) := pF_of ((n6 b (by omega)).trans h3') (by simp)
    have z8 : (wr H b (bkC b pl.length (al.length + 1) rl.length)).2 = h.2 := by rw [wr_2, ← hH, wr_2, z3]
    have n8 : ∀ q, (q < b + 22 + 2 * al.length ∨ b + 22 + 2 * al.length + 2 ≤ q) → q ≠ b + 4 → q ≠ b → q < h.2 → (wr H b (bkC b pl.length (al.length + 1) rl.length)).1 q = h.1 q := fun q h1 h2 h3 hl => (wr_ne _ _ h3).trans ((n6 q h2).trans (n3 q h1 hl))
    have fB : fr b (b + 5) H3 (wr H b (bkC b pl.length (al.length + 1) rl.length)) := ⟨by rw [z8, z3]; exact Nat.le_refl _, fun q hq _ => (wr_ne _ _ (by omega)).trans (n6 q (by omega))⟩
    refine ⟨_, ?_, ⟨by rw [z8]; exact h1, ⟨h2.1, by simp; omega, h2.2.2⟩, ?_, ⟨g4, (n8 _ (by omega) (by omega) (by omega) (by omega)).trans a4, b4⟩, ⟨g5, (n8 _ (by omega) (by omega) (by omega) (by omega)).trans a5, b5⟩, ⟨g6, (n8 _ (by omega) (by omega) (by omega) (by omega)).trans a6, b6⟩, ⟨vp_updL g7 al.length c, ?_, fun i hi => ?_⟩, (h8.keep r3 (by omega)).keep fB (by omega), ⟨g9, (n8 _ (by omega) (by omega) (by omega) (by omega)).trans a9, b9⟩, ⟨g10, (n8 _ (by omega) (by omega) (by omega) (by omega)).trans a10, b10⟩, ⟨g11, (n8 _ (by omega) (by omega) (by omega) (by omega)).trans a11, b11⟩, ⟨g12, (n8 _ (by omega) (by omega) (by omega) (by omega)).trans a12, b12⟩, fun i hi => ?_, fun i hi => ?_⟩, (r3.mono (by omega) (by omega)).trans (fB.mono (by omega) (by omega)), z8⟩
    · unfold f_Bk_addAlphabet
      rw [e0]
      simp only [Option.bind_some]
      rw [if_neg (show ¬ (6 : Int32) ≤ ix al.length from ix_nle (n := al.length) (i := 6) c8 (by omega))]
      simp only [e1, e2, hm0.on, e3, e4, e5, e6, e7, ixp1, e8, Option.bind_some]
    · rw [wr_self]; simp [bkC]
    · rw [wr_ne _ _ (by omega), ← hH]; exact wr_self _ _ _
    · simp at hi
      unfold vp_updL
      by_cases q : i = al.length
      · subst q; rw [if_pos rfl, getD_snoc_eq]
      · rw [if_neg q, b7 i (by omega), getD_snoc_lt _ _ _ (by omega)]
    · obtain ⟨p, hp, hq⟩ := h13 i hi
      exact ⟨p, (n8 _ (by omega) (by omega) (by omega) (by omega)).trans hp, hq⟩
    · by_cases q : i = al.length
      · subst q
        exact ⟨m, m3.keep fB (by omega), fun _ => by rw [getD_snoc_eq]⟩
      · obtain ⟨k, hk, hw⟩ := h14 i hi
        refine ⟨k, (hk.keep r3 (by omega)).keep fB (by omega), fun w => ?_⟩
        simp at w
        rw [hw (by omega), getD_snoc_lt _ _ _ (by omega)]
  · rw [if_neg c8]
    have h8 := t.2.1.2.1
    have e0 : gI h b 1 5 = some (ix al.length) := gI_of t.2.2.1 rfl
    refine ⟨h, ?_, t, fr.refl _ _ _, rfl⟩
    unfold f_Bk_addAlphabet
    simp only [e0, Option.bind_some]
    rw [if_pos (show (6 : Int32) ≤ ix al.length from ix_le1 (i := 6) (by omega) (by omega))]
theorem is_Bk.addRu (t : is_Bk h b pl al l rl) (x1 x2 x3 : Nat) : ∃ h', f_Bk_addRule b (ix x1) (ix x2) (ix x3) h = some h' ∧ is_Bk h' b pl al l (if rl.length < 12 then rl ++ [(x1, x2, l.length, x3)] else rl) ∧ fr b (b + 34) h h' ∧ h'.2 = h.2 := by
  by_cases c8 : rl.length < 12
  · rw [if_pos c8]
    have prs := t.pr.size
    obtain ⟨h1, h2, h3, ⟨g4, a4, b4⟩, ⟨g5, a5, b5⟩, ⟨g6, a6, b6⟩, ⟨g7, a7, b7⟩, h8, ⟨g9, a9, b9⟩, ⟨g10, a10, b10⟩, ⟨g11, a11, b11⟩, ⟨g12, a12, b12⟩, h13, h14⟩ := t
    have e0 : gI h b 1 11 = some (ix rl.length) := gI_of h3 rfl
    have e1 : gR h b 1 7 = some (b + 10) := gR_of h3 rfl
    have w1 := paI_of (x := ix x1) a9 c8 (by omega)
    obtain ⟨H1, hH1⟩ : ∃ q, wr h (b + 10) (aI 12 (upd g9 rl.length (ix x1))) = q := ⟨_, rfl⟩
    rw [hH1] at w1
    have f1 : ∀ q, q ≠ b + 10 → H1.1 q = h.1 q := fun q hq => by rw [← hH1]; exact wr_ne _ _ hq
    have c1 := (f1 b (by omega)).trans h3
    have w2 := paI_of (x := ix x2) ((f1 (b + 11) (by omega)).trans a10) c8 (by omega)
    obtain ⟨H2, hH2⟩ : ∃ q, wr H1 (b + 11) (aI 12 (upd g10 rl.length (ix x2))) = q := ⟨_, rfl⟩
    rw [hH2] at w2
    have f2' : ∀ q, q ≠ b + 11 → H2.1 q = H1.1 q := fun q hq => by rw [← hH2]; exact wr_ne _ _ hq
    have c2 := (f2' b (by omega)).trans c1
    have r2 : fr (b + 10) (b + 14) h H2 := ⟨by rw [← hH2, wr_2, ← hH1, wr_2]; exact Nat.le_refl _, fun q hq _ => (f2' q (by omega)).trans (f1 q (by omega))⟩
    have p2 := h8.keep r2 (by omega)
    have w3 := paI_of (x := ix l.length) ((f2' (b + 12) (by omega)).trans ((f1 (b + 12) (by omega)).trans a11)) c8 (by omega)
    obtain ⟨H3, hH3⟩ : ∃ q, wr H2 (b + 12) (aI 12 (upd g11 rl.length (ix l.length))) = q := ⟨_, rfl⟩
    rw [hH3] at w3
    have f3 : ∀ q, q ≠ b + 12 → H3.1 q = H2.1 q := fun q hq => by rw [← hH3]; exact wr_ne _ _ hq
    have c3 := (f3 b (by omega)).trans c2
    have w4 := paI_of (x := ix x3) ((f3 (b + 13) (by omega)).trans ((f2' (b + 13) (by omega)).trans ((f1 (b + 13) (by omega)).trans a12))) c8 (by omega)
    obtain ⟨H4, hH4⟩ : ∃ q, wr H3 (b + 13) (aI 12 (upd g12 rl.length (ix x3))) = q := ⟨_, rfl⟩
    rw [hH4] at w4
    have f4 : ∀ q, q ≠ b + 13 → H4.1 q = H3.1 q := fun q hq => by rw [← hH4]; exact wr_ne _ _ hq
    have c4 := (f4 b (by omega)).trans c3
    have w5 : pF H4 b 1 11 (.int (ix (rl.length + 1))) = some (wr H4 b (bkC b pl.length al.length (rl.length + 1))) := pF_of c4 (by simp)
    obtain ⟨H5, hH5⟩ : ∃ q, wr H4 b (bkC b pl.length al.length (rl.length + 1)) = q := ⟨_, rfl⟩
    rw [hH5] at w5
    have f5 : ∀ q, q ≠ b → H5.1 q = H4.1 q := fun q hq => by rw [← hH5]; exact wr_ne _ _ hq
    have z5 : H5.2 = h.2 := by rw [← hH5, wr_2, ← hH4, wr_2, ← hH3, wr_2, ← hH2, wr_2, ← hH1, wr_2]
    have n5 : ∀ q, q ≠ b → (q < b + 10 ∨ b + 14 ≤ q) → H5.1 q = h.1 q := fun q h1 h2 => by rw [f5 q h1, f4 q (by omega), f3 q (by omega), f2' q (by omega), f1 q (by omega)]
    obtain ⟨hm, fA, fB⟩ := f2.split (a := b) (b := b + 1) (c := b + 10) (d := b + 14) (h := h) (h1 := H5) ⟨by rw [z5]; exact Nat.le_refl _, fun q h1 h2 _ => n5 q (by omega) h2⟩
    refine ⟨H5, ?_, ⟨by rw [z5]; exact h1, ⟨h2.1, h2.2.1, by simp; omega⟩, ?_, ⟨g4, (n5 _ (by omega) (by omega)).trans a4, b4⟩, ⟨g5, (n5 _ (by omega) (by omega)).trans a5, b5⟩, ⟨g6, (n5 _ (by omega) (by omega)).trans a6, b6⟩, ⟨g7, (n5 _ (by omega) (by omega)).trans a7, b7⟩, (h8.keep fA (by omega)).keep fB (by omega), ⟨upd g9 rl.length (ix x1), ?_, fun i hi => ?_⟩, ⟨upd g10 rl.length (ix x2), ?_, fun i hi => ?_⟩, ⟨upd g11 rl.length (ix l.length), ?_, fun i hi => ?_⟩, ⟨upd g12 rl.length (ix x3), ?_, fun i hi => ?_⟩, fun i hi => ?_, fun i hi => ?_⟩, ⟨by rw [z5]; exact Nat.le_refl _, fun q hq _ => n5 q (by omega) (by omega)⟩, z5⟩
    · have g1 : gR H1 b 1 8 = some (b + 11) := gR_of c1 rfl
      have g2 : gI H1 b 1 11 = some (ix rl.length) := gI_of c1 rfl
      have g3 : gR H2 b 1 9 = some (b + 12) := gR_of c2 rfl
      have g4 : gI H2 b 1 11 = some (ix rl.length) := gI_of c2 rfl
      have g5 : gR H2 b 1 6 = some (b + 5) := gR_of c2 rfl
      have g6 : gR H3 b 1 10 = some (b + 13) := gR_of c3 rfl
      have g7 : gI H3 b 1 11 = some (ix rl.length) := gI_of c3 rfl
      have g8 : gI H4 b 1 11 = some (ix rl.length) := gI_of c4 rfl
      unfold f_Bk_addRule
      rw [e0]
      simp only [Option.bind_some]
      rw [if_neg (show ¬ (12 : Int32) ≤ ix rl.length from ix_nle (n := rl.length) (i := 12) c8 (by omega))]
      simp only [e1, w1, g1, g2, w2, g3, g4, g5, p2.on, p2.size, w3, g6, g7, w4, g8, ixp1, w5, Option.bind_some]
    · rw [← hH5, wr_self]; simp [bkC]
    · rw [f5 _ (by omega), f4 _ (by omega), f3 _ (by omega), f2' _ (by omega), ← hH1]; exact wr_self _ _ _
    · simp at hi
      by_cases q : i = rl.length
      · subst q; rw [upd_self, getD_snoc_eq]
      · rw [upd_ne _ _ q, b9 i (by omega), getD_snoc_lt _ _ _ (by omega)]
    · rw [f5 _ (by omega), f4 _ (by omega), f3 _ (by omega), ← hH2]; exact wr_self _ _ _
    · simp at hi
      by_cases q : i = rl.length
      · subst q; rw [upd_self, getD_snoc_eq]
      · rw [upd_ne _ _ q, b10 i (by omega), getD_snoc_lt _ _ _ (by omega)]
    · rw [f5 _ (by omega), f4 _ (by omega), ← hH3]; exact wr_self _ _ _
    · simp at hi
      by_cases q : i = rl.length
      · subst q; rw [upd_self, getD_snoc_eq]
      · rw [upd_ne _ _ q, b11 i (by omega), getD_snoc_lt _ _ _ (by omega)]
    · rw [f5 _ (by omega), ← hH4]; exact wr_self _ _ _
    · simp at hi
      by_cases q : i = rl.length
      · subst q; rw [upd_self, getD_snoc_eq]
      · rw [upd_ne _ _ q, b12 i (by omega), getD_snoc_lt _ _ _ (by omega)]
    · obtain ⟨p, hp, hq⟩ := h13 i hi
      exact ⟨p, (n5 _ (by omega) (by omega)).trans hp, hq⟩
    · obtain ⟨k, hk, hw⟩ := h14 i hi
      exact ⟨k, (hk.keep fA (by omega)).keep fB (by omega), hw⟩
  · rw [if_neg c8]
    have h8 := t.2.1.2.2
    have e0 : gI h b 1 11 = some (ix rl.length) := gI_of t.2.2.1 rfl
    refine ⟨h, ?_, t, fr.refl _ _ _, rfl⟩
    unfold f_Bk_addRule
    simp only [e0, Option.bind_some]
    rw [if_pos (show (12 : Int32) ≤ ix rl.length from ix_le1 (i := 12) (by omega) (by omega))]
end
