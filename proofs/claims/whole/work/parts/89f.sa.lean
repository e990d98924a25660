/-! What both have told, behind a planet; an alphabet's statement. -/
theorem bdN {x lo hi : Int32} (h : ¬ (x < lo ∨ ¬ x ≤ hi)) : lo.toInt ≤ x.toInt ∧ x.toInt ≤ hi.toInt := by
  have a : ¬ x < lo := fun q => h (Or.inl q)
  have b : x ≤ hi := Decidable.byContradiction (fun q => h (Or.inr q))
  rw [i32_lt] at a
  rw [i32_le] at b
  omega
theorem okp_plV {tp : Nat → Int32} {L : List tokV} {p a b : Nat} (h5 : ¬ (nb tp L (p + 5) < 1 ∨ ¬ nb tp L (p + 5) ≤ 60)) (ha : a ≠ 0 → ¬ (nb tp L a < 0 ∨ ¬ nb tp L a ≤ 359)) (hb : b ≠ 0 → ¬ (nb tp L b < 0 ∨ ¬ nb tp L b ≤ 29) ∧ ¬ (nb tp L (b + 2) < nb tp L b + 1 ∨ ¬ nb tp L (b + 2) ≤ 60)) : okp (plV tp L p a b) := by
  have i0 : (0 : Int32).toInt = 0 := by decide
  have i1 : (1 : Int32).toInt = 1 := by decide
  have i29 : (29 : Int32).toInt = 29 := by decide
  have i60 : (60 : Int32).toInt = 60 := by decide
  have i359 : (359 : Int32).toInt = 359 := by decide
  have b5 := bdN h5
  rw [i1, i60] at b5
  have ang : 0 ≤ (if a = 0 then 0 else nb tp L a).toInt ∧ (if a = 0 then 0 else nb tp L a).toInt < 360 := by
    by_cases a0 : a = 0
    · rw [if_pos a0, i0]; omega
    · rw [if_neg a0]
      have := bdN (ha a0)
      rw [i0, i359] at this
      omega
  have ret : 0 ≤ (if b = 0 then 0 else nb tp L b).toInt ∧ (if b = 0 then 0 else nb tp L b).toInt < (if b = 0 then 1 else nb tp L (b + 2)).toInt ∧ (if b = 0 then 1 else nb tp L (b + 2)).toInt ≤ 60 := by
    by_cases b0 : b = 0
    · rw [if_pos b0, if_pos b0, i0, i1]; omega
    · rw [if_neg b0, if_neg b0]
      have u := bdN (hb b0).1
      have v := bdN (hb b0).2
      rw [i0, i29] at u
      rw [i60, i32_add (by omega) (by omega), i1] at v
      omega
  exact ⟨b5, ret, ang, ang⟩
theorem jb_planet {tp : Nat → Int32} {L : List tokV} {R : Nat → Nat} {nP : Nat} {g1 : Nat → Int32} {nA : Nat} {g2 g3 : Nat → Int32} {M : Nat → Nat} {B : bkV} {p a b q : Nat} (jb : JB tp L R p (nP, g1, nA, g2, g3, M) B) (h8 : nP < 8) (n1 : nmR R 1 0 q = nmR R 1 0 p ++ [p + 1]) (n2 : nmR R 2 0 q = nmR R 2 0 p) (ok : okp (plV tp L p a b)) : JB tp L R q (nP + 1, plG g1 nP (nb tp L (p + 3)) (nb tp L (p + 5)) (nb tp L a) (nb tp L b) (nb tp L (b + 2)) a b, nA, g2, g3, M) (plB B tp L p a b) := by
  obtain ⟨⟨a1, a2, a3⟩, a4, a5, ⟨a6, a7, a8⟩, a9, a10⟩ := jb
  dsimp only at a1 a4 a5 a6 a9 a10
  have len : B.1.length = nP := a1.symm
  have e : plB B tp L p a b = (B.1 ++ [(wcL 0 (tbt tp L (p + 1)), plV tp L p a b)], B.2.1, B.2.2.1, B.2.2.2) := by
    unfold plB; rw [if_pos (by omega)]
  rw [e]
  refine ⟨⟨?_, ?_, ?_⟩, fun k hk => ?_, fun k hk => ?_, ⟨a6, a7, by rw [n2]; exact a8⟩, a9, a10⟩
  · show nP + 1 = (B.1 ++ [_]).length
    rw [List.length_append, List.length_singleton, len]
  · show (B.1 ++ [_]).length ≤ 8
    rw [List.length_append, List.length_singleton, len]; omega
  · show (B.1 ++ [_]).map Prod.fst = _
    rw [List.map_append, a3, n1]
    unfold wds
    rw [List.map_append]; rfl
  · have hk' : k < nP + 1 := by
      have : (B.1 ++ [(wcL 0 (tbt tp L (p + 1)), plV tp L p a b)]).length = nP + 1 := by rw [List.length_append, List.length_singleton, len]
      rw [← this]; exact hk
    by_cases z : k < nP
    · have po : plOf (B.1 ++ [(wcL 0 (tbt tp L (p + 1)), plV tp L p a b)], B.2.1, B.2.2.1, B.2.2.2) k = plOf B k := by
        unfold plOf
        rw [getD_snoc_lt _ _ _ (by omega)]
      rw [po]
      obtain ⟨j1, j2⟩ := a4 k (by omega)
      refine ⟨?_, j2⟩
      unfold JP at j1 ⊢
      dsimp only
      rw [plG_ne (by omega), plG_ne (by omega), plG_ne (by omega), plG_ne (by omega), plG_ne (by omega)]
      exact j1
    · have kn : k = nP := by omega
      have po : plOf (B.1 ++ [(wcL 0 (tbt tp L (p + 1)), plV tp L p a b)], B.2.1, B.2.2.1, B.2.2.2) k = plV tp L p a b := by
        unfold plOf
        rw [kn, ← len, getD_snoc_eq]
      rw [po, kn]
      refine ⟨?_, ok, rfl, rfl⟩
      obtain ⟨g0, gg1, gg2, gg3, gg4⟩ := plG_at (g1 := g1) (n := nP) (v3 := nb tp L (p + 3)) (v5 := nb tp L (p + 5)) (va := nb tp L a) (vb := nb tp L b) (vc := nb tp L (b + 2)) (a := a) (b := b) (a5 _ (by omega)) (a5 _ (by omega))
      exact ⟨g0, gg1, gg2, gg3, gg4⟩
  · have : (B.1 ++ [(wcL 0 (tbt tp L (p + 1)), plV tp L p a b)]).length = nP + 1 := by rw [List.length_append, List.length_singleton, len]
    have hk' : 5 * (nP + 1) ≤ k := by rw [← this]; exact hk
    show plG _ _ _ _ _ _ _ _ _ k = 0
    rw [plG_ne (by omega)]
    exact a5 k (by omega)
theorem bts_get {tp : Nat → Int32} : ∀ l p q, q < l → (bts tp p l).getD q 0 = tp (p + q) := by
  intro l
  induction l with
  | zero => intro p q hq; omega
  | succ l ih =>
    intro p q hq
    rw [bts_cons]
    cases q with
    | zero => rfl
    | succ q =>
      show (bts tp (p + 1) l).getD q 0 = _
      rw [ih (p + 1) q (by omega)]
      congr 1; omega
section
variable {w : hp_W} {fl e : Nat} {K1 : hp_M → Option (Int32 × hp_M)} {K2 : Int32 → hp_M → Option (Int32 × hp_M)}
variable {m t rd tn : Nat} {tp : Nat → Int32} {th ea : Int32} {L : List tokV} {h0 : hp_M} {R : Nat → Nat} {C : pcV} {h : hp_M} {i : Nat} {nP : Nat} {g1 : Nat → Int32} {nA : Nat} {g2 g3 : Nat → Int32} {M : Nat → Nat} {B : bkV}
theorem so_newA (oi : okIn tn L) (on : okNm tp L) (hR : ∀ q, R q < 100) (hn : ∀ q, R q = 2 → kdp L q = 2) (hfl : 5000 ≤ fl) (he : e < L.length) (c : PS m t rd tn tp th ea L h0 R C h i (nP, g1, nA, g2, g3, M)) (hi : i < e) (ki : kdp L i = 2) (hr : R i = 2) (hA : nA ≤ 6) {u : Nat} (hu : u = tdV tp L R 2 i) : SO w fl m e K1 K2 t rd tn tp th ea L h0 R C h i (i + 1) (erK L (0, -1) i u (decide (6 ≤ nA))) (fun D' => nA < 6 ∧ D' = (nP, g1, nA + 1, g2, g3, M)) := by
  obtain ⟨a1, a2, a3⟩ := eo_2 oi on c hR (show i < L.length by omega) ki hr (fun q _ z => hn q z) hA hfl (5 * (ix nP - 1)) (if kdp L i = 3 then nb tp L i else 0)
  rw [← hu] at a1 a2 a3
  by_cases z : unk u
  · by_cases y : nA = 6
    · rw [decide_eq_true (show 6 ≤ nA by omega), erK_full z]
      exact Or.inr ⟨4, i, h, _, by decide, rfl, by omega, c, tk_no (w := w) (K1 := K1) (K2 := K2) oi hfl c hi he (a2 z y) (by decide)⟩
    · rw [decide_eq_false (show ¬ 6 ≤ nA by omega), erK_ok z]
      obtain ⟨h1, e1, c1⟩ := a3 z (by omega)
      have s := SO.tk (w := w) (K1 := K1) (K2 := K2) oi hfl he c hi e1 c1
      rw [if_pos rfl] at s
      exact s.mono (fun D' d => ⟨by omega, d⟩)
  · rw [erK_two z]
    exact Or.inr ⟨2, i, h, _, by decide, rfl, by omega, c, tk_no (w := w) (K1 := K1) (K2 := K2) oi hfl c hi he (a1 z) (by decide)⟩
theorem so_alph (oi : okIn tn L) (on : okNm tp L) (hR : ∀ q, R q < 100) (hn : ∀ q, R q = 2 → kdp L q = 2) (hfl : 5000 ≤ fl) (he : e < L.length) {p : Nat} (c : PS m t rd tn tp th ea L h0 R C h p (nP, g1, nA, g2, g3, M)) (hnA : nA = B.2.1.length) (h6 : nA ≤ 6) (lk : lkA B tp L (p + 1) = tdV tp L R 2 (p + 1)) (k1 : kdp L (p + 1) = 2) (k2 : kdp L (p + 2) = 2) (hq : p + 4 ≤ e) (hRr : ∀ i, p ≤ i → i < p + 4 → R i = rof [(p + 1, 2), (p + 2, 3)] i) : SO w fl m e K1 K2 t rd tn tp th ea L h0 R C h p (p + 4) (alX B tp L (0, -1) p) (fun D' => nA < 6 ∧ ∃ g3', D' = (nP, g1, nA + 1, upd g2 nA (ix (tkn L (p + 2)).2.2), g3', M) ∧ (∀ q, q < 12 * nA → g3' q = g3 q) ∧ ∀ q, q < (tkn L (p + 2)).2.2 → g3' (12 * nA + q) = tp ((tkn L (p + 2)).2.1 + q)) := by
  have rv : ∀ i, rof [(p + 1, 2), (p + 2, 3)] i = if i = p + 2 then 3 else if i = p + 1 then 2 else 0 := fun i => rfl
  have r0 : R p = 0 := by rw [hRr p (by omega) (by omega), rv, if_neg (by omega), if_neg (by omega)]
  have r1 : R (p + 1) = 2 := by rw [hRr (p + 1) (by omega) (by omega), rv, if_neg (by omega), if_pos rfl]
  have r2 : R (p + 2) = 3 := by rw [hRr (p + 2) (by omega) (by omega), rv, if_pos rfl]
  have r3 : R (p + 3) = 0 := by rw [hRr (p + 3) (by omega) (by omega), rv, if_neg (by omega), if_neg (by omega)]
  have s1 : SO w fl m e K1 K2 t rd tn tp th ea L h0 R C h p (p + 2) (erK L (0, -1) (p + 1) (lkA B tp L (p + 1)) (decide (6 ≤ B.2.1.length))) (fun D' => nA < 6 ∧ D' = (nP, g1, nA + 1, g2, g3, M)) := by
    refine (SO.skip (w := w) (K1 := K1) (K2 := K2) oi hfl he c (show p ≤ p + 1 by omega) (by omega) (fun j x1 x2 => by rw [show j = p by omega]; exact r0)).seq (fun _ h1 D1 c1 d1 => ?_) (fun q => absurd rfl q)
    subst d1
    rw [← hnA]
    exact so_newA oi on hR hn hfl he c1 (by omega) k1 r1 h6 lk
  have s2 : SO w fl m e K1 K2 t rd tn tp th ea L h0 R C h p (p + 3) (alX B tp L (0, -1) p) (fun D' => nA < 6 ∧ ∃ g3', D' = (nP, g1, nA + 1, upd g2 nA (ix (tkn L (p + 2)).2.2), g3', M) ∧ (∀ q, q < 12 * nA → g3' q = g3 q) ∧ ∀ q, q < (tkn L (p + 2)).2.2 → g3' (12 * nA + q) = tp ((tkn L (p + 2)).2.1 + q)) := by
    refine s1.seq (fun e1 h1 D1 c1 d1 => ?_) (fun n => ?_)
    · obtain ⟨n6, d1⟩ := d1
      subst d1
      obtain ⟨h2, g3', e2, c2, f1, f2'⟩ := eo_3 oi on c1 (show p + 2 < L.length by omega) k2 r2 (show 1 ≤ nA + 1 ∧ nA + 1 ≤ 6 by omega) hfl (5 * (ix nP - 1)) (if kdp L (p + 2) = 3 then nb tp L (p + 2) else 0)
      rw [show nA + 1 - 1 = nA from rfl] at c2 f1 f2'
      have s := SO.tk (w := w) (K1 := K1) (K2 := K2) oi hfl he c1 (show p + 2 < e by omega) e2 c2
      unfold alX
      rw [e1]
      by_cases z : badL [] (tbt tp L (p + 2)) = true
      · rw [if_pos z]
        rw [if_pos z, if_neg (by decide)] at s
        rcases s with ⟨a, _⟩ | s
        · exact absurd (congrArg Prod.fst a) (by show ¬ (7 : Int32) = 0; decide)
        · exact Or.inr s
      · rw [if_neg z]
        rw [if_neg z, if_pos rfl] at s
        exact s.mono (fun D' d => ⟨n6, g3', d, f1, f2' (by simpa using z)⟩)
    · unfold alX
      rw [bl_err n, ite_self]
  refine s2.seq (fun e1 h1 D1 c1 d1 => ?_) (fun n => rfl)
  rw [e1]
  refine (SO.skip (w := w) (K1 := K1) (K2 := K2) oi hfl he c1 (show p + 3 ≤ p + 4 by omega) hq (fun j x1 x2 => by rw [show j = p + 3 by omega]; exact r3)).mono (fun D' d => ?_)
  rw [d]; exact d1
end
theorem jb_alph {tn : Nat} {tp : Nat → Int32} {L : List tokV} {R : Nat → Nat} {nP : Nat} {g1 : Nat → Int32} {nA : Nat} {g2 g3 g3' : Nat → Int32} {M : Nat → Nat} {B : bkV} {p q : Nat} (oi : okIn tn L) (hL : p + 2 < L.length) (k2 : kdp L (p + 2) = 2) (jb : JB tp L R p (nP, g1, nA, g2, g3, M) B) (h6 : nA < 6) (n1 : nmR R 1 0 q = nmR R 1 0 p) (n2 : nmR R 2 0 q = nmR R 2 0 p ++ [p + 1]) (f1 : ∀ q, q < 12 * nA → g3' q = g3 q) (f2 : ∀ q, q < (tkn L (p + 2)).2.2 → g3' (12 * nA + q) = tp ((tkn L (p + 2)).2.1 + q)) : JB tp L R q (nP, g1, nA + 1, upd g2 nA (ix (tkn L (p + 2)).2.2), g3', M) (alB B tp L p) := by
  obtain ⟨⟨a1, a2, a3⟩, a4, a5, ⟨a6, a7, a8⟩, a9, a10⟩ := jb
  dsimp only at a1 a4 a5 a6 a9 a10
  obtain ⟨i1, i2, i3⟩ := oi (p + 2) hL (show 2 ≤ kdp L (p + 2) by omega)
  have i4 := i3 (Or.inl k2)
  have len : B.2.1.length = nA := a6.symm
  have e : alB B tp L p = (B.1, B.2.1 ++ [(wcL 0 (tbt tp L (p + 1)), tbt tp L (p + 2))], B.2.2.1, B.2.2.2) := by
    unfold alB; rw [if_pos (by omega)]
  have tl : (tbt tp L (p + 2)).length = (tkn L (p + 2)).2.2 := by unfold tbt; rw [bts_len]
  rw [e]
  have len' : (B.2.1 ++ [(wcL 0 (tbt tp L (p + 1)), tbt tp L (p + 2))]).length = nA + 1 := by rw [List.length_append, List.length_singleton, len]
  refine ⟨⟨a1, a2, by rw [n1]; exact a3⟩, a4, a5, ⟨len'.symm, ?_, ?_⟩, fun k hk => ?_, a10⟩
  · show (B.2.1 ++ [_]).length ≤ 6
    rw [len']; omega
  · show (B.2.1 ++ [_]).map Prod.fst = _
    rw [List.map_append, a8, n2]
    unfold wds
    rw [List.map_append]; rfl
  · have hk' : k < nA + 1 := by rw [← len']; exact hk
    by_cases z : k < nA
    · have po : alV (B.2.1 ++ [(wcL 0 (tbt tp L (p + 1)), tbt tp L (p + 2))]) k = alV B.2.1 k := by
        unfold alV
        rw [getD_snoc_lt _ _ _ (by omega)]
      dsimp only
      rw [po]
      obtain ⟨⟨j1, j2⟩, j3, j4⟩ := a9 k (by omega)
      refine ⟨⟨j1, j2⟩, by rw [upd_ne _ _ (by omega)]; exact j3, fun q hq => ?_⟩
      rw [f1 _ (by omega)]
      exact j4 q hq
    · have kn : k = nA := by omega
      have po : alV (B.2.1 ++ [(wcL 0 (tbt tp L (p + 1)), tbt tp L (p + 2))]) k = tbt tp L (p + 2) := by
        unfold alV
        rw [kn, ← len, getD_snoc_eq]
      dsimp only
      rw [po, kn, tl]
      refine ⟨⟨i2, i4⟩, upd_self _ _ _, fun q hq => ?_⟩
      rw [f2 q hq]
      unfold tbt
      rw [bts_get _ _ _ hq]
