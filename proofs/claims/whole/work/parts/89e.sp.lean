/-! A planet's statement, in the Model's second pass. -/
def plG (g1 : Nat → Int32) (n : Nat) (v3 v5 va vb vc : Int32) (a b : Nat) : Nat → Int32 :=
  if b = 0 then (if a = 0 then upd (upd (upd g1 (5 * n + 4) 1) (5 * n) v3) (5 * n + 1) v5 else upd (upd (upd (upd g1 (5 * n + 4) 1) (5 * n) v3) (5 * n + 1) v5) (5 * n + 2) va)
  else upd (upd (if a = 0 then upd (upd (upd g1 (5 * n + 4) 1) (5 * n) v3) (5 * n + 1) v5 else upd (upd (upd (upd g1 (5 * n + 4) 1) (5 * n) v3) (5 * n + 1) v5) (5 * n + 2) va) (5 * n + 3) vb) (5 * n + 4) vc
theorem plG_ne {g1 : Nat → Int32} {n : Nat} {v3 v5 va vb vc : Int32} {a b k : Nat} (h : k < 5 * n ∨ 5 * n + 5 ≤ k) : plG g1 n v3 v5 va vb vc a b k = g1 k := by
  have n0 : k ≠ 5 * n := by omega
  have n1 : k ≠ 5 * n + 1 := by omega
  have n2 : k ≠ 5 * n + 2 := by omega
  have n3 : k ≠ 5 * n + 3 := by omega
  have n4 : k ≠ 5 * n + 4 := by omega
  unfold plG
  by_cases b0 : b = 0
  · rw [if_pos b0]
    by_cases a0 : a = 0
    · rw [if_pos a0, upd_ne _ _ n1, upd_ne _ _ n0, upd_ne _ _ n4]
    · rw [if_neg a0, upd_ne _ _ n2, upd_ne _ _ n1, upd_ne _ _ n0, upd_ne _ _ n4]
  · rw [if_neg b0, upd_ne _ _ n4, upd_ne _ _ n3]
    by_cases a0 : a = 0
    · rw [if_pos a0, upd_ne _ _ n1, upd_ne _ _ n0, upd_ne _ _ n4]
    · rw [if_neg a0, upd_ne _ _ n2, upd_ne _ _ n1, upd_ne _ _ n0, upd_ne _ _ n4]
theorem plG_at {g1 : Nat → Int32} {n : Nat} {v3 v5 va vb vc : Int32} {a b : Nat} (z2 : g1 (5 * n + 2) = 0) (z3 : g1 (5 * n + 3) = 0) : plG g1 n v3 v5 va vb vc a b (5 * n) = v3 ∧ plG g1 n v3 v5 va vb vc a b (5 * n + 1) = v5 ∧ plG g1 n v3 v5 va vb vc a b (5 * n + 2) = (if a = 0 then 0 else va) ∧ plG g1 n v3 v5 va vb vc a b (5 * n + 3) = (if b = 0 then 0 else vb) ∧ plG g1 n v3 v5 va vb vc a b (5 * n + 4) = (if b = 0 then 1 else vc) := by
  have ne : ∀ {u v : Nat}, u ≠ v → 5 * n + u ≠ 5 * n + v := fun q => by omega
  have ne0 : ∀ {v : Nat}, v ≠ 0 → 5 * n ≠ 5 * n + v := fun q => by omega
  have ne1 : ∀ {v : Nat}, v ≠ 0 → 5 * n + v ≠ 5 * n := fun q => by omega
  unfold plG
  by_cases b0 : b = 0
  · rw [if_pos b0, if_pos b0, if_pos b0]
    by_cases a0 : a = 0
    · rw [if_pos a0, if_pos a0]
      refine ⟨?_, ?_, ?_, ?_, ?_⟩
      · rw [upd_ne _ _ (ne0 (by decide)), upd_self]
      · rw [upd_self]
      · rw [upd_ne _ _ (ne (by decide)), upd_ne _ _ (ne1 (by decide)), upd_ne _ _ (ne (by decide)), z2]
      · rw [upd_ne _ _ (ne (by decide)), upd_ne _ _ (ne1 (by decide)), upd_ne _ _ (ne (by decide)), z3]
      · rw [upd_ne _ _ (ne (by decide)), upd_ne _ _ (ne1 (by decide)), upd_self]
    · rw [if_neg a0, if_neg a0]
      refine ⟨?_, ?_, ?_, ?_, ?_⟩
      · rw [upd_ne _ _ (ne0 (by decide)), upd_ne _ _ (ne0 (by decide)), upd_self]
      · rw [upd_ne _ _ (ne (by decide)), upd_self]
      · rw [upd_self]
      · rw [upd_ne _ _ (ne (by decide)), upd_ne _ _ (ne (by decide)), upd_ne _ _ (ne1 (by decide)), upd_ne _ _ (ne (by decide)), z3]
      · rw [upd_ne _ _ (ne (by decide)), upd_ne _ _ (ne (by decide)), upd_ne _ _ (ne1 (by decide)), upd_self]
  · rw [if_neg b0, if_neg b0, if_neg b0]
    by_cases a0 : a = 0
    · rw [if_pos a0, if_pos a0]
      refine ⟨?_, ?_, ?_, ?_, ?_⟩
      · rw [upd_ne _ _ (ne0 (by decide)), upd_ne _ _ (ne0 (by decide)), upd_ne _ _ (ne0 (by decide)), upd_self]
      · rw [upd_ne _ _ (ne (by decide)), upd_ne _ _ (ne (by decide)), upd_self]
      · rw [upd_ne _ _ (ne (by decide)), upd_ne _ _ (ne (by decide)), upd_ne _ _ (ne (by decide)), upd_ne _ _ (ne1 (by decide)), upd_ne _ _ (ne (by decide)), z2]
      · rw [upd_ne _ _ (ne (by decide)), upd_self]
      · rw [upd_self]
    · rw [if_neg a0, if_neg a0]
      refine ⟨?_, ?_, ?_, ?_, ?_⟩
      · rw [upd_ne _ _ (ne0 (by decide)), upd_ne _ _ (ne0 (by decide)), upd_ne _ _ (ne0 (by decide)), upd_ne _ _ (ne0 (by decide)), upd_self]
      · rw [upd_ne _ _ (ne (by decide)), upd_ne _ _ (ne (by decide)), upd_ne _ _ (ne (by decide)), upd_self]
      · rw [upd_ne _ _ (ne (by decide)), upd_ne _ _ (ne (by decide)), upd_self]
      · rw [upd_ne _ _ (ne (by decide)), upd_self]
      · rw [upd_self]
section
variable {w : hp_W} {fl e : Nat} {K1 : hp_M → Option (Int32 × hp_M)} {K2 : Int32 → hp_M → Option (Int32 × hp_M)}
variable {m t rd tn : Nat} {tp : Nat → Int32} {th ea : Int32} {L : List tokV} {h0 : hp_M} {R : Nat → Nat} {C : pcV} {h : hp_M} {i : Nat} {nP : Nat} {g1 : Nat → Int32} {nA : Nat} {g2 g3 : Nat → Int32} {M : Nat → Nat} {B : bkV}
theorem so_num (oi : okIn tn L) (hfl : 5000 ≤ fl) (he : e < L.length) (c : PS m t rd tn tp th ea L h0 R C h i (nP, g1, nA, g2, g3, M)) {j : Nat} (hij : i ≤ j) (hj : j < e) (sk : ∀ x, i ≤ x → x < j → R x = 0) (k3 : kdp L j = 3) {o idx : Nat} {lo hi : Int32} (hr : (R j = 8 ∧ o = 0 ∧ lo = 1 ∧ hi = 20) ∨ (R j = 9 ∧ o = 1 ∧ lo = 1 ∧ hi = 60) ∨ (R j = 10 ∧ o = 2 ∧ lo = 0 ∧ hi = 359) ∨ (R j = 11 ∧ o = 3 ∧ lo = 0 ∧ hi = 29)) (hP : 1 ≤ nP ∧ nP ≤ 8) (hx : 5 * (nP - 1) + o = idx) : SO w fl m e K1 K2 t rd tn tp th ea L h0 R C h i (j + 1) (erN tp L (0, -1) j lo hi) (fun D' => D' = (nP, upd g1 idx (nb tp L j), nA, g2, g3, M) ∧ ¬ (nb tp L j < lo ∨ ¬ nb tp L j ≤ hi)) := by
  obtain ⟨a1, a2⟩ := tk_num (w := w) (K1 := K1) (K2 := K2) oi hfl he c hij hj sk k3 hr hP
  by_cases z : nb tp L j < lo ∨ ¬ nb tp L j ≤ hi
  · obtain ⟨h', D', c', s'⟩ := a2 z
    exact Or.inr ⟨5, j, h', D', by decide, erN_bad z, by omega, c', s'⟩
  · obtain ⟨h', c', r'⟩ := a1 z
    rw [hx] at c'
    exact Or.inl ⟨erN_ok z, h', _, c', ⟨rfl, z⟩, r'⟩
theorem so_every (oi : okIn tn L) (hfl : 5000 ≤ fl) (he : e < L.length) (c : PS m t rd tn tp th ea L h0 R C h i (nP, g1, nA, g2, g3, M)) {j : Nat} (hij : i ≤ j) (hj : j < e) (sk : ∀ x, i ≤ x → x < j → R x = 0) (k3 : kdp L j = 3) (hr : R j = 12) (hP : 1 ≤ nP ∧ nP ≤ 8) {y : Int32} {idx : Nat} (hx : 5 * (nP - 1) + 4 = idx) (hy : g1 (5 * (nP - 1) + 3) = y) (hy2 : ¬ (y < 0 ∨ ¬ y ≤ 29)) : SO w fl m e K1 K2 t rd tn tp th ea L h0 R C h i (j + 1) (erN tp L (0, -1) j (y + 1) 60) (fun D' => D' = (nP, upd g1 idx (nb tp L j), nA, g2, g3, M) ∧ ¬ (nb tp L j < y + 1 ∨ ¬ nb tp L j ≤ 60)) := by
  refine (SO.skip (w := w) (K1 := K1) (K2 := K2) oi hfl he c hij (Nat.le_of_lt hj) sk).seq (fun _ h1 D1 c1 d1 => ?_) (fun q => absurd rfl q)
  subst d1
  obtain ⟨h2, e2, c2⟩ := eo_12 c1 (show j < L.length by omega) hr hP fl (nb tp L j)
  rw [hx] at c2
  have s := SO.tk (w := w) (K1 := K1) (K2 := K2) oi hfl he c1 hj (by rw [if_pos k3]; exact e2) c2
  rw [hy] at s
  have eq := every_eq (x := nb tp L j) hy2
  by_cases z : nb tp L j < y + 1 ∨ ¬ nb tp L j ≤ 60
  · rw [if_pos (eq.mp z), if_neg (by decide)] at s
    rw [erN_bad z]
    rcases s with ⟨a, _⟩ | s
    · exact absurd (congrArg Prod.fst a) (by show ¬ (5 : Int32) = 0; decide)
    · exact Or.inr s
  · rw [if_neg (fun q => z (eq.mpr q)), if_pos rfl] at s
    rw [erN_ok z]
    exact s.mono (fun D' d => ⟨d, z⟩)
/-- a new planet's name -/
theorem so_newP (oi : okIn tn L) (on : okNm tp L) (hR : ∀ q, R q < 100) (hn : ∀ q, R q = 1 → kdp L q = 2) (hfl : 5000 ≤ fl) (he : e < L.length) (c : PS m t rd tn tp th ea L h0 R C h i (nP, g1, nA, g2, g3, M)) (hi : i < e) (ki : kdp L i = 2) (hr : R i = 1) (hP : nP ≤ 8) {u : Nat} (hu : u = tdV tp L R 1 i) : SO w fl m e K1 K2 t rd tn tp th ea L h0 R C h i (i + 1) (erK L (0, -1) i u (decide (8 ≤ nP))) (fun D' => nP < 8 ∧ D' = (nP + 1, upd g1 (5 * nP + 4) 1, nA, g2, g3, M)) := by
  obtain ⟨a1, a2, a3⟩ := eo_1 oi on c hR (show i < L.length by omega) ki hr (fun q _ z => hn q z) hP hfl (5 * (ix nP - 1)) (if kdp L i = 3 then nb tp L i else 0)
  rw [← hu] at a1 a2 a3
  by_cases z : unk u
  · by_cases y : nP = 8
    · rw [decide_eq_true (show 8 ≤ nP by omega), erK_full z]
      exact Or.inr ⟨4, i, h, _, by decide, rfl, by omega, c, tk_no (w := w) (K1 := K1) (K2 := K2) oi hfl c hi he (a2 z y) (by decide)⟩
    · rw [decide_eq_false (show ¬ 8 ≤ nP by omega), erK_ok z]
      obtain ⟨h1, e1, c1⟩ := a3 z (by omega)
      have s := SO.tk (w := w) (K1 := K1) (K2 := K2) oi hfl he c hi e1 c1
      rw [if_pos rfl] at s
      exact s.mono (fun D' d => ⟨by omega, d⟩)
  · rw [erK_two z]
    exact Or.inr ⟨2, i, h, _, by decide, rfl, by omega, c, tk_no (w := w) (K1 := K1) (K2 := K2) oi hfl c hi he (a1 z) (by decide)⟩
theorem so_planet (oi : okIn tn L) (on : okNm tp L) (hR : ∀ q, R q < 100) (hn : ∀ q, R q = 1 → kdp L q = 2) (hfl : 5000 ≤ fl) (he : e < L.length) {p a b q q0 : Nat} (c : PS m t rd tn tp th ea L h0 R C h p (nP, g1, nA, g2, g3, M)) (hnP : nP = B.1.length) (h8 : nP ≤ 8) (lk : lkP B tp L (p + 1) = tdV tp L R 1 (p + 1)) (k1 : kdp L (p + 1) = 2) (k3 : kdp L (p + 3) = 3) (k5 : kdp L (p + 5) = 3) (ha : (a = 0 ∧ q0 = p + 6) ∨ (a = p + 7 ∧ kdp L (p + 7) = 3 ∧ q0 = p + 8)) (hb : (b = 0 ∧ q = q0 + 1) ∨ (b = q0 + 1 ∧ kdp L (q0 + 1) = 3 ∧ kdp L (q0 + 3) = 3 ∧ q = q0 + 5)) (hq : q ≤ e) (hRr : ∀ i, p ≤ i → i < q → R i = rof (plR p a b) i) : SO w fl m e K1 K2 t rd tn tp th ea L h0 R C h p q (plX B tp L (0, -1) p a b) (fun D' => nP < 8 ∧ D' = (nP + 1, plG g1 nP (nb tp L (p + 3)) (nb tp L (p + 5)) (nb tp L a) (nb tp L b) (nb tp L (b + 2)) a b, nA, g2, g3, M) ∧ ¬ (nb tp L (p + 3) < 1 ∨ ¬ nb tp L (p + 3) ≤ 20) ∧ ¬ (nb tp L (p + 5) < 1 ∨ ¬ nb tp L (p + 5) ≤ 60) ∧ (a ≠ 0 → ¬ (nb tp L a < 0 ∨ ¬ nb tp L a ≤ 359)) ∧ (b ≠ 0 → ¬ (nb tp L b < 0 ∨ ¬ nb tp L b ≤ 29) ∧ ¬ (nb tp L (b + 2) < nb tp L b + 1 ∨ ¬ nb tp L (b + 2) ≤ 60))) := by
  have ac := plR_asc (p := p) (a := a) (b := b) (q0 := q0) (q := q) (by omega) (by omega)
  have no : ∀ i, p ≤ i → i < q → i ≠ p + 1 → i ≠ p + 3 → i ≠ p + 5 → (a = 0 ∨ i ≠ a) → (b = 0 ∨ (i ≠ b ∧ i ≠ b + 2)) → R i = 0 := fun i x1 x2 x3 x4 x5 x6 x7 => by rw [hRr i x1 x2]; exact plR_no x3 x4 x5 x6 x7
  have r1 : R (p + 1) = 1 := by rw [hRr _ (by omega) (by omega)]; exact rof_in _ ac _ (plR_1 p a b).1
  have r3 : R (p + 3) = 8 := by rw [hRr _ (by omega) (by omega)]; exact rof_in _ ac _ (plR_1 p a b).2.1
  have r5 : R (p + 5) = 9 := by rw [hRr _ (by omega) (by omega)]; exact rof_in _ ac _ (plR_1 p a b).2.2
  have ra : a ≠ 0 → R a = 10 := fun n => by rw [hRr _ (by omega) (by omega)]; exact rof_in _ ac _ (plR_a n)
  have rb : b ≠ 0 → R b = 11 := fun n => by rw [hRr _ (by omega) (by omega)]; exact rof_in _ ac _ (plR_b n).1
  have rc : b ≠ 0 → R (b + 2) = 12 := fun n => by rw [hRr _ (by omega) (by omega)]; exact rof_in _ ac _ (plR_b n).2
  -- the name
  have s1 : SO w fl m e K1 K2 t rd tn tp th ea L h0 R C h p (p + 2) (erK L (0, -1) (p + 1) (lkP B tp L (p + 1)) (decide (8 ≤ B.1.length))) (fun D' => nP < 8 ∧ D' = (nP + 1, upd g1 (5 * nP + 4) 1, nA, g2, g3, M)) := by
    refine (SO.skip (w := w) (K1 := K1) (K2 := K2) oi hfl he c (show p ≤ p + 1 by omega) (by omega) (fun j x1 x2 => no j x1 (by omega) (by omega) (by omega) (by omega) (by omega) (by omega))).seq (fun _ h1 D1 c1 d1 => ?_) (fun q => absurd rfl q)
    subst d1
    rw [← hnP]
    exact so_newP oi on hR hn hfl he c1 (by omega) k1 r1 h8 lk
  -- rail and speed
  have s2 : SO w fl m e K1 K2 t rd tn tp th ea L h0 R C h p (p + 6) (plX1 B tp L (0, -1) p) (fun D' => nP < 8 ∧ D' = (nP + 1, upd (upd (upd g1 (5 * nP + 4) 1) (5 * nP) (nb tp L (p + 3))) (5 * nP + 1) (nb tp L (p + 5)), nA, g2, g3, M) ∧ ¬ (nb tp L (p + 3) < 1 ∨ ¬ nb tp L (p + 3) ≤ 20) ∧ ¬ (nb tp L (p + 5) < 1 ∨ ¬ nb tp L (p + 5) ≤ 60)) := by
    unfold plX1
    refine SO.seq (x := erN tp L (erK L (0, -1) (p + 1) (lkP B tp L (p + 1)) (decide (8 ≤ B.1.length))) (p + 3) 1 20) (q := p + 4) (P := fun D' => nP < 8 ∧ D' = (nP + 1, upd (upd g1 (5 * nP + 4) 1) (5 * nP) (nb tp L (p + 3)), nA, g2, g3, M) ∧ ¬ (nb tp L (p + 3) < 1 ∨ ¬ nb tp L (p + 3) ≤ 20)) ?_ (fun e3 h3 D3 c3 d3 => ?_) (fun n => erN_err n _ _ _)
    · refine s1.seq (fun e1 h1 D1 c1 d1 => ?_) (fun n => erN_err n _ _ _)
      obtain ⟨n8, d1⟩ := d1
      subst d1
      rw [e1]
      exact (so_num (w := w) (K1 := K1) (K2 := K2) oi hfl he c1 (j := p + 3) (by omega) (by omega) (fun j x1 x2 => no j (by omega) (by omega) (by omega) (by omega) (by omega) (by omega) (by omega)) k3 (Or.inl ⟨r3, rfl, rfl, rfl⟩) (by omega) (idx := 5 * nP) (by omega)).mono (fun D' d => ⟨n8, d.1, d.2⟩)
    · obtain ⟨n8, d3, b3⟩ := d3
      subst d3
      rw [e3]
      exact (so_num (w := w) (K1 := K1) (K2 := K2) oi hfl he c3 (j := p + 5) (by omega) (by omega) (fun j x1 x2 => no j (by omega) (by omega) (by omega) (by omega) (by omega) (by omega) (by omega)) k5 (Or.inr (Or.inl ⟨r5, rfl, rfl, rfl⟩)) (by omega) (idx := 5 * nP + 1) (by omega)).mono (fun D' d => ⟨n8, d.1, b3, d.2⟩)
  -- from
  have s3 : SO w fl m e K1 K2 t rd tn tp th ea L h0 R C h p q0 (if a = 0 then plX1 B tp L (0, -1) p else erN tp L (plX1 B tp L (0, -1) p) a 0 359) (fun D' => nP < 8 ∧ D' = (nP + 1, (if a = 0 then upd (upd (upd g1 (5 * nP + 4) 1) (5 * nP) (nb tp L (p + 3))) (5 * nP + 1) (nb tp L (p + 5)) else upd (upd (upd (upd g1 (5 * nP + 4) 1) (5 * nP) (nb tp L (p + 3))) (5 * nP + 1) (nb tp L (p + 5))) (5 * nP + 2) (nb tp L a)), nA, g2, g3, M) ∧ ¬ (nb tp L (p + 3) < 1 ∨ ¬ nb tp L (p + 3) ≤ 20) ∧ ¬ (nb tp L (p + 5) < 1 ∨ ¬ nb tp L (p + 5) ≤ 60) ∧ (a ≠ 0 → ¬ (nb tp L a < 0 ∨ ¬ nb tp L a ≤ 359))) := by
    rcases ha with ⟨a0, q6⟩ | ⟨a7, k7, q8⟩
    · rw [if_pos a0, q6]
      refine s2.mono (fun D' d => ?_)
      rw [if_pos a0]
      exact ⟨d.1, d.2.1, d.2.2.1, d.2.2.2, fun n => absurd a0 n⟩
    · have a0 : a ≠ 0 := by omega
      rw [if_neg a0]
      refine s2.seq (fun e3 h3 D3 c3 d3 => ?_) (fun n => erN_err n _ _ _)
      obtain ⟨n8, d3, b3, b5⟩ := d3
      subst d3
      rw [e3, show q0 = a + 1 by omega]
      refine (so_num (w := w) (K1 := K1) (K2 := K2) oi hfl he c3 (j := a) (by omega) (by omega) (fun j x1 x2 => no j (by omega) (by omega) (by omega) (by omega) (by omega) (by omega) (by omega)) (by rw [a7]; exact k7) (Or.inr (Or.inr (Or.inl ⟨ra a0, rfl, rfl, rfl⟩))) (by omega) (idx := 5 * nP + 2) (by omega)).mono (fun D' d => ?_)
      rw [if_neg a0]
      exact ⟨n8, d.1, b3, b5, fun _ => d.2⟩
  -- retro and every
  unfold plX
  rcases hb with ⟨b0, hq1⟩ | ⟨b1, kb, kc, hq5⟩
  · have x2 : ∀ x, plX2 tp L x b = x := fun x => by unfold plX2; rw [if_pos b0]
    rw [x2]
    refine s3.seq (fun e3 h3 D3 c3 d3 => ?_) (fun n => rfl)
    rw [e3]
    refine (SO.skip (w := w) (K1 := K1) (K2 := K2) oi hfl he c3 (show q0 ≤ q by omega) hq (fun j x1 x2 => no j (by omega) (by omega) (by omega) (by omega) (by omega) (by omega) (by omega))).mono (fun D' d => ?_)
    rw [d]
    refine ⟨d3.1, ?_, d3.2.2.1, d3.2.2.2.1, d3.2.2.2.2, fun n => absurd b0 n⟩
    rw [d3.2.1]
    unfold plG
    rw [if_pos b0]
  · have b0 : b ≠ 0 := by omega
    have x2 : ∀ x, plX2 tp L x b = erN tp L (erN tp L x b 0 29) (b + 2) (nb tp L b + 1) 60 := fun x => by unfold plX2; rw [if_neg b0]
    rw [x2]
    generalize hg : (if a = 0 then upd (upd (upd g1 (5 * nP + 4) 1) (5 * nP) (nb tp L (p + 3))) (5 * nP + 1) (nb tp L (p + 5)) else upd (upd (upd (upd g1 (5 * nP + 4) 1) (5 * nP) (nb tp L (p + 3))) (5 * nP + 1) (nb tp L (p + 5))) (5 * nP + 2) (nb tp L a)) = G at s3
    have s4 : SO w fl m e K1 K2 t rd tn tp th ea L h0 R C h p (b + 1) (erN tp L (if a = 0 then plX1 B tp L (0, -1) p else erN tp L (plX1 B tp L (0, -1) p) a 0 359) b 0 29) (fun D' => nP < 8 ∧ D' = (nP + 1, upd G (5 * nP + 3) (nb tp L b), nA, g2, g3, M) ∧ ¬ (nb tp L (p + 3) < 1 ∨ ¬ nb tp L (p + 3) ≤ 20) ∧ ¬ (nb tp L (p + 5) < 1 ∨ ¬ nb tp L (p + 5) ≤ 60) ∧ (a ≠ 0 → ¬ (nb tp L a < 0 ∨ ¬ nb tp L a ≤ 359)) ∧ ¬ (nb tp L b < 0 ∨ ¬ nb tp L b ≤ 29)) := by
      refine s3.seq (fun e3 h3 D3 c3 d3 => ?_) (fun n => erN_err n _ _ _)
      obtain ⟨n8, d3, b3, b5, ba⟩ := d3
      subst d3
      rw [e3]
      exact (so_num (w := w) (K1 := K1) (K2 := K2) oi hfl he c3 (j := b) (by omega) (by omega) (fun j x1 x2 => no j (by omega) (by omega) (by omega) (by omega) (by omega) (by omega) (by omega)) (by rw [b1]; exact kb) (Or.inr (Or.inr (Or.inr ⟨rb b0, rfl, rfl, rfl⟩))) (by omega) (idx := 5 * nP + 3) (by omega)).mono (fun D' d => ⟨n8, d.1, b3, b5, ba, d.2⟩)
    have s5 : SO w fl m e K1 K2 t rd tn tp th ea L h0 R C h p (b + 3) (erN tp L (erN tp L (if a = 0 then plX1 B tp L (0, -1) p else erN tp L (plX1 B tp L (0, -1) p) a 0 359) b 0 29) (b + 2) (nb tp L b + 1) 60) (fun D' => nP < 8 ∧ D' = (nP + 1, upd (upd G (5 * nP + 3) (nb tp L b)) (5 * nP + 4) (nb tp L (b + 2)), nA, g2, g3, M) ∧ ¬ (nb tp L (p + 3) < 1 ∨ ¬ nb tp L (p + 3) ≤ 20) ∧ ¬ (nb tp L (p + 5) < 1 ∨ ¬ nb tp L (p + 5) ≤ 60) ∧ (a ≠ 0 → ¬ (nb tp L a < 0 ∨ ¬ nb tp L a ≤ 359)) ∧ ¬ (nb tp L b < 0 ∨ ¬ nb tp L b ≤ 29) ∧ ¬ (nb tp L (b + 2) < nb tp L b + 1 ∨ ¬ nb tp L (b + 2) ≤ 60)) := by
      refine s4.seq (fun e3 h3 D3 c3 d3 => ?_) (fun n => erN_err n _ _ _)
      obtain ⟨n8, d3, b3, b5, ba, bb⟩ := d3
      subst d3
      rw [e3]
      exact (so_every (w := w) (K1 := K1) (K2 := K2) oi hfl he c3 (j := b + 2) (by omega) (by omega) (fun j x1 x2 => no j (by omega) (by omega) (by omega) (by omega) (by omega) (by omega) (by omega)) (by rw [b1]; exact kc) (rc b0) (by omega) (y := nb tp L b) (idx := 5 * nP + 4) (by omega) (by rw [show 5 * (nP + 1 - 1) + 3 = 5 * nP + 3 by omega, upd_self]) bb).mono (fun D' d => ⟨n8, d.1, b3, b5, ba, bb, d.2⟩)
    refine s5.seq (fun e3 h3 D3 c3 d3 => ?_) (fun n => rfl)
    rw [e3]
    refine (SO.skip (w := w) (K1 := K1) (K2 := K2) oi hfl he c3 (show b + 3 ≤ q by omega) hq (fun j x1 x2 => no j (by omega) (by omega) (by omega) (by omega) (by omega) (by omega) (by omega))).mono (fun D' d => ?_)
    rw [d]
    refine ⟨d3.1, ?_, d3.2.2.1, d3.2.2.2.1, d3.2.2.2.2.1, fun _ => d3.2.2.2.2.2⟩
    rw [d3.2.1]
    unfold plG
    rw [if_neg b0, hg]
end
