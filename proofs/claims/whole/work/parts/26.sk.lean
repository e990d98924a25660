/-! The sky of the class: readers. -/
def okp (p : Nat → Int32) : Prop := (1 ≤ (p 1).toInt ∧ (p 1).toInt ≤ 60) ∧ (0 ≤ (p 2).toInt ∧ (p 2).toInt < (p 3).toInt ∧ (p 3).toInt ≤ 60) ∧ (0 ≤ (p 4).toInt ∧ (p 4).toInt < 360) ∧ (0 ≤ (p 5).toInt ∧ (p 5).toInt < 360)
theorem okp.ev {p : Nat → Int32} (h : okp p) : 0 < (p 3).toInt := by have := h.2.1; omega
def okY (n : Nat) (P : Nat → Nat → Int32) : Prop := ∀ i, i < n → okp (P i)
def is_Sk (h : hp_M) (a n : Nat) (P : Nat → Nat → Int32) (wt : Nat → Int32) (pn : Nat) (pp : Nat → Int32) (d : Int32) : Prop :=
  a + 13 ≤ h.2 ∧ n ≤ 8 ∧ h.1 a = some (oC 7 [.ref (a + 1), .int (ix n), .ref (a + 2), .ref (a + 3), .int d]) ∧
  (∃ g, h.1 (a + 1) = some (aR 3 8 g) ∧ ∀ i, i < 8 → g i = some (a + 5 + i)) ∧ (∃ g, h.1 (a + 2) = some (aI 12 g) ∧ ∀ i, i < 12 → g i = wt i) ∧
  is_Pp h (a + 3) pn pp ∧ ∀ i, i < 8 → ∃ p, h.1 (a + 5 + i) = some (oC 3 (pfs p)) ∧ (i < n → p = P i)
section
variable {h : hp_M} {a n : Nat} {P : Nat → Nat → Int32} {wt : Nat → Int32} {pn : Nat} {pp : Nat → Int32} {d : Int32}
theorem is_Sk.keep {h' : hp_M} {lo hi : Nat} (t : is_Sk h a n P wt pn pp d) (r : fr lo hi h h') (ho : a + 13 ≤ lo ∨ hi ≤ a) : is_Sk h' a n P wt pn pp d := by
  obtain ⟨h1, h2, h3, ⟨g, h4, h5⟩, ⟨g2, h6, h7⟩, h8, h9⟩ := t
  refine ⟨Nat.le_trans h1 r.1, h2, r.cell h3 (by omega) (by omega), ⟨g, r.cell h4 (by omega) (by omega), h5⟩, ⟨g2, r.cell h6 (by omega) (by omega), h7⟩, h8.keep r (by omega), fun i hi => ?_⟩
  obtain ⟨p, hp, hq⟩ := h9 i hi
  exact ⟨p, r.cell hp (by omega) (by omega), hq⟩
theorem is_Sk.on {β : Type} (t : is_Sk h a n P wt pn pp d) (g : Option β) : onO h a 7 g = g := onO_of t.2.2.1
theorem is_Sk.paper (t : is_Sk h a n P wt pn pp d) : is_Pp h (a + 3) pn pp := t.2.2.2.2.2.1
theorem is_Sk.n8 (t : is_Sk h a n P wt pn pp d) : n ≤ 8 := t.2.1
theorem is_Sk.pn600 (t : is_Sk h a n P wt pn pp d) : pn ≤ 600 := t.paper.2.1
theorem is_Sk.pl (t : is_Sk h a n P wt pn pp d) {i : Nat} (hi : i < n) : h.1 (a + 5 + i) = some (oC 3 (pfs (P i))) := by
  obtain ⟨p, hp, hq⟩ := t.2.2.2.2.2.2 i (by have := t.n8; omega)
  rw [hp, hq hi]
theorem is_Sk.rR0 (t : is_Sk h a n P wt pn pp d) : gR h a 7 0 = some (a + 1) := gR_of t.2.2.1 rfl
theorem is_Sk.rI1 (t : is_Sk h a n P wt pn pp d) : gI h a 7 1 = some (ix n) := gI_of t.2.2.1 rfl
theorem is_Sk.rR2 (t : is_Sk h a n P wt pn pp d) : gR h a 7 2 = some (a + 2) := gR_of t.2.2.1 rfl
theorem is_Sk.rR3 (t : is_Sk h a n P wt pn pp d) : gR h a 7 3 = some (a + 3) := gR_of t.2.2.1 rfl
theorem is_Sk.rI4 (t : is_Sk h a n P wt pn pp d) : gI h a 7 4 = some d := gI_of t.2.2.1 rfl
theorem is_Sk.ga (t : is_Sk h a n P wt pn pp d) {i : Nat} (hi : i < 8) : gaR h 3 (a + 1) (ix i) = some (a + 5 + i) := by
  obtain ⟨g, h4, h5⟩ := t.2.2.2.1
  rw [gaR_of h4 hi (by omega), h5 i hi]
theorem is_Sk.gw (t : is_Sk h a n P wt pn pp d) {i : Nat} (hi : i < 12) : gaI h (a + 2) (ix i) = some (wt i) := by
  obtain ⟨g, h4, h5⟩ := t.2.2.2.2.1
  rw [gaI_of h4 hi (by omega), h5 i hi]
theorem is_Sk.day (t : is_Sk h a n P wt pn pp d) : f_Sk_day a h = some d := by unfold f_Sk_day; rw [t.rI4]; rfl
theorem is_Sk.fpaper (t : is_Sk h a n P wt pn pp d) : f_Sk_paper a h = some (a + 3) := by unfold f_Sk_paper; rw [t.rR3]; rfl
theorem is_Sk.planets (t : is_Sk h a n P wt pn pp d) : f_Sk_planets a h = some (ix n) := by unfold f_Sk_planets; rw [t.rI1]; rfl
theorem is_Sk.has (t : is_Sk h a n P wt pn pp d) {i : Nat} (hi : i < n) : f_Sk_hasPlanet a (ix i) h = some 1 := by
  have := t.n8
  unfold f_Sk_hasPlanet jn
  dsimp only
  rw [if_neg (ix_nn (by omega)), t.rI1]
  simp only [Option.bind_some]
  rw [if_neg (ix_nle (by omega) (by omega))]
theorem is_Sk.hasNot (t : is_Sk h a n P wt pn pp d) {x : Int32} (hx : ¬ ∃ i, i < n ∧ x = ix i) : f_Sk_hasPlanet a x h = some 0 := by
  have := t.n8
  unfold f_Sk_hasPlanet jn
  dsimp only
  by_cases h0 : x < 0
  · rw [if_pos h0]
  · rw [if_neg h0, t.rI1]
    simp only [Option.bind_some]
    obtain ⟨i, hi, rfl⟩ := ix_of (x := x) (by rw [i32_lt] at h0; rw [i32_le]; omega)
    rw [if_pos (ix_le1 (Nat.le_of_not_lt fun q => hx ⟨i, q, rfl⟩) hi)]
theorem is_Sk.angleOf (t : is_Sk h a n P wt pn pp d) {i : Nat} (hi : i < n) : f_Sk_angleOf a (ix i) h = some (P i 4) := by
  have := t.n8
  unfold f_Sk_angleOf
  rw [t.on, t.has hi]
  simp only [Option.bind_some]
  rw [if_neg (by decide), t.rR0]
  simp only [Option.bind_some]
  rw [t.ga (by omega)]
  simp only [Option.bind_some]
  rw [onO_of (t.pl hi), f_Pl_angle_of (t.pl hi)]
  rfl
theorem is_Sk.lapOf (t : is_Sk h a n P wt pn pp d) {i : Nat} (hi : i < n) : f_Sk_lapOf a (ix i) h = some (P i 6) := by
  have := t.n8
  unfold f_Sk_lapOf
  rw [t.on, t.has hi]
  simp only [Option.bind_some]
  rw [if_neg (by decide), t.rR0]
  simp only [Option.bind_some]
  rw [t.ga (by omega)]
  simp only [Option.bind_some]
  rw [onO_of (t.pl hi), f_Pl_lap_of (t.pl hi)]
  rfl
theorem is_Sk.factOf (t : is_Sk h a n P wt pn pp d) (ok : okY n P) {i k : Nat} (hi : i < n) (hk : k < 7) : f_Sk_factOf a (ix i) (ix k) h = some (fact (P i) d k) := by
  have := t.n8
  unfold f_Sk_factOf
  rw [t.on, t.has hi]
  simp only [Option.bind_some]
  rw [if_neg (by decide), t.rR0]
  simp only [Option.bind_some]
  rw [t.ga (by omega)]
  simp only [Option.bind_some]
  rw [t.rI4]
  simp only [Option.bind_some]
  rw [onO_of (t.pl hi), f_Pl_fact_of (t.pl hi) (ok i hi).ev d hk]
  rfl
theorem rv_01 (p : Nat → Int32) (d : Int32) : rv p d = 0 ∨ rv p d = 1 := by unfold rv; split <;> simp
theorem is_Sk.isRetro (t : is_Sk h a n P wt pn pp d) (ok : okY n P) {i : Nat} (hi : i < n) : f_Sk_isRetro a (ix i) h = some (rv (P i) d) := by
  have := t.n8
  unfold f_Sk_isRetro jn
  dsimp only
  rw [t.on, t.has hi]
  simp only [Option.bind_some]
  rw [if_neg (by decide), t.rR0]
  simp only [Option.bind_some]
  rw [t.ga (by omega)]
  simp only [Option.bind_some]
  rw [t.rI4]
  simp only [Option.bind_some]
  rw [onO_of (t.pl hi), f_Pl_isRetro_of (t.pl hi) (ok i hi).ev]
  simp only [Option.bind_some]
  rcases rv_01 (P i) d with r | r <;> rw [r] <;> decide
theorem is_Sk.gapOf (t : is_Sk h a n P wt pn pp d) {i j : Nat} (hi : i < n) (hj : j < n) : f_Sk_gapOf a (ix i) (ix j) h = some (sht (P i 4 - P j 4)) := by
  have := t.n8
  unfold f_Sk_gapOf jn
  dsimp only
  rw [t.on, t.has hi, t.on, t.has hj]
  simp only [Option.bind_some]
  rw [if_neg (by decide), if_neg (by decide), t.rR0]
  simp only [Option.bind_some]
  rw [t.ga (by omega), t.ga (by omega)]
  simp only [Option.bind_some]
  rw [onO_of (t.pl hi), f_Pl_angle_of (t.pl hi), onO_of (t.pl hj), f_Pl_angle_of (t.pl hj)]
  simp only [Option.bind_some]
  rw [f_Pl_shortest_of]
  rfl
def met (now bef : Int32) : Int32 := if now = 0 then 1 else if ((bef < 0 ∧ 0 < now) ∨ (0 < bef ∧ now < 0)) ∧ iabs bef + iabs now < 180 then 1 else 0
def meetV (p q : Nat → Int32) (f : Int32) : Int32 := met (sht (p 4 - q 4 - f)) (sht (p 5 - q 5 - f))
theorem is_Sk.areMet (t : is_Sk h a n P wt pn pp d) {i j : Nat} (hi : i < n) (hj : j < n) (x : Int32) : f_Sk_areMet a (ix i) (ix j) x h = some (meetV (P i) (P j) (if x = 0 then 0 else 180)) := by
  have := t.n8
  unfold f_Sk_areMet jn
  dsimp only
  rw [t.on, t.has hi, t.on, t.has hj]
  simp only [Option.bind_some]
  rw [if_neg (by decide), if_neg (by decide), t.rR0]
  simp only [Option.bind_some]
  rw [t.ga (by omega), t.ga (by omega)]
  simp only [Option.bind_some]
  rw [onO_of (t.pl hi), f_Pl_angle_of (t.pl hi), onO_of (t.pl hj), f_Pl_angle_of (t.pl hj), onO_of (t.pl hi), f_Pl_angleBefore_of (t.pl hi), onO_of (t.pl hj), f_Pl_angleBefore_of (t.pl hj)]
  simp only [Option.bind_some, f_Pl_shortest_of]
  have key : ∀ now bef : Int32, (if now = 0 then some 1 else if 0 ≤ bef then (if bef ≤ 0 then (if (0 : Int32) = 0 then some 0 else if 180 ≤ iabs bef + iabs now then some 0 else some 1) else if 0 ≤ now then (if (0 : Int32) = 0 then some 0 else if 180 ≤ iabs bef + iabs now then some 0 else some 1) else (if (1 : Int32) = 0 then some 0 else if 180 ≤ iabs bef + iabs now then some 0 else some 1)) else if 0 < now then (if (1 : Int32) = 0 then some 0 else if 180 ≤ iabs bef + iabs now then some 0 else some 1) else (if bef ≤ 0 then (if (0 : Int32) = 0 then some 0 else if 180 ≤ iabs bef + iabs now then some 0 else some 1) else if 0 ≤ now then (if (0 : Int32) = 0 then some 0 else if 180 ≤ iabs bef + iabs now then some 0 else some 1) else (if (1 : Int32) = 0 then some 0 else if 180 ≤ iabs bef + iabs now then some 0 else some 1))) = some (met now bef) := by
    intro now bef
    unfold met
    have e0 : ¬ ((1 : Int32) = 0) := by decide
    simp only [i32_lt, i32_le, e0, if_true, if_false]
    (repeat' split) <;> first | rfl | (exfalso; omega)
  by_cases hx : x = 0
  · simp only [hx, if_true]
    exact key _ _
  · simp only [hx, if_false]
    exact key _ _
end
section
variable {h : hp_M} {a n : Nat} {P : Nat → Nat → Int32} {wt : Nat → Int32} {pn : Nat} {pp : Nat → Int32} {d : Int32}
theorem is_Sk.isInside (t : is_Sk h a n P wt pn pp d) {i j : Nat} (hi : i < n) (hj : j < n) : f_Sk_isInside a (ix i) (ix j) h = some (if P j 0 < P i 0 then 0 else 1) := by
  have := t.n8
  unfold f_Sk_isInside jn
  dsimp only
  rw [t.on, t.has hi, t.on, t.has hj]
  simp only [Option.bind_some]
  rw [if_neg (by decide), if_neg (by decide), t.rR0]
  simp only [Option.bind_some]
  rw [t.ga (by omega), t.ga (by omega)]
  simp only [Option.bind_some]
  rw [onO_of (t.pl hi), f_Pl_rail_of (t.pl hi), onO_of (t.pl hj), f_Pl_rail_of (t.pl hj)]
  simp only [Option.bind_some]
  split <;> rfl
theorem is_Sk.writtenBy (t : is_Sk h a n P wt pn pp d) {i : Nat} (hi : i < 12) : f_Sk_writtenBy a (ix i) h = some (wt i) := by
  unfold f_Sk_writtenBy jn
  dsimp only
  rw [if_neg (ix_nn (by omega)), show (12 : Int32) = ix 12 from rfl, if_neg (ix_nle (by omega) (by omega)), t.rR2]
  simp only [Option.bind_some]
  rw [t.gw hi]
  rfl
/-- sums over planets -/
def sumV (f : Nat → Int32) : Nat → Int32
  | 0 => 0
  | n + 1 => sumV f n + f n
theorem is_Sk.retros_b (t : is_Sk h a n P wt pn pp d) (ok : okY n P) (fl : Nat) : ∀ r fu i, i + r = n → r < fu → f_Sk_retros_b4 fl a h fu (sumV (fun i => rv (P i) d) i) (ix i) = some (sumV (fun i => rv (P i) d) n) := by
  have h8 := t.n8
  intro r
  induction r with
  | zero =>
    intro fu i hi hf
    obtain ⟨fu, rfl⟩ : ∃ q, fu = q + 1 := ⟨fu - 1, by omega⟩
    have : i = n := by omega
    subst this
    unfold f_Sk_retros_b4
    rw [t.rI1]
    simp only [Option.bind_some]
    rw [if_pos (ix_le1 (Nat.le_refl _) (by omega))]
  | succ r ih =>
    intro fu i hi hf
    obtain ⟨fu, rfl⟩ : ∃ q, fu = q + 1 := ⟨fu - 1, by omega⟩
    have ih' := ih fu (i + 1) (by omega) (by omega)
    unfold f_Sk_retros_b4 jn
    rw [t.rI1]
    simp only [Option.bind_some]
    rw [if_neg (ix_nle (by omega) (by omega)), t.on, t.isRetro ok (by omega), ix_add1]
    simp only [Option.bind_some]
    simp only [sumV] at ih'
    rcases rv_01 (P i) d with q | q
    · rw [if_pos q]
      rw [q] at ih'
      exact ih'
    · rw [if_neg (by rw [q]; decide)]
      rw [q] at ih'
      exact ih'
theorem is_Sk.retros (t : is_Sk h a n P wt pn pp d) (ok : okY n P) {fl : Nat} (hfl : 5000 ≤ fl) : f_Sk_retros fl a h = some (sumV (fun i => rv (P i) d) n) := by
  have h8 := t.n8
  unfold f_Sk_retros
  exact t.retros_b ok fl n fl 0 (by omega) (by omega)
theorem is_Sk.laps_b (t : is_Sk h a n P wt pn pp d) (fl : Nat) : ∀ r fu i, i + r = n → r < fu → f_Sk_laps_b4 fl a h fu (sumV (fun i => P i 6) i) (ix i) = some (sumV (fun i => P i 6) n) := by
  have h8 := t.n8
  intro r
  induction r with
  | zero =>
    intro fu i hi hf
    obtain ⟨fu, rfl⟩ : ∃ q, fu = q + 1 := ⟨fu - 1, by omega⟩
    have : i = n := by omega
    subst this
    unfold f_Sk_laps_b4
    rw [t.rI1]
    simp only [Option.bind_some]
    rw [if_pos (ix_le1 (Nat.le_refl _) (by omega))]
  | succ r ih =>
    intro fu i hi hf
    obtain ⟨fu, rfl⟩ : ∃ q, fu = q + 1 := ⟨fu - 1, by omega⟩
    have ih' := ih fu (i + 1) (by omega) (by omega)
    unfold f_Sk_laps_b4
    rw [t.rI1]
    simp only [Option.bind_some]
    rw [if_neg (ix_nle (by omega) (by omega)), t.rR0]
    simp only [Option.bind_some]
    rw [t.ga (by omega)]
    simp only [Option.bind_some]
    rw [onO_of (t.pl (by omega)), f_Pl_lap_of (t.pl (by omega)), ix_add1]
    exact ih'
theorem is_Sk.laps (t : is_Sk h a n P wt pn pp d) {fl : Nat} (hfl : 5000 ≤ fl) : f_Sk_laps fl a h = some (sumV (fun i => P i 6) n) := by
  have h8 := t.n8
  unfold f_Sk_laps
  exact t.laps_b fl n fl 0 (by omega) (by omega)
theorem met_01 (x y : Int32) : met x y = 0 ∨ met x y = 1 := by
  unfold met
  split
  · exact Or.inr rfl
  · split
    · exact Or.inr rfl
    · exact Or.inl rfl
/-- the sum of a row of pairs, from the second planet j on (r of them) -/
def rowV (P : Nat → Nat → Int32) (i : Nat) : Nat → Nat → Int32 → Int32
  | 0, _, s => s
  | r + 1, j, s => rowV P i r (j + 1) (s + meetV (P i) (P j) 0)
def prsV (P : Nat → Nat → Int32) (n : Nat) : Nat → Nat → Int32 → Int32
  | 0, _, s => s
  | r + 1, i, s => prsV P n r (i + 1) (rowV P i (n - (i + 1)) (i + 1) s)
theorem is_Sk.transits_b16 (t : is_Sk h a n P wt pn pp d) (fl i : Nat) (hi : i < n) (k : Int32 → Option Int32) : ∀ r fu j s, j + r = n → r < fu → f_Sk_transits_b16 fl a (ix i) h k fu s (ix j) = k (rowV P i r j s) := by
  have h8 := t.n8
  intro r
  induction r with
  | zero =>
    intro fu j s hj hf
    obtain ⟨fu, rfl⟩ : ∃ q, fu = q + 1 := ⟨fu - 1, by omega⟩
    have : j = n := by omega
    subst this
    unfold f_Sk_transits_b16
    rw [t.rI1]
    simp only [Option.bind_some]
    rw [if_pos (ix_le1 (Nat.le_refl _) (by omega))]
    rfl
  | succ r ih =>
    intro fu j s hj hf
    obtain ⟨fu, rfl⟩ : ∃ q, fu = q + 1 := ⟨fu - 1, by omega⟩
    have ih' := ih fu (j + 1) (s + meetV (P i) (P j) 0) (by omega) (by omega)
    unfold f_Sk_transits_b16 jn
    rw [t.rI1]
    simp only [Option.bind_some]
    rw [if_neg (ix_nle (by omega) (by omega)), t.on, t.areMet hi (by omega), ix_add1, if_pos rfl]
    simp only [Option.bind_some]
    unfold rowV
    rcases met_01 (sht (P i 4 - P j 4 - 0)) (sht (P i 5 - P j 5 - 0)) with q | q
    · have q' : meetV (P i) (P j) 0 = 0 := q
      rw [if_pos q']
      rw [q'] at ih' ⊢
      exact ih'
    · have q' : meetV (P i) (P j) 0 = 1 := q
      rw [if_neg (by rw [q']; decide)]
      rw [q'] at ih' ⊢
      exact ih'
theorem is_Sk.transits_b4 (t : is_Sk h a n P wt pn pp d) {fl : Nat} (hfl : 5000 ≤ fl) : ∀ r fu i s, i + r = n → r < fu → f_Sk_transits_b4 fl a h fu s (ix i) = some (prsV P n r i s) := by
  have h8 := t.n8
  intro r
  induction r with
  | zero =>
    intro fu j s hj hf
    obtain ⟨fu, rfl⟩ : ∃ q, fu = q + 1 := ⟨fu - 1, by omega⟩
    have : j = n := by omega
    subst this
    unfold f_Sk_transits_b4
    rw [t.rI1]
    simp only [Option.bind_some]
    rw [if_pos (ix_le1 (Nat.le_refl _) (by omega))]
    rfl
  | succ r ih =>
    intro fu i s hj hf
    obtain ⟨fu, rfl⟩ : ∃ q, fu = q + 1 := ⟨fu - 1, by omega⟩
    unfold f_Sk_transits_b4
    rw [t.rI1]
    simp only [Option.bind_some]
    rw [if_neg (ix_nle (by omega) (by omega)), ix_add1, t.transits_b16 fl i (by omega) _ (n - (i + 1)) fl (i + 1) s (by omega) (by omega)]
    exact ih fu (i + 1) _ (by omega) (by omega)
theorem is_Sk.transits (t : is_Sk h a n P wt pn pp d) {fl : Nat} (hfl : 5000 ≤ fl) : f_Sk_transits fl a h = some (prsV P n n 0 0) := by
  have h8 := t.n8
  unfold f_Sk_transits
  exact t.transits_b4 hfl n fl 0 0 (by omega) (by omega)
/-- whether all angles are alike -/
def asV (P Q : Nat → Nat → Int32) : Nat → Nat → Int32
  | 0, _ => 1
  | r + 1, i => if P i 4 = Q i 4 then asV P Q r (i + 1) else 0
theorem is_Sk.standsAs_b {b pn' : Nat} {Q : Nat → Nat → Int32} {wt' pp' : Nat → Int32} {d' : Int32} (t : is_Sk h a n P wt pn pp d) (u : is_Sk h b n Q wt' pn' pp' d') (fl : Nat) : ∀ r fu i, i + r = n → r < fu → f_Sk_standsAs_b2 fl a b h fu (ix i) = some (asV P Q r i) := by
  have h8 := t.n8
  intro r
  induction r with
  | zero =>
    intro fu i hi hf
    obtain ⟨fu, rfl⟩ : ∃ q, fu = q + 1 := ⟨fu - 1, by omega⟩
    have : i = n := by omega
    subst this
    unfold f_Sk_standsAs_b2
    rw [t.rI1]
    simp only [Option.bind_some]
    rw [if_pos (ix_le1 (Nat.le_refl _) (by omega))]
    rfl
  | succ r ih =>
    intro fu i hi hf
    obtain ⟨fu, rfl⟩ : ∃ q, fu = q + 1 := ⟨fu - 1, by omega⟩
    unfold f_Sk_standsAs_b2 asV
    rw [t.rI1]
    simp only [Option.bind_some]
    rw [if_neg (ix_nle (by omega) (by omega)), t.rR0]
    simp only [Option.bind_some]
    rw [t.ga (by omega)]
    simp only [Option.bind_some]
    rw [onO_of (t.pl (by omega)), f_Pl_angle_of (t.pl (by omega)), u.on, u.angleOf (by omega), ix_add1]
    simp only [Option.bind_some]
    split
    · exact ih fu (i + 1) (by omega) (by omega)
    · rfl
theorem is_Sk.standsAs {b pn' : Nat} {Q : Nat → Nat → Int32} {wt' pp' : Nat → Int32} {d' : Int32} (t : is_Sk h a n P wt pn pp d) (u : is_Sk h b n Q wt' pn' pp' d') {fl : Nat} (hfl : 5000 ≤ fl) : f_Sk_standsAs fl a b h = some (asV P Q n 0) := by
  have h8 := t.n8
  unfold f_Sk_standsAs
  exact t.standsAs_b u fl n fl 0 (by omega) (by omega)
end
