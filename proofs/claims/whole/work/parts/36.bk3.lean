/-! Rules: (test's items, sum's items, alphabet), and what the book answers of them. -/
def segR (n nA : Nat) (l : List (Nat × Nat × Nat)) (r : Nat × Nat × Nat × Nat) (R : List (Nat × Nat × Nat) × List (Nat × Nat × Nat) × Nat) : Prop :=
  (r.2.2.2 = R.2.2 ∧ R.2.2 < nA) ∧ (∃ rest, l.drop r.1 = R.1 ++ rest) ∧ r.1 + R.1.length = r.2.1 ∧ (∃ rest, l.drop r.2.1 = R.2.1 ++ rest) ∧ r.2.1 + R.2.1.length = r.2.2.1 ∧ fits R.1 [] = some [true] ∧ fits R.2.1 [] = some [false] ∧ (∀ q, q ∈ R.1 → okIt n q) ∧ (∀ q, q ∈ R.2.1 → okIt n q) ∧ r.2.2.1 ≤ l.length
section
variable {h : hp_M} {b : Nat} {pl : List (Int64 × (Nat → Int32))} {al : List (Int64 × List Int32)} {l : List (Nat × Nat × Nat)} {rl : List (Nat × Nat × Nat × Nat)} {s n : Nat} {P : Nat → Nat → Int32} {wt : Nat → Int32} {pn : Nat} {pp : Nat → Int32} {d : Int32} {R : List (Nat × Nat × Nat) × List (Nat × Nat × Nat) × Nat}
theorem is_Bk.setPr {h' : hp_M} (t : is_Bk h b pl al l rl) (u : is_Pr h' (b + 5) l) (r : fr (b + 5) (b + 10) h h') : is_Bk h' b pl al l rl := by
  obtain ⟨h1, h2, h3, ⟨g4, a4, b4⟩, ⟨g5, a5, b5⟩, ⟨g6, a6, b6⟩, ⟨g7, a7, b7⟩, h8, ⟨g9, a9, b9⟩, ⟨g10, a10, b10⟩, ⟨g11, a11, b11⟩, ⟨g12, a12, b12⟩, h13, h14⟩ := t
  refine ⟨Nat.le_trans h1 r.1, h2, r.cell h3 (by omega) (by omega), ⟨g4, r.cell a4 (by omega) (by omega), b4⟩, ⟨g5, r.cell a5 (by omega) (by omega), b5⟩, ⟨g6, r.cell a6 (by omega) (by omega), b6⟩, ⟨g7, r.cell a7 (by omega) (by omega), b7⟩, u, ⟨g9, r.cell a9 (by omega) (by omega), b9⟩, ⟨g10, r.cell a10 (by omega) (by omega), b10⟩, ⟨g11, r.cell a11 (by omega) (by omega), b11⟩, ⟨g12, r.cell a12 (by omega) (by omega), b12⟩, fun i hi => ?_, fun i hi => ?_⟩
  · obtain ⟨p, hp, hq⟩ := h13 i hi
    exact ⟨p, r.cell hp (by omega) (by omega), hq⟩
  · obtain ⟨m, hp, hq⟩ := h14 i hi
    exact ⟨m, hp.keep r (by omega), hq⟩
theorem is_Bk.sumOf (t : is_Bk h b pl al l rl) (u : is_Sk h s n P wt pn pp d) (ok : okY n P) (hab : b + 34 ≤ s ∨ s + 13 ≤ b) {fl i : Nat} (hfl : 5000 ≤ fl) (hi : i < rl.length) (sg : segR n al.length l (rl.getD i (0, 0, 0, 0)) R) : ∃ h', f_Bk_sumOf fl b (ix i) s h = some (valV (askV P pn d) R.2.1, h') ∧ is_Bk h' b pl al l rl ∧ fr b (b + 34) h h' ∧ h'.2 = h.2 := by
  have h12 := t.2.1
  have hl4 : l.length ≤ 400 := t.pr.elim fun _ q => q.2.1
  obtain ⟨g2, a2, b2⟩ := t.2.2.2.2.2.2.2.2.2.1
  obtain ⟨g3, a3, b3⟩ := t.2.2.2.2.2.2.2.2.2.2.1
  obtain ⟨_, _, s2, ⟨rest, s3⟩, s4, _, s6, _, s8, s9⟩ := sg
  unfold f_Bk_sumOf
  rw [t.on, t.isR hi]
  simp only [Option.bind_some]
  rw [if_neg (by decide), gR_of t.2.2.1 rfl, gR_of t.2.2.1 rfl, gR_of t.2.2.1 rfl]
  simp only [Option.bind_some]
  rw [gaI_of a2 (by omega) (by omega), gaI_of a3 (by omega) (by omega), b2 i hi, b3 i hi]
  simp only [Option.bind_some]
  rw [t.pr.on]
  obtain ⟨h', e', t', r', z'⟩ := t.pr.reckon u ok (by omega) hfl s3 s4 (by omega) (by omega) s6 s8
  rw [e']
  exact ⟨h', rfl, t.setPr t' r', r'.mono (by omega) (by omega), z'⟩
theorem is_Bk.holds (t : is_Bk h b pl al l rl) (u : is_Sk h s n P wt pn pp d) (ok : okY n P) (hab : b + 34 ≤ s ∨ s + 13 ≤ b) {fl i : Nat} (hfl : 5000 ≤ fl) (hi : i < rl.length) (sg : segR n al.length l (rl.getD i (0, 0, 0, 0)) R) : ∃ h', f_Bk_holds fl b (ix i) s h = some (if valV (askV P pn d) R.1 = 0 then 0 else 1, h') ∧ is_Bk h' b pl al l rl ∧ fr b (b + 34) h h' ∧ h'.2 = h.2 := by
  have h12 := t.2.1
  have hl4 : l.length ≤ 400 := t.pr.elim fun _ q => q.2.1
  obtain ⟨g1, a1, b1⟩ := t.2.2.2.2.2.2.2.2.1
  obtain ⟨g2, a2, b2⟩ := t.2.2.2.2.2.2.2.2.2.1
  obtain ⟨_, ⟨rest, s1⟩, s2, _, s4, s5, _, s7, _, s9⟩ := sg
  unfold f_Bk_holds jn
  dsimp only
  rw [t.on, t.isR hi]
  simp only [Option.bind_some]
  rw [if_neg (by decide), gR_of t.2.2.1 rfl, gR_of t.2.2.1 rfl, gR_of t.2.2.1 rfl]
  simp only [Option.bind_some]
  rw [gaI_of a1 (by omega) (by omega), gaI_of a2 (by omega) (by omega), b1 i hi, b2 i hi]
  simp only [Option.bind_some]
  rw [t.pr.on]
  obtain ⟨h', e', t', r', z'⟩ := t.pr.reckon u ok (by omega) hfl s1 s2 (by omega) (by omega) s5 s7
  rw [e']
  refine ⟨h', ?_, t.setPr t' r', r'.mono (by omega) (by omega), z'⟩
  simp only [Option.bind_some]
  split <;> rfl
theorem is_Bk.letterBy (t : is_Bk h b pl al l rl) {i : Nat} (hi : i < rl.length) (sg : segR n al.length l (rl.getD i (0, 0, 0, 0)) R) (hz : 0 < (al.getD R.2.2 (0, [])).2.length) (x : Int32) : f_Bk_letterBy b (ix i) x h = some ((al.getD R.2.2 (0, [])).2.getD (fm x (ix (al.getD R.2.2 (0, [])).2.length)).toInt.toNat 0) := by
  have h12 := t.2.1
  obtain ⟨g4, a4, b4⟩ := t.2.2.2.2.2.2.2.2.2.2.2.1
  obtain ⟨⟨s1, s2⟩, _⟩ := sg
  have hl := (t.alp s2).2.1
  unfold f_Bk_letterBy jn
  dsimp only
  rw [t.on, t.isR hi]
  simp only [Option.bind_some]
  rw [if_neg (by decide), gR_of t.2.2.1 rfl]
  simp only [Option.bind_some]
  rw [gaI_of a4 (by omega) (by omega), b4 i hi, s1]
  simp only [Option.bind_some]
  rw [t.on, t.lettersOf s2]
  simp only [Option.bind_some]
  rw [show (0 : Int32) = ix 0 from rfl, if_neg (ix_ne (by omega) (by omega) (by omega))]
  have hp : 0 < (ix (al.getD R.2.2 (0, [])).2.length).toInt := by rw [ix_toInt (by omega)]; omega
  rw [fmI_of hp]
  simp only [Option.bind_some]
  have hf := fm_toInt (x := x) hp
  rw [ix_toInt (by omega)] at hf
  have q1 := Int.emod_nonneg x.toInt (b := ((al.getD R.2.2 (0, [])).2.length : Int)) (by omega)
  have q2 := Int.emod_lt_of_pos x.toInt (b := ((al.getD R.2.2 (0, [])).2.length : Int)) (by omega)
  have e : fm x (ix (al.getD R.2.2 (0, [])).2.length) = ix (fm x (ix (al.getD R.2.2 (0, [])).2.length)).toInt.toNat := by
    apply Int32.toInt_inj.mp
    rw [ix_toInt] <;> rw [hf] <;> omega
  rw [t.on]
  conv => lhs; rw [e]
  rw [t.letterOf s2 (by rw [hf]; omega)]
  rfl
end
