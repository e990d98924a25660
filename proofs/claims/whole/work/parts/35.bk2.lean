/-! The book's readers. -/
section
variable {h : hp_M} {b : Nat} {pl : List (Int64 × (Nat → Int32))} {al : List (Int64 × List Int32)} {l : List (Nat × Nat × Nat)} {rl : List (Nat × Nat × Nat × Nat)}
theorem is_Bk.planets (t : is_Bk h b pl al l rl) : f_Bk_planets b h = some (ix pl.length) := by unfold f_Bk_planets; rw [gI_of t.2.2.1 rfl]; rfl
theorem is_Bk.alphabets (t : is_Bk h b pl al l rl) : f_Bk_alphabets b h = some (ix al.length) := by unfold f_Bk_alphabets; rw [gI_of t.2.2.1 rfl]; rfl
theorem is_Bk.rules (t : is_Bk h b pl al l rl) : f_Bk_rules b h = some (ix rl.length) := by unfold f_Bk_rules; rw [gI_of t.2.2.1 rfl]; rfl
theorem is_Bk.program (t : is_Bk h b pl al l rl) : f_Bk_program b h = some (b + 5) := by unfold f_Bk_program; rw [gR_of t.2.2.1 rfl]; rfl
theorem is_Bk.pr (t : is_Bk h b pl al l rl) : is_Pr h (b + 5) l := t.2.2.2.2.2.2.2.1
theorem is_Bk.hasA (t : is_Bk h b pl al l rl) {i : Nat} (hi : i < al.length) : f_Bk_hasAlphabet b (ix i) h = some 1 := by
  have := t.2.1
  unfold f_Bk_hasAlphabet jn
  dsimp only
  rw [if_neg (ix_nn (by omega)), gI_of t.2.2.1 rfl]
  simp only [Option.bind_some]
  rw [if_neg (ix_nle (by omega) (by omega))]
theorem is_Bk.hasNotA (t : is_Bk h b pl al l rl) {x : Int32} (hx : ¬ ∃ i, i < al.length ∧ x = ix i) : f_Bk_hasAlphabet b x h = some 0 := by
  unfold f_Bk_hasAlphabet jn
  dsimp only
  by_cases h0 : x < 0
  · rw [if_pos h0]
  · rw [if_neg h0, gI_of t.2.2.1 rfl]
    simp only [Option.bind_some]
    obtain ⟨i, hi, rfl⟩ := ix_of (x := x) (by rw [i32_lt] at h0; rw [i32_le]; omega)
    rw [if_pos (ix_le1 (Nat.le_of_not_lt fun q => hx ⟨i, q, rfl⟩) hi)]
theorem is_Bk.isR (t : is_Bk h b pl al l rl) {i : Nat} (hi : i < rl.length) : f_Bk_isRule b (ix i) h = some 1 := by
  have := t.2.1
  unfold f_Bk_isRule jn
  dsimp only
  rw [if_neg (ix_nn (by omega)), gI_of t.2.2.1 rfl]
  simp only [Option.bind_some]
  rw [if_neg (ix_nle (by omega) (by omega))]
theorem is_Bk.alp (t : is_Bk h b pl al l rl) {i : Nat} (hi : i < al.length) : is_Al h (b + 22 + 2 * i) (al.getD i (0, [])).2 := by
  obtain ⟨m, hm, hq⟩ := t.2.2.2.2.2.2.2.2.2.2.2.2.2 i (by have := t.2.1; omega)
  rw [← hq hi]; exact hm
theorem is_Bk.gA (t : is_Bk h b pl al l rl) {i : Nat} (hi : i < 6) : gaR h 4 (b + 3) (ix i) = some (b + 22 + 2 * i) := by
  obtain ⟨g, a1, b1⟩ := t.2.2.2.2.2.1
  rw [gaR_of a1 hi (by omega), b1 i hi]
theorem is_Bk.lettersOf (t : is_Bk h b pl al l rl) {i : Nat} (hi : i < al.length) : f_Bk_lettersOf b (ix i) h = some (ix (al.getD i (0, [])).2.length) := by
  have := t.2.1
  unfold f_Bk_lettersOf
  rw [t.on, t.hasA hi]
  simp only [Option.bind_some]
  rw [if_neg (by decide), gR_of t.2.2.1 rfl]
  simp only [Option.bind_some]
  rw [t.gA (by omega)]
  simp only [Option.bind_some]
  rw [(t.alp hi).on, (t.alp hi).size]
  rfl
theorem is_Bk.letterOf (t : is_Bk h b pl al l rl) {i j : Nat} (hi : i < al.length) (hj : j < (al.getD i (0, [])).2.length) : f_Bk_letterOf b (ix i) (ix j) h = some ((al.getD i (0, [])).2.getD j 0) := by
  have := t.2.1
  unfold f_Bk_letterOf
  rw [t.on, t.hasA hi]
  simp only [Option.bind_some]
  rw [if_neg (by decide), gR_of t.2.2.1 rfl]
  simp only [Option.bind_some]
  rw [t.gA (by omega)]
  simp only [Option.bind_some]
  rw [(t.alp hi).on, (t.alp hi).at hj]
  rfl
theorem is_Bk.numberOf (t : is_Bk h b pl al l rl) {i fl : Nat} (hfl : 5000 ≤ fl) (hi : i < al.length) (x : Int32) : f_Bk_numberOf fl b (ix i) x h = some (noV x (al.getD i (0, [])).2 0) := by
  have := t.2.1
  unfold f_Bk_numberOf
  rw [t.on, t.hasA hi]
  simp only [Option.bind_some]
  rw [if_neg (by decide), gR_of t.2.2.1 rfl]
  simp only [Option.bind_some]
  rw [t.gA (by omega)]
  simp only [Option.bind_some]
  rw [(t.alp hi).on, (t.alp hi).numberOf hfl]
  rfl
end
