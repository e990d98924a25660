/-! An alphabet of the class. -/
def is_Al (h : hp_M) (a : Nat) (l : List Int32) : Prop := a + 2 ≤ h.2 ∧ l.length ≤ 12 ∧ h.1 a = some (oC 0 [.ref (a + 1), .int (ix l.length)]) ∧ ∃ g, h.1 (a + 1) = some (aI 12 g) ∧ ∀ i, i < l.length → g i = l.getD i 0
section
variable {h : hp_M} {a : Nat} {l : List Int32}
theorem is_Al.keep {h' : hp_M} {lo hi : Nat} (t : is_Al h a l) (r : fr lo hi h h') (ho : a + 2 ≤ lo ∨ hi ≤ a) : is_Al h' a l := by
  obtain ⟨h1, h2, h3, g, h4, h5⟩ := t
  exact ⟨Nat.le_trans h1 r.1, h2, r.cell h3 (by omega) (by omega), g, r.cell h4 (by omega) (by omega), h5⟩
theorem is_Al.on {β : Type} (t : is_Al h a l) (g : Option β) : onO h a 0 g = g := onO_of t.2.2.1
theorem is_Al.size (t : is_Al h a l) : f_Al_size a h = some (ix l.length) := by
  unfold f_Al_size; rw [gI_of t.2.2.1 rfl]; rfl
theorem is_Al.at (t : is_Al h a l) {i : Nat} (hi : i < l.length) : f_Al_at a (ix i) h = some (l.getD i 0) := by
  obtain ⟨h1, h2, h3, g, h4, h5⟩ := t
  unfold f_Al_at jn
  dsimp only
  rw [if_neg (ix_nn (by omega)), gI_of h3 rfl, gR_of h3 rfl]
  simp only [Option.bind_some]
  rw [if_neg (ix_nle (by omega) (by omega)), gaI_of h4 (by omega) (by omega), h5 i hi]
  rfl
theorem is_Al.empty (t : is_Al h a l) : ∃ h', f_Al_empty a h = some h' ∧ is_Al h' a [] ∧ fr a (a + 2) h h' ∧ h'.2 = h.2 := by
  obtain ⟨h1, h2, h3, g, h4, h5⟩ := t
  unfold f_Al_empty
  rw [pF_of h3 (by simp)]
  refine ⟨_, rfl, ⟨h1, by simp, ?_, g, ?_, fun i hi => by simp at hi⟩, wr_frI h _ (by omega) (by omega), rfl⟩
  · rw [wr_self]; rfl
  · rw [wr_ne _ _ (by omega)]; exact h4
theorem is_Al.add (t : is_Al h a l) (hl : l.length < 12) (x : Int32) : ∃ h', f_Al_add a x h = some h' ∧ is_Al h' a (l ++ [x]) ∧ fr a (a + 2) h h' ∧ h'.2 = h.2 := by
  obtain ⟨h1, h2, h3, g, h4, h5⟩ := t
  unfold f_Al_add
  rw [gI_of h3 rfl, gR_of h3 rfl]
  simp only [Option.bind_some]
  rw [gLen_of h4]
  simp only [Option.bind_some]
  rw [if_neg (ix_nle (by omega) (by omega)), paI_of h4 (by omega) (by omega)]
  simp only [Option.bind_some]
  have h3' : (wr h (a + 1) (aI 12 (upd g l.length x))).1 a = some (oC 0 [.ref (a + 1), .int (ix l.length)]) := by
    rw [wr_ne h _ (by omega)]; exact h3
  rw [gI_of h3' rfl]
  simp only [Option.bind_some]
  rw [pF_of h3' (by simp)]
  refine ⟨_, rfl, ⟨h1, by simp; omega, ?_, upd g l.length x, ?_, ?_⟩, ?_, rfl⟩
  · rw [wr_self, ix_add1]; simp
  · rw [wr_ne _ _ (by omega), wr_self]
  · intro i hi
    simp at hi
    unfold upd
    by_cases hq : i = l.length
    · subst hq; simp
    · rw [if_neg hq, h5 i (by omega)]
      simp [List.getD_eq_getElem?_getD, List.getElem?_append_left (show i < l.length by omega)]
  · exact (wr_frI h _ (by omega) (by omega)).trans (wr_frI _ _ (by omega) (by omega))
theorem is_Al.copyFrom {b : Nat} {m : List Int32} (t : is_Al h a l) (u : is_Al h b m) (hab : a + 2 ≤ b ∨ b + 2 ≤ a) : ∃ h', f_Al_copyFrom a b h = some h' ∧ is_Al h' a m ∧ fr a (a + 2) h h' ∧ h'.2 = h.2 := by
  obtain ⟨h1, h2, h3, g1, h4, h5⟩ := t
  obtain ⟨u1, u2, u3, g2, u4, u5⟩ := u
  unfold f_Al_copyFrom
  rw [gR_of u3 rfl, gR_of h3 rfl]
  simp only [Option.bind_some]
  rw [gLen_of h4]
  simp only [Option.bind_some]
  rw [show (0 : Int32) = ix 0 from rfl, cpI_of u4 h4 (by omega) (by omega) (by omega) (by omega)]
  simp only [Option.bind_some]
  have u3' : (wr h (a + 1) (aI 12 (va_cpy g2 g1 0 0 12))).1 b = some (oC 0 [.ref (b + 1), .int (ix m.length)]) := by
    rw [wr_ne h _ (by omega)]; exact u3
  have h3' : (wr h (a + 1) (aI 12 (va_cpy g2 g1 0 0 12))).1 a = some (oC 0 [.ref (a + 1), .int (ix l.length)]) := by
    rw [wr_ne h _ (by omega)]; exact h3
  rw [gI_of u3' rfl]
  simp only [Option.bind_some]
  rw [pF_of h3' (by simp)]
  refine ⟨_, rfl, ⟨h1, by omega, ?_, va_cpy g2 g1 0 0 12, ?_, ?_⟩, ?_, rfl⟩
  · rw [wr_self]; rfl
  · rw [wr_ne _ _ (by omega), wr_self]
  · intro i hi
    unfold va_cpy
    have : i < 12 := by omega
    simp [this, u5 i hi]
  · exact (wr_frI h _ (by omega) (by omega)).trans (wr_frI _ _ (by omega) (by omega))
/-- the place of a sign, -1 where it is not -/
def noV (x : Int32) : List Int32 → Nat → Int32
  | [], _ => -1
  | y :: l, i => if y = x then ix i else noV x l (i + 1)
theorem is_Al.no_b (t : is_Al h a l) (fl : Nat) (x : Int32) : ∀ r fu i, i + r = l.length → r < fu → f_Al_numberOf_b2 fl a x h fu (ix i) = some (noV x (l.drop i) i) := by
  obtain ⟨h1, h2, h3, g, h4, h5⟩ := t
  intro r
  induction r with
  | zero =>
    intro fu i hi hf
    obtain ⟨fu, rfl⟩ : ∃ q, fu = q + 1 := ⟨fu - 1, by omega⟩
    unfold f_Al_numberOf_b2
    rw [gI_of h3 rfl]
    simp only [Option.bind_some]
    rw [if_pos (ix_le1 (by omega) (by omega)), List.drop_eq_nil_of_le (by omega)]
    rfl
  | succ r ih =>
    intro fu i hi hf
    obtain ⟨fu, rfl⟩ : ∃ q, fu = q + 1 := ⟨fu - 1, by omega⟩
    unfold f_Al_numberOf_b2
    rw [gI_of h3 rfl, gR_of h3 rfl]
    simp only [Option.bind_some]
    rw [if_neg (ix_nle (by omega) (by omega)), gaI_of h4 (by omega) (by omega), h5 i (by omega), ix_add1]
    simp only [Option.bind_some]
    rw [List.drop_eq_getElem_cons (show i < l.length by omega)]
    unfold noV
    have hg : l.getD i 0 = l[i]'(by omega) := by simp [List.getD_eq_getElem?_getD, show i < l.length by omega]
    rw [hg]
    split
    · rfl
    · exact ih fu (i + 1) (by omega) (by omega)
theorem is_Al.numberOf (t : is_Al h a l) {fl : Nat} (hfl : 5000 ≤ fl) (x : Int32) : f_Al_numberOf fl a x h = some (noV x l 0) := by
  have hl := t.2.1
  unfold f_Al_numberOf
  have := t.no_b fl x l.length fl 0 (by omega) (by omega)
  rw [List.drop_zero] at this
  exact this
end
