/-! Days of the class. -/
def letV (A : Nat → List Int32) (k : Nat) (x : Int32) : Int32 := (A k).getD (fm x (ix (A k).length)).toInt.toNat 0
def rulV (P : Nat → Nat → Int32) (d : Int32) (A : Nat → List Int32) : List (List (Nat × Nat × Nat) × List (Nat × Nat × Nat) × Nat) → Nat → Nat × (Nat → Int32) × (Nat → Int32) → Nat × (Nat → Int32) × (Nat → Int32)
  | [], _, z => z
  | R :: L, i, z => if z.1 < 600 ∧ valV (askV P z.1 d) R.1 ≠ 0 then rulV P d A L (i + 1) (z.1 + 1, upd z.2.1 z.1 (letV A R.2.2 (valV (askV P z.1 d) R.2.1)), upd z.2.2 i (z.2.2 i + 1)) else rulV P d A L (i + 1) z
section
variable {h : hp_M} {a n : Nat} {P : Nat → Nat → Int32} {wt : Nat → Int32} {pn : Nat} {pp : Nat → Int32} {d : Int32}
theorem is_Sk.setPp {h' : hp_M} {pn' : Nat} {pp' : Nat → Int32} (t : is_Sk h a n P wt pn pp d) (u : is_Pp h' (a + 3) pn' pp') (r : fr (a + 3) (a + 5) h h') : is_Sk h' a n P wt pn' pp' d := by
  obtain ⟨h1, h2, h3', ⟨g, h4, h5'⟩, ⟨g3, h6, h7⟩, h8, h9⟩ := t
  refine ⟨Nat.le_trans h1 r.1, h2, r.cell h3' (by omega) (by omega), ⟨g, r.cell h4 (by omega) (by omega), h5'⟩, ⟨g3, r.cell h6 (by omega) (by omega), h7⟩, u, fun j hj => ?_⟩
  obtain ⟨q, hq1, hq2⟩ := h9 j hj
  exact ⟨q, r.cell hq1 (by omega) (by omega), hq2⟩
theorem is_Sk.setWt (t : is_Sk h a n P wt pn pp d) {i : Nat} (hi : i < 12) (x : Int32) : ∃ h', paI h (a + 2) (ix i) x = some h' ∧ is_Sk h' a n P (upd wt i x) pn pp d ∧ fr a (a + 13) h h' ∧ h'.2 = h.2 := by
  obtain ⟨h1, h2, h3, ⟨g, h4, h5⟩, ⟨g2, h6, h7⟩, h8, h9⟩ := t
  rw [paI_of h6 hi (by omega)]
  refine ⟨_, rfl, ⟨h1, h2, ?_, ⟨g, ?_, h5⟩, ⟨_, wr_self _ _ _, ?_⟩, h8.keep (wr_fr _ _ _) (by omega), fun j hj => ?_⟩, wr_frI h _ (by omega) (by omega), rfl⟩
  · rw [wr_ne _ _ (by omega)]; exact h3
  · rw [wr_ne _ _ (by omega)]; exact h4
  · intro j hj
    unfold upd
    split
    · rfl
    · exact h7 j hj
  · obtain ⟨q, hq1, hq2⟩ := h9 j hj
    refine ⟨q, ?_, hq2⟩
    rw [wr_ne _ _ (by omega)]; exact hq1
end
