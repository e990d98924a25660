/-! Frames of two intervals. -/
def f2 (a b c d : Nat) (h h' : hp_M) : Prop := h.2 ≤ h'.2 ∧ ∀ q, (q < a ∨ b ≤ q) → (q < c ∨ d ≤ q) → q < h.2 → h'.1 q = h.1 q
theorem f2.refl (a b c d : Nat) (h : hp_M) : f2 a b c d h h := ⟨Nat.le_refl _, fun _ _ _ _ => rfl⟩
theorem f2.trans {a b c d : Nat} {h h1 h2 : hp_M} (f : f2 a b c d h h1) (g : f2 a b c d h1 h2) : f2 a b c d h h2 :=
  ⟨Nat.le_trans f.1 g.1, fun q h3 h4 hl => (g.2 q h3 h4 (Nat.lt_of_lt_of_le hl f.1)).trans (f.2 q h3 h4 hl)⟩
theorem fr.to2 {a b c d lo hi : Nat} {h h1 : hp_M} (f : fr lo hi h h1) (H : (a ≤ lo ∧ hi ≤ b) ∨ (c ≤ lo ∧ hi ≤ d)) : f2 a b c d h h1 :=
  ⟨f.1, fun q h3 h4 hl => f.2 q (by omega) hl⟩
/-- in two steps -/
theorem f2.split {a b c d : Nat} {h h1 : hp_M} (f : f2 a b c d h h1) : ∃ hm, fr a b h hm ∧ fr c d hm h1 := by
  refine ⟨(fun q => if a ≤ q ∧ q < b then h1.1 q else h.1 q, h.2), ⟨Nat.le_refl _, fun q hq _ => ?_⟩, ⟨f.1, fun q hq hl => ?_⟩⟩
  · exact if_neg (by omega)
  · by_cases hc : a ≤ q ∧ q < b
    · exact (if_pos hc).symm
    · exact (f.2 q (by omega) hq hl).trans (if_neg hc).symm
