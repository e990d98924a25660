/-! The book of the class: planets (code of the name, values), alphabets (code, letters), items, rules (test, sum, end, alphabet). -/
def is_Bk (h : hp_M) (b : Nat) (pl : List (Int64 × (Nat → Int32))) (al : List (Int64 × List Int32)) (l : List (Nat × Nat × Nat)) (rl : List (Nat × Nat × Nat × Nat)) : Prop :=
  b + 34 ≤ h.2 ∧ (pl.length ≤ 8 ∧ al.length ≤ 6 ∧ rl.length ≤ 12) ∧
  h.1 b = some (oC 1 [.ref (b + 1), .ref (b + 2), .int (ix pl.length), .ref (b + 3), .ref (b + 4), .int (ix al.length), .ref (b + 5), .ref (b + 10), .ref (b + 11), .ref (b + 12), .ref (b + 13), .int (ix rl.length)]) ∧
  (∃ g, h.1 (b + 1) = some (aR 3 8 g) ∧ ∀ i, i < 8 → g i = some (b + 14 + i)) ∧ (∃ g, h.1 (b + 2) = some (aL 8 g) ∧ ∀ i, i < pl.length → g i = (pl.getD i (0, fun _ => 0)).1) ∧
  (∃ g, h.1 (b + 3) = some (aR 4 6 g) ∧ ∀ i, i < 6 → g i = some (b + 22 + 2 * i)) ∧ (∃ g, h.1 (b + 4) = some (aL 6 g) ∧ ∀ i, i < al.length → g i = (al.getD i (0, [])).1) ∧
  is_Pr h (b + 5) l ∧
  (∃ g, h.1 (b + 10) = some (aI 12 g) ∧ ∀ i, i < rl.length → g i = ix (rl.getD i (0, 0, 0, 0)).1) ∧ (∃ g, h.1 (b + 11) = some (aI 12 g) ∧ ∀ i, i < rl.length → g i = ix (rl.getD i (0, 0, 0, 0)).2.1) ∧
  (∃ g, h.1 (b + 12) = some (aI 12 g) ∧ ∀ i, i < rl.length → g i = ix (rl.getD i (0, 0, 0, 0)).2.2.1) ∧ (∃ g, h.1 (b + 13) = some (aI 12 g) ∧ ∀ i, i < rl.length → g i = ix (rl.getD i (0, 0, 0, 0)).2.2.2) ∧
  (∀ i, i < 8 → ∃ p, h.1 (b + 14 + i) = some (oC 3 (pfs p)) ∧ (i < pl.length → p = (pl.getD i (0, fun _ => 0)).2)) ∧
  (∀ i, i < 6 → ∃ m, is_Al h (b + 22 + 2 * i) m ∧ (i < al.length → m = (al.getD i (0, [])).2))
section
variable {h : hp_M} {b : Nat} {pl : List (Int64 × (Nat → Int32))} {al : List (Int64 × List Int32)} {l : List (Nat × Nat × Nat)} {rl : List (Nat × Nat × Nat × Nat)}
theorem is_Bk.keep {h' : hp_M} {lo hi : Nat} (t : is_Bk h b pl al l rl) (r : fr lo hi h h') (ho : b + 34 ≤ lo ∨ hi ≤ b) : is_Bk h' b pl al l rl := by
  obtain ⟨h1, h2, h3, ⟨g4, a4, b4⟩, ⟨g5, a5, b5⟩, ⟨g6, a6, b6⟩, ⟨g7, a7, b7⟩, h8, ⟨g9, a9, b9⟩, ⟨g10, a10, b10⟩, ⟨g11, a11, b11⟩, ⟨g12, a12, b12⟩, h13, h14⟩ := t
  refine ⟨Nat.le_trans h1 r.1, h2, r.cell h3 (by omega) (by omega), ⟨g4, r.cell a4 (by omega) (by omega), b4⟩, ⟨g5, r.cell a5 (by omega) (by omega), b5⟩, ⟨g6, r.cell a6 (by omega) (by omega), b6⟩, ⟨g7, r.cell a7 (by omega) (by omega), b7⟩, h8.keep r (by omega), ⟨g9, r.cell a9 (by omega) (by omega), b9⟩, ⟨g10, r.cell a10 (by omega) (by omega), b10⟩, ⟨g11, r.cell a11 (by omega) (by omega), b11⟩, ⟨g12, r.cell a12 (by omega) (by omega), b12⟩, fun i hi => ?_, fun i hi => ?_⟩
  · obtain ⟨p, hp, hq⟩ := h13 i hi
    exact ⟨p, r.cell hp (by omega) (by omega), hq⟩
  · obtain ⟨m, hp, hq⟩ := h14 i hi
    exact ⟨m, hp.keep r (by omega), hq⟩
theorem is_Bk.on {β : Type} (t : is_Bk h b pl al l rl) (g : Option β) : onO h b 1 g = g := onO_of t.2.2.1
end
