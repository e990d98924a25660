/-! What the Model has told itself, and the class's book. -/
theorem nmR_add (R : Nat → Nat) (k r : Nat) : nmR R k 0 (r + 1) = nmR R k 0 r ++ (if R r = k then [r] else []) := by
  unfold nmR
  rw [List.range'_1_concat, List.filter_append, Nat.zero_add]
  congr 1
  by_cases z : R r = k
  · rw [if_pos z, List.filter_cons, if_pos (decide_eq_true z)]; rfl
  · rw [if_neg z, List.filter_cons, if_neg (by rw [decide_eq_true_eq]; exact z)]; rfl
theorem nmR_same (R : Nat → Nat) (k i : Nat) : ∀ n, (∀ j, i ≤ j → j < i + n → R j ≠ k) → nmR R k 0 (i + n) = nmR R k 0 i := by
  intro n
  induction n with
  | zero => intro _; rfl
  | succ n ih =>
    intro h
    rw [← Nat.add_assoc, nmR_add, if_neg (h (i + n) (by omega) (by omega)), List.append_nil]
    exact ih (fun j a b => h j a (by omega))
theorem nmR_to {R : Nat → Nat} {k i q : Nat} (hq : i ≤ q) (h : ∀ j, i ≤ j → j < q → R j ≠ k) : nmR R k 0 q = nmR R k 0 i := by
  have := nmR_same R k i (q - i) (fun j a b => h j a (by omega))
  rw [show i + (q - i) = q by omega] at this
  exact this
/-- an item, its names by what they mean -/
def itM (tp : Nat → Int32) (L : List tokV) (M : Nat → Nat) (q : evV) : Nat × Nat × Nat :=
  if q.1 = 0 then (0, nuN tp L q.2.1, 0) else if q.1 = 3 ∨ q.1 = 4 ∨ q.1 = 6 then (q.1, M q.2.1, 0) else if q.1 = 5 ∨ q.1 = 7 ∨ q.1 = 8 then (q.1, M q.2.1, M q.2.2) else q
def JP (g1 : Nat → Int32) (k : Nat) (p : Nat → Int32) : Prop := g1 (5 * k) = p 0 ∧ g1 (5 * k + 1) = p 1 ∧ g1 (5 * k + 2) = p 4 ∧ g1 (5 * k + 3) = p 2 ∧ g1 (5 * k + 4) = p 3
def wds (tp : Nat → Int32) (L : List tokV) (l : List Nat) : List Int64 := l.map (fun q => wcL 0 (tbt tp L q))
/-- planets and alphabets agree, up to token i -/
def JB (tp : Nat → Int32) (L : List tokV) (R : Nat → Nat) (i : Nat) (D : pdV) (B : bkV) : Prop :=
  (D.1 = B.1.length ∧ B.1.length ≤ 8 ∧ B.1.map (·.1) = wds tp L (nmR R 1 0 i)) ∧ (∀ k, k < B.1.length → JP D.2.1 k (plOf B k) ∧ okp (plOf B k) ∧ plOf B k 5 = plOf B k 4 ∧ plOf B k 6 = 0) ∧ (∀ k, 5 * B.1.length ≤ k → D.2.1 k = 0) ∧
  (D.2.2.1 = B.2.1.length ∧ B.2.1.length ≤ 6 ∧ B.2.1.map (·.1) = wds tp L (nmR R 2 0 i)) ∧
  (∀ k, k < B.2.1.length → (1 ≤ (alV B.2.1 k).length ∧ (alV B.2.1 k).length ≤ 12) ∧ D.2.2.2.1 k = ix (alV B.2.1 k).length ∧ ∀ q, q < (alV B.2.1 k).length → D.2.2.2.2.1 (12 * k + q) = (alV B.2.1 k).getD q 0) ∧
  (D.2.2.2.2.2 0 = B.2.2.2.length ∧ B.2.2.2.length ≤ 12)
section
variable {tp : Nat → Int32} {L : List tokV} {R : Nat → Nat} {i : Nat} {D : pdV} {B : bkV}
theorem JB.lkP (j : JB tp L R i D B) {q : Nat} (hq : i ≤ q) (h : ∀ j, i ≤ j → j < q → R j ≠ 1) : lkP B tp L q = tdV tp L R 1 q := by
  unfold Jvm.Pilot.CShadowSpellLaw_law_r9225_03f26d.lkP tdV
  rw [j.1.2.2, nmR_to hq h]; rfl
theorem JB.lkA (j : JB tp L R i D B) {q : Nat} (hq : i ≤ q) (h : ∀ j, i ≤ j → j < q → R j ≠ 2) : lkA B tp L q = tdV tp L R 2 q := by
  unfold Jvm.Pilot.CShadowSpellLaw_law_r9225_03f26d.lkA tdV
  rw [j.2.2.2.1.2.2, nmR_to hq h]; rfl
theorem JB.to (j : JB tp L R i D B) {q : Nat} (hq : i ≤ q) (h : ∀ j, i ≤ j → j < q → R j ≠ 1 ∧ R j ≠ 2) : JB tp L R q D B := by
  obtain ⟨⟨a1, a2, a3⟩, a4, a5, ⟨a6, a7, a8⟩, a9⟩ := j
  exact ⟨⟨a1, a2, by rw [nmR_to hq (fun j a b => (h j a b).1)]; exact a3⟩, a4, a5, ⟨a6, a7, by rw [nmR_to hq (fun j a b => (h j a b).2)]; exact a8⟩, a9⟩
end
