/-! The cells of the Model: its object, a State, a Told. -/
theorem ix5 (i : Nat) : (5 : Int32) * ix i = ix (5 * i) := ix_mul 5 i
theorem ix12 (i : Nat) : (12 : Int32) * ix i = ix (12 * i) := ix_mul 12 i
theorem ixp1 (i : Nat) : ix i + 1 = ix (i + 1) := ix_add i 1
theorem ixp2 (i : Nat) : ix i + 2 = ix (i + 2) := ix_add i 2
theorem ixp3 (i : Nat) : ix i + 3 = ix (i + 3) := ix_add i 3
theorem ixp4 (i : Nat) : ix i + 4 = ix (i + 4) := ix_add i 4
theorem ixm1 {i : Nat} (h : 1 ≤ i) : ix i - 1 = ix (i - 1) := ix_sub (i := i) (n := 1) h
theorem ixn1 (i : Nat) : ix (i + 1) + -1 = ix i := by
  have : ix (i + 1) + -1 = ix i + 1 + -1 := by rw [ixp1]
  rw [this, Int32.add_assoc]
  show ix i + 0 = ix i
  simp
def moC (m : Nat) (th sz ea tk dp : Int32) (t rd : Nat) : va_E := oC 12 [.int th, .ref (m + 1), .int sz, .int ea, .ref (m + 2), .ref (m + 3), .ref (m + 4), .ref (m + 5), .ref (m + 6), .int tk, .int dp, .ref t, .ref rd, .ref (m + 16), .ref (m + 23)]
def is_Mo (h : hp_M) (m : Nat) (th : Int32) (tn : Nat) (tp : Nat → Int32) (ea tk dp : Int32) (t rd : Nat) : Prop :=
  m + 7 ≤ h.2 ∧ tn ≤ 2000 ∧ h.1 m = some (moC m th (ix tn) ea tk dp t rd) ∧ ∃ g, h.1 (m + 1) = some (aI 2000 g) ∧ ∀ i, i < tn → g i = tp i
def is_St (h : hp_M) (m a n : Nat) (x4 x5 x6 : Nat → Int32) (wt : Nat → Int32) (pn : Nat) (pp : Nat → Int32) (d : Int32) : Prop :=
  a + 7 ≤ h.2 ∧ n ≤ 8 ∧ pn ≤ 600 ∧ h.1 a = some (oC 10 [.int d, .ref (a + 1), .ref (a + 2), .ref (a + 3), .ref (a + 4), .ref (a + 5), .int (ix pn), .ref (a + 6), .ref m]) ∧
  (∃ g, h.1 (a + 1) = some (aI 8 g) ∧ ∀ i, i < n → g i = x4 i) ∧ (∃ g, h.1 (a + 2) = some (aI 8 g) ∧ ∀ i, i < n → g i = x5 i) ∧ (∃ g, h.1 (a + 3) = some (aI 8 g) ∧ ∀ i, i < n → g i = x6 i) ∧
  (∃ g, h.1 (a + 4) = some (aI 12 g) ∧ ∀ i, i < 12 → g i = wt i) ∧ (∃ g, h.1 (a + 5) = some (aI 600 g) ∧ ∀ i, i < pn → g i = pp i) ∧ ∃ g, h.1 (a + 6) = some (aI 400 g)
def wid (k : Nat) : Nat := if k = 5 ∨ k = 7 ∨ k = 8 then 3 else if k = 0 ∨ k = 3 ∨ k = 4 ∨ k = 6 then 2 else 1
def cod (k : Nat) : Nat := [40, 15, 16, 12, 13, 14, 4, 10, 11, 41, 17, 18, 19, 20, 21, 42, 43, 44, 45, 46, 47, 48, 49, 50, 51].getD k 0
def encOk (g : Nat → Int32) (q : Nat × Nat × Nat) (u : Nat) : Prop := g u = ix (cod q.1) ∧ (2 ≤ wid q.1 → g (u + 1) = ix q.2.1) ∧ (wid q.1 = 3 → g (u + 2) = ix q.2.2)
def segC (g : Nat → Int32) : List (Nat × Nat × Nat) → Nat → Nat → Prop
  | [], u, e => u = e
  | q :: l, u, e => encOk g q u ∧ segC g l (u + wid q.1) e
abbrev ruV : Type := List (Nat × Nat × Nat) × List (Nat × Nat × Nat) × Nat
def is_To (h : hp_M) (t n : Nat) (P : Nat → Nat → Int32) (nA : Nat) (A : Nat → List Int32) (Rs : List ruV) : Prop :=
  t + 9 ≤ h.2 ∧ (n ≤ 8 ∧ nA ≤ 6 ∧ Rs.length ≤ 12 ∧ ∀ k, k < nA → (A k).length ≤ 12) ∧ (∃ len op : Int32, h.1 t = some (oC 11 [.int (ix n), .ref (t + 1), .int (ix nA), .ref (t + 2), .ref (t + 3), .int (ix Rs.length), .ref (t + 4), .ref (t + 5), .ref (t + 6), .ref (t + 7), .int len, .ref (t + 8), .int op])) ∧
  (∃ g, h.1 (t + 1) = some (aI 40 g) ∧ ∀ i, i < n → g (5 * i) = P i 0 ∧ g (5 * i + 1) = P i 1 ∧ g (5 * i + 3) = P i 2 ∧ g (5 * i + 4) = P i 3) ∧
  (∃ g, h.1 (t + 2) = some (aI 6 g) ∧ ∀ k, k < nA → g k = ix (A k).length) ∧ (∃ g, h.1 (t + 3) = some (aI 72 g) ∧ ∀ k j, k < nA → j < (A k).length → g (12 * k + j) = (A k).getD j 0) ∧
  ∃ g1 g2 g3 gc, h.1 (t + 4) = some (aI 13 g1) ∧ h.1 (t + 5) = some (aI 13 g2) ∧ h.1 (t + 6) = some (aI 13 g3) ∧ h.1 (t + 7) = some (aI 1200 gc) ∧
    ∀ i R, Rs[i]? = some R → ∃ u v e, g1 i = ix u ∧ g2 i = ix v ∧ g1 (i + 1) = ix e ∧ g3 i = ix R.2.2 ∧ R.2.2 < nA ∧ e ≤ 1190 ∧ segC gc R.1 u v ∧ segC gc R.2.1 v e
section
variable {h h' : hp_M} {m : Nat} {th : Int32} {tn : Nat} {tp : Nat → Int32} {ea tk dp : Int32} {t rd lo hi : Nat}
theorem is_Mo.keep (o : is_Mo h m th tn tp ea tk dp t rd) (r : fr lo hi h h') (ho : m + 7 ≤ lo ∨ hi ≤ m) : is_Mo h' m th tn tp ea tk dp t rd := by
  obtain ⟨h1, h2, h3, g, h4, h5⟩ := o
  exact ⟨Nat.le_trans h1 r.1, h2, r.cell h3 (by omega) (by omega), g, r.cell h4 (by omega) (by omega), h5⟩
theorem is_Mo.on {β : Type} (o : is_Mo h m th tn tp ea tk dp t rd) (g : Option β) : onO h m 12 g = g := onO_of o.2.2.1
theorem is_Mo.r0 (o : is_Mo h m th tn tp ea tk dp t rd) : gI h m 12 0 = some th := gI_of o.2.2.1 rfl
theorem is_Mo.r1 (o : is_Mo h m th tn tp ea tk dp t rd) : gR h m 12 1 = some (m + 1) := gR_of o.2.2.1 rfl
theorem is_Mo.r2 (o : is_Mo h m th tn tp ea tk dp t rd) : gI h m 12 2 = some (ix tn) := gI_of o.2.2.1 rfl
theorem is_Mo.r3 (o : is_Mo h m th tn tp ea tk dp t rd) : gI h m 12 3 = some ea := gI_of o.2.2.1 rfl
theorem is_Mo.r4 (o : is_Mo h m th tn tp ea tk dp t rd) : gR h m 12 4 = some (m + 2) := gR_of o.2.2.1 rfl
theorem is_Mo.r5 (o : is_Mo h m th tn tp ea tk dp t rd) : gR h m 12 5 = some (m + 3) := gR_of o.2.2.1 rfl
theorem is_Mo.r6 (o : is_Mo h m th tn tp ea tk dp t rd) : gR h m 12 6 = some (m + 4) := gR_of o.2.2.1 rfl
theorem is_Mo.r7 (o : is_Mo h m th tn tp ea tk dp t rd) : gR h m 12 7 = some (m + 5) := gR_of o.2.2.1 rfl
theorem is_Mo.r8 (o : is_Mo h m th tn tp ea tk dp t rd) : gR h m 12 8 = some (m + 6) := gR_of o.2.2.1 rfl
theorem is_Mo.r9 (o : is_Mo h m th tn tp ea tk dp t rd) : gI h m 12 9 = some tk := gI_of o.2.2.1 rfl
theorem is_Mo.r10 (o : is_Mo h m th tn tp ea tk dp t rd) : gI h m 12 10 = some dp := gI_of o.2.2.1 rfl
theorem is_Mo.r11 (o : is_Mo h m th tn tp ea tk dp t rd) : gR h m 12 11 = some t := gR_of o.2.2.1 rfl
theorem is_Mo.r12 (o : is_Mo h m th tn tp ea tk dp t rd) : gR h m 12 12 = some rd := gR_of o.2.2.1 rfl
theorem is_Mo.r13 (o : is_Mo h m th tn tp ea tk dp t rd) : gR h m 12 13 = some (m + 16) := gR_of o.2.2.1 rfl
theorem is_Mo.r14 (o : is_Mo h m th tn tp ea tk dp t rd) : gR h m 12 14 = some (m + 23) := gR_of o.2.2.1 rfl
theorem is_Mo.ga (o : is_Mo h m th tn tp ea tk dp t rd) {i : Nat} (hi : i < tn) : gaI h (m + 1) (ix i) = some (tp i) := by
  obtain ⟨h1, h2, h3, g, h4, h5⟩ := o
  rw [gaI_of h4 (by omega) (by omega), h5 i hi]
theorem is_Mo.tn2 (o : is_Mo h m th tn tp ea tk dp t rd) : tn ≤ 2000 := o.2.1
/-- another value of a field of the object -/
theorem is_Mo.put (o : is_Mo h m th tn tp ea tk dp t rd) {k : Nat} {v : Value} {th' ea' tk' dp' : Int32} {tn' t' rd' : Nat} (hk : k < 15) (ht : tn' ≤ tn) (he : [Value.int th, .ref (m + 1), .int (ix tn), .int ea, .ref (m + 2), .ref (m + 3), .ref (m + 4), .ref (m + 5), .ref (m + 6), .int tk, .int dp, .ref t, .ref rd, .ref (m + 16), .ref (m + 23)].set k v = [.int th', .ref (m + 1), .int (ix tn'), .int ea', .ref (m + 2), .ref (m + 3), .ref (m + 4), .ref (m + 5), .ref (m + 6), .int tk', .int dp', .ref t', .ref rd', .ref (m + 16), .ref (m + 23)]) : ∃ h', pF h m 12 k v = some h' ∧ is_Mo h' m th' tn' tp ea' tk' dp' t' rd' ∧ fr m (m + 1) h h' ∧ h'.2 = h.2 := by
  obtain ⟨h1, h2, h3, g, h4, h5⟩ := o
  refine ⟨_, pF_of h3 hk, ⟨h1, by omega, ?_, g, ?_, fun i hi => h5 i (by omega)⟩, wr_fr _ _ _, rfl⟩
  · rw [wr_self, he]; rfl
  · rw [wr_ne _ _ (by omega)]; exact h4
end
section
variable {h h' : hp_M} {m a n : Nat} {x4 x5 x6 : Nat → Int32} {wt : Nat → Int32} {pn : Nat} {pp : Nat → Int32} {d : Int32} {lo hi : Nat}
theorem is_St.keep (s : is_St h m a n x4 x5 x6 wt pn pp d) (r : fr lo hi h h') (ho : a + 7 ≤ lo ∨ hi ≤ a) : is_St h' m a n x4 x5 x6 wt pn pp d := by
  obtain ⟨h1, h2, h3, h4, ⟨g1, a1, b1⟩, ⟨g2, a2, b2⟩, ⟨g3, a3, b3⟩, ⟨g4, a4, b4⟩, ⟨g5, a5, b5⟩, ⟨g6, a6⟩⟩ := s
  exact ⟨Nat.le_trans h1 r.1, h2, h3, r.cell h4 (by omega) (by omega), ⟨g1, r.cell a1 (by omega) (by omega), b1⟩, ⟨g2, r.cell a2 (by omega) (by omega), b2⟩, ⟨g3, r.cell a3 (by omega) (by omega), b3⟩, ⟨g4, r.cell a4 (by omega) (by omega), b4⟩, ⟨g5, r.cell a5 (by omega) (by omega), b5⟩, ⟨g6, r.cell a6 (by omega) (by omega)⟩⟩
theorem is_St.on {β : Type} (s : is_St h m a n x4 x5 x6 wt pn pp d) (g : Option β) : onO h a 10 g = g := onO_of s.2.2.2.1
theorem is_St.n8 (s : is_St h m a n x4 x5 x6 wt pn pp d) : n ≤ 8 := s.2.1
theorem is_St.pn6 (s : is_St h m a n x4 x5 x6 wt pn pp d) : pn ≤ 600 := s.2.2.1
theorem is_St.r0 (s : is_St h m a n x4 x5 x6 wt pn pp d) : gI h a 10 0 = some d := gI_of s.2.2.2.1 rfl
theorem is_St.r1 (s : is_St h m a n x4 x5 x6 wt pn pp d) : gR h a 10 1 = some (a + 1) := gR_of s.2.2.2.1 rfl
theorem is_St.r2 (s : is_St h m a n x4 x5 x6 wt pn pp d) : gR h a 10 2 = some (a + 2) := gR_of s.2.2.2.1 rfl
theorem is_St.r3 (s : is_St h m a n x4 x5 x6 wt pn pp d) : gR h a 10 3 = some (a + 3) := gR_of s.2.2.2.1 rfl
theorem is_St.r4 (s : is_St h m a n x4 x5 x6 wt pn pp d) : gR h a 10 4 = some (a + 4) := gR_of s.2.2.2.1 rfl
theorem is_St.r5 (s : is_St h m a n x4 x5 x6 wt pn pp d) : gR h a 10 5 = some (a + 5) := gR_of s.2.2.2.1 rfl
theorem is_St.r6 (s : is_St h m a n x4 x5 x6 wt pn pp d) : gI h a 10 6 = some (ix pn) := gI_of s.2.2.2.1 rfl
theorem is_St.r7 (s : is_St h m a n x4 x5 x6 wt pn pp d) : gR h a 10 7 = some (a + 6) := gR_of s.2.2.2.1 rfl
theorem is_St.r8 (s : is_St h m a n x4 x5 x6 wt pn pp d) : gR h a 10 8 = some m := gR_of s.2.2.2.1 rfl
theorem is_St.ang (s : is_St h m a n x4 x5 x6 wt pn pp d) {i : Nat} (hi : i < n) : gaI h (a + 1) (ix i) = some (x4 i) := by
  obtain ⟨h1, h2, h3, h4, ⟨g1, a1, b1⟩, _⟩ := s
  rw [gaI_of a1 (by omega) (by omega), b1 i hi]
theorem is_St.bef (s : is_St h m a n x4 x5 x6 wt pn pp d) {i : Nat} (hi : i < n) : gaI h (a + 2) (ix i) = some (x5 i) := by
  obtain ⟨h1, h2, h3, h4, _, ⟨g1, a1, b1⟩, _⟩ := s
  rw [gaI_of a1 (by omega) (by omega), b1 i hi]
theorem is_St.lap (s : is_St h m a n x4 x5 x6 wt pn pp d) {i : Nat} (hi : i < n) : gaI h (a + 3) (ix i) = some (x6 i) := by
  obtain ⟨h1, h2, h3, h4, _, _, ⟨g1, a1, b1⟩, _⟩ := s
  rw [gaI_of a1 (by omega) (by omega), b1 i hi]
theorem is_St.wro (s : is_St h m a n x4 x5 x6 wt pn pp d) {i : Nat} (hi : i < 12) : gaI h (a + 4) (ix i) = some (wt i) := by
  obtain ⟨h1, h2, h3, h4, _, _, _, ⟨g1, a1, b1⟩, _⟩ := s
  rw [gaI_of a1 (by omega) (by omega), b1 i hi]
theorem is_St.pap (s : is_St h m a n x4 x5 x6 wt pn pp d) {i : Nat} (hi : i < pn) : gaI h (a + 5) (ix i) = some (pp i) := by
  obtain ⟨h1, h2, h3, h4, _, _, _, _, ⟨g1, a1, b1⟩, _⟩ := s
  rw [gaI_of a1 (by omega) (by omega), b1 i hi]
theorem is_St.congr {y4 y5 y6 : Nat → Int32} (s : is_St h m a n x4 x5 x6 wt pn pp d) (e : ∀ i, i < n → x4 i = y4 i ∧ x5 i = y5 i ∧ x6 i = y6 i) : is_St h m a n y4 y5 y6 wt pn pp d := by
  obtain ⟨h1, h2, h3, h4, ⟨g1, a1, b1⟩, ⟨g2, a2, b2⟩, ⟨g3, a3, b3⟩, h8⟩ := s
  exact ⟨h1, h2, h3, h4, ⟨g1, a1, fun i hi => (b1 i hi).trans (e i hi).1⟩, ⟨g2, a2, fun i hi => (b2 i hi).trans (e i hi).2.1⟩, ⟨g3, a3, fun i hi => (b3 i hi).trans (e i hi).2.2⟩, h8⟩
/-- one of the three rows of planets written -/
theorem is_St.putA (s : is_St h m a n x4 x5 x6 wt pn pp d) {i : Nat} (hi : i < n) (x : Int32) : ∃ h', paI h (a + 1) (ix i) x = some h' ∧ is_St h' m a n (upd x4 i x) x5 x6 wt pn pp d ∧ fr a (a + 7) h h' ∧ h'.2 = h.2 := by
  obtain ⟨h1, h2, h3, h4, ⟨g1, a1, b1⟩, ⟨g2, a2, b2⟩, ⟨g3, a3, b3⟩, ⟨g4, a4, b4⟩, ⟨g5, a5, b5⟩, ⟨g6, a6⟩⟩ := s
  refine ⟨_, paI_of a1 (by omega) (by omega), ⟨h1, h2, h3, ?_, ⟨_, wr_self _ _ _, fun j hj => ?_⟩, ⟨g2, ?_, b2⟩, ⟨g3, ?_, b3⟩, ⟨g4, ?_, b4⟩, ⟨g5, ?_, b5⟩, ⟨g6, ?_⟩⟩, wr_frI _ _ (by omega) (by omega), rfl⟩
  any_goals (rw [wr_ne _ _ (by omega)]; assumption)
  unfold upd; split
  · rfl
  · exact b1 j hj
theorem is_St.putB (s : is_St h m a n x4 x5 x6 wt pn pp d) {i : Nat} (hi : i < n) (x : Int32) : ∃ h', paI h (a + 2) (ix i) x = some h' ∧ is_St h' m a n x4 (upd x5 i x) x6 wt pn pp d ∧ fr a (a + 7) h h' ∧ h'.2 = h.2 := by
  obtain ⟨h1, h2, h3, h4, ⟨g1, a1, b1⟩, ⟨g2, a2, b2⟩, ⟨g3, a3, b3⟩, ⟨g4, a4, b4⟩, ⟨g5, a5, b5⟩, ⟨g6, a6⟩⟩ := s
  refine ⟨_, paI_of a2 (by omega) (by omega), ⟨h1, h2, h3, ?_, ⟨g1, ?_, b1⟩, ⟨_, wr_self _ _ _, fun j hj => ?_⟩, ⟨g3, ?_, b3⟩, ⟨g4, ?_, b4⟩, ⟨g5, ?_, b5⟩, ⟨g6, ?_⟩⟩, wr_frI _ _ (by omega) (by omega), rfl⟩
  any_goals (rw [wr_ne _ _ (by omega)]; assumption)
  unfold upd; split
  · rfl
  · exact b2 j hj
theorem is_St.putL (s : is_St h m a n x4 x5 x6 wt pn pp d) {i : Nat} (hi : i < n) (x : Int32) : ∃ h', paI h (a + 3) (ix i) x = some h' ∧ is_St h' m a n x4 x5 (upd x6 i x) wt pn pp d ∧ fr a (a + 7) h h' ∧ h'.2 = h.2 := by
  obtain ⟨h1, h2, h3, h4, ⟨g1, a1, b1⟩, ⟨g2, a2, b2⟩, ⟨g3, a3, b3⟩, ⟨g4, a4, b4⟩, ⟨g5, a5, b5⟩, ⟨g6, a6⟩⟩ := s
  refine ⟨_, paI_of a3 (by omega) (by omega), ⟨h1, h2, h3, ?_, ⟨g1, ?_, b1⟩, ⟨g2, ?_, b2⟩, ⟨_, wr_self _ _ _, fun j hj => ?_⟩, ⟨g4, ?_, b4⟩, ⟨g5, ?_, b5⟩, ⟨g6, ?_⟩⟩, wr_frI _ _ (by omega) (by omega), rfl⟩
  any_goals (rw [wr_ne _ _ (by omega)]; assumption)
  unfold upd; split
  · rfl
  · exact b3 j hj
theorem is_St.putW (s : is_St h m a n x4 x5 x6 wt pn pp d) {i : Nat} (hi : i < 12) (x : Int32) : ∃ h', paI h (a + 4) (ix i) x = some h' ∧ is_St h' m a n x4 x5 x6 (upd wt i x) pn pp d ∧ fr a (a + 7) h h' ∧ h'.2 = h.2 := by
  obtain ⟨h1, h2, h3, h4, ⟨g1, a1, b1⟩, ⟨g2, a2, b2⟩, ⟨g3, a3, b3⟩, ⟨g4, a4, b4⟩, ⟨g5, a5, b5⟩, ⟨g6, a6⟩⟩ := s
  refine ⟨_, paI_of a4 (by omega) (by omega), ⟨h1, h2, h3, ?_, ⟨g1, ?_, b1⟩, ⟨g2, ?_, b2⟩, ⟨g3, ?_, b3⟩, ⟨_, wr_self _ _ _, fun j hj => ?_⟩, ⟨g5, ?_, b5⟩, ⟨g6, ?_⟩⟩, wr_frI _ _ (by omega) (by omega), rfl⟩
  any_goals (rw [wr_ne _ _ (by omega)]; assumption)
  unfold upd; split
  · rfl
  · exact b4 j hj
/-- a byte written behind those there, and counted -/
theorem is_St.putP (s : is_St h m a n x4 x5 x6 wt pn pp d) (hp : pn < 600) (x : Int32) : ∃ h1 h2, paI h (a + 5) (ix pn) x = some h1 ∧ gI h1 a 10 6 = some (ix pn) ∧ pF h1 a 10 6 (.int (ix (pn + 1))) = some h2 ∧ is_St h2 m a n x4 x5 x6 wt (pn + 1) (upd pp pn x) d ∧ fr a (a + 7) h h2 ∧ h2.2 = h.2 := by
  obtain ⟨h1, h2, h3, h4, ⟨g1, a1, b1⟩, ⟨g2, a2, b2⟩, ⟨g3, a3, b3⟩, ⟨g4, a4, b4⟩, ⟨g5, a5, b5⟩, ⟨g6, a6⟩⟩ := s
  have h4' : (wr h (a + 5) (aI 600 (upd g5 pn x))).1 a = _ := (wr_ne _ _ (by omega)).trans h4
  refine ⟨_, _, paI_of a5 (by omega) (by omega), gI_of h4' rfl, pF_of h4' (by simp), ⟨h1, h2, by omega, ?_, ⟨g1, ?_, b1⟩, ⟨g2, ?_, b2⟩, ⟨g3, ?_, b3⟩, ⟨g4, ?_, b4⟩, ⟨upd g5 pn x, ?_, fun j hj => ?_⟩, ⟨g6, ?_⟩⟩, (wr_frI _ _ (by omega) (by omega)).trans (wr_frI _ _ (by omega) (by omega)), rfl⟩
  any_goals (rw [wr_ne _ _ (by omega), wr_ne _ _ (by omega)]; assumption)
  · rw [wr_self]; rfl
  · rw [wr_ne _ _ (by omega), wr_self]
  · unfold upd; split
    · rfl
    · exact b5 j (by omega)
theorem is_St.putX (s : is_St h m a n x4 x5 x6 wt pn pp d) {i : Nat} (hi : i < pn) (x : Int32) : ∃ h', paI h (a + 5) (ix i) x = some h' ∧ is_St h' m a n x4 x5 x6 wt pn (upd pp i x) d ∧ fr a (a + 7) h h' ∧ h'.2 = h.2 := by
  obtain ⟨h1, h2, h3, h4, ⟨g1, a1, b1⟩, ⟨g2, a2, b2⟩, ⟨g3, a3, b3⟩, ⟨g4, a4, b4⟩, ⟨g5, a5, b5⟩, ⟨g6, a6⟩⟩ := s
  refine ⟨_, paI_of a5 (by omega) (by omega), ⟨h1, h2, h3, ?_, ⟨g1, ?_, b1⟩, ⟨g2, ?_, b2⟩, ⟨g3, ?_, b3⟩, ⟨g4, ?_, b4⟩, ⟨_, wr_self _ _ _, fun j hj => ?_⟩, ⟨g6, ?_⟩⟩, wr_frI _ _ (by omega) (by omega), rfl⟩
  any_goals (rw [wr_ne _ _ (by omega)]; assumption)
  unfold upd; split
  · rfl
  · exact b5 j hj
/-- another day or number of bytes -/
theorem is_St.putD (s : is_St h m a n x4 x5 x6 wt pn pp d) (d' : Int32) : ∃ h', pF h a 10 0 (.int d') = some h' ∧ is_St h' m a n x4 x5 x6 wt pn pp d' ∧ fr a (a + 7) h h' ∧ h'.2 = h.2 := by
  obtain ⟨h1, h2, h3, h4, ⟨g1, a1, b1⟩, ⟨g2, a2, b2⟩, ⟨g3, a3, b3⟩, ⟨g4, a4, b4⟩, ⟨g5, a5, b5⟩, ⟨g6, a6⟩⟩ := s
  refine ⟨_, pF_of h4 (by simp), ⟨h1, h2, h3, ?_, ⟨g1, ?_, b1⟩, ⟨g2, ?_, b2⟩, ⟨g3, ?_, b3⟩, ⟨g4, ?_, b4⟩, ⟨g5, ?_, b5⟩, ⟨g6, ?_⟩⟩, wr_frI _ _ (by omega) (by omega), rfl⟩
  any_goals (rw [wr_ne _ _ (by omega)]; assumption)
  rw [wr_self]; rfl
theorem is_St.putN (s : is_St h m a n x4 x5 x6 wt pn pp d) {k : Nat} (hk : k ≤ pn) : ∃ h', pF h a 10 6 (.int (ix k)) = some h' ∧ is_St h' m a n x4 x5 x6 wt k pp d ∧ fr a (a + 7) h h' ∧ h'.2 = h.2 := by
  obtain ⟨h1, h2, h3, h4, ⟨g1, a1, b1⟩, ⟨g2, a2, b2⟩, ⟨g3, a3, b3⟩, ⟨g4, a4, b4⟩, ⟨g5, a5, b5⟩, ⟨g6, a6⟩⟩ := s
  refine ⟨_, pF_of h4 (by simp), ⟨h1, h2, by omega, ?_, ⟨g1, ?_, b1⟩, ⟨g2, ?_, b2⟩, ⟨g3, ?_, b3⟩, ⟨g4, ?_, b4⟩, ⟨g5, ?_, fun i hi => b5 i (by omega)⟩, ⟨g6, ?_⟩⟩, wr_frI _ _ (by omega) (by omega), rfl⟩
  any_goals (rw [wr_ne _ _ (by omega)]; assumption)
  rw [wr_self]; rfl
end
section
variable {h h' : hp_M} {t n : Nat} {P : Nat → Nat → Int32} {nA : Nat} {A : Nat → List Int32} {Rs : List ruV} {lo hi : Nat}
theorem is_To.keep (o : is_To h t n P nA A Rs) (r : fr lo hi h h') (ho : t + 9 ≤ lo ∨ hi ≤ t) : is_To h' t n P nA A Rs := by
  obtain ⟨h1, h2, ⟨len, op, h3⟩, ⟨g1, a1, b1⟩, ⟨g2, a2, b2⟩, ⟨g3, a3, b3⟩, ⟨g4, g5, g6, g7, a4, a5, a6, a7, b7⟩⟩ := o
  exact ⟨Nat.le_trans h1 r.1, h2, ⟨len, op, r.cell h3 (by omega) (by omega)⟩, ⟨g1, r.cell a1 (by omega) (by omega), b1⟩, ⟨g2, r.cell a2 (by omega) (by omega), b2⟩, ⟨g3, r.cell a3 (by omega) (by omega), b3⟩, ⟨g4, g5, g6, g7, r.cell a4 (by omega) (by omega), r.cell a5 (by omega) (by omega), r.cell a6 (by omega) (by omega), r.cell a7 (by omega) (by omega), b7⟩⟩
theorem is_To.congr {Q : Nat → Nat → Int32} (o : is_To h t n P nA A Rs) (e : ∀ i k, i < n → k < 4 → P i k = Q i k) : is_To h t n Q nA A Rs := by
  obtain ⟨h1, h2, h3, ⟨g1, a1, b1⟩, h5⟩ := o
  refine ⟨h1, h2, h3, ⟨g1, a1, fun i hi => ?_⟩, h5⟩
  obtain ⟨q1, q2, q3, q4⟩ := b1 i hi
  exact ⟨q1.trans (e i 0 hi (by omega)), q2.trans (e i 1 hi (by omega)), q3.trans (e i 2 hi (by omega)), q4.trans (e i 3 hi (by omega))⟩
theorem is_To.n8 (o : is_To h t n P nA A Rs) : n ≤ 8 := o.2.1.1
theorem is_To.nA6 (o : is_To h t n P nA A Rs) : nA ≤ 6 := o.2.1.2.1
theorem is_To.nR12 (o : is_To h t n P nA A Rs) : Rs.length ≤ 12 := o.2.1.2.2.1
theorem is_To.al12 (o : is_To h t n P nA A Rs) {k : Nat} (hk : k < nA) : (A k).length ≤ 12 := o.2.1.2.2.2 k hk
theorem is_To.r0 (o : is_To h t n P nA A Rs) : gI h t 11 0 = some (ix n) := by obtain ⟨_, _, ⟨_, _, h3⟩, _⟩ := o; exact gI_of h3 rfl
theorem is_To.r1 (o : is_To h t n P nA A Rs) : gR h t 11 1 = some (t + 1) := by obtain ⟨_, _, ⟨_, _, h3⟩, _⟩ := o; exact gR_of h3 rfl
theorem is_To.r2 (o : is_To h t n P nA A Rs) : gI h t 11 2 = some (ix nA) := by obtain ⟨_, _, ⟨_, _, h3⟩, _⟩ := o; exact gI_of h3 rfl
theorem is_To.r3 (o : is_To h t n P nA A Rs) : gR h t 11 3 = some (t + 2) := by obtain ⟨_, _, ⟨_, _, h3⟩, _⟩ := o; exact gR_of h3 rfl
theorem is_To.r4 (o : is_To h t n P nA A Rs) : gR h t 11 4 = some (t + 3) := by obtain ⟨_, _, ⟨_, _, h3⟩, _⟩ := o; exact gR_of h3 rfl
theorem is_To.r5 (o : is_To h t n P nA A Rs) : gI h t 11 5 = some (ix Rs.length) := by obtain ⟨_, _, ⟨_, _, h3⟩, _⟩ := o; exact gI_of h3 rfl
theorem is_To.r6 (o : is_To h t n P nA A Rs) : gR h t 11 6 = some (t + 4) := by obtain ⟨_, _, ⟨_, _, h3⟩, _⟩ := o; exact gR_of h3 rfl
theorem is_To.r7 (o : is_To h t n P nA A Rs) : gR h t 11 7 = some (t + 5) := by obtain ⟨_, _, ⟨_, _, h3⟩, _⟩ := o; exact gR_of h3 rfl
theorem is_To.r8 (o : is_To h t n P nA A Rs) : gR h t 11 8 = some (t + 6) := by obtain ⟨_, _, ⟨_, _, h3⟩, _⟩ := o; exact gR_of h3 rfl
theorem is_To.r9 (o : is_To h t n P nA A Rs) : gR h t 11 9 = some (t + 7) := by obtain ⟨_, _, ⟨_, _, h3⟩, _⟩ := o; exact gR_of h3 rfl
theorem is_To.pl (o : is_To h t n P nA A Rs) {i : Nat} (hi : i < n) : gaI h (t + 1) (ix (5 * i)) = some (P i 0) ∧ gaI h (t + 1) (ix (5 * i + 1)) = some (P i 1) ∧ gaI h (t + 1) (ix (5 * i + 3)) = some (P i 2) ∧ gaI h (t + 1) (ix (5 * i + 4)) = some (P i 3) := by
  have := o.n8
  obtain ⟨h1, h2, h3, ⟨g1, a1, b1⟩, _⟩ := o
  obtain ⟨q1, q2, q3, q4⟩ := b1 i hi
  rw [gaI_of a1 (by omega) (by omega), gaI_of a1 (by omega) (by omega), gaI_of a1 (by omega) (by omega), gaI_of a1 (by omega) (by omega), q1, q2, q3, q4]
  exact ⟨rfl, rfl, rfl, rfl⟩
theorem is_To.lets (o : is_To h t n P nA A Rs) {k : Nat} (hk : k < nA) : gaI h (t + 2) (ix k) = some (ix (A k).length) := by
  have := o.nA6
  obtain ⟨h1, h2, h3, _, ⟨g1, a1, b1⟩, _⟩ := o
  rw [gaI_of a1 (by omega) (by omega), b1 k hk]
theorem is_To.ltr (o : is_To h t n P nA A Rs) {k j : Nat} (hk : k < nA) (hj : j < (A k).length) : gaI h (t + 3) (ix (12 * k + j)) = some ((A k).getD j 0) := by
  have := o.nA6
  have := o.al12 hk
  obtain ⟨h1, h2, h3, _, _, ⟨g1, a1, b1⟩, _⟩ := o
  rw [gaI_of a1 (by omega) (by omega), b1 k j hk hj]
end
