/-! The tape of the class. -/
def is_Tp (h : hp_M) (a n : Nat) (f : Nat → Int32) : Prop := a + 2 ≤ h.2 ∧ n ≤ 2000 ∧ h.1 a = some (oC 8 [.ref (a + 1), .int (ix n)]) ∧ ∃ g, h.1 (a + 1) = some (aI 2000 g) ∧ ∀ i, i < n → g i = f i
theorem is_Tp.keep {h h' : hp_M} {a n lo hi : Nat} {f : Nat → Int32} (t : is_Tp h a n f) (r : fr lo hi h h') (ho : a + 2 ≤ lo ∨ hi ≤ a) : is_Tp h' a n f := by
  obtain ⟨h1, h2, h3, g, h4, h5⟩ := t
  exact ⟨Nat.le_trans h1 r.1, h2, r.cell h3 (by omega) (by omega), g, r.cell h4 (by omega) (by omega), h5⟩
theorem is_Tp.on {β : Type} {h : hp_M} {a n : Nat} {f : Nat → Int32} (t : is_Tp h a n f) (g : Option β) : onO h a 8 g = g := onO_of t.2.2.1
theorem is_Tp.size {h : hp_M} {a n : Nat} {f : Nat → Int32} (t : is_Tp h a n f) : f_Tp_size a h = some (ix n) := by
  unfold f_Tp_size; rw [gI_of t.2.2.1 rfl]; rfl
theorem is_Tp.congr {h : hp_M} {a n : Nat} {f f' : Nat → Int32} (t : is_Tp h a n f) (e : ∀ i, i < n → f i = f' i) : is_Tp h a n f' := by
  obtain ⟨h1, h2, h3, g, h4, h5⟩ := t
  exact ⟨h1, h2, h3, g, h4, fun i hi => (h5 i hi).trans (e i hi)⟩
theorem is_Tp.append {h : hp_M} {a n : Nat} {f : Nat → Int32} (t : is_Tp h a n f) (hn : n < 2000) (x : Int32) : ∃ h', f_Tp_append a x h = some h' ∧ is_Tp h' a (n + 1) (upd f n (x &&& 255)) ∧ fr a (a + 2) h h' ∧ h'.2 = h.2 := by
  obtain ⟨h1, h2, h3, g, h4, h5⟩ := t
  have e1 : (2000 : Int32) = ix 2000 := rfl
  have hlt : ¬ (2000 : Int32) ≤ ix n := by rw [e1, ix_le (by omega) (by omega)]; omega
  unfold f_Tp_append
  rw [gI_of h3 rfl, gR_of h3 rfl]
  simp only [Option.bind_some, if_neg hlt]
  rw [paI_of h4 (by omega) (by omega)]
  simp only [Option.bind_some]
  have h3' : (wr h (a + 1) (aI 2000 (upd g n (x &&& 255)))).1 a = some (oC 8 [.ref (a + 1), .int (ix n)]) := by
    rw [wr_ne h _ (by omega)]; exact h3
  rw [gI_of h3' rfl]
  simp only [Option.bind_some]
  rw [pF_of h3' (by simp)]
  refine ⟨_, rfl, ⟨h1, by omega, ?_, upd g n (x &&& 255), ?_, ?_⟩, ?_, rfl⟩
  · rw [wr_self, ix_add1]; rfl
  · rw [wr_ne _ _ (by omega), wr_self]
  · intro i hi
    unfold upd
    split
    · rfl
    · exact h5 i (by omega)
  · exact (wr_frI h _ (by omega) (by omega)).trans (wr_frI _ _ (by omega) (by omega))
theorem is_Tp.number {h : hp_M} {a n : Nat} {f : Nat → Int32} (t : is_Tp h a n f) (hn : n + 4 ≤ 2000) (x : Int32) : ∃ h', f_Tp_appendNumber a x h = some h' ∧ is_Tp h' a (n + 4) (upd (upd (upd (upd f n (ush x 24 &&& 255)) (n + 1) (ush x 16 &&& 255)) (n + 2) (ush x 8 &&& 255)) (n + 3) (x &&& 255)) ∧ fr a (a + 2) h h' ∧ h'.2 = h.2 := by
  obtain ⟨h1, e1, t1, r1, z1⟩ := t.append (by omega) (ush x 24)
  obtain ⟨h2, e2, t2, r2, z2⟩ := t1.append (by omega) (ush x 16)
  obtain ⟨h3, e3, t3, r3, z3⟩ := t2.append (by omega) (ush x 8)
  obtain ⟨h4, e4, t4, r4, z4⟩ := t3.append (by omega) x
  refine ⟨h4, ?_, t4, ((r1.trans r2).trans r3).trans r4, by omega⟩
  unfold f_Tp_appendNumber
  rw [t.on, e1]
  simp only [Option.bind_some]
  rw [t1.on, e2]
  simp only [Option.bind_some]
  rw [t2.on, e3]
  simp only [Option.bind_some]
  rw [t3.on, e4]
  rfl
theorem is_Tp.room {h : hp_M} {a n : Nat} {f : Nat → Int32} (t : is_Tp h a n f) : f_Tp_hasRoomFor a 20 h = some (if n ≤ 1980 then 1 else 0) := by
  unfold f_Tp_hasRoomFor
  rw [gI_of t.2.2.1 rfl]
  simp only [Option.bind_some]
  have hn := t.2.1
  rw [show (20 : Int32) = ix 20 from rfl, ix_add, show (2000 : Int32) = ix 2000 from rfl]
  by_cases hq : n ≤ 1980
  · rw [if_neg (ix_nlt (by omega) (by omega)), if_pos hq]
  · rw [if_pos (ix_lt1 (by omega) (by omega)), if_neg hq]
theorem is_Tp.keepFirst {h : hp_M} {a n k : Nat} {f : Nat → Int32} (t : is_Tp h a n f) (hk : k ≤ n) : ∃ h', f_Tp_keepFirst a (ix k) h = some h' ∧ is_Tp h' a k f ∧ fr a (a + 2) h h' ∧ h'.2 = h.2 := by
  have t0 := t
  obtain ⟨h1, h2, h3, g, h4, h5⟩ := t
  unfold f_Tp_keepFirst
  rw [if_neg (ix_nn (by omega)), gI_of h3 rfl]
  simp only [Option.bind_some]
  by_cases hq : n ≤ k
  · rw [if_pos (ix_le1 hq (by omega))]
    have : k = n := by omega
    subst this
    exact ⟨h, rfl, t0, fr.refl _ _ _, rfl⟩
  · rw [if_neg (ix_nle (by omega) (by omega)), pF_of h3 (by simp)]
    refine ⟨_, rfl, ⟨h1, by omega, ?_, g, ?_, fun i hi => h5 i (by omega)⟩, wr_frI h _ (by omega) (by omega), rfl⟩
    · rw [wr_self]; rfl
    · rw [wr_ne _ _ (by omega)]; exact h4
theorem is_Tp.at {h : hp_M} {a n i : Nat} {f : Nat → Int32} (t : is_Tp h a n f) (hi : i < n) : f_Tp_at a (ix i) h = some (f i) := by
  obtain ⟨h1, h2, h3, g, h4, h5⟩ := t
  unfold f_Tp_at jn
  dsimp only
  rw [if_neg (ix_nn (by omega)), gI_of h3 rfl, gR_of h3 rfl]
  simp only [Option.bind_some]
  rw [if_neg (ix_nle (by omega) (by omega)), gaI_of h4 (by omega) (by omega), h5 i hi]
  rfl
theorem is_Tp.atOut {h : hp_M} {a n i : Nat} {f : Nat → Int32} (t : is_Tp h a n f) (hi : n ≤ i) (hb : i < 2147483648) : f_Tp_at a (ix i) h = some 0 := by
  obtain ⟨h1, h2, h3, g, h4, h5⟩ := t
  unfold f_Tp_at jn
  dsimp only
  rw [if_neg (ix_nn hb), gI_of h3 rfl]
  simp only [Option.bind_some]
  rw [if_pos (ix_le1 hi hb)]
