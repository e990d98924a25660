/-! The paper of the class, and where a tape stands on it. -/
def is_Pp (h : hp_M) (a n : Nat) (f : Nat → Int32) : Prop := a + 2 ≤ h.2 ∧ n ≤ 600 ∧ h.1 a = some (oC 2 [.ref (a + 1), .int (ix n)]) ∧ ∃ g, h.1 (a + 1) = some (aI 600 g) ∧ ∀ i, i < n → g i = f i
theorem is_Pp.keep {h h' : hp_M} {a n lo hi : Nat} {f : Nat → Int32} (t : is_Pp h a n f) (r : fr lo hi h h') (ho : a + 2 ≤ lo ∨ hi ≤ a) : is_Pp h' a n f := by
  obtain ⟨h1, h2, h3, g, h4, h5⟩ := t
  exact ⟨Nat.le_trans h1 r.1, h2, r.cell h3 (by omega) (by omega), g, r.cell h4 (by omega) (by omega), h5⟩
theorem is_Pp.on {β : Type} {h : hp_M} {a n : Nat} {f : Nat → Int32} (t : is_Pp h a n f) (g : Option β) : onO h a 2 g = g := onO_of t.2.2.1
theorem is_Pp.size {h : hp_M} {a n : Nat} {f : Nat → Int32} (t : is_Pp h a n f) : f_Pp_size a h = some (ix n) := by
  unfold f_Pp_size; rw [gI_of t.2.2.1 rfl]; rfl
theorem is_Pp.full {h : hp_M} {a n : Nat} {f : Nat → Int32} (t : is_Pp h a n f) : f_Pp_isFull a h = some (if n < 600 then 0 else 1) := by
  unfold f_Pp_isFull
  rw [gI_of t.2.2.1 rfl]
  simp only [Option.bind_some]
  have hn := t.2.1
  rw [show (600 : Int32) = ix 600 from rfl]
  by_cases hq : n < 600
  · rw [if_pos (ix_lt1 hq (by omega)), if_pos hq]
  · rw [if_neg (ix_nlt (by omega) (by omega)), if_neg hq]
theorem is_Pp.wipe {h : hp_M} {a n : Nat} {f : Nat → Int32} (t : is_Pp h a n f) : ∃ h', f_Pp_wipe a h = some h' ∧ is_Pp h' a 0 f ∧ fr a (a + 2) h h' ∧ h'.2 = h.2 := by
  obtain ⟨h1, h2, h3, g, h4, h5⟩ := t
  unfold f_Pp_wipe
  rw [pF_of h3 (by simp)]
  refine ⟨_, rfl, ⟨h1, by omega, ?_, g, ?_, fun i hi => by omega⟩, wr_frI h _ (by omega) (by omega), rfl⟩
  · rw [wr_self]; rfl
  · rw [wr_ne _ _ (by omega)]; exact h4
theorem is_Pp.append {h : hp_M} {a n : Nat} {f : Nat → Int32} (t : is_Pp h a n f) (hn : n < 600) (x : Int32) : ∃ h', f_Pp_append a x h = some h' ∧ is_Pp h' a (n + 1) (upd f n x) ∧ fr a (a + 2) h h' ∧ h'.2 = h.2 := by
  have t0 := t
  obtain ⟨h1, h2, h3, g, h4, h5⟩ := t
  unfold f_Pp_append
  rw [t0.on, t0.full, if_pos hn]
  simp only [Option.bind_some, if_true]
  rw [gI_of h3 rfl, gR_of h3 rfl]
  simp only [Option.bind_some]
  rw [paI_of h4 (by omega) (by omega)]
  simp only [Option.bind_some]
  have h3' : (wr h (a + 1) (aI 600 (upd g n x))).1 a = some (oC 2 [.ref (a + 1), .int (ix n)]) := by
    rw [wr_ne h _ (by omega)]; exact h3
  rw [gI_of h3' rfl]
  simp only [Option.bind_some]
  rw [pF_of h3' (by simp)]
  refine ⟨_, rfl, ⟨h1, by omega, ?_, upd g n x, ?_, ?_⟩, ?_, rfl⟩
  · rw [wr_self, ix_add1]; rfl
  · rw [wr_ne _ _ (by omega), wr_self]
  · intro i hi
    unfold upd
    split
    · rfl
    · exact h5 i (by omega)
  · exact (wr_frI h _ (by omega) (by omega)).trans (wr_frI _ _ (by omega) (by omega))
theorem is_Pp.at {h : hp_M} {a n i : Nat} {f : Nat → Int32} (t : is_Pp h a n f) (hi : i < n) : f_Pp_at a (ix i) h = some (f i) := by
  obtain ⟨h1, h2, h3, g, h4, h5⟩ := t
  unfold f_Pp_at jn
  dsimp only
  rw [if_neg (ix_nn (by omega)), gI_of h3 rfl, gR_of h3 rfl]
  simp only [Option.bind_some]
  rw [if_neg (ix_nle (by omega) (by omega)), gaI_of h4 (by omega) (by omega), h5 i hi]
  rfl
theorem is_Pp.copyFrom {h : hp_M} {a b n m : Nat} {f g : Nat → Int32} (t : is_Pp h a n f) (u : is_Pp h b m g) (hab : a + 2 ≤ b ∨ b + 2 ≤ a) : ∃ h', f_Pp_copyFrom a b h = some h' ∧ is_Pp h' a m g ∧ fr a (a + 2) h h' ∧ h'.2 = h.2 := by
  obtain ⟨h1, h2, h3, g1, h4, h5⟩ := t
  obtain ⟨u1, u2, u3, g2, u4, u5⟩ := u
  unfold f_Pp_copyFrom
  rw [gI_of u3 rfl, gR_of u3 rfl, gR_of h3 rfl]
  simp only [Option.bind_some]
  rw [show (0 : Int32) = ix 0 from rfl, cpI_of u4 h4 (by omega) (by omega) (by omega) (by omega)]
  simp only [Option.bind_some]
  have u3' : (wr h (a + 1) (aI 600 (va_cpy g2 g1 0 0 m))).1 b = some (oC 2 [.ref (b + 1), .int (ix m)]) := by
    rw [wr_ne h _ (by omega)]; exact u3
  have h3' : (wr h (a + 1) (aI 600 (va_cpy g2 g1 0 0 m))).1 a = some (oC 2 [.ref (a + 1), .int (ix n)]) := by
    rw [wr_ne h _ (by omega)]; exact h3
  rw [gI_of u3' rfl]
  simp only [Option.bind_some]
  rw [pF_of h3' (by simp)]
  refine ⟨_, rfl, ⟨h1, by omega, ?_, va_cpy g2 g1 0 0 m, ?_, ?_⟩, ?_, rfl⟩
  · rw [wr_self]; rfl
  · rw [wr_ne _ _ (by omega), wr_self]
  · intro i hi
    unfold va_cpy
    simp [hi, u5 i hi]
  · exact (wr_frI h _ (by omega) (by omega)).trans (wr_frI _ _ (by omega) (by omega))
/-- the tape (tn signs of tp) stands on the paper at k -/
def hit (pp tp : Nat → Int32) (tn k : Nat) : Bool := decide (∀ j, j < tn → pp (k + j) = tp j)
theorem hit_iff {pp tp : Nat → Int32} {tn k : Nat} : hit pp tp tn k = true ↔ ∀ j, j < tn → pp (k + j) = tp j := by unfold hit; exact decide_eq_true_iff
theorem is_Pp.isAt_b {h : hp_M} {a b n m k fl : Nat} {f g : Nat → Int32} (t : is_Pp h a n f) (u : is_Tp h b m g) (hk : k + m ≤ n) : ∀ r fu i, i + r = m → r < fu → (∀ j, j < i → f (k + j) = g j) → f_Pp_isAt_b2 fl a (ix k) b h fu (ix i) = some (if hit f g m k then 1 else 0) := by
  have hm := u.2.1
  have hn := t.2.1
  intro r
  induction r with
  | zero =>
    intro fu i hi hf hj
    obtain ⟨fu, rfl⟩ : ∃ q, fu = q + 1 := ⟨fu - 1, by omega⟩
    have : i = m := by omega
    subst this
    unfold f_Pp_isAt_b2
    rw [u.on, u.size]
    simp only [Option.bind_some]
    rw [if_pos (ix_le1 (Nat.le_refl _) (by omega)), if_pos (hit_iff.mpr hj)]
  | succ r ih =>
    intro fu i hi hf hj
    obtain ⟨fu, rfl⟩ : ∃ q, fu = q + 1 := ⟨fu - 1, by omega⟩
    unfold f_Pp_isAt_b2
    rw [u.on, u.size]
    simp only [Option.bind_some]
    rw [if_neg (ix_nle (by omega) (by omega)), t.on, ix_add, t.at (by omega)]
    simp only [Option.bind_some]
    rw [u.on, u.at (by omega)]
    simp only [Option.bind_some]
    by_cases he : f (k + i) = g i
    · rw [if_pos he, ix_add1]
      refine ih fu (i + 1) (by omega) (by omega) (fun j hj' => ?_)
      by_cases hq : j = i
      · subst hq; exact he
      · exact hj j (by omega)
    · rw [if_neg he, if_neg (fun q => he (hit_iff.mp q i (by omega)))]
def plc (pp : Nat → Int32) (pn : Nat) (tp : Nat → Int32) (tn : Nat) : Nat → Nat → Int32
  | 0, _ => -1
  | r + 1, k => if pn < k + tn then -1 else if hit pp tp tn k then ix k else plc pp pn tp tn r (k + 1)
theorem is_Pp.placeOf_b {h : hp_M} {a b n m fl : Nat} {f g : Nat → Int32} (t : is_Pp h a n f) (u : is_Tp h b m g) (hfl : 5000 ≤ fl) (hm0 : 0 < m) : ∀ r fu k, n < k + r → k ≤ 3000 → r < fu → f_Pp_placeOf_b11 fl a b h fu (ix k) = some (plc f n g m r k) := by
  have hm := u.2.1
  have hn := t.2.1
  intro r
  induction r with
  | zero =>
    intro fu k h1 hk h2
    obtain ⟨fu, rfl⟩ : ∃ q, fu = q + 1 := ⟨fu - 1, by omega⟩
    unfold f_Pp_placeOf_b11 plc
    rw [u.on, u.size, gI_of t.2.2.1 rfl]
    simp only [Option.bind_some]
    rw [ix_add, if_pos (ix_lt1 (by omega) (by omega))]
  | succ r ih =>
    intro fu k h1 hk h2
    obtain ⟨fu, rfl⟩ : ∃ q, fu = q + 1 := ⟨fu - 1, by omega⟩
    unfold f_Pp_placeOf_b11 plc
    rw [u.on, u.size, gI_of t.2.2.1 rfl]
    simp only [Option.bind_some]
    rw [ix_add]
    by_cases hq : n < k + m
    · rw [if_pos (ix_lt1 (by omega) (by omega)), if_pos hq]
    · rw [if_neg (ix_nlt (by omega) (by omega)), if_neg hq, t.on]
      unfold f_Pp_isAt
      rw [show (0 : Int32) = ix 0 from rfl, t.isAt_b u (by omega) m fl 0 (by omega) (by omega) (fun j hj => by omega)]
      simp only [Option.bind_some]
      by_cases hh : hit f g m k
      · simp only [if_pos hh]
        rw [if_neg (by decide)]
      · simp only [if_neg hh]
        rw [if_pos (by decide), ix_add1]
        exact ih fu (k + 1) (by omega) (by omega) (by omega)
/-- the answer of a search from k on -/
def fnd (pp : Nat → Int32) (pn : Nat) (tp : Nat → Int32) (tn k : Nat) : Int32 := if tn = 0 then -1 else plc pp pn tp tn 700 k
theorem is_Pp.placeOf {h : hp_M} {a b n m fl k : Nat} {f g : Nat → Int32} (t : is_Pp h a n f) (u : is_Tp h b m g) (hfl : 5000 ≤ fl) (hk : k ≤ 3000) : f_Pp_placeOf fl a b (ix k) h = some (fnd f n g m k) := by
  have hm := u.2.1
  have hn := t.2.1
  unfold f_Pp_placeOf fnd
  rw [u.on, u.size]
  simp only [Option.bind_some]
  by_cases hq : m = 0
  · rw [if_pos hq, hq, if_pos (by decide)]
  · rw [if_neg hq, show (0 : Int32) = ix 0 from rfl, if_neg (ix_ne hq (by omega) (by omega)), t.placeOf_b u hfl (by omega) 700 fl k (by omega) hk (by omega)]
