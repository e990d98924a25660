/-! A State becomes another one; where the tape is. -/
section
variable {h h' : hp_M} {m a b n : Nat} {x4 x5 x6 y4 y5 y6 : Nat → Int32} {wt wt' : Nat → Int32} {pn pn' : Nat} {pp pp' : Nat → Int32} {d d' : Int32}
theorem is_St.grow {n0 : Nat} (s : is_St h m a n0 x4 x5 x6 wt pn pp d) (hn : n ≤ 8) : ∃ y4 y5 y6, is_St h m a n y4 y5 y6 wt pn pp d := by
  obtain ⟨h1, h2, h3, h4, ⟨g1, a1, b1⟩, ⟨g2, a2, b2⟩, ⟨g3, a3, b3⟩, h8⟩ := s
  exact ⟨g1, g2, g3, h1, hn, h3, h4, ⟨g1, a1, fun _ _ => rfl⟩, ⟨g2, a2, fun _ _ => rfl⟩, ⟨g3, a3, fun _ _ => rfl⟩, h8⟩
theorem is_St.putN' (s : is_St h m a n x4 x5 x6 wt pn pp d) {k : Nat} (hk : k ≤ 600) : ∃ h' pp', pF h a 10 6 (.int (ix k)) = some h' ∧ is_St h' m a n x4 x5 x6 wt k pp' d ∧ fr a (a + 7) h h' ∧ h'.2 = h.2 := by
  obtain ⟨h1, h2, h3, h4, ⟨g1, a1, b1⟩, ⟨g2, a2, b2⟩, ⟨g3, a3, b3⟩, ⟨g4, a4, b4⟩, ⟨g5, a5, b5⟩, ⟨g6, a6⟩⟩ := s
  refine ⟨_, g5, pF_of h4 (by simp), ⟨h1, h2, hk, ?_, ⟨g1, ?_, b1⟩, ⟨g2, ?_, b2⟩, ⟨g3, ?_, b3⟩, ⟨g4, ?_, b4⟩, ⟨g5, ?_, fun _ _ => rfl⟩, ⟨g6, ?_⟩⟩, wr_frI _ _ (by omega) (by omega), rfl⟩
  any_goals (rw [wr_ne _ _ (by omega)]; assumption)
  rw [wr_self]; rfl
theorem St_copy {x y N : Nat} {f g : Nat → Int32} (e1 : h.1 x = some (aI N f)) (e2 : h.1 y = some (aI N g)) (hN : N < 2147483648) : f_St_copy a x y h = some (wr h y (aI N (va_cpy f g 0 0 N))) := by
  unfold f_St_copy
  rw [gLen_of e1]
  simp only [Option.bind_some]
  rw [show (0 : Int32) = ix 0 from rfl, cpI_of e1 e2 (by omega) (by omega) hN hN]
  rfl
theorem cpy_at (f g : Nat → Int32) {N i : Nat} (hi : i < N) : va_cpy f g 0 0 N i = f i := by unfold va_cpy; simp [hi]
theorem is_St.cp1 (s : is_St h m a n y4 y5 y6 wt pn pp d) (u : is_St h m b n x4 x5 x6 wt' pn' pp' d') : ∃ h', f_St_copy a (b + 1) (a + 1) h = some h' ∧ is_St h' m a n x4 y5 y6 wt pn pp d ∧ fr a (a + 7) h h' ∧ h'.2 = h.2 := by
  obtain ⟨h1, h2, h3, h4, ⟨g1, a1, b1⟩, ⟨g2, a2, b2⟩, ⟨g3, a3, b3⟩, ⟨g4, a4, b4⟩, ⟨g5, a5, b5⟩, ⟨g6, a6⟩⟩ := s
  obtain ⟨_, _, _, _, ⟨k1, c1, d1⟩, _⟩ := u
  refine ⟨_, St_copy c1 a1 (by omega), ⟨h1, h2, h3, ?_, ⟨_, wr_self _ _ _, fun j hj => (cpy_at _ _ (by omega)).trans (d1 j hj)⟩, ⟨g2, ?_, b2⟩, ⟨g3, ?_, b3⟩, ⟨g4, ?_, b4⟩, ⟨g5, ?_, b5⟩, ⟨g6, ?_⟩⟩, wr_frI _ _ (by omega) (by omega), rfl⟩
  all_goals (rw [wr_ne _ _ (by omega)]; assumption)
theorem is_St.cp2 (s : is_St h m a n y4 y5 y6 wt pn pp d) (u : is_St h m b n x4 x5 x6 wt' pn' pp' d') : ∃ h', f_St_copy a (b + 2) (a + 2) h = some h' ∧ is_St h' m a n y4 x5 y6 wt pn pp d ∧ fr a (a + 7) h h' ∧ h'.2 = h.2 := by
  obtain ⟨h1, h2, h3, h4, ⟨g1, a1, b1⟩, ⟨g2, a2, b2⟩, ⟨g3, a3, b3⟩, ⟨g4, a4, b4⟩, ⟨g5, a5, b5⟩, ⟨g6, a6⟩⟩ := s
  obtain ⟨_, _, _, _, _, ⟨k1, c1, d1⟩, _⟩ := u
  refine ⟨_, St_copy c1 a2 (by omega), ⟨h1, h2, h3, ?_, ⟨g1, ?_, b1⟩, ⟨_, wr_self _ _ _, fun j hj => (cpy_at _ _ (by omega)).trans (d1 j hj)⟩, ⟨g3, ?_, b3⟩, ⟨g4, ?_, b4⟩, ⟨g5, ?_, b5⟩, ⟨g6, ?_⟩⟩, wr_frI _ _ (by omega) (by omega), rfl⟩
  all_goals (rw [wr_ne _ _ (by omega)]; assumption)
theorem is_St.cp3 (s : is_St h m a n y4 y5 y6 wt pn pp d) (u : is_St h m b n x4 x5 x6 wt' pn' pp' d') : ∃ h', f_St_copy a (b + 3) (a + 3) h = some h' ∧ is_St h' m a n y4 y5 x6 wt pn pp d ∧ fr a (a + 7) h h' ∧ h'.2 = h.2 := by
  obtain ⟨h1, h2, h3, h4, ⟨g1, a1, b1⟩, ⟨g2, a2, b2⟩, ⟨g3, a3, b3⟩, ⟨g4, a4, b4⟩, ⟨g5, a5, b5⟩, ⟨g6, a6⟩⟩ := s
  obtain ⟨_, _, _, _, _, _, ⟨k1, c1, d1⟩, _⟩ := u
  refine ⟨_, St_copy c1 a3 (by omega), ⟨h1, h2, h3, ?_, ⟨g1, ?_, b1⟩, ⟨g2, ?_, b2⟩, ⟨_, wr_self _ _ _, fun j hj => (cpy_at _ _ (by omega)).trans (d1 j hj)⟩, ⟨g4, ?_, b4⟩, ⟨g5, ?_, b5⟩, ⟨g6, ?_⟩⟩, wr_frI _ _ (by omega) (by omega), rfl⟩
  all_goals (rw [wr_ne _ _ (by omega)]; assumption)
theorem is_St.cp4 (s : is_St h m a n y4 y5 y6 wt pn pp d) (u : is_St h m b n x4 x5 x6 wt' pn' pp' d') : ∃ h', f_St_copy a (b + 4) (a + 4) h = some h' ∧ is_St h' m a n y4 y5 y6 wt' pn pp d ∧ fr a (a + 7) h h' ∧ h'.2 = h.2 := by
  obtain ⟨h1, h2, h3, h4, ⟨g1, a1, b1⟩, ⟨g2, a2, b2⟩, ⟨g3, a3, b3⟩, ⟨g4, a4, b4⟩, ⟨g5, a5, b5⟩, ⟨g6, a6⟩⟩ := s
  obtain ⟨_, _, _, _, _, _, _, ⟨k1, c1, d1⟩, _⟩ := u
  refine ⟨_, St_copy c1 a4 (by omega), ⟨h1, h2, h3, ?_, ⟨g1, ?_, b1⟩, ⟨g2, ?_, b2⟩, ⟨g3, ?_, b3⟩, ⟨_, wr_self _ _ _, fun j hj => (cpy_at _ _ (by omega)).trans (d1 j hj)⟩, ⟨g5, ?_, b5⟩, ⟨g6, ?_⟩⟩, wr_frI _ _ (by omega) (by omega), rfl⟩
  all_goals (rw [wr_ne _ _ (by omega)]; assumption)
theorem is_St.cp5 (s : is_St h m a n y4 y5 y6 wt pn pp d) (u : is_St h m b n x4 x5 x6 wt' pn pp' d') : ∃ h', f_St_copy a (b + 5) (a + 5) h = some h' ∧ is_St h' m a n y4 y5 y6 wt pn pp' d ∧ fr a (a + 7) h h' ∧ h'.2 = h.2 := by
  obtain ⟨h1, h2, h3, h4, ⟨g1, a1, b1⟩, ⟨g2, a2, b2⟩, ⟨g3, a3, b3⟩, ⟨g4, a4, b4⟩, ⟨g5, a5, b5⟩, ⟨g6, a6⟩⟩ := s
  obtain ⟨_, _, _, _, _, _, _, _, ⟨k1, c1, d1⟩, _⟩ := u
  refine ⟨_, St_copy c1 a5 (by omega), ⟨h1, h2, h3, ?_, ⟨g1, ?_, b1⟩, ⟨g2, ?_, b2⟩, ⟨g3, ?_, b3⟩, ⟨g4, ?_, b4⟩, ⟨_, wr_self _ _ _, fun j hj => (cpy_at _ _ (by omega)).trans (d1 j hj)⟩, ⟨g6, ?_⟩⟩, wr_frI _ _ (by omega) (by omega), rfl⟩
  all_goals (rw [wr_ne _ _ (by omega)]; assumption)
theorem is_St.become {n0 : Nat} (s : is_St h m a n0 y4 y5 y6 wt' pn' pp' d') (u : is_St h m b n x4 x5 x6 wt pn pp d) (hab : a + 7 ≤ b ∨ b + 7 ≤ a) : ∃ h', f_St_become a b h = some h' ∧ is_St h' m a n x4 x5 x6 wt pn pp d ∧ fr a (a + 7) h h' ∧ h'.2 = h.2 := by
  obtain ⟨z4, z5, z6, s0⟩ := s.grow u.n8
  obtain ⟨h1, e1, s1, r1, q1⟩ := s0.putD d
  have u1 := u.keep r1 (by omega)
  obtain ⟨h2, pp2, e2, s2, r2, q2⟩ := s1.putN' u.pn6
  have u2 := u1.keep r2 (by omega)
  obtain ⟨h3, e3, s3, r3, q3⟩ := s2.cp1 u2
  have u3 := u2.keep r3 (by omega)
  obtain ⟨h4, e4, s4, r4, q4⟩ := s3.cp2 u3
  have u4 := u3.keep r4 (by omega)
  obtain ⟨h5, e5, s5, r5, q5⟩ := s4.cp3 u4
  have u5 := u4.keep r5 (by omega)
  obtain ⟨h6, e6, s6, r6, q6⟩ := s5.cp4 u5
  have u6 := u5.keep r6 (by omega)
  obtain ⟨h7, e7, s7, r7, q7⟩ := s6.cp5 u6
  refine ⟨h7, ?_, s7, (((((r1.trans r2).trans r3).trans r4).trans r5).trans r6).trans r7, by omega⟩
  unfold f_St_become
  simp only [u.r0, e1, u1.r6, e2, u2.r1, s2.r1, s2.on, e3, u3.r2, s3.r2, s3.on, e4, u4.r3, s4.r3, s4.on, e5, u5.r4, s5.r4, s5.on, e6, u6.r5, s6.r5, s6.on, e7, Option.bind_some]
end
section
variable {h : hp_M} {m a n t : Nat} {x4 x5 x6 : Nat → Int32} {wt : Nat → Int32} {pn : Nat} {pp : Nat → Int32} {d : Int32} {th : Int32} {tn : Nat} {tp : Nat → Int32} {ea tk dp : Int32} {rd : Nat}
theorem is_St.find_b32 (s : is_St h m a n x4 x5 x6 wt pn pp d) (o : is_Mo h m th tn tp ea tk dp t rd) (fl k : Nat) (hk : k + tn ≤ pn) (K : Int32 → Option Int32) : ∀ r fu i, i + r = tn → r < fu → (∀ j, j < i → pp (k + j) = tp j) → ∃ e, f_St_find_b32 fl a (ix k) h K fu (ix i) = K (ix e) ∧ e ≤ tn ∧ (e = tn ↔ hit pp tp tn k = true) := by
  have h6 := s.pn6
  intro r
  induction r with
  | zero =>
    intro fu i hi hf hj
    obtain ⟨fu, rfl⟩ : ∃ q, fu = q + 1 := ⟨fu - 1, by omega⟩
    have : i = tn := by omega
    subst this
    refine ⟨i, ?_, Nat.le_refl _, fun _ => hit_iff.mpr hj, fun _ => rfl⟩
    unfold f_St_find_b32
    simp only [s.r8, o.r2, Option.bind_some]
    rw [if_pos (ix_le1 (Nat.le_refl _) (by omega))]
  | succ r ih =>
    intro fu i hi hf hj
    obtain ⟨fu, rfl⟩ : ∃ q, fu = q + 1 := ⟨fu - 1, by omega⟩
    unfold f_St_find_b32
    simp only [s.r8, s.r5, o.r2, o.r1, ix_add, s.pap (show k + i < pn by omega), o.ga (show i < tn by omega), Option.bind_some, ixp1]
    rw [if_neg (ix_nle (by omega) (by omega))]
    by_cases he : pp (k + i) = tp i
    · rw [if_pos he]
      refine ih fu (i + 1) (by omega) (by omega) (fun j hj' => ?_)
      by_cases hq : j = i
      · subst hq; exact he
      · exact hj j (by omega)
    · rw [if_neg he]
      exact ⟨i, rfl, by omega, fun q => by omega, fun q => absurd (hit_iff.mp q i (by omega)) he⟩
theorem is_St.find_b14 (s : is_St h m a n x4 x5 x6 wt pn pp d) (o : is_Mo h m th tn tp ea tk dp t rd) {fl : Nat} (hfl : 5000 ≤ fl) : ∀ r fu k, pn < k + r → k ≤ 3000 → r < fu → 0 < tn → f_St_find_b14 fl a h fu (ix k) = some (plc pp pn tp tn r k) := by
  have h6 := s.pn6
  have h2 := o.tn2
  intro r
  induction r with
  | zero =>
    intro fu k h1 hk hf ht
    obtain ⟨fu, rfl⟩ : ∃ q, fu = q + 1 := ⟨fu - 1, by omega⟩
    unfold f_St_find_b14 plc
    simp only [s.r8, s.r6, o.r2, ix_add, Option.bind_some]
    rw [if_pos (ix_lt1 (by omega) (by omega))]
  | succ r ih =>
    intro fu k h1 hk hf ht
    obtain ⟨fu, rfl⟩ : ∃ q, fu = q + 1 := ⟨fu - 1, by omega⟩
    unfold f_St_find_b14 plc
    simp only [s.r8, s.r6, o.r2, ix_add, ixp1, Option.bind_some]
    by_cases hq : pn < k + tn
    · rw [if_pos (ix_lt1 (by omega) (by omega)), if_pos hq]
    · rw [if_neg (ix_nlt (by omega) (by omega)), if_neg hq]
      obtain ⟨e, e1, e2, e3⟩ := s.find_b32 o fl k (by omega) (fun u1008 => if u1008 = ix tn then some (ix k) else f_St_find_b14 fl a h fu (ix (k + 1))) tn fl 0 (by omega) (by omega) (fun j hj => by omega)
      rw [show (0 : Int32) = ix 0 from rfl, e1]
      by_cases hh : hit pp tp tn k = true
      · rw [if_pos hh, e3.mpr hh, if_pos rfl]
      · rw [if_neg hh, if_neg (fun q => hh (e3.mp ((ix_inj (by omega) (by omega)).mp q)))]
        exact ih fu (k + 1) (by omega) (by omega) (by omega) ht
theorem is_St.find (s : is_St h m a n x4 x5 x6 wt pn pp d) (o : is_Mo h m th tn tp ea tk dp t rd) {fl k : Nat} (hfl : 5000 ≤ fl) (hk : k ≤ 3000) : f_St_find fl a (ix k) h = some (fnd pp pn tp tn k) := by
  have h6 := s.pn6
  have h2 := o.tn2
  unfold f_St_find fnd
  simp only [s.r8, o.r2, Option.bind_some]
  by_cases hq : tn = 0
  · rw [if_pos hq, hq, if_pos (by decide)]
  · rw [if_neg hq, show (0 : Int32) = ix 0 from rfl, if_neg (ix_ne hq (by omega) (by omega))]
    have := s.find_b14 o hfl 700 fl k (by omega) hk (by omega) (by omega)
    exact this
end
