/-! The sky of the class: a copy of another sky. -/
section
variable {a b n : Nat} {P : Nat → Nat → Int32} {wt : Nat → Int32} {pn : Nat} {pp : Nat → Int32} {d : Int32}
/-- a sky of which the planets from i on are not known -/
theorem is_Sk.grow {h : hp_M} {n0 m : Nat} {Q : Nat → Nat → Int32} (t : is_Sk h a n0 Q wt pn pp d) (hm : m ≤ 8) (d' : Int32) : ∃ Q', is_Sk (wr h a (oC 7 [.ref (a + 1), .int (ix m), .ref (a + 2), .ref (a + 3), .int d'])) a m Q' wt pn pp d' := by
  obtain ⟨h1, h2, h3, ⟨g, h4, h5⟩, ⟨g2, h6, h7⟩, h8, h9⟩ := t
  have hc : ∀ i, ∃ p : Nat → Int32, i < 8 → h.1 (a + 5 + i) = some (oC 3 (pfs p)) := fun i => by
    by_cases hi : i < 8
    · obtain ⟨p, hp, _⟩ := h9 i hi
      exact ⟨p, fun _ => hp⟩
    · exact ⟨fun _ => 0, fun q => absurd q hi⟩
  refine ⟨fun i => Classical.choose (hc i), h1, hm, wr_self _ _ _, ⟨g, ?_, h5⟩, ⟨g2, ?_, h7⟩, h8.keep (wr_fr _ _ _) (by omega), fun j hj => ?_⟩
  · rw [wr_ne _ _ (by omega)]; exact h4
  · rw [wr_ne _ _ (by omega)]; exact h6
  · refine ⟨Classical.choose (hc j), ?_, fun _ => rfl⟩
    rw [wr_ne _ _ (by omega)]
    exact Classical.choose_spec (hc j) hj
theorem is_Sk.copy_b {wt' pp' : Nat → Int32} {pn' : Nat} {d' : Int32} (hab : a + 13 ≤ b ∨ b + 13 ≤ a) (fl : Nat) (k47 : hp_M → Option hp_M) : ∀ r fu i (h : hp_M) (Q : Nat → Nat → Int32), is_Sk h a n Q wt' pn' pp' d' → is_Sk h b n P wt pn pp d → i + r = n → r < fu → ∃ h', f_Sk_copyFrom_b18 fl a b k47 fu (ix i) h = k47 h' ∧ is_Sk h' a n (fun j => if i ≤ j then P j else Q j) wt' pn' pp' d' ∧ fr a (a + 13) h h' ∧ h'.2 = h.2 := by
  intro r
  induction r with
  | zero =>
    intro fu i h Q t u hi hf
    have h8 := t.n8
    obtain ⟨fu, rfl⟩ : ∃ q, fu = q + 1 := ⟨fu - 1, by omega⟩
    have : i = n := by omega
    subst this
    unfold f_Sk_copyFrom_b18
    rw [t.rI1]
    simp only [Option.bind_some]
    rw [if_pos (ix_le1 (Nat.le_refl _) (by omega))]
    exact ⟨h, rfl, t.congr (fun j hj => by rw [if_neg (by omega)]), fr.refl _ _ _, rfl⟩
  | succ r ih =>
    intro fu i h Q t u hi hf
    have h8 := t.n8
    obtain ⟨fu, rfl⟩ : ∃ q, fu = q + 1 := ⟨fu - 1, by omega⟩
    unfold f_Sk_copyFrom_b18
    rw [t.rI1]
    simp only [Option.bind_some]
    rw [if_neg (ix_nle (by omega) (by omega)), t.rR0, u.rR0]
    simp only [Option.bind_some]
    rw [t.ga (by omega), u.ga (by omega)]
    simp only [Option.bind_some]
    rw [onO_of (t.pl (by omega)), f_Pl_copyFrom_of (t.pl (by omega)) (u.pl (by omega)) (by omega), ix_add1]
    simp only [Option.bind_some]
    have t1 := t.setPl (i := i) (by omega) (P i)
    have u1 : is_Sk (wr h (a + 5 + i) (oC 3 (pfs (P i)))) b n P wt pn pp d := u.keep (wr_fr _ _ _) (by omega)
    obtain ⟨h', e', t', r', z'⟩ := ih fu (i + 1) _ _ t1 u1 (by omega) (by omega)
    refine ⟨h', e', t'.congr (fun j hj => ?_), (wr_frI h _ (by omega) (by omega)).trans r', z'⟩
    unfold upP
    by_cases hq : j = i
    · subst hq
      rw [if_neg (by omega), if_pos (Nat.le_refl _), if_pos rfl]
    · rw [if_neg hq]
      by_cases hq2 : i ≤ j
      · rw [if_pos (by omega), if_pos hq2]
      · rw [if_neg (by omega), if_neg hq2]
theorem is_Sk.copyFrom {h : hp_M} {n0 pn' : Nat} {Q : Nat → Nat → Int32} {wt' pp' : Nat → Int32} {d' : Int32} (t : is_Sk h a n0 Q wt' pn' pp' d') (u : is_Sk h b n P wt pn pp d) (hab : a + 13 ≤ b ∨ b + 13 ≤ a) {fl : Nat} (hfl : 5000 ≤ fl) : ∃ h', f_Sk_copyFrom fl a b h = some h' ∧ is_Sk h' a n P wt pn pp d ∧ fr a (a + 13) h h' ∧ h'.2 = h.2 := by
  have h8 := u.n8
  unfold f_Sk_copyFrom
  rw [u.rI4]
  simp only [Option.bind_some]
  rw [pF_of t.2.2.1 (by simp)]
  simp only [Option.bind_some, List.set_cons_succ, List.set_cons_zero]
  have t1 := t.setObj (Nat.le_refl _) d
  have u1 : is_Sk (wr h a (oC 7 [.ref (a + 1), .int (ix n0), .ref (a + 2), .ref (a + 3), .int d])) b n P wt pn pp d := u.keep (wr_fr _ _ _) (by omega)
  rw [u1.rI1]
  simp only [Option.bind_some]
  rw [pF_of t1.2.2.1 (by simp), wr_wr]
  simp only [Option.bind_some, List.set_cons_succ, List.set_cons_zero]
  obtain ⟨Q', t2⟩ := t.grow (m := n) h8 d
  have u2 : is_Sk (wr h a (oC 7 [.ref (a + 1), .int (ix n), .ref (a + 2), .ref (a + 3), .int d])) b n P wt pn pp d := u.keep (wr_fr _ _ _) (by omega)
  obtain ⟨h3, e3, t3, r3, z3⟩ := is_Sk.copy_b hab fl _ n fl 0 _ _ t2 u2 (by omega) (by omega)
  have u3 := u2.keep r3 (by omega)
  have t3' : is_Sk h3 a n P wt' pn' pp' d := t3.congr (fun j hj => by rw [if_pos (Nat.zero_le _)])
  rw [show (0 : Int32) = ix 0 from rfl, e3, t3'.rR2, u3.rR2]
  simp only [Option.bind_some]
  obtain ⟨g1, ga1, gb1⟩ := t3'.2.2.2.2.1
  obtain ⟨g2, ga2, gb2⟩ := u3.2.2.2.2.1
  rw [show (12 : Int32) = ix 12 from rfl, cpI_of ga2 ga1 (by omega) (by omega) (by omega) (by omega)]
  simp only [Option.bind_some]
  have t4 : is_Sk (wr h3 (a + 2) (aI 12 (va_cpy g2 g1 0 0 12))) a n P wt pn' pp' d := by
    obtain ⟨h1, h2, h3', ⟨g, h4, h5⟩, _, h8, h9⟩ := t3'
    refine ⟨h1, h2, ?_, ⟨g, ?_, h5⟩, ⟨_, wr_self _ _ _, ?_⟩, h8.keep (wr_fr _ _ _) (by omega), fun j hj => ?_⟩
    · rw [wr_ne _ _ (by omega)]; exact h3'
    · rw [wr_ne _ _ (by omega)]; exact h4
    · intro i hi
      unfold va_cpy
      simp [hi, gb2 i hi]
    · obtain ⟨q, hq1, hq2⟩ := h9 j hj
      refine ⟨q, ?_, hq2⟩
      rw [wr_ne _ _ (by omega)]; exact hq1
  have u4 : is_Sk (wr h3 (a + 2) (aI 12 (va_cpy g2 g1 0 0 12))) b n P wt pn pp d := u3.keep (wr_fr _ _ _) (by omega)
  rw [t4.rR3, u4.rR3]
  simp only [Option.bind_some]
  rw [t4.paper.on]
  obtain ⟨h5, e5, t5, r5, z5⟩ := t4.paper.copyFrom u4.paper (by omega)
  rw [e5]
  refine ⟨h5, rfl, ?_, ?_, ?_⟩
  · obtain ⟨h1, h2, h3', ⟨g, h4, h5'⟩, ⟨g3, h6, h7⟩, h8, h9⟩ := t4
    have hz := r5.1
    refine ⟨by omega, h2, r5.cell h3' (by omega) (by omega), ⟨g, r5.cell h4 (by omega) (by omega), h5'⟩, ⟨g3, r5.cell h6 (by omega) (by omega), h7⟩, t5, fun j hj => ?_⟩
    obtain ⟨q, hq1, hq2⟩ := h9 j hj
    exact ⟨q, r5.cell hq1 (by omega) (by omega), hq2⟩
  · exact (((wr_frI h _ (by omega) (by omega)).trans r3).trans (wr_frI _ _ (by omega) (by omega))).trans (r5.mono (by omega) (by omega))
  · rw [z5, wr_2, z3, wr_2]
end
