/-! The sky of the class: what changes it. -/
def upP (P : Nat → Nat → Int32) (i : Nat) (p : Nat → Int32) : Nat → Nat → Int32 := fun j => if j = i then p else P j
section
variable {h : hp_M} {a n : Nat} {P : Nat → Nat → Int32} {wt : Nat → Int32} {pn : Nat} {pp : Nat → Int32} {d : Int32}
theorem is_Sk.congr {Q : Nat → Nat → Int32} (t : is_Sk h a n P wt pn pp d) (e : ∀ i, i < n → P i = Q i) : is_Sk h a n Q wt pn pp d := by
  obtain ⟨h1, h2, h3, h4, h5, h6, h7⟩ := t
  refine ⟨h1, h2, h3, h4, h5, h6, fun i hi => ?_⟩
  obtain ⟨p, hp, hq⟩ := h7 i hi
  exact ⟨p, hp, fun q => (hq q).trans (e i q)⟩
theorem is_Sk.setPl (t : is_Sk h a n P wt pn pp d) {i : Nat} (hi : i < 8) (p : Nat → Int32) : is_Sk (wr h (a + 5 + i) (oC 3 (pfs p))) a n (upP P i p) wt pn pp d := by
  obtain ⟨h1, h2, h3, ⟨g, h4, h5⟩, ⟨g2, h6, h7⟩, h8, h9⟩ := t
  refine ⟨h1, h2, ?_, ⟨g, ?_, h5⟩, ⟨g2, ?_, h7⟩, h8.keep (wr_fr _ _ _) (by omega), fun j hj => ?_⟩
  · rw [wr_ne _ _ (by omega)]; exact h3
  · rw [wr_ne _ _ (by omega)]; exact h4
  · rw [wr_ne _ _ (by omega)]; exact h6
  · by_cases hq : j = i
    · subst hq
      exact ⟨p, wr_self _ _ _, fun _ => by unfold upP; rw [if_pos rfl]⟩
    · obtain ⟨q, hq1, hq2⟩ := h9 j hj
      refine ⟨q, ?_, fun hn => ?_⟩
      · rw [wr_ne _ _ (by omega)]; exact hq1
      · unfold upP; rw [if_neg hq]; exact hq2 hn
theorem is_Sk.setObj (t : is_Sk h a n P wt pn pp d) {n' : Nat} (hn : n' ≤ n) (d' : Int32) : is_Sk (wr h a (oC 7 [.ref (a + 1), .int (ix n'), .ref (a + 2), .ref (a + 3), .int d'])) a n' P wt pn pp d' := by
  obtain ⟨h1, h2, h3, ⟨g, h4, h5⟩, ⟨g2, h6, h7⟩, h8, h9⟩ := t
  refine ⟨h1, by omega, wr_self _ _ _, ⟨g, ?_, h5⟩, ⟨g2, ?_, h7⟩, h8.keep (wr_fr _ _ _) (by omega), fun j hj => ?_⟩
  · rw [wr_ne _ _ (by omega)]; exact h4
  · rw [wr_ne _ _ (by omega)]; exact h6
  · obtain ⟨q, hq1, hq2⟩ := h9 j hj
    refine ⟨q, ?_, fun hn => hq2 (by omega)⟩
    rw [wr_ne _ _ (by omega)]; exact hq1
theorem is_Sk.turn_b (fl : Nat) : ∀ r fu i (h : hp_M) (P : Nat → Nat → Int32), is_Sk h a n P wt pn pp d → okY n P → i + r = n → r < fu → ∃ h', f_Sk_turn_b12 fl a fu (ix i) h = some h' ∧ is_Sk h' a n (fun j => if i ≤ j then mv (P j) d else P j) wt pn pp d ∧ fr a (a + 13) h h' ∧ h'.2 = h.2 := by
  intro r
  induction r with
  | zero =>
    intro fu i h P t ok hi hf
    have h8 := t.n8
    obtain ⟨fu, rfl⟩ : ∃ q, fu = q + 1 := ⟨fu - 1, by omega⟩
    have : i = n := by omega
    subst this
    unfold f_Sk_turn_b12
    rw [t.rI1]
    simp only [Option.bind_some]
    rw [if_pos (ix_le1 (Nat.le_refl _) (by omega))]
    exact ⟨h, rfl, t.congr (fun j hj => by rw [if_neg (by omega)]), fr.refl _ _ _, rfl⟩
  | succ r ih =>
    intro fu i h P t ok hi hf
    have h8 := t.n8
    obtain ⟨fu, rfl⟩ : ∃ q, fu = q + 1 := ⟨fu - 1, by omega⟩
    unfold f_Sk_turn_b12
    rw [t.rI1]
    simp only [Option.bind_some]
    rw [if_neg (ix_nle (by omega) (by omega)), t.rR0]
    simp only [Option.bind_some]
    rw [t.ga (by omega)]
    simp only [Option.bind_some]
    rw [t.rI4]
    simp only [Option.bind_some]
    rw [onO_of (t.pl (by omega)), f_Pl_turn_of (t.pl (by omega)) (ok i (by omega)).ev, ix_add1]
    simp only [Option.bind_some]
    -- the rest sees planets from i + 1 on, which are as they were
    have t1 := t.setPl (i := i) (by omega) (mv (P i) d)
    have key : ∀ (r fu k : Nat) (h : hp_M) (Q : Nat → Nat → Int32), is_Sk h a n Q wt pn pp d → (∀ j, k ≤ j → j < n → okp (Q j)) → k + r = n → r < fu → ∃ h', f_Sk_turn_b12 fl a fu (ix k) h = some h' ∧ is_Sk h' a n (fun j => if k ≤ j then mv (Q j) d else Q j) wt pn pp d ∧ fr a (a + 13) h h' ∧ h'.2 = h.2 := by
      intro r
      induction r with
      | zero =>
        intro fu i h P t ok hi hf
        obtain ⟨fu, rfl⟩ : ∃ q, fu = q + 1 := ⟨fu - 1, by omega⟩
        have : i = n := by omega
        subst this
        unfold f_Sk_turn_b12
        rw [t.rI1]
        simp only [Option.bind_some]
        rw [if_pos (ix_le1 (Nat.le_refl _) (by omega))]
        exact ⟨h, rfl, t.congr (fun j hj => by rw [if_neg (by omega)]), fr.refl _ _ _, rfl⟩
      | succ r ih =>
        intro fu i h P t ok hi hf
        obtain ⟨fu, rfl⟩ : ∃ q, fu = q + 1 := ⟨fu - 1, by omega⟩
        unfold f_Sk_turn_b12
        rw [t.rI1]
        simp only [Option.bind_some]
        rw [if_neg (ix_nle (by omega) (by omega)), t.rR0]
        simp only [Option.bind_some]
        rw [t.ga (by omega)]
        simp only [Option.bind_some]
        rw [t.rI4]
        simp only [Option.bind_some]
        rw [onO_of (t.pl (by omega)), f_Pl_turn_of (t.pl (by omega)) (ok i (by omega) (by omega)).ev, ix_add1]
        simp only [Option.bind_some]
        have t1 := t.setPl (i := i) (by omega) (mv (P i) d)
        obtain ⟨h', e', t', r', z'⟩ := ih fu (i + 1) _ _ t1 (fun j hj hn => by unfold upP; rw [if_neg (by omega)]; exact ok j (by omega) hn) (by omega) (by omega)
        refine ⟨h', e', t'.congr (fun j hj => ?_), (wr_frI h _ (by omega) (by omega)).trans r', z'⟩
        unfold upP
        by_cases hq : j = i
        · subst hq
          rw [if_neg (by omega), if_pos (Nat.le_refl _), if_pos rfl]
        · rw [if_neg hq]
          by_cases hq2 : i ≤ j
          · rw [if_pos (by omega), if_pos hq2]
          · rw [if_neg (by omega), if_neg hq2]
    obtain ⟨h', e', t', r', z'⟩ := key r fu (i + 1) _ _ t1 (fun j hj hn => by unfold upP; rw [if_neg (by omega)]; exact ok j hn) (by omega) (by omega)
    refine ⟨h', e', t'.congr (fun j hj => ?_), (wr_frI h _ (by omega) (by omega)).trans r', z'⟩
    unfold upP
    by_cases hq : j = i
    · subst hq
      rw [if_neg (by omega), if_pos (Nat.le_refl _), if_pos rfl]
    · rw [if_neg hq]
      by_cases hq2 : i ≤ j
      · rw [if_pos (by omega), if_pos hq2]
      · rw [if_neg (by omega), if_neg hq2]
theorem is_Sk.turn (t : is_Sk h a n P wt pn pp d) (ok : okY n P) {fl : Nat} (hfl : 5000 ≤ fl) : ∃ h', f_Sk_turn fl a h = some h' ∧ is_Sk h' a n (fun j => mv (P j) (d + 1)) wt pn pp (d + 1) ∧ fr a (a + 13) h h' ∧ h'.2 = h.2 := by
  have h8 := t.n8
  unfold f_Sk_turn
  rw [t.rI4]
  simp only [Option.bind_some]
  rw [pF_of t.2.2.1 (by simp)]
  simp only [Option.bind_some]
  have t1 := t.setObj (Nat.le_refl n) (d + 1)
  obtain ⟨h', e', t', r', z'⟩ := is_Sk.turn_b fl n fl 0 _ _ t1 ok (by omega) (by omega)
  exact ⟨h', e', t'.congr (fun j hj => by rw [if_pos (Nat.zero_le _)]), (wr_frI h _ (by omega) (by omega)).trans r', z'⟩
theorem is_Sk.putAt (t : is_Sk h a n P wt pn pp d) {i : Nat} (hi : i < n) (x : Int32) : ∃ h', f_Sk_putAt a (ix i) x h = some h' ∧ is_Sk h' a n (upP P i (upd (upd (P i) 4 x) 5 x)) wt pn pp d ∧ fr a (a + 13) h h' ∧ h'.2 = h.2 := by
  have h8 := t.n8
  unfold f_Sk_putAt
  rw [t.on, t.has hi]
  simp only [Option.bind_some]
  rw [if_neg (by decide), t.rR0]
  simp only [Option.bind_some]
  rw [t.ga (by omega)]
  simp only [Option.bind_some]
  rw [onO_of (t.pl hi), f_Pl_putAt_of (t.pl hi)]
  exact ⟨_, rfl, t.setPl (by omega) _, wr_frI h _ (by omega) (by omega), rfl⟩
end
theorem okp.mv {p : Nat → Int32} (o : okp p) (d : Int32) : okp (mv p d) := by
  obtain ⟨⟨a1, a2⟩, ⟨b1, b2, b3⟩, ⟨c1, c2⟩, ⟨d1, d2⟩⟩ := o
  have n1 : (-(p 1)).toInt = -(p 1).toInt := i32_neg (by omega)
  have hb : -360 ≤ (mvt p d).toInt ∧ (mvt p d).toInt < 720 := by
    unfold mvt
    split
    · rw [i32_add] <;> omega
    · rw [i32_add] <;> rw [n1] <;> omega
  have ha := adj_bd hb.1 hb.2
  refine ⟨⟨?_, ?_⟩, ⟨?_, ?_, ?_⟩, ⟨?_, ?_⟩, ⟨?_, ?_⟩⟩ <;> simp only [_root_.id, Jvm.Pilot.CShadowSpellLaw_law_r9225_03f26d.mv] <;> simp <;> omega
