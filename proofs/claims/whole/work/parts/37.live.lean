/-! Days of the class. -/
def letV (A : Nat → List Int32) (k : Nat) (x : Int32) : Int32 := (A k).getD (fm x (ix (A k).length)).toInt.toNat 0
def rulV (P : Nat → Nat → Int32) (d : Int32) (A : Nat → List Int32) : List (List (Nat × Nat × Nat) × List (Nat × Nat × Nat) × Nat) → Nat → Nat × (Nat → Int32) × (Nat → Int32) → Nat × (Nat → Int32) × (Nat → Int32)
  | [], _, z => z
  | R :: L, i, z => if z.1 < 600 ∧ valV (askV P z.1 d) R.1 ≠ 0 then rulV P d A L (i + 1) (z.1 + 1, upd z.2.1 z.1 (letV A R.2.2 (valV (askV P z.1 d) R.2.1)), upd z.2.2 i (z.2.2 i + 1)) else rulV P d A L (i + 1) z
section
variable {h : hp_M} {a n : Nat} {P : Nat → Nat → Int32} {wt : Nat → Int32} {pn : Nat} {pp : Nat → Int32} {d : Int32}
theorem is_Sk.setPp {h' : hp_M} {pn' : Nat} {pp' : Nat → Int32} (t : is_Sk h a n P wt pn pp d) (u : is_Pp h' (a + 3) pn' pp') (r : fr (a + 3) (a + 5) h h') : is_Sk h' a n P wt pn' pp' d := by
  obtain ⟨h1, h2, h3', ⟨g, h4, h5'⟩, ⟨g3, h6, h7⟩, h8, h9⟩ := t
  refine ⟨Nat.le_trans h1 r.1, h2, r.cell h3' (by omega) (by omega), ⟨g, r.cell h4 (by omega) (by omega), h5'⟩, ⟨g3, r.cell h6 (by omega) (by omega), h7⟩, u, fun j hj => ?_⟩
  obtain ⟨q, hq1, hq2⟩ := h9 j hj
  exact ⟨q, r.cell hq1 (by omega) (by omega), hq2⟩
theorem is_Sk.setWt (t : is_Sk h a n P wt pn pp d) {i : Nat} (hi : i < 12) (x : Int32) : ∃ h', paI h (a + 2) (ix i) x = some h' ∧ is_Sk h' a n P (upd wt i x) pn pp d ∧ fr a (a + 13) h h' ∧ h'.2 = h.2 := by
  obtain ⟨h1, h2, h3, ⟨g, h4, h5⟩, ⟨g2, h6, h7⟩, h8, h9⟩ := t
  rw [paI_of h6 hi (by omega)]
  refine ⟨_, rfl, ⟨h1, h2, ?_, ⟨g, ?_, h5⟩, ⟨_, wr_self _ _ _, ?_⟩, h8.keep (wr_fr _ _ _) (by omega), fun j hj => ?_⟩, wr_frI h _ (by omega) (by omega), rfl⟩
  · rw [wr_ne _ _ (by omega)]; exact h3
  · rw [wr_ne _ _ (by omega)]; exact h4
  · intro j hj
    unfold upd
    split
    · rfl
    · exact h7 j hj
  · obtain ⟨q, hq1, hq2⟩ := h9 j hj
    refine ⟨q, ?_, hq2⟩
    rw [wr_ne _ _ (by omega)]; exact hq1
end
def alV (al : List (Int64 × List Int32)) : Nat → List Int32 := fun k => (al.getD k (0, [])).2
def okB (n : Nat) (al : List (Int64 × List Int32)) (l : List (Nat × Nat × Nat)) (rl : List (Nat × Nat × Nat × Nat)) (Rs : List (List (Nat × Nat × Nat) × List (Nat × Nat × Nat) × Nat)) : Prop :=
  rl.length = Rs.length ∧ (∀ i R, Rs[i]? = some R → segR n al.length l (rl.getD i (0, 0, 0, 0)) R) ∧ ∀ k, k < al.length → 0 < (alV al k).length
section
variable {a b n : Nat} {P : Nat → Nat → Int32} {d : Int32} {pl : List (Int64 × (Nat → Int32))} {al : List (Int64 × List Int32)} {l : List (Nat × Nat × Nat)} {rl : List (Nat × Nat × Nat × Nat)} {Rs : List (List (Nat × Nat × Nat) × List (Nat × Nat × Nat) × Nat)}
theorem live_rules (ok : okY n P) (okb : okB n al l rl Rs) (hab : b + 34 ≤ a ∨ a + 13 ≤ b) {fl : Nat} (hfl : 5000 ≤ fl) (x1 x3 x4 : Int32) (k97 : hp_M → Option (Int32 × hp_M)) : ∀ (L : List (List (Nat × Nat × Nat) × List (Nat × Nat × Nat) × Nat)) (i fu : Nat) (h : hp_M) (z : Nat × (Nat → Int32) × (Nat → Int32)), Rs.drop i = L → L.length < fu → i ≤ Rs.length → is_Sk h a n P z.2.2 z.1 z.2.1 d → is_Bk h b pl al l rl → ∃ h', f_Sk_live_b24 fl a x1 b x3 x4 k97 fu (ix i) h = k97 h' ∧ is_Sk h' a n P (rulV P d (alV al) L i z).2.2 (rulV P d (alV al) L i z).1 (rulV P d (alV al) L i z).2.1 d ∧ is_Bk h' b pl al l rl ∧ f2 a (a + 13) b (b + 34) h h' ∧ h'.2 = h.2 := by
  intro L
  induction L with
  | nil =>
    intro i fu h z hd hf hi t u
    obtain ⟨fu, rfl⟩ : ∃ q, fu = q + 1 := ⟨fu - 1, by simp at hf; omega⟩
    have h12 := u.2.1
    have hr := okb.1
    have he : i = rl.length := by
      have := congrArg List.length hd
      simp at this
      omega
    unfold f_Sk_live_b24
    refine ⟨h, ?_, t, u, f2.refl _ _ _ _ _, rfl⟩
    split
    · rfl
    · rw [u.on, u.rules]
      simp only [Option.bind_some]
      rw [if_pos (ix_le1 (by omega) (by omega))]
  | cons R L ih =>
    intro i fu h z hd hf hi t u
    obtain ⟨fu, rfl⟩ : ∃ q, fu = q + 1 := ⟨fu - 1, by simp at hf; omega⟩
    have h12 := u.2.1
    have hr := okb.1
    have hlt : i < Rs.length := by
      have := congrArg List.length hd
      simp at this
      omega
    have hg : Rs[i]? = some R ∧ Rs.drop (i + 1) = L := by
      rw [List.drop_eq_getElem_cons hlt] at hd
      injection hd with e1 e2
      exact ⟨by rw [List.getElem?_eq_getElem hlt, e1], e2⟩
    have sg := okb.2.1 i R hg.1
    simp only [List.length_cons] at hf
    have hn := t.paper.2.1
    have nxt : ∀ h1 z1, is_Sk h1 a n P z1.2.2 z1.1 z1.2.1 d → is_Bk h1 b pl al l rl → f2 a (a + 13) b (b + 34) h h1 → h1.2 = h.2 → rulV P d (alV al) (R :: L) i z = rulV P d (alV al) L (i + 1) z1 → ∃ h', f_Sk_live_b24 fl a x1 b x3 x4 k97 fu (ix i + 1) h1 = k97 h' ∧ is_Sk h' a n P (rulV P d (alV al) (R :: L) i z).2.2 (rulV P d (alV al) (R :: L) i z).1 (rulV P d (alV al) (R :: L) i z).2.1 d ∧ is_Bk h' b pl al l rl ∧ f2 a (a + 13) b (b + 34) h h' ∧ h'.2 = h.2 := by
      intro h1 z1 t1 u1 r1 s1 e1
      rw [e1, ix_add1]
      obtain ⟨h', e', t', u', r', s'⟩ := ih (i + 1) fu h1 z1 hg.2 (by omega) (by omega) t1 u1
      exact ⟨h', e', t', u', r1.trans r', by omega⟩
    unfold f_Sk_live_b24 jn
    dsimp only
    rw [show (12 : Int32) = ix 12 from rfl, if_neg (ix_nle (by omega) (by omega)), u.on, u.rules]
    simp only [Option.bind_some]
    rw [if_neg (ix_nle (by omega) (by omega)), t.rR3]
    simp only [Option.bind_some]
    rw [t.paper.on, t.paper.full]
    simp only [Option.bind_some]
    by_cases hp : z.1 < 600
    · rw [if_pos hp, if_pos rfl, u.on]
      obtain ⟨h1, e1, u1, r1, s1⟩ := u.holds t ok hab hfl (by omega) sg
      have t1 := t.keep r1 (by omega)
      rw [e1]
      simp only [Option.bind_some]
      by_cases hv : valV (askV P z.1 d) R.1 = 0
      · rw [if_pos (by rw [if_pos hv])]
        exact nxt h1 z t1 u1 (r1.to2 (by omega)) s1 (by
          show (if z.1 < 600 ∧ valV (askV P z.1 d) R.1 ≠ 0 then _ else rulV P d (alV al) L (i + 1) z) = _
          rw [if_neg (fun q => q.2 hv)])
      · rw [if_neg (by rw [if_neg hv]; decide), t1.rR3]
        simp only [Option.bind_some]
        obtain ⟨h2, e2, u2, r2, s2⟩ := u1.sumOf t1 ok hab hfl (by omega) sg
        have t2 := t1.keep r2 (by omega)
        rw [u1.on, e2]
        simp only [Option.bind_some]
        rw [u2.on, u2.letterBy (by omega) sg (okb.2.2 _ sg.1.2)]
        simp only [Option.bind_some]
        obtain ⟨h3, e3, p3, r3, s3⟩ := t2.paper.append hp (letV (alV al) R.2.2 (valV (askV P z.1 d) R.2.1))
        have t3 := t2.setPp p3 r3
        have u3 := u2.keep r3 (by omega)
        have e3' : f_Pp_append (a + 3) ((al.getD R.2.2 (0, [])).2.getD (fm (valV (askV P z.1 d) R.2.1) (ix (al.getD R.2.2 (0, [])).2.length)).toInt.toNat 0) h2 = some h3 := e3
        rw [t2.paper.on, e3']
        simp only [Option.bind_some]
        rw [t3.rR2]
        simp only [Option.bind_some]
        rw [t3.gw (by omega)]
        simp only [Option.bind_some]
        obtain ⟨h4, e4, t4, r4, s4⟩ := t3.setWt (i := i) (by omega) (z.2.2 i + 1)
        have u4 := u3.keep r4 (by omega)
        rw [e4]
        simp only [Option.bind_some]
        exact nxt h4 (z.1 + 1, upd z.2.1 z.1 (letV (alV al) R.2.2 (valV (askV P z.1 d) R.2.1)), upd z.2.2 i (z.2.2 i + 1)) t4 u4 ((((r1.to2 (by omega)).trans (r2.to2 (by omega))).trans (r3.to2 (by omega))).trans (r4.to2 (by omega))) (by omega) (by
          show (if z.1 < 600 ∧ valV (askV P z.1 d) R.1 ≠ 0 then _ else rulV P d (alV al) L (i + 1) z) = _
          rw [if_pos ⟨hp, hv⟩])
    · rw [if_neg hp, if_neg (by decide)]
      exact nxt h z t u (f2.refl _ _ _ _ _) rfl (by
        show (if z.1 < 600 ∧ valV (askV P z.1 d) R.1 ≠ 0 then _ else rulV P d (alV al) L (i + 1) z) = _
        rw [if_neg (fun q => hp q.1)])
end
