/-! A day of the Model, and days. -/
def okRs (n nA : Nat) (A : Nat → List Int32) (Rs : List ruV) : Prop :=
  (∀ (i : Nat) (R : ruV), Rs[i]? = some R → (R.2.2 < nA ∧ fits R.1 [] = some [true] ∧ fits R.2.1 [] = some [false]) ∧ (∀ q, q ∈ R.1 → okIt n q) ∧ (∀ q, q ∈ R.2.1 → okIt n q) ∧ R.1.length ≤ 400 ∧ R.2.1.length ≤ 400) ∧ ∀ k, k < nA → 0 < (A k).length
theorem rulV_full (P : Nat → Nat → Int32) (d : Int32) (A : Nat → List Int32) : ∀ (L : List ruV) (i : Nat) (z : Nat × (Nat → Int32) × (Nat → Int32)), 600 ≤ z.1 → rulV P d A L i z = z := by
  intro L
  induction L with
  | nil => intro i z h; rfl
  | cons R L ih =>
    intro i z h
    show (if z.1 < 600 ∧ valV (askV P z.1 d) R.1 ≠ 0 then _ else rulV P d A L (i + 1) z) = z
    rw [if_neg (fun q => by omega)]
    exact ih (i + 1) z h
section
variable {m a n t : Nat} {P : Nat → Nat → Int32} {d : Int32} {th : Int32} {tn : Nat} {tp : Nat → Int32} {ea tk dp : Int32} {rd : Nat} {nA : Nat} {A : Nat → List Int32} {Rs : List ruV}
theorem St_pass_b (hm : m + 16 ≤ a) (ht : t + 9 ≤ a ∨ a + 7 ≤ t) (ok : okY n P) (okr : okRs n nA A Rs) {fl : Nat} (hfl : 5000 ≤ fl) (x1 : Int32) (K : hp_M → Option (Int32 × hp_M)) : ∀ (L : List ruV) (i fu : Nat) (h : hp_M) (z : Nat × (Nat → Int32) × (Nat → Int32)), Rs.drop i = L → L.length < fu → i ≤ Rs.length → is_St h m a n (fun i => P i 4) (fun i => P i 5) (fun i => P i 6) z.2.2 z.1 z.2.1 d → is_Mo h m th tn tp ea tk dp t rd → is_To h t n P nA A Rs → ∃ h', f_St_pass_b11 fl a x1 K fu (ix i) h = K h' ∧ is_St h' m a n (fun i => P i 4) (fun i => P i 5) (fun i => P i 6) (rulV P d A L i z).2.2 (rulV P d A L i z).1 (rulV P d A L i z).2.1 d ∧ fr a (a + 7) h h' ∧ h'.2 = h.2 := by
  intro L
  induction L with
  | nil =>
    intro i fu h z hd hf hi s o u
    obtain ⟨fu, rfl⟩ : ∃ q, fu = q + 1 := ⟨fu - 1, by simp at hf; omega⟩
    have he : i = Rs.length := by
      have := congrArg List.length hd
      simp at this
      omega
    have := u.nR12
    unfold f_St_pass_b11
    simp only [s.r8, o.r11, u.r5, Option.bind_some]
    rw [if_pos (ix_le1 (by omega) (by omega))]
    exact ⟨h, rfl, s, fr.refl _ _ _, rfl⟩
  | cons R L ih =>
    intro i fu h z hd hf hi s o u
    obtain ⟨fu, rfl⟩ : ∃ q, fu = q + 1 := ⟨fu - 1, by simp at hf; omega⟩
    have h12 := u.nR12
    have hz6 := s.pn6
    have hlt : i < Rs.length := by
      have := congrArg List.length hd
      simp at this
      omega
    have hg : Rs[i]? = some R ∧ Rs.drop (i + 1) = L := by
      rw [List.drop_eq_getElem_cons hlt] at hd
      injection hd with e1 e2
      exact ⟨by rw [List.getElem?_eq_getElem hlt, e1], e2⟩
    simp only [List.length_cons] at hf
    unfold f_St_pass_b11
    by_cases hp : z.1 < 600
    · obtain ⟨⟨o1, o2, o3⟩, o4, o5, o6, o7⟩ := okr.1 i R hg.1
      have hA0 := okr.2 _ o1
      have hA12 := u.al12 o1
      have nA6 := u.nA6
      have nxt : ∀ h1 z1, is_St h1 m a n (fun i => P i 4) (fun i => P i 5) (fun i => P i 6) z1.2.2 z1.1 z1.2.1 d → fr a (a + 7) h h1 → h1.2 = h.2 → rulV P d A (R :: L) i z = rulV P d A L (i + 1) z1 → ∃ h', f_St_pass_b11 fl a x1 K fu (ix (i + 1)) h1 = K h' ∧ is_St h' m a n (fun i => P i 4) (fun i => P i 5) (fun i => P i 6) (rulV P d A (R :: L) i z).2.2 (rulV P d A (R :: L) i z).1 (rulV P d A (R :: L) i z).2.1 d ∧ fr a (a + 7) h h' ∧ h'.2 = h.2 := by
        intro h1 z1 s1 r1 q1 e1
        rw [e1]
        obtain ⟨h', e', s', r', q'⟩ := ih (i + 1) fu h1 z1 hg.2 (by omega) (by omega) s1 (o.keep r1 (by omega)) (u.keep r1 (by omega))
        exact ⟨h', e', s', r1.trans r', by omega⟩
      obtain ⟨p1, p2, p3, ⟨g1, a1, b1⟩, ⟨g2, a2, b2⟩, ⟨g3, a3, b3⟩, ⟨g4, g5, g6, gc, a4, a5, a6, a7, b7⟩⟩ := id u
      obtain ⟨ru, rw', re, c1, c2, c3, c4, c5, c6, c7, c8⟩ := b7 i R hg.1
      have t4 : gaI h (t + 4) (ix i) = some (ix ru) := by rw [gaI_of a4 (by omega) (by omega), c1]
      have t5 : gaI h (t + 5) (ix i) = some (ix rw') := by rw [gaI_of a5 (by omega) (by omega), c2]
      obtain ⟨h1, e1, s1, r1, q1⟩ := St_co hm ht ok (by have := segC_le _ _ _ c8; omega) hfl c7 o2 o6 o4 s o u a7
      have o1' := o.keep r1 (by omega)
      have u1 := u.keep r1 (by omega)
      simp only [s.r8, o.r11, u.r5, u.r6, u.r7, s.r6, t4, t5, s.on, e1, Option.bind_some, jn, ixp1]
      rw [if_neg (ix_nle (by omega) (by omega)), show (600 : Int32) = ix 600 from rfl, if_neg (ix_nle hp (by omega))]
      by_cases hv : valV (askV P z.1 d) R.1 = 0
      · rw [if_pos hv]
        exact nxt h1 z s1 r1 q1 (by
          show (if z.1 < 600 ∧ valV (askV P z.1 d) R.1 ≠ 0 then _ else rulV P d A L (i + 1) z) = _
          rw [if_neg (fun q => q.2 hv)])
      · rw [if_neg hv]
        have hcell : ∀ k f, k < 9 → 1 ≤ k → h.1 (t + k) = some f → h1.1 (t + k) = some f := fun k f _ _ q => r1.cell q (by omega) (by omega)
        have v5 : gaI h1 (t + 5) (ix i) = some (ix rw') := by rw [gaI_of (hcell 5 _ (by omega) (by omega) a5) (by omega) (by omega), c2]
        have v4 : gaI h1 (t + 4) (ix (i + 1)) = some (ix re) := by rw [gaI_of (hcell 4 _ (by omega) (by omega) a4) (by omega) (by omega), c3]
        have v6 : gaI h1 (t + 6) (ix i) = some (ix R.2.2) := by rw [gaI_of (hcell 6 _ (by omega) (by omega) a6) (by omega) (by omega), c4]
        obtain ⟨h2, e2, s2, r2, q2⟩ := St_co hm ht ok c6 hfl c8 o3 o7 o5 s1 o1' u1 (hcell 7 _ (by omega) (by omega) a7)
        have o2' := o1'.keep r2 (by omega)
        have u2 := u1.keep r2 (by omega)
        have hp0 : 0 < (ix (A R.2.2).length).toInt := by rw [ix_toInt (by omega)]; omega
        have hf := fm_toInt (x := valV (askV P z.1 d) R.2.1) hp0
        rw [ix_toInt (by omega)] at hf
        have f1 := Int.emod_nonneg (valV (askV P z.1 d) R.2.1).toInt (b := ((A R.2.2).length : Int)) (by omega)
        have f2 := Int.emod_lt_of_pos (valV (askV P z.1 d) R.2.1).toInt (b := ((A R.2.2).length : Int)) (by omega)
        have fe : fm (valV (askV P z.1 d) R.2.1) (ix (A R.2.2).length) = ix (fm (valV (askV P z.1 d) R.2.1) (ix (A R.2.2).length)).toInt.toNat := by
          apply Int32.toInt_inj.mp
          rw [ix_toInt] <;> rw [hf] <;> omega
        have fl12 : (fm (valV (askV P z.1 d) R.2.1) (ix (A R.2.2).length)).toInt.toNat < (A R.2.2).length := by rw [hf]; omega
        have lt := u2.ltr o1 fl12
        rw [← ix_add, ← fe] at lt
        obtain ⟨h3, h4, e3, g34, e4, s4, r4, q4⟩ := s2.putP hp (letV A R.2.2 (valV (askV P z.1 d) R.2.1))
        obtain ⟨h5, e5, s5, r5, q5⟩ := s4.putW (i := i) (by omega) (z.2.2 i + 1)
        have lt' : gaI h2 (t + 3) (ix (12 * R.2.2) + fm (valV (askV P z.1 d) R.2.1) (ix (A R.2.2).length)) = some (letV A R.2.2 (valV (askV P z.1 d) R.2.1)) := lt
        simp only [s1.r8, s1.r5, s1.r6, o1'.r11, u1.r8, u1.r4, u1.r7, u1.r6, v4, v5, v6, s1.on, e2, s2.r8, o2'.r11, u2.r3, u2.lets o1, fmI_of hp0, ix12, lt', e3, g34, ixp1, e4, s4.r4, s4.wro (show i < 12 by omega), e5, Option.bind_some]
        exact nxt h5 (z.1 + 1, upd z.2.1 z.1 (letV A R.2.2 (valV (askV P z.1 d) R.2.1)), upd z.2.2 i (z.2.2 i + 1)) s5 (((r1.trans r2).trans r4).trans r5) (by omega) (by
          show (if z.1 < 600 ∧ valV (askV P z.1 d) R.1 ≠ 0 then _ else rulV P d A L (i + 1) z) = _
          rw [if_pos ⟨hp, hv⟩])
    · rw [rulV_full P d A (R :: L) i z (by omega)]
      refine ⟨h, ?_, s, fr.refl _ _ _, rfl⟩
      simp only [s.r8, o.r11, u.r5, s.r6, Option.bind_some]
      rw [if_neg (ix_nle (by omega) (by omega)), show (600 : Int32) = ix 600 from rfl, if_pos (ix_le1 (by omega) (by omega))]
theorem St_pass (hm : m + 16 ≤ a) (ht : t + 9 ≤ a ∨ a + 7 ≤ t) (okr : okRs n nA A Rs) {fl : Nat} (hfl : 5000 ≤ fl) {h : hp_M} {S : skyV} (ok : okY n S.1) (s : is_ST h m a n S) (o : is_Mo h m th tn tp ea tk dp t rd) (u : is_To h t n S.1 nA A Rs) : ∃ h', f_St_pass fl a h = some (ix (dayV A Rs S).2.2.1 - ix S.2.2.1, h') ∧ is_ST h' m a n (dayV A Rs S) ∧ is_To h' t n (dayV A Rs S).1 nA A Rs ∧ fr a (a + 7) h h' ∧ h'.2 = h.2 := by
  have h12 := u.nR12
  obtain ⟨h1, e1, s1, u1, r1, q1⟩ := St_move hm ht ok s o u hfl
  have o1 := o.keep r1 (by omega)
  obtain ⟨h2, e2, s2, r2, q2⟩ := St_pass_b hm ht (P := (movV S).1) (d := (movV S).2.1) (okY.mov ok) okr hfl (ix S.2.2.1) (fun (h3 : hp_M) => (gI h3 a 10 6).bind fun v4 => some ((v4 - ix S.2.2.1), h3)) Rs 0 fl h1 S.2.2 rfl (by omega) (by omega) s1 o1 u1
  refine ⟨h2, ?_, s2, u1.keep r2 (by omega), r1.trans r2, by omega⟩
  unfold f_St_pass
  rw [is_St.on s, e1]
  simp only [Option.bind_some]
  rw [is_St.r6 s1]
  simp only [Option.bind_some]
  refine (show _ = _ from e2).trans ?_
  rw [s2.r6]
  rfl
end
