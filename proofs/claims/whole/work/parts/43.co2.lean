/-! The loop over the code. -/
theorem cod_ne {k : Nat} (h : 11 ≤ k ∧ k ≤ 24) : ix (cod k) ≠ 41 ∧ ix (cod k) ≠ 17 := by
  have : k = 11 ∨ k = 12 ∨ k = 13 ∨ k = 14 ∨ k = 15 ∨ k = 16 ∨ k = 17 ∨ k = 18 ∨ k = 19 ∨ k = 20 ∨ k = 21 ∨ k = 22 ∨ k = 23 ∨ k = 24 := by omega
  rcases this with r | r | r | r | r | r | r | r | r | r | r | r | r | r <;> subst r <;> exact ⟨by decide, by decide⟩
theorem wid_tree {β : Type} (F : Int32 → β) {k : Nat} (hk : k < 9) (u : Nat) : (if ix (cod k) = 14 then F (ix u + 3) else if ix (cod k) = 10 then F (ix u + 3) else if ix (cod k) = 11 then F (ix u + 3) else if ix (cod k) = 15 then F (ix u + 1) else if ix (cod k) = 16 then F (ix u + 1) else F (ix u + 2)) = F (ix (u + wid k)) := by
  have : k = 0 ∨ k = 1 ∨ k = 2 ∨ k = 3 ∨ k = 4 ∨ k = 5 ∨ k = 6 ∨ k = 7 ∨ k = 8 := by omega
  rcases this with r | r | r | r | r | r | r | r | r <;> subst r
  · show F (ix u + 2) = F (ix (u + 2)); rw [ixp2]
  · show F (ix u + 1) = F (ix (u + 1)); rw [ixp1]
  · show F (ix u + 1) = F (ix (u + 1)); rw [ixp1]
  · show F (ix u + 2) = F (ix (u + 2)); rw [ixp2]
  · show F (ix u + 2) = F (ix (u + 2)); rw [ixp2]
  · show F (ix u + 3) = F (ix (u + 3)); rw [ixp3]
  · show F (ix u + 2) = F (ix (u + 2)); rw [ixp2]
  · show F (ix u + 3) = F (ix (u + 3)); rw [ixp3]
  · show F (ix u + 3) = F (ix (u + 3)); rw [ixp3]
theorem ixnp (i : Nat) : ix i + -1 + 1 = ix i := by
  rw [Int32.add_assoc]
  show ix i + 0 = ix i
  simp
section
variable {m a n t : Nat} {P : Nat → Nat → Int32} {wt : Nat → Int32} {pn : Nat} {pp : Nat → Int32} {d : Int32} {th : Int32} {tn : Nat} {tp : Nat → Int32} {ea tk dp : Int32} {rd : Nat} {nA : Nat} {A : Nat → List Int32} {Rs : List ruV}
theorem St_co_b (hm : m + 16 ≤ a) (ht : t + 9 ≤ a ∨ a + 7 ≤ t) (ok : okY n P) (gc : Nat → Int32) (fl e : Nat) (he : e ≤ 1190) (K : hp_M → Option (Int32 × hp_M)) : ∀ (its : List (Nat × Nat × Nat)) (fu w : Nat) (st : List Int32) (ts ts' : List Bool) (h : hp_M), segC gc its w e → its.length < fu → fits its ts = some ts' → typd st ts → st.length + its.length ≤ 400 → (∀ q, q ∈ its → okIt n q) → stk h a st → is_St h m a n (fun i => P i 4) (fun i => P i 5) (fun i => P i 6) wt pn pp d → is_Mo h m th tn tp ea tk dp t rd → is_To h t n P nA A Rs → h.1 (t + 7) = some (aI 1200 gc) → ∃ h', f_St_carryOut_b5 fl a (ix e) K fu (ix st.length + -1) (ix w) h = K h' ∧ stk h' a (runV (askV P pn d) its st) ∧ is_St h' m a n (fun i => P i 4) (fun i => P i 5) (fun i => P i 6) wt pn pp d ∧ fr a (a + 7) h h' ∧ h'.2 = h.2 := by
  intro its
  induction its with
  | nil =>
    intro fu w st ts ts' h sg hf hts ty hl okq k s o u hc
    obtain ⟨fu, rfl⟩ : ∃ q, fu = q + 1 := ⟨fu - 1, by simp at hf; omega⟩
    have : w = e := sg
    subst this
    unfold f_St_carryOut_b5
    rw [if_pos (ix_le1 (Nat.le_refl _) (by omega))]
    exact ⟨h, rfl, k, s, fr.refl _ _ _, rfl⟩
  | cons q its ih =>
    intro fu w st ts ts' h sg hf hts ty hl okq k s o u hc
    obtain ⟨fu, rfl⟩ : ∃ q, fu = q + 1 := ⟨fu - 1, by simp at hf; omega⟩
    obtain ⟨⟨c0, c1, c2⟩, sg'⟩ := id sg
    have hle := segC_le _ _ _ sg
    simp only [List.length_cons] at hle hf hl
    obtain ⟨k0, x0, y0⟩ := q
    dsimp only at c0 c1 c2 sg'
    have okq0 : okIt n (k0, x0, y0) := okq _ (List.mem_cons_self ..)
    have hk24 : k0 ≤ 24 := okq0.1
    simp only [fits] at hts
    obtain ⟨ts1, q1⟩ : ∃ ts1, fitI k0 ts = some ts1 := by
      cases hq : fitI k0 ts with
      | none => rw [hq] at hts; cases hts
      | some t => exact ⟨t, rfl⟩
    rw [q1] at hts
    simp only [Option.bind_some] at hts
    obtain ⟨fl1, fl2, fl3⟩ := fitI_len q1
    have ty1 := typd_step (P := P) (pn := pn) (d := d) (q := (k0, x0, y0)) q1 ty
    have hs := ty.1
    have w1 := wid_1 k0
    have g0 : gaI h (t + 7) (ix w) = some (ix (cod k0)) := by rw [gaI_of hc (by omega) (by omega), c0]
    have g1 : gaI h (t + 7) (ix (w + 1)) = some (gc (w + 1)) := gaI_of hc (by omega) (by omega)
    have g2 : gaI h (t + 7) (ix (w + 2)) = some (gc (w + 2)) := gaI_of hc (by omega) (by omega)
    have fin : ∀ h1 x st', stpV (askV P pn d) (k0, x0, y0) st = x :: st' → is_St h1 m a n (fun i => P i 4) (fun i => P i 5) (fun i => P i 6) wt pn pp d → stk h1 a (x :: st') → fr a (a + 7) h h1 → h1.2 = h.2 → st'.length ≤ st.length → ∃ h', f_St_carryOut_b5 fl a (ix e) K fu (ix st'.length) (ix (w + wid k0)) h1 = K h' ∧ stk h' a (runV (askV P pn d) ((k0, x0, y0) :: its) st) ∧ is_St h' m a n (fun i => P i 4) (fun i => P i 5) (fun i => P i 6) wt pn pp d ∧ fr a (a + 7) h h' ∧ h'.2 = h.2 := by
      intro h1 x st' e1 s1 k1 r1 z1 l1
      rw [e1] at ty1
      obtain ⟨h', e', k', s', r', z'⟩ := ih fu (w + wid k0) (x :: st') ts1 ts' h1 sg' (by omega) hts ty1 (by simp; omega) (fun q hq => okq q (List.mem_cons_of_mem _ hq)) k1 s1 (o.keep r1 (by omega)) (u.keep r1 (by omega)) (r1.cell hc (by have := u.1; omega) (by omega))
      refine ⟨h', ?_, ?_, s', r1.trans r', by omega⟩
      · rw [List.length_cons, ixn1] at e'
        exact e'
      · have : runV (askV P pn d) ((k0, x0, y0) :: its) st = runV (askV P pn d) its (x :: st') := by
          show List.foldl _ (stpV _ _ _) its = _
          rw [e1]; rfl
        rw [this]; exact k'
    unfold f_St_carryOut_b5 jn
    rw [if_neg (ix_nle (by omega) (by omega))]
    simp only [s.r8, o.r11, u.r9, g0, ixp1, ixp2, g1, g2, isPushed_of hk24, Option.bind_some]
    by_cases c9 : k0 < 9
    · rw [if_neg (by rw [if_pos c9]; decide)]
      obtain ⟨h1, e1, s1, k1, r1, z1⟩ := s.putS k (askV P pn d k0 x0 y0) 0 st (Or.inl rfl) (by omega)
      simp only [s.r7, s.on, s.pushed o u ok c9 okq0 c1 c2, ixnp, e1, Option.bind_some]
      have tr := wid_tree (fun z => f_St_carryOut_b5 fl a (ix e) K fu (ix st.length) z h1) c9 w
      simp only [ixp1, ixp2, ixp3] at tr ⊢
      rw [tr]
      exact fin h1 _ st (by unfold stpV; rw [if_pos c9]) s1 k1 r1 z1 (Nat.le_refl _)
    · rw [if_pos (by rw [if_neg c9])]
      cases st with
      | nil => simp at hs; omega
      | cons x st0 =>
        simp only [List.length_cons] at hs hl
        by_cases c11 : k0 < 11
        · have w11 : wid k0 = 1 := by unfold wid; rw [if_neg (by omega), if_neg (by omega)]
          obtain ⟨h1, e1, s1, k1, r1, z1⟩ := s.putS k (turV k0 x) x st0 (Or.inr (Or.inl rfl)) (by omega)
          have tp := k.top (by omega)
          have nx := fin h1 _ st0 (by unfold stpV; rw [if_neg c9]; dsimp only; rw [if_pos c11]) s1 k1 r1 z1 (by simp)
          rw [w11] at nx
          by_cases k9 : k0 = 9
          · subst k9
            have ev : -x = turV 9 x := rfl
            rw [if_pos (show ix (cod 9) = 41 from rfl)]
            simp only [if_pos (show ix (cod 9) = 41 from rfl), s.r7, List.length_cons, ixn1, tp, Option.bind_some, ev, e1]
            exact nx
          · have k10 : k0 = 10 := by omega
            subst k10
            have hx : z01 x := by
              unfold fitI at q1
              cases ts with
              | nil => simp at hs
              | cons b ts =>
                have := ty.tail.2
                cases b with
                | true => exact this rfl
                | false => cases q1
            have ev : 1 - x = turV 10 x := by rcases hx with rfl | rfl <;> rfl
            rw [if_neg (show ix (cod 10) ≠ 41 by decide), if_pos (show ix (cod 10) = 17 from rfl)]
            simp only [if_neg (show ix (cod 10) ≠ 41 by decide), s.r7, List.length_cons, ixn1, tp, Option.bind_some, ev, e1]
            exact nx
        · have w11 : wid k0 = 1 := by unfold wid; rw [if_neg (by omega), if_neg (by omega)]
          obtain ⟨n1, n2⟩ := cod_ne (k := k0) ⟨by omega, hk24⟩
          cases st0 with
          | nil => simp at hs; omega
          | cons y st1 =>
            simp only [List.length_cons] at hs hl
            obtain ⟨h1, e1, s1, k1, r1, z1⟩ := s.putS k (joiV k0 y x) y st1 (Or.inr (Or.inr ⟨x, rfl⟩)) (by omega)
            have tp1 := k.top (by simp; omega)
            have tp2 := k.sec (by omega)
            have nx := fin h1 _ st1 (by unfold stpV; rw [if_neg c9]; dsimp only; rw [if_neg c11]) s1 k1 r1 z1 (by simp; omega)
            rw [w11] at nx
            rw [if_neg n1, if_neg n2]
            simp only [List.length_cons] at tp1
            simp only [s.r7, List.length_cons, ixn1, ixp1, tp1, tp2, Option.bind_some, f_Md_both_of ⟨show 11 ≤ k0 by omega, hk24⟩, e1]
            exact nx
theorem St_co (hm : m + 16 ≤ a) (ht : t + 9 ≤ a ∨ a + 7 ≤ t) (ok : okY n P) {gc : Nat → Int32} {fl e w : Nat} (he : e ≤ 1190) (hfl : 5000 ≤ fl) {its : List (Nat × Nat × Nat)} {ty : Bool} {h : hp_M} (sg : segC gc its w e) (hts : fits its [] = some [ty]) (hl : its.length ≤ 400) (okq : ∀ q, q ∈ its → okIt n q) (s : is_St h m a n (fun i => P i 4) (fun i => P i 5) (fun i => P i 6) wt pn pp d) (o : is_Mo h m th tn tp ea tk dp t rd) (u : is_To h t n P nA A Rs) (hc : h.1 (t + 7) = some (aI 1200 gc)) : ∃ h', f_St_carryOut fl a (ix w) (ix e) h = some (valV (askV P pn d) its, h') ∧ is_St h' m a n (fun i => P i 4) (fun i => P i 5) (fun i => P i 6) wt pn pp d ∧ fr a (a + 7) h h' ∧ h'.2 = h.2 := by
  have k0 : stk h a [] := by
    obtain ⟨g6, a6⟩ := s.2.2.2.2.2.2.2.2.2
    exact ⟨g6, a6, fun i hi => by simp at hi⟩
  obtain ⟨h', e', k', s', r', z'⟩ := St_co_b hm ht ok gc fl e he (fun (h1 : hp_M) => (gR h1 a 10 7).bind fun v2 => (gaI h1 v2 0).bind fun v3 => some (v3, h1)) its fl w [] [] [ty] h sg (by omega) hts ⟨rfl, fun i hi => by simp at hi⟩ (by simpa using hl) okq k0 s o u hc
  refine ⟨h', ?_, s', r', z'⟩
  unfold f_St_carryOut
  refine (show _ = _ from e').trans ?_
  have hlen := runV_len (ask := askV P pn d) its [] [] [ty] hts rfl
  unfold valV
  cases hq : runV (askV P pn d) its [] with
  | nil => rw [hq] at hlen; simp at hlen
  | cons x s0 =>
    rw [hq] at hlen k'
    have : s0 = [] := by simpa using hlen
    subst this
    have tp := k'.top (st := []) (by simp)
    simp only [s'.r7, Option.bind_some]
    rw [show (0 : Int32) = ix (List.length ([] : List Int32)) from rfl, tp]
    rfl
end
