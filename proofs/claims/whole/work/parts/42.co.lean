/-! The Model carries out its code. -/
theorem f_Md_both_of {k : Nat} (hk : 11 ≤ k ∧ k ≤ 24) (y x : Int32) (h : hp_M) : f_Md_both (ix (cod k)) y x h = some (joiV k y x) := by
  have d1 : ∀ q, ¬ x = 0 → divI q x = some (q / x) := fun q hq => by unfold divI; rw [if_neg hq]
  have e : ∀ x y : Int32, x = y ↔ x.toInt = y.toInt := fun x y => Int32.toInt_inj.symm
  have : k = 11 ∨ k = 12 ∨ k = 13 ∨ k = 14 ∨ k = 15 ∨ k = 16 ∨ k = 17 ∨ k = 18 ∨ k = 19 ∨ k = 20 ∨ k = 21 ∨ k = 22 ∨ k = 23 ∨ k = 24 := by omega
  rcases this with r | r | r | r | r | r | r | r | r | r | r | r | r | r <;> subst r
  · rfl
  · rfl
  · rfl
  · rfl
  · rfl
  · rfl
  · rfl
  · show (if x = 0 then some 0 else (divI y x).bind fun v31 => some v31) = some (if x = 0 then 0 else y / x)
    split
    · rfl
    · next hq => rw [d1 y hq]; rfl
  · show (if x = 0 then some 0 else (remI y x).bind fun v31 => some v31) = some (if x = 0 then 0 else rm y x)
    split
    · rfl
    · next hq => rw [remI_of hq]; rfl
  · show (if x ≤ y then some 0 else some 1) = some (b01 (decide (y < x)))
    unfold b01
    simp only [decide_eq_true_eq, i32_lt, i32_le]
    (repeat' split) <;> first | rfl | (exfalso; omega)
  · show (if y ≤ x then some 0 else some 1) = some (b01 (decide (x < y)))
    unfold b01
    simp only [decide_eq_true_eq, i32_lt, i32_le]
    (repeat' split) <;> first | rfl | (exfalso; omega)
  · show (if y = x then some 1 else some 0) = some (b01 (decide (y = x)))
    unfold b01
    simp only [decide_eq_true_eq]
    split <;> rfl
  · show (if x < y then some 0 else some 1) = some (b01 (decide (y ≤ x)))
    unfold b01
    simp only [decide_eq_true_eq, i32_lt, i32_le]
    (repeat' split) <;> first | rfl | (exfalso; omega)
  · show (if y < x then some 0 else some 1) = some (b01 (decide (x ≤ y)))
    unfold b01
    simp only [decide_eq_true_eq, i32_lt, i32_le]
    (repeat' split) <;> first | rfl | (exfalso; omega)
def z01 (x : Int32) : Prop := x = 0 ∨ x = 1
theorem b01_01 (b : Bool) : z01 (b01 b) := by cases b; exact Or.inl rfl; exact Or.inr rfl
theorem typd.cons {st : List Int32} {ts : List Bool} {x : Int32} {b : Bool} (h : typd st ts) (hx : b = true → z01 x) : typd (x :: st) (b :: ts) := by
  obtain ⟨h1, h2⟩ := h
  refine ⟨by simp [h1], fun i hi => ?_⟩
  cases i with
  | zero => exact hx (by simpa using hi)
  | succ i => exact h2 i (by simpa using hi)
theorem typd.tail {st : List Int32} {ts : List Bool} {x : Int32} {b : Bool} (h : typd (x :: st) (b :: ts)) : typd st ts ∧ (b = true → z01 x) := by
  obtain ⟨h1, h2⟩ := h
  refine ⟨⟨by simpa using h1, fun i hi => ?_⟩, fun hb => ?_⟩
  · have := h2 (i + 1) (by simpa using hi)
    simpa using this
  · have := h2 0 (by simpa using hb)
    exact (by simpa using this : x = 0 ∨ x = 1)
theorem turV_01 {x : Int32} : z01 (turV 10 x) := by
  unfold turV
  rw [if_neg (by decide)]
  split
  · exact Or.inr rfl
  · exact Or.inl rfl
theorem askV_01 {P : Nat → Nat → Int32} {pn : Nat} {d : Int32} {k u v : Nat} (h1 : 6 ≤ k) (h2 : k < 9) : z01 (askV P pn d k u v) := by
  have : k = 6 ∨ k = 7 ∨ k = 8 := by omega
  rcases this with rfl | rfl | rfl
  · exact rv_01 _ _
  · show z01 (if P v 0 < P u 0 then 0 else meetV (P u) (P v) 0)
    split
    · exact Or.inl rfl
    · exact meetV_01 _ _ _
  · exact meetV_01 _ _ _
theorem joiV_01 {k : Nat} {x y : Int32} (h : k < 13 → z01 x ∧ z01 y) (h1 : 11 ≤ k) (h2 : k < 13 ∨ 20 ≤ k) : z01 (joiV k y x) := by
  by_cases h3 : k < 13
  · obtain ⟨hx, hy⟩ := h h3
    have : k = 11 ∨ k = 12 := by omega
    rcases this with rfl | rfl <;> rcases hx with rfl | rfl <;> rcases hy with rfl | rfl <;> first | exact Or.inl rfl | exact Or.inr rfl
  · unfold joiV
    rw [if_neg (by omega), if_neg (by omega), if_neg (by omega), if_neg (by omega), if_neg (by omega), if_neg (by omega), if_neg (by omega), if_neg (by omega), if_neg (by omega)]
    (repeat' split) <;> exact b01_01 _
theorem typd_step {P : Nat → Nat → Int32} {pn : Nat} {d : Int32} {q : Nat × Nat × Nat} {st : List Int32} {ts ts1 : List Bool} (e : fitI q.1 ts = some ts1) (ht : typd st ts) : typd (stpV (askV P pn d) q st) ts1 := by
  obtain ⟨k, u, v⟩ := q
  unfold fitI at e
  unfold stpV
  dsimp only at e ⊢
  by_cases c9 : k < 9
  · rw [if_pos c9]
    by_cases c6 : k < 6
    · rw [if_pos c6] at e; cases e
      exact ht.cons (fun q => by cases q)
    · rw [if_neg c6, if_pos c9] at e; cases e
      exact ht.cons (fun _ => askV_01 (by omega) c9)
  · rw [if_neg (by omega), if_neg c9] at e
    rw [if_neg c9]
    cases ts with
    | nil => cases e
    | cons b ts =>
      cases st with
      | nil => have := ht.1; simp at this
      | cons x st =>
        obtain ⟨t1, hx⟩ := ht.tail
        dsimp only at e ⊢
        by_cases c11 : k < 11
        · rw [if_pos c11]
          by_cases k9 : k = 9
          · rw [if_pos k9] at e
            split at e
            · cases e
            · cases e
              exact t1.cons (fun q => by cases q)
          · have k10 : k = 10 := by omega
            rw [if_neg k9, if_pos k10] at e
            split at e
            · cases e
              subst k10
              exact t1.cons (fun _ => turV_01)
            · cases e
        · rw [if_neg c11]
          rw [if_neg (by omega), if_neg (by omega)] at e
          cases ts with
          | nil => cases e
          | cons b2 ts =>
            cases st with
            | nil => have := ht.1; simp at this
            | cons y st =>
              obtain ⟨t2, hy⟩ := t1.tail
              dsimp only at e ⊢
              by_cases c13 : k < 13
              · rw [if_pos c13] at e
                split at e
                · next hb =>
                  cases e
                  rw [Bool.and_eq_true] at hb
                  exact t2.cons (fun _ => joiV_01 (fun _ => ⟨hx hb.1, hy hb.2⟩) (by omega) (Or.inl c13))
                · cases e
              · rw [if_neg c13] at e
                by_cases c20 : k < 20
                · rw [if_pos c20] at e
                  split at e
                  · cases e
                  · cases e
                    exact t2.cons (fun q => by cases q)
                · rw [if_neg c20] at e
                  split at e
                  · cases e
                  · cases e
                    exact t2.cons (fun _ => joiV_01 (fun q => by omega) (by omega) (Or.inr (by omega)))
def stk (h : hp_M) (a : Nat) (st : List Int32) : Prop := ∃ g, h.1 (a + 6) = some (aI 400 g) ∧ ∀ i, i < st.length → g i = st.reverse.getD i 0
theorem rev_get_lt (st : List Int32) (x : Int32) {i : Nat} (hi : i < st.length) : (x :: st).reverse.getD i 0 = st.reverse.getD i 0 := by
  simp [List.getD_eq_getElem?_getD, List.getElem?_append, hi]
theorem rev_get_eq (st : List Int32) (x : Int32) : (x :: st).reverse.getD st.length 0 = x := by
  simp [List.getD_eq_getElem?_getD, List.getElem?_append]
section
variable {h : hp_M} {m a n : Nat} {x4 x5 x6 : Nat → Int32} {wt : Nat → Int32} {pn : Nat} {pp : Nat → Int32} {d : Int32}
theorem is_St.putS (s : is_St h m a n x4 x5 x6 wt pn pp d) {st : List Int32} (k : stk h a st) (x y : Int32) (st' : List Int32) (hs : st = st' ∨ st = y :: st' ∨ ∃ z, st = z :: y :: st') (hl : st'.length < 400) : ∃ h', paI h (a + 6) (ix st'.length) x = some h' ∧ is_St h' m a n x4 x5 x6 wt pn pp d ∧ stk h' a (x :: st') ∧ fr a (a + 7) h h' ∧ h'.2 = h.2 := by
  obtain ⟨h1, h2, h3, h4, ⟨g1, a1, b1⟩, ⟨g2, a2, b2⟩, ⟨g3, a3, b3⟩, ⟨g4, a4, b4⟩, ⟨g5, a5, b5⟩, _⟩ := s
  obtain ⟨g6, a6, b6⟩ := k
  refine ⟨_, paI_of a6 hl (by omega), ⟨h1, h2, h3, ?_, ⟨g1, ?_, b1⟩, ⟨g2, ?_, b2⟩, ⟨g3, ?_, b3⟩, ⟨g4, ?_, b4⟩, ⟨g5, ?_, b5⟩, ⟨_, wr_self _ _ _⟩⟩, ⟨_, wr_self _ _ _, fun i hi => ?_⟩, wr_frI _ _ (by omega) (by omega), rfl⟩
  any_goals (rw [wr_ne _ _ (by omega)]; assumption)
  simp only [List.length_cons] at hi
  by_cases hq : i = st'.length
  · subst hq; rw [upd_self, rev_get_eq]
  · rw [upd_ne _ _ hq, rev_get_lt _ _ (by omega)]
    rcases hs with rfl | rfl | ⟨z, rfl⟩
    · exact b6 i (by omega)
    · rw [b6 i (by simp; omega), rev_get_lt _ _ (by omega)]
    · rw [b6 i (by simp; omega), rev_get_lt _ _ (by simp; omega), rev_get_lt _ _ (by omega)]
theorem stk.top {st : List Int32} {x : Int32} (k : stk h a (x :: st)) (hl : st.length < 400) : gaI h (a + 6) (ix st.length) = some x := by
  obtain ⟨g, a6, b6⟩ := k
  rw [gaI_of a6 hl (by omega), b6 _ (by simp), rev_get_eq]
theorem stk.sec {st : List Int32} {x y : Int32} (k : stk h a (x :: y :: st)) (hl : st.length < 400) : gaI h (a + 6) (ix st.length) = some y := by
  obtain ⟨g, a6, b6⟩ := k
  rw [gaI_of a6 hl (by omega), b6 _ (by simp; omega), rev_get_lt _ _ (by simp), rev_get_eq]
end
theorem wid_1 (k : Nat) : 1 ≤ wid k ∧ wid k ≤ 3 := by unfold wid; (repeat' split) <;> omega
theorem segC_le {g : Nat → Int32} : ∀ (l : List (Nat × Nat × Nat)) (u e : Nat), segC g l u e → u + l.length ≤ e := by
  intro l
  induction l with
  | nil => intro u e h; simp [segC] at h; simp; omega
  | cons q l ih =>
    intro u e h
    have := ih _ _ h.2
    have := wid_1 q.1
    simp; omega
/-- what the Model asks of its code's words -/
theorem isPushed_of {k : Nat} (hk : k ≤ 24) (h : hp_M) : f_Md_isPushed (ix (cod k)) h = some (if k < 9 then 1 else 0) := by
  have : k = 0 ∨ k = 1 ∨ k = 2 ∨ k = 3 ∨ k = 4 ∨ k = 5 ∨ k = 6 ∨ k = 7 ∨ k = 8 ∨ k = 9 ∨ k = 10 ∨ k = 11 ∨ k = 12 ∨ k = 13 ∨ k = 14 ∨ k = 15 ∨ k = 16 ∨ k = 17 ∨ k = 18 ∨ k = 19 ∨ k = 20 ∨ k = 21 ∨ k = 22 ∨ k = 23 ∨ k = 24 := by omega
  rcases this with r | r | r | r | r | r | r | r | r | r | r | r | r | r | r | r | r | r | r | r | r | r | r | r | r <;> subst r <;> rfl
section
variable {h : hp_M} {m a n t : Nat} {P : Nat → Nat → Int32} {wt : Nat → Int32} {pn : Nat} {pp : Nat → Int32} {d : Int32} {th : Int32} {tn : Nat} {tp : Nat → Int32} {ea tk dp : Int32} {rd : Nat} {nA : Nat} {A : Nat → List Int32} {Rs : List ruV}
theorem is_St.pushed (s : is_St h m a n (fun i => P i 4) (fun i => P i 5) (fun i => P i 6) wt pn pp d) (o : is_Mo h m th tn tp ea tk dp t rd) (u : is_To h t n P nA A Rs) (ok : okY n P) {k x y : Nat} (hk : k < 9) (q : okIt n (k, x, y)) {z1 z2 : Int32} (e1 : 2 ≤ wid k → z1 = ix x) (e2 : wid k = 3 → z2 = ix y) : f_St_pushed a (ix (cod k)) z1 z2 h = some (askV P pn d k x y) := by
  obtain ⟨_, _, o1, o2⟩ := q
  dsimp only at o1 o2
  have : k = 0 ∨ k = 1 ∨ k = 2 ∨ k = 3 ∨ k = 4 ∨ k = 5 ∨ k = 6 ∨ k = 7 ∨ k = 8 := by omega
  rcases this with r | r | r | r | r | r | r | r | r <;> subst r
  · rw [e1 (by decide)]; rfl
  · show (gI h a 10 0).bind (fun v39 => some v39) = some d
    rw [s.r0]; rfl
  · show (gI h a 10 6).bind (fun v39 => some v39) = some (ix pn)
    rw [s.r6]; rfl
  · rw [e1 (by decide)]
    show (gR h a 10 1).bind (fun v27 => (gaI h v27 (ix x)).bind fun v28 => some v28) = some (P x 4)
    rw [s.r1]; simp only [Option.bind_some]; rw [s.ang (o1 (by omega))]; rfl
  · rw [e1 (by decide)]
    show (gR h a 10 3).bind (fun v27 => (gaI h v27 (ix x)).bind fun v28 => some v28) = some (P x 6)
    rw [s.r3]; simp only [Option.bind_some]; rw [s.lap (o1 (by omega))]; rfl
  · rw [e1 (by decide), e2 (by decide)]
    obtain ⟨o3, o4⟩ := o2 (by omega)
    show (gR h a 10 1).bind (fun v33 => (gaI h v33 (ix x)).bind fun v34 => (gR h a 10 1).bind fun v35 => (gaI h v35 (ix y)).bind fun v36 => (f_Md_gapOf v34 v36 h).bind fun r37 => some r37) = some (sht (P x 4 - P y 4))
    simp only [s.r1, s.ang o3, s.ang o4, Option.bind_some, gap0_of (ok x o3).2.2.1 (ok y o4).2.2.1]
  · rw [e1 (by decide)]
    show (onO h a 10 (f_St_isRetro a (ix x) h)).bind (fun r2 => if r2 = 0 then (some 0) else (some 1)) = some (rv (P x) d)
    rw [s.on, s.isRetro o u ok (o1 (by omega))]
    simp only [Option.bind_some]
    rcases rv_01 (P x) d with q | q <;> rw [q] <;> rfl
  · rw [e1 (by decide), e2 (by decide)]
    obtain ⟨o3, o4⟩ := o2 (by omega)
    obtain ⟨p1, _⟩ := u.pl o3
    obtain ⟨p2, _⟩ := u.pl o4
    show (onO h a 10 (f_St_meets a (ix x) (ix y) 0 h)).bind (fun r15 => if r15 = 0 then (some 0) else ((gR h a 10 8).bind fun v17 => (gR h v17 12 11).bind fun v18 => (gR h v18 11 1).bind fun v19 => (gaI h v19 (5 * ix x)).bind fun v20 => (gR h a 10 8).bind fun v21 => (gR h v21 12 11).bind fun v22 => (gR h v22 11 1).bind fun v23 => (gaI h v23 (5 * ix y)).bind fun v24 => if v24 < v20 then (some 0) else (some 1))) = some (if P y 0 < P x 0 then 0 else meetV (P x) (P y) 0)
    rw [s.on, s.meets ok o3 o4 (Or.inl rfl)]
    simp only [Option.bind_some, s.r8, o.r11, u.r1, ix5, p1, p2]
    rcases meetV_01 (P x) (P y) 0 with q | q <;> rw [q]
    · rw [if_pos rfl]; split <;> rfl
    · rw [if_neg (by decide)]; split <;> rfl
  · rw [e1 (by decide), e2 (by decide)]
    obtain ⟨o3, o4⟩ := o2 (by omega)
    show (onO h a 10 (f_St_meets a (ix x) (ix y) 180 h)).bind (fun r43 => if r43 = 0 then (some 0) else (some 1)) = some (meetV (P x) (P y) 180)
    rw [s.on, s.meets ok o3 o4 (Or.inr rfl)]
    simp only [Option.bind_some]
    rcases meetV_01 (P x) (P y) 180 with q | q <;> rw [q] <;> rfl
end
