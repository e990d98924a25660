/-! The program of a book: items (step, first, second), and a stack (its top first). -/
def is_Ps (h : hp_M) (a : Nat) (l : List (Nat × Nat × Nat)) (st : List Int32) : Prop := a + 5 ≤ h.2 ∧ l.length ≤ 400 ∧ st.length ≤ 400 ∧ h.1 a = some (oC 4 [.ref (a + 1), .ref (a + 2), .ref (a + 3), .int (ix l.length), .ref (a + 4), .int (ix st.length)]) ∧
  (∃ g, h.1 (a + 1) = some (aI 400 g) ∧ ∀ i, i < l.length → g i = ix (l.getD i (0, 0, 0)).1) ∧ (∃ g, h.1 (a + 2) = some (aI 400 g) ∧ ∀ i, i < l.length → g i = ix (l.getD i (0, 0, 0)).2.1) ∧ (∃ g, h.1 (a + 3) = some (aI 400 g) ∧ ∀ i, i < l.length → g i = ix (l.getD i (0, 0, 0)).2.2) ∧
  ∃ g, h.1 (a + 4) = some (aI 400 g) ∧ ∀ i, i < st.length → g i = st.reverse.getD i 0
def is_Pr (h : hp_M) (a : Nat) (l : List (Nat × Nat × Nat)) : Prop := ∃ st, is_Ps h a l st
section
variable {h : hp_M} {a : Nat} {l : List (Nat × Nat × Nat)} {st : List Int32}
theorem is_Ps.keep {h' : hp_M} {lo hi : Nat} (t : is_Ps h a l st) (r : fr lo hi h h') (ho : a + 5 ≤ lo ∨ hi ≤ a) : is_Ps h' a l st := by
  obtain ⟨h1, h2, h3, h4, ⟨g1, a1, b1⟩, ⟨g2, a2, b2⟩, ⟨g3, a3, b3⟩, ⟨g4, a4, b4⟩⟩ := t
  exact ⟨Nat.le_trans h1 r.1, h2, h3, r.cell h4 (by omega) (by omega), ⟨g1, r.cell a1 (by omega) (by omega), b1⟩, ⟨g2, r.cell a2 (by omega) (by omega), b2⟩, ⟨g3, r.cell a3 (by omega) (by omega), b3⟩, ⟨g4, r.cell a4 (by omega) (by omega), b4⟩⟩
theorem is_Pr.keep {h' : hp_M} {lo hi : Nat} (t : is_Pr h a l) (r : fr lo hi h h') (ho : a + 5 ≤ lo ∨ hi ≤ a) : is_Pr h' a l := t.elim fun st t => ⟨st, t.keep r ho⟩
theorem is_Ps.on {β : Type} (t : is_Ps h a l st) (g : Option β) : onO h a 4 g = g := onO_of t.2.2.2.1
theorem is_Pr.on {β : Type} (t : is_Pr h a l) (g : Option β) : onO h a 4 g = g := t.elim fun _ t => t.on g
theorem is_Pr.size (t : is_Pr h a l) : f_Pr_size a h = some (ix l.length) := by
  obtain ⟨st, t⟩ := t
  unfold f_Pr_size; rw [gI_of t.2.2.2.1 rfl]; rfl
theorem is_Ps.setObj (t : is_Ps h a l st) (l' : List (Nat × Nat × Nat)) (hl : l' = [] ∨ l' = l) (s' : List Int32) (hs : s' = [] ∨ s' = st) : is_Ps (wr h a (oC 4 [.ref (a + 1), .ref (a + 2), .ref (a + 3), .int (ix l'.length), .ref (a + 4), .int (ix s'.length)])) a l' s' := by
  obtain ⟨h1, h2, h3, h4, ⟨g1, a1, b1⟩, ⟨g2, a2, b2⟩, ⟨g3, a3, b3⟩, ⟨g4, a4, b4⟩⟩ := t
  refine ⟨h1, ?_, ?_, wr_self _ _ _, ⟨g1, ?_, ?_⟩, ⟨g2, ?_, ?_⟩, ⟨g3, ?_, ?_⟩, ⟨g4, ?_, ?_⟩⟩
  · rcases hl with rfl | rfl
    · simp
    · omega
  · rcases hs with rfl | rfl
    · simp
    · omega
  · rw [wr_ne _ _ (by omega)]; exact a1
  · rcases hl with rfl | rfl <;> first | exact b1 | (intro i hi; simp at hi)
  · rw [wr_ne _ _ (by omega)]; exact a2
  · rcases hl with rfl | rfl <;> first | exact b2 | (intro i hi; simp at hi)
  · rw [wr_ne _ _ (by omega)]; exact a3
  · rcases hl with rfl | rfl <;> first | exact b3 | (intro i hi; simp at hi)
  · rw [wr_ne _ _ (by omega)]; exact a4
  · rcases hs with rfl | rfl <;> first | exact b4 | (intro i hi; simp at hi)
theorem is_Pr.empty (t : is_Pr h a l) : ∃ h', f_Pr_empty a h = some h' ∧ is_Pr h' a [] ∧ fr a (a + 5) h h' ∧ h'.2 = h.2 := by
  obtain ⟨st, t⟩ := t
  unfold f_Pr_empty
  rw [pF_of t.2.2.2.1 (by simp)]
  exact ⟨_, rfl, ⟨st, t.setObj [] (Or.inl rfl) st (Or.inr rfl)⟩, wr_frI h _ (by omega) (by omega), rfl⟩
theorem is_Ps.push (t : is_Ps h a l st) (hs : st.length < 400) (x : Int32) : ∃ h', f_Pr_push a x h = some h' ∧ is_Ps h' a l (x :: st) ∧ fr a (a + 5) h h' ∧ h'.2 = h.2 := by
  obtain ⟨h1, h2, h3, h4, ⟨g1, a1, b1⟩, ⟨g2, a2, b2⟩, ⟨g3, a3, b3⟩, ⟨g4, a4, b4⟩⟩ := t
  unfold f_Pr_push
  rw [gI_of h4 rfl, gR_of h4 rfl]
  simp only [Option.bind_some]
  rw [show (400 : Int32) = ix 400 from rfl, if_neg (ix_nle (by omega) (by omega)), paI_of a4 (by omega) (by omega)]
  simp only [Option.bind_some]
  have h4' : (wr h (a + 4) (aI 400 (upd g4 st.length x))).1 a = _ := (wr_ne h _ (by omega)).trans h4
  rw [gI_of h4' rfl]
  simp only [Option.bind_some]
  rw [pF_of h4' (by simp)]
  refine ⟨_, rfl, ⟨h1, h2, by simp; omega, ?_, ⟨g1, ?_, b1⟩, ⟨g2, ?_, b2⟩, ⟨g3, ?_, b3⟩, ⟨upd g4 st.length x, ?_, ?_⟩⟩, (wr_frI h _ (by omega) (by omega)).trans (wr_frI _ _ (by omega) (by omega)), rfl⟩
  · rw [wr_self, ix_add1]; rfl
  · rw [wr_ne _ _ (by omega), wr_ne _ _ (by omega)]; exact a1
  · rw [wr_ne _ _ (by omega), wr_ne _ _ (by omega)]; exact a2
  · rw [wr_ne _ _ (by omega), wr_ne _ _ (by omega)]; exact a3
  · rw [wr_ne _ _ (by omega), wr_self]
  · intro i hi
    simp at hi
    unfold upd
    by_cases hq : i = st.length
    · subst hq
      simp [List.getD_eq_getElem?_getD, List.getElem?_append]
    · rw [if_neg hq, b4 i (by omega)]
      simp [List.getD_eq_getElem?_getD, List.getElem?_append, show i < st.length by omega]
theorem is_Ps.pop {x : Int32} (t : is_Ps h a l (x :: st)) : ∃ h', f_Pr_pop a h = some (x, h') ∧ is_Ps h' a l st ∧ fr a (a + 5) h h' ∧ h'.2 = h.2 := by
  obtain ⟨h1, h2, h3, h4, ⟨g1, a1, b1⟩, ⟨g2, a2, b2⟩, ⟨g3, a3, b3⟩, ⟨g4, a4, b4⟩⟩ := t
  simp only [List.length_cons] at h3 h4 b4
  unfold f_Pr_pop
  rw [gI_of h4 rfl]
  simp only [Option.bind_some]
  rw [show (0 : Int32) = ix 0 from rfl, if_neg (ix_ne (by omega) (by omega) (by omega)), pF_of h4 (by simp)]
  simp only [Option.bind_some, List.set_cons_succ, List.set_cons_zero]
  rw [show ix (st.length + 1) - 1 = ix st.length from ix_sub (i := st.length + 1) (n := 1) (by omega)]
  have h4' : (wr h a (oC 4 [.ref (a + 1), .ref (a + 2), .ref (a + 3), .int (ix l.length), .ref (a + 4), .int (ix st.length)])).1 a = _ := wr_self _ _ _
  have a4' : (wr h a (oC 4 [.ref (a + 1), .ref (a + 2), .ref (a + 3), .int (ix l.length), .ref (a + 4), .int (ix st.length)])).1 (a + 4) = _ := (wr_ne h _ (by omega)).trans a4
  rw [gR_of h4' rfl, gI_of h4' rfl]
  simp only [Option.bind_some]
  rw [gaI_of a4' (by omega) (by omega), b4 _ (by omega)]
  simp only [Option.bind_some]
  refine ⟨wr h a (oC 4 [.ref (a + 1), .ref (a + 2), .ref (a + 3), .int (ix l.length), .ref (a + 4), .int (ix st.length)]), ?_, ⟨h1, h2, by omega, h4', ⟨g1, ?_, b1⟩, ⟨g2, ?_, b2⟩, ⟨g3, ?_, b3⟩, ⟨g4, a4', ?_⟩⟩, wr_frI h _ (by omega) (by omega), rfl⟩
  · simp [List.getD_eq_getElem?_getD, List.getElem?_append]
  · rw [wr_ne _ _ (by omega)]; exact a1
  · rw [wr_ne _ _ (by omega)]; exact a2
  · rw [wr_ne _ _ (by omega)]; exact a3
  · intro i hi
    rw [b4 i (by omega)]
    simp [List.getD_eq_getElem?_getD, List.getElem?_append, hi]
theorem getD_snoc_lt {α : Type} (l : List α) (x y : α) {i : Nat} (hi : i < l.length) : (l ++ [x]).getD i y = l.getD i y := by
  simp [List.getD_eq_getElem?_getD, List.getElem?_append_left hi]
theorem getD_snoc_eq {α : Type} (l : List α) (x y : α) : (l ++ [x]).getD l.length y = x := by
  simp [List.getD_eq_getElem?_getD]
theorem is_Pr.add (t : is_Pr h a l) (hl : l.length < 400) (k u v : Nat) : ∃ h', f_Pr_add a (ix k) (ix u) (ix v) h = some h' ∧ is_Pr h' a (l ++ [(k, u, v)]) ∧ fr a (a + 5) h h' ∧ h'.2 = h.2 := by
  obtain ⟨st, h1, h2, h3, h4, ⟨g1, a1, b1⟩, ⟨g2, a2, b2⟩, ⟨g3, a3, b3⟩, ⟨g4, a4, b4⟩⟩ := t
  unfold f_Pr_add
  rw [gI_of h4 rfl, gR_of h4 rfl]
  simp only [Option.bind_some]
  rw [show (400 : Int32) = ix 400 from rfl, if_neg (ix_nle (by omega) (by omega)), paI_of a1 (by omega) (by omega)]
  simp only [Option.bind_some]
  have h5 : (wr h (a + 1) (aI 400 (upd g1 l.length (ix k)))).1 a = _ := (wr_ne h _ (by omega)).trans h4
  have c5 : (wr h (a + 1) (aI 400 (upd g1 l.length (ix k)))).1 (a + 2) = _ := (wr_ne h _ (by omega)).trans a2
  rw [gI_of h5 rfl, gR_of h5 rfl]
  simp only [Option.bind_some]
  rw [paI_of c5 (by omega) (by omega)]
  simp only [Option.bind_some]
  have h6 := (wr_ne (wr h (a + 1) (aI 400 (upd g1 l.length (ix k)))) (a := a + 2) (q := a) (aI 400 (upd g2 l.length (ix u))) (by omega)).trans h5
  have c6 := (wr_ne (wr h (a + 1) (aI 400 (upd g1 l.length (ix k)))) (a := a + 2) (q := a + 3) (aI 400 (upd g2 l.length (ix u))) (by omega)).trans ((wr_ne h _ (by omega)).trans a3)
  rw [gI_of h6 rfl, gR_of h6 rfl]
  simp only [Option.bind_some]
  rw [paI_of c6 (by omega) (by omega)]
  simp only [Option.bind_some]
  have h7 := (wr_ne (wr (wr h (a + 1) (aI 400 (upd g1 l.length (ix k)))) (a + 2) (aI 400 (upd g2 l.length (ix u)))) (a := a + 3) (q := a) (aI 400 (upd g3 l.length (ix v))) (by omega)).trans h6
  rw [gI_of h7 rfl]
  simp only [Option.bind_some]
  rw [pF_of h7 (by simp)]
  refine ⟨_, rfl, ⟨st, h1, by simp; omega, h3, ?_, ⟨upd g1 l.length (ix k), ?_, ?_⟩, ⟨upd g2 l.length (ix u), ?_, ?_⟩, ⟨upd g3 l.length (ix v), ?_, ?_⟩, ⟨g4, ?_, b4⟩⟩, (((wr_frI h _ (by omega) (by omega)).trans (wr_frI _ _ (by omega) (by omega))).trans (wr_frI _ _ (by omega) (by omega))).trans (wr_frI _ _ (by omega) (by omega)), rfl⟩
  · rw [wr_self, ix_add1]; simp
  · rw [wr_ne _ _ (by omega), wr_ne _ _ (by omega), wr_ne _ _ (by omega), wr_self]
  · intro i hi
    simp at hi
    unfold upd
    by_cases hq : i = l.length
    · subst hq; rw [getD_snoc_eq, if_pos rfl]
    · rw [if_neg hq, b1 i (by omega), getD_snoc_lt _ _ _ (by omega)]
  · rw [wr_ne _ _ (by omega), wr_ne _ _ (by omega), wr_self]
  · intro i hi
    simp at hi
    unfold upd
    by_cases hq : i = l.length
    · subst hq; rw [getD_snoc_eq, if_pos rfl]
    · rw [if_neg hq, b2 i (by omega), getD_snoc_lt _ _ _ (by omega)]
  · rw [wr_ne _ _ (by omega), wr_self]
  · intro i hi
    simp at hi
    unfold upd
    by_cases hq : i = l.length
    · subst hq; rw [getD_snoc_eq, if_pos rfl]
    · rw [if_neg hq, b3 i (by omega), getD_snoc_lt _ _ _ (by omega)]
  · rw [wr_ne _ _ (by omega), wr_ne _ _ (by omega), wr_ne _ _ (by omega), wr_ne _ _ (by omega)]; exact a4
end
