/-! The grammar over kinds of tokens: (is it so, where it ends, what is told: steps with the tokens of their names). -/
abbrev evV : Type := Nat × Nat × Nat
abbrev resV : Type := Bool × Nat × List evV
def stp (k : Nat) : Nat := [0, 0, 0, 0, 0, 0, 0, 0, 0, 0, 0, 0, 0, 0, 7, 8, 3, 4, 5, 1, 2, 10, 11, 12, 13, 14, 0, 0, 0, 0, 0, 0, 15, 16, 17, 18, 19, 20, 21, 22, 23, 24].getD k 0
theorem stp_of : ∀ k, k < 42 → 14 ≤ k → (k ≤ 25 ∨ 32 ≤ k) → kd_st.getD k 0 = ix (stp k) := by decide
theorem isPro_of : ∀ k, k < 42 → ∀ h, f_Pr_isProduct (kd_st.getD k 0) h = some (if k = 34 ∨ k = 35 ∨ k = 36 then 1 else 0) := by
  intro k hk h
  have : f_Pr_isProduct (kd_st.getD k 0) h = f_Pr_isProduct (kd_st.getD k 0) (fun _ => none, 0) := rfl
  rw [this]
  exact (by decide +kernel : ∀ k, k < 42 → f_Pr_isProduct (kd_st.getD k 0) (fun _ => none, 0) = some (if k = 34 ∨ k = 35 ∨ k = 36 then 1 else 0)) k hk
theorem isCmp_of : ∀ k, k < 42 → ∀ h, f_Pr_isComparison (kd_st.getD k 0) h = some (if 37 ≤ k then 1 else 0) := by
  intro k hk h
  have : f_Pr_isComparison (kd_st.getD k 0) h = f_Pr_isComparison (kd_st.getD k 0) (fun _ => none, 0) := rfl
  rw [this]
  exact (by decide +kernel : ∀ k, k < 42 → f_Pr_isComparison (kd_st.getD k 0) (fun _ => none, 0) = some (if 37 ≤ k then 1 else 0)) k hk
def gFl (p : Nat) : resV := (false, p, [])
def gLp (K : Nat → Nat) (v : Nat → resV) (op : Nat → Bool) : Nat → Nat → resV
  | 0, p => (true, p, [])
  | n + 1, p => if op (K p) = true then (if (v (p + 1)).1 = true then ((gLp K v op n (v (p + 1)).2.1).1, (gLp K v op n (v (p + 1)).2.1).2.1, (v (p + 1)).2.2 ++ (stp (K p), 0, 0) :: (gLp K v op n (v (p + 1)).2.1).2.2) else gFl (v (p + 1)).2.1) else (true, p, [])
def gSq (K : Nat → Nat) (v : Nat → resV) (op : Nat → Bool) (p : Nat) : resV := if (v p).1 = true then ((gLp K v op 400 (v p).2.1).1, (gLp K v op 400 (v p).2.1).2.1, (v p).2.2 ++ (gLp K v op 400 (v p).2.1).2.2) else gFl (v p).2.1
def opPro (k : Nat) : Bool := decide (k = 34 ∨ k = 35 ∨ k = 36)
def opSum (k : Nat) : Bool := decide (k = 32 ∨ k = 33)
def opAnd (k : Nat) : Bool := decide (k = 22)
def opOr (k : Nat) : Bool := decide (k = 23)
def gTwo (K : Nat → Nat) (p : Nat) : resV := if K (p + 1) = 2 then (if K (p + 2) = 2 then (true, p + 3, [(stp (K p), p + 1, p + 2)]) else gFl (p + 2)) else gFl (p + 1)
def gOne (K : Nat → Nat) (st p : Nat) : resV := if K (p + 1) = 2 then (true, p + 2, [(st, p + 1, 0)]) else gFl (p + 1)
def gAft (r : resV) (q : evV) : resV := if r.1 = true then (true, r.2.1, r.2.2 ++ [q]) else gFl r.2.1
def gCls (K : Nat → Nat) (r : resV) (k : Nat) : resV := if r.1 = true then (if K r.2.1 = k then (true, r.2.1 + 1, r.2.2) else gFl r.2.1) else gFl r.2.1
def gThn (r : resV) (f : Nat → resV) : resV := if r.1 = true then ((f r.2.1).1, (f r.2.1).2.1, r.2.2 ++ (f r.2.1).2.2) else gFl r.2.1
/-- a value, where deeper ones are known -/
def gValF (K : Nat → Nat) (v s : Nat → resV) (deep : Bool) (p : Nat) : resV :=
  if K p = 3 then (true, p + 1, [(0, p, 0)]) else if K p = 19 ∨ K p = 20 then (true, p + 1, [(stp (K p), 0, 0)]) else if K p = 16 ∨ K p = 17 then gOne K (stp (K p)) p else if K p = 18 then gTwo K p
  else if K p = 33 then (if deep = true then gAft (v (p + 1)) (9, 0, 0) else gFl p)
  else if K p = 24 ∨ K p = 25 then (if K (p + 1) = 26 ∧ deep = true then gAft (gCls K (gThn (gCls K (s (p + 2)) 31) s) 27) (stp (K p), 0, 0) else gFl (p + 1))
  else if K p = 26 ∧ deep = true then gCls K (s (p + 1)) 27 else gFl p
def gSum (K : Nat → Nat) (v : Nat → resV) : Nat → resV := gSq K (gSq K v opPro) opSum
def gVal (K : Nat → Nat) : Nat → Nat → resV
  | 0, p => gValF K gFl gFl false p
  | k + 1, p => gValF K (fun q => gVal K k q) (gSum K (fun q => gVal K k q)) true p
def gSinF (K : Nat → Nat) (sum s t : Nat → resV) (deep : Bool) (p : Nat) : resV :=
  if K p = 21 then (if deep = true then gAft (s (p + 1)) (10, 0, 0) else gFl p)
  else if K p = 28 then (if deep = true then gCls K (t (p + 1)) 29 else gFl p)
  else if K p = 14 ∨ K p = 15 then gTwo K p
  else if K p = 8 then gOne K 6 p
  else if (sum p).1 = true then (if 37 ≤ K (sum p).2.1 then gAft (gThn (true, (sum p).2.1 + 1, (sum p).2.2) sum) (stp (K (sum p).2.1), 0, 0) else gFl (sum p).2.1) else gFl (sum p).2.1
def gTst (K : Nat → Nat) (v : Nat → resV) : Nat → resV := gSq K (gSq K v opAnd) opOr
def gSin (K : Nat → Nat) : Nat → Nat → resV
  | 0, p => gSinF K (gSum K (gVal K 0)) gFl gFl false p
  | k + 1, p => gSinF K (gSum K (gVal K (k + 1))) (fun q => gSin K k q) (gTst K (fun q => gSin K k q)) true p
/-! How far it goes, and what it tells. -/
def wsm (l : List evV) : Nat := l.foldr (fun q n => wid q.1 + n) 0
def osn (k : Nat) : Nat := if k = 5 ∨ k = 7 ∨ k = 8 then 2 else if k = 3 ∨ k = 4 ∨ k = 6 then 1 else 0
def osm (l : List evV) : Nat := l.foldr (fun q n => osn q.1 + n) 0
theorem wsm_app (l m : List evV) : wsm (l ++ m) = wsm l + wsm m := by
  induction l with
  | nil => simp [wsm]
  | cons q l ih => simp only [List.cons_append]; show wid q.1 + wsm (l ++ m) = wid q.1 + wsm l + wsm m; omega
theorem osm_app (l m : List evV) : osm (l ++ m) = osm l + osm m := by
  induction l with
  | nil => simp [osm]
  | cons q l ih => simp only [List.cons_append]; show osn q.1 + osm (l ++ m) = osn q.1 + osm l + osm m; omega
theorem wsm_cons (q : evV) (l : List evV) : wsm (q :: l) = wid q.1 + wsm l := rfl
theorem osm_cons (q : evV) (l : List evV) : osm (q :: l) = osn q.1 + osm l := rfl
theorem wsm_nil : wsm [] = 0 := rfl
theorem osm_nil : osm [] = 0 := rfl
def okN (K : Nat → Nat) (N : Nat) : Prop := ∀ i, i < N → (K i < 42 ∧ (2 ≤ K i → i + 1 < N))
/-- s: tokens used up beyond those of the events -/
def gB (N s p : Nat) (r : resV) : Prop := r.2.1 < N ∧ p ≤ r.2.1 ∧ (r.1 = true → p + s ≤ r.2.1 ∧ r.2.2.length + p + s ≤ r.2.1 + 1 ∧ wsm r.2.2 + 2 * (p + s) ≤ 2 * r.2.1 + 2 ∧ osm r.2.2 + p + s ≤ r.2.1 + 1)
section
variable {K : Nat → Nat} {N : Nat}
theorem gFl_B {s p q : Nat} (h : q < N) (h1 : p ≤ q) : gB N s p (gFl q) := ⟨h, h1, fun z => by cases z⟩
theorem opw : ∀ k, k < 42 → (opPro k = true ∨ opSum k = true ∨ opAnd k = true ∨ opOr k = true ∨ 37 ≤ k ∨ k = 24 ∨ k = 25) → 2 ≤ k ∧ wid (stp k) = 1 ∧ osn (stp k) = 0 := by decide +kernel
theorem gLp_B (ok : okN K N) {v : Nat → resV} (hv : ∀ q, q < N → gB N 1 q (v q)) {op : Nat → Bool} (hop : ∀ k, k < 42 → op k = true → 2 ≤ k ∧ wid (stp k) = 1 ∧ osn (stp k) = 0) : ∀ n p, p < N → gB N 1 p (gLp K v op n p) ∨ ((gLp K v op n p) = (true, p, [])) := by
  intro n
  induction n with
  | zero => intro p _; exact Or.inr rfl
  | succ n ih =>
    intro p hp
    unfold gLp
    by_cases c : op (K p) = true
    · rw [if_pos c]
      obtain ⟨k2, w1, o1⟩ := hop _ (ok p hp).1 c
      have p1 := (ok p hp).2 k2
      obtain ⟨b1, b2, b3⟩ := hv (p + 1) p1
      left
      by_cases d : (v (p + 1)).1 = true
      · rw [if_pos d]
        obtain ⟨c1, c2, c3, c4⟩ := b3 d
        rcases ih (v (p + 1)).2.1 b1 with ⟨i1, i2, i3⟩ | e
        · refine ⟨i1, by dsimp only; omega, fun z => ?_⟩
          obtain ⟨j1, j2, j3, j4⟩ := i3 z
          dsimp only
          rw [List.length_append, List.length_cons, wsm_app, osm_app, wsm_cons, osm_cons, w1, o1]
          omega
        · rw [e]
          refine ⟨b1, by dsimp only; omega, fun z => ?_⟩
          dsimp only
          rw [List.length_append, List.length_cons, List.length_nil, wsm_app, osm_app, wsm_cons, osm_cons, w1, o1, wsm_nil, osm_nil]
          omega
      · rw [if_neg d]
        exact gFl_B b1 (by omega)
    · rw [if_neg c]; exact Or.inr rfl
theorem gSq_B (ok : okN K N) {v : Nat → resV} (hv : ∀ q, q < N → gB N 1 q (v q)) {op : Nat → Bool} (hop : ∀ k, k < 42 → op k = true → 2 ≤ k ∧ wid (stp k) = 1 ∧ osn (stp k) = 0) : ∀ p, p < N → gB N 1 p (gSq K v op p) := by
  intro p hp
  unfold gSq
  obtain ⟨b1, b2, b3⟩ := hv p hp
  by_cases d : (v p).1 = true
  · rw [if_pos d]
    obtain ⟨c1, c2, c3, c4⟩ := b3 d
    rcases gLp_B ok hv hop 400 (v p).2.1 b1 with ⟨i1, i2, i3⟩ | e
    · refine ⟨i1, by dsimp only; omega, fun z => ?_⟩
      obtain ⟨j1, j2, j3, j4⟩ := i3 z
      dsimp only
      rw [List.length_append, wsm_app, osm_app]
      omega
    · rw [e]
      refine ⟨b1, by dsimp only; omega, fun z => ?_⟩
      dsimp only
      rw [List.length_append, List.length_nil, wsm_app, osm_app, wsm_nil, osm_nil]
      omega
  · rw [if_neg d]
    exact gFl_B b1 (by omega)
theorem gTwo_B (ok : okN K N) {p : Nat} (hp : p < N) (k2 : 2 ≤ K p) : gB N 1 p (gTwo K p) := by
  have p1 := (ok p hp).2 k2
  have w : ∀ k, wid k ≤ 3 := fun k => (wid_1 k).2
  have o : ∀ k, osn k ≤ 2 := fun k => by unfold osn; (repeat' split) <;> omega
  unfold gTwo
  by_cases c : K (p + 1) = 2
  · rw [if_pos c]
    have p2 := (ok (p + 1) p1).2 (by omega)
    by_cases d : K (p + 2) = 2
    · rw [if_pos d]
      have p3 := (ok (p + 2) p2).2 (by omega)
      refine ⟨p3, by dsimp only; omega, fun _ => ?_⟩
      dsimp only
      have := w (stp (K p))
      have := o (stp (K p))
      rw [List.length_singleton, wsm_cons, osm_cons, wsm_nil, osm_nil]
      dsimp only
      omega
    · rw [if_neg d]; exact gFl_B p2 (by omega)
  · rw [if_neg c]; exact gFl_B p1 (by omega)
theorem gOne_B (ok : okN K N) {p st : Nat} (hp : p < N) (k2 : 2 ≤ K p) (hw : wid st ≤ 2) (ho : osn st ≤ 1) : gB N 1 p (gOne K st p) := by
  have p1 := (ok p hp).2 k2
  unfold gOne
  by_cases c : K (p + 1) = 2
  · rw [if_pos c]
    have p2 := (ok (p + 1) p1).2 (by omega)
    refine ⟨p2, by dsimp only; omega, fun _ => ?_⟩
    dsimp only
    rw [List.length_singleton, wsm_cons, osm_cons, wsm_nil, osm_nil]
    dsimp only
    omega
  · rw [if_neg c]; exact gFl_B p1 (by omega)
theorem gAft_B {p : Nat} {r : resV} {q : evV} (h : gB N 2 p r) (hw : wid q.1 = 1) (ho : osn q.1 = 0) : gB N 1 p (gAft r q) := by
  obtain ⟨b1, b2, b3⟩ := h
  unfold gAft
  by_cases d : r.1 = true
  · rw [if_pos d]
    obtain ⟨c1, c2, c3, c4⟩ := b3 d
    refine ⟨b1, b2, fun _ => ?_⟩
    dsimp only
    rw [List.length_append, List.length_singleton, wsm_app, osm_app, wsm_cons, osm_cons, wsm_nil, osm_nil, hw, ho]
    omega
  · rw [if_neg d]; exact gFl_B b1 b2
theorem gB.up {p q s t : Nat} {r : resV} (h : gB N s q r) (hq : p + t ≤ q + s) (hp : p ≤ q) : gB N t p r := by
  obtain ⟨b1, b2, b3⟩ := h
  refine ⟨b1, by omega, fun z => ?_⟩
  obtain ⟨c1, c2, c3, c4⟩ := b3 z
  omega
theorem gCls_B (ok : okN K N) {s p k : Nat} {r : resV} (h : gB N s p r) (hk : 2 ≤ k) : gB N (s + 1) p (gCls K r k) := by
  obtain ⟨b1, b2, b3⟩ := h
  unfold gCls
  by_cases d : r.1 = true
  · rw [if_pos d]
    obtain ⟨c1, c2, c3, c4⟩ := b3 d
    by_cases c : K r.2.1 = k
    · rw [if_pos c]
      have := (ok _ b1).2 (by omega)
      refine ⟨this, by dsimp only; omega, fun _ => ?_⟩
      dsimp only
      omega
    · rw [if_neg c]; exact gFl_B b1 b2
  · rw [if_neg d]; exact gFl_B b1 b2
theorem gThn_B {s p : Nat} {r : resV} {f : Nat → resV} (h : gB N s p r) (hf : ∀ q, q < N → gB N 1 q (f q)) : gB N s p (gThn r f) := by
  obtain ⟨b1, b2, b3⟩ := h
  unfold gThn
  by_cases d : r.1 = true
  · rw [if_pos d]
    obtain ⟨c1, c2, c3, c4⟩ := b3 d
    obtain ⟨i1, i2, i3⟩ := hf _ b1
    refine ⟨i1, by dsimp only; omega, fun z => ?_⟩
    obtain ⟨j1, j2, j3, j4⟩ := i3 z
    dsimp only
    rw [List.length_append, wsm_app, osm_app]
    omega
  · rw [if_neg d]; exact gFl_B b1 b2
theorem gValF_B (ok : okN K N) {v s : Nat → resV} {deep : Bool} (hv : deep = true → ∀ q, q < N → gB N 1 q (v q)) (hs : deep = true → ∀ q, q < N → gB N 1 q (s q)) : ∀ p, p < N → gB N 1 p (gValF K v s deep p) := by
  intro p hp
  have n1 : 2 ≤ K p → p + 1 < N := (ok p hp).2
  unfold gValF
  by_cases c1 : K p = 3
  · rw [if_pos c1]
    exact ⟨n1 (by omega), by dsimp only; omega, fun _ => by dsimp only; rw [List.length_singleton, wsm_cons, osm_cons, wsm_nil, osm_nil]; exact ⟨by omega, by omega, by show wid 0 + 0 + 2 * (p + 1) ≤ _; rw [show wid 0 = 2 from rfl]; omega, by show osn 0 + 0 + p + 1 ≤ _; rw [show osn 0 = 0 from rfl]; omega⟩⟩
  rw [if_neg c1]
  by_cases c2 : K p = 19 ∨ K p = 20
  · rw [if_pos c2]
    have w1 : wid (stp (K p)) = 1 ∧ osn (stp (K p)) = 0 := by rcases c2 with q | q <;> rw [q] <;> decide
    refine ⟨n1 (by omega), by dsimp only; omega, fun _ => ?_⟩
    dsimp only
    rw [List.length_singleton, wsm_cons, osm_cons, wsm_nil, osm_nil]
    dsimp only
    rw [w1.1, w1.2]
    omega
  rw [if_neg c2]
  by_cases c3 : K p = 16 ∨ K p = 17
  · rw [if_pos c3]
    have w1 : wid (stp (K p)) = 2 ∧ osn (stp (K p)) = 1 := by rcases c3 with q | q <;> rw [q] <;> decide
    exact gOne_B ok hp (by omega) (by omega) (by omega)
  rw [if_neg c3]
  by_cases c4 : K p = 18
  · rw [if_pos c4]; exact gTwo_B ok hp (by omega)
  rw [if_neg c4]
  by_cases c5 : K p = 33
  · rw [if_pos c5]
    by_cases d : deep = true
    · rw [if_pos d]
      exact gAft_B ((hv d (p + 1) (n1 (by omega))).up (by omega) (by omega)) rfl rfl
    · rw [if_neg d]; exact gFl_B hp (Nat.le_refl _)
  rw [if_neg c5]
  by_cases c6 : K p = 24 ∨ K p = 25
  · rw [if_pos c6]
    have p1 := n1 (by omega)
    have w1 := opw (K p) (ok p hp).1 (by omega)
    by_cases d : K (p + 1) = 26 ∧ deep = true
    · rw [if_pos d]
      have p2 := (ok (p + 1) p1).2 (by omega)
      refine gAft_B ?_ w1.2.1 w1.2.2
      exact (gCls_B ok (gThn_B (gCls_B ok ((hs d.2 (p + 2) p2).up (p := p) (t := 1) (by omega) (by omega)) (show 2 ≤ 31 by omega)) (hs d.2)) (show 2 ≤ 27 by omega)).up (by omega) (Nat.le_refl _)
    · rw [if_neg d]; exact gFl_B p1 (by omega)
  rw [if_neg c6]
  by_cases c7 : K p = 26 ∧ deep = true
  · rw [if_pos c7]
    exact (gCls_B ok (hs c7.2 (p + 1) (n1 (by omega))) (show 2 ≤ 27 by omega)).up (by omega) (by omega)
  rw [if_neg c7]; exact gFl_B hp (Nat.le_refl _)
theorem gSum_B (ok : okN K N) {v : Nat → resV} (hv : ∀ q, q < N → gB N 1 q (v q)) : ∀ p, p < N → gB N 1 p (gSum K v p) :=
  gSq_B ok (gSq_B ok hv (fun k hk q => opw k hk (Or.inl q))) (fun k hk q => opw k hk (Or.inr (Or.inl q)))
theorem gPro_B (ok : okN K N) {v : Nat → resV} (hv : ∀ q, q < N → gB N 1 q (v q)) : ∀ p, p < N → gB N 1 p (gSq K v opPro p) :=
  gSq_B ok hv (fun k hk q => opw k hk (Or.inl q))
theorem gVal_B (ok : okN K N) : ∀ k p, p < N → gB N 1 p (gVal K k p) := by
  intro k
  induction k with
  | zero => exact gValF_B ok (fun q => by cases q) (fun q => by cases q)
  | succ k ih => exact gValF_B ok (fun _ => ih) (fun _ => gSum_B ok ih)
theorem gBth_B (ok : okN K N) {v : Nat → resV} (hv : ∀ q, q < N → gB N 1 q (v q)) : ∀ p, p < N → gB N 1 p (gSq K v opAnd p) :=
  gSq_B ok hv (fun k hk q => opw k hk (Or.inr (Or.inr (Or.inl q))))
theorem gTst_B (ok : okN K N) {v : Nat → resV} (hv : ∀ q, q < N → gB N 1 q (v q)) : ∀ p, p < N → gB N 1 p (gTst K v p) :=
  gSq_B ok (gBth_B ok hv) (fun k hk q => opw k hk (Or.inr (Or.inr (Or.inr (Or.inl q)))))
theorem gSinF_B (ok : okN K N) {sum s t : Nat → resV} {deep : Bool} (hu : ∀ q, q < N → gB N 1 q (sum q)) (hs : deep = true → ∀ q, q < N → gB N 1 q (s q)) (ht : deep = true → ∀ q, q < N → gB N 1 q (t q)) : ∀ p, p < N → gB N 1 p (gSinF K sum s t deep p) := by
  intro p hp
  have n1 : 2 ≤ K p → p + 1 < N := (ok p hp).2
  unfold gSinF
  by_cases c1 : K p = 21
  · rw [if_pos c1]
    by_cases d : deep = true
    · rw [if_pos d]
      exact gAft_B ((hs d (p + 1) (n1 (by omega))).up (by omega) (by omega)) rfl rfl
    · rw [if_neg d]; exact gFl_B hp (Nat.le_refl _)
  rw [if_neg c1]
  by_cases c2 : K p = 28
  · rw [if_pos c2]
    by_cases d : deep = true
    · rw [if_pos d]
      exact (gCls_B ok (ht d (p + 1) (n1 (by omega))) (show 2 ≤ 29 by omega)).up (by omega) (by omega)
    · rw [if_neg d]; exact gFl_B hp (Nat.le_refl _)
  rw [if_neg c2]
  by_cases c3 : K p = 14 ∨ K p = 15
  · rw [if_pos c3]; exact gTwo_B ok hp (by omega)
  rw [if_neg c3]
  by_cases c4 : K p = 8
  · rw [if_pos c4]; exact gOne_B ok hp (by omega) (by decide) (by decide)
  rw [if_neg c4]
  obtain ⟨b1, b2, b3⟩ := hu p hp
  by_cases d : (sum p).1 = true
  · rw [if_pos d]
    obtain ⟨e1, e2, e3, e4⟩ := b3 d
    by_cases c5 : 37 ≤ K (sum p).2.1
    · rw [if_pos c5]
      have w1 := opw (K (sum p).2.1) (ok _ b1).1 (by omega)
      have p1 := (ok _ b1).2 w1.1
      refine gAft_B (gThn_B ⟨p1, by dsimp only; omega, fun _ => ?_⟩ hu) w1.2.1 w1.2.2
      dsimp only
      omega
    · rw [if_neg c5]; exact gFl_B b1 b2
  · rw [if_neg d]; exact gFl_B b1 b2
theorem gSin_B (ok : okN K N) : ∀ k p, p < N → gB N 1 p (gSin K k p) := by
  intro k
  induction k with
  | zero => exact gSinF_B ok (gSum_B ok (gVal_B ok 0)) (fun q => by cases q) (fun q => by cases q)
  | succ k ih => exact gSinF_B ok (gSum_B ok (gVal_B ok (k + 1))) (fun _ => ih) (fun _ => gTst_B ok ih)
end
