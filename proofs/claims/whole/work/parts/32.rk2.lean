/-! Reckoning: typed items over a typed stack (true: a test's value, 0 or 1). -/
def fitI (k : Nat) (ts : List Bool) : Option (List Bool) :=
  if k < 6 then some (false :: ts) else if k < 9 then some (true :: ts) else
  match ts with
  | [] => none
  | x :: r => if k = 9 then (if x then none else some (false :: r)) else if k = 10 then (if x then some (true :: r) else none) else
    match r with
    | [] => none
    | y :: r' => if k < 13 then (if x && y then some (true :: r') else none) else if k < 20 then (if x || y then none else some (false :: r')) else (if x || y then none else some (true :: r'))
def fits : List (Nat × Nat × Nat) → List Bool → Option (List Bool)
  | [], ts => some ts
  | q :: l, ts => (fitI q.1 ts).bind fun t => fits l t
theorem fits_append (l m : List (Nat × Nat × Nat)) (ts : List Bool) : fits (l ++ m) ts = (fits l ts).bind fun t => fits m t := by
  induction l generalizing ts with
  | nil => rfl
  | cons q l ih =>
    simp only [List.cons_append, fits]
    cases fitI q.1 ts with
    | none => rfl
    | some t => simp only [Option.bind_some]; exact ih t
def stpV (ask : Nat → Nat → Nat → Int32) (q : Nat × Nat × Nat) (st : List Int32) : List Int32 :=
  if q.1 < 9 then ask q.1 q.2.1 q.2.2 :: st else
  match st with
  | [] => []
  | x :: r => if q.1 < 11 then turV q.1 x :: r else
    match r with
    | [] => []
    | y :: r' => joiV q.1 y x :: r'
def runV (ask : Nat → Nat → Nat → Int32) (l : List (Nat × Nat × Nat)) (st : List Int32) : List Int32 := l.foldl (fun s q => stpV ask q s) st
/-- the values of a stack keep its types -/
def typd (st : List Int32) (ts : List Bool) : Prop := st.length = ts.length ∧ ∀ i, ts.getD i false = true → st.getD i 0 = 0 ∨ st.getD i 0 = 1
theorem drop_cons_get {α : Type} {l m : List α} {q z : α} {i : Nat} (e : l.drop i = q :: m) : i < l.length ∧ l.getD i z = q ∧ l.drop (i + 1) = m := by
  have hi : i < l.length := by
    apply Nat.lt_of_not_le
    intro hc
    rw [List.drop_eq_nil_of_le hc] at e
    cases e
  rw [List.drop_eq_getElem_cons hi] at e
  injection e with e1 e2
  refine ⟨hi, ?_, e2⟩
  rw [← e1]
  simp [List.getD_eq_getElem?_getD, hi]
theorem fitI_len {k : Nat} {ts ts1 : List Bool} (e : fitI k ts = some ts1) : (k < 9 → ts1.length = ts.length + 1) ∧ (9 ≤ k → k < 11 → ts1.length = ts.length ∧ 1 ≤ ts.length) ∧ (11 ≤ k → ts1.length + 1 = ts.length ∧ 2 ≤ ts.length) := by
  unfold fitI at e
  split at e
  · cases e
    refine ⟨fun _ => by simp, fun _ _ => by omega, fun _ => by omega⟩
  · split at e
    · cases e
      refine ⟨fun _ => by simp, fun _ _ => by omega, fun _ => by omega⟩
    · refine ⟨fun _ => by omega, ?_⟩
      split at e
      · cases e
      · split at e
        · split at e
          · cases e
          · cases e
            exact ⟨fun _ _ => by simp, fun _ => by omega⟩
        · split at e
          · split at e
            · cases e
              exact ⟨fun _ _ => by simp, fun _ => by omega⟩
            · cases e
          · split at e
            · cases e
            · refine ⟨fun _ _ => by omega, fun _ => ?_⟩
              split at e
              · split at e
                · cases e; simp
                · cases e
              · split at e
                · split at e
                  · cases e
                  · cases e; simp
                · split at e
                  · cases e
                  · cases e; simp
theorem rk_b {a b n : Nat} {P : Nat → Nat → Int32} {wt : Nat → Int32} {pn : Nat} {pp : Nat → Int32} {d : Int32} {l : List (Nat × Nat × Nat)} (ok : okY n P) (hab : a + 5 ≤ b ∨ b + 13 ≤ a) (fl e : Nat) (k : hp_M → Option (Int32 × hp_M)) : ∀ (m rest : List (Nat × Nat × Nat)) (fu i : Nat) (st : List Int32) (ts ts' : List Bool) (h : hp_M), l.drop i = m ++ rest → i + m.length = e → m.length < fu → fits m ts = some ts' → st.length = ts.length → st.length + m.length ≤ 400 → (∀ q, q ∈ m → okIt n q) → is_Ps h a l st → is_Sk h b n P wt pn pp d → ∃ h', f_Pr_reckon_b12 fl a (ix e) b k fu (ix i) h = k h' ∧ is_Ps h' a l (runV (askV P pn d) m st) ∧ fr a (a + 5) h h' ∧ h'.2 = h.2 := by
  intro m
  induction m with
  | nil =>
    intro rest fu i st ts ts' h hd he hf ht hs hs4 hok t u
    obtain ⟨fu, rfl⟩ : ∃ q, fu = q + 1 := ⟨fu - 1, by simp at hf; omega⟩
    have : i = e := by simpa using he
    subst this
    unfold f_Pr_reckon_b12
    have hl := t.2.1
    by_cases hi : i < 2147483648
    · rw [if_pos (ix_le1 (Nat.le_refl _) hi)]
      exact ⟨h, rfl, t, fr.refl _ _ _, rfl⟩
    · rw [if_pos (by rw [i32_le]; omega)]
      exact ⟨h, rfl, t, fr.refl _ _ _, rfl⟩
  | cons q m ih =>
    intro rest fu i st ts ts' h hd he hf ht hs hs4 hok t u
    obtain ⟨fu, rfl⟩ : ∃ q, fu = q + 1 := ⟨fu - 1, by simp at hf; omega⟩
    obtain ⟨hi, hg, hd'⟩ := drop_cons_get (z := (0, 0, 0)) (show l.drop i = q :: (m ++ rest) from hd)
    obtain ⟨t1, t2, t3, t4, ⟨g1, a1, b1⟩, ⟨g2, a2, b2⟩, ⟨g3, a3, b3⟩, t8⟩ := id t
    simp only [List.length_cons] at he hf hs4
    obtain ⟨⟨k0, u0, v0⟩, rfl⟩ : ∃ z : Nat × Nat × Nat, q = z := ⟨q, rfl⟩
    have okq : okIt n (k0, u0, v0) := hok _ (List.mem_cons_self ..)
    have hk24 : k0 ≤ 24 := okq.1
    simp only [fits] at ht
    have el : i + m.length < 400 := by
      have := congrArg List.length hd
      simp at this
      omega
    have fin : ∀ h1 st1 ts1, fitI k0 ts = some ts1 → st1.length = ts1.length → st1.length ≤ st.length + 1 → st1 = stpV (askV P pn d) (k0, u0, v0) st → is_Ps h1 a l st1 → fr a (a + 5) h h1 → h1.2 = h.2 → ∃ h', f_Pr_reckon_b12 fl a (ix e) b k fu (ix i + 1) h1 = k h' ∧ is_Ps h' a l (runV (askV P pn d) ((k0, u0, v0) :: m) st) ∧ fr a (a + 5) h h' ∧ h'.2 = h.2 := by
      intro h1 st1 ts1 f1 f2 f3 f4 f5 f6 f7
      rw [f1] at ht
      simp only [Option.bind_some] at ht
      rw [ix_add1]
      obtain ⟨h', e', t', r', z'⟩ := ih rest fu (i + 1) st1 ts1 ts' h1 hd' (by omega) (by omega) ht f2 (by omega) (fun q hq => hok q (List.mem_cons_of_mem _ hq)) f5 (u.keep f6 (by omega))
      refine ⟨h', e', ?_, f6.trans r', by omega⟩
      rw [f4] at t'
      exact t'
    unfold f_Pr_reckon_b12 jn
    dsimp only
    rw [if_neg (ix_nle (by omega) (by omega)), gI_of t4 rfl]
    simp only [Option.bind_some]
    rw [if_neg (ix_nle (by omega) (by omega)), gR_of t4 rfl, gR_of t4 rfl, gR_of t4 rfl]
    simp only [Option.bind_some]
    rw [gaI_of a1 (by omega) (by omega), gaI_of a2 (by omega) (by omega), gaI_of a3 (by omega) (by omega), b1 i hi, b2 i hi, b3 i hi, hg]
    simp only [Option.bind_some]
    rw [show (9 : Int32) = ix 9 from rfl, show (11 : Int32) = ix 11 from rfl]
    obtain ⟨ts1, q1⟩ : ∃ ts1, fitI k0 ts = some ts1 := by
      cases hq : fitI k0 ts with
      | none => rw [hq] at ht; cases ht
      | some t => exact ⟨t, rfl⟩
    obtain ⟨fl1, fl2, fl3⟩ := fitI_len q1
    by_cases c9 : k0 < 9
    · rw [if_neg (ix_nle (by omega) (by omega)), f_Pr_asked_of u ok c9 okq]
      simp only [Option.bind_some]
      rw [t.on]
      obtain ⟨h1, e1, p1, r1, z1⟩ := t.push (by omega) (askV P pn d k0 u0 v0)
      rw [e1]
      simp only [Option.bind_some]
      exact fin h1 _ ts1 q1 (by simp; omega) (by simp) (by unfold stpV; rw [if_pos c9]) p1 r1 z1
    · by_cases c11 : k0 < 11
      · rw [if_pos (ix_le1 (by omega) (by omega)), if_neg (ix_nle (by omega) (by omega))]
        cases st with
        | nil => simp at hs; omega
        | cons x st0 =>
          obtain ⟨h1, e1, p1, r1, z1⟩ := t.pop
          rw [t.on, e1]
          simp only [Option.bind_some]
          rw [f_Pr_turned_of (by omega)]
          simp only [Option.bind_some]
          simp only [List.length_cons] at hs hs4 fin
          obtain ⟨h2, e2, p2, r2, z2⟩ := p1.push (by omega) (turV k0 x)
          rw [p1.on, e2]
          simp only [Option.bind_some]
          exact fin h2 _ ts1 q1 (by simp; omega) (by simp) (by unfold stpV; rw [if_neg c9]; dsimp only; rw [if_pos c11]) p2 (r1.trans r2) (by omega)
      · rw [if_pos (ix_le1 (by omega) (by omega)), if_pos (ix_le1 (by omega) (by omega))]
        cases st with
        | nil => simp at hs; omega
        | cons x st0 =>
          cases st0 with
          | nil => simp at hs; omega
          | cons y st1 =>
            obtain ⟨h1, e1, p1, r1, z1⟩ := t.pop
            rw [t.on, e1]
            simp only [Option.bind_some]
            obtain ⟨h2, e2, p2, r2, z2⟩ := p1.pop
            rw [p1.on, e2]
            simp only [Option.bind_some]
            rw [f_Pr_joined_of (by omega)]
            simp only [Option.bind_some]
            simp only [List.length_cons] at hs hs4 fin
            obtain ⟨h3, e3, p3, r3, z3⟩ := p2.push (by omega) (joiV k0 y x)
            rw [p2.on, e3]
            simp only [Option.bind_some]
            exact fin h3 _ ts1 q1 (by simp; omega) (by simp) (by unfold stpV; rw [if_neg c9]; dsimp only; rw [if_neg c11]) p3 ((r1.trans r2).trans r3) (by omega)
