/-! A test or a sum reckoned. -/
theorem runV_len {ask : Nat → Nat → Nat → Int32} : ∀ (m : List (Nat × Nat × Nat)) (st : List Int32) (ts ts' : List Bool), fits m ts = some ts' → st.length = ts.length → (runV ask m st).length = ts'.length := by
  intro m
  induction m with
  | nil => intro st ts ts' ht hs; cases ht; exact hs
  | cons q m ih =>
    intro st ts ts' ht hs
    simp only [fits] at ht
    cases hq : fitI q.1 ts with
    | none => rw [hq] at ht; cases ht
    | some t =>
      rw [hq] at ht
      simp only [Option.bind_some] at ht
      obtain ⟨f1, f2, f3⟩ := fitI_len hq
      refine ih (stpV ask q st) t ts' ht ?_
      unfold stpV
      split
      · simp; omega
      · split
        · simp at hs; omega
        · split
          · simp at hs ⊢; omega
          · split
            · simp at hs; omega
            · simp at hs ⊢; omega
def valV (ask : Nat → Nat → Nat → Int32) (m : List (Nat × Nat × Nat)) : Int32 := (runV ask m []).getD 0 0
theorem is_Pr.reckon {h : hp_M} {a b n : Nat} {P : Nat → Nat → Int32} {wt : Nat → Int32} {pn : Nat} {pp : Nat → Int32} {d : Int32} {l m rest : List (Nat × Nat × Nat)} (t : is_Pr h a l) (u : is_Sk h b n P wt pn pp d) (ok : okY n P) (hab : a + 5 ≤ b ∨ b + 13 ≤ a) {fl i e : Nat} (hfl : 5000 ≤ fl) {ty : Bool} (hd : l.drop i = m ++ rest) (he : i + m.length = e) (hm : m.length ≤ 400) (hi : i < 2147483648) (ht : fits m [] = some [ty]) (hok : ∀ q, q ∈ m → okIt n q) : ∃ h', f_Pr_reckon fl a (ix i) (ix e) b h = some (valV (askV P pn d) m, h') ∧ is_Pr h' a l ∧ fr a (a + 5) h h' ∧ h'.2 = h.2 := by
  obtain ⟨st, t⟩ := t
  unfold f_Pr_reckon
  rw [pF_of t.2.2.2.1 (by simp)]
  simp only [Option.bind_some, List.set_cons_succ, List.set_cons_zero]
  have t1 := t.setObj l (Or.inr rfl) [] (Or.inl rfl)
  have u1 : is_Sk (wr h a (oC 4 [.ref (a + 1), .ref (a + 2), .ref (a + 3), .int (ix l.length), .ref (a + 4), .int 0])) b n P wt pn pp d := u.keep (wr_fr _ _ _) (by omega)
  have hx : imax (ix i) 0 = ix i := by unfold imax; rw [if_neg (ix_nn hi)]
  rw [hx]
  obtain ⟨h2, e2, t2, r2, z2⟩ := rk_b ok hab fl e (fun (h2 : hp_M) => (onO h2 a 4 (f_Pr_pop a h2)).bind fun r3 => some (r3.1, r3.2)) m rest fl i [] [] [ty] _ hd he (by omega) ht rfl (by simpa using hm) hok t1 u1
  have hl := runV_len (ask := askV P pn d) m [] [] [ty] ht rfl
  cases hq : runV (askV P pn d) m [] with
  | nil => rw [hq] at hl; simp at hl
  | cons x s0 =>
    rw [hq] at t2
    obtain ⟨h3, e3, t3, r3, z3⟩ := t2.pop
    refine ⟨h3, ?_, ⟨s0, t3⟩, ((wr_frI h _ (by omega) (by omega)).trans r2).trans r3, by rw [z3, z2, wr_2]⟩
    refine e2.trans ?_
    rw [t2.on, e3]
    unfold valV
    rw [hq]
    rfl
