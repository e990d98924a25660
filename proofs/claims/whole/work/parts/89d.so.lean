/-! A statement's second pass: what comes of it. -/
theorem rof_out (l : List (Nat × Nat)) (i : Nat) (h : ∀ q, q ∈ l → q.1 ≠ i) : rof l i = 0 := rof_no l (fun _ => 0) i h
theorem rof_in : ∀ (l : List (Nat × Nat)) {a b : Nat}, asc a b (l.map (·.1)) → ∀ q, q ∈ l → rof l q.1 = q.2 := by
  intro l
  induction l with
  | nil => intro a b _ q hq; cases hq
  | cons x l ih =>
    intro a b h q hq
    have h2 : asc (x.1 + 1) b (l.map (·.1)) := h.2
    have far : ∀ y, y ∈ l → x.1 + 1 ≤ y.1 := fun y hy => (asc_mem _ h2 y.1 (List.mem_map_of_mem hy)).1
    rcases List.mem_cons.mp hq with e | e
    · rw [e]
      have := rof_app_no [x] l x.1 (fun y hy => by have := far y hy; omega)
      show rof ([x] ++ l) x.1 = x.2
      rw [this]
      exact if_pos rfl
    · have := rof_app_yes [x] l q.1 (fun y hy => by rw [List.mem_singleton.mp hy]; have := far q e; omega)
      show rof ([x] ++ l) q.1 = q.2
      rw [this]
      exact ih h2 q e
theorem rof_mem (l : List (Nat × Nat)) (i : Nat) (h : rof l i ≠ 0) : (i, rof l i) ∈ l := by
  have gen : ∀ (l : List (Nat × Nat)) (f : Nat → Nat), l.foldl (fun f q i => if i = q.1 then q.2 else f i) f i ≠ f i → (i, l.foldl (fun f q i => if i = q.1 then q.2 else f i) f i) ∈ l := by
    intro l
    induction l with
    | nil => intro f h; exact absurd rfl h
    | cons q l ih =>
      intro f h
      rw [List.foldl_cons] at h ⊢
      by_cases z : l.foldl (fun f q i => if i = q.1 then q.2 else f i) (fun i => if i = q.1 then q.2 else f i) i = (fun i => if i = q.1 then q.2 else f i) i
      · rw [z] at h ⊢
        dsimp only at h ⊢
        by_cases y : i = q.1
        · rw [if_pos y]
          refine List.mem_cons.mpr (Or.inl ?_)
          rw [y]
        · rw [if_neg y] at h; exact absurd rfl h
      · exact List.mem_cons_of_mem _ (ih _ z)
  exact gen l (fun _ => 0) h
def SO (w : hp_W) (fl m e : Nat) (K1 : hp_M → Option (Int32 × hp_M)) (K2 : Int32 → hp_M → Option (Int32 × hp_M)) (t rd tn : Nat) (tp : Nat → Int32) (th ea : Int32) (L : List tokV) (h0 : hp_M) (R : Nat → Nat) (C : pcV) (h : hp_M) (p q : Nat) (x : Int32 × Int32) (P : pdV → Prop) : Prop :=
  (x = (0, -1) ∧ ∃ h' D', PS m t rd tn tp th ea L h0 R C h' q D' ∧ P D' ∧ Rtt w fl m e K1 K2 h p h' q) ∨
  (∃ (k : Int32) (j : Nat) (h' : hp_M) (D' : pdV), k ≠ 0 ∧ x = (k, ix (tkn L j).2.1) ∧ j < L.length ∧ PS m t rd tn tp th ea L h0 R C h' j D' ∧ Spp w fl m e K1 K2 h p k h')
section
variable {w : hp_W} {fl e : Nat} {K1 : hp_M → Option (Int32 × hp_M)} {K2 : Int32 → hp_M → Option (Int32 × hp_M)}
variable {m t rd tn : Nat} {tp : Nat → Int32} {th ea : Int32} {L : List tokV} {h0 : hp_M} {R : Nat → Nat} {C : pcV} {h h1 : hp_M} {p q q2 i j : Nat} {x y : Int32 × Int32} {P Q : pdV → Prop} {D D' : pdV}
theorem SO.mono (s : SO w fl m e K1 K2 t rd tn tp th ea L h0 R C h p q x P) (f : ∀ D', P D' → Q D') : SO w fl m e K1 K2 t rd tn tp th ea L h0 R C h p q x Q := by
  rcases s with ⟨a, h', D', c, pd, r⟩ | s
  · exact Or.inl ⟨a, h', D', c, f _ pd, r⟩
  · exact Or.inr s
theorem SO.seq (s : SO w fl m e K1 K2 t rd tn tp th ea L h0 R C h p q x P) (f : x = (0, -1) → ∀ h' D', PS m t rd tn tp th ea L h0 R C h' q D' → P D' → SO w fl m e K1 K2 t rd tn tp th ea L h0 R C h' q q2 y Q) (g : x.1 ≠ 0 → y = x) : SO w fl m e K1 K2 t rd tn tp th ea L h0 R C h p q2 y Q := by
  rcases s with ⟨a, h', D', c, pd, r⟩ | ⟨k, j, h', D', k0, a, hj, c, sp⟩
  · rcases f a h' D' c pd with ⟨a2, h2, D2, c2, p2, r2⟩ | ⟨k, j, h2, D2, k0, a2, hj, c2, sp⟩
    · exact Or.inl ⟨a2, h2, D2, c2, p2, r.trans r2⟩
    · exact Or.inr ⟨k, j, h2, D2, k0, a2, hj, c2, r.sp sp⟩
  · refine Or.inr ⟨k, j, h', D', k0, ?_, hj, c, sp⟩
    rw [g (by rw [a]; exact k0), a]
theorem SO.skip (oi : okIn tn L) (hfl : 5000 ≤ fl) (he : e < L.length) (c : PS m t rd tn tp th ea L h0 R C h i D) (hq : i ≤ q) (hqe : q ≤ e) (hr : ∀ j, i ≤ j → j < q → R j = 0) : SO w fl m e K1 K2 t rd tn tp th ea L h0 R C h i q (0, -1) (fun D' => D' = D) := by
  obtain ⟨h', c', r'⟩ := tk_skipTo (w := w) (K1 := K1) (K2 := K2) oi hfl he hq hqe c hr
  exact Or.inl ⟨rfl, h', D, c', rfl, r'⟩
theorem SO.tk (oi : okIn tn L) (hfl : 5000 ≤ fl) (he : e < L.length) (c : PS m t rd tn tp th ea L h0 R C h j D) (hj : j < e) {k : Int32} (q : eoB fl m (ix j) h rd (5 * (ix D.1 - 1)) (if kdp L j = 3 then nb tp L j else 0) = some (k, h1)) (c1 : PS m t rd tn tp th ea L h0 R C h1 j D') : SO w fl m e K1 K2 t rd tn tp th ea L h0 R C h j (j + 1) (if k = 0 then (0, -1) else (k, ix (tkn L j).2.1)) (fun D2 => D2 = D') := by
  by_cases z : k = 0
  · rw [if_pos z]
    rw [z] at q
    obtain ⟨h2, c2, r2⟩ := tk_ok (w := w) (K1 := K1) (K2 := K2) oi hfl c hj he q c1
    exact Or.inl ⟨rfl, h2, D', c2, rfl, r2⟩
  · rw [if_neg z]
    exact Or.inr ⟨k, j, h1, D', z, rfl, by omega, c1, tk_no (w := w) (K1 := K1) (K2 := K2) oi hfl c hj he q z⟩
end
/-! A planet. -/
theorem plR_no {p a b i : Nat} (h1 : i ≠ p + 1) (h3 : i ≠ p + 3) (h5 : i ≠ p + 5) (ha : a = 0 ∨ i ≠ a) (hb : b = 0 ∨ (i ≠ b ∧ i ≠ b + 2)) : rof (plR p a b) i = 0 := by
  refine rof_out _ _ (fun y hy => ?_)
  unfold plR at hy
  rcases List.mem_append.mp hy with z | z
  · simp only [List.mem_cons, List.not_mem_nil, or_false] at z
    rcases z with e | e | e <;> (rw [e]; dsimp only; omega)
  · rcases List.mem_append.mp z with z | z
    · by_cases a0 : a = 0
      · rw [if_pos a0] at z; cases z
      · rw [if_neg a0] at z; rw [List.mem_singleton.mp z]; dsimp only; omega
    · by_cases b0 : b = 0
      · rw [if_pos b0] at z; cases z
      · rw [if_neg b0] at z
        simp only [List.mem_cons, List.not_mem_nil, or_false] at z
        rcases z with e | e <;> (rw [e]; dsimp only; omega)
theorem plR_asc {p a b q0 q : Nat} (ha : (a = 0 ∧ q0 = p + 6) ∨ (a = p + 7 ∧ q0 = p + 8)) (hb : (b = 0 ∧ q = q0 + 1) ∨ (b = q0 + 1 ∧ q = q0 + 5)) : asc p q ((plR p a b).map (·.1)) := by
  unfold plR
  rw [List.map_append, List.map_append]
  have e1 : asc p (p + 6) (([(p + 1, 1), (p + 3, 8), (p + 5, 9)] : List (Nat × Nat)).map (·.1)) := ⟨by show p ≤ p + 1; omega, by show p + 1 + 1 ≤ p + 3; omega, by show p + 3 + 1 ≤ p + 5; omega, by show p + 5 + 1 ≤ p + 6; omega⟩
  have e2 : asc (p + 6) q0 ((if a = 0 then ([] : List (Nat × Nat)) else [(a, 10)]).map (·.1)) := by
    by_cases a0 : a = 0
    · rw [if_pos a0]; show p + 6 ≤ q0; omega
    · rw [if_neg a0]; exact ⟨by show p + 6 ≤ a; omega, by show a + 1 ≤ q0; omega⟩
  have e3 : asc q0 q ((if b = 0 then ([] : List (Nat × Nat)) else [(b, 11), (b + 2, 12)]).map (·.1)) := by
    by_cases b0 : b = 0
    · rw [if_pos b0]; show q0 ≤ q; omega
    · rw [if_neg b0]; exact ⟨by show q0 ≤ b; omega, by show b + 1 ≤ b + 2; omega, by show b + 2 + 1 ≤ q; omega⟩
  exact asc_app _ _ e1 (asc_app _ _ e2 e3)
theorem plR_1 (p a b : Nat) : (p + 1, 1) ∈ plR p a b ∧ (p + 3, 8) ∈ plR p a b ∧ (p + 5, 9) ∈ plR p a b := by
  unfold plR
  refine ⟨List.mem_append.mpr (Or.inl ?_), List.mem_append.mpr (Or.inl ?_), List.mem_append.mpr (Or.inl ?_)⟩ <;> simp
theorem plR_a {p a b : Nat} (h : a ≠ 0) : (a, 10) ∈ plR p a b := by
  unfold plR
  refine List.mem_append.mpr (Or.inr (List.mem_append.mpr (Or.inl ?_)))
  rw [if_neg h]; simp
theorem plR_b {p a b : Nat} (h : b ≠ 0) : (b, 11) ∈ plR p a b ∧ (b + 2, 12) ∈ plR p a b := by
  unfold plR
  refine ⟨List.mem_append.mpr (Or.inr (List.mem_append.mpr (Or.inr ?_))), List.mem_append.mpr (Or.inr (List.mem_append.mpr (Or.inr ?_)))⟩ <;> (rw [if_neg h]; simp)
theorem erK_ok {L : List tokV} {i u : Nat} (h : unk u) : erK L (0, -1) i u false = (0, -1) := by
  unfold erK; rw [if_neg (by decide), if_pos h]
theorem erK_full {L : List tokV} {i u : Nat} (h : unk u) : erK L (0, -1) i u true = (4, ix (tkn L i).2.1) := by
  unfold erK; rw [if_pos rfl, if_pos h]; rfl
theorem erK_two {L : List tokV} {i u : Nat} (h : ¬ unk u) (b : Bool) : erK L (0, -1) i u b = (2, ix (tkn L i).2.1) := by
  unfold erK; rw [if_neg h, bl_0]
  cases b
  · rfl
  · rw [if_pos rfl, bl_err (show (2 : Int32) ≠ 0 by decide)]
theorem every_eq {x y : Int32} (hy : ¬ (y < 0 ∨ ¬ y ≤ 29)) : (x < y + 1 ∨ ¬ x ≤ 60) ↔ ((x < 1 ∨ ¬ x ≤ 60) ∨ x ≤ y) := by
  have y1 : 0 ≤ y.toInt ∧ y.toInt ≤ 29 := by
    refine ⟨?_, ?_⟩
    · have this : ¬ y < 0 := fun q => hy (Or.inl q)
      rw [i32_lt] at this
      have z : (0 : Int32).toInt = 0 := by decide
      omega
    · have this : y ≤ 29 := Decidable.byContradiction (fun q => hy (Or.inr q))
      rw [i32_le] at this
      have z : (29 : Int32).toInt = 29 := by decide
      omega
  have o1 : (1 : Int32).toInt = 1 := by decide
  have s : (y + 1).toInt = y.toInt + 1 := by rw [i32_add (by omega) (by omega), o1]
  rw [i32_lt, i32_le, i32_lt, i32_le, s, o1]
  have z : (60 : Int32).toInt = 60 := by decide
  omega
