/-! What the rules told come to: in the class's rows, in the Model's code. -/
theorem itM_1 (tp : Nat → Int32) (L : List tokV) (M : Nat → Nat) (q : evV) : (itM tp L M q).1 = q.1 := by
  unfold itM
  by_cases a : q.1 = 0
  · rw [if_pos a]; exact a.symm
  · rw [if_neg a]
    by_cases b : q.1 = 3 ∨ q.1 = 4 ∨ q.1 = 6
    · rw [if_pos b]
    · rw [if_neg b]
      by_cases c : q.1 = 5 ∨ q.1 = 7 ∨ q.1 = 8
      · rw [if_pos c]
      · rw [if_neg c]
theorem prT_1 (tp : Nat → Int32) (L : List tokV) (q : evV) : (prT tp L q).1 = q.1 := by
  unfold prT
  by_cases a : q.1 = 0
  · rw [if_pos a]; exact a.symm
  · rw [if_neg a]
theorem fits_map {f : Nat × Nat × Nat → Nat × Nat × Nat} (hf : ∀ q, (f q).1 = q.1) : ∀ (l : List (Nat × Nat × Nat)) (ts : List Bool), fits (l.map f) ts = fits l ts := by
  intro l
  induction l with
  | nil => intro ts; rfl
  | cons q l ih =>
    intro ts
    rw [List.map_cons, fits_cons, fits_cons, hf]
    cases fitI q.1 ts with
    | none => rfl
    | some t => exact ih t
theorem wsm_map {f : Nat × Nat × Nat → Nat × Nat × Nat} (hf : ∀ q, (f q).1 = q.1) : ∀ (l : List (Nat × Nat × Nat)), wsm (l.map f) = wsm l := by
  intro l
  induction l with
  | nil => rfl
  | cons q l ih => rw [List.map_cons, wsm_cons, wsm_cons, hf, ih]
theorem segC_up {g g' : Nat → Int32} : ∀ (l : List (Nat × Nat × Nat)) (u e : Nat), segC g l u e → (∀ i, u ≤ i → g' i = g i) → segC g' l u e := by
  intro l
  induction l with
  | nil => intro u e h _; exact h
  | cons q l ih =>
    intro u e h k
    exact ⟨⟨(k _ (by omega)).trans h.1.1, fun z => (k _ (by omega)).trans (h.1.2.1 z), fun z => (k _ (by omega)).trans (h.1.2.2 z)⟩, ih _ _ h.2 (fun i hi => k i (by omega))⟩
theorem segC_split {g : Nat → Int32} : ∀ (l k : List (Nat × Nat × Nat)) (u e : Nat), segC g (l ++ k) u e → segC g l u (u + wsm l) ∧ segC g k (u + wsm l) e := by
  intro l
  induction l with
  | nil => intro k u e h; exact ⟨rfl, h⟩
  | cons q l ih =>
    intro k u e h
    obtain ⟨h1, h2⟩ := h
    obtain ⟨a, b⟩ := ih k _ e h2
    rw [wsm_cons, ← Nat.add_assoc]
    exact ⟨⟨h1, a⟩, b⟩
theorem stNs_Z : ∀ (l : List stV) (n0 : Nat) (Z0 : zV) (E0 : List evV), Z0.1 n0 = ix (wsm E0) → n0 + (rusV l).length ≤ 12 → (∀ s, s ∈ l → s.1 = 0 ∨ s.1 = 1 ∨ s.1 = 2) → (stNs l (n0, Z0, E0)).1 = n0 + (rusV l).length ∧ (stNs l (n0, Z0, E0)).2.2 = E0 ++ evsV (rusV l) ∧ (∀ j, j ≤ n0 → (stNs l (n0, Z0, E0)).2.1.1 j = Z0.1 j) ∧ (∀ j, j < n0 → (stNs l (n0, Z0, E0)).2.1.2.1 j = Z0.2.1 j ∧ (stNs l (n0, Z0, E0)).2.1.2.2 j = Z0.2.2 j) ∧ ∀ (i : Nat) (r : ruE), (rusV l)[i]? = some r → ∃ E1 E2, (stNs l (n0, Z0, E0)).2.2 = E1 ++ ((r.1 ++ r.2.1) ++ E2) ∧ (stNs l (n0, Z0, E0)).2.1.1 (n0 + i) = ix (wsm E1) ∧ (stNs l (n0, Z0, E0)).2.1.2.1 (n0 + i) = ix (wsm (E1 ++ r.1)) ∧ (stNs l (n0, Z0, E0)).2.1.1 (n0 + i + 1) = ix (wsm (E1 ++ (r.1 ++ r.2.1))) ∧ (stNs l (n0, Z0, E0)).2.1.2.2 (n0 + i) = ix r.2.2 := by
  intro l
  induction l with
  | nil =>
    intro n0 Z0 E0 _ _ _
    exact ⟨rfl, (List.append_nil _).symm, fun _ _ => rfl, fun _ _ => ⟨rfl, rfl⟩, fun i r h => by cases h⟩
  | cons s l ih =>
    intro n0 Z0 E0 hz hl hs
    have hs' : ∀ s, s ∈ l → s.1 = 0 ∨ s.1 = 1 ∨ s.1 = 2 := fun y hy => hs y (List.mem_cons_of_mem _ hy)
    have st : stNs (s :: l) (n0, Z0, E0) = stNs l (stN s (n0, Z0, E0)) := rfl
    rw [st]
    by_cases z : s.1 = 2
    · have ru : rusV (s :: l) = (s.2.2.2.2.1, s.2.2.2.2.2, s.2.2.1) :: rusV l := if_pos z
      rw [ru] at hl ⊢
      rw [List.length_cons] at hl ⊢
      have e1 : stN s (n0, Z0, E0) = (n0 + 1, (upd (upd Z0.1 n0 (ix (wsm E0))) (n0 + 1) (ix (wsm (E0 ++ (s.2.2.2.2.1 ++ s.2.2.2.2.2)))), upd Z0.2.1 n0 (ix (wsm (E0 ++ s.2.2.2.2.1))), upd Z0.2.2 n0 (ix s.2.2.1)), E0 ++ (s.2.2.2.2.1 ++ s.2.2.2.2.2)) := by
        unfold stN
        rw [if_neg (by omega), if_neg (by omega)]
        unfold ruN
        dsimp only
        rw [show min n0 12 = n0 by omega, show min (n0 + 1) 12 = n0 + 1 by omega]
      rw [e1]
      obtain ⟨a1, a2, a3, a4, a5⟩ := ih (n0 + 1) (upd (upd Z0.1 n0 (ix (wsm E0))) (n0 + 1) (ix (wsm (E0 ++ (s.2.2.2.2.1 ++ s.2.2.2.2.2)))), upd Z0.2.1 n0 (ix (wsm (E0 ++ s.2.2.2.2.1))), upd Z0.2.2 n0 (ix s.2.2.1)) (E0 ++ (s.2.2.2.2.1 ++ s.2.2.2.2.2)) (upd_self _ _ _) (by omega) hs'
      refine ⟨by rw [a1]; omega, by rw [a2, evsV_cons, List.append_assoc], fun j hj => ?_, fun j hj => ?_, fun i r h => ?_⟩
      · rw [a3 j (by omega)]
        dsimp only
        rw [upd_ne _ _ (by omega)]
        by_cases y : j = n0
        · rw [y, upd_self]; exact hz.symm
        · rw [upd_ne _ _ y]
      · obtain ⟨b1, b2⟩ := a4 j (by omega)
        rw [b1, b2]
        dsimp only
        rw [upd_ne _ _ (by omega), upd_ne _ _ (by omega)]
        exact ⟨rfl, rfl⟩
      · cases i with
        | zero =>
          have hr : (s.2.2.2.2.1, s.2.2.2.2.2, s.2.2.1) = r := Option.some.inj h
          subst hr
          obtain ⟨b1, b2⟩ := a4 n0 (by omega)
          refine ⟨E0, evsV (rusV l), by rw [a2, List.append_assoc], ?_, ?_, ?_, ?_⟩
          · refine (a3 n0 (by omega)).trans ?_
            dsimp only
            rw [upd_ne _ _ (by omega), upd_self]
          · exact b1.trans (upd_self _ _ _)
          · exact (a3 (n0 + 1) (by omega)).trans (upd_self _ _ _)
          · exact b2.trans (upd_self _ _ _)
        | succ i =>
          obtain ⟨E1, E2, c1, c2, c3, c4, c5⟩ := a5 i r h
          rw [show n0 + 1 + i = n0 + (i + 1) by omega] at c2 c3 c4 c5
          exact ⟨E1, E2, c1, c2, c3, c4, c5⟩
    · have ru : rusV (s :: l) = rusV l := if_neg z
      rw [ru] at hl ⊢
      have e1 : stN s (n0, Z0, E0) = (n0, Z0, E0) := by
        unfold stN
        rcases hs s (List.mem_cons_self ..) with y | y | y
        · rw [if_pos y]
        · rw [if_neg (by omega), if_pos y]
        · exact absurd y z
      rw [e1]
      exact ih n0 Z0 E0 hz hl hs'
theorem gTx_k {K : Nat → Nat} : ∀ n p, ∀ s, s ∈ (gTx K n p).2.2 → s.1 = 0 ∨ s.1 = 1 ∨ s.1 = 2 := by
  intro n
  induction n with
  | zero => intro p s h; cases h
  | succ n ih =>
    intro p s h
    unfold gTx at h
    by_cases k0 : K p = 0
    · rw [if_pos k0] at h; cases h
    · rw [if_neg k0] at h
      by_cases g : (gSt K p).1 = true
      · rw [if_pos g] at h
        rcases List.mem_cons.mp h with z | z
        · rw [z]
          unfold gSt at g ⊢
          by_cases k4 : K p = 4
          · rw [if_pos k4]; exact Or.inl rfl
          rw [if_neg k4] at g ⊢
          by_cases k10 : K p = 10
          · rw [if_pos k10]; exact Or.inr (Or.inl rfl)
          rw [if_neg k10] at g ⊢
          by_cases k11 : K p = 11
          · rw [if_pos k11]; exact Or.inr (Or.inr rfl)
          · rw [if_neg k11] at g; cases g
        · exact ih _ s z
      · rw [if_neg g] at h; cases h
/-- the rules, as both carry them out -/
def Rsv (tp : Nat → Int32) (L : List tokV) (M : Nat → Nat) (Ru : List ruE) : List ruV := Ru.map (fun r => (r.1.map (itM tp L M), r.2.1.map (itM tp L M), M r.2.2))
theorem Rsv_get {tp : Nat → Int32} {L : List tokV} {M : Nat → Nat} {Ru : List ruE} {i : Nat} {R : ruV} (h : (Rsv tp L M Ru)[i]? = some R) : ∃ r, Ru[i]? = some r ∧ R = (r.1.map (itM tp L M), r.2.1.map (itM tp L M), M r.2.2) := by
  unfold Rsv at h
  rw [List.getElem?_map] at h
  cases e : Ru[i]? with
  | none => rw [e] at h; cases h
  | some r => rw [e] at h; exact ⟨r, rfl, (Option.some.inj h).symm⟩
theorem rwsV_get (M : Nat → Nat) : ∀ (Ru : List ruE) (u i : Nat) (r : ruE), Ru[i]? = some r → ∃ A B, evsV Ru = A ++ ((r.1 ++ r.2.1) ++ B) ∧ (rwsV M u Ru).getD i (0, 0, 0, 0) = (u + A.length, u + A.length + r.1.length, u + A.length + r.1.length + r.2.1.length, M r.2.2) := by
  intro Ru
  induction Ru with
  | nil => intro u i r h; cases h
  | cons x Ru ih =>
    intro u i r h
    cases i with
    | zero =>
      have e : x = r := Option.some.inj h
      subst e
      exact ⟨[], evsV Ru, evsV_cons x Ru, rfl⟩
    | succ i =>
      obtain ⟨A, B, h1, h2⟩ := ih (u + x.1.length + x.2.1.length) i r h
      refine ⟨(x.1 ++ x.2.1) ++ A, B, by rw [evsV_cons, h1, List.append_assoc (x.1 ++ x.2.1) A], ?_⟩
      show (rwsV M (u + x.1.length + x.2.1.length) Ru).getD i (0, 0, 0, 0) = _
      rw [h2, List.length_append, List.length_append, show u + x.1.length + x.2.1.length + A.length = u + (x.1.length + x.2.1.length + A.length) by omega]
theorem JR.okBB {tp : Nat → Int32} {L : List tokV} {i n nA : Nat} {M : Nat → Nat} {Ru : List ruE} {B : bkV} (j : JR tp L i n nA M Ru B) (hA : nA = B.2.1.length) (hl : ∀ k, k < B.2.1.length → 0 < (alV B.2.1 k).length) : okBB n B (Rsv tp L M Ru) := by
  obtain ⟨⟨a1, a2⟩, a3, a4, _⟩ := j
  refine ⟨by rw [a2, rwsV_len]; unfold Rsv; rw [List.length_map], fun k R h => ?_, hl⟩
  obtain ⟨r, hr, e⟩ := Rsv_get h
  subst e
  obtain ⟨X, Y, h1, h2⟩ := rwsV_get M Ru 0 k r hr
  obtain ⟨⟨f1, f2⟩, b1, b2, b3⟩ := a4 r (List.mem_of_getElem? hr)
  have items : B.2.2.1 = X.map (itM tp L M) ++ ((r.1.map (itM tp L M) ++ r.2.1.map (itM tp L M)) ++ Y.map (itM tp L M)) := by
    rw [a1, h1, List.map_append, List.map_append, List.map_append]
  have mem : ∀ q, q ∈ r.1 ++ r.2.1 → q ∈ evsV Ru := fun q hq => by
    rw [h1]; exact List.mem_append.mpr (Or.inr (List.mem_append.mpr (Or.inl hq)))
  rw [a2, h2, Nat.zero_add]
  have lx : (X.map (itM tp L M)).length = X.length := List.length_map _
  have l1 : (r.1.map (itM tp L M)).length = r.1.length := List.length_map _
  have l2 : (r.2.1.map (itM tp L M)).length = r.2.1.length := List.length_map _
  refine ⟨⟨rfl, by rw [← hA]; exact b3⟩, ⟨r.2.1.map (itM tp L M) ++ Y.map (itM tp L M), ?_⟩, by dsimp only; rw [l1], ⟨Y.map (itM tp L M), ?_⟩, by dsimp only; rw [l2], by rw [fits_map (itM_1 tp L M)]; exact f1, by rw [fits_map (itM_1 tp L M)]; exact f2, fun q hq => ?_, fun q hq => ?_, ?_⟩
  · dsimp only
    rw [items, ← lx, List.drop_left, List.append_assoc]
  · dsimp only
    rw [items, show X.map (itM tp L M) ++ ((r.1.map (itM tp L M) ++ r.2.1.map (itM tp L M)) ++ Y.map (itM tp L M)) = (X.map (itM tp L M) ++ r.1.map (itM tp L M)) ++ (r.2.1.map (itM tp L M) ++ Y.map (itM tp L M)) by simp, ← lx, ← l1, ← List.length_append, List.drop_left]
  · obtain ⟨y, hy, e⟩ := List.mem_map.mp hq
    rw [← e]; exact (a3 y (mem y (List.mem_append.mpr (Or.inl hy)))).2.2
  · obtain ⟨y, hy, e⟩ := List.mem_map.mp hq
    rw [← e]; exact (a3 y (mem y (List.mem_append.mpr (Or.inr hy)))).2.2
  · dsimp only
    rw [items]
    simp only [List.length_append, List.length_map]
    omega
theorem JR.okRs {tp : Nat → Int32} {L : List tokV} {i n nA : Nat} {M : Nat → Nat} {Ru : List ruE} {B : bkV} (j : JR tp L i n nA M Ru B) (hi : i ≤ 400) {A : Nat → List Int32} (hl : ∀ k, k < nA → 0 < (A k).length) : okRs n nA A (Rsv tp L M Ru) := by
  obtain ⟨⟨a1, a2⟩, a3, a4, a5, a6, a7⟩ := j
  refine ⟨fun k R h => ?_, hl⟩
  obtain ⟨r, hr, e⟩ := Rsv_get h
  subst e
  obtain ⟨X, Y, h1, h2⟩ := rwsV_get M Ru 0 k r hr
  obtain ⟨⟨f1, f2⟩, b1, b2, b3⟩ := a4 r (List.mem_of_getElem? hr)
  have mem : ∀ q, q ∈ r.1 ++ r.2.1 → q ∈ evsV Ru := fun q hq => by
    rw [h1]; exact List.mem_append.mpr (Or.inr (List.mem_append.mpr (Or.inl hq)))
  have len := congrArg List.length h1
  rw [List.length_append, List.length_append, List.length_append] at len
  refine ⟨⟨b3, by rw [fits_map (itM_1 tp L M)]; exact f1, by rw [fits_map (itM_1 tp L M)]; exact f2⟩, fun q hq => ?_, fun q hq => ?_, by dsimp only; rw [List.length_map]; omega, by dsimp only; rw [List.length_map]; omega⟩
  · obtain ⟨y, hy, e⟩ := List.mem_map.mp hq
    rw [← e]; exact (a3 y (mem y (List.mem_append.mpr (Or.inl hy)))).2.2
  · obtain ⟨y, hy, e⟩ := List.mem_map.mp hq
    rw [← e]; exact (a3 y (mem y (List.mem_append.mpr (Or.inr hy)))).2.2
