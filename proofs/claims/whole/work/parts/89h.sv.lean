/-! Events in the Model's second pass; a rule's statement. -/
theorem osn_is (k : Nat) : (osn k = 0 → ¬ (k = 3 ∨ k = 4 ∨ k = 6) ∧ ¬ (k = 5 ∨ k = 7 ∨ k = 8)) ∧ (osn k = 1 → (k = 3 ∨ k = 4 ∨ k = 6) ∧ ¬ (k = 5 ∨ k = 7 ∨ k = 8)) ∧ (osn k = 2 → ¬ (k = 3 ∨ k = 4 ∨ k = 6) ∧ (k = 5 ∨ k = 7 ∨ k = 8)) := by
  unfold osn
  refine ⟨fun h => ?_, fun h => ?_, fun h => ?_⟩ <;> revert h <;> (repeat' split) <;> intro h <;> omega
theorem er1_err {B : bkV} {tp : Nat → Int32} {L : List tokV} {x : Int32 × Int32} (h : x.1 ≠ 0) (i : Nat) : er1 B tp L x i = x := by
  unfold er1 blE blP
  simp only [if_neg h, ite_self]
theorem er6_err {B : bkV} {tp : Nat → Int32} {L : List tokV} {x : Int32 × Int32} (h : x.1 ≠ 0) (i j : Nat) : er6 B tp L x i j = x := by
  unfold er6 blE blP
  simp only [if_neg h, ite_self]
theorem erF_err {B : bkV} {tp : Nat → Int32} {L : List tokV} {x : Int32 × Int32} (h : x.1 ≠ 0) (q : evV) : erF B tp L x q = x := by
  unfold erF
  rw [er1_err h, er1_err h, er6_err h]
  simp only [ite_self]
theorem erL_err {B : bkV} {tp : Nat → Int32} {L : List tokV} {x : Int32 × Int32} (h : x.1 ≠ 0) : ∀ l : List evV, erL B tp L x l = x := by
  intro l
  induction l with
  | nil => rfl
  | cons q l ih =>
    show erL B tp L (erF B tp L x q) l = x
    rw [erF_err h]; exact ih
theorem er1_u {B : bkV} {tp : Nat → Int32} {L : List tokV} {i u : Nat} (hu : lkP B tp L i = u) : er1 B tp L (0, -1) i = if unk u then (3, ix (tkn L i).2.1) else (0, -1) := by
  unfold er1
  rw [hu]
  by_cases z : unk u
  · rw [if_pos z, if_pos z, if_pos z]; rfl
  · rw [if_neg z, if_neg z, if_neg z]
theorem kdp_in {L : List tokV} {j : Nat} (h : 2 ≤ kdp L j) : j < L.length := by
  by_cases z : j < L.length
  · exact z
  · unfold kdp tkn at h
    rw [List.getD_eq_getElem?_getD, List.getElem?_eq_none (by omega)] at h
    exact absurd h (by decide)
theorem asc_le : ∀ (l : List Nat) {a b : Nat}, asc a b l → a ≤ b := by
  intro l
  induction l with
  | nil => intro a b h; exact h
  | cons k l ih => intro a b h; have := ih h.2; have := h.1; omega
theorem evRs_cons (q : evV) (l : List evV) : evRs (q :: l) = evR q ++ evRs l := List.flatMap_cons
theorem evTs_cons (q : evV) (l : List evV) : evTs (q :: l) = (evR q).map (·.1) ++ evTs l := by unfold evTs; rw [evRs_cons, List.map_append]
theorem evR_0 {q : evV} (h : osn q.1 = 0) : evR q = [] := by unfold evR; rw [h]; rfl
theorem evR_1 {q : evV} (h : osn q.1 = 1) : evR q = [(q.2.1, 4)] := by unfold evR; rw [h]; rfl
theorem evR_2 {q : evV} (h : osn q.1 = 2) : evR q = [(q.2.1, 4), (q.2.2, 5)] := by unfold evR; rw [h]; rfl
theorem evT_mem {l : List evV} {y : Nat × Nat} (h : y ∈ evRs l) : y.1 ∈ evTs l := List.mem_map_of_mem h
theorem itM_eq {tp : Nat → Int32} {L : List tokV} {M M' : Nat → Nat} {q : evV} (h1 : 1 ≤ osn q.1 → M' q.2.1 = M q.2.1) (h2 : osn q.1 = 2 → M' q.2.2 = M q.2.2) : itM tp L M' q = itM tp L M q := by
  obtain ⟨o0, o1, o2⟩ := osn_is q.1
  unfold itM
  rcases osn_012 q.1 with o | o | o
  · rw [if_neg (o0 o).1, if_neg (o0 o).1, if_neg (o0 o).2, if_neg (o0 o).2]
  · rw [h1 (by omega), if_neg (o1 o).2, if_neg (o1 o).2]
  · rw [h1 (by omega), h2 o]
section
variable {w : hp_W} {fl e : Nat} {K1 : hp_M → Option (Int32 × hp_M)} {K2 : Int32 → hp_M → Option (Int32 × hp_M)}
variable {m t rd tn : Nat} {tp : Nat → Int32} {th ea : Int32} {L : List tokV} {h0 : hp_M} {R : Nat → Nat} {C : pcV} {h : hp_M} {i : Nat} {nP : Nat} {g1 : Nat → Int32} {nA : Nat} {g2 g3 : Nat → Int32} {M : Nat → Nat} {B : bkV}
theorem so_name (oi : okIn tn L) (on : okNm tp L) (hR : ∀ q, R q < 100) (hn : ∀ q, R q = 1 → kdp L q = 2) (hfl : 5000 ≤ fl) (he : e < L.length) (c : PS m t rd tn tp th ea L h0 R C h i (nP, g1, nA, g2, g3, M)) {j : Nat} (hij : i ≤ j) (hj : j < e) (j1 : 1 ≤ j) (sk : ∀ x, i ≤ x → x < j → R x = 0) (kj : kdp L j = 2) (hr : R j = 4 ∨ R j = 5) {u : Nat} (hu : tdV tp L R 1 j = u) : SO w fl m e K1 K2 t rd tn tp th ea L h0 R C h i (j + 1) (if unk u then (3, ix (tkn L j).2.1) else if R j = 5 ∧ ix u = ix (M (j - 1)) then (6, ix (tkn L j).2.1) else (0, -1)) (fun D' => D' = (nP, g1, nA, g2, g3, fun q => if q = j then u else M q) ∧ ¬ unk u) := by
  refine (SO.skip (w := w) (K1 := K1) (K2 := K2) oi hfl he c hij (Nat.le_of_lt hj) sk).seq (fun _ h1 D1 c1 d1 => ?_) (fun q => absurd rfl q)
  subst d1
  obtain ⟨h2, e2, c2⟩ := eo_45 oi on c1 hR (show j < L.length by omega) kj hr j1 (fun q _ z => hn q z) hfl (5 * (ix nP - 1)) (if kdp L j = 3 then nb tp L j else 0)
  rw [hu] at e2 c2
  have s := SO.tk (w := w) (K1 := K1) (K2 := K2) oi hfl he c1 hj e2 c2
  by_cases z : unk u
  · rw [if_pos z, if_neg (by decide)] at s
    rw [if_pos z]
    rcases s with ⟨a, _⟩ | s
    · exact absurd (congrArg Prod.fst a) (by show ¬ (3 : Int32) = 0; decide)
    · exact Or.inr s
  · rw [if_neg z] at s ⊢
    by_cases y : R j = 5 ∧ ix u = ix (M (j - 1))
    · rw [if_pos y, if_neg (by decide)] at s
      rw [if_pos y]
      rcases s with ⟨a, _⟩ | s
      · exact absurd (congrArg Prod.fst a) (by show ¬ (6 : Int32) = 0; decide)
      · exact Or.inr s
    · rw [if_neg y, if_pos rfl] at s
      rw [if_neg y]
      exact s.mono (fun D' d => ⟨d, z⟩)
theorem lkP_lt {q : Nat} (hB : B.1.length ≤ 8) (h : ¬ unk (lkP B tp L q)) : lkP B tp L q < B.1.length := by
  rcases lkC_in (wcL 0 (tbt tp L q)) (B.1.map (·.1)) 0 with a | a
  · exact absurd a h
  · rw [List.length_map] at a
    unfold Jvm.Pilot.CShadowSpellLaw_law_r9225_03f26d.lkP
    omega
theorem lkA_lt {q : Nat} (h : ¬ unk (lkA B tp L q)) : lkA B tp L q < B.2.1.length := by
  rcases lkC_in (wcL 0 (tbt tp L q)) (B.2.1.map (·.1)) 0 with a | a
  · exact absurd a h
  · rw [List.length_map] at a
    unfold Jvm.Pilot.CShadowSpellLaw_law_r9225_03f26d.lkA
    omega
theorem so_evs (oi : okIn tn L) (on : okNm tp L) (hR : ∀ q, R q < 100) (hn : ∀ q, R q = 1 → kdp L q = 2) (hfl : 5000 ≤ fl) (he : e < L.length) (hB : B.1.length ≤ 8) (hnP : nP = B.1.length) (nums : ∀ j, kdp L j = 3 → nuN tp L j < 2147483648) {hi : Nat} (hhi : hi ≤ e) : ∀ (l : List evV) (h : hp_M) (i : Nat) (M : Nat → Nat), 1 ≤ i → asc i hi (evTs l) → (∀ q, q ∈ l → evK (kdp L) q) → PS m t rd tn tp th ea L h0 R C h i (nP, g1, nA, g2, g3, M) → (∀ j, i ≤ j → j < hi → lkP B tp L j = tdV tp L R 1 j) → (∀ y, y ∈ evRs l → R y.1 = y.2) → (∀ x, i ≤ x → x < hi → (∀ y, y ∈ evRs l → y.1 ≠ x) → R x = 0) → SO w fl m e K1 K2 t rd tn tp th ea L h0 R C h i hi (erL B tp L (0, -1) l) (fun D' => ∃ M', D' = (nP, g1, nA, g2, g3, M') ∧ (∀ x, x < i → M' x = M x) ∧ ∀ q, q ∈ l → itM tp L M' q = itm B tp L q ∧ okIt nP (itM tp L M' q)) := by
  intro l
  induction l with
  | nil =>
    intro h i M i1 ac _ c _ _ hout
    have le : i ≤ hi := ac
    exact (SO.skip (w := w) (K1 := K1) (K2 := K2) oi hfl he c le hhi (fun j a b => hout j a b (fun y hy => by cases hy))).mono (fun D' d => ⟨M, d, fun _ _ => rfl, fun q hq => by cases hq⟩)
  | cons q l ih =>
    intro h i M i1 ac ek c hlk hin hout
    obtain ⟨k1, k2, k3, k24, kadj, kz⟩ := ek q (List.mem_cons_self ..)
    have ek' : ∀ q, q ∈ l → evK (kdp L) q := fun y hy => ek y (List.mem_cons_of_mem _ hy)
    obtain ⟨o0, o1, o2⟩ := osn_is q.1
    rw [evTs_cons] at ac
    rw [evRs_cons] at hin hout
    show SO w fl m e K1 K2 t rd tn tp th ea L h0 R C h i hi (erL B tp L (erF B tp L (0, -1) q) l) _
    rcases osn_012 q.1 with o | o | o
    · rw [evR_0 o] at ac hin hout
      have ef : erF B tp L (0, -1) q = (0, -1) := by unfold erF; rw [if_neg (o0 o).1, if_neg (o0 o).2]
      rw [ef]
      refine (ih h i M i1 ac ek' c hlk hin hout).mono (fun D' d => ?_)
      obtain ⟨M', d1, d2, d3⟩ := d
      refine ⟨M', d1, d2, fun y hy => ?_⟩
      rcases List.mem_cons.mp hy with z | z
      · rw [z]
        by_cases q0 : q.1 = 0
        · have e1 : itM tp L M' q = (0, nuN tp L q.2.1, 0) := by unfold itM; rw [if_pos q0]
          refine ⟨by rw [e1]; unfold itm; rw [if_pos q0], ?_⟩
          rw [e1]
          exact ⟨Nat.zero_le _, nums _ (k3 q0), (fun h => absurd h (by show ¬ (0 = 3 ∨ 0 = 4 ∨ 0 = 6); decide)), fun h => absurd h (by show ¬ (0 = 5 ∨ 0 = 7 ∨ 0 = 8); decide)⟩
        · have e1 : itM tp L M' q = q := by unfold itM; rw [if_neg q0, if_neg (o0 o).1, if_neg (o0 o).2]
          refine ⟨by rw [e1]; unfold itm; rw [if_neg q0, if_neg (o0 o).1, if_neg (o0 o).2], ?_⟩
          rw [e1]
          exact ⟨k24, by rw [kz o q0]; omega, fun h => absurd h (o0 o).1, fun h => absurd h (o0 o).2⟩
      · exact d3 y z
    · rw [evR_1 o] at ac hin hout
      have ac' : i ≤ q.2.1 ∧ asc (q.2.1 + 1) hi (evTs l) := ac
      have ah := asc_le _ ac'.2
      have rj : R q.2.1 = 4 := hin (q.2.1, 4) (List.mem_append.mpr (Or.inl (List.mem_singleton.mpr rfl)))
      have uj := hlk q.2.1 ac'.1 (by omega)
      have ef : erF B tp L (0, -1) q = er1 B tp L (0, -1) q.2.1 := by unfold erF; rw [if_pos (o1 o).1]
      rw [ef, er1_u uj]
      have s := so_name (w := w) (K1 := K1) (K2 := K2) oi on hR hn hfl he c ac'.1 (show q.2.1 < e by omega) (by omega) (fun x a b => hout x a (by omega) (fun y hy => by
        rcases List.mem_append.mp hy with z | z
        · rw [List.mem_singleton.mp z]; dsimp only; omega
        · have := (asc_mem _ ac'.2 _ (evT_mem z)).1; omega)) (k1 (by omega)) (Or.inl rj) rfl
      rw [if_neg (show ¬ (R q.2.1 = 5 ∧ _) from fun z => by rw [rj] at z; exact absurd z.1 (by decide))] at s
      refine s.seq (fun e1 h1 D1 c1 d1 => ?_) (fun n => erL_err n l)
      obtain ⟨d1, nu⟩ := d1
      subst d1
      rw [e1]
      refine (ih h1 (q.2.1 + 1) _ (by omega) ac'.2 ek' c1 (fun j a b => hlk j (by omega) b) (fun y hy => hin y (List.mem_append.mpr (Or.inr hy))) (fun x a b n => hout x (by omega) b (fun y hy => by
        rcases List.mem_append.mp hy with z | z
        · rw [List.mem_singleton.mp z]; dsimp only; omega
        · exact n y z))).mono (fun D' d => ?_)
      obtain ⟨M', d1, d2, d3⟩ := d
      refine ⟨M', d1, fun x hx => by rw [d2 x (by omega), if_neg (by omega)], fun y hy => ?_⟩
      rcases List.mem_cons.mp hy with z | z
      · rw [z]
        have mj : M' q.2.1 = lkP B tp L q.2.1 := by rw [d2 _ (by omega), if_pos rfl, uj]
        have q0 : ¬ q.1 = 0 := by have := (o1 o).1; omega
        have e1 : itM tp L M' q = (q.1, lkP B tp L q.2.1, 0) := by unfold itM; rw [if_neg q0, if_pos (o1 o).1, mj]
        refine ⟨by rw [e1]; unfold itm; rw [if_neg q0, if_pos (o1 o).1], ?_⟩
        rw [e1]
        have lt := lkP_lt hB (show ¬ unk (lkP B tp L q.2.1) by rw [uj]; exact nu)
        exact ⟨k24, by dsimp only; omega, fun _ => by rw [hnP]; exact lt, fun h => absurd h (o1 o).2⟩
      · exact d3 y z
    · rw [evR_2 o] at ac hin hout
      have adj := kadj o
      have ac' : i ≤ q.2.1 ∧ q.2.1 + 1 ≤ q.2.2 ∧ asc (q.2.2 + 1) hi (evTs l) := ac
      have ah := asc_le _ ac'.2.2
      have r4 : R q.2.1 = 4 := hin (q.2.1, 4) (List.mem_append.mpr (Or.inl (List.mem_cons_self ..)))
      have r5 : R q.2.2 = 5 := hin (q.2.2, 5) (List.mem_append.mpr (Or.inl (List.mem_cons_of_mem _ (List.mem_singleton.mpr rfl))))
      have uj := hlk q.2.1 ac'.1 (by omega)
      have uk := hlk q.2.2 (by omega) (by omega)
      have ef : erF B tp L (0, -1) q = er6 B tp L (er1 B tp L (er1 B tp L (0, -1) q.2.1) q.2.2) q.2.1 q.2.2 := by unfold erF; rw [if_neg (o2 o).1, if_pos (o2 o).2]
      rw [ef]
      have s := so_name (w := w) (K1 := K1) (K2 := K2) oi on hR hn hfl he c ac'.1 (show q.2.1 < e by omega) (by omega) (fun x a b => hout x a (by omega) (fun y hy => by
        rcases List.mem_append.mp hy with z | z
        · rcases List.mem_cons.mp z with v | v
          · rw [v]; dsimp only; omega
          · rw [List.mem_singleton.mp v]; dsimp only; omega
        · have := (asc_mem _ ac'.2.2 _ (evT_mem z)).1; omega)) (k1 (by omega)) (Or.inl r4) rfl
      rw [if_neg (show ¬ (R q.2.1 = 5 ∧ _) from fun z => by rw [r4] at z; exact absurd z.1 (by decide)), ← er1_u uj] at s
      have s2 : SO w fl m e K1 K2 t rd tn tp th ea L h0 R C h i (q.2.2 + 1) (er6 B tp L (er1 B tp L (er1 B tp L (0, -1) q.2.1) q.2.2) q.2.1 q.2.2) (fun D' => D' = (nP, g1, nA, g2, g3, fun x => if x = q.2.2 then tdV tp L R 1 q.2.2 else if x = q.2.1 then tdV tp L R 1 q.2.1 else M x) ∧ ¬ unk (tdV tp L R 1 q.2.1) ∧ ¬ unk (tdV tp L R 1 q.2.2)) := by
        refine s.seq (fun e1 h1 D1 c1 d1 => ?_) (fun n => by rw [er1_err n, er6_err n])
        obtain ⟨d1, nu⟩ := d1
        subst d1
        rw [e1, er1_u uk]
        have s3 := so_name (w := w) (K1 := K1) (K2 := K2) oi on hR hn hfl he c1 (show q.2.1 + 1 ≤ q.2.2 by omega) (show q.2.2 < e by omega) (by omega) (fun x a b => by omega) (k2 o) (Or.inr r5) rfl
        rw [show q.2.2 - 1 = q.2.1 by omega, if_pos rfl] at s3
        have y3 : er6 B tp L (if unk (tdV tp L R 1 q.2.2) then (3, ix (tkn L q.2.2).2.1) else (0, -1)) q.2.1 q.2.2 = (if unk (tdV tp L R 1 q.2.2) then (3, ix (tkn L q.2.2).2.1) else if R q.2.2 = 5 ∧ ix (tdV tp L R 1 q.2.2) = ix (tdV tp L R 1 q.2.1) then (6, ix (tkn L q.2.2).2.1) else (0, -1)) := by
          by_cases z : unk (tdV tp L R 1 q.2.2)
          · rw [if_pos z, if_pos z, er6_err (by show ¬ (3 : Int32) = 0; decide)]
          · rw [if_neg z, if_neg z]
            unfold er6
            rw [uj, uk]
            by_cases y : ix (tdV tp L R 1 q.2.2) = ix (tdV tp L R 1 q.2.1)
            · rw [if_pos y, if_pos ⟨r5, y⟩]; rfl
            · rw [if_neg y, if_neg (fun v => y v.2)]
        rw [y3]
        exact s3.mono (fun D' d => ⟨d.1, nu, d.2⟩)
      refine s2.seq (fun e1 h1 D1 c1 d1 => ?_) (fun n => erL_err n l)
      obtain ⟨d1, nu, nv⟩ := d1
      subst d1
      rw [e1]
      refine (ih h1 (q.2.2 + 1) _ (by omega) ac'.2.2 ek' c1 (fun j a b => hlk j (by omega) b) (fun y hy => hin y (List.mem_append.mpr (Or.inr hy))) (fun x a b n => hout x (by omega) b (fun y hy => by
        rcases List.mem_append.mp hy with z | z
        · rcases List.mem_cons.mp z with v | v
          · rw [v]; dsimp only; omega
          · rw [List.mem_singleton.mp v]; dsimp only; omega
        · exact n y z))).mono (fun D' d => ?_)
      obtain ⟨M', d1, d2, d3⟩ := d
      refine ⟨M', d1, fun x hx => by rw [d2 x (by omega), if_neg (by omega), if_neg (by omega)], fun y hy => ?_⟩
      rcases List.mem_cons.mp hy with z | z
      · rw [z]
        have mj : M' q.2.1 = lkP B tp L q.2.1 := by rw [d2 _ (by omega), if_neg (by omega), if_pos rfl, uj]
        have mk : M' q.2.2 = lkP B tp L q.2.2 := by rw [d2 _ (by omega), if_pos rfl, uk]
        have q0 : ¬ q.1 = 0 := by have := (o2 o).2; omega
        have e1 : itM tp L M' q = (q.1, lkP B tp L q.2.1, lkP B tp L q.2.2) := by unfold itM; rw [if_neg q0, if_neg (o2 o).1, if_pos (o2 o).2, mj, mk]
        refine ⟨by rw [e1]; unfold itm; rw [if_neg q0, if_neg (o2 o).1, if_pos (o2 o).2], ?_⟩
        rw [e1]
        have lt := lkP_lt hB (show ¬ unk (lkP B tp L q.2.1) by rw [uj]; exact nu)
        have lt2 := lkP_lt hB (show ¬ unk (lkP B tp L q.2.2) by rw [uk]; exact nv)
        exact ⟨k24, by dsimp only; omega, (fun h => absurd h (o2 o).1), fun _ => by rw [hnP]; exact ⟨lt, lt2⟩⟩
      · exact d3 y z
end
