/-! A rule's statement, in the Model's second pass. -/
section
variable {w : hp_W} {fl e : Nat} {K1 : hp_M → Option (Int32 × hp_M)} {K2 : Int32 → hp_M → Option (Int32 × hp_M)}
variable {m t rd tn : Nat} {tp : Nat → Int32} {th ea : Int32} {L : List tokV} {h0 : hp_M} {R : Nat → Nat} {C : pcV} {h : hp_M} {i : Nat} {nP : Nat} {g1 : Nat → Int32} {nA : Nat} {g2 g3 : Nat → Int32} {M : Nat → Nat} {B : bkV}
theorem so_rule (oi : okIn tn L) (on : okNm tp L) (hR : ∀ q, R q < 100) (hn : ∀ q, R q = 1 → kdp L q = 2) (hn2 : ∀ q, R q = 2 → kdp L q = 2) (hfl : 5000 ≤ fl) (he : e < L.length) (hB : B.1.length ≤ 8) (hnP : nP = B.1.length) (nums : ∀ j, kdp L j = 3 → nuN tp L j < 2147483648) {p a : Nat} {T S : List evV} (c : PS m t rd tn tp th ea L h0 R C h p (nP, g1, nA, g2, g3, M)) (hM : M 0 = B.2.2.2.length) (h12 : B.2.2.2.length ≤ 12) (ac : asc (p + 1) a (evTs (T ++ S))) (ek : ∀ q, q ∈ T ++ S → evK (kdp L) q) (ka : kdp L a = 2) (hq : a + 2 ≤ e) (hlk : ∀ j, p ≤ j → j < a → lkP B tp L j = tdV tp L R 1 j) (lka : lkA B tp L a = tdV tp L R 2 a) (hRr : ∀ i, p ≤ i → i < a + 2 → R i = rof ((p, 7) :: (evRs (T ++ S) ++ [(a, 6)])) i) : SO w fl m e K1 K2 t rd tn tp th ea L h0 R C h p (a + 2) (ruX B tp L (0, -1) p T S a) (fun D' => ∃ M', D' = (nP, g1, nA, g2, g3, M') ∧ M' 0 = B.2.2.2.length + 1 ∧ B.2.2.2.length < 12 ∧ (∀ x, 1 ≤ x → x < p → M' x = M x) ∧ (∀ q, q ∈ T ++ S → itM tp L M' q = itm B tp L q ∧ okIt nP (itM tp L M' q)) ∧ M' a = lkA B tp L a ∧ ¬ unk (lkA B tp L a)) := by
  have pa := asc_le _ ac
  have asc1 : asc p (a + 2) (((p, 7) :: (evRs (T ++ S) ++ [(a, 6)])).map (·.1)) := by
    refine ⟨Nat.le_refl _, ?_⟩
    rw [List.map_append]
    exact asc_app _ _ (show asc (p + 1) a ((evRs (T ++ S)).map (·.1)) from ac) (show asc a (a + 2) [a] from ⟨Nat.le_refl _, by show a + 1 ≤ a + 2; omega⟩)
  have rp : R p = 7 := by rw [hRr p (Nat.le_refl _) (by omega)]; exact rof_in _ asc1 (p, 7) (List.mem_cons_self ..)
  have ra : R a = 6 := by rw [hRr a (by omega) (by omega)]; exact rof_in _ asc1 (a, 6) (List.mem_cons_of_mem _ (List.mem_append.mpr (Or.inr (List.mem_singleton.mpr rfl))))
  have rev : ∀ y, y ∈ evRs (T ++ S) → R y.1 = y.2 := fun y hy => by
    have := asc_mem _ ac _ (evT_mem hy)
    rw [hRr y.1 (by omega) (by omega)]
    exact rof_in _ asc1 y (List.mem_cons_of_mem _ (List.mem_append.mpr (Or.inl hy)))
  have rno : ∀ x, p ≤ x → x < a + 2 → x ≠ p → x ≠ a → (∀ y, y ∈ evRs (T ++ S) → y.1 ≠ x) → R x = 0 := fun x x1 x2 x3 x4 n => by
    rw [hRr x x1 x2]
    refine rof_out _ _ (fun y hy => ?_)
    rcases List.mem_cons.mp hy with z | z
    · rw [z]; exact fun q => x3 q.symm
    · rcases List.mem_append.mp z with z | z
      · exact n y z
      · rw [List.mem_singleton.mp z]; exact fun q => x4 q.symm
  -- the when
  have s0 : SO w fl m e K1 K2 t rd tn tp th ea L h0 R C h p (p + 1) (ruX0 B L (0, -1) p) (fun D' => B.2.2.2.length < 12 ∧ D' = (nP, g1, nA, g2, g3, fun q => if q = 0 then M 0 + 1 else M q)) := by
    obtain ⟨h1, e1, c1⟩ := eo_7 c (show p < L.length by omega) rp (by omega) fl (5 * (ix nP - 1)) (if kdp L p = 3 then nb tp L p else 0)
    have s := SO.tk (w := w) (K1 := K1) (K2 := K2) oi hfl he c (show p < e by omega) e1 c1
    unfold ruX0
    by_cases z : 12 ≤ B.2.2.2.length
    · rw [if_neg (show ¬ M 0 + 1 ≤ 12 by omega), if_neg (show ¬ (4 : Int32) = 0 by decide)] at s
      rw [if_pos z]
      rcases s with ⟨a, _⟩ | s
      · exact absurd (congrArg Prod.fst a) (by show ¬ (4 : Int32) = 0; decide)
      · exact Or.inr s
    · rw [if_pos (show M 0 + 1 ≤ 12 by omega), if_pos rfl] at s
      rw [if_neg z]
      exact s.mono (fun D' d => ⟨by omega, d⟩)
  -- the events
  have s1 : SO w fl m e K1 K2 t rd tn tp th ea L h0 R C h p a (erL B tp L (ruX0 B L (0, -1) p) (T ++ S)) (fun D' => B.2.2.2.length < 12 ∧ ∃ M', D' = (nP, g1, nA, g2, g3, M') ∧ M' 0 = B.2.2.2.length + 1 ∧ (∀ x, 1 ≤ x → x < p → M' x = M x) ∧ (∀ q, q ∈ T ++ S → itM tp L M' q = itm B tp L q ∧ okIt nP (itM tp L M' q))) := by
    refine s0.seq (fun e1 h1 D1 c1 d1 => ?_) (fun n => erL_err n _)
    obtain ⟨n12, d1⟩ := d1
    subst d1
    rw [e1]
    refine (so_evs (w := w) (K1 := K1) (K2 := K2) oi on hR hn hfl he hB hnP nums (show a ≤ e by omega) (T ++ S) h1 (p + 1) _ (by omega) ac ek c1 (fun j a b => hlk j (by omega) b) rev (fun x a b n => rno x (by omega) (by omega) (by omega) (by omega) n)).mono (fun D' d => ?_)
    obtain ⟨M', d1, d2, d3⟩ := d
    exact ⟨n12, M', d1, by rw [d2 0 (by omega), if_pos rfl, hM], fun x x1 x2 => by rw [d2 x (by omega), if_neg (by omega)], d3⟩
  -- the alphabet
  have s2 : SO w fl m e K1 K2 t rd tn tp th ea L h0 R C h p (a + 1) (ruX B tp L (0, -1) p T S a) (fun D' => ∃ M', D' = (nP, g1, nA, g2, g3, M') ∧ M' 0 = B.2.2.2.length + 1 ∧ B.2.2.2.length < 12 ∧ (∀ x, 1 ≤ x → x < p → M' x = M x) ∧ (∀ q, q ∈ T ++ S → itM tp L M' q = itm B tp L q ∧ okIt nP (itM tp L M' q)) ∧ M' a = lkA B tp L a ∧ ¬ unk (lkA B tp L a)) := by
    unfold ruX
    refine s1.seq (fun e1 h1 D1 c1 d1 => ?_) (fun n => by unfold erA; rw [bl_err n, ite_self])
    obtain ⟨n12, M1, d1, d2, d3, d4⟩ := d1
    subst d1
    rw [e1]
    obtain ⟨h2, e2, c2⟩ := eo_6 oi on c1 hR (show a < L.length by omega) ka ra (fun q _ z => hn2 q z) hfl (5 * (ix nP - 1)) (if kdp L a = 3 then nb tp L a else 0)
    have s := SO.tk (w := w) (K1 := K1) (K2 := K2) oi hfl he c1 (show a < e by omega) e2 c2
    unfold erA
    rw [← lka] at s
    by_cases z : unk (lkA B tp L a)
    · rw [if_pos z, if_neg (by decide)] at s
      rw [if_pos z]
      rcases s with ⟨a, _⟩ | s
      · exact absurd (congrArg Prod.fst a) (by show ¬ (3 : Int32) = 0; decide)
      · exact Or.inr s
    · rw [if_neg z, if_pos rfl] at s
      rw [if_neg z]
      refine s.mono (fun D' d => ⟨_, d, ?_, n12, fun x x1 x2 => ?_, fun q hq => ?_, if_pos rfl, z⟩)
      · rw [if_neg (by omega)]; exact d2
      · rw [if_neg (by omega)]; exact d3 x x1 x2
      · have hh := d4 q hq
        have ie : itM tp L (fun q => if q = a then lkA B tp L a else M1 q) q = itM tp L M1 q := by
          have tk : ∀ y, y ∈ evR q → y.1 < a := fun y hy => (asc_mem _ ac _ (evT_mem (List.mem_flatMap.mpr ⟨q, hq, hy⟩))).2
          refine itM_eq (fun o => ?_) (fun o => ?_)
          · have : q.2.1 < a := by
              rcases osn_012 q.1 with z | z | z
              · omega
              · exact tk (q.2.1, 4) (by rw [evR_1 z]; exact List.mem_singleton.mpr rfl)
              · exact tk (q.2.1, 4) (by rw [evR_2 z]; exact List.mem_cons_self ..)
            exact if_neg (by omega)
          · have : q.2.2 < a := tk (q.2.2, 5) (by rw [evR_2 o]; exact List.mem_cons_of_mem _ (List.mem_singleton.mpr rfl))
            exact if_neg (by omega)
        rw [ie]; exact hh
  refine s2.seq (fun e1 h1 D1 c1 d1 => ?_) (fun n => rfl)
  rw [e1]
  refine (SO.skip (w := w) (K1 := K1) (K2 := K2) oi hfl he c1 (show a + 1 ≤ a + 2 by omega) hq (fun j x1 x2 => rno j (by omega) (by omega) (by omega) (by omega) (fun y hy => by have := (asc_mem _ ac _ (evT_mem hy)).2; omega))).mono (fun D' d => ?_)
  rw [d]; exact d1
end
/-! The rules told so far: their events, the class's rows. -/
abbrev ruE : Type := List evV × List evV × Nat
def evsV (Ru : List ruE) : List evV := Ru.flatMap (fun r => r.1 ++ r.2.1)
theorem evsV_snoc (Ru : List ruE) (r : ruE) : evsV (Ru ++ [r]) = evsV Ru ++ (r.1 ++ r.2.1) := by
  unfold evsV; rw [List.flatMap_append]; simp
theorem evsV_cons (r : ruE) (Ru : List ruE) : evsV (r :: Ru) = (r.1 ++ r.2.1) ++ evsV Ru := List.flatMap_cons
def rwsV (M : Nat → Nat) : Nat → List ruE → List (Nat × Nat × Nat × Nat)
  | _, [] => []
  | u, r :: l => (u, u + r.1.length, u + r.1.length + r.2.1.length, M r.2.2) :: rwsV M (u + r.1.length + r.2.1.length) l
theorem rwsV_snoc (M : Nat → Nat) (r : ruE) : ∀ (l : List ruE) (u : Nat), rwsV M u (l ++ [r]) = rwsV M u l ++ [(u + (evsV l).length, u + (evsV l).length + r.1.length, u + (evsV l).length + r.1.length + r.2.1.length, M r.2.2)] := by
  intro l
  induction l with
  | nil => intro u; rfl
  | cons x l ih =>
    intro u
    show (_ :: rwsV M (u + x.1.length + x.2.1.length) (l ++ [r])) = (_ :: rwsV M (u + x.1.length + x.2.1.length) l) ++ [_]
    rw [ih, evsV_cons, List.length_append, List.length_append, show u + x.1.length + x.2.1.length + (evsV l).length = u + (x.1.length + x.2.1.length + (evsV l).length) by omega]
    rfl
theorem rwsV_congr {M M' : Nat → Nat} : ∀ (l : List ruE) (u : Nat), (∀ r, r ∈ l → M' r.2.2 = M r.2.2) → rwsV M' u l = rwsV M u l := by
  intro l
  induction l with
  | nil => intro u _; rfl
  | cons x l ih =>
    intro u h
    show (_ :: _) = (_ :: _)
    rw [ih _ (fun r hr => h r (List.mem_cons_of_mem _ hr)), h x (List.mem_cons_self ..)]
theorem rwsV_len (M : Nat → Nat) : ∀ (l : List ruE) (u : Nat), (rwsV M u l).length = l.length := by
  intro l
  induction l with
  | nil => intro u; rfl
  | cons x l ih => intro u; show (rwsV M _ l).length + 1 = l.length + 1; rw [ih]
def JR (tp : Nat → Int32) (L : List tokV) (i nP nA : Nat) (M : Nat → Nat) (Ru : List ruE) (B : bkV) : Prop :=
  (B.2.2.1 = (evsV Ru).map (itM tp L M) ∧ B.2.2.2 = rwsV M 0 Ru) ∧ (∀ q, q ∈ evsV Ru → (1 ≤ osn q.1 → 1 ≤ q.2.1 ∧ q.2.1 < i) ∧ (osn q.1 = 2 → 1 ≤ q.2.2 ∧ q.2.2 < i) ∧ okIt nP (itM tp L M q)) ∧
  (∀ r, r ∈ Ru → (fits r.1 [] = some [true] ∧ fits r.2.1 [] = some [false]) ∧ 1 ≤ r.2.2 ∧ r.2.2 < i ∧ M r.2.2 < nA) ∧ wsm (evsV Ru) ≤ 2 * i ∧ osm (evsV Ru) ≤ i ∧ (evsV Ru).length ≤ i
theorem okIt.up {n n' : Nat} {q : Nat × Nat × Nat} (h : okIt n q) (hn : n ≤ n') : okIt n' q := ⟨h.1, h.2.1, fun z => Nat.lt_of_lt_of_le (h.2.2.1 z) hn, fun z => ⟨Nat.lt_of_lt_of_le (h.2.2.2 z).1 hn, Nat.lt_of_lt_of_le (h.2.2.2 z).2 hn⟩⟩
theorem JR.up {tp : Nat → Int32} {L : List tokV} {i nP nA i' nP' nA' : Nat} {M M' : Nat → Nat} {Ru : List ruE} {B B' : bkV} (j : JR tp L i nP nA M Ru B) (hi : i ≤ i') (hP : nP ≤ nP') (hA : nA ≤ nA') (hM : ∀ x, 1 ≤ x → x < i → M' x = M x) (h1 : B'.2.2.1 = B.2.2.1) (h2 : B'.2.2.2 = B.2.2.2) : JR tp L i' nP' nA' M' Ru B' := by
  obtain ⟨⟨a1, a2⟩, a3, a4, a5, a6, a7⟩ := j
  have ie : ∀ q, q ∈ evsV Ru → itM tp L M' q = itM tp L M q := fun q hq => itM_eq (fun o => hM _ ((a3 q hq).1 o).1 ((a3 q hq).1 o).2) (fun o => hM _ ((a3 q hq).2.1 o).1 ((a3 q hq).2.1 o).2)
  refine ⟨⟨?_, ?_⟩, fun q hq => ?_, fun r hr => ?_, by omega, by omega, by omega⟩
  · rw [h1, a1]
    exact List.map_congr_left (fun q hq => (ie q hq).symm)
  · rw [h2, a2]
    exact (rwsV_congr Ru 0 (fun r hr => hM _ (a4 r hr).2.1 (a4 r hr).2.2.1)).symm
  · obtain ⟨b1, b2, b3⟩ := a3 q hq
    refine ⟨fun o => ⟨(b1 o).1, by have := (b1 o).2; omega⟩, fun o => ⟨(b2 o).1, by have := (b2 o).2; omega⟩, ?_⟩
    rw [ie q hq]; exact b3.up hP
  · obtain ⟨b1, b2, b3, b4⟩ := a4 r hr
    exact ⟨b1, b2, by omega, by rw [hM _ b2 b3]; omega⟩
theorem JR.add {tp : Nat → Int32} {L : List tokV} {i nP nA : Nat} {M M' : Nat → Nat} {Ru : List ruE} {B : bkV} (j : JR tp L i nP nA M Ru B) {T S : List evV} {a : Nat} (hl : B.2.2.2.length < 12) (hM : ∀ x, 1 ≤ x → x < i → M' x = M x) (ac : asc (i + 1) a (evTs (T ++ S))) (ev : ∀ q, q ∈ T ++ S → itM tp L M' q = itm B tp L q ∧ okIt nP (itM tp L M' q)) (ma : M' a = lkA B tp L a) (mA : lkA B tp L a < nA) (fT : fits T [] = some [true]) (fS : fits S [] = some [false]) (hw : wsm (T ++ S) + 2 * i ≤ 2 * (a + 2)) (ho : osm (T ++ S) + i ≤ a + 2) (hn : (T ++ S).length + i ≤ a + 2) : JR tp L (a + 2) nP nA M' (Ru ++ [(T, S, a)]) (ruB B tp L T S a) := by
  have pa := asc_le _ ac
  have j' := j.up (i' := a + 2) (nP' := nP) (nA' := nA) (M' := M') (B' := B) (by omega) (Nat.le_refl _) (Nat.le_refl _) hM rfl rfl
  obtain ⟨⟨a1, a2⟩, a3, a4, _⟩ := j'
  obtain ⟨_, _, _, a5, a6, a7⟩ := j
  have es : evsV (Ru ++ [(T, S, a)]) = evsV Ru ++ (T ++ S) := evsV_snoc Ru (T, S, a)
  have len1 : B.2.2.1.length = (evsV Ru).length := by rw [a1, List.length_map]
  refine ⟨⟨?_, ?_⟩, fun q hq => ?_, fun r hr => ?_, ?_, ?_, ?_⟩
  · rw [es, List.map_append]
    show B.2.2.1 ++ (T ++ S).map (itm B tp L) = _
    rw [← a1]
    congr 1
    exact List.map_congr_left (fun q hq => (ev q hq).1.symm)
  · rw [rwsV_snoc]
    show (if B.2.2.2.length < 12 then B.2.2.2 ++ [(B.2.2.1.length, B.2.2.1.length + T.length, B.2.2.1.length + T.length + S.length, lkA B tp L a)] else B.2.2.2) = _
    rw [if_pos hl, len1, ← a2, Nat.zero_add, ma]
  · rw [es] at hq
    rcases List.mem_append.mp hq with z | z
    · exact a3 q z
    · have tk : ∀ y, y ∈ evR q → i + 1 ≤ y.1 ∧ y.1 < a := fun y hy => asc_mem _ ac _ (evT_mem (List.mem_flatMap.mpr ⟨q, z, hy⟩))
      refine ⟨fun o => ?_, fun o => ?_, (ev q z).2⟩
      · have : i + 1 ≤ q.2.1 ∧ q.2.1 < a := by
          rcases osn_012 q.1 with z | z | z
          · omega
          · exact tk (q.2.1, 4) (by rw [evR_1 z]; exact List.mem_singleton.mpr rfl)
          · exact tk (q.2.1, 4) (by rw [evR_2 z]; exact List.mem_cons_self ..)
        omega
      · have : i + 1 ≤ q.2.2 ∧ q.2.2 < a := tk (q.2.2, 5) (by rw [evR_2 o]; exact List.mem_cons_of_mem _ (List.mem_singleton.mpr rfl))
        omega
  · rcases List.mem_append.mp hr with z | z
    · exact a4 r z
    · rw [List.mem_singleton.mp z]
      exact ⟨⟨fT, fS⟩, by show 1 ≤ a; omega, by show a < a + 2; omega, by show M' a < nA; rw [ma]; exact mA⟩
  · rw [es, wsm_app]; omega
  · rw [es, osm_app]; omega
  · rw [es, List.length_append]; omega
