/-! The Model follows the grammar: what it leaves. -/
def prT (tp : Nat → Int32) (L : List tokV) (q : evV) : Nat × Nat × Nat := if q.1 = 0 then (0, nuN tp L q.2.1, 0) else q
def opn : List evV → Nat → List Nat
  | [], _ => []
  | q :: l, u => (if osn q.1 = 2 then [u + 1, u + 2] else if osn q.1 = 1 then [u + 1] else []) ++ opn l (u + wid q.1)
def evR (q : evV) : List (Nat × Nat) := if osn q.1 = 2 then [(q.2.1, 4), (q.2.2, 5)] else if osn q.1 = 1 then [(q.2.1, 4)] else []
def evRs (l : List evV) : List (Nat × Nat) := l.flatMap evR
theorem evRs_app (l k : List evV) : evRs (l ++ k) = evRs l ++ evRs k := by unfold evRs; rw [List.flatMap_append]
theorem evRs_one (q : evV) : evRs [q] = evR q := by unfold evRs; simp
theorem osn_012 (k : Nat) : osn k = 0 ∨ osn k = 1 ∨ osn k = 2 := by unfold osn; (repeat' split) <;> omega
theorem osn_wid (k : Nat) : k ≠ 0 → wid k = osn k + 1 := by
  intro h
  unfold osn wid
  (repeat' split) <;> omega
theorem opn_app (l k : List evV) : ∀ u, opn (l ++ k) u = opn l u ++ opn k (u + wsm l) := by
  induction l with
  | nil => intro u; rfl
  | cons q l ih =>
    intro u
    show _ ++ opn (l ++ k) (u + wid q.1) = (_ ++ opn l (u + wid q.1)) ++ _
    rw [ih, List.append_assoc, wsm_cons, Nat.add_assoc]
theorem opn_len (l : List evV) : ∀ u, (opn l u).length = osm l := by
  induction l with
  | nil => intro u; rfl
  | cons q l ih =>
    intro u
    show (_ ++ opn l (u + wid q.1)).length = osn q.1 + osm l
    rw [List.length_append, ih]
    rcases osn_012 q.1 with o | o | o <;> rw [o] <;> simp
theorem getD_al {α : Type} (l k : List α) (x : α) {j : Nat} (h : j < l.length) : (l ++ k).getD j x = l.getD j x := by
  rw [List.getD_eq_getElem?_getD, List.getD_eq_getElem?_getD, List.getElem?_append_left h]
theorem getD_ar {α : Type} (l k : List α) (x : α) {j : Nat} (h : l.length ≤ j) : (l ++ k).getD j x = k.getD (j - l.length) x := by
  rw [List.getD_eq_getElem?_getD, List.getD_eq_getElem?_getD, List.getElem?_append_right h]
theorem segC_app (g : Nat → Int32) (k : List (Nat × Nat × Nat)) (e : Nat) : ∀ (l : List (Nat × Nat × Nat)) (u v : Nat), segC g l u v → segC g k v e → segC g (l ++ k) u e := by
  intro l
  induction l with
  | nil => intro u v h1 h2; rw [show u = v from h1]; exact h2
  | cons q l ih => intro u v h1 h2; exact ⟨h1.1, ih _ _ h1.2 h2⟩
theorem segC_keep {g g' : Nat → Int32} : ∀ (l : List (Nat × Nat × Nat)) (u e : Nat), segC g l u e → (∀ i, i < e → g' i = g i) → segC g' l u e := by
  have le : ∀ (l : List (Nat × Nat × Nat)) (u e : Nat), segC g l u e → u ≤ e := by
    intro l
    induction l with
    | nil => intro u e h; exact Nat.le_of_eq h
    | cons q l ih => intro u e h; exact Nat.le_trans (Nat.le_add_right _ _) (ih _ _ h.2)
  intro l
  induction l with
  | nil => intro u e h _; exact h
  | cons q l ih =>
    intro u e h k
    have b := le _ _ _ h.2
    have w1 := wid_1 q.1
    refine ⟨⟨(k _ (by omega)).trans h.1.1, fun z => (k _ (by omega)).trans (h.1.2.1 z), fun z => (k _ (by omega)).trans (h.1.2.2 z)⟩, ih _ _ h.2 k⟩
def MR (m t rd tn : Nat) (tp : Nat → Int32) (th ea : Int32) (L : List tokV) (h0 : hp_M) (nr : Nat) (Z : zV) (h : hp_M) (p d : Nat) (E : List evV) (Rl : List (Nat × Nat)) : Prop :=
  ∃ gc go, MW m t rd tn tp th ea L h0 nr Z h p d gc (wsm E) go (osm E) Rl ∧ segC gc (E.map (prT tp L)) 0 (wsm E) ∧ ∀ j, j < osm E → go j = ix ((opn E 0).getD j 0)
section
variable {m t rd tn : Nat} {tp : Nat → Int32} {th ea : Int32} {L : List tokV} {h0 : hp_M} {nr : Nat} {Z : zV} {h : hp_M} {p d : Nat} {E : List evV} {Rl : List (Nat × Nat)}
theorem MR.of {h' : hp_M} {p' d' : Nat} {Rl' : List (Nat × Nat)} {X : Option (Int32 × hp_M)} {y : Int32} (c : MR m t rd tn tp th ea L h0 nr Z h p d E Rl) (f : ∀ gc go, MW m t rd tn tp th ea L h0 nr Z h p d gc (wsm E) go (osm E) Rl → X = some (y, h') ∧ MW m t rd tn tp th ea L h0 nr Z h' p' d' gc (wsm E) go (osm E) Rl') : X = some (y, h') ∧ MR m t rd tn tp th ea L h0 nr Z h' p' d' E Rl' := by
  obtain ⟨gc, go, c1, c2, c3⟩ := c
  obtain ⟨e, c4⟩ := f gc go c1
  exact ⟨e, gc, go, c4, c2, c3⟩
theorem MR.w (c : MR m t rd tn tp th ea L h0 nr Z h p d E Rl) : ∃ gc go, MW m t rd tn tp th ea L h0 nr Z h p d gc (wsm E) go (osm E) Rl := by
  obtain ⟨gc, go, c1, _⟩ := c
  exact ⟨gc, go, c1⟩
/-- a step that leaves the code alone -/
theorem MR.lift {α : Type} {X : Option α} {p' d' : Nat} {Rl' : List (Nat × Nat)} {F : hp_M → α} (c : MR m t rd tn tp th ea L h0 nr Z h p d E Rl) (f : ∀ gc sz go os, MW m t rd tn tp th ea L h0 nr Z h p d gc sz go os Rl → ∃ h', X = some (F h') ∧ MW m t rd tn tp th ea L h0 nr Z h' p' d' gc sz go os Rl') : ∃ h', X = some (F h') ∧ MR m t rd tn tp th ea L h0 nr Z h' p' d' E Rl' := by
  obtain ⟨gc, go, c1, c2, c3⟩ := c
  obtain ⟨h', e, c4⟩ := f gc _ go _ c1
  exact ⟨h', e, gc, go, c4, c2, c3⟩
theorem MR.mf (c : MR m t rd tn tp th ea L h0 nr Z h p d E Rl) : MF m t rd tn tp th ea L h0 h p := by
  obtain ⟨gc, go, c1⟩ := c.w
  exact c1.mf
theorem MR.mo (c : MR m t rd tn tp th ea L h0 nr Z h p d E Rl) : is_Mo h m th tn tp ea (ix p) (ix d) t rd := by
  obtain ⟨gc, go, c1⟩ := c.w
  exact c1.mo
theorem MR.on {β : Type} (c : MR m t rd tn tp th ea L h0 nr Z h p d E Rl) (g : Option β) : onO h m 12 g = g := c.mo.on g
theorem MR.okk (c : MR m t rd tn tp th ea L h0 nr Z h p d E Rl) : okK L := by
  obtain ⟨gc, go, c1⟩ := c.w
  exact c1.okk
theorem MR.pl (c : MR m t rd tn tp th ea L h0 nr Z h p d E Rl) : p < L.length := by
  obtain ⟨gc, go, c1⟩ := c.w
  exact c1.pl
theorem MR.pL (c : MR m t rd tn tp th ea L h0 nr Z h p d E Rl) : L.length ≤ 401 := c.okk.2.1
theorem MR.d8 (c : MR m t rd tn tp th ea L h0 nr Z h p d E Rl) : d ≤ 8 := by
  obtain ⟨gc, go, c1⟩ := c.w
  exact c1.d8
theorem MR.k42 (c : MR m t rd tn tp th ea L h0 nr Z h p d E Rl) : kdp L p < 42 := (c.okk.2.2 p c.pl).1
theorem MR.nxt (c : MR m t rd tn tp th ea L h0 nr Z h p d E Rl) (hk : 2 ≤ kdp L p) : p + 1 < L.length := (c.okk.2.2 p c.pl).2.mpr hk
theorem MR.kat (c : MR m t rd tn tp th ea L h0 nr Z h p d E Rl) : gaI h (m + 2) (ix p) = some (ix (mkT (kdp L p))) := by
  obtain ⟨gc, go, c1⟩ := c.w
  exact c1.kat c1.pl
theorem MR.isY (c : MR m t rd tn tp th ea L h0 nr Z h p d E Rl) {k : Nat} (hk : k < 42) {X : Int32} (eX : X = ix (mkT k)) (z : kdp L p = k) : onO h m 12 (f_Md_is m X h) = some 1 := by
  obtain ⟨gc, go, c1⟩ := c.w
  exact c1.isY hk eX z
theorem MR.isN (c : MR m t rd tn tp th ea L h0 nr Z h p d E Rl) {k : Nat} (hk : k < 42) {X : Int32} (eX : X = ix (mkT k)) (z : kdp L p ≠ k) : onO h m 12 (f_Md_is m X h) = some 0 := by
  obtain ⟨gc, go, c1⟩ := c.w
  exact c1.isN hk eX z
theorem MR.sgY (c : MR m t rd tn tp th ea L h0 nr Z h p d E Rl) {k : Nat} (hk : k < 42) {X : Int32} (eX : 32 + X = ix (mkT k)) (z : kdp L p = k) : onO h m 12 (f_Md_isSign m X h) = some 1 := by
  obtain ⟨gc, go, c1⟩ := c.w
  exact c1.sgY hk eX z
theorem MR.sgN (c : MR m t rd tn tp th ea L h0 nr Z h p d E Rl) {k : Nat} (hk : k < 42) {X : Int32} (eX : 32 + X = ix (mkT k)) (z : kdp L p ≠ k) : onO h m 12 (f_Md_isSign m X h) = some 0 := by
  obtain ⟨gc, go, c1⟩ := c.w
  exact c1.sgN hk eX z
theorem MR.step (c : MR m t rd tn tp th ea L h0 nr Z h p d E Rl) (hk : 2 ≤ kdp L p) : ∃ h', pF h m 12 9 (.int (ix p + 1)) = some h' ∧ MR m t rd tn tp th ea L h0 nr Z h' (p + 1) d E Rl := c.lift (F := fun h => h) (fun _ _ _ _ w => w.step (c.nxt hk))
theorem MR.eatY (c : MR m t rd tn tp th ea L h0 nr Z h p d E Rl) {k : Nat} (hk : k < 42) (k2 : 2 ≤ k) {X : Int32} (eX : X = ix (mkT k)) (z : kdp L p = k) : ∃ h', onO h m 12 (f_Md_eat m X h) = some (1, h') ∧ MR m t rd tn tp th ea L h0 nr Z h' (p + 1) d E Rl := c.lift (F := fun h => (1, h)) (fun _ _ _ _ w => w.eatY hk k2 eX z)
theorem MR.eatN (c : MR m t rd tn tp th ea L h0 nr Z h p d E Rl) {k : Nat} (hk : k < 42) {X : Int32} (eX : X = ix (mkT k)) (z : kdp L p ≠ k) : onO h m 12 (f_Md_eat m X h) = some (0, h) := by
  obtain ⟨gc, go, c1⟩ := c.w
  exact c1.eatN hk eX z
theorem MR.esY (c : MR m t rd tn tp th ea L h0 nr Z h p d E Rl) {k : Nat} (hk : k < 42) (k2 : 2 ≤ k) {X : Int32} (eX : 32 + X = ix (mkT k)) (z : kdp L p = k) : ∃ h', onO h m 12 (f_Md_eatSign m X h) = some (1, h') ∧ MR m t rd tn tp th ea L h0 nr Z h' (p + 1) d E Rl := c.lift (F := fun h => (1, h)) (fun _ _ _ _ w => w.esY hk k2 eX z)
theorem MR.esN (c : MR m t rd tn tp th ea L h0 nr Z h p d E Rl) {k : Nat} (hk : k < 42) {X : Int32} (eX : 32 + X = ix (mkT k)) (z : kdp L p ≠ k) : onO h m 12 (f_Md_eatSign m X h) = some (0, h) := by
  obtain ⟨gc, go, c1⟩ := c.w
  exact c1.esN hk eX z
theorem MR.asY (c : MR m t rd tn tp th ea L h0 nr Z h p d E Rl) {k : Nat} (hk : k < 42) (k2 : 2 ≤ k) {X Y : Int32} (eX : X = ix (mkT k)) (z : kdp L p = k) (ro : Nat) (eY : Y = ix ro) : ∃ h', onO h m 12 (f_Md_eatAs m X Y h) = some (1, h') ∧ MR m t rd tn tp th ea L h0 nr Z h' (p + 1) d E (Rl ++ [(p, ro)]) := c.lift (F := fun h => (1, h)) (fun _ _ _ _ w => w.asY hk k2 eX z ro eY)
theorem MR.asN (c : MR m t rd tn tp th ea L h0 nr Z h p d E Rl) {k : Nat} (hk : k < 42) {X Y : Int32} (eX : X = ix (mkT k)) (z : kdp L p ≠ k) (ro : Nat) (eY : Y = ix ro) : ∃ h', onO h m 12 (f_Md_eatAs m X Y h) = some (0, h') ∧ MF m t rd tn tp th ea L h0 h' p := by
  obtain ⟨gc, go, c1⟩ := c.w
  exact c1.asN hk eX z ro eY
theorem MR.inY (c : MR m t rd tn tp th ea L h0 nr Z h p d E Rl) (hk : 2 ≤ kdp L p) (hd : d < 8) : ∃ h', onO h m 12 (f_Md_isIn_ m h) = some (1, h') ∧ MR m t rd tn tp th ea L h0 nr Z h' (p + 1) (d + 1) E Rl := c.lift (F := fun h => (1, h)) (fun _ _ _ _ w => w.inY hk hd)
theorem MR.inN (c : MR m t rd tn tp th ea L h0 nr Z h p d E Rl) (hd : ¬ d < 8) : onO h m 12 (f_Md_isIn_ m h) = some (0, h) := by
  obtain ⟨gc, go, c1⟩ := c.w
  exact c1.inN hd
theorem MR.out (c : MR m t rd tn tp th ea L h0 nr Z h p (d + 1) E Rl) : ∃ h', pF h m 12 10 (.int (ix (d + 1) - 1)) = some h' ∧ MR m t rd tn tp th ea L h0 nr Z h' p d E Rl := c.lift (F := fun h => h) (fun _ _ _ _ w => w.out)
/-- an event told whole -/
theorem MR.more {q : evV} {h' : hp_M} {p' d' : Nat} {gc go gc' go' : Nat → Int32} {Rl' : List (Nat × Nat)} (s : segC gc (E.map (prT tp L)) 0 (wsm E)) (o : ∀ j, j < osm E → go j = ix ((opn E 0).getD j 0)) (w : MW m t rd tn tp th ea L h0 nr Z h' p' d' gc' (wsm E + wid q.1) go' (osm E + osn q.1) Rl') (hg : ∀ i, i < wsm E → gc' i = gc i) (he : encOk gc' (prT tp L q) (wsm E)) (ho : ∀ j, j < osm E → go' j = go j) (h1 : 1 ≤ osn q.1 → go' (osm E) = ix (wsm E + 1)) (h2 : osn q.1 = 2 → go' (osm E + 1) = ix (wsm E + 2)) : MR m t rd tn tp th ea L h0 nr Z h' p' d' (E ++ [q]) Rl' := by
  have ws : wsm (E ++ [q]) = wsm E + wid q.1 := by rw [wsm_app, wsm_cons, wsm_nil]; rfl
  have osx : osm (E ++ [q]) = osm E + osn q.1 := by rw [osm_app, osm_cons, osm_nil]; rfl
  refine ⟨gc', go', by rw [ws, osx]; exact w, ?_, fun j hj => ?_⟩
  · rw [List.map_append, ws]
    refine segC_app _ _ _ _ _ (wsm E) (segC_keep _ _ _ s hg) ?_
    have ew : wid (prT tp L q).1 = wid q.1 := by
      unfold prT; split
      · next z => rw [z]
      · rfl
    exact ⟨he, by show wsm E + wid (prT tp L q).1 = _; rw [ew]⟩
  · rw [osx] at hj
    rw [opn_app]
    have l0 := opn_len E 0
    by_cases z : j < osm E
    · rw [ho j z, o j z, getD_al _ _ _ (by omega)]
    · rw [getD_ar _ _ _ (by omega), l0]
      show go' j = ix (List.getD ((if osn q.1 = 2 then [0 + wsm E + 1, 0 + wsm E + 2] else if osn q.1 = 1 then [0 + wsm E + 1] else []) ++ []) (j - osm E) 0)
      rw [List.append_nil, Nat.zero_add]
      rcases osn_012 q.1 with y | y | y
      · omega
      · rw [y, if_neg (by decide), if_pos rfl]
        have : j = osm E := by omega
        subst this
        rw [h1 (by omega), Nat.sub_self]; rfl
      · rw [y, if_pos rfl]
        by_cases x : j = osm E
        · subst x
          rw [h1 (by omega), Nat.sub_self]; rfl
        · have : j = osm E + 1 := by omega
          subst this
          rw [h2 y, show osm E + 1 - osm E = 1 by omega]; rfl
theorem MR.plain (c : MR m t rd tn tp th ea L h0 nr Z h p d E Rl) (hs : wsm E < 1200) {k : Nat} (hk : pln k) {X : Int32} (eX : X = ix (cod k)) : ∃ h', onO h m 12 (f_Md_put m X h) = some h' ∧ MR m t rd tn tp th ea L h0 nr Z h' p d (E ++ [(k, 0, 0)]) Rl := by
  obtain ⟨gc, go, c1, c2, c3⟩ := c
  obtain ⟨h', e, c4⟩ := c1.code hs X
  have o0 : osn k = 0 := by unfold osn; rw [if_neg (by have := hk.2.2; omega), if_neg hk.2.1]
  have w1 : wid k = 1 := by rw [osn_wid k hk.1, o0]
  refine ⟨h', e, MR.more (q := (k, 0, 0)) (gc' := upd gc (wsm E) X) c2 c3 (by dsimp only; rw [w1, o0]; exact c4) (fun i hi => upd_ne _ _ (by omega)) ?_ (fun j hj => rfl) (fun q => by dsimp only at q; omega) (fun q => by dsimp only at q; omega)⟩
  unfold prT
  rw [if_neg hk.1]
  refine ⟨by rw [upd_self, eX], fun q => ?_, fun q => ?_⟩
  · dsimp only at q; omega
  · dsimp only at q; omega
end
