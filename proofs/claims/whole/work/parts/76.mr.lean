/-! The Model in the midst of a text: its state, and its smallest steps. -/
def rof (l : List (Nat × Nat)) : Nat → Nat := l.foldl (fun f q i => if i = q.1 then q.2 else f i) (fun _ => 0)
theorem rof_snoc (l : List (Nat × Nat)) (p k : Nat) : rof (l ++ [(p, k)]) = fun i => if i = p then k else rof l i := by
  unfold rof; rw [List.foldl_append]; rfl
abbrev zV : Type := (Nat → Int32) × (Nat → Int32) × (Nat → Int32)
def rdC (rd nr sz os : Nat) : va_E := oC 11 [.int 0, .ref (rd + 1), .int 0, .ref (rd + 2), .ref (rd + 3), .int (ix nr), .ref (rd + 4), .ref (rd + 5), .ref (rd + 6), .ref (rd + 7), .int (ix sz), .ref (rd + 8), .int (ix os)]
def MW (m t rd tn : Nat) (tp : Nat → Int32) (th ea : Int32) (L : List tokV) (h0 : hp_M) (nr : Nat) (Z : zV) (h : hp_M) (p d : Nat) (gc : Nat → Int32) (sz : Nat) (go : Nat → Int32) (os : Nat) (Rl : List (Nat × Nat)) : Prop :=
  (m + 30 ≤ rd ∧ rd + 9 ≤ h.2 ∧ okK L ∧ p < L.length ∧ d ≤ 8 ∧ okT tn tp) ∧ is_Mo h m th tn tp ea (ix p) (ix d) t rd ∧ md_ar h m L (rof Rl) (fun _ => 0) ∧ h.1 rd = some (rdC rd nr sz os) ∧
  (h.1 (rd + 1) = some (aI 40 (fun _ => 0)) ∧ (∃ g, h.1 (rd + 2) = some (aI 6 g)) ∧ (∃ g, h.1 (rd + 3) = some (aI 72 g))) ∧ (h.1 (rd + 4) = some (aI 13 Z.1) ∧ h.1 (rd + 5) = some (aI 13 Z.2.1) ∧ h.1 (rd + 6) = some (aI 13 Z.2.2)) ∧
  h.1 (rd + 7) = some (aI 1200 gc) ∧ h.1 (rd + 8) = some (aI 400 go) ∧ f2 m (m + 7) rd (rd + 9) h0 h ∧ h.2 = h0.2
/-- what is left where a text breaks off -/
def MF (m t rd tn : Nat) (tp : Nat → Int32) (th ea : Int32) (L : List tokV) (h0 : hp_M) (h : hp_M) (q : Nat) : Prop :=
  (m + 30 ≤ rd ∧ rd + 9 ≤ h.2 ∧ okK L ∧ q < L.length) ∧ (∃ dp, is_Mo h m th tn tp ea (ix q) dp t rd) ∧ (∃ R M, md_ar h m L R M) ∧ f2 m (m + 7) rd (rd + 9) h0 h ∧ h.2 = h0.2
section
variable {m t rd tn : Nat} {tp : Nat → Int32} {th ea : Int32} {L : List tokV} {h0 : hp_M} {nr : Nat} {Z : zV} {h : hp_M} {p d : Nat} {gc : Nat → Int32} {sz : Nat} {go : Nat → Int32} {os : Nat} {Rl : List (Nat × Nat)}
theorem MW.mf (c : MW m t rd tn tp th ea L h0 nr Z h p d gc sz go os Rl) : MF m t rd tn tp th ea L h0 h p :=
  ⟨⟨c.1.1, c.1.2.1, c.1.2.2.1, c.1.2.2.2.1⟩, ⟨_, c.2.1⟩, ⟨_, _, c.2.2.1⟩, c.2.2.2.2.2.2.2.2.1, c.2.2.2.2.2.2.2.2.2⟩
theorem MW.mo (c : MW m t rd tn tp th ea L h0 nr Z h p d gc sz go os Rl) : is_Mo h m th tn tp ea (ix p) (ix d) t rd := c.2.1
theorem MW.on {β : Type} (c : MW m t rd tn tp th ea L h0 nr Z h p d gc sz go os Rl) (g : Option β) : onO h m 12 g = g := c.mo.on g
theorem MW.okk (c : MW m t rd tn tp th ea L h0 nr Z h p d gc sz go os Rl) : okK L := c.1.2.2.1
theorem MW.pl (c : MW m t rd tn tp th ea L h0 nr Z h p d gc sz go os Rl) : p < L.length := c.1.2.2.2.1
theorem MW.pL (c : MW m t rd tn tp th ea L h0 nr Z h p d gc sz go os Rl) : L.length ≤ 401 := c.okk.2.1
theorem MW.d8 (c : MW m t rd tn tp th ea L h0 nr Z h p d gc sz go os Rl) : d ≤ 8 := c.1.2.2.2.2.1
theorem MW.k42 (c : MW m t rd tn tp th ea L h0 nr Z h p d gc sz go os Rl) : kdp L p < 42 := (c.okk.2.2 p c.pl).1
theorem MW.nxt (c : MW m t rd tn tp th ea L h0 nr Z h p d gc sz go os Rl) (hk : 2 ≤ kdp L p) : p + 1 < L.length := (c.okk.2.2 p c.pl).2.mpr hk
theorem MW.kat (c : MW m t rd tn tp th ea L h0 nr Z h p d gc sz go os Rl) {i : Nat} (hi : i < L.length) : gaI h (m + 2) (ix i) = some (ix (mkT (kdp L i))) := by
  have pL := c.pL
  obtain ⟨gk, gf, gm, gr, gt, a1, _, _, _, _, a6⟩ := c.2.2.1
  rw [gaI_of a1 (by omega) (by omega), (a6 i hi).1]; rfl
theorem MW.isV (c : MW m t rd tn tp th ea L h0 nr Z h p d gc sz go os Rl) {k : Nat} (hk : k < 42) {X : Int32} (eX : X = ix (mkT k)) : f_Md_is m X h = some (if kdp L p = k then 1 else 0) := by
  unfold f_Md_is
  refine bnd c.mo.r4 ?_
  refine bnd c.mo.r9 ?_
  refine bnd (c.kat c.pl) ?_
  subst eX
  by_cases z : kdp L p = k
  · rw [if_pos (by rw [z]), if_pos z]
  · rw [if_neg (fun q => z ((mk_eq c.k42 hk).mp q)), if_neg z]
theorem MW.isY (c : MW m t rd tn tp th ea L h0 nr Z h p d gc sz go os Rl) {k : Nat} (hk : k < 42) {X : Int32} (eX : X = ix (mkT k)) (z : kdp L p = k) : onO h m 12 (f_Md_is m X h) = some 1 := by rw [c.on, c.isV hk eX, if_pos z]
theorem MW.isN (c : MW m t rd tn tp th ea L h0 nr Z h p d gc sz go os Rl) {k : Nat} (hk : k < 42) {X : Int32} (eX : X = ix (mkT k)) (z : kdp L p ≠ k) : onO h m 12 (f_Md_is m X h) = some 0 := by rw [c.on, c.isV hk eX, if_neg z]
theorem MW.sgV (c : MW m t rd tn tp th ea L h0 nr Z h p d gc sz go os Rl) {k : Nat} (hk : k < 42) {X : Int32} (eX : 32 + X = ix (mkT k)) : f_Md_isSign m X h = some (if kdp L p = k then 1 else 0) := c.isV hk eX
theorem MW.sgY (c : MW m t rd tn tp th ea L h0 nr Z h p d gc sz go os Rl) {k : Nat} (hk : k < 42) {X : Int32} (eX : 32 + X = ix (mkT k)) (z : kdp L p = k) : onO h m 12 (f_Md_isSign m X h) = some 1 := by rw [c.on, c.sgV hk eX, if_pos z]
theorem MW.sgN (c : MW m t rd tn tp th ea L h0 nr Z h p d gc sz go os Rl) {k : Nat} (hk : k < 42) {X : Int32} (eX : 32 + X = ix (mkT k)) (z : kdp L p ≠ k) : onO h m 12 (f_Md_isSign m X h) = some 0 := by rw [c.on, c.sgV hk eX, if_neg z]
/-- the Model's own object written -/
theorem MW.mput (c : MW m t rd tn tp th ea L h0 nr Z h p d gc sz go os Rl) {k : Nat} {v : Value} {p' d' : Nat} (hk : k < 15) (hp : p' < L.length) (hd : d' ≤ 8) (he : [Value.int th, .ref (m + 1), .int (ix tn), .int ea, .ref (m + 2), .ref (m + 3), .ref (m + 4), .ref (m + 5), .ref (m + 6), .int (ix p), .int (ix d), .ref t, .ref rd, .ref (m + 16), .ref (m + 23)].set k v = [.int th, .ref (m + 1), .int (ix tn), .int ea, .ref (m + 2), .ref (m + 3), .ref (m + 4), .ref (m + 5), .ref (m + 6), .int (ix p'), .int (ix d'), .ref t, .ref rd, .ref (m + 16), .ref (m + 23)]) : ∃ h', pF h m 12 k v = some h' ∧ MW m t rd tn tp th ea L h0 nr Z h' p' d' gc sz go os Rl := by
  obtain ⟨⟨q1, q2, q3, q4, q5, q6⟩, c1, ⟨gk, gf, gm, gr, gt, a1, a2, a3, a4, a5, a6⟩, c3, ⟨c4, ⟨b2, c5⟩, ⟨b3, c6⟩⟩, ⟨c7, c8, c9⟩, c10, c11, c12, c13⟩ := c
  obtain ⟨i1, i2, i3, g, i4, i5⟩ := c1
  have f := wr_fr h m (moC m th (ix tn) ea (ix p') (ix d') t rd)
  have e : pF h m 12 k v = some (wr h m (moC m th (ix tn) ea (ix p') (ix d') t rd)) := by
    rw [pF_of i3 hk, he]; rfl
  refine ⟨_, e, ⟨q1, q2, q3, hp, hd, q6⟩, ⟨i1, i2, wr_self _ _ _, g, f.cell i4 (by omega) (by omega), i5⟩, ⟨gk, gf, gm, gr, gt, f.cell a1 (by omega) (by omega), f.cell a2 (by omega) (by omega), f.cell a3 (by omega) (by omega), f.cell a4 (by omega) (by omega), f.cell a5 (by omega) (by omega), a6⟩, f.cell c3 (by omega) (by omega), ⟨f.cell c4 (by omega) (by omega), ⟨b2, f.cell c5 (by omega) (by omega)⟩, ⟨b3, f.cell c6 (by omega) (by omega)⟩⟩, ⟨f.cell c7 (by omega) (by omega), f.cell c8 (by omega) (by omega), f.cell c9 (by omega) (by omega)⟩, f.cell c10 (by omega) (by omega), f.cell c11 (by omega) (by omega), c12.trans (f.to2 (by omega)), c13⟩
theorem MW.step (c : MW m t rd tn tp th ea L h0 nr Z h p d gc sz go os Rl) (hp : p + 1 < L.length) : ∃ h', pF h m 12 9 (.int (ix p + 1)) = some h' ∧ MW m t rd tn tp th ea L h0 nr Z h' (p + 1) d gc sz go os Rl := by
  rw [ixp1]
  exact c.mput (by omega) hp c.d8 rfl
theorem MW.eatY (c : MW m t rd tn tp th ea L h0 nr Z h p d gc sz go os Rl) {k : Nat} (hk : k < 42) (k2 : 2 ≤ k) {X : Int32} (eX : X = ix (mkT k)) (z : kdp L p = k) : ∃ h', onO h m 12 (f_Md_eat m X h) = some (1, h') ∧ MW m t rd tn tp th ea L h0 nr Z h' (p + 1) d gc sz go os Rl := by
  obtain ⟨h', e, c'⟩ := c.step (c.nxt (by omega))
  refine ⟨h', ?_, c'⟩
  rw [c.on]
  unfold f_Md_eat
  refine bnd (c.isY hk eX z) ?_
  refine ite_n z10 ?_
  refine bnd c.mo.r9 ?_
  exact bnd e rfl
theorem MW.eatN (c : MW m t rd tn tp th ea L h0 nr Z h p d gc sz go os Rl) {k : Nat} (hk : k < 42) {X : Int32} (eX : X = ix (mkT k)) (z : kdp L p ≠ k) : onO h m 12 (f_Md_eat m X h) = some (0, h) := by
  rw [c.on]
  unfold f_Md_eat
  refine bnd (c.isN hk eX z) ?_
  exact ite_p rfl rfl
theorem MW.esY (c : MW m t rd tn tp th ea L h0 nr Z h p d gc sz go os Rl) {k : Nat} (hk : k < 42) (k2 : 2 ≤ k) {X : Int32} (eX : 32 + X = ix (mkT k)) (z : kdp L p = k) : ∃ h', onO h m 12 (f_Md_eatSign m X h) = some (1, h') ∧ MW m t rd tn tp th ea L h0 nr Z h' (p + 1) d gc sz go os Rl := by
  obtain ⟨h', e, c'⟩ := c.eatY hk k2 eX z
  refine ⟨h', ?_, c'⟩
  rw [c.on]
  unfold f_Md_eatSign
  exact bnd e rfl
theorem MW.esN (c : MW m t rd tn tp th ea L h0 nr Z h p d gc sz go os Rl) {k : Nat} (hk : k < 42) {X : Int32} (eX : 32 + X = ix (mkT k)) (z : kdp L p ≠ k) : onO h m 12 (f_Md_eatSign m X h) = some (0, h) := by
  rw [c.on]
  unfold f_Md_eatSign
  exact bnd (c.eatN hk eX z) rfl
/-- a role written -/
theorem MW.role (c : MW m t rd tn tp th ea L h0 nr Z h p d gc sz go os Rl) (k : Nat) : ∃ h', paI h (m + 5) (ix p) (ix k) = some h' ∧ MW m t rd tn tp th ea L h0 nr Z h' p d gc sz go os (Rl ++ [(p, k)]) := by
  have pL := c.pL
  obtain ⟨⟨q1, q2, q3, q4, q5, q6⟩, c1, ⟨gk, gf, gm, gr, gt, a1, a2, a3, a4, a5, a6⟩, c3, ⟨c4, ⟨b2, c5⟩, ⟨b3, c6⟩⟩, ⟨c7, c8, c9⟩, c10, c11, c12, c13⟩ := c
  obtain ⟨i1, i2, i3, g, i4, i5⟩ := c1
  have f := wr_fr h (m + 5) (aI 401 (upd gr p (ix k)))
  refine ⟨_, paI_of a4 (show p < 401 by omega) (by omega), ⟨q1, q2, q3, q4, q5, q6⟩, ⟨i1, i2, f.cell i3 (by omega) (by omega), g, f.cell i4 (by omega) (by omega), i5⟩, ⟨gk, gf, gm, upd gr p (ix k), gt, f.cell a1 (by omega) (by omega), f.cell a2 (by omega) (by omega), f.cell a3 (by omega) (by omega), wr_self _ _ _, f.cell a5 (by omega) (by omega), fun i hi => ?_⟩, f.cell c3 (by omega) (by omega), ⟨f.cell c4 (by omega) (by omega), ⟨b2, f.cell c5 (by omega) (by omega)⟩, ⟨b3, f.cell c6 (by omega) (by omega)⟩⟩, ⟨f.cell c7 (by omega) (by omega), f.cell c8 (by omega) (by omega), f.cell c9 (by omega) (by omega)⟩, f.cell c10 (by omega) (by omega), f.cell c11 (by omega) (by omega), c12.trans (f.to2 (by omega)), c13⟩
  obtain ⟨j1, j2, j3, j4, j5⟩ := a6 i hi
  refine ⟨j1, j2, j3, ?_, j5⟩
  rw [rof_snoc]
  unfold upd
  by_cases q : i = p
  · rw [if_pos q]; dsimp only; rw [if_pos q]
  · rw [if_neg q]; dsimp only; rw [if_neg q]; exact j4
theorem MW.asY (c : MW m t rd tn tp th ea L h0 nr Z h p d gc sz go os Rl) {k : Nat} (hk : k < 42) (k2 : 2 ≤ k) {X Y : Int32} (eX : X = ix (mkT k)) (z : kdp L p = k) (ro : Nat) (eY : Y = ix ro) : ∃ h', onO h m 12 (f_Md_eatAs m X Y h) = some (1, h') ∧ MW m t rd tn tp th ea L h0 nr Z h' (p + 1) d gc sz go os (Rl ++ [(p, ro)]) := by
  obtain ⟨h1, e1, c1⟩ := c.role ro
  obtain ⟨h2, e2, c2⟩ := c1.eatY hk k2 eX z
  refine ⟨h2, ?_, c2⟩
  rw [c.on]
  unfold f_Md_eatAs
  subst eY
  exact bnd c.mo.r7 (bnd c.mo.r9 (bnd e1 (bnd e2 rfl)))
theorem MW.asN (c : MW m t rd tn tp th ea L h0 nr Z h p d gc sz go os Rl) {k : Nat} (hk : k < 42) {X Y : Int32} (eX : X = ix (mkT k)) (z : kdp L p ≠ k) (ro : Nat) (eY : Y = ix ro) : ∃ h', onO h m 12 (f_Md_eatAs m X Y h) = some (0, h') ∧ MF m t rd tn tp th ea L h0 h' p := by
  obtain ⟨h1, e1, c1⟩ := c.role ro
  refine ⟨h1, ?_, c1.mf⟩
  rw [c.on]
  unfold f_Md_eatAs
  subst eY
  exact bnd c.mo.r7 (bnd c.mo.r9 (bnd e1 (bnd (c1.eatN hk eX z) rfl)))
theorem MW.inY (c : MW m t rd tn tp th ea L h0 nr Z h p d gc sz go os Rl) (hk : 2 ≤ kdp L p) (hd : d < 8) : ∃ h', onO h m 12 (f_Md_isIn_ m h) = some (1, h') ∧ MW m t rd tn tp th ea L h0 nr Z h' (p + 1) (d + 1) gc sz go os Rl := by
  obtain ⟨h1, e1, c1⟩ := c.mput (k := 10) (v := .int (ix (d + 1))) (p' := p) (d' := d + 1) (by omega) c.pl (by omega) rfl
  obtain ⟨h2, e2, c2⟩ := c1.step (c.nxt hk)
  refine ⟨h2, ?_, c2⟩
  rw [c.on]
  unfold f_Md_isIn_
  refine bnd c.mo.r10 ?_
  refine ite_n (fun q => ?_) ?_
  · have := (ix_inj (i := d) (n := 8) (by omega) (by omega)).mp q
    omega
  · refine bnd c.mo.r10 ?_
    rw [ixp1]
    exact bnd e1 (bnd c1.mo.r9 (bnd e2 rfl))
theorem MW.inN (c : MW m t rd tn tp th ea L h0 nr Z h p d gc sz go os Rl) (hd : ¬ d < 8) : onO h m 12 (f_Md_isIn_ m h) = some (0, h) := by
  have d8 := c.d8
  have : d = 8 := by omega
  subst this
  rw [c.on]
  unfold f_Md_isIn_
  exact bnd c.mo.r10 (ite_p rfl rfl)
theorem MW.out (c : MW m t rd tn tp th ea L h0 nr Z h p (d + 1) gc sz go os Rl) : ∃ h', pF h m 12 10 (.int (ix (d + 1) - 1)) = some h' ∧ MW m t rd tn tp th ea L h0 nr Z h' p d gc sz go os Rl := by
  have := c.d8
  rw [show ix (d + 1) - 1 = ix d from ixm1 (i := d + 1) (by omega)]
  exact c.mput (by omega) c.pl (by omega) rfl
/-- the code grows -/
theorem MW.code (c : MW m t rd tn tp th ea L h0 nr Z h p d gc sz go os Rl) (hs : sz < 1200) (x : Int32) : ∃ h', onO h m 12 (f_Md_put m x h) = some h' ∧ MW m t rd tn tp th ea L h0 nr Z h' p d (upd gc sz x) (sz + 1) go os Rl := by
  have o := c.mo
  rw [c.on]
  obtain ⟨⟨q1, q2, q3, q4, q5, q6⟩, c1, ⟨gk, gf, gm, gr, gt, a1, a2, a3, a4, a5, a6⟩, c3, ⟨c4, ⟨b2, c5⟩, ⟨b3, c6⟩⟩, ⟨c7, c8, c9⟩, c10, c11, c12, c13⟩ := c
  have e1 : paI h (rd + 7) (ix sz) x = some (wr h (rd + 7) (aI 1200 (upd gc sz x))) := paI_of c10 hs (by omega)
  have f1 := wr_fr h (rd + 7) (aI 1200 (upd gc sz x))
  have s1 := wr_self h (rd + 7) (aI 1200 (upd gc sz x))
  have z1 : (wr h (rd + 7) (aI 1200 (upd gc sz x))).2 = h.2 := rfl
  obtain ⟨h1, hh1⟩ : ∃ q, wr h (rd + 7) (aI 1200 (upd gc sz x)) = q := ⟨_, rfl⟩
  rw [hh1] at e1 f1 s1 z1
  have o1 : is_Mo h1 m th tn tp ea (ix p) (ix d) t rd := o.keep f1 (by omega)
  have r1 : h1.1 rd = some (rdC rd nr sz os) := f1.cell c3 (by omega) (by omega)
  have e2 : pF h1 rd 11 10 (.int (ix (sz + 1))) = some (wr h1 rd (rdC rd nr (sz + 1) os)) := pF_of r1 (by simp)
  have f2' := wr_fr h1 rd (rdC rd nr (sz + 1) os)
  have s2 := wr_self h1 rd (rdC rd nr (sz + 1) os)
  have z2 : (wr h1 rd (rdC rd nr (sz + 1) os)).2 = h1.2 := rfl
  obtain ⟨h2, hh2⟩ : ∃ q, wr h1 rd (rdC rd nr (sz + 1) os) = q := ⟨_, rfl⟩
  rw [hh2] at e2 f2' s2 z2
  have cl : ∀ q e, q ≠ rd → q ≠ rd + 7 → q < h.2 → h.1 q = some e → h2.1 q = some e := fun q e n1 n2 l hq => f2'.cell (f1.cell hq l (by omega)) (by omega) (by omega)
  refine ⟨h2, ?_, ⟨q1, by omega, q3, q4, q5, q6⟩, o1.keep f2' (by omega), ⟨gk, gf, gm, gr, gt, cl _ _ (by omega) (by omega) (by omega) a1, cl _ _ (by omega) (by omega) (by omega) a2, cl _ _ (by omega) (by omega) (by omega) a3, cl _ _ (by omega) (by omega) (by omega) a4, cl _ _ (by omega) (by omega) (by omega) a5, a6⟩, s2, ⟨cl _ _ (by omega) (by omega) (by omega) c4, ⟨b2, cl _ _ (by omega) (by omega) (by omega) c5⟩, ⟨b3, cl _ _ (by omega) (by omega) (by omega) c6⟩⟩, ⟨cl _ _ (by omega) (by omega) (by omega) c7, cl _ _ (by omega) (by omega) (by omega) c8, cl _ _ (by omega) (by omega) (by omega) c9⟩, f2'.cell s1 (by omega) (by omega), cl _ _ (by omega) (by omega) (by omega) c11, (c12.trans (f1.to2 (by omega))).trans (f2'.to2 (by omega)), by omega⟩
  unfold f_Md_put
  refine bnd o.r12 ?_
  refine bnd (gR_of c3 rfl) ?_
  refine bnd o.r12 ?_
  refine bnd (gI_of c3 rfl) ?_
  refine bnd e1 ?_
  refine bnd o1.r12 ?_
  refine bnd (gI_of r1 rfl) ?_
  rw [ixp1]
  exact bnd e2 rfl
/-- a place to be filled later -/
theorem MW.gap (c : MW m t rd tn tp th ea L h0 nr Z h p d gc sz go os Rl) (hs : sz < 1200) (ho : os < 400) (x : Int32) : ∃ h', onO h m 12 (f_Md_putToken m x h) = some h' ∧ MW m t rd tn tp th ea L h0 nr Z h' p d (upd gc sz x) (sz + 1) (upd go os (ix sz)) (os + 1) Rl := by
  have o := c.mo
  have con := c.on (β := hp_M)
  obtain ⟨⟨q1, q2, q3, q4, q5, q6⟩, c1, ⟨gk, gf, gm, gr, gt, a1, a2, a3, a4, a5, a6⟩, c3, ⟨c4, ⟨b2, c5⟩, ⟨b3, c6⟩⟩, ⟨c7, c8, c9⟩, c10, c11, c12, c13⟩ := c
  have e1 : paI h (rd + 8) (ix os) (ix sz) = some (wr h (rd + 8) (aI 400 (upd go os (ix sz)))) := paI_of c11 ho (by omega)
  have f1 := wr_fr h (rd + 8) (aI 400 (upd go os (ix sz)))
  have s1 := wr_self h (rd + 8) (aI 400 (upd go os (ix sz)))
  have z1 : (wr h (rd + 8) (aI 400 (upd go os (ix sz)))).2 = h.2 := rfl
  obtain ⟨h1, hh1⟩ : ∃ q, wr h (rd + 8) (aI 400 (upd go os (ix sz))) = q := ⟨_, rfl⟩
  rw [hh1] at e1 f1 s1 z1
  have o1 : is_Mo h1 m th tn tp ea (ix p) (ix d) t rd := o.keep f1 (by omega)
  have r1 : h1.1 rd = some (rdC rd nr sz os) := f1.cell c3 (by omega) (by omega)
  have e2 : pF h1 rd 11 12 (.int (ix (os + 1))) = some (wr h1 rd (rdC rd nr sz (os + 1))) := pF_of r1 (by simp)
  have f2' := wr_fr h1 rd (rdC rd nr sz (os + 1))
  have s2 := wr_self h1 rd (rdC rd nr sz (os + 1))
  have z2 : (wr h1 rd (rdC rd nr sz (os + 1))).2 = h1.2 := rfl
  obtain ⟨h2, hh2⟩ : ∃ q, wr h1 rd (rdC rd nr sz (os + 1)) = q := ⟨_, rfl⟩
  rw [hh2] at e2 f2' s2 z2
  have cl : ∀ q e, q ≠ rd → q ≠ rd + 8 → q < h.2 → h.1 q = some e → h2.1 q = some e := fun q e n1 n2 l hq => f2'.cell (f1.cell hq l (by omega)) (by omega) (by omega)
  have c2 : MW m t rd tn tp th ea L h0 nr Z h2 p d gc sz (upd go os (ix sz)) (os + 1) Rl := ⟨⟨q1, by omega, q3, q4, q5, q6⟩, o1.keep f2' (by omega), ⟨gk, gf, gm, gr, gt, cl _ _ (by omega) (by omega) (by omega) a1, cl _ _ (by omega) (by omega) (by omega) a2, cl _ _ (by omega) (by omega) (by omega) a3, cl _ _ (by omega) (by omega) (by omega) a4, cl _ _ (by omega) (by omega) (by omega) a5, a6⟩, s2, ⟨cl _ _ (by omega) (by omega) (by omega) c4, ⟨b2, cl _ _ (by omega) (by omega) (by omega) c5⟩, ⟨b3, cl _ _ (by omega) (by omega) (by omega) c6⟩⟩, ⟨cl _ _ (by omega) (by omega) (by omega) c7, cl _ _ (by omega) (by omega) (by omega) c8, cl _ _ (by omega) (by omega) (by omega) c9⟩, cl _ _ (by omega) (by omega) (by omega) c10, f2'.cell s1 (by omega) (by omega), (c12.trans (f1.to2 (by omega))).trans (f2'.to2 (by omega)), by omega⟩
  obtain ⟨h3, e3, c3'⟩ := c2.code hs x
  refine ⟨h3, ?_, c3'⟩
  rw [con]
  unfold f_Md_putToken
  refine bnd o.r12 ?_
  refine bnd (gR_of c3 rfl) ?_
  refine bnd o.r12 ?_
  refine bnd (gI_of c3 rfl) ?_
  refine bnd o.r12 ?_
  refine bnd (gI_of c3 rfl) ?_
  refine bnd e1 ?_
  refine bnd o1.r12 ?_
  refine bnd (gI_of r1 rfl) ?_
  rw [ixp1]
  refine bnd e2 ?_
  exact bnd e3 rfl
end
