/-! The Model reads a text: what is left. -/
theorem blE_pz {e k : Int32} (h : 0 ≤ e) (hk : 0 ≤ k) : 0 ≤ blE e k := by unfold blE; split <;> assumption
theorem bl_pz {x : Int32 × Int32} {k : Int32} (h : 0 ≤ x.1) (hk : 0 ≤ k) (L : List tokV) (i : Nat) : 0 ≤ (bl x k L i).1 := blE_pz h hk
theorem erN_pz {tp : Nat → Int32} {L : List tokV} {x : Int32 × Int32} (h : 0 ≤ x.1) (i : Nat) (lo hi : Int32) : 0 ≤ (erN tp L x i lo hi).1 := by
  unfold erN
  split
  · exact bl_pz h (by decide) _ _
  · exact h
theorem erK_pz {L : List tokV} {x : Int32 × Int32} (h : 0 ≤ x.1) (i u : Nat) (b : Bool) : 0 ≤ (erK L x i u b).1 := by
  have a : 0 ≤ (if unk u then x else bl x 2 L i).1 := by
    split
    · exact h
    · exact bl_pz h (by decide) _ _
  unfold erK
  split
  · exact bl_pz a (by decide) _ _
  · exact a
theorem er1_pz {B : bkV} {tp : Nat → Int32} {L : List tokV} {x : Int32 × Int32} (h : 0 ≤ x.1) (i : Nat) : 0 ≤ (er1 B tp L x i).1 := by
  unfold er1
  dsimp only
  split
  · exact blE_pz h (by decide)
  · exact h
theorem er6_pz {B : bkV} {tp : Nat → Int32} {L : List tokV} {x : Int32 × Int32} (h : 0 ≤ x.1) (i j : Nat) : 0 ≤ (er6 B tp L x i j).1 := by
  unfold er6
  split
  · exact blE_pz h (by decide)
  · exact h
theorem erL_pz {B : bkV} {tp : Nat → Int32} {L : List tokV} : ∀ (l : List evV) {x : Int32 × Int32}, 0 ≤ x.1 → 0 ≤ (erL B tp L x l).1 := by
  intro l
  induction l with
  | nil => intro x h; exact h
  | cons q l ih =>
    intro x h
    show 0 ≤ (erL B tp L (erF B tp L x q) l).1
    refine ih ?_
    unfold erF
    split
    · exact er1_pz h _
    · split
      · exact er6_pz (er1_pz (er1_pz h _) _) _ _
      · exact h
theorem stX_pz {B : bkV} {tp : Nat → Int32} {L : List tokV} {x : Int32 × Int32} (h : 0 ≤ x.1) (s : stV) : 0 ≤ (stX B tp L x s).1 := by
  unfold stX
  split
  · have p1 : 0 ≤ (plX1 B tp L x s.2.1).1 := by unfold plX1; exact erN_pz (erN_pz (erK_pz h _ _ _) _ _ _) _ _ _
    unfold plX
    have p2 : 0 ≤ (if s.2.2.1 = 0 then plX1 B tp L x s.2.1 else erN tp L (plX1 B tp L x s.2.1) s.2.2.1 0 359).1 := by
      split
      · exact p1
      · exact erN_pz p1 _ _ _
    unfold plX2
    split
    · exact p2
    · exact erN_pz (erN_pz p2 _ _ _) _ _ _
  · split
    · unfold alX
      split
      · exact bl_pz (erK_pz h _ _ _) (by decide) _ _
      · exact erK_pz h _ _ _
    · unfold ruX erA
      have p0 : 0 ≤ (ruX0 B L x s.2.1).1 := by
        unfold ruX0
        split
        · exact bl_pz h (by decide) _ _
        · exact h
      split
      · exact bl_pz (erL_pz _ p0) (by decide) _ _
      · exact erL_pz _ p0
theorem stXs_pz {tp : Nat → Int32} {L : List tokV} : ∀ (l : List stV) (B : bkV) {x : Int32 × Int32}, 0 ≤ x.1 → 0 ≤ (stXs tp L l B x).1 := by
  intro l
  induction l with
  | nil => intro B x h; exact h
  | cons s l ih => intro B x h; exact ih _ (stX_pz h s)
section
variable {h h' : hp_M} {m t rd tn : Nat} {tp : Nat → Int32} {th ea : Int32} {L : List tokV} {h0 : hp_M} {nr : Nat} {Z : zV} {p d : Nat} {E : List evV} {Rl : List (Nat × Nat)}
theorem MR.ps (c : MR m t rd tn tp th ea L h0 nr Z h p d E Rl) : ∃ gc go g2 g3, PS m t rd tn tp th ea L h0 (rof Rl) (nr, Z, gc, wsm E, go, osm E) h p (0, fun _ => 0, 0, g2, g3, fun _ => 0) ∧ segC gc (E.map (prT tp L)) 0 (wsm E) ∧ ∀ j, j < osm E → go j = ix ((opn E 0).getD j 0) := by
  obtain ⟨gc, go, ⟨⟨q1, q2, q3, q4, q5, q6⟩, c1, c2, c3, ⟨c4, ⟨b2, c5⟩, ⟨b3, c6⟩⟩, ⟨c7, c8, c9⟩, c10, c11, c12, c13⟩, s1, s2⟩ := c
  exact ⟨gc, go, b2, b3, ⟨⟨q1, q2, q3⟩, ⟨_, c1⟩, c2, c3, ⟨c4, c5, c6⟩, ⟨c7, c8, c9⟩, c10, c11, c12, c13⟩, s1, s2⟩
end
section
variable {h : hp_M} {m t rd tn : Nat} {tp : Nat → Int32} {th ea : Int32} {L : List tokV} {h0 : hp_M} {R : Nat → Nat} {i : Nat} {D : pdV} {nr : Nat} {Z : zV} {gc : Nat → Int32} {sz : Nat} {go : Nat → Int32} {os : Nat}
/-- what is told now -/
theorem PS.to {B : bkV} {Ru : List ruE} {E : List evV} (c : PS m t rd tn tp th ea L h0 R (nr, Z, gc, sz, go, os) h i D) (jb : JB tp L R i D B) (jr : JR tp L i D.1 D.2.2.1 D.2.2.2.2.2 Ru B) (hi : i ≤ 400) (hnr : nr = Ru.length) (sg : segC gc (E.map (itM tp L D.2.2.2.2.2)) 0 (wsm E)) (hw : wsm E ≤ 1190) (hZ : ∀ (k : Nat) (r : ruE), Ru[k]? = some r → ∃ E1 E2, E = E1 ++ ((r.1 ++ r.2.1) ++ E2) ∧ Z.1 k = ix (wsm E1) ∧ Z.2.1 k = ix (wsm (E1 ++ r.1)) ∧ Z.1 (k + 1) = ix (wsm (E1 ++ (r.1 ++ r.2.1))) ∧ Z.2.2 k = ix (D.2.2.2.2.2 r.2.2)) : is_To h rd B.1.length (plOf B) B.2.1.length (alV B.2.1) (Rsv tp L D.2.2.2.2.2 Ru) := by
  obtain ⟨⟨j1, j2, j3⟩, j4, j5, ⟨j6, j7, j8⟩, j9, j10, j11⟩ := jb
  have rl : (Rsv tp L D.2.2.2.2.2 Ru).length = Ru.length := by unfold Rsv; rw [List.length_map]
  have r12 : Ru.length ≤ 12 := by
    have := jr.1.2
    rw [this, rwsV_len] at j11; exact j11
  obtain ⟨⟨q1, q2, q3⟩, c1, c2, c3, ⟨c4, c5, c6⟩, ⟨c7, c8, c9⟩, c10, c11, c12, c13⟩ := c
  refine ⟨q2, ⟨j2, j7, by rw [rl]; exact r12, fun k hk => (j9 k hk).1.2⟩, ⟨ix sz, ix os, ?_⟩, ⟨_, c4, fun k hk => ?_⟩, ⟨_, c5, fun k hk => (j9 k hk).2.1⟩, ⟨_, c6, fun k q hk hq => (j9 k hk).2.2 q hq⟩, _, _, _, _, c7, c8, c9, c10, fun k R hR => ?_⟩
  · rw [c3, rl, ← j1, ← j6, ← hnr]; rfl
  · obtain ⟨u1, u2, u3, u4, u5⟩ := (j4 k hk).1
    exact ⟨u1, u2, u4, u5⟩
  · obtain ⟨r, hr, e⟩ := Rsv_get hR
    subst e
    obtain ⟨E1, E2, e1, z1, z2, z3, z4⟩ := hZ k r hr
    have sg' := sg
    rw [e1, List.map_append, List.map_append, List.map_append] at sg'
    have s1 := (segC_split _ _ _ _ sg').2
    have s2 := (segC_split _ _ _ _ s1).1
    have s3 := segC_split _ _ _ _ s2
    have w0 : wsm (E1.map (itM tp L D.2.2.2.2.2)) = wsm E1 := wsm_map (itM_1 _ _ _) _
    have w1 : wsm (r.1.map (itM tp L D.2.2.2.2.2)) = wsm r.1 := wsm_map (itM_1 _ _ _) _
    have w2 : wsm (r.2.1.map (itM tp L D.2.2.2.2.2)) = wsm r.2.1 := wsm_map (itM_1 _ _ _) _
    rw [wsm_app, w0, w1, w2, Nat.zero_add] at s3
    have tot : wsm E = wsm E1 + (wsm r.1 + wsm r.2.1 + wsm E2) := by rw [e1, wsm_app, wsm_app, wsm_app]
    refine ⟨wsm E1, wsm E1 + wsm r.1, wsm E1 + (wsm r.1 + wsm r.2.1), z1, by rw [z2, wsm_app], by rw [z3, wsm_app, wsm_app], z4, ?_, by omega, s3.1, s3.2⟩
    have := (jr.2.2.1 r (List.mem_of_getElem? hr)).2.2.2
    rw [← j6]; exact this
end
section
variable {h h' : hp_M} {m t tn : Nat} {tp : Nat → Int32} {th ea : Int32} {n : Nat} {S : skyV} {nA : Nat} {A : Nat → List Int32} {Rs : List ruV}
theorem rof_100 {l : List (Nat × Nat)} (h : ∀ y, y ∈ l → y.2 < 13) (q : Nat) : rof l q < 100 := by
  by_cases z : rof l q = 0
  · omega
  · have := h _ (rof_mem l q z)
    dsimp only at this
    omega
/-- the whole second pass -/
theorem read_two {w : hp_W} (ot : okT tn tp) {fl : Nat} (hfl : 5000 ≤ fl) {rd : Nat} {h0 h6 : hp_M} {L : List tokV} (hL : L = tksV tn tp) {l : List stV} (hl : l = (gTx (kdp L) 400 0).2.2) {en : Nat} (hen : en = (gTx (kdp L) 400 0).2.1) (g : (gTx (kdp L) 400 0).1 = true) (r : MR m t rd tn tp th ea L h0 (stNs l (0, zZ, [])).1 (stNs l (0, zZ, [])).2.1 h6 en 0 (stNs l (0, zZ, [])).2.2 (stRs l)) (K2 : Int32 → hp_M → Option (Int32 × hp_M)) : (stXs tp L l ([], [], [], []) (0, -1) = (0, -1) ∧ ∃ (h' : hp_M) (C : pcV) (D : pdV), (∀ y, some (0, h') = y → ((gI h6 m 12 9).bind fun v12 => (gR h6 m 12 8).bind fun v13 => (paI h6 v13 0 0).bind fun h14 => (pF h14 m 12 9 (.int 0)).bind fun h15 => f_Md_read_b64 w fl m v12 (fun (h16 : hp_M) => f_Md_read_b118 w fl m (fun (h17 : hp_M) => f_Md_read_b176 w fl m fl 0 h17) fl 0 h16) K2 fl h15) = y) ∧ PS m t rd tn tp th ea L h0 (rof (stRs l)) C h' en D ∧ JB tp L (rof (stRs l)) en D (stBs tp L l ([], [], [], [])) ∧ JR tp L en D.1 D.2.2.1 D.2.2.2.2.2 (rusV l) (stBs tp L l ([], [], [], [])) ∧ is_To h' rd (stBs tp L l ([], [], [], [])).1.length (plOf (stBs tp L l ([], [], [], []))) (stBs tp L l ([], [], [], [])).2.1.length (alV (stBs tp L l ([], [], [], [])).2.1) (Rsv tp L D.2.2.2.2.2 (rusV l))) ∨ (∃ (k : Int32) (j : Nat) (h' : hp_M) (C : pcV) (D : pdV), k ≠ 0 ∧ stXs tp L l ([], [], [], []) (0, -1) = (k, ix (tkn L j).2.1) ∧ j < L.length ∧ PS m t rd tn tp th ea L h0 (rof (stRs l)) C h' j D ∧ ∀ y, K2 k h' = y → ((gI h6 m 12 9).bind fun v12 => (gR h6 m 12 8).bind fun v13 => (paI h6 v13 0 0).bind fun h14 => (pF h14 m 12 9 (.int 0)).bind fun h15 => f_Md_read_b64 w fl m v12 (fun (h16 : hp_M) => f_Md_read_b118 w fl m (fun (h17 : hp_M) => f_Md_read_b176 w fl m fl 0 h17) fl 0 h16) K2 fl h15) = y) := by
  have pl := r.pl
  have pL := r.pL
  have okk := r.okk
  obtain ⟨gc, go, g2, g3, c6, sg, ho⟩ := r.ps
  have oi : okIn tn L := by rw [hL]; exact okIn_of ot
  have on : okNm tp L := by rw [hL]; exact okNm_of ot
  have nums : ∀ j, kdp L j = 3 → nuN tp L j < 2147483648 := fun j k3 => by
    have hj := kdp_in (L := L) (j := j) (by omega)
    rw [hL] at hj k3 ⊢
    exact nuN_lt ot hj k3
  obtain ⟨h14, e14, c14⟩ := c6.putM (j := 0) (by omega) 0
  obtain ⟨h15, e15, c15⟩ := c14.seek 0 (v := .int 0) rfl
  have mem := gTx_12 (K := kdp L) 400 0 g
  rw [← hl] at mem
  have hR : ∀ q, rof (stRs l) q < 100 := rof_100 (fun y hy => (mem y hy).1)
  have hn : ∀ q, rof (stRs l) q = 1 → kdp L q = 2 := fun q z => (mem _ (rof_mem (stRs l) q (by omega))).2 (Or.inl z)
  have hn2 : ∀ q, rof (stRs l) q = 2 → kdp L q = 2 := fun q z => (mem _ (rof_mem (stRs l) q (by omega))).2 (Or.inr z)
  have jb0 : JB tp L (rof (stRs l)) 0 (0, (fun _ => 0), 0, g2, g3, fun q => if q = 0 then 0 else (fun _ => 0) q) ([], [], [], []) := ⟨⟨rfl, Nat.zero_le _, rfl⟩, fun k hk => absurd hk (Nat.not_lt_zero _), fun _ _ => rfl, ⟨rfl, Nat.zero_le _, rfl⟩, fun k hk => absurd hk (Nat.not_lt_zero _), rfl, Nat.zero_le _⟩
  have jr0 : JR tp L 0 0 0 (fun q => if q = 0 then 0 else (fun _ => 0) q) [] ([], [], [], []) := ⟨⟨rfl, rfl⟩, fun q hq => (by cases hq), fun r hr => (by cases hr), Nat.le_refl _, Nat.le_refl _, Nat.le_refl _⟩
  have so := so_text (w := w) (e := en) (K1 := fun (h16 : hp_M) => f_Md_read_b118 w fl m (fun (h17 : hp_M) => f_Md_read_b176 w fl m fl 0 h17) fl 0 h16) (K2 := K2) oi on okk hR hn hn2 hfl pl nums 400 0 h15 _ ([], [], [], []) [] g (by omega) c15 jb0 jr0 (fun i _ => by rw [← hl])
  rw [← hl, ← hen] at so
  have pre : ∀ y, f_Md_read_b64 w fl m (ix en) (fun (h16 : hp_M) => f_Md_read_b118 w fl m (fun (h17 : hp_M) => f_Md_read_b176 w fl m fl 0 h17) fl 0 h16) K2 fl h15 = y → ((gI h6 m 12 9).bind fun v12 => (gR h6 m 12 8).bind fun v13 => (paI h6 v13 0 0).bind fun h14 => (pF h14 m 12 9 (.int 0)).bind fun h15 => f_Md_read_b64 w fl m v12 (fun (h16 : hp_M) => f_Md_read_b118 w fl m (fun (h17 : hp_M) => f_Md_read_b176 w fl m fl 0 h17) fl 0 h16) K2 fl h15) = y := fun y q => bnd c6.r9 (bnd c6.r8 (bnd e14 (bnd e15 q)))
  rcases so with ⟨a, h16, D, c, ⟨jb, jr⟩, rt⟩ | ⟨k, j, h16, D, k0, a, hj, c, sp⟩
  · left
    refine ⟨a, ?_⟩
    have jr' : JR tp L en D.1 D.2.2.1 D.2.2.2.2.2 (rusV l) (stBs tp L l ([], [], [], [])) := jr
    have r12 : (rusV l).length ≤ 12 := by
      have j11 := jb.2.2.2.2.2.2
      rw [jr'.1.2, rwsV_len] at j11; exact j11
    obtain ⟨n1, n2, _, _, n5⟩ := stNs_Z l 0 zZ [] rfl (by omega) (by rw [hl]; exact gTx_k 400 0)
    rw [Nat.zero_add] at n1
    rw [List.nil_append] at n2
    rw [n2] at c sg ho
    generalize hZ : (stNs l (0, zZ, [])).2.1 = Z at c n5
    rw [n1] at c
    obtain ⟨Z1, Z2, Zo⟩ := Z
    have b1 := jr'.2.2.2.1
    have b2 := jr'.2.2.2.2.1
    obtain ⟨h17, gc', f1, c17, sg'⟩ := fill_b w fl (fun (h17 : hp_M) => f_Md_read_b176 w fl m fl 0 h17) (E0 := evsV (rusV l)) (by omega) rfl ho (by omega) (evsV (rusV l)) [] gc h16 fl rfl c rfl (by rw [show wsm [] = 0 from rfl]; exact sg) (fun q hq => ⟨fun o => by have := (jr'.2.1 q hq).1 o; omega, fun o => by have := (jr'.2.1 q hq).2.1 o; omega⟩) (by omega)
    obtain ⟨h18, Zo', f2', c18, _, zo⟩ := of_b w fl (A := fun j => ((rusV l).getD j ([], [], 0)).2.2) r12 (rusV l).length 0 fl h17 Zo (by omega) (by omega) c17 (fun j _ hj => by
      have hr : (rusV l)[j]? = some (rusV l)[j] := List.getElem?_eq_getElem hj
      have gd : (rusV l).getD j ([], [], 0) = (rusV l)[j] := by rw [List.getD_eq_getElem?_getD, hr]; rfl
      obtain ⟨E1, E2, _, _, _, _, z4⟩ := n5 j _ hr
      rw [gd]
      have := (jr'.2.2.1 _ (List.mem_of_getElem? hr)).2.2.1
      refine ⟨?_, by omega⟩
      rw [Nat.zero_add] at z4
      exact z4)
    refine ⟨h18, _, D, fun y e => pre y (rt y (lp_end c pl (by rw [← e]; exact f1.trans f2')) fl (by omega)), c18, jb, jr', ?_⟩
    refine c18.to jb jr' (by omega) rfl sg' (by omega) (fun k r hr => ?_)
    obtain ⟨E1, E2, y1, y2, y3, y4, y5⟩ := n5 k r hr
    rw [Nat.zero_add] at y2 y3 y4
    rw [n2] at y1
    have hk : k < (rusV l).length := (List.getElem?_eq_some_iff.mp hr).1
    refine ⟨E1, E2, y1, y2, y3, y4, ?_⟩
    show Zo' k = _
    rw [zo k (Nat.zero_le _) hk]
    rw [List.getD_eq_getElem?_getD, hr]; rfl
  · right
    exact ⟨k, j, h16, _, D, k0, a, hj, c, fun y e => pre y (sp y e fl (by omega))⟩
end
