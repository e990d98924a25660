/-! The Model is taught. -/
/-- what an accepted text is like -/
def okTX (B : bkV) (Rs : List ruV) : Prop := (∀ k, k < B.1.length → okp (plOf B k) ∧ plOf B k 5 = plOf B k 4 ∧ plOf B k 6 = 0) ∧ okBB B.1.length B Rs ∧ okRs B.1.length B.2.1.length (alV B.2.1) Rs
section
variable {h h' : hp_M} {m t tn : Nat} {tp : Nat → Int32} {th ea : Int32} {n : Nat} {S : skyV} {nA : Nat} {A : Nat → List Int32} {Rs : List ruV}
theorem neg_le {k : Int32} (h0 : 0 ≤ k) (hk : k ≠ 0) : ¬ k ≤ 0 := by
  rw [i32_le] at h0 ⊢
  intro q
  exact hk (Int32.toInt_inj.mp (by omega))
theorem read_of {w : hp_W} (ow : okW w) (ot : okT tn tp) {fl : Nat} (hfl : 5000 ≤ fl) (o : is_MM h m t tn tp th ea n S nA A Rs) :
    ((rdV tn tp).1 = 0 ∧ (rdV tn tp).2.1 = -1 ∧ ∃ (h' : hp_M) (rd : Nat) (tk dp : Int32) (Rs' : List ruV), f_Md_read w fl m h = some (0, h') ∧ m + 30 ≤ rd ∧ h.2 ≤ rd ∧ fr m (m + 7) h h' ∧ is_Mo h' m th tn tp ea tk dp t rd ∧ (∀ j, 2 ≤ j → j ≤ 6 → ∃ g, h'.1 (m + j) = some (aI 401 g)) ∧ is_To h' rd (rdV tn tp).2.2.1.length (plOf (rdV tn tp).2.2) (rdV tn tp).2.2.2.1.length (alV (rdV tn tp).2.2.2.1) Rs' ∧ (∃ g, h'.1 (rd + 1) = some (aI 40 g) ∧ ∀ k, k < (rdV tn tp).2.2.1.length → g (5 * k + 2) = plOf (rdV tn tp).2.2 k 4) ∧ okTX (rdV tn tp).2.2 Rs') ∨
    (¬ (rdV tn tp).1 ≤ 0 ∧ ∃ h', f_Md_read w fl m h = some ((rdV tn tp).1, h') ∧ is_MM h' m t tn tp th (rdV tn tp).2.1 n S nA A Rs ∧ fr m (m + 30) h h') := by
  obtain ⟨L, hL⟩ : ∃ L, L = tksV tn tp := ⟨_, rfl⟩
  by_cases g : (gTx (kdp L) 400 0).1 = true
  · obtain ⟨h5, r, f5, z5, k⟩ := read_head ow ot hfl o
    rw [← hL] at r
    have pL := r.pL
    obtain ⟨b1, _⟩ := mtext_b (by rw [hL]; exact okIn_of ot) hfl 400 fl 0 h5 (0, zZ, []) [] (by omega) (by omega) (Nat.le_refl _) (Nat.zero_le _) (Nat.zero_le _) r
    obtain ⟨k0, h6, e6, r6⟩ := b1 g
    obtain ⟨l, hl⟩ : ∃ l, l = (gTx (kdp L) 400 0).2.2 := ⟨_, rfl⟩
    obtain ⟨en, hen⟩ : ∃ en, en = (gTx (kdp L) 400 0).2.1 := ⟨_, rfl⟩
    rw [← hl, ← hen] at r6
    have er : rdV tn tp = ((stXs tp L l ([], [], [], []) (0, -1)).1, (stXs tp L l ([], [], [], []) (0, -1)).2, stBs tp L l ([], [], [], [])) := by
      unfold rdV
      rw [← hL, if_pos ⟨g, k0⟩, ← hl]
    have is : onO h5 m 12 (f_Md_isText fl m h5) = some (1, h6) := (r.on _).trans (show f_Md_isText fl m h5 = some (1, h6) from e6)
    have F : ∀ h', f2 m (m + 7) h.2 (h.2 + 9) h5 h' → fr m (m + 7) h h' := fun h' fq => by
      refine ⟨by have := f5.1; have := fq.1; omega, fun q hq hl => ?_⟩
      rw [fq.2 q (by omega) (by omega) (by have := f5.1; omega)]
      exact f5.2 q hq hl
    rw [er]
    rcases read_two ot hfl hL hl hen g r6 (fun (u18 : Int32) (h19 : hp_M) => (gR h19 m 12 5).bind fun v20 => (gI h19 m 12 9).bind fun v21 => (gaI h19 v20 v21).bind fun v22 => (pF h19 m 12 3 (.int v22)).bind fun h23 => some (u18, h23)) with ⟨a, h7, C, D, q, c, jb, jr, to⟩ | ⟨kk, j, h7, C, D, n0, a, hj, c, q⟩
    · left
      rw [a]
      refine ⟨rfl, rfl, h7, h.2, _, c.mo.choose, Rsv tp L D.2.2.2.2.2 (rusV l), ?_, o.1, Nat.le_refl _, F h7 c.2.2.2.2.2.2.2.2.1, c.mo.choose_spec, c.2.2.1.ar, to, ⟨_, c.2.2.2.2.1.1, fun k hk => (jb.2.1 k hk).1.2.2.1⟩, fun k hk => (jb.2.1 k hk).2, ?_, ?_⟩
      · exact k _ (bnd is (ite_n z10 (q _ rfl)))
      · have j2 := jb.2.2.2.1.1
        have j3 := jb.1.1
        rw [j3] at jr
        exact jr.okBB j2 (fun k hk => (jb.2.2.2.2.1 k hk).1.1)
      · have j2 := jb.2.2.2.1.1
        have j3 := jb.1.1
        rw [j3, j2] at jr
        have := r6.pl
        exact jr.okRs (by omega) (fun k hk => (jb.2.2.2.2.1 k hk).1.1)
    · right
      have pz := stXs_pz (tp := tp) (L := L) l ([], [], [], []) (x := (0, -1)) (by decide)
      rw [a] at pz ⊢
      dsimp only at pz ⊢
      refine ⟨neg_le pz n0, ?_⟩
      obtain ⟨dp, mo⟩ := c.mo
      have st : gaI h7 (m + 3) (ix j) = some (ix (tkn L j).2.1) := by
        obtain ⟨gk, gf, gm, gr, gt, a1, a2, a3, a4, a5, a6⟩ := c.2.2.1
        rw [gaI_of a2 (by omega) (by omega), (a6 _ hj).2.1]
      obtain ⟨h8, e8, mo8, f8, z8⟩ := mo.put (k := 3) (v := .int (ix (tkn L j).2.1)) (th' := th) (ea' := ix (tkn L j).2.1) (tk' := ix j) (dp' := dp) (tn' := tn) (t' := t) (rd' := h.2) (by omega) (Nat.le_refl _) rfl
      have F7 := F h7 c.2.2.2.2.2.2.2.2.1
      have F8 : fr m (m + 7) h h8 := F7.trans (f8.mono (Nat.le_refl _) (by omega))
      have ar := c.2.2.1.ar
      have hm : m + 30 ≤ h7.2 := by have := c.1.1; have := c.1.2.1; omega
      refine ⟨h8, ?_, o.after F8 mo8 (fun j a b => ?_), F8.mono (Nat.le_refl _) (by omega)⟩
      · exact k _ (bnd is (ite_n z10 (q _ (bnd mo.r5 (bnd mo.r9 (bnd st (bnd e8 rfl)))))))
      · obtain ⟨g', hg⟩ := ar j a b
        exact ⟨g', f8.cell hg (by omega) (by omega)⟩
  · right
    have g' : (gTx (kdp L) 400 0).1 = false := by simpa using g
    have er : rdV tn tp = (1, ix (tkn L (gTx (kdp L) 400 0).2.1).2.1, [], [], [], []) := by
      unfold rdV
      rw [← hL, if_neg (fun q => g q.1)]
    rw [er]
    rw [hL] at g' ⊢
    obtain ⟨h', e', o', f'⟩ := read_no ow ot hfl o g'
    exact ⟨show ¬ (1 : Int32) ≤ 0 by decide, h', e', o', f'⟩
theorem teach_b36 {w : hp_W} {fl : Nat} {t : Nat} {g : Nat → Int32} {P : Nat → Nat → Int32} {wt : Nat → Int32} {pn : Nat} {pp : Nat → Int32} {d : Int32} {tk dp : Int32} {rd : Nat} (ht : m + 30 ≤ t) (hg : ∀ k, k < n → g (5 * k + 2) = P k 4) (hP : ∀ k, k < n → P k 5 = P k 4 ∧ P k 6 = 0) (K : hp_M → Option (Int32 × hp_M)) : ∀ (r k fu : Nat) (h : hp_M) (x4 x5 x6 : Nat → Int32), k + r = n → r < fu → is_Mo h m th tn tp ea tk dp t rd → is_To h t n P nA A Rs → h.1 (t + 1) = some (aI 40 g) → is_St h m (m + 16) n x4 x5 x6 wt pn pp d → (∀ j, j < k → x4 j = P j 4 ∧ x5 j = P j 5 ∧ x6 j = P j 6) → ∃ h', f_Md_teach_b36 w fl m K fu (ix k) h = K h' ∧ is_St h' m (m + 16) n (fun i => P i 4) (fun i => P i 5) (fun i => P i 6) wt pn pp d ∧ fr (m + 16) (m + 23) h h' ∧ h'.2 = h.2 := by
  intro r
  induction r with
  | zero =>
    intro k fu h x4 x5 x6 hk hf mo to c s hx
    obtain ⟨fu, rfl⟩ : ∃ q, fu = q + 1 := ⟨fu - 1, by omega⟩
    have n8 := to.n8
    refine ⟨h, ?_, s.congr (fun i hi => hx i (by omega)), fr.refl _ _ _, rfl⟩
    unfold f_Md_teach_b36
    exact bnd mo.r11 (bnd to.r0 (ite_p (ix_le1 (by omega) (by omega)) rfl))
  | succ r ih =>
    intro k fu h x4 x5 x6 hk hf mo to c s hx
    obtain ⟨fu, rfl⟩ : ∃ q, fu = q + 1 := ⟨fu - 1, by omega⟩
    have n8 := to.n8
    have hs := s.1
    have ht2 := to.1
    have an : gaI h (t + 1) (ix (5 * k + 2)) = some (P k 4) := by rw [gaI_of c (by omega) (by omega), hg k (by omega)]
    obtain ⟨h1, e1, s1, f1, z1⟩ := s.set (i := k) (by omega) (P k 4)
    obtain ⟨h2, e2, s2, f2', z2⟩ := s1.putL (i := k) (by omega) 0
    have F : fr (m + 16) (m + 23) h h2 := f1.trans f2'
    obtain ⟨h', e3, s3, f3, z3⟩ := ih (k + 1) fu h2 _ _ _ (by omega) (by omega) (mo.keep F (by omega)) (to.keep F (by omega)) (F.cell c (by omega) (by omega)) s2 (fun j hj => by
      obtain ⟨p5, p6⟩ := hP k (by omega)
      by_cases y : j = k
      · rw [y, upd_self, upd_self, upd_self]; exact ⟨rfl, p5.symm, p6.symm⟩
      · rw [upd_ne _ _ y, upd_ne _ _ y, upd_ne _ _ y]; exact hx j (by omega))
    refine ⟨h', ?_, s3, F.trans f3, by omega⟩
    unfold f_Md_teach_b36
    refine bnd mo.r11 (bnd to.r0 (ite_n (ix_nle (by omega) (by omega)) ?_))
    refine bnd mo.r13 (bnd mo.r11 (bnd to.r1 ?_))
    rw [ix5, ixp2]
    refine bnd an (bnd ((s.on _).trans e1) ?_)
    refine bnd (mo.keep f1 (by omega)).r13 (bnd s1.r3 (bnd e2 ?_))
    rw [ixp1]
    exact e3
theorem teach_b86 {w : hp_W} {fl : Nat} {x4 x5 x6 : Nat → Int32} {pn : Nat} {pp : Nat → Int32} {d : Int32} {tk dp : Int32} {t rd : Nat} : ∀ (r k fu : Nat) (h : hp_M) (wt : Nat → Int32), k + r = 12 → r < fu → is_Mo h m th tn tp ea tk dp t rd → is_St h m (m + 16) n x4 x5 x6 wt pn pp d → (∀ j, j < k → wt j = 0) → ∃ h', f_Md_teach_b86 w fl m fu (ix k) h = some (0, h') ∧ is_St h' m (m + 16) n x4 x5 x6 (fun _ => 0) pn pp d ∧ fr (m + 16) (m + 23) h h' ∧ h'.2 = h.2 := by
  intro r
  induction r with
  | zero =>
    intro k fu h wt hk hf mo s hw
    obtain ⟨fu, rfl⟩ : ∃ q, fu = q + 1 := ⟨fu - 1, by omega⟩
    refine ⟨h, ?_, ?_, fr.refl _ _ _, rfl⟩
    · unfold f_Md_teach_b86
      exact ite_p (show (12 : Int32) ≤ ix k from ix_le1 (i := 12) (by omega) (by omega)) rfl
    · obtain ⟨s1, s2, s3, s4, s5, s6, s7, ⟨g, s8, s9⟩, s10⟩ := s
      exact ⟨s1, s2, s3, s4, s5, s6, s7, ⟨g, s8, fun i hi => by rw [s9 i hi, hw i (by omega)]⟩, s10⟩
  | succ r ih =>
    intro k fu h wt hk hf mo s hw
    obtain ⟨fu, rfl⟩ : ∃ q, fu = q + 1 := ⟨fu - 1, by omega⟩
    obtain ⟨h1, e1, s1, f1, z1⟩ := s.putW (i := k) (by omega) 0
    obtain ⟨h', e2, s2, f2', z2⟩ := ih (k + 1) fu h1 _ (by omega) (by omega) (mo.keep f1 (by omega)) s1 (fun j hj => by
      by_cases y : j = k
      · rw [y, upd_self]
      · rw [upd_ne _ _ y]; exact hw j (by omega))
    refine ⟨h', ?_, s2, f1.trans f2', by omega⟩
    unfold f_Md_teach_b86
    refine ite_n (show ¬ (12 : Int32) ≤ ix k from ix_nle (n := k) (i := 12) (by omega) (by omega)) ?_
    refine bnd mo.r13 (bnd s.r4 (bnd e1 ?_))
    rw [ixp1]
    exact e2
theorem Md_teach {w : hp_W} (ow : okW w) (ot : okT tn tp) {fl : Nat} (hfl : 5000 ≤ fl) (o : is_MM h m t tn tp th ea n S nA A Rs) : ∃ h', f_Md_teach w fl m h = some ((rdV tn tp).1, h') ∧ fr m (m + 30) h h' ∧ (((rdV tn tp).1 ≠ 0 ∧ is_MM h' m t 0 tp 0 (rdV tn tp).2.1 n S nA A Rs) ∨ ((rdV tn tp).1 = 0 ∧ (rdV tn tp).2.1 = -1 ∧ ∃ t' Rs', h.2 ≤ t' ∧ is_MM h' m t' 0 tp 0 (-1) (rdV tn tp).2.2.1.length (plOf (rdV tn tp).2.2, S.2.1, S.2.2.1, S.2.2.2.1, fun _ => 0) (rdV tn tp).2.2.2.1.length (alV (rdV tn tp).2.2.2.1) Rs' ∧ okTX (rdV tn tp).2.2 Rs')) := by
  obtain ⟨h1, e1, o1, f1, z1⟩ := o.th0 0
  obtain ⟨h2, e2, o2, f2', z2⟩ := o1.put (k := 3) (v := .int (-1)) (th' := 0) (ea' := -1) (tn' := tn) (Nat.le_refl _) (Or.inr (Or.inr ⟨rfl, rfl, rfl, rfl⟩))
  have f12 := f1.trans f2'
  have pre : ∀ {r3 : Int32 × hp_M} {y}, f_Md_read w fl m h2 = some r3 → ((pF r3.2 m 12 2 (.int 0)).bind fun h4 => if r3.1 ≤ 0 then ((gR h4 m 12 12).bind fun v6 => (pF h4 m 12 11 (.ref v6)).bind fun h7 => f_Md_teach_b36 w fl m (fun (h8 : hp_M) => f_Md_teach_b86 w fl m fl 0 h8) fl 0 h7) else (some (r3.1, h4))) = y → f_Md_teach w fl m h = y := fun er q => by
    unfold f_Md_teach
    exact bnd e1 (bnd e2 (bnd ((o2.on _).trans er) q))
  rcases read_of ow ot hfl o2 with ⟨a1, a2, h3, rd, tk, dp, Rs', er, hrd, hrd2, f3, mo, ar, to, ⟨g, hg1, hg2⟩, tx⟩ | ⟨n0, h3, er, o3, f3⟩
  · obtain ⟨h4, e4, mo4, f4, z4⟩ := mo.put (k := 2) (v := .int 0) (th' := 0) (ea' := -1) (tk' := tk) (dp' := dp) (tn' := 0) (t' := t) (rd' := rd) (by omega) (Nat.zero_le _) rfl
    obtain ⟨h7, e7, mo7, f7, z7⟩ := mo4.put (k := 11) (v := .ref rd) (th' := 0) (ea' := -1) (tk' := tk) (dp' := dp) (tn' := 0) (t' := rd) (rd' := rd) (by omega) (Nat.le_refl _) rfl
    have hz := to.1
    have F : fr m (m + 7) h2 h7 := (f3.trans (f4.mono (Nat.le_refl _) (by omega))).trans (f7.mono (Nat.le_refl _) (by omega))
    obtain ⟨p1, p2, p3, p4, ⟨n', S', p5⟩, p6, p7⟩ := o2
    have s7 : is_St h7 m (m + 16) n (ang S) (bef S) (lps S) S.2.2.2.2 S.2.2.1 S.2.2.2.1 S.2.1 := is_St.keep p4 F (by omega)
    obtain ⟨y4, y5, y6, s7'⟩ := s7.grow to.n8
    have to7 : is_To h7 rd (rdV tn tp).2.2.1.length (plOf (rdV tn tp).2.2) (rdV tn tp).2.2.2.1.length (alV (rdV tn tp).2.2.2.1) Rs' := (to.keep f4 (by omega)).keep f7 (by omega)
    have g7 : h7.1 (rd + 1) = some (aI 40 g) := f7.cell (f4.cell hg1 (by omega) (by omega)) (by omega) (by omega)
    obtain ⟨h8, e8, s8, f8, z8⟩ := teach_b36 (w := w) (fl := fl) hrd hg2 (fun k hk => (tx.1 k hk).2) (fun (h8 : hp_M) => f_Md_teach_b86 w fl m fl 0 h8) _ 0 fl h7 y4 y5 y6 (Nat.zero_add _) (by have := to.n8; omega) mo7 to7 g7 s7' (fun j hj => absurd hj (Nat.not_lt_zero _))
    obtain ⟨h9, e9, s9, f9, z9⟩ := teach_b86 (w := w) (fl := fl) 12 0 fl h8 _ (by omega) (by omega) (mo7.keep f8 (by omega)) s8 (fun j hj => absurd hj (Nat.not_lt_zero _))
    have F9 : fr (m + 16) (m + 23) h7 h9 := f8.trans f9
    refine ⟨h9, ?_, (f12.trans (F.mono (Nat.le_refl _) (by omega))).trans (F9.mono (by omega) (by omega)), Or.inr ⟨a1, a2, rd, Rs', by omega, ?_, tx⟩⟩
    · rw [a1]
      refine pre er (bnd e4 (ite_p (show (0 : Int32) ≤ 0 by decide) (bnd mo4.r12 (bnd e7 ?_))))
      exact e8.trans e9
    · refine ⟨by have := F.1; have := F9.1; omega, Or.inr hrd, ⟨_, _, _, mo7.keep F9 (by omega)⟩, s9, ⟨n', S', (is_ST.keep p5 F (by omega)).keep F9 (by omega)⟩, to7.keep F9 (by omega), fun j x1 x2 => ?_⟩
      obtain ⟨g', hg'⟩ := ar j x1 x2
      exact ⟨g', F9.cell (f7.cell (f4.cell hg' (by omega) (by omega)) (by omega) (by omega)) (by omega) (by omega)⟩
  · obtain ⟨h4, e4, o4, f4, z4⟩ := o3.put (k := 2) (v := .int 0) (th' := 0) (ea' := (rdV tn tp).2.1) (tn' := 0) (Nat.zero_le _) (Or.inr (Or.inl ⟨rfl, rfl, rfl, rfl⟩))
    refine ⟨h4, pre er (bnd e4 (ite_n n0 rfl)), (f12.trans f3).trans f4, Or.inl ⟨fun q => n0 (by rw [q]; decide), o4⟩⟩
end
