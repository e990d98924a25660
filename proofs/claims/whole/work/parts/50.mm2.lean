/-! The Model's plain calls. -/
section
variable {h h' : hp_M} {m t tn : Nat} {tp : Nat → Int32} {th ea : Int32} {n : Nat} {S : skyV} {nA : Nat} {A : Nat → List Int32} {Rs : List ruV} {lo hi : Nat}
theorem Md_planetTold (o : is_MM h m t tn tp th ea n S nA A Rs) (ok : okY n S.1) {i k : Nat} (hi : i < n) (hk : k < 7) : ∃ e, f_Md_planetTold m (ix i) (ix k) h = some (fact (S.1 i) S.2.1 k, Jvm.Pilot.CShadowSpellLaw_law_r9225_03f26d.hN h e) := by
  have h8 := o.to.n8
  have oN := fun e => o.hN e
  have mo := fun e => (oN e).mo
  have hr : ∀ e, f_St_isRetro (m + 16) (ix i) (Jvm.Pilot.CShadowSpellLaw_law_r9225_03f26d.hN h e) = some (rv (S.1 i) S.2.1) := fun e => by
    obtain ⟨tk, dp, rd, q⟩ := mo e
    exact is_St.isRetro (oN e).st q (oN e).to ok hi
  have w : ∀ g i x, i < 7 → paI (Jvm.Pilot.CShadowSpellLaw_law_r9225_03f26d.hN h (aI 7 g)) h.2 (ix i) x = some (Jvm.Pilot.CShadowSpellLaw_law_r9225_03f26d.hN h (aI 7 (upd g i x))) := fun g i x hi => paI_hN hi (by omega) x
  have fin : ∀ g, gaI (Jvm.Pilot.CShadowSpellLaw_law_r9225_03f26d.hN h (aI 7 g)) h.2 (ix k) = some (g k) := fun g => gaI_of (hN_self h _) hk (by omega)
  have p0 := fun e => ((oN e).to.pl hi).1
  have p1 := fun e => ((oN e).to.pl hi).2.1
  have p3 := fun e => ((oN e).to.pl hi).2.2.1
  have p4 := fun e => ((oN e).to.pl hi).2.2.2
  have pa : ∀ e, gaI (Jvm.Pilot.CShadowSpellLaw_law_r9225_03f26d.hN h e) (m + 16 + 1) (ix i) = some (S.1 i 4) := fun e => (oN e).st.ang hi
  have pl : ∀ e, gaI (Jvm.Pilot.CShadowSpellLaw_law_r9225_03f26d.hN h e) (m + 16 + 3) (ix i) = some (S.1 i 6) := fun e => (oN e).st.lap hi
  refine ⟨aI 7 (upd (upd (upd (upd (upd (upd (upd (fun _ => 0) 0 (S.1 i 0)) 1 (S.1 i 1)) 2 (S.1 i 4)) 3 (S.1 i 6)) 4 (S.1 i 2)) 5 (S.1 i 3)) 6 (rv (S.1 i) S.2.1)), ?_⟩
  unfold f_Md_planetTold jn; dsimp only
  simp only [ix5]
  rw [show (0 : Int32) = ix 0 from rfl, show (1 : Int32) = ix 1 from rfl, show (2 : Int32) = ix 2 from rfl, show (3 : Int32) = ix 3 from rfl, show (4 : Int32) = ix 4 from rfl, show (5 : Int32) = ix 5 from rfl, show (6 : Int32) = ix 6 from rfl]
  simp only [ix_add, (oN _).r13, (oN _).r11, (oN _).st.r1, (oN _).st.r3, (oN _).st.on, (oN _).to.r1, p0, p1, p3, p4, pa, pl, hr, w _ 0 _ (by omega), w _ 1 _ (by omega), w _ 2 _ (by omega), w _ 3 _ (by omega), w _ 4 _ (by omega), w _ 5 _ (by omega), w _ 6 _ (by omega), fin, Option.bind_some]
  have : k = 0 ∨ k = 1 ∨ k = 2 ∨ k = 3 ∨ k = 4 ∨ k = 5 ∨ k = 6 := by omega
  rcases rv_01 (S.1 i) S.2.1 with q | q
  · rw [if_pos (by rw [q]; rfl)]
    have e0 : rv (S.1 i) S.2.1 = ix 0 := q
    rw [← e0]
    rcases this with r | r | r | r | r | r | r <;> subst r <;> first | rfl | (simp only [upd, fact]; rfl)
  · rw [if_neg (by rw [q]; decide)]
    have e0 : rv (S.1 i) S.2.1 = ix 1 := q
    rw [← e0]
    rcases this with r | r | r | r | r | r | r <;> subst r <;> first | rfl | (simp only [upd, fact]; rfl)
theorem Md_planet (o : is_MM h m t tn tp th ea n S nA A Rs) (ok : okY n S.1) {i k : Nat} (hi : i < n) (hk : k < 7) : ∃ h', f_Md_planet m (ix i) (ix k) h = some (fact (S.1 i) S.2.1 k, h') ∧ is_MM h' m t tn tp 0 ea n S nA A Rs ∧ fr m (m + 30) h h' := by
  obtain ⟨h1, e1, o1, r1, z1⟩ := o.th0 0
  obtain ⟨e, e2⟩ := Md_planetTold o1 ok hi hk
  refine ⟨_, ?_, o1.hN e, r1.trans (hN_fr2 h1 e _ _)⟩
  unfold f_Md_planet jn; dsimp only
  simp only [e1, o1.on, MM_isPlanet o1 hi, show (6 : Int32) = ix 6 from rfl, isIn_yes' (show k < 6 + 1 by omega) (by omega), e2, Option.bind_some]
  rw [if_neg (by decide), if_neg (by decide)]
theorem Md_planetX (o : is_MM h m t tn tp th ea n S nA A Rs) {x y : Int32} (hx : ¬ (inN n x ∧ inN 7 y)) : MX (f_Md_planet m x y h) h m t tn tp 1 ea n S nA A Rs := by
  obtain ⟨h1, e1, o1, r1, z1⟩ := o.th0 0
  refine MX_of (x := 1) o1 r1 z1 ?_
  unfold f_Md_planet jn; dsimp only
  by_cases hq : inN n x
  · obtain ⟨i, hi, rfl⟩ := hq
    have hy : ¬ inN (6 + 1) y := fun q => hx ⟨⟨i, hi, rfl⟩, q⟩
    simp only [e1, o1.on, MM_isPlanet o1 hi, show (6 : Int32) = ix 6 from rfl, isIn_no' hy (by omega), Option.bind_some]
    rw [if_neg (by decide), if_pos trivial]
  · simp only [e1, o1.on, MM_notPlanet o1 hq, Option.bind_some]
    rw [if_pos trivial]
theorem To_setV (u : is_To h t n S.1 nA A Rs) (i : Nat) (x : Int32) : is_To h t n (setV S i x).1 nA A Rs := u.congr (fun j k hj hk => by
  show S.1 j k = upP S.1 i _ j k
  unfold upP
  by_cases q : j = i
  · subst q
    rw [if_pos rfl, upd_ne _ _ (by omega), upd_ne _ _ (by omega)]
  · rw [if_neg q])
theorem ST_set {a : Nat} (s : is_ST h m a n S) {i : Nat} (hi : i < n) (x : Int32) : ∃ h', f_St_set a (ix i) x h = some h' ∧ is_ST h' m a n (setV S i x) ∧ fr a (a + 7) h h' ∧ h'.2 = h.2 := by
  obtain ⟨h', e, s', r, z⟩ := is_St.set s hi x
  refine ⟨h', e, s'.congr (fun j hj => ?_), r, z⟩
  show upd (ang S) i x j = upP S.1 i _ j 4 ∧ upd (bef S) i x j = upP S.1 i _ j 5 ∧ lps S j = upP S.1 i _ j 6
  unfold upP
  by_cases q : j = i
  · subst q
    rw [if_pos rfl, upd_self, upd_self, upd_ne _ _ (by omega), upd_self, upd_self, upd_ne _ _ (by omega), upd_ne _ _ (by omega)]
    exact ⟨rfl, rfl, rfl⟩
  · rw [if_neg q, upd_ne _ _ q, upd_ne _ _ q]
    exact ⟨rfl, rfl, rfl⟩
theorem Md_set (o : is_MM h m t tn tp th ea n S nA A Rs) {i k : Nat} (hi : i < n) (hk : k < 360) : ∃ h', f_Md_set m (ix i) (ix k) h = some (S.1 i 4, h') ∧ is_MM h' m t tn tp 0 ea n (setV S i (ix k)) nA A Rs ∧ fr m (m + 30) h h' ∧ h'.2 = h.2 := by
  have ps := o.ps
  obtain ⟨h1, e1, o1, r1, z1⟩ := o.th0 0
  obtain ⟨h2, e2, s2, r2, z2⟩ := ST_set o1.sT hi (ix k)
  have pa : gaI h1 (m + 16 + 1) (ix i) = some (S.1 i 4) := o1.st.ang hi
  refine ⟨h2, ?_, o1.setS s2 (To_setV (o1.to.keep r2 (by omega)) i (ix k)) r2, r1.trans (r2.mono (by omega) (by omega)), by omega⟩
  unfold f_Md_set
  simp only [e1, o1.on, MM_isPlanet o1 hi, show (359 : Int32) = ix 359 from rfl, isIn_yes' (show k < 359 + 1 by omega) (by omega), o1.r13, o1.st.r1, pa, o1.st.on, e2, Option.bind_some]
  rw [if_neg (by decide), if_neg (by decide)]
theorem Md_setX1 (o : is_MM h m t tn tp th ea n S nA A Rs) {x y : Int32} (hx : ¬ inN n x) : MX (f_Md_set m x y h) h m t tn tp 1 ea n S nA A Rs := by
  obtain ⟨h1, e1, o1, r1, z1⟩ := o.th0 0
  refine MX_of (x := 1) o1 r1 z1 ?_
  unfold f_Md_set
  simp only [e1, o1.on, MM_notPlanet o1 hx, Option.bind_some]
  rw [if_pos trivial]
theorem Md_setX2 (o : is_MM h m t tn tp th ea n S nA A Rs) {i : Nat} {y : Int32} (hi : i < n) (hy : ¬ inN 360 y) : MX (f_Md_set m (ix i) y h) h m t tn tp 2 ea n S nA A Rs := by
  obtain ⟨h1, e1, o1, r1, z1⟩ := o.th0 0
  refine MX_of (x := 2) o1 r1 z1 ?_
  have hy' : ¬ inN (359 + 1) y := hy
  unfold f_Md_set
  simp only [e1, o1.on, MM_isPlanet o1 hi, show (359 : Int32) = ix 359 from rfl, isIn_no' hy' (by omega), Option.bind_some]
  rw [if_neg (by decide), if_pos trivial]
theorem Md_gap (o : is_MM h m t tn tp th ea n S nA A Rs) (ok : okY n S.1) {i j : Nat} (hi : i < n) (hj : j < n) : ∃ h', f_Md_gap m (ix i) (ix j) h = some (sht (S.1 i 4 - S.1 j 4), h') ∧ is_MM h' m t tn tp 0 ea n S nA A Rs ∧ fr m (m + 30) h h' ∧ h'.2 = h.2 := by
  obtain ⟨h1, e1, o1, r1, z1⟩ := o.th0 0
  have pi : gaI h1 (m + 16 + 1) (ix i) = some (S.1 i 4) := o1.st.ang hi
  have pj : gaI h1 (m + 16 + 1) (ix j) = some (S.1 j 4) := o1.st.ang hj
  refine ⟨h1, ?_, o1, r1, z1⟩
  unfold f_Md_gap jn; dsimp only
  simp only [e1, o1.on, MM_isPlanet o1 hi, MM_isPlanet o1 hj, o1.r13, o1.st.r1, pi, pj, gap0_of (ok i hi).2.2.1 (ok j hj).2.2.1, Option.bind_some]
  rw [if_neg (by decide), if_neg (by decide)]
theorem Md_gapX (o : is_MM h m t tn tp th ea n S nA A Rs) {x y : Int32} (hx : ¬ (inN n x ∧ inN n y)) : MX (f_Md_gap m x y h) h m t tn tp 1 ea n S nA A Rs := by
  obtain ⟨h1, e1, o1, r1, z1⟩ := o.th0 0
  refine MX_of (x := 1) o1 r1 z1 ?_
  unfold f_Md_gap jn; dsimp only
  by_cases hq : inN n x
  · obtain ⟨i, hi, rfl⟩ := hq
    have hy : ¬ inN n y := fun q => hx ⟨⟨i, hi, rfl⟩, q⟩
    simp only [e1, o1.on, MM_isPlanet o1 hi, MM_notPlanet o1 hy, Option.bind_some]
    rw [if_neg (by decide), if_pos trivial]
  · simp only [e1, o1.on, MM_notPlanet o1 hq, Option.bind_some]
    rw [if_pos trivial]
theorem Md_meets (o : is_MM h m t tn tp th ea n S nA A Rs) (ok : okY n S.1) {i j : Nat} (hi : i < n) (hj : j < n) (z : Int32) : ∃ h', f_Md_meets m (ix i) (ix j) z h = some (meetV (S.1 i) (S.1 j) (if z = 0 then 0 else 180), h') ∧ is_MM h' m t tn tp 0 ea n S nA A Rs ∧ fr m (m + 30) h h' ∧ h'.2 = h.2 := by
  obtain ⟨h1, e1, o1, r1, z1⟩ := o.th0 0
  have s1 : is_St h1 m (m + 16) n (fun i => S.1 i 4) (fun i => S.1 i 5) (lps S) S.2.2.2.2 S.2.2.1 S.2.2.2.1 S.2.1 := o1.st
  refine ⟨h1, ?_, o1, r1, z1⟩
  unfold f_Md_meets jn; dsimp only
  simp only [e1, o1.on, MM_isPlanet o1 hi, MM_isPlanet o1 hj, o1.r13, s1.on, s1.meets ok hi hj (Or.inl rfl), s1.meets ok hi hj (Or.inr rfl), Option.bind_some]
  rw [if_neg (by decide), if_neg (by decide)]
  by_cases hz : z = 0
  · rw [if_pos hz, if_pos hz]
  · rw [if_neg hz, if_neg hz]
theorem Md_meetsX (o : is_MM h m t tn tp th ea n S nA A Rs) {x y z : Int32} (hx : ¬ (inN n x ∧ inN n y)) : MX (f_Md_meets m x y z h) h m t tn tp 1 ea n S nA A Rs := by
  obtain ⟨h1, e1, o1, r1, z1⟩ := o.th0 0
  obtain ⟨h2, e2, o2, r2, z2⟩ := o1.no 1
  refine ⟨h2, ?_, o2, r1.trans r2, by omega⟩
  unfold f_Md_meets jn; dsimp only
  by_cases hq : inN n x
  · obtain ⟨i, hi, rfl⟩ := hq
    have hy : ¬ inN n y := fun q => hx ⟨⟨i, hi, rfl⟩, q⟩
    simp only [e1, o1.on, MM_isPlanet o1 hi, MM_notPlanet o1 hy, e2, Option.bind_some]
    rw [if_neg (by decide), if_pos trivial, if_pos trivial]
  · simp only [e1, o1.on, MM_notPlanet o1 hq, e2, Option.bind_some]
    rw [if_pos trivial, if_pos trivial]
theorem Md_letter (o : is_MM h m t tn tp th ea n S nA A Rs) {i j : Nat} (hi : i < nA) (hj : j < (A i).length) : ∃ h', f_Md_letter m (ix i) (ix j) h = some ((A i).getD j 0, h') ∧ is_MM h' m t tn tp 0 ea n S nA A Rs ∧ fr m (m + 30) h h' ∧ h'.2 = h.2 := by
  obtain ⟨h1, e1, o1, r1, z1⟩ := o.th0 0
  have h12 := o.to.al12 hi
  refine ⟨h1, ?_, o1, r1, z1⟩
  unfold f_Md_letter jn; dsimp only
  simp only [e1, o1.on, MM_isAlphabet o1 hi, o1.r11, o1.to.r3, o1.to.r4, o1.to.lets hi, isIn_yes hj (show (A i).length < 2147483648 by omega), ix12, ix_add, o1.to.ltr hi hj, Option.bind_some]
  rw [if_neg (by decide), if_neg (by decide)]
theorem Md_letterX1 (o : is_MM h m t tn tp th ea n S nA A Rs) {x y : Int32} (hx : ¬ inN nA x) : MX (f_Md_letter m x y h) h m t tn tp 1 ea n S nA A Rs := by
  obtain ⟨h1, e1, o1, r1, z1⟩ := o.th0 0
  refine MX_of (x := 1) o1 r1 z1 ?_
  unfold f_Md_letter jn; dsimp only
  simp only [e1, o1.on, MM_notAlphabet o1 hx, Option.bind_some]
  rw [if_pos trivial]
theorem Md_letterX2 (o : is_MM h m t tn tp th ea n S nA A Rs) {i : Nat} {y : Int32} (hi : i < nA) (hy : ¬ inN (A i).length y) : MX (f_Md_letter m (ix i) y h) h m t tn tp 1 ea n S nA A Rs := by
  obtain ⟨h1, e1, o1, r1, z1⟩ := o.th0 0
  have h12 := o.to.al12 hi
  refine MX_of (x := 1) o1 r1 z1 ?_
  unfold f_Md_letter jn; dsimp only
  simp only [e1, o1.on, MM_isAlphabet o1 hi, o1.r11, o1.to.r3, o1.to.lets hi, isIn_no hy (show (A i).length < 2147483648 by omega), Option.bind_some]
  rw [if_neg (by decide), if_pos trivial]
theorem Md_wrote (o : is_MM h m t tn tp th ea n S nA A Rs) {i : Nat} (hi : i < Rs.length) : ∃ h', f_Md_wrote m (ix i) h = some (S.2.2.2.2 i, h') ∧ is_MM h' m t tn tp 0 ea n S nA A Rs ∧ fr m (m + 30) h h' ∧ h'.2 = h.2 := by
  obtain ⟨h1, e1, o1, r1, z1⟩ := o.th0 0
  have h12 := o.to.nR12
  refine ⟨h1, ?_, o1, r1, z1⟩
  unfold f_Md_wrote
  simp only [e1, o1.r11, o1.to.r5, isIn_yes hi (show Rs.length < 2147483648 by omega), o1.r13, o1.st.r4, o1.st.wro (show i < 12 by omega), Option.bind_some]
  rw [if_neg (by decide)]
theorem Md_wroteX (o : is_MM h m t tn tp th ea n S nA A Rs) {x : Int32} (hx : ¬ inN Rs.length x) : MX (f_Md_wrote m x h) h m t tn tp 1 ea n S nA A Rs := by
  obtain ⟨h1, e1, o1, r1, z1⟩ := o.th0 0
  have h12 := o.to.nR12
  refine MX_of (x := 1) o1 r1 z1 ?_
  unfold f_Md_wrote
  simp only [e1, o1.r11, o1.to.r5, isIn_no hx (show Rs.length < 2147483648 by omega), Option.bind_some]
  rw [if_pos trivial]
theorem Md_byteAt (o : is_MM h m t tn tp th ea n S nA A Rs) {i : Nat} (hi : i < S.2.2.1) : ∃ h', f_Md_byteAt m (ix i) h = some (S.2.2.2.1 i, h') ∧ is_MM h' m t tn tp 0 ea n S nA A Rs ∧ fr m (m + 30) h h' ∧ h'.2 = h.2 := by
  obtain ⟨h1, e1, o1, r1, z1⟩ := o.th0 0
  have h12 := o.st.pn6
  refine ⟨h1, ?_, o1, r1, z1⟩
  unfold f_Md_byteAt
  simp only [e1, o1.r13, o1.st.r6, isIn_yes hi (show S.2.2.1 < 2147483648 by omega), o1.st.r5, o1.st.pap hi, Option.bind_some]
  rw [if_neg (by decide)]
theorem Md_byteAtX (o : is_MM h m t tn tp th ea n S nA A Rs) {x : Int32} (hx : ¬ inN S.2.2.1 x) : MX (f_Md_byteAt m x h) h m t tn tp 1 ea n S nA A Rs := by
  obtain ⟨h1, e1, o1, r1, z1⟩ := o.th0 0
  have h12 := o.st.pn6
  refine MX_of (x := 1) o1 r1 z1 ?_
  unfold f_Md_byteAt
  simp only [e1, o1.r13, o1.st.r6, isIn_no hx (show S.2.2.1 < 2147483648 by omega), Option.bind_some]
  rw [if_pos trivial]
theorem Md_clear (o : is_MM h m t tn tp th ea n S nA A Rs) : ∃ h', f_Md_clear m h = some (ix S.2.2.1, h') ∧ is_MM h' m t tn tp 0 ea n (clrV S) nA A Rs ∧ fr m (m + 30) h h' ∧ h'.2 = h.2 := by
  have ps := o.ps
  obtain ⟨h1, e1, o1, r1, z1⟩ := o.th0 0
  obtain ⟨h2, e2, s2, r2, z2⟩ := o1.st.putN (k := 0) (by omega)
  have s2' : is_ST h2 m (m + 16) n (clrV S) := s2
  refine ⟨h2, ?_, o1.setS s2' (o1.to.keep r2 (by omega)) r2, r1.trans (r2.mono (by omega) (by omega)), by omega⟩
  have e2' : pF h1 (m + 16) 10 6 (.int 0) = some h2 := e2
  unfold f_Md_clear
  simp only [e1, o1.r13, o1.st.r6, e2', Option.bind_some]
theorem Md_find (o : is_MM h m t tn tp th ea n S nA A Rs) {fl : Nat} (hfl : 5000 ≤ fl) : ∃ h', f_Md_find fl m h = some (fnd S.2.2.2.1 S.2.2.1 tp tn 0, h') ∧ is_MM h' m t tn tp 0 ea n S nA A Rs ∧ fr m (m + 30) h h' ∧ h'.2 = h.2 := by
  obtain ⟨h1, e1, o1, r1, z1⟩ := o.th0 0
  obtain ⟨tk, dp, rd, q⟩ := o1.mo
  refine ⟨h1, ?_, o1, r1, z1⟩
  unfold f_Md_find
  have hf : f_St_find fl (m + 16) 0 h1 = some (fnd S.2.2.2.1 S.2.2.1 tp tn 0) := o1.st.find q hfl (show 0 ≤ 3000 by omega)
  simp only [e1, o1.r13, o1.st.on, hf, Option.bind_some]
end
