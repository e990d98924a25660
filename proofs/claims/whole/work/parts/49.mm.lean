/-! The object of the Model. -/
def is_MM (h : hp_M) (m t tn : Nat) (tp : Nat → Int32) (th ea : Int32) (n : Nat) (S : skyV) (nA : Nat) (A : Nat → List Int32) (Rs : List ruV) : Prop :=
  m + 30 ≤ h.2 ∧ (t = m + 7 ∨ m + 30 ≤ t) ∧ (∃ (tk dp : Int32) (rd : Nat), is_Mo h m th tn tp ea tk dp t rd) ∧ is_ST h m (m + 16) n S ∧ (∃ n' S', is_ST h m (m + 23) n' S') ∧ is_To h t n S.1 nA A Rs ∧ ∀ j, 2 ≤ j → j ≤ 6 → ∃ g, h.1 (m + j) = some (aI 401 g)
section
variable {h h' : hp_M} {m t tn : Nat} {tp : Nat → Int32} {th ea : Int32} {n : Nat} {S : skyV} {nA : Nat} {A : Nat → List Int32} {Rs : List ruV} {lo hi : Nat}
theorem is_ST.keep {a : Nat} (s : is_ST h m a n S) (r : fr lo hi h h') (ho : a + 7 ≤ lo ∨ hi ≤ a) : is_ST h' m a n S := is_St.keep s r ho
theorem is_MM.keep (o : is_MM h m t tn tp th ea n S nA A Rs) (r : fr lo hi h h') (h1 : m + 30 ≤ lo ∨ hi ≤ m) (h2 : t + 9 ≤ lo ∨ hi ≤ t) : is_MM h' m t tn tp th ea n S nA A Rs := by
  obtain ⟨o1, o2, ⟨tk, dp, rd, o3⟩, o4, ⟨n', S', o5⟩, o6, o7⟩ := o
  refine ⟨Nat.le_trans o1 r.1, o2, ⟨tk, dp, rd, o3.keep r (by omega)⟩, o4.keep r (by omega), ⟨n', S', o5.keep r (by omega)⟩, o6.keep r h2, fun j a b => ?_⟩
  obtain ⟨g, hg⟩ := o7 j a b
  exact ⟨g, r.cell hg (by omega) (by omega)⟩
theorem is_MM.hN (o : is_MM h m t tn tp th ea n S nA A Rs) (e : va_E) : is_MM (Jvm.Pilot.CShadowSpellLaw_law_r9225_03f26d.hN h e) m t tn tp th ea n S nA A Rs := o.keep (hN_fr h e) (Or.inr (Nat.zero_le _)) (Or.inr (Nat.zero_le _))
theorem is_MM.mo (o : is_MM h m t tn tp th ea n S nA A Rs) : ∃ (tk dp : Int32) (rd : Nat), is_Mo h m th tn tp ea tk dp t rd := o.2.2.1
theorem is_MM.on {β : Type} (o : is_MM h m t tn tp th ea n S nA A Rs) (g : Option β) : onO h m 12 g = g := by obtain ⟨_, _, _, q⟩ := o.mo; exact q.on g
theorem is_MM.r2 (o : is_MM h m t tn tp th ea n S nA A Rs) : gI h m 12 2 = some (ix tn) := by obtain ⟨_, _, _, q⟩ := o.mo; exact q.r2
theorem is_MM.r3 (o : is_MM h m t tn tp th ea n S nA A Rs) : gI h m 12 3 = some ea := by obtain ⟨_, _, _, q⟩ := o.mo; exact q.r3
theorem is_MM.r0 (o : is_MM h m t tn tp th ea n S nA A Rs) : gI h m 12 0 = some th := by obtain ⟨_, _, _, q⟩ := o.mo; exact q.r0
theorem is_MM.r11 (o : is_MM h m t tn tp th ea n S nA A Rs) : gR h m 12 11 = some t := by obtain ⟨_, _, _, q⟩ := o.mo; exact q.r11
theorem is_MM.r13 (o : is_MM h m t tn tp th ea n S nA A Rs) : gR h m 12 13 = some (m + 16) := by obtain ⟨_, _, _, q⟩ := o.mo; exact q.r13
theorem is_MM.r14 (o : is_MM h m t tn tp th ea n S nA A Rs) : gR h m 12 14 = some (m + 23) := by obtain ⟨_, _, _, q⟩ := o.mo; exact q.r14
theorem is_MM.st (o : is_MM h m t tn tp th ea n S nA A Rs) : is_St h m (m + 16) n (ang S) (bef S) (lps S) S.2.2.2.2 S.2.2.1 S.2.2.2.1 S.2.1 := o.2.2.2.1
theorem is_MM.sT (o : is_MM h m t tn tp th ea n S nA A Rs) : is_ST h m (m + 16) n S := o.2.2.2.1
theorem is_MM.ah (o : is_MM h m t tn tp th ea n S nA A Rs) : ∃ n' S', is_ST h m (m + 23) n' S' := o.2.2.2.2.1
theorem is_MM.to (o : is_MM h m t tn tp th ea n S nA A Rs) : is_To h t n S.1 nA A Rs := o.2.2.2.2.2.1
theorem is_MM.ps (o : is_MM h m t tn tp th ea n S nA A Rs) : t = m + 7 ∨ m + 30 ≤ t := o.2.1
theorem is_MM.tn2 (o : is_MM h m t tn tp th ea n S nA A Rs) : tn ≤ 2000 := by obtain ⟨_, _, _, q⟩ := o.mo; exact q.tn2
/-- a field of the object written -/
theorem is_MM.put {k : Nat} {v : Value} {th' ea' : Int32} {tn' : Nat} (o : is_MM h m t tn tp th ea n S nA A Rs) (ht : tn' ≤ tn) (hc : (k = 0 ∧ v = .int th' ∧ tn' = tn ∧ ea' = ea) ∨ (k = 2 ∧ v = .int (ix tn') ∧ th' = th ∧ ea' = ea) ∨ (k = 3 ∧ v = .int ea' ∧ th' = th ∧ tn' = tn)) : ∃ h', pF h m 12 k v = some h' ∧ is_MM h' m t tn' tp th' ea' n S nA A Rs ∧ fr m (m + 30) h h' ∧ h'.2 = h.2 := by
  obtain ⟨o1, o2, ⟨tk, dp, rd, o3⟩, o4, ⟨n', S', o5⟩, o6, o7⟩ := o
  have key : ∃ h', pF h m 12 k v = some h' ∧ is_Mo h' m th' tn' tp ea' tk dp t rd ∧ fr m (m + 1) h h' ∧ h'.2 = h.2 := by
    rcases hc with ⟨rfl, rfl, rfl, rfl⟩ | ⟨rfl, rfl, rfl, rfl⟩ | ⟨rfl, rfl, rfl, rfl⟩
    · exact o3.put (by omega) ht rfl
    · exact o3.put (by omega) ht rfl
    · exact o3.put (by omega) ht rfl
  obtain ⟨h', e, q, r, z⟩ := key
  refine ⟨h', e, ⟨by omega, o2, ⟨tk, dp, rd, q⟩, o4.keep r (by omega), ⟨n', S', o5.keep r (by omega)⟩, o6.keep r (by omega), fun j a b => ?_⟩, r.mono (by omega) (by omega), z⟩
  obtain ⟨g, hg⟩ := o7 j a b
  exact ⟨g, r.cell hg (by omega) (by omega)⟩
theorem is_MM.th0 (o : is_MM h m t tn tp th ea n S nA A Rs) (x : Int32) : ∃ h', pF h m 12 0 (.int x) = some h' ∧ is_MM h' m t tn tp x ea n S nA A Rs ∧ fr m (m + 30) h h' ∧ h'.2 = h.2 := o.put (Nat.le_refl _) (Or.inl ⟨rfl, rfl, rfl, rfl⟩)
theorem is_MM.no (o : is_MM h m t tn tp th ea n S nA A Rs) (x : Int32) : ∃ h', f_Md_no m x h = some (0, h') ∧ is_MM h' m t tn tp x ea n S nA A Rs ∧ fr m (m + 30) h h' ∧ h'.2 = h.2 := by
  obtain ⟨h', e, q⟩ := o.th0 x
  refine ⟨h', ?_, q⟩
  unfold f_Md_no
  rw [e]; rfl
theorem is_MM.setS {S' : skyV} (o : is_MM h m t tn tp th ea n S nA A Rs) (s : is_ST h' m (m + 16) n S') (u : is_To h' t n S'.1 nA A Rs) (r : fr (m + 16) (m + 23) h h') : is_MM h' m t tn tp th ea n S' nA A Rs := by
  obtain ⟨o1, o2, ⟨tk, dp, rd, o3⟩, o4, ⟨n', S'', o5⟩, o6, o7⟩ := o
  refine ⟨Nat.le_trans o1 r.1, o2, ⟨tk, dp, rd, o3.keep r (by omega)⟩, s, ⟨n', S'', o5.keep r (by omega)⟩, u, fun j a b => ?_⟩
  obtain ⟨g, hg⟩ := o7 j a b
  exact ⟨g, r.cell hg (by omega) (by omega)⟩
theorem is_MM.setA {n' : Nat} {S' : skyV} (o : is_MM h m t tn tp th ea n S nA A Rs) (s : is_ST h' m (m + 23) n' S') (r : fr (m + 23) (m + 30) h h') : is_MM h' m t tn tp th ea n S nA A Rs := by
  have o2 := o.ps
  obtain ⟨o1, _, ⟨tk, dp, rd, o3⟩, o4, _, o6, o7⟩ := o
  refine ⟨Nat.le_trans o1 r.1, o2, ⟨tk, dp, rd, o3.keep r (by omega)⟩, o4.keep r (by omega), ⟨n', S', s⟩, o6.keep r (by omega), fun j a b => ?_⟩
  obtain ⟨g, hg⟩ := o7 j a b
  exact ⟨g, r.cell hg (by omega) (by omega)⟩
theorem hN_fr2 (h : hp_M) (e : va_E) (lo hi : Nat) : fr lo hi h (Jvm.Pilot.CShadowSpellLaw_law_r9225_03f26d.hN h e) := ⟨Nat.le_succ _, fun q _ hl => hN_ne h e (by omega)⟩
theorem isIn_gen (x lo hi : Int32) (h : hp_M) : f_Md_isIn x lo hi h = some (if x < lo then 0 else if hi < x then 0 else 1) := by
  unfold f_Md_isIn jn
  (repeat' split) <;> rfl
theorem isIn_yes {i n : Nat} (hi : i < n) (hn : n < 2147483648) (h : hp_M) : f_Md_isIn (ix i) 0 (ix n - 1) h = some 1 := by
  rw [isIn_gen, if_neg (ix_nn (by omega)), ixm1 (by omega), if_neg (ix_nlt (by omega) (by omega))]
theorem isIn_no {x : Int32} {n : Nat} (hx : ¬ inN n x) (hn : n < 2147483648) (h : hp_M) : f_Md_isIn x 0 (ix n - 1) h = some 0 := by
  rw [isIn_gen]
  rcases ix_cases x n hn with q | ⟨i, hi, rfl⟩ | ⟨i, hi, hb, rfl⟩
  · rw [if_pos q]
  · exact absurd ⟨i, hi, rfl⟩ hx
  · rw [if_neg (ix_nn hb)]
    by_cases h0 : n = 0
    · subst h0
      rw [if_pos (by rw [i32_lt, ix_toInt hb, show (ix 0 - 1).toInt = -1 from by decide]; omega)]
    · rw [ixm1 (by omega), if_pos (ix_lt1 (by omega) hb)]
theorem isIn_yes' {i n : Nat} (hi : i < n + 1) (hn : n + 1 < 2147483648) (h : hp_M) : f_Md_isIn (ix i) 0 (ix n) h = some 1 := by
  rw [isIn_gen, if_neg (ix_nn (by omega)), if_neg (ix_nlt (by omega) (by omega))]
theorem isIn_no' {x : Int32} {n : Nat} (hx : ¬ inN (n + 1) x) (hn : n + 1 < 2147483648) (h : hp_M) : f_Md_isIn x 0 (ix n) h = some 0 := by
  have := isIn_no hx hn h
  rw [ixm1 (by omega)] at this
  exact this
theorem isIn_yes1 {D k : Nat} (h1 : 1 ≤ D) (h2 : D ≤ k) (hk : k < 2147483648) (h : hp_M) : f_Md_isIn (ix D) 1 (ix k) h = some 1 := by
  rw [isIn_gen, show (1 : Int32) = ix 1 from rfl, if_neg (ix_nlt h1 (by omega)), if_neg (ix_nlt h2 hk)]
theorem isIn_no1 {x : Int32} {k : Nat} (hx : ¬ in1 k x) (hk : k < 2147483647) (h : hp_M) : f_Md_isIn x 1 (ix k) h = some 0 := by
  rw [isIn_gen]
  rcases in1_not hx hk with q | ⟨q1, q2⟩
  · rw [if_pos q]
  · rw [if_neg q1, if_pos (by rw [i32_le] at q2; rw [i32_lt]; omega)]
theorem MM_isPlanet (o : is_MM h m t tn tp th ea n S nA A Rs) {i : Nat} (hi : i < n) : f_Md_isPlanet m (ix i) h = some 1 := by
  have := o.to.n8
  unfold f_Md_isPlanet
  simp only [o.r11, o.to.r0, isIn_yes hi (show n < 2147483648 by omega), Option.bind_some]
theorem MM_notPlanet (o : is_MM h m t tn tp th ea n S nA A Rs) {x : Int32} (hx : ¬ inN n x) : f_Md_isPlanet m x h = some 0 := by
  have := o.to.n8
  unfold f_Md_isPlanet
  simp only [o.r11, o.to.r0, isIn_no hx (show n < 2147483648 by omega), Option.bind_some]
theorem MM_isAlphabet (o : is_MM h m t tn tp th ea n S nA A Rs) {i : Nat} (hi : i < nA) : f_Md_isAlphabet m (ix i) h = some 1 := by
  have := o.to.nA6
  unfold f_Md_isAlphabet
  simp only [o.r11, o.to.r2, isIn_yes hi (show nA < 2147483648 by omega), Option.bind_some]
theorem MM_notAlphabet (o : is_MM h m t tn tp th ea n S nA A Rs) {x : Int32} (hx : ¬ inN nA x) : f_Md_isAlphabet m x h = some 0 := by
  have := o.to.nA6
  unfold f_Md_isAlphabet
  simp only [o.r11, o.to.r2, isIn_no hx (show nA < 2147483648 by omega), Option.bind_some]
/-- what a call of the Model that throws answers -/
def MX (f : Option (Int32 × hp_M)) (h : hp_M) (m t tn : Nat) (tp : Nat → Int32) (x ea : Int32) (n : Nat) (S : skyV) (nA : Nat) (A : Nat → List Int32) (Rs : List ruV) : Prop := ∃ h', f = some (0, h') ∧ is_MM h' m t tn tp x ea n S nA A Rs ∧ fr m (m + 30) h h' ∧ h'.2 = h.2
theorem MX_of {f : Option (Int32 × hp_M)} {h1 : hp_M} {x y : Int32} (o1 : is_MM h1 m t tn tp y ea n S nA A Rs) (r1 : fr m (m + 30) h h1) (z1 : h1.2 = h.2) (e : f = (onO h1 m 12 (f_Md_no m x h1)).bind fun r => some (r.1, r.2)) : MX f h m t tn tp x ea n S nA A Rs := by
  obtain ⟨h2, e2, o2, r2, z2⟩ := o1.no x
  refine ⟨h2, ?_, o2, r1.trans r2, by omega⟩
  rw [e, o1.on, e2]; rfl
theorem Md_trim (o : is_MM h m t tn tp th ea n S nA A Rs) {k : Nat} (hk : k ≤ tn) : ∃ h', f_Md_trim m (ix k) h = some (ix k, h') ∧ is_MM h' m t k tp 0 ea n S nA A Rs ∧ fr m (m + 30) h h' ∧ h'.2 = h.2 := by
  have t2 := o.tn2
  obtain ⟨h1, e1, o1, r1, z1⟩ := o.th0 0
  obtain ⟨h2, e2, o2, r2, z2⟩ := o1.put (k := 2) (v := .int (ix k)) (th' := 0) (ea' := ea) hk (Or.inr (Or.inl ⟨rfl, rfl, rfl, rfl⟩))
  refine ⟨h2, ?_, o2, r1.trans r2, by omega⟩
  unfold f_Md_trim
  simp only [e1, o1.r2, isIn_yes' (show k < tn + 1 by omega) (show tn + 1 < 2147483648 by omega), e2, Option.bind_some]
  rw [if_neg (by decide)]
theorem Md_trimX (o : is_MM h m t tn tp th ea n S nA A Rs) {x : Int32} (hx : ¬ inN (tn + 1) x) : MX (f_Md_trim m x h) h m t tn tp 1 ea n S nA A Rs := by
  have t2 := o.tn2
  obtain ⟨h1, e1, o1, r1, z1⟩ := o.th0 0
  refine MX_of (x := 1) o1 r1 z1 ?_
  unfold f_Md_trim
  simp only [e1, o1.r2, isIn_no' hx (show tn + 1 < 2147483648 by omega), Option.bind_some]
  rw [if_pos trivial]
theorem Md_errorAt (o : is_MM h m t tn tp th ea n S nA A Rs) : ∃ h', f_Md_errorAt m h = some (ea, h') ∧ is_MM h' m t tn tp 0 ea n S nA A Rs ∧ fr m (m + 30) h h' ∧ h'.2 = h.2 := by
  obtain ⟨h1, e1, o1, r1, z1⟩ := o.th0 0
  refine ⟨h1, ?_, o1, r1, z1⟩
  unfold f_Md_errorAt
  simp only [e1, o1.r3, Option.bind_some]
theorem paI_hN {N i : Nat} {g : Nat → Int32} (hi : i < N) (hN : N < 2147483648) (x : Int32) : paI (Jvm.Pilot.CShadowSpellLaw_law_r9225_03f26d.hN h (aI N g)) h.2 (ix i) x = some (Jvm.Pilot.CShadowSpellLaw_law_r9225_03f26d.hN h (aI N (upd g i x))) := by
  rw [paI_of (hN_self h _) hi hN]
  show some (wr (wr h h.2 (aI N g)) h.2 _ |>.1, h.2 + 1) = _
  rw [wr_wr]; rfl
theorem Md_counted_b (o : is_MM h m t tn tp th ea n S nA A Rs) (ok : okY n S.1) (fl : Nat) (x1 : Int32) (K : Int32 → Option (Int32 × hp_M)) : ∀ r fu i, i + r = n → r < fu → f_Md_counted_b4 fl m x1 h K fu (sumV (fun i => rv (S.1 i) S.2.1) i) (ix i) = K (sumV (fun i => rv (S.1 i) S.2.1) n) := by
  have h8 := o.to.n8
  obtain ⟨tk, dp, rd, q⟩ := o.mo
  intro r
  induction r with
  | zero =>
    intro fu i hi hf
    obtain ⟨fu, rfl⟩ : ∃ q, fu = q + 1 := ⟨fu - 1, by omega⟩
    have : i = n := by omega
    subst this
    unfold f_Md_counted_b4
    simp only [o.r11, o.to.r0, Option.bind_some]
    rw [if_pos (ix_le1 (Nat.le_refl _) (by omega))]
  | succ r ih =>
    intro fu i hi hf
    obtain ⟨fu, rfl⟩ : ∃ q, fu = q + 1 := ⟨fu - 1, by omega⟩
    have ih' := ih fu (i + 1) (by omega) (by omega)
    unfold f_Md_counted_b4 jn; dsimp only
    simp only [o.r11, o.to.r0, o.r13, o.st.on, o.st.isRetro q o.to ok (show i < n by omega), Option.bind_some, ixp1]
    rw [if_neg (ix_nle (by omega) (by omega))]
    simp only [sumV] at ih'
    rcases rv_01 (S.1 i) S.2.1 with q | q
    · rw [if_pos q]; rw [q] at ih'; exact ih'
    · rw [if_neg (by rw [q]; decide)]; rw [q] at ih'; exact ih'
theorem Md_counted (o : is_MM h m t tn tp th ea n S nA A Rs) (ok : okY n S.1) {fl : Nat} (hfl : 5000 ≤ fl) {k : Nat} (hk : k < 8) : ∃ e, f_Md_counted fl m (ix k) h = some (cntV n S tn nA Rs.length k, Jvm.Pilot.CShadowSpellLaw_law_r9225_03f26d.hN h e) := by
  have h8 := o.to.n8
  have oN := fun e => o.hN e
  have mo := fun e => (oN e).mo
  have hp : ∀ e, f_St_pairs fl (m + 16) (Jvm.Pilot.CShadowSpellLaw_law_r9225_03f26d.hN h e) = some (prsV S.1 n n 0 0) := fun e => by
    obtain ⟨tk, dp, rd, q⟩ := mo e
    exact is_St.pairs (oN e).st q (oN e).to ok hfl
  have w : ∀ g i x, i < 8 → paI (Jvm.Pilot.CShadowSpellLaw_law_r9225_03f26d.hN h (aI 8 g)) h.2 (ix i) x = some (Jvm.Pilot.CShadowSpellLaw_law_r9225_03f26d.hN h (aI 8 (upd g i x))) := fun g i x hi => paI_hN hi (by omega) x
  have fin : ∀ g, gaI (Jvm.Pilot.CShadowSpellLaw_law_r9225_03f26d.hN h (aI 8 g)) h.2 (ix k) = some (g k) := fun g => gaI_of (hN_self h _) hk (by omega)
  refine ⟨aI 8 (upd (upd (upd (upd (upd (upd (upd (upd (fun _ => 0) 0 S.2.1) 1 (ix n)) 2 (ix nA)) 3 (ix Rs.length)) 4 (ix tn)) 5 (ix S.2.2.1)) 6 (sumV (fun i => rv (S.1 i) S.2.1) n)) 7 (prsV S.1 n n 0 0)), ?_⟩
  unfold f_Md_counted
  rw [show (0 : Int32) = ix 0 from rfl, show (1 : Int32) = ix 1 from rfl, show (2 : Int32) = ix 2 from rfl, show (3 : Int32) = ix 3 from rfl, show (4 : Int32) = ix 4 from rfl, show (5 : Int32) = ix 5 from rfl, show (6 : Int32) = ix 6 from rfl, show (7 : Int32) = ix 7 from rfl]
  have lp := Md_counted_b o ok fl (ix k)
  refine (lp _ n fl 0 (by omega) (by omega)).trans ?_
  simp only [(oN _).r13, (oN _).r11, (oN _).r2, (oN _).st.r0, (oN _).st.r6, (oN _).st.on, (oN _).to.r0, (oN _).to.r2, (oN _).to.r5, w _ 0 _ (by omega), w _ 1 _ (by omega), w _ 2 _ (by omega), w _ 3 _ (by omega), w _ 4 _ (by omega), w _ 5 _ (by omega), w _ 6 _ (by omega), w _ 7 _ (by omega), hp, fin, Option.bind_some]
  have : k = 0 ∨ k = 1 ∨ k = 2 ∨ k = 3 ∨ k = 4 ∨ k = 5 ∨ k = 6 ∨ k = 7 := by omega
  rcases this with r | r | r | r | r | r | r | r <;> subst r <;> rfl
theorem Md_count (o : is_MM h m t tn tp th ea n S nA A Rs) (ok : okY n S.1) {fl : Nat} (hfl : 5000 ≤ fl) {k : Nat} (hk : k < 8) : ∃ h', f_Md_count fl m (ix k) h = some (cntV n S tn nA Rs.length k, h') ∧ is_MM h' m t tn tp 0 ea n S nA A Rs ∧ fr m (m + 30) h h' := by
  obtain ⟨h1, e1, o1, r1, z1⟩ := o.th0 0
  obtain ⟨e, e2⟩ := Md_counted o1 ok hfl hk
  refine ⟨_, ?_, o1.hN e, r1.trans (hN_fr2 h1 e _ _)⟩
  · unfold f_Md_count
    simp only [e1, show (7 : Int32) = ix 7 from rfl, isIn_yes' (show k < 7 + 1 by omega) (by omega), o1.on, e2, Option.bind_some]
    rw [if_neg (by decide)]

end
