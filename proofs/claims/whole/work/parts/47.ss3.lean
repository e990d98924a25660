/-! The class: spells, advise, translate, mean, digest. -/
theorem froV {p t : Nat} (hp : p ≤ 600) (ht : t ≤ 2000) : imax (ix p - ix t + 1) 0 = ix (p + 1 - t) ∧ imax 0 (ix p - ix t + 1) = ix (p + 1 - t) := by
  have e1 : (1 : Int32).toInt = 1 := by decide
  have a1 : (ix p - ix t).toInt = p - t := by
    rw [i32_sub] <;> rw [ix_toInt (by omega), ix_toInt (by omega)] <;> omega
  have a2 : (ix p - ix t + 1).toInt = p - t + 1 := by
    rw [i32_add] <;> rw [a1, e1] <;> omega
  have a3 : (ix (p + 1 - t)).toInt = (p + 1 - t : Nat) := ix_toInt (by omega)
  unfold imax
  constructor
  · apply Int32.toInt_inj.mp
    rw [a3]
    split
    · next h => rw [i32_lt, i32_z, a2] at h; rw [i32_z]; omega
    · next h => rw [i32_lt, i32_z, a2] at h; rw [a2]; omega
  · apply Int32.toInt_inj.mp
    rw [a3]
    split
    · next h => rw [i32_lt, i32_z, a2] at h; rw [a2]; omega
    · next h => rw [i32_lt, i32_z, a2] at h; rw [i32_z]; omega
theorem difV {p q : Nat} (hq : q ≤ 600) (h : p ≤ q) : ix q - ix p ≤ 0 ↔ q ≤ p := by
  rw [ix_sub h, show (0 : Int32) = ix 0 from rfl, ix_le (by omega) (by omega)]
  omega
theorem okY_shf {n : Nat} {S : skyV} (ok : okY n S.1) {p k : Nat} (hp : p < n) (hk : k < 36) : okY n (shf S p k).1 := by
  have hb := (ok p hp).2.2.1
  have e1 : (S.1 p 4 + ix (10 * k)).toInt = (S.1 p 4).toInt + (10 * k : Nat) := by
    rw [i32_add] <;> rw [ix_toInt (by omega)] <;> omega
  have e2 : (rm (S.1 p 4 + ix (10 * k)) 360).toInt = ((S.1 p 4).toInt + (10 * k : Nat)) % 360 := by
    rw [rm_toInt (by rw [i32_360]; omega), i32_360, e1, Int.tmod_eq_emod_of_nonneg (by omega)]
  intro i hi
  show okp (upP S.1 p _ i)
  unfold upP
  by_cases q : i = p
  · subst q
    rw [if_pos rfl]
    obtain ⟨o1, o2, o3, o4⟩ := ok i hi
    refine ⟨o1, o2, ?_, ?_⟩
    · show 0 ≤ (rm (S.1 i 4 + ix (10 * k)) 360).toInt ∧ (rm (S.1 i 4 + ix (10 * k)) 360).toInt < 360
      rw [e2]; omega
    · show 0 ≤ (rm (S.1 i 4 + ix (10 * k)) 360).toInt ∧ (rm (S.1 i 4 + ix (10 * k)) 360).toInt < 360
      rw [e2]; omega
  · rw [if_neg q]; exact ok i hi
section
variable {h : hp_M} {a bk dr tn : Nat} {tp : Nat → Int32} {ea : Int32} {n : Nat} {S : skyV} {B : bkV} {Rs : List ruV}
theorem SS_spells_b (okb : okBB n B Rs) {fl : Nat} (hfl : 5000 ≤ fl) : ∀ (r k fu : Nat) (h : hp_M) (S1 : skyV), k + r = 401 → r < fu → okY n S1.1 → is_SS h a bk dr tn tp ea n S B → is_SK h (a + 16) n S1 → ∃ h', f_SS_spells_b45 fl a fu (ix k) h = some (splV (alV B.2.1) Rs tp tn r k S1, h') ∧ is_SS h' a bk dr tn tp ea n S B ∧ fr a (a + 106) h h' ∧ h'.2 = h.2 := by
  intro r
  induction r with
  | zero =>
    intro k fu h S1 hk hf ok o t
    obtain ⟨fu, rfl⟩ : ∃ q, fu = q + 1 := ⟨fu - 1, by omega⟩
    unfold f_SS_spells_b45
    rw [show (400 : Int32) = ix 400 from rfl, if_pos (ix_lt1 (by omega) (by omega))]
    exact ⟨h, rfl, o, fr.refl _ _ _, rfl⟩
  | succ r ih =>
    intro k fu h S1 hk hf ok o t
    obtain ⟨fu, rfl⟩ : ∃ q, fu = q + 1 := ⟨fu - 1, by omega⟩
    have bd := o.bd
    have t2 := o.tP.2.1
    have p6 := is_Sk.pn600 t
    obtain ⟨h1, e, t1, u1, f, z1⟩ := live_of okb (a := a + 16) (b := bk) (by omega) hfl (D := 1) (by omega) ok t o.bK
    have t1' : is_SK h1 (a + 16) n (dayV (alV B.2.1) Rs S1) := t1
    have o1 := o.setAhB t1' u1 (show f2 (a + 16) (a + 29) bk (bk + 34) h h1 from f)
    have r1 : fr a (a + 106) h h1 := f2.fr f (by omega) (by omega) (by omega) (by omega)
    have q6 : (dayV (alV B.2.1) Rs S1).2.2.1 ≤ 600 := is_Sk.pn600 t1'
    have e' : f_Sk_live fl (a + 16) 1 bk h = some (ix (dayV (alV B.2.1) Rs S1).2.2.1 - ix S1.2.2.1, h1) := e
    obtain ⟨h', e2, o', r', z'⟩ := ih (k + 1) fu h1 (dayV (alV B.2.1) Rs S1) (by omega) (by omega) (okY.mov ok) o1 t1'
    unfold f_SS_spells_b45 splV jn; dsimp only
    rw [show (400 : Int32) = ix 400 from rfl, if_neg (ix_nlt (by omega) (by omega))]
    simp only [o.r3, o.r0, o.r4, ah_on t, is_Sk.fpaper t, (is_Sk.paper t).on, (is_Sk.paper t).size, o.tP.on, o.tP.size, e', o1.r3, o1.r0, ah_on t1', is_Sk.fpaper t1', (is_Sk.paper t1').on, (froV p6 t2).1, (is_Sk.paper t1').placeOf o1.tP hfl (show S1.2.2.1 + 1 - tn ≤ 3000 by omega), Option.bind_some, ixp1]
    by_cases c1 : (dayV (alV B.2.1) Rs S1).2.2.1 ≤ S1.2.2.1
    · rw [if_pos ((difV q6 (day_pn _ _ _)).mpr c1), if_pos (Or.inl c1)]
      exact ⟨h', e2, o', r1.trans r', by omega⟩
    · rw [if_neg (fun q => c1 ((difV q6 (day_pn _ _ _)).mp q))]
      by_cases c2 : fnd (dayV (alV B.2.1) Rs S1).2.2.2.1 (dayV (alV B.2.1) Rs S1).2.2.1 tp tn (S1.2.2.1 + 1 - tn) < 0
      · rw [if_pos c2, if_pos (Or.inr c2)]
        exact ⟨h', e2, o', r1.trans r', by omega⟩
      · rw [if_neg c2, if_neg (fun q => q.elim c1 c2)]
        exact ⟨h1, rfl, o1, r1, z1⟩
theorem SS_spells (o : is_SS h a bk dr tn tp ea n S B) (ok : okY n S.1) (okb : okBB n B Rs) {fl : Nat} (hfl : 5000 ≤ fl) : ∃ h', f_SS_spells fl a h = some (if tn = 0 then -1 else if fnd S.2.2.2.1 S.2.2.1 tp tn 0 < 0 then splV (alV B.2.1) Rs tp tn 400 1 S else 0, h') ∧ is_SS h' a bk dr tn tp ea n S B ∧ fr a (a + 106) h h' ∧ h'.2 = h.2 := by
  have t2 := o.tP.2.1
  unfold f_SS_spells
  simp only [o.r0, o.tP.on, o.tP.size, Option.bind_some]
  by_cases hn : tn = 0
  · rw [if_pos (by rw [hn]; rfl), if_pos hn]
    exact ⟨h, rfl, o, fr.refl _ _ _, rfl⟩
  · rw [if_neg hn, show (0 : Int32) = ix 0 from rfl, if_neg (ix_ne hn (by omega) (by omega))]
    simp only [o.r2, o.sk.on, o.sk.fpaper, o.sk.paper.on, o.sk.paper.placeOf o.tP hfl (show 0 ≤ 3000 by omega), Option.bind_some]
    by_cases c : fnd S.2.2.2.1 S.2.2.1 tp tn 0 < ix 0
    · rw [if_pos c, if_pos c]
      obtain ⟨h3, e3, t3, o3, r3, z3⟩ := SS_copy o hfl
      obtain ⟨h', e', o', r', z'⟩ := SS_spells_b okb hfl 400 1 fl h3 S (by omega) (by omega) ok o3 t3
      obtain ⟨n', S', ta⟩ := o.ah
      refine ⟨h', ?_, o', r3.trans r', by omega⟩
      simp only [o.r3, ah_on ta, e3, Option.bind_some]
      exact e'
    · rw [if_neg c, if_neg c]
      exact ⟨h, rfl, o, fr.refl _ _ _, rfl⟩
theorem SS_advise_b (ok : okY n S.1) (okb : okBB n B Rs) {fl p D : Nat} (hp : p < n) (hD : D ≤ 60) (hfl : 5000 ≤ fl) : ∀ (r k fu : Nat) (h : hp_M) (best most : Int32), k + r = 36 → r < fu → is_SS h a bk dr tn tp ea n S B → ∃ h', f_SS_advise_b50 fl a (ix p) (ix D) fu best most (ix k) h = some (0, advV (alV B.2.1) Rs S p D r k best most, h') ∧ is_SS h' a bk dr tn tp ea n S B ∧ fr a (a + 106) h h' ∧ h'.2 = h.2 := by
  intro r
  induction r with
  | zero =>
    intro k fu h best most hk hf o
    obtain ⟨fu, rfl⟩ : ∃ q, fu = q + 1 := ⟨fu - 1, by omega⟩
    unfold f_SS_advise_b50
    rw [show (36 : Int32) = ix 36 from rfl, if_pos (ix_le1 (by omega) (by omega))]
    exact ⟨h, rfl, o, fr.refl _ _ _, rfl⟩
  | succ r ih =>
    intro k fu h best most hk hf o
    obtain ⟨fu, rfl⟩ : ∃ q, fu = q + 1 := ⟨fu - 1, by omega⟩
    have bd := o.bd
    obtain ⟨h1, e1, t1, o1, r1, z1⟩ := SS_copy o hfl
    have e10 : ix k * 10 = ix (10 * k) := by rw [show (10 : Int32) = ix 10 from rfl, ix_mul, Nat.mul_comm]
    obtain ⟨h2, e2, t2, r2, z2⟩ := is_Sk.putAt t1 hp (rm (S.1 p 4 + ix (10 * k)) 360)
    have t2' : is_SK h2 (a + 16) n (shf S p k) := t2
    have o2 := o1.setAh t2' r2
    obtain ⟨h3, e3, t3, u3, f3, z3⟩ := live_of okb (a := a + 16) (b := bk) (by omega) hfl (D := D) (by omega) (okY_shf ok hp (show k < 36 by omega)) t2' o2.bK
    have o3 := o2.setAhB t3 u3 (show f2 (a + 16) (a + 29) bk (bk + 34) h2 h3 from f3)
    have rr : fr a (a + 106) h h3 := (r1.trans (r2.mono (by omega) (by omega))).trans (f2.fr f3 (by omega) (by omega) (by omega) (by omega))
    obtain ⟨n', S', ta⟩ := o.ah
    unfold f_SS_advise_b50 advV jn; dsimp only
    rw [show (36 : Int32) = ix 36 from rfl, if_neg (ix_nle (by omega) (by omega))]
    simp only [o.r3, o.r2, ah_on ta, e1, o1.r3, o1.r2, o1.sk.on, o1.sk.angleOf hp, e10, remI_of (show (360 : Int32) ≠ 0 by decide), ah_on t1, e2, o2.r3, o2.r4, ah_on t2', e3, Option.bind_some, ixp1]
    by_cases c : ix (daysV (alV B.2.1) Rs D (shf S p k)).2.2.1 - ix S.2.2.1 ≤ most
    · obtain ⟨h', e', o', r', z'⟩ := ih (k + 1) fu h3 best most (by omega) (by omega) o3
      refine ⟨h', ?_, o', rr.trans r', by omega⟩
      rw [if_pos c, ← e']
      exact if_pos c
    · obtain ⟨h', e', o', r', z'⟩ := ih (k + 1) fu h3 (ix k) (ix (daysV (alV B.2.1) Rs D (shf S p k)).2.2.1 - ix S.2.2.1) (by omega) (by omega) o3
      refine ⟨h', ?_, o', rr.trans r', by omega⟩
      rw [if_neg c, ← e']
      exact if_neg c
theorem SS_advise (o : is_SS h a bk dr tn tp ea n S B) (ok : okY n S.1) (okb : okBB n B Rs) {p D : Nat} (hp : p < n) (h1 : 1 ≤ D) (h2 : D ≤ 60) {fl : Nat} (hfl : 5000 ≤ fl) : ∃ h', f_SS_advise fl a (ix p) (ix D) h = some (0, advV (alV B.2.1) Rs S p D 36 0 0 (-1), h') ∧ is_SS h' a bk dr tn tp ea n S B ∧ fr a (a + 106) h h' ∧ h'.2 = h.2 := by
  unfold f_SS_advise jn; dsimp only
  simp only [o.r2, o.sk.on, o.sk.has hp, Option.bind_some]
  rw [if_neg (by decide), show (1 : Int32) = ix 1 from rfl, if_neg (ix_nlt h1 (by omega)), show (60 : Int32) = ix 60 from rfl, if_pos (ix_le1 h2 (by omega))]
  exact SS_advise_b ok okb hp h2 hfl 36 0 fl h 0 (-1) (by omega) (by omega) o
theorem SS_adviseX1 (o : is_SS h a bk dr tn tp ea n S B) {fl : Nat} {x y : Int32} (hx : ¬ inN n x) : f_SS_advise fl a x y h = some (3, 0, hX h) := by
  unfold f_SS_advise jn; dsimp only
  simp only [o.r2, o.sk.on, o.sk.hasNot hx, Option.bind_some]
  rw [if_pos trivial]; rfl
theorem SS_adviseX2 (o : is_SS h a bk dr tn tp ea n S B) {fl p : Nat} {y : Int32} (hp : p < n) (hy : ¬ in1 60 y) : f_SS_advise fl a (ix p) y h = some (2, 0, hX h) := by
  unfold f_SS_advise jn; dsimp only
  simp only [o.r2, o.sk.on, o.sk.has hp, Option.bind_some]
  rw [if_neg (by decide)]
  rcases in1_not hy (by omega) with q | ⟨q1, q2⟩
  · rw [if_pos q]; rfl
  · rw [if_neg q1, show (60 : Int32) = ix 60 from rfl, if_neg q2]; rfl
theorem SS_mean_b (o : is_SS h a bk dr tn tp ea n S B) (fl : Nat) (x1 : Int32) (K : Int32 → Option UInt64) : ∀ r fu i, i + r = B.2.2.2.length → r < fu → f_SS_mean_b18 fl a x1 h K fu (sumV S.2.2.2.2 i) (ix i) = K (sumV S.2.2.2.2 B.2.2.2.length) := by
  have h12 := o.bK.2.1
  intro r
  induction r with
  | zero =>
    intro fu i hi hf
    obtain ⟨fu, rfl⟩ : ∃ q, fu = q + 1 := ⟨fu - 1, by omega⟩
    have : i = B.2.2.2.length := by omega
    subst this
    unfold f_SS_mean_b18
    simp only [o.r4, o.bK.on, o.bK.rules, Option.bind_some]
    rw [if_pos (ix_le1 (Nat.le_refl _) (by omega))]
  | succ r ih =>
    intro fu i hi hf
    obtain ⟨fu, rfl⟩ : ∃ q, fu = q + 1 := ⟨fu - 1, by omega⟩
    unfold f_SS_mean_b18
    simp only [o.r4, o.r2, o.bK.on, o.bK.rules, o.sk.on, o.sk.writtenBy (show i < 12 by omega), Option.bind_some, ixp1]
    rw [if_neg (ix_nle (by omega) (by omega))]
    exact ih fu (i + 1) (by omega) (by omega)
theorem SS_mean (o : is_SS h a bk dr tn tp ea n S B) {fl : Nat} (hfl : 5000 ≤ fl) : f_SS_mean fl a h = if S.2.1 = 0 then some 0 else ddC (FP.i2d (sumV S.2.2.2.2 B.2.2.2.length)) (FP.i2d S.2.1) := by
  have h12 := o.bK.2.1
  unfold f_SS_mean
  simp only [o.r2, o.sk.on, o.sk.day, Option.bind_some]
  split
  · rfl
  · have := SS_mean_b o fl S.2.1 (fun u4 => (ddC (FP.i2d u4) (FP.i2d S.2.1)).bind fun v5 => some v5) B.2.2.2.length fl 0 (by omega) (by omega)
    refine (show _ = _ from this).trans ?_
    cases ddC (FP.i2d (sumV S.2.2.2.2 B.2.2.2.length)) (FP.i2d S.2.1) <;> rfl
end
/-! digest -/
def mixN (f : Nat → Int32) : Nat → Nat → Int64 → Int64
  | 0, _, d => d
  | r + 1, i, d => mixN f r (i + 1) (d * 31 + (f i).toInt64)
def mixP (P : Nat → Nat → Int32) (dy : Int32) : Nat → Nat → Int64 → Int64
  | 0, _, d => d
  | r + 1, i, d => mixP P dy r (i + 1) (mixN (fact (P i) dy) 7 0 d)
def mixA (A : Nat → List Int32) : Nat → Nat → Int64 → Int64
  | 0, _, d => d
  | r + 1, i, d => mixA A r (i + 1) (mixN (fun j => (A i).getD j 0) (A i).length 0 (d * 31 + (ix (A i).length).toInt64))
def digV (n : Nat) (S : skyV) (tn nA nR : Nat) (A : Nat → List Int32) : Int64 :=
  mixN S.2.2.2.1 S.2.2.1 0 (mixN S.2.2.2.2 nR 0 (mixA A nA 0 (mixP S.1 S.2.1 n 0 (mixN (cntV n S tn nA nR) 8 0 727))))
section
variable {h : hp_M} {a bk dr tn : Nat} {tp : Nat → Int32} {ea : Int32} {n : Nat} {S : skyV} {B : bkV}
theorem SS_dg1 (o : is_SS h a bk dr tn tp ea n S B) (ok : okY n S.1) {fl : Nat} (hfl : 5000 ≤ fl) (K : Int64 → Option Int64) : ∀ r fu i d, i + r = 8 → r < fu → f_SS_digest_b6 fl a h K fu d (ix i) = K (mixN (cntV n S tn B.2.1.length B.2.2.2.length) r i d) := by
  intro r
  induction r with
  | zero =>
    intro fu i d hi hf
    obtain ⟨fu, rfl⟩ : ∃ q, fu = q + 1 := ⟨fu - 1, by omega⟩
    unfold f_SS_digest_b6
    rw [show (8 : Int32) = ix 8 from rfl, if_pos (ix_le1 (by omega) (by omega))]; rfl
  | succ r ih =>
    intro fu i d hi hf
    obtain ⟨fu, rfl⟩ : ∃ q, fu = q + 1 := ⟨fu - 1, by omega⟩
    unfold f_SS_digest_b6 f_SS_mixed
    rw [show (8 : Int32) = ix 8 from rfl, if_neg (ix_nle (by omega) (by omega))]
    simp only [o.on, SS_counted o ok hfl (show i < 8 by omega), Option.bind_some, ixp1]
    exact ih fu (i + 1) _ (by omega) (by omega)
theorem SS_dg2 (o : is_SS h a bk dr tn tp ea n S B) (ok : okY n S.1) (fl : Nat) {p : Nat} (hp : p < n) (K : Int64 → Option Int64) : ∀ r fu i d, i + r = 7 → r < fu → f_SS_digest_b44 fl a (ix p) h K fu d (ix i) = K (mixN (fact (S.1 p) S.2.1) r i d) := by
  intro r
  induction r with
  | zero =>
    intro fu i d hi hf
    obtain ⟨fu, rfl⟩ : ∃ q, fu = q + 1 := ⟨fu - 1, by omega⟩
    unfold f_SS_digest_b44
    rw [show (7 : Int32) = ix 7 from rfl, if_pos (ix_le1 (by omega) (by omega))]; rfl
  | succ r ih =>
    intro fu i d hi hf
    obtain ⟨fu, rfl⟩ : ∃ q, fu = q + 1 := ⟨fu - 1, by omega⟩
    unfold f_SS_digest_b44 f_SS_mixed
    rw [show (7 : Int32) = ix 7 from rfl, if_neg (ix_nle (by omega) (by omega))]
    simp only [o.r2, o.sk.on, o.sk.factOf ok hp (show i < 7 by omega), Option.bind_some, ixp1]
    exact ih fu (i + 1) _ (by omega) (by omega)
theorem SS_dg3 (o : is_SS h a bk dr tn tp ea n S B) (ok : okY n S.1) {fl : Nat} (hfl : 5000 ≤ fl) (K : Int64 → Option Int64) : ∀ r fu i d, i + r = n → r < fu → f_SS_digest_b30 fl a h K fu d (ix i) = K (mixP S.1 S.2.1 r i d) := by
  have h8 := o.sk.n8
  intro r
  induction r with
  | zero =>
    intro fu i d hi hf
    obtain ⟨fu, rfl⟩ : ∃ q, fu = q + 1 := ⟨fu - 1, by omega⟩
    unfold f_SS_digest_b30
    simp only [o.r2, o.sk.on, o.sk.planets, Option.bind_some]
    rw [if_pos (ix_le1 (by omega) (by omega))]; rfl
  | succ r ih =>
    intro fu i d hi hf
    obtain ⟨fu, rfl⟩ : ∃ q, fu = q + 1 := ⟨fu - 1, by omega⟩
    unfold f_SS_digest_b30
    simp only [o.r2, o.sk.on, o.sk.planets, Option.bind_some, ixp1]
    rw [if_neg (ix_nle (by omega) (by omega)), show (0 : Int32) = ix 0 from rfl, SS_dg2 o ok fl (show i < n by omega) _ 7 fl 0 d (by omega) (by omega)]
    exact ih fu (i + 1) _ (by omega) (by omega)
theorem SS_dg4 (o : is_SS h a bk dr tn tp ea n S B) (fl : Nat) {p : Nat} (hp : p < B.2.1.length) (K : Int64 → Option Int64) : ∀ r fu i d, i + r = (alV B.2.1 p).length → r < fu → f_SS_digest_b107 fl a (ix p) h K fu d (ix i) = K (mixN (fun j => (alV B.2.1 p).getD j 0) r i d) := by
  have h12 : (alV B.2.1 p).length ≤ 12 := (o.bK.alp hp).2.1
  have e1 : f_Bk_lettersOf bk (ix p) h = some (ix (alV B.2.1 p).length) := o.bK.lettersOf hp
  have e2 : ∀ j, j < (alV B.2.1 p).length → f_Bk_letterOf bk (ix p) (ix j) h = some ((alV B.2.1 p).getD j 0) := fun j hj => o.bK.letterOf hp hj
  intro r
  induction r with
  | zero =>
    intro fu i d hi hf
    obtain ⟨fu, rfl⟩ : ∃ q, fu = q + 1 := ⟨fu - 1, by omega⟩
    unfold f_SS_digest_b107
    simp only [o.r4, o.bK.on, e1, Option.bind_some]
    rw [if_pos (ix_le1 (by omega) (by omega))]; rfl
  | succ r ih =>
    intro fu i d hi hf
    obtain ⟨fu, rfl⟩ : ∃ q, fu = q + 1 := ⟨fu - 1, by omega⟩
    unfold f_SS_digest_b107 f_SS_mixed
    simp only [o.r4, o.bK.on, e1, e2 i (by omega), Option.bind_some, ixp1]
    rw [if_neg (ix_nle (by omega) (by omega))]
    exact ih fu (i + 1) _ (by omega) (by omega)
theorem SS_dg5 (o : is_SS h a bk dr tn tp ea n S B) {fl : Nat} (hfl : 5000 ≤ fl) (K : Int64 → Option Int64) : ∀ r fu i d, i + r = B.2.1.length → r < fu → f_SS_digest_b80 fl a h K fu d (ix i) = K (mixA (alV B.2.1) r i d) := by
  have h8 := o.bK.2.1
  intro r
  induction r with
  | zero =>
    intro fu i d hi hf
    obtain ⟨fu, rfl⟩ : ∃ q, fu = q + 1 := ⟨fu - 1, by omega⟩
    unfold f_SS_digest_b80
    simp only [o.r4, o.bK.on, o.bK.alphabets, Option.bind_some]
    rw [if_pos (ix_le1 (by omega) (by omega))]; rfl
  | succ r ih =>
    intro fu i d hi hf
    obtain ⟨fu, rfl⟩ : ∃ q, fu = q + 1 := ⟨fu - 1, by omega⟩
    have hp : i < B.2.1.length := by omega
    have h12 : (alV B.2.1 i).length ≤ 12 := (o.bK.alp hp).2.1
    have e1 : f_Bk_lettersOf bk (ix i) h = some (ix (alV B.2.1 i).length) := o.bK.lettersOf hp
    unfold f_SS_digest_b80 f_SS_mixed
    simp only [o.r4, o.bK.on, o.bK.alphabets, e1, Option.bind_some, ixp1]
    rw [if_neg (ix_nle (by omega) (by omega)), show (0 : Int32) = ix 0 from rfl, SS_dg4 o fl hp _ (alV B.2.1 i).length fl 0 _ (by omega) (by omega)]
    exact ih fu (i + 1) _ (by omega) (by omega)
theorem SS_dg6 (o : is_SS h a bk dr tn tp ea n S B) (fl : Nat) (K : Int64 → Option Int64) : ∀ r fu i d, i + r = B.2.2.2.length → r < fu → f_SS_digest_b149 fl a h K fu d (ix i) = K (mixN S.2.2.2.2 r i d) := by
  have h8 := o.bK.2.1
  intro r
  induction r with
  | zero =>
    intro fu i d hi hf
    obtain ⟨fu, rfl⟩ : ∃ q, fu = q + 1 := ⟨fu - 1, by omega⟩
    unfold f_SS_digest_b149
    simp only [o.r4, o.bK.on, o.bK.rules, Option.bind_some]
    rw [if_pos (ix_le1 (by omega) (by omega))]; rfl
  | succ r ih =>
    intro fu i d hi hf
    obtain ⟨fu, rfl⟩ : ∃ q, fu = q + 1 := ⟨fu - 1, by omega⟩
    unfold f_SS_digest_b149 f_SS_mixed
    simp only [o.r4, o.r2, o.bK.on, o.bK.rules, o.sk.on, o.sk.writtenBy (show i < 12 by omega), Option.bind_some, ixp1]
    rw [if_neg (ix_nle (by omega) (by omega))]
    exact ih fu (i + 1) _ (by omega) (by omega)
theorem SS_dg7 (o : is_SS h a bk dr tn tp ea n S B) (fl : Nat) : ∀ r fu i d, i + r = S.2.2.1 → r < fu → f_SS_digest_b181 fl a h fu d (ix i) = some (mixN S.2.2.2.1 r i d) := by
  have h8 := o.sk.pn600
  intro r
  induction r with
  | zero =>
    intro fu i d hi hf
    obtain ⟨fu, rfl⟩ : ∃ q, fu = q + 1 := ⟨fu - 1, by omega⟩
    unfold f_SS_digest_b181
    simp only [o.r2, o.sk.on, o.sk.fpaper, o.sk.paper.on, o.sk.paper.size, Option.bind_some]
    rw [if_pos (ix_le1 (by omega) (by omega))]; rfl
  | succ r ih =>
    intro fu i d hi hf
    obtain ⟨fu, rfl⟩ : ∃ q, fu = q + 1 := ⟨fu - 1, by omega⟩
    unfold f_SS_digest_b181 f_SS_mixed
    simp only [o.r2, o.sk.on, o.sk.fpaper, o.sk.paper.on, o.sk.paper.size, o.sk.paper.at (show i < S.2.2.1 by omega), Option.bind_some, ixp1]
    rw [if_neg (ix_nle (by omega) (by omega))]
    exact ih fu (i + 1) _ (by omega) (by omega)
theorem SS_digest (o : is_SS h a bk dr tn tp ea n S B) (ok : okY n S.1) {fl : Nat} (hfl : 5000 ≤ fl) : f_SS_digest fl a h = some (digV n S tn B.2.1.length B.2.2.2.length (alV B.2.1)) := by
  have h8 := o.bK.2.1
  have h9 := o.sk.n8
  have h10 := o.sk.pn600
  unfold f_SS_digest
  rw [show (0 : Int32) = ix 0 from rfl, SS_dg1 o ok hfl _ 8 fl 0 727 (by omega) (by omega), SS_dg3 o ok hfl _ n fl 0 _ (by omega) (by omega), SS_dg5 o hfl _ B.2.1.length fl 0 _ (by omega) (by omega), SS_dg6 o fl _ B.2.2.2.length fl 0 _ (by omega) (by omega), SS_dg7 o fl S.2.2.1 fl 0 _ (by omega) (by omega)]
  rfl
end
