/-! The class looks ahead. -/
def okBB (n : Nat) (B : bkV) (Rs : List ruV) : Prop := okB n B.2.1 B.2.2.1 B.2.2.2 Rs
def nxtV (i j : Nat) (f : Int32) : Nat → Nat → skyV → Int32
  | 0, _, _ => -1
  | r + 1, k, S => if meetV ((movV S).1 i) ((movV S).1 j) f = 0 then nxtV i j f r (k + 1) (movV S) else ix k
def agnV (Q : Nat → Nat → Int32) (n : Nat) : Nat → Nat → skyV → Int32
  | 0, _, _ => -1
  | r + 1, k, S => if asV (movV S).1 Q n 0 = 0 then agnV Q n r (k + 1) (movV S) else ix k
def splV (A : Nat → List Int32) (Rs : List ruV) (tp : Nat → Int32) (tn : Nat) : Nat → Nat → skyV → Int32
  | 0, _, _ => -1
  | r + 1, k, S => if (dayV A Rs S).2.2.1 ≤ S.2.2.1 ∨ fnd (dayV A Rs S).2.2.2.1 (dayV A Rs S).2.2.1 tp tn (S.2.2.1 + 1 - tn) < 0 then splV A Rs tp tn r (k + 1) (dayV A Rs S) else ix k
def shf (S : skyV) (p k : Nat) : skyV := setV S p (rm (S.1 p 4 + ix (10 * k)) 360)
def advV (A : Nat → List Int32) (Rs : List ruV) (S : skyV) (p D : Nat) : Nat → Nat → Int32 → Int32 → Int32
  | 0, _, best, _ => best
  | r + 1, k, best, most => if ix (daysV A Rs D (shf S p k)).2.2.1 - ix S.2.2.1 ≤ most then advV A Rs S p D r (k + 1) best most else advV A Rs S p D r (k + 1) (ix k) (ix (daysV A Rs D (shf S p k)).2.2.1 - ix S.2.2.1)
theorem days_pn1 (A : Nat → List Int32) (P : Nat → Nat → Int32) (d : Int32) : ∀ (L : List ruV) (i : Nat) (z : Nat × (Nat → Int32) × (Nat → Int32)), z.1 ≤ (rulV P d A L i z).1 := by
  intro L
  induction L with
  | nil => intro i z; exact Nat.le_refl _
  | cons R L ih =>
    intro i z
    show z.1 ≤ (if z.1 < 600 ∧ valV (askV P z.1 d) R.1 ≠ 0 then rulV P d A L (i + 1) (z.1 + 1, upd z.2.1 z.1 (letV A R.2.2 (valV (askV P z.1 d) R.2.1)), upd z.2.2 i (z.2.2 i + 1)) else rulV P d A L (i + 1) z).1
    split
    · exact Nat.le_trans (Nat.le_succ _) (ih (i + 1) (z.1 + 1, upd z.2.1 z.1 (letV A R.2.2 (valV (askV P z.1 d) R.2.1)), upd z.2.2 i (z.2.2 i + 1)))
    · exact ih (i + 1) z
theorem day_pn (A : Nat → List Int32) (Rs : List ruV) (S : skyV) : S.2.2.1 ≤ (dayV A Rs S).2.2.1 := days_pn1 A _ _ Rs 0 S.2.2
section
variable {h : hp_M} {a bk dr tn : Nat} {tp : Nat → Int32} {ea : Int32} {n : Nat} {S : skyV} {B : bkV} {Rs : List ruV}
theorem SS_pass (o : is_SS h a bk dr tn tp ea n S B) (ok : okY n S.1) (okb : okBB n B Rs) {fl : Nat} (hfl : 5000 ≤ fl) {D : Nat} (h1 : 1 ≤ D) (h2 : D ≤ 300) : ∃ h', f_SS_pass fl a (ix D) h = some (0, ix (daysV (alV B.2.1) Rs D S).2.2.1 - ix S.2.2.1, h') ∧ is_SS h' a bk dr tn tp ea n (daysV (alV B.2.1) Rs D S) B ∧ fr a (a + 106) h h' ∧ h'.2 = h.2 := by
  have bd := o.bd
  obtain ⟨h', e, t, u, f, z⟩ := live_of okb (a := a + 3) (b := bk) (by omega) hfl (D := D) (by omega) ok o.sK o.bK
  refine ⟨h', ?_, o.setSkB t u (show f2 (a + 3) (a + 16) bk (bk + 34) h h' from f), f2.fr f (by omega) (by omega) (by omega) (by omega), z⟩
  unfold f_SS_pass jn; dsimp only
  rw [show (1 : Int32) = ix 1 from rfl, if_neg (ix_nlt h1 (by omega)), show (300 : Int32) = ix 300 from rfl, if_pos (ix_le1 h2 (by omega))]
  simp only [o.r2, o.r4, o.sk.on, e, Option.bind_some]
/-- days within 1 .. m -/
def in1 (m : Nat) (x : Int32) : Prop := ∃ D, 1 ≤ D ∧ D ≤ m ∧ x = ix D
theorem in1_not {x : Int32} {m : Nat} (hx : ¬ in1 m x) (hm : m < 2147483647) : x < 1 ∨ (¬ x < 1 ∧ ¬ x ≤ ix m) := by
  rcases ix_cases x (m + 1) (by omega) with q | ⟨i, hi, rfl⟩ | ⟨i, hi, hb, rfl⟩
  · left
    rw [i32_lt, i32_z] at q
    rw [i32_lt, show (1 : Int32).toInt = 1 from by decide]; omega
  · left
    by_cases h1 : 1 ≤ i
    · exact absurd ⟨i, h1, by omega, rfl⟩ hx
    · have : i = 0 := by omega
      subst this; decide
  · right
    exact ⟨by rw [show (1 : Int32) = ix 1 from rfl]; exact ix_nlt (by omega) hb, ix_nle (by omega) hb⟩
theorem SS_passX {fl : Nat} {x : Int32} (hx : ¬ in1 300 x) : f_SS_pass fl a x h = some (2, 0, hX h) := by
  unfold f_SS_pass jn; dsimp only
  rcases in1_not hx (by omega) with q | ⟨q1, q2⟩
  · rw [if_pos q]; rfl
  · rw [if_neg q1, show (300 : Int32) = ix 300 from rfl, if_neg q2]; rfl
/-- the sky ahead begins as the sky -/
theorem SS_copy (o : is_SS h a bk dr tn tp ea n S B) {fl : Nat} (hfl : 5000 ≤ fl) : ∃ h', f_Sk_copyFrom fl (a + 16) (a + 3) h = some h' ∧ is_SK h' (a + 16) n S ∧ is_SS h' a bk dr tn tp ea n S B ∧ fr a (a + 106) h h' ∧ h'.2 = h.2 := by
  obtain ⟨n', S', t⟩ := o.ah
  obtain ⟨h', e, t', r, z⟩ := is_Sk.copyFrom t o.sk (by omega) hfl
  exact ⟨h', e, t', o.setAh t' r, r.mono (by omega) (by omega), z⟩
theorem ah_on {β : Type} {n' : Nat} {S' : skyV} (t : is_SK h a n' S') (g : Option β) : onO h a 7 g = g := is_Sk.on t g
theorem SS_foresee (o : is_SS h a bk dr tn tp ea n S B) (ok : okY n S.1) (okb : okBB n B Rs) {fl : Nat} (hfl : 5000 ≤ fl) {D k : Nat} (h1 : 1 ≤ D) (h2 : D ≤ 300) (hk : k < 3) : ∃ h', f_SS_foresee fl a (ix D) (ix k) h = some (0, (if k = 0 then ix (daysV (alV B.2.1) Rs D S).2.2.1 - ix S.2.2.1 else if k = 1 then prsV (daysV (alV B.2.1) Rs D S).1 n n 0 0 else sumV (fun i => (daysV (alV B.2.1) Rs D S).1 i 6) n), h') ∧ is_SS h' a bk dr tn tp ea n S B ∧ fr a (a + 106) h h' ∧ h'.2 = h.2 := by
  have bd := o.bd
  obtain ⟨h3, e3, t3, o3, r3, z3⟩ := SS_copy o hfl
  obtain ⟨h', e, t, u, f, z⟩ := live_of okb (a := a + 16) (b := bk) (by omega) hfl (D := D) (by omega) ok t3 o3.bK
  have o' := o3.setAhB t u (show f2 (a + 16) (a + 29) bk (bk + 34) h3 h' from f)
  refine ⟨h', ?_, o', r3.trans (f2.fr f (by omega) (by omega) (by omega) (by omega)), by omega⟩
  unfold f_SS_foresee jn; dsimp only
  rw [show (1 : Int32) = ix 1 from rfl, if_neg (ix_nlt h1 (by omega)), show (300 : Int32) = ix 300 from rfl, if_pos (ix_le1 h2 (by omega)), if_neg (ix_nn (by omega)), show (3 : Int32) = ix 3 from rfl, if_pos (ix_lt1 hk (by omega))]
  obtain ⟨n', S', ta⟩ := o.ah
  simp only [o.r2, o.r3, ah_on ta, e3, o3.r3, o3.r4, ah_on t3, e, Option.bind_some]
  have : k = 0 ∨ k = 1 ∨ k = 2 := by omega
  rcases this with q | q | q <;> subst q
  · rfl
  · rw [if_neg (by decide), if_pos (by rfl)]
    simp only [o'.r3, ah_on t, is_Sk.transits t hfl, Option.bind_some]
    rfl
  · rw [if_neg (by decide), if_neg (by decide)]
    simp only [o'.r3, ah_on t, is_Sk.laps t hfl, Option.bind_some]
    rfl
theorem SS_foreseeX1 {fl : Nat} {x y : Int32} (hx : ¬ in1 300 x) : f_SS_foresee fl a x y h = some (2, 0, hX h) := by
  unfold f_SS_foresee jn; dsimp only
  rcases in1_not hx (by omega) with q | ⟨q1, q2⟩
  · rw [if_pos q]; rfl
  · rw [if_neg q1, show (300 : Int32) = ix 300 from rfl, if_neg q2]; rfl
theorem SS_foreseeX2 {fl D : Nat} {y : Int32} (h1 : 1 ≤ D) (h2 : D ≤ 300) (hy : ¬ inN 3 y) : f_SS_foresee fl a (ix D) y h = some (3, 0, hX h) := by
  unfold f_SS_foresee jn; dsimp only
  rw [show (1 : Int32) = ix 1 from rfl, if_neg (ix_nlt h1 (by omega)), show (300 : Int32) = ix 300 from rfl, if_pos (ix_le1 h2 (by omega))]
  rcases ix_cases y 3 (by omega) with q | ⟨i, hi, rfl⟩ | ⟨i, hi, hb, rfl⟩
  · rw [if_pos q]; rfl
  · exact absurd ⟨i, hi, rfl⟩ hy
  · rw [if_neg (ix_nn hb), show (3 : Int32) = ix 3 from rfl, if_neg (ix_nlt hi hb)]; rfl
theorem SS_next_b {i j : Nat} (hi : i < n) (hj : j < n) (y : Int32) {fl : Nat} (hfl : 5000 ≤ fl) : ∀ (r k fu : Nat) (h : hp_M) (S1 : skyV), k + r = 1001 → r < fu → okY n S1.1 → is_SS h a bk dr tn tp ea n S B → is_SK h (a + 16) n S1 → ∃ h', f_SS_next_b46 fl a (ix i) (ix j) y fu (ix k) h = some (0, nxtV i j (if y = 0 then 0 else 180) r k S1, h') ∧ is_SS h' a bk dr tn tp ea n S B ∧ fr a (a + 106) h h' ∧ h'.2 = h.2 := by
  intro r
  induction r with
  | zero =>
    intro k fu h S1 hk hf ok o t
    obtain ⟨fu, rfl⟩ : ∃ q, fu = q + 1 := ⟨fu - 1, by omega⟩
    unfold f_SS_next_b46
    rw [show (1000 : Int32) = ix 1000 from rfl, if_pos (ix_lt1 (by omega) (by omega))]
    exact ⟨h, rfl, o, fr.refl _ _ _, rfl⟩
  | succ r ih =>
    intro k fu h S1 hk hf ok o t
    obtain ⟨fu, rfl⟩ : ∃ q, fu = q + 1 := ⟨fu - 1, by omega⟩
    obtain ⟨h1, e1, t1, r1, z1⟩ := is_Sk.turn t ok hfl
    have t1' : is_SK h1 (a + 16) n (movV S1) := t1
    have o1 := o.setAh t1' r1
    unfold f_SS_next_b46 nxtV
    rw [show (1000 : Int32) = ix 1000 from rfl, if_neg (ix_nlt (by omega) (by omega))]
    simp only [o.r3, ah_on t, e1, o1.r3, t1.on, t1.areMet hi hj, Option.bind_some, ixp1]
    by_cases hm : meetV ((movV S1).1 i) ((movV S1).1 j) (if y = 0 then 0 else 180) = 0
    · rw [if_pos hm]
      obtain ⟨h', e', o', r', z'⟩ := ih (k + 1) fu h1 (movV S1) (by omega) (by omega) (okY.mov ok) o1 t1
      exact ⟨h', by rw [← e']; exact if_pos hm, o', (r1.mono (by omega) (by omega)).trans r', by omega⟩
    · rw [if_neg hm]
      exact ⟨h1, if_neg hm, o1, r1.mono (by omega) (by omega), z1⟩
theorem SS_next (o : is_SS h a bk dr tn tp ea n S B) (ok : okY n S.1) {i j : Nat} (hi : i < n) (hj : j < n) (y : Int32) {fl : Nat} (hfl : 5000 ≤ fl) : ∃ h', f_SS_next fl a (ix i) (ix j) y h = some (0, nxtV i j (if y = 0 then 0 else 180) 1000 1 S, h') ∧ is_SS h' a bk dr tn tp ea n S B ∧ fr a (a + 106) h h' ∧ h'.2 = h.2 := by
  obtain ⟨h3, e3, t3, o3, r3, z3⟩ := SS_copy o hfl
  obtain ⟨h', e', o', r', z'⟩ := SS_next_b hi hj y hfl 1000 1 fl h3 S rfl (by omega) ok o3 t3
  obtain ⟨n', S', ta⟩ := o.ah
  refine ⟨h', ?_, o', r3.trans r', by omega⟩
  unfold f_SS_next jn; dsimp only
  simp only [o.r2, o.r3, o.sk.on, o.sk.has hi, o.sk.has hj, ah_on ta, e3, Option.bind_some]
  rw [if_neg (by decide), if_neg (by decide)]
  exact e'
theorem SS_nextX (o : is_SS h a bk dr tn tp ea n S B) {x y z : Int32} {fl : Nat} (hx : ¬ (inN n x ∧ inN n y)) : f_SS_next fl a x y z h = some (3, 0, hX h) := by
  unfold f_SS_next jn; dsimp only
  by_cases hq : inN n x
  · obtain ⟨i, hi, rfl⟩ := hq
    have hy : ¬ inN n y := fun q => hx ⟨⟨i, hi, rfl⟩, q⟩
    simp only [o.r2, o.sk.on, o.sk.has hi, o.sk.hasNot hy, Option.bind_some]
    rw [if_neg (by decide), if_pos trivial]; rfl
  · simp only [o.r2, o.sk.on, o.sk.hasNot hq, Option.bind_some]
    rw [if_pos trivial]; rfl
theorem SS_again_b {D : Nat} (hD : D ≤ 2000) {fl : Nat} (hfl : 5000 ≤ fl) : ∀ (r k fu : Nat) (h : hp_M) (S1 : skyV), k + r = D + 1 → r < fu → okY n S1.1 → is_SS h a bk dr tn tp ea n S B → is_SK h (a + 16) n S1 → ∃ h', f_SS_again_b47 fl a (ix D) fu (ix k) h = some (0, agnV S.1 n r k S1, h') ∧ is_SS h' a bk dr tn tp ea n S B ∧ fr a (a + 106) h h' ∧ h'.2 = h.2 := by
  intro r
  induction r with
  | zero =>
    intro k fu h S1 hk hf ok o t
    obtain ⟨fu, rfl⟩ : ∃ q, fu = q + 1 := ⟨fu - 1, by omega⟩
    unfold f_SS_again_b47
    rw [if_pos (ix_lt1 (by omega) (by omega))]
    exact ⟨h, rfl, o, fr.refl _ _ _, rfl⟩
  | succ r ih =>
    intro k fu h S1 hk hf ok o t
    obtain ⟨fu, rfl⟩ : ∃ q, fu = q + 1 := ⟨fu - 1, by omega⟩
    obtain ⟨h1, e1, t1, r1, z1⟩ := is_Sk.turn t ok hfl
    have t1' : is_SK h1 (a + 16) n (movV S1) := t1
    have o1 := o.setAh t1' r1
    unfold f_SS_again_b47 agnV
    rw [if_neg (ix_nlt (by omega) (by omega))]
    simp only [o.r3, ah_on t, e1, o1.r3, o1.r2, t1.on, is_Sk.standsAs t1 o1.sk hfl, Option.bind_some, ixp1]
    by_cases hm : asV (movV S1).1 S.1 n 0 = 0
    · rw [if_pos hm]
      obtain ⟨h', e', o', r', z'⟩ := ih (k + 1) fu h1 (movV S1) (by omega) (by omega) (okY.mov ok) o1 t1
      exact ⟨h', by rw [← e']; exact if_pos hm, o', (r1.mono (by omega) (by omega)).trans r', by omega⟩
    · rw [if_neg hm]
      exact ⟨h1, if_neg hm, o1, r1.mono (by omega) (by omega), z1⟩
theorem SS_again (o : is_SS h a bk dr tn tp ea n S B) (ok : okY n S.1) {D : Nat} (h1 : 1 ≤ D) (h2 : D ≤ 2000) {fl : Nat} (hfl : 5000 ≤ fl) : ∃ h', f_SS_again fl a (ix D) h = some (0, (if n = 0 then -1 else agnV S.1 n D 1 S), h') ∧ is_SS h' a bk dr tn tp ea n S B ∧ fr a (a + 106) h h' ∧ h'.2 = h.2 := by
  have h8 := o.sk.n8
  unfold f_SS_again jn; dsimp only
  rw [show (1 : Int32) = ix 1 from rfl, if_neg (ix_nlt h1 (by omega)), show (2000 : Int32) = ix 2000 from rfl, if_pos (ix_le1 h2 (by omega))]
  simp only [o.r2, o.sk.on, o.sk.planets, Option.bind_some]
  by_cases hn : n = 0
  · rw [if_pos (by rw [hn]; rfl), if_pos hn]
    exact ⟨h, rfl, o, fr.refl _ _ _, rfl⟩
  · rw [if_neg hn, show (0 : Int32) = ix 0 from rfl, if_neg (ix_ne hn (by omega) (by omega))]
    obtain ⟨h3, e3, t3, o3, r3, z3⟩ := SS_copy o hfl
    obtain ⟨h', e', o', r', z'⟩ := SS_again_b h2 hfl D 1 fl h3 S (by omega) (by omega) ok o3 t3
    obtain ⟨n', S', ta⟩ := o.ah
    refine ⟨h', ?_, o', r3.trans r', by omega⟩
    simp only [o.r3, ah_on ta, e3, Option.bind_some]
    exact e'
theorem SS_againX {fl : Nat} {x : Int32} (hx : ¬ in1 2000 x) : f_SS_again fl a x h = some (2, 0, hX h) := by
  unfold f_SS_again jn; dsimp only
  rcases in1_not hx (by omega) with q | ⟨q1, q2⟩
  · rw [if_pos q]; rfl
  · rw [if_neg q1, show (2000 : Int32) = ix 2000 from rfl, if_neg q2]; rfl
end
