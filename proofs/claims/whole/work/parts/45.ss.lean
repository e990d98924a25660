/-! The object of the class. -/
abbrev bkV : Type := List (Int64 × (Nat → Int32)) × List (Int64 × List Int32) × List (Nat × Nat × Nat) × List (Nat × Nat × Nat × Nat)
def is_BK (h : hp_M) (b : Nat) (B : bkV) : Prop := is_Bk h b B.1 B.2.1 B.2.2.1 B.2.2.2
def is_Rd (h : hp_M) (r tp : Nat) : Prop :=
  r + 9 ≤ h.2 ∧ (∃ (bk : Nat) (e ep lt : Int32), h.1 r = some (oC 5 [.ref (r + 3), .ref (r + 1), .ref bk, .int e, .int ep, .int lt])) ∧ (∃ l, is_Al h (r + 1) l) ∧
  (∃ (rw fr pl : Int32) (wd : Int64) (nb : Int32), h.1 (r + 3) = some (oC 6 [.ref tp, .ref (r + 4), .ref (r + 5), .ref (r + 6), .ref (r + 7), .ref (r + 8), .int rw, .int fr, .int pl, .long wd, .int nb])) ∧
  (∃ g, h.1 (r + 4) = some (aR 2 401 g)) ∧ (∃ g, h.1 (r + 5) = some (aI 401 g)) ∧ (∃ g, h.1 (r + 6) = some (aI 401 g)) ∧ (∃ g, h.1 (r + 7) = some (aL 401 g)) ∧ ∃ g, h.1 (r + 8) = some (aI 401 g)
theorem is_Rd.keep {h h' : hp_M} {r tp lo hi : Nat} (o : is_Rd h r tp) (f : fr lo hi h h') (ho : r + 9 ≤ lo ∨ hi ≤ r) : is_Rd h' r tp := by
  obtain ⟨h1, ⟨b, e, ep, lt, h2⟩, ⟨l, h3⟩, ⟨r1, r2, r3, r4, r5, h4⟩, ⟨g1, a1⟩, ⟨g2, a2⟩, ⟨g3, a3⟩, ⟨g4, a4⟩, ⟨g5, a5⟩⟩ := o
  exact ⟨Nat.le_trans h1 f.1, ⟨b, e, ep, lt, f.cell h2 (by omega) (by omega)⟩, ⟨l, h3.keep f (by omega)⟩, ⟨r1, r2, r3, r4, r5, f.cell h4 (by omega) (by omega)⟩, ⟨g1, f.cell a1 (by omega) (by omega)⟩, ⟨g2, f.cell a2 (by omega) (by omega)⟩, ⟨g3, f.cell a3 (by omega) (by omega)⟩, ⟨g4, f.cell a4 (by omega) (by omega)⟩, ⟨g5, f.cell a5 (by omega) (by omega)⟩⟩
def is_SS (h : hp_M) (a bk dr tn : Nat) (tp : Nat → Int32) (ea : Int32) (n : Nat) (S : skyV) (B : bkV) : Prop :=
  a + 106 ≤ h.2 ∧ h.1 a = some (oC 9 [.ref (a + 1), .ref (a + 97), .ref (a + 3), .ref (a + 16), .ref bk, .ref dr, .int ea]) ∧ ((bk = a + 29 ∧ dr = a + 63) ∨ (bk = a + 63 ∧ dr = a + 29)) ∧
  is_Tp h (a + 1) tn tp ∧ is_SK h (a + 3) n S ∧ (∃ n' S', is_SK h (a + 16) n' S') ∧ is_BK h bk B ∧ (∃ B', is_BK h dr B') ∧ is_Rd h (a + 97) (a + 1)
section
variable {h h' : hp_M} {a bk dr tn : Nat} {tp : Nat → Int32} {ea : Int32} {n : Nat} {S : skyV} {B : bkV} {lo hi : Nat}
theorem is_SK.keep (t : is_SK h a n S) (r : fr lo hi h h') (ho : a + 13 ≤ lo ∨ hi ≤ a) : is_SK h' a n S := is_Sk.keep t r ho
theorem is_BK.keep (t : is_BK h a B) (r : fr lo hi h h') (ho : a + 34 ≤ lo ∨ hi ≤ a) : is_BK h' a B := is_Bk.keep t r ho
theorem is_SS.keep (o : is_SS h a bk dr tn tp ea n S B) (r : fr lo hi h h') (ho : a + 106 ≤ lo ∨ hi ≤ a) : is_SS h' a bk dr tn tp ea n S B := by
  obtain ⟨h1, h2, h3, h4, h5, ⟨n', S', h6⟩, h7, ⟨B', h8⟩, h9⟩ := o
  exact ⟨Nat.le_trans h1 r.1, r.cell h2 (by omega) (by omega), h3, h4.keep r (by omega), h5.keep r (by omega), ⟨n', S', h6.keep r (by omega)⟩, h7.keep r (by omega), ⟨B', h8.keep r (by omega)⟩, h9.keep r (by omega)⟩
theorem is_SS.on {β : Type} (o : is_SS h a bk dr tn tp ea n S B) (g : Option β) : onO h a 9 g = g := onO_of o.2.1
theorem is_SS.r0 (o : is_SS h a bk dr tn tp ea n S B) : gR h a 9 0 = some (a + 1) := gR_of o.2.1 rfl
theorem is_SS.r1 (o : is_SS h a bk dr tn tp ea n S B) : gR h a 9 1 = some (a + 97) := gR_of o.2.1 rfl
theorem is_SS.r2 (o : is_SS h a bk dr tn tp ea n S B) : gR h a 9 2 = some (a + 3) := gR_of o.2.1 rfl
theorem is_SS.r3 (o : is_SS h a bk dr tn tp ea n S B) : gR h a 9 3 = some (a + 16) := gR_of o.2.1 rfl
theorem is_SS.r4 (o : is_SS h a bk dr tn tp ea n S B) : gR h a 9 4 = some bk := gR_of o.2.1 rfl
theorem is_SS.r5 (o : is_SS h a bk dr tn tp ea n S B) : gR h a 9 5 = some dr := gR_of o.2.1 rfl
theorem is_SS.r6 (o : is_SS h a bk dr tn tp ea n S B) : gI h a 9 6 = some ea := gI_of o.2.1 rfl
theorem is_SS.tP (o : is_SS h a bk dr tn tp ea n S B) : is_Tp h (a + 1) tn tp := o.2.2.2.1
theorem is_SS.sk (o : is_SS h a bk dr tn tp ea n S B) : is_Sk h (a + 3) n S.1 S.2.2.2.2 S.2.2.1 S.2.2.2.1 S.2.1 := o.2.2.2.2.1
theorem is_SS.sK (o : is_SS h a bk dr tn tp ea n S B) : is_SK h (a + 3) n S := o.2.2.2.2.1
theorem is_SS.ah (o : is_SS h a bk dr tn tp ea n S B) : ∃ n' S', is_SK h (a + 16) n' S' := o.2.2.2.2.2.1
theorem is_SS.bK (o : is_SS h a bk dr tn tp ea n S B) : is_Bk h bk B.1 B.2.1 B.2.2.1 B.2.2.2 := o.2.2.2.2.2.2.1
theorem is_SS.bd (o : is_SS h a bk dr tn tp ea n S B) : bk = a + 29 ∨ bk = a + 63 := o.2.2.1.elim (fun q => Or.inl q.1) (fun q => Or.inr q.1)
theorem is_SS.setTp {tn' : Nat} {tp' : Nat → Int32} (o : is_SS h a bk dr tn tp ea n S B) (t : is_Tp h' (a + 1) tn' tp') (r : fr (a + 1) (a + 3) h h') : is_SS h' a bk dr tn' tp' ea n S B := by
  obtain ⟨h1, h2, h3, h4, h5, ⟨n', S', h6⟩, h7, ⟨B', h8⟩, h9⟩ := o
  exact ⟨Nat.le_trans h1 r.1, r.cell h2 (by omega) (by omega), h3, t, h5.keep r (by omega), ⟨n', S', h6.keep r (by omega)⟩, h7.keep r (by omega), ⟨B', h8.keep r (by omega)⟩, h9.keep r (by omega)⟩
theorem is_SS.setSk {S' : skyV} (o : is_SS h a bk dr tn tp ea n S B) (t : is_SK h' (a + 3) n S') (r : fr (a + 3) (a + 16) h h') : is_SS h' a bk dr tn tp ea n S' B := by
  obtain ⟨h1, h2, h3, h4, h5, ⟨n', S', h6⟩, h7, ⟨B', h8⟩, h9⟩ := o
  exact ⟨Nat.le_trans h1 r.1, r.cell h2 (by omega) (by omega), h3, h4.keep r (by omega), t, ⟨n', S', h6.keep r (by omega)⟩, h7.keep r (by omega), ⟨B', h8.keep r (by omega)⟩, h9.keep r (by omega)⟩
theorem is_SS.setAh {n' : Nat} {S' : skyV} (o : is_SS h a bk dr tn tp ea n S B) (t : is_SK h' (a + 16) n' S') (r : fr (a + 16) (a + 29) h h') : is_SS h' a bk dr tn tp ea n S B := by
  obtain ⟨h1, h2, h3, h4, h5, h6, h7, ⟨B', h8⟩, h9⟩ := o
  exact ⟨Nat.le_trans h1 r.1, r.cell h2 (by omega) (by omega), h3, h4.keep r (by omega), h5.keep r (by omega), ⟨n', S', t⟩, h7.keep r (by omega), ⟨B', h8.keep r (by omega)⟩, h9.keep r (by omega)⟩
theorem is_SS.setSkB {S' : skyV} {B1 : bkV} (o : is_SS h a bk dr tn tp ea n S B) (t : is_SK h' (a + 3) n S') (t1 : is_BK h' bk B1) (f : f2 (a + 3) (a + 16) bk (bk + 34) h h') : is_SS h' a bk dr tn tp ea n S' B1 := by
  obtain ⟨hm, r, r'⟩ := f.split
  obtain ⟨h1, h2, h3, h4, h5, ⟨n', S', h6⟩, h7, ⟨B', h8⟩, h9⟩ := o
  exact ⟨Nat.le_trans h1 f.1, r'.cell (r.cell h2 (by omega) (by omega)) (by have := r.1; omega) (by omega), h3, (h4.keep r (by omega)).keep r' (by omega), t, ⟨n', S', (h6.keep r (by omega)).keep r' (by omega)⟩, t1, ⟨B', (h8.keep r (by omega)).keep r' (by omega)⟩, (h9.keep r (by omega)).keep r' (by omega)⟩
theorem is_SS.setAhB {n' : Nat} {S' : skyV} {B1 : bkV} (o : is_SS h a bk dr tn tp ea n S B) (t : is_SK h' (a + 16) n' S') (t1 : is_BK h' bk B1) (f : f2 (a + 16) (a + 29) bk (bk + 34) h h') : is_SS h' a bk dr tn tp ea n S B1 := by
  obtain ⟨hm, r, r'⟩ := f.split
  obtain ⟨h1, h2, h3, h4, h5, h6, h7, ⟨B', h8⟩, h9⟩ := o
  exact ⟨Nat.le_trans h1 f.1, r'.cell (r.cell h2 (by omega) (by omega)) (by have := r.1; omega) (by omega), h3, (h4.keep r (by omega)).keep r' (by omega), (h5.keep r (by omega)).keep r' (by omega), ⟨n', S', t⟩, t1, ⟨B', (h8.keep r (by omega)).keep r' (by omega)⟩, (h9.keep r (by omega)).keep r' (by omega)⟩
theorem f2.fr {c d e g : Nat} (f : f2 c d e g h h') (h1 : lo ≤ c) (h2 : d ≤ hi) (h3 : lo ≤ e) (h4 : g ≤ hi) : fr lo hi h h' := ⟨f.1, fun q hq hl => f.2 q (by omega) (by omega) hl⟩
/-- a call that throws makes an exception, and nothing else -/
def hX (h : hp_M) : hp_M := (h.1, h.2 + 1)
theorem hX_fr (h : hp_M) (lo hi : Nat) : fr lo hi h (hX h) := ⟨Nat.le_succ _, fun _ _ _ => rfl⟩
theorem is_SS.X (o : is_SS h a bk dr tn tp ea n S B) : is_SS (hX h) a bk dr tn tp ea n S B := o.keep (hX_fr h a a) (Or.inr (Nat.le_refl _))
end
/-- x is one of 0 .. n - 1 -/
def inN (n : Nat) (x : Int32) : Prop := ∃ i, i < n ∧ x = ix i
theorem ix_cases (x : Int32) (n : Nat) (hn : n < 2147483648) : (x < 0) ∨ (∃ i, i < n ∧ x = ix i) ∨ (∃ i, n ≤ i ∧ i < 2147483648 ∧ x = ix i) := by
  by_cases h : x < 0
  · exact Or.inl h
  · obtain ⟨i, hi, rfl⟩ := ix_of (x := x) (by rw [i32_lt] at h; rw [i32_le]; omega)
    by_cases hq : i < n
    · exact Or.inr (Or.inl ⟨i, hq, rfl⟩)
    · exact Or.inr (Or.inr ⟨i, by omega, hi, rfl⟩)
theorem neg_not {x : Int32} (h : x < 0) (n : Nat) (hn : n ≤ 2147483648) : ¬ inN n x := by
  rintro ⟨i, hi, rfl⟩
  exact ix_nn (by omega) h
theorem big_not {i n : Nat} (h : n ≤ i) (hi : i < 2147483648) : ¬ inN n (ix i) := by
  rintro ⟨j, hj, e⟩
  have := (ix_inj hi (by omega)).mp e
  omega
section
variable {h : hp_M} {a bk dr tn : Nat} {tp : Nat → Int32} {ea : Int32} {n : Nat} {S : skyV} {B : bkV}
theorem SS_trim (o : is_SS h a bk dr tn tp ea n S B) {k : Nat} (hk : k ≤ tn) : ∃ h', f_SS_trim a (ix k) h = some (0, ix k, h') ∧ is_SS h' a bk dr k tp ea n S B ∧ fr a (a + 106) h h' ∧ h'.2 = h.2 := by
  have t2 := o.tP.2.1
  obtain ⟨h', e, t, r, z⟩ := o.tP.keepFirst hk
  refine ⟨h', ?_, o.setTp t r, r.mono (by omega) (by omega), z⟩
  unfold f_SS_trim jn; dsimp only
  rw [if_neg (ix_nn (by omega))]
  simp only [o.r0, o.tP.on, o.tP.size, e, Option.bind_some]
  rw [if_pos (ix_le1 hk (by omega))]
theorem SS_trimX (o : is_SS h a bk dr tn tp ea n S B) {x : Int32} (hx : ¬ inN (tn + 1) x) : f_SS_trim a x h = some (2, 0, hX h) := by
  have t2 := o.tP.2.1
  unfold f_SS_trim jn; dsimp only
  rcases ix_cases x (tn + 1) (by omega) with q | ⟨i, hi, rfl⟩ | ⟨i, hi, hb, rfl⟩
  · rw [if_pos q]; rfl
  · exact absurd ⟨i, hi, rfl⟩ hx
  · rw [if_neg (ix_nn hb)]
    simp only [o.r0, o.tP.on, o.tP.size, Option.bind_some]
    rw [if_neg (ix_nle (by omega) hb)]; rfl
theorem SS_errorAt (o : is_SS h a bk dr tn tp ea n S B) : f_SS_errorAt a h = some ea := by
  unfold f_SS_errorAt
  simp only [o.r6, Option.bind_some]
/-- the numbers that count() tells -/
def cntV (n : Nat) (S : skyV) (tn nA nR : Nat) (k : Nat) : Int32 := if k = 0 then S.2.1 else if k = 1 then ix n else if k = 2 then ix nA else if k = 3 then ix nR else if k = 4 then ix tn else if k = 5 then ix S.2.2.1 else if k = 6 then sumV (fun i => rv (S.1 i) S.2.1) n else prsV S.1 n n 0 0
theorem SS_counted (o : is_SS h a bk dr tn tp ea n S B) (ok : okY n S.1) {fl : Nat} (hfl : 5000 ≤ fl) {k : Nat} (hk : k < 8) : f_SS_counted fl a (ix k) h = some (cntV n S tn B.2.1.length B.2.2.2.length k) := by
  have : k = 0 ∨ k = 1 ∨ k = 2 ∨ k = 3 ∨ k = 4 ∨ k = 5 ∨ k = 6 ∨ k = 7 := by omega
  rcases this with r | r | r | r | r | r | r | r <;> subst r
  · show (gR h a 9 2).bind (fun v2 => (onO h v2 7 (f_Sk_day v2 h)).bind fun r3 => some r3) = some S.2.1
    simp only [o.r2, o.sk.on, o.sk.day, Option.bind_some]
  · show (gR h a 9 2).bind (fun v2 => (onO h v2 7 (f_Sk_planets v2 h)).bind fun r3 => some r3) = some (ix n)
    simp only [o.r2, o.sk.on, o.sk.planets, Option.bind_some]
  · show (gR h a 9 4).bind (fun v2 => (onO h v2 1 (f_Bk_alphabets v2 h)).bind fun r3 => some r3) = some (ix B.2.1.length)
    simp only [o.r4, o.bK.on, o.bK.alphabets, Option.bind_some]
  · show (gR h a 9 4).bind (fun v2 => (onO h v2 1 (f_Bk_rules v2 h)).bind fun r3 => some r3) = some (ix B.2.2.2.length)
    simp only [o.r4, o.bK.on, o.bK.rules, Option.bind_some]
  · show (gR h a 9 0).bind (fun v2 => (onO h v2 8 (f_Tp_size v2 h)).bind fun r3 => some r3) = some (ix tn)
    simp only [o.r0, o.tP.on, o.tP.size, Option.bind_some]
  · show (gR h a 9 2).bind (fun v2 => (onO h v2 7 (f_Sk_paper v2 h)).bind fun r3 => (onO h r3 2 (f_Pp_size r3 h)).bind fun r4 => some r4) = some (ix S.2.2.1)
    simp only [o.r2, o.sk.on, o.sk.fpaper, o.sk.paper.on, o.sk.paper.size, Option.bind_some]
  · show (gR h a 9 2).bind (fun v2 => (onO h v2 7 (f_Sk_retros fl v2 h)).bind fun r3 => some r3) = some (sumV (fun i => rv (S.1 i) S.2.1) n)
    simp only [o.r2, o.sk.on, o.sk.retros ok hfl, Option.bind_some]
  · show (gR h a 9 2).bind (fun v2 => (onO h v2 7 (f_Sk_transits fl v2 h)).bind fun r3 => some r3) = some (prsV S.1 n n 0 0)
    simp only [o.r2, o.sk.on, o.sk.transits hfl, Option.bind_some]
theorem SS_count (o : is_SS h a bk dr tn tp ea n S B) (ok : okY n S.1) {fl : Nat} (hfl : 5000 ≤ fl) {k : Nat} (hk : k < 8) : f_SS_count fl a (ix k) h = some (0, cntV n S tn B.2.1.length B.2.2.2.length k, h) := by
  unfold f_SS_count jn; dsimp only
  rw [if_neg (ix_nn (by omega)), show (8 : Int32) = ix 8 from rfl, if_pos (ix_lt1 hk (by omega))]
  simp only [o.on, SS_counted o ok hfl hk, Option.bind_some]
theorem SS_countX {fl : Nat} {x : Int32} (hx : ¬ inN 8 x) : f_SS_count fl a x h = some (3, 0, hX h) := by
  unfold f_SS_count jn; dsimp only
  rcases ix_cases x 8 (by omega) with q | ⟨i, hi, rfl⟩ | ⟨i, hi, hb, rfl⟩
  · rw [if_pos q]; rfl
  · exact absurd ⟨i, hi, rfl⟩ hx
  · rw [if_neg (ix_nn hb), show (8 : Int32) = ix 8 from rfl, if_neg (ix_nlt hi hb)]; rfl
theorem SS_planet (o : is_SS h a bk dr tn tp ea n S B) (ok : okY n S.1) {i k : Nat} (hi : i < n) (hk : k < 7) : f_SS_planet a (ix i) (ix k) h = some (0, fact (S.1 i) S.2.1 k, h) := by
  unfold f_SS_planet jn; dsimp only
  simp only [o.r2, o.sk.on, o.sk.has hi, o.sk.factOf ok hi hk, Option.bind_some]
  rw [if_neg (by decide), if_neg (ix_nn (by omega)), show (7 : Int32) = ix 7 from rfl, if_pos (ix_lt1 hk (by omega))]
theorem SS_planetX (o : is_SS h a bk dr tn tp ea n S B) {x y : Int32} (hx : ¬ (inN n x ∧ inN 7 y)) : f_SS_planet a x y h = some (3, 0, hX h) := by
  unfold f_SS_planet jn; dsimp only
  by_cases hq : inN n x
  · obtain ⟨i, hi, rfl⟩ := hq
    simp only [o.r2, o.sk.on, o.sk.has hi, Option.bind_some]
    rw [if_neg (by decide)]
    rcases ix_cases y 7 (by omega) with q | ⟨j, hj, rfl⟩ | ⟨j, hj, hb, rfl⟩
    · rw [if_pos q]; rfl
    · exact absurd ⟨⟨i, hi, rfl⟩, ⟨j, hj, rfl⟩⟩ hx
    · rw [if_neg (ix_nn hb), show (7 : Int32) = ix 7 from rfl, if_neg (ix_nlt hj hb)]; rfl
  · simp only [o.r2, o.sk.on, o.sk.hasNot hq, Option.bind_some]
    rw [if_pos trivial]; rfl
def setV (S : skyV) (i : Nat) (x : Int32) : skyV := (upP S.1 i (upd (upd (S.1 i) 4 x) 5 x), S.2.1, S.2.2)
theorem SS_set (o : is_SS h a bk dr tn tp ea n S B) {i k : Nat} (hi : i < n) (hk : k < 360) : ∃ h', f_SS_set a (ix i) (ix k) h = some (0, S.1 i 4, h') ∧ is_SS h' a bk dr tn tp ea n (setV S i (ix k)) B ∧ fr a (a + 106) h h' ∧ h'.2 = h.2 := by
  obtain ⟨h', e, t, r, z⟩ := o.sk.putAt hi (ix k)
  refine ⟨h', ?_, o.setSk t r, r.mono (by omega) (by omega), z⟩
  unfold f_SS_set jn; dsimp only
  simp only [o.r2, o.sk.on, o.sk.has hi, o.sk.angleOf hi, e, Option.bind_some]
  rw [if_neg (by decide), if_neg (ix_nn (by omega)), show (360 : Int32) = ix 360 from rfl, if_pos (ix_lt1 hk (by omega))]
theorem SS_setX1 (o : is_SS h a bk dr tn tp ea n S B) {x y : Int32} (hx : ¬ inN n x) : f_SS_set a x y h = some (3, 0, hX h) := by
  unfold f_SS_set jn; dsimp only
  simp only [o.r2, o.sk.on, o.sk.hasNot hx, Option.bind_some]
  rw [if_pos trivial]; rfl
theorem SS_setX2 (o : is_SS h a bk dr tn tp ea n S B) {i : Nat} {y : Int32} (hi : i < n) (hy : ¬ inN 360 y) : f_SS_set a (ix i) y h = some (2, 0, hX h) := by
  unfold f_SS_set jn; dsimp only
  simp only [o.r2, o.sk.on, o.sk.has hi, Option.bind_some]
  rw [if_neg (by decide)]
  rcases ix_cases y 360 (by omega) with q | ⟨j, hj, rfl⟩ | ⟨j, hj, hb, rfl⟩
  · rw [if_pos q]; rfl
  · exact absurd ⟨j, hj, rfl⟩ hy
  · rw [if_neg (ix_nn hb), show (360 : Int32) = ix 360 from rfl, if_neg (ix_nlt hj hb)]; rfl
theorem SS_gap (o : is_SS h a bk dr tn tp ea n S B) {i j : Nat} (hi : i < n) (hj : j < n) : f_SS_gap a (ix i) (ix j) h = some (0, sht (S.1 i 4 - S.1 j 4), h) := by
  unfold f_SS_gap jn; dsimp only
  simp only [o.r2, o.sk.on, o.sk.has hi, o.sk.has hj, o.sk.gapOf hi hj, Option.bind_some]
  rw [if_neg (by decide), if_neg (by decide)]
theorem SS_gapX (o : is_SS h a bk dr tn tp ea n S B) {x y : Int32} (hx : ¬ (inN n x ∧ inN n y)) : f_SS_gap a x y h = some (3, 0, hX h) := by
  unfold f_SS_gap jn; dsimp only
  by_cases hq : inN n x
  · obtain ⟨i, hi, rfl⟩ := hq
    have hy : ¬ inN n y := fun q => hx ⟨⟨i, hi, rfl⟩, q⟩
    simp only [o.r2, o.sk.on, o.sk.has hi, o.sk.hasNot hy, Option.bind_some]
    rw [if_neg (by decide), if_pos trivial]; rfl
  · simp only [o.r2, o.sk.on, o.sk.hasNot hq, Option.bind_some]
    rw [if_pos trivial]; rfl
theorem SS_meets (o : is_SS h a bk dr tn tp ea n S B) {i j : Nat} (hi : i < n) (hj : j < n) (z : Int32) : f_SS_meets a (ix i) (ix j) z h = some (0, meetV (S.1 i) (S.1 j) (if z = 0 then 0 else 180), h) := by
  unfold f_SS_meets jn; dsimp only
  simp only [o.r2, o.sk.on, o.sk.has hi, o.sk.has hj, o.sk.areMet hi hj, Option.bind_some]
  rw [if_neg (by decide), if_neg (by decide)]
theorem SS_meetsX (o : is_SS h a bk dr tn tp ea n S B) {x y z : Int32} (hx : ¬ (inN n x ∧ inN n y)) : f_SS_meets a x y z h = some (3, 0, hX h) := by
  unfold f_SS_meets jn; dsimp only
  by_cases hq : inN n x
  · obtain ⟨i, hi, rfl⟩ := hq
    have hy : ¬ inN n y := fun q => hx ⟨⟨i, hi, rfl⟩, q⟩
    simp only [o.r2, o.sk.on, o.sk.has hi, o.sk.hasNot hy, Option.bind_some]
    rw [if_neg (by decide), if_pos trivial]; rfl
  · simp only [o.r2, o.sk.on, o.sk.hasNot hq, Option.bind_some]
    rw [if_pos trivial]; rfl
theorem SS_letter (o : is_SS h a bk dr tn tp ea n S B) {i j : Nat} (hi : i < B.2.1.length) (hj : j < (alV B.2.1 i).length) : f_SS_letter a (ix i) (ix j) h = some (0, (alV B.2.1 i).getD j 0, h) := by
  have h12 := (o.bK.alp hi).2.1
  unfold f_SS_letter jn; dsimp only
  simp only [o.r4, o.bK.on, o.bK.hasA hi, o.bK.lettersOf hi, o.bK.letterOf hi hj, Option.bind_some]
  have hj' : j < (B.2.1.getD i (0, [])).2.length := hj
  rw [if_neg (by decide), if_neg (ix_nn (by omega)), if_pos (ix_lt1 hj' (by omega))]
  rfl
theorem SS_letterX1 (o : is_SS h a bk dr tn tp ea n S B) {x y : Int32} (hx : ¬ inN B.2.1.length x) : f_SS_letter a x y h = some (3, 0, hX h) := by
  unfold f_SS_letter jn; dsimp only
  simp only [o.r4, o.bK.on, o.bK.hasNotA hx, Option.bind_some]
  rw [if_pos trivial]; rfl
theorem SS_letterX2 (o : is_SS h a bk dr tn tp ea n S B) {i : Nat} {y : Int32} (hi : i < B.2.1.length) (hy : ¬ inN (alV B.2.1 i).length y) : f_SS_letter a (ix i) y h = some (3, 0, hX h) := by
  have h12 := (o.bK.alp hi).2.1
  unfold f_SS_letter jn; dsimp only
  simp only [o.r4, o.bK.on, o.bK.hasA hi, o.bK.lettersOf hi, Option.bind_some]
  rw [if_neg (by decide)]
  rcases ix_cases y (alV B.2.1 i).length (by unfold alV; omega) with q | ⟨j, hj, rfl⟩ | ⟨j, hj, hb, rfl⟩
  · rw [if_pos q]; rfl
  · exact absurd ⟨j, hj, rfl⟩ hy
  · have hj' : (B.2.1.getD i (0, [])).2.length ≤ j := hj
    rw [if_neg (ix_nn hb), if_neg (ix_nlt hj' hb)]; rfl
theorem SS_wrote (o : is_SS h a bk dr tn tp ea n S B) {i : Nat} (hi : i < B.2.2.2.length) : f_SS_wrote a (ix i) h = some (0, S.2.2.2.2 i, h) := by
  have h12 := o.bK.2.1
  unfold f_SS_wrote jn; dsimp only
  rw [if_neg (ix_nn (by omega))]
  simp only [o.r4, o.r2, o.bK.on, o.bK.rules, o.sk.on, o.sk.writtenBy (show i < 12 by omega), Option.bind_some]
  rw [if_pos (ix_lt1 hi (by omega))]
theorem SS_wroteX (o : is_SS h a bk dr tn tp ea n S B) {x : Int32} (hx : ¬ inN B.2.2.2.length x) : f_SS_wrote a x h = some (3, 0, hX h) := by
  have h12 := o.bK.2.1
  unfold f_SS_wrote jn; dsimp only
  rcases ix_cases x B.2.2.2.length (by omega) with q | ⟨i, hi, rfl⟩ | ⟨i, hi, hb, rfl⟩
  · rw [if_pos q]; rfl
  · exact absurd ⟨i, hi, rfl⟩ hx
  · rw [if_neg (ix_nn hb)]
    simp only [o.r4, o.bK.on, o.bK.rules, Option.bind_some]
    rw [if_neg (ix_nlt hi hb)]; rfl
theorem SS_byteAt (o : is_SS h a bk dr tn tp ea n S B) {i : Nat} (hi : i < S.2.2.1) : f_SS_byteAt a (ix i) h = some (0, S.2.2.2.1 i, h) := by
  have h12 := o.sk.pn600
  unfold f_SS_byteAt jn; dsimp only
  rw [if_neg (ix_nn (by omega))]
  simp only [o.r2, o.sk.on, o.sk.fpaper, o.sk.paper.on, o.sk.paper.size, o.sk.paper.at hi, Option.bind_some]
  rw [if_pos (ix_lt1 hi (by omega))]
theorem SS_byteAtX (o : is_SS h a bk dr tn tp ea n S B) {x : Int32} (hx : ¬ inN S.2.2.1 x) : f_SS_byteAt a x h = some (3, 0, hX h) := by
  have h12 := o.sk.pn600
  unfold f_SS_byteAt jn; dsimp only
  rcases ix_cases x S.2.2.1 (by omega) with q | ⟨i, hi, rfl⟩ | ⟨i, hi, hb, rfl⟩
  · rw [if_pos q]; rfl
  · exact absurd ⟨i, hi, rfl⟩ hx
  · rw [if_neg (ix_nn hb)]
    simp only [o.r2, o.sk.on, o.sk.fpaper, o.sk.paper.on, o.sk.paper.size, Option.bind_some]
    rw [if_neg (ix_nlt hi hb)]; rfl
def clrV (S : skyV) : skyV := (S.1, S.2.1, 0, S.2.2.2)
theorem SS_clear (o : is_SS h a bk dr tn tp ea n S B) : ∃ h', f_SS_clear a h = some (ix S.2.2.1, h') ∧ is_SS h' a bk dr tn tp ea n (clrV S) B ∧ fr a (a + 106) h h' ∧ h'.2 = h.2 := by
  obtain ⟨h', e, t, r, z⟩ := o.sk.paper.wipe
  refine ⟨h', ?_, o.setSk (o.sk.setPp t r) (r.mono (by omega) (by omega)), r.mono (by omega) (by omega), z⟩
  unfold f_SS_clear
  simp only [o.r2, o.sk.on, o.sk.fpaper, o.sk.paper.on, o.sk.paper.size, e, Option.bind_some]
theorem SS_find (o : is_SS h a bk dr tn tp ea n S B) {fl : Nat} (hfl : 5000 ≤ fl) : f_SS_find fl a h = some (fnd S.2.2.2.1 S.2.2.1 tp tn 0) := by
  unfold f_SS_find
  simp only [o.r2, o.r0, o.sk.on, o.sk.fpaper, o.sk.paper.on, show (0 : Int32) = ix 0 from rfl, o.sk.paper.placeOf o.tP hfl (show 0 ≤ 3000 by omega), Option.bind_some]
end
