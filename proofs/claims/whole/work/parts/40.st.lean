/-! What a State of the Model answers, and its day. -/
theorem upd_self (f : Nat → Int32) (i : Nat) (x : Int32) : upd f i x i = x := by unfold upd; rw [if_pos rfl]
theorem upd_ne (f : Nat → Int32) {i j : Nat} (x : Int32) (n : j ≠ i) : upd f i x j = f j := by unfold upd; rw [if_neg n]
def ang (S : skyV) : Nat → Int32 := fun i => S.1 i 4
def bef (S : skyV) : Nat → Int32 := fun i => S.1 i 5
def lps (S : skyV) : Nat → Int32 := fun i => S.1 i 6
def is_ST (h : hp_M) (m a n : Nat) (S : skyV) : Prop := is_St h m a n (ang S) (bef S) (lps S) S.2.2.2.2 S.2.2.1 S.2.2.2.1 S.2.1
theorem i32_z : (0 : Int32).toInt = 0 := by decide
theorem i32_180 : (180 : Int32).toInt = 180 := by decide
theorem i32_360 : (360 : Int32).toInt = 360 := by decide
theorem gapOf_of {x y : Int32} (h1 : -1000 < (x - y).toInt) (h2 : (x - y).toInt < 1000) (h : hp_M) : f_Md_gapOf x y h = some (sht (x - y)) := by
  rw [← gap_eq h1 h2]
  unfold f_Md_gapOf
  rw [fmI_of (by rw [i32_360]; omega)]
  simp only [Option.bind_some]
  split <;> rfl
theorem gap2_of {x y f : Int32} (hx : 0 ≤ x.toInt ∧ x.toInt < 360) (hy : 0 ≤ y.toInt ∧ y.toInt < 360) (hf : f = 0 ∨ f = 180) (h : hp_M) : f_Md_gapOf x (y + f) h = some (sht (x - y - f)) := by
  have f1 : 0 ≤ f.toInt ∧ f.toInt ≤ 180 := by
    rcases hf with rfl | rfl
    · rw [i32_z]; omega
    · rw [i32_180]; omega
  have a1 : (y + f).toInt = y.toInt + f.toInt := i32_add (by omega) (by omega)
  have a2 : (x - (y + f)).toInt = x.toInt - (y.toInt + f.toInt) := by rw [i32_sub] <;> rw [a1] <;> omega
  have a3 : (x - y).toInt = x.toInt - y.toInt := i32_sub (by omega) (by omega)
  have a4 : (x - y - f).toInt = x.toInt - y.toInt - f.toInt := by rw [i32_sub] <;> rw [a3] <;> omega
  have e : x - (y + f) = x - y - f := Int32.toInt_inj.mp (by rw [a2, a4]; omega)
  rw [gapOf_of (by rw [a2]; omega) (by rw [a2]; omega), e]
theorem gap0_of {x y : Int32} (hx : 0 ≤ x.toInt ∧ x.toInt < 360) (hy : 0 ≤ y.toInt ∧ y.toInt < 360) (h : hp_M) : f_Md_gapOf x y h = some (sht (x - y)) := by
  have a3 : (x - y).toInt = x.toInt - y.toInt := i32_sub (by omega) (by omega)
  exact gapOf_of (by rw [a3]; omega) (by rw [a3]; omega) h
section
variable {h : hp_M} {m a n t : Nat} {x4 x5 x6 : Nat → Int32} {P : Nat → Nat → Int32} {wt : Nat → Int32} {pn : Nat} {pp : Nat → Int32} {d : Int32} {th : Int32} {tn : Nat} {tp : Nat → Int32} {ea tk dp : Int32} {rd : Nat} {nA : Nat} {A : Nat → List Int32} {Rs : List ruV}
theorem is_St.isRetro (s : is_St h m a n x4 x5 x6 wt pn pp d) (o : is_Mo h m th tn tp ea tk dp t rd) (u : is_To h t n P nA A Rs) (ok : okY n P) {i : Nat} (hi : i < n) : f_St_isRetro a (ix i) h = some (rv (P i) d) := by
  obtain ⟨q1, q2, q3, q4⟩ := u.pl hi
  unfold f_St_isRetro
  simp only [s.r0, s.r8, o.r11, u.r1, ix5, ixp4, ixp3, q3, q4, Option.bind_some, remI_of (pos_ne (ok i hi).ev)]
  unfold rv
  split <;> rfl
theorem is_St.set (s : is_St h m a n x4 x5 x6 wt pn pp d) {i : Nat} (hi : i < n) (x : Int32) : ∃ h', f_St_set a (ix i) x h = some h' ∧ is_St h' m a n (upd x4 i x) (upd x5 i x) x6 wt pn pp d ∧ fr a (a + 7) h h' ∧ h'.2 = h.2 := by
  obtain ⟨h1, e1, s1, r1, z1⟩ := s.putA hi x
  obtain ⟨h2, e2, s2, r2, z2⟩ := s1.putB hi x
  refine ⟨h2, ?_, s2, r1.trans r2, by omega⟩
  unfold f_St_set
  simp only [s.r1, e1, s1.r2, e2, Option.bind_some]
theorem met_tree (now bef : Int32) : (if now = 0 then some 1 else if 0 ≤ now then (if now ≤ 0 then some 0 else if 0 ≤ bef then some 0 else if 180 ≤ iabs now + iabs bef then some 0 else some 1) else if 0 < bef then (if 180 ≤ iabs now + iabs bef then some 0 else some 1) else (if now ≤ 0 then some 0 else if 0 ≤ bef then some 0 else if 180 ≤ iabs now + iabs bef then some 0 else some 1)) = some (met now bef) := by
  unfold met
  rw [Int32.add_comm (iabs bef) (iabs now)]
  have e : ∀ x y : Int32, x = y ↔ x.toInt = y.toInt := fun x y => Int32.toInt_inj.symm
  simp only [i32_lt, i32_le, e, i32_z]
  (repeat' split) <;> first | rfl | (exfalso; omega)
theorem is_St.meets (s : is_St h m a n (fun i => P i 4) (fun i => P i 5) x6 wt pn pp d) (ok : okY n P) {i j : Nat} (hi : i < n) (hj : j < n) {f : Int32} (hf : f = 0 ∨ f = 180) : f_St_meets a (ix i) (ix j) f h = some (meetV (P i) (P j) f) := by
  have c1 := (ok i hi).2.2
  have c2 := (ok j hj).2.2
  unfold f_St_meets jn
  simp only [s.r1, s.r2, s.ang hi, s.ang hj, s.bef hi, s.bef hj, Option.bind_some, gap2_of c1.1 c2.1 hf, gap2_of c1.2 c2.2 hf]
  exact met_tree _ _
theorem is_St.laps_b (s : is_St h m a n x4 x5 x6 wt pn pp d) (o : is_Mo h m th tn tp ea tk dp t rd) (u : is_To h t n P nA A Rs) (fl : Nat) : ∀ r fu i, i + r = n → r < fu → f_St_laps_b4 fl a h fu (sumV x6 i) (ix i) = some (sumV x6 n) := by
  have h8 := s.n8
  intro r
  induction r with
  | zero =>
    intro fu i hi hf
    obtain ⟨fu, rfl⟩ : ∃ q, fu = q + 1 := ⟨fu - 1, by omega⟩
    have : i = n := by omega
    subst this
    unfold f_St_laps_b4
    simp only [s.r8, o.r11, u.r0, Option.bind_some]
    rw [if_pos (ix_le1 (Nat.le_refl _) (by omega))]
  | succ r ih =>
    intro fu i hi hf
    obtain ⟨fu, rfl⟩ : ∃ q, fu = q + 1 := ⟨fu - 1, by omega⟩
    unfold f_St_laps_b4
    simp only [s.r8, o.r11, u.r0, s.r3, s.lap (show i < n by omega), Option.bind_some, ixp1]
    rw [if_neg (ix_nle (by omega) (by omega))]
    exact ih fu (i + 1) (by omega) (by omega)
theorem is_St.laps (s : is_St h m a n x4 x5 x6 wt pn pp d) (o : is_Mo h m th tn tp ea tk dp t rd) (u : is_To h t n P nA A Rs) {fl : Nat} (hfl : 5000 ≤ fl) : f_St_laps fl a h = some (sumV x6 n) := by
  have h8 := s.n8
  unfold f_St_laps
  exact s.laps_b o u fl n fl 0 (by omega) (by omega)
theorem is_St.pairs_b22 (s : is_St h m a n (fun i => P i 4) (fun i => P i 5) x6 wt pn pp d) (o : is_Mo h m th tn tp ea tk dp t rd) (u : is_To h t n P nA A Rs) (ok : okY n P) (fl i : Nat) (hi : i < n) (k : Int32 → Option Int32) : ∀ r fu j v, j + r = n → r < fu → f_St_pairs_b22 fl a (ix i) h k fu v (ix j) = k (rowV P i r j v) := by
  have h8 := s.n8
  intro r
  induction r with
  | zero =>
    intro fu j v hj hf
    obtain ⟨fu, rfl⟩ : ∃ q, fu = q + 1 := ⟨fu - 1, by omega⟩
    have : j = n := by omega
    subst this
    unfold f_St_pairs_b22
    simp only [s.r8, o.r11, u.r0, Option.bind_some]
    rw [if_pos (ix_le1 (Nat.le_refl _) (by omega))]
    rfl
  | succ r ih =>
    intro fu j v hj hf
    obtain ⟨fu, rfl⟩ : ∃ q, fu = q + 1 := ⟨fu - 1, by omega⟩
    have ih' := ih fu (j + 1) (v + meetV (P i) (P j) 0) (by omega) (by omega)
    unfold f_St_pairs_b22 jn rowV
    simp only [s.r8, o.r11, u.r0, s.on, s.meets ok hi (show j < n by omega) (Or.inl rfl), Option.bind_some, ixp1]
    rw [if_neg (ix_nle (by omega) (by omega))]
    rcases meetV_01 (P i) (P j) 0 with q | q
    · rw [if_pos q]; rw [q] at ih' ⊢; exact ih'
    · rw [if_neg (by rw [q]; decide)]; rw [q] at ih' ⊢; exact ih'
theorem is_St.pairs_b4 (s : is_St h m a n (fun i => P i 4) (fun i => P i 5) x6 wt pn pp d) (o : is_Mo h m th tn tp ea tk dp t rd) (u : is_To h t n P nA A Rs) (ok : okY n P) {fl : Nat} (hfl : 5000 ≤ fl) : ∀ r fu i v, i + r = n → r < fu → f_St_pairs_b4 fl a h fu v (ix i) = some (prsV P n r i v) := by
  have h8 := s.n8
  intro r
  induction r with
  | zero =>
    intro fu j v hj hf
    obtain ⟨fu, rfl⟩ : ∃ q, fu = q + 1 := ⟨fu - 1, by omega⟩
    have : j = n := by omega
    subst this
    unfold f_St_pairs_b4
    simp only [s.r8, o.r11, u.r0, Option.bind_some]
    rw [if_pos (ix_le1 (Nat.le_refl _) (by omega))]
    rfl
  | succ r ih =>
    intro fu i v hj hf
    obtain ⟨fu, rfl⟩ : ∃ q, fu = q + 1 := ⟨fu - 1, by omega⟩
    unfold f_St_pairs_b4
    simp only [s.r8, o.r11, u.r0, Option.bind_some, ixp1]
    rw [if_neg (ix_nle (by omega) (by omega)), s.pairs_b22 o u ok fl i (by omega) _ (n - (i + 1)) fl (i + 1) v (by omega) (by omega)]
    exact ih fu (i + 1) _ (by omega) (by omega)
theorem is_St.pairs (s : is_St h m a n (fun i => P i 4) (fun i => P i 5) x6 wt pn pp d) (o : is_Mo h m th tn tp ea tk dp t rd) (u : is_To h t n P nA A Rs) (ok : okY n P) {fl : Nat} (hfl : 5000 ≤ fl) : f_St_pairs fl a h = some (prsV P n n 0 0) := by
  have h8 := s.n8
  unfold f_St_pairs
  exact s.pairs_b4 o u ok hfl n fl 0 0 (by omega) (by omega)
end
section
variable {m a n t : Nat} {P : Nat → Nat → Int32} {wt : Nat → Int32} {pn : Nat} {pp : Nat → Int32} {d : Int32} {th : Int32} {tn : Nat} {tp : Nat → Int32} {ea tk dp : Int32} {rd : Nat} {nA : Nat} {A : Nat → List Int32} {Rs : List ruV}
theorem lap_tree (y : Int32) (z : Int32) {β : Type} (k : Int32 → β) : (if 0 ≤ y then (if y ≤ 359 then k (z + 0) else k (z + 1)) else k (z + -1)) = k (if y < 360 then (if 0 ≤ y then z else z - 1) else z + 1) := by
  have e0 : z + 0 = z := by simp
  have e1 : z + -1 = z - 1 := by rw [Int32.sub_eq_add_neg]
  have e2 : (359 : Int32).toInt = 359 := by decide
  rw [e0, e1]
  by_cases h0 : 0 ≤ y
  · by_cases h1 : y ≤ 359
    · have : y < 360 := by rw [i32_lt, i32_360]; rw [i32_le, e2] at h1; omega
      rw [if_pos h0, if_pos h1, if_pos this, if_pos h0]
    · have : ¬ y < 360 := by rw [i32_lt, i32_360]; rw [i32_le, e2] at h1; omega
      rw [if_pos h0, if_neg h1, if_neg this]
  · have : y < 360 := by rw [i32_lt, i32_360]; rw [i32_le, i32_z] at h0; omega
    rw [if_neg h0, if_pos this, if_neg h0]
theorem mvt_bd {p : Nat → Int32} (o : okp p) (d : Int32) : -360 ≤ (mvt p d).toInt ∧ (mvt p d).toInt < 720 := by
  obtain ⟨⟨a1, a2⟩, ⟨b1, b2, b3⟩, ⟨c1, c2⟩, ⟨d1, d2⟩⟩ := o
  have n1 : (-(p 1)).toInt = -(p 1).toInt := i32_neg (by omega)
  unfold mvt
  split
  · rw [i32_add] <;> omega
  · rw [i32_add] <;> rw [n1] <;> omega
theorem St_move_b (hm : m + 16 ≤ a) (ht : t + 9 ≤ a ∨ a + 7 ≤ t) (ok : okY n P) (fl : Nat) : ∀ r fu i (h : hp_M) (x4 x5 x6 : Nat → Int32), is_St h m a n x4 x5 x6 wt pn pp d → is_Mo h m th tn tp ea tk dp t rd → is_To h t n P nA A Rs → (∀ j, i ≤ j → j < n → x4 j = P j 4 ∧ x6 j = P j 6) → i + r = n → r < fu → ∃ h', f_St_move_b12 fl a fu (ix i) h = some h' ∧ is_St h' m a n (fun j => if i ≤ j then mv (P j) d 4 else x4 j) (fun j => if i ≤ j then mv (P j) d 5 else x5 j) (fun j => if i ≤ j then mv (P j) d 6 else x6 j) wt pn pp d ∧ fr a (a + 7) h h' ∧ h'.2 = h.2 := by
  intro r
  induction r with
  | zero =>
    intro fu i h x4 x5 x6 s o u e hi hf
    have h8 := s.n8
    obtain ⟨fu, rfl⟩ : ∃ q, fu = q + 1 := ⟨fu - 1, by omega⟩
    have : i = n := by omega
    subst this
    unfold f_St_move_b12
    simp only [s.r8, o.r11, u.r0, Option.bind_some]
    rw [if_pos (ix_le1 (Nat.le_refl _) (by omega))]
    exact ⟨h, rfl, s.congr (fun j hj => by rw [if_neg (by omega), if_neg (by omega), if_neg (by omega)]; exact ⟨rfl, rfl, rfl⟩), fr.refl _ _ _, rfl⟩
  | succ r ih =>
    intro fu i h x4 x5 x6 s o u e hi hf
    have h8 := s.n8
    have hin : i < n := by omega
    obtain ⟨fu, rfl⟩ : ∃ q, fu = q + 1 := ⟨fu - 1, by omega⟩
    obtain ⟨e4, e6⟩ := e i (Nat.le_refl _) hin
    obtain ⟨h1, f1, s1, r1, z1⟩ := s.putB hin (x4 i)
    have o1 := o.keep r1 (by omega)
    have u1 := u.keep r1 (by omega)
    obtain ⟨q1, q2, q3, q4⟩ := u1.pl hin
    obtain ⟨h2, f2, s2, r2, z2⟩ := s1.putL hin (if mvt (P i) d < 360 then (if 0 ≤ mvt (P i) d then P i 6 else P i 6 - 1) else P i 6 + 1)
    obtain ⟨h3, f3, s3, r3, z3⟩ := s2.putA hin (adj (mvt (P i) d))
    have rr := (r1.trans r2).trans r3
    have o3 := o.keep rr (by omega)
    have u3 := u.keep rr (by omega)
    obtain ⟨h', f', s', r', z'⟩ := ih fu (i + 1) h3 _ _ _ s3 o3 u3 (fun j hj hn => by
      rw [upd_ne _ _ (by omega), upd_ne _ _ (by omega)]; exact e j (by omega) hn) (by omega) (by omega)
    have bd := mvt_bd (ok i hin) d
    have f1' := f1
    rw [e4] at f1'
    refine ⟨h', ?_, s'.congr (fun j hj => ?_), rr.trans r', by omega⟩
    · unfold f_St_move_b12 jn
      simp only [s.r8, s.r1, s.r2, o.r11, u.r0, s.ang hin, Option.bind_some, f1', s1.r1, s1.ang hin, s1.on, s1.isRetro o1 u1 ok hin, s1.r8, o1.r11, u1.r1, ix5, ixp1, q2, s1.r3, s1.lap hin, e4, e6]
      rw [if_neg (ix_nle (by omega) (by omega))]
      have key : ∀ y, y = mvt (P i) d → (if 0 ≤ y then (if y ≤ 359 then (paI h1 (a + 3) (ix i) (P i 6 + 0)).bind (fun h1030 => (gR h1030 a 10 1).bind fun v1031 => (remI (y + 360) 360).bind fun v1032 => (paI h1030 v1031 (ix i) v1032).bind fun h1033 => f_St_move_b12 fl a fu (ix (i + 1)) h1033) else (paI h1 (a + 3) (ix i) (P i 6 + 1)).bind (fun h1030 => (gR h1030 a 10 1).bind fun v1031 => (remI (y + 360) 360).bind fun v1032 => (paI h1030 v1031 (ix i) v1032).bind fun h1033 => f_St_move_b12 fl a fu (ix (i + 1)) h1033)) else (paI h1 (a + 3) (ix i) (P i 6 + -1)).bind (fun h1030 => (gR h1030 a 10 1).bind fun v1031 => (remI (y + 360) 360).bind fun v1032 => (paI h1030 v1031 (ix i) v1032).bind fun h1033 => f_St_move_b12 fl a fu (ix (i + 1)) h1033)) = some h' := fun y hy => by
        subst hy
        rw [lap_tree (mvt (P i) d) (P i 6) (fun z => (paI h1 (a + 3) (ix i) z).bind (fun h1030 => (gR h1030 a 10 1).bind fun v1031 => (remI (mvt (P i) d + 360) 360).bind fun v1032 => (paI h1030 v1031 (ix i) v1032).bind fun h1033 => f_St_move_b12 fl a fu (ix (i + 1)) h1033))]
        rw [f2]
        simp only [Option.bind_some, s2.r1, remI_of (show (360 : Int32) ≠ 0 by decide), adj_rm bd.1 bd.2, f3]
        exact f'
      by_cases hr : rv (P i) d = 0
      · rw [if_pos hr]
        exact key _ (by unfold mvt; rw [if_pos hr])
      · rw [if_neg hr]
        exact key _ (by unfold mvt; rw [if_neg hr])
    · have q : ∀ (g : Nat) (y : Nat → Int32) (v : Int32), v = mv (P i) d g → (if i + 1 ≤ j then mv (P j) d g else upd y i v j) = (if i ≤ j then mv (P j) d g else y j) := fun g y v hv => by
        by_cases hq : j = i
        · subst hq
          rw [if_neg (by omega), upd_self, if_pos (Nat.le_refl _), hv]
        · by_cases hq2 : i ≤ j
          · rw [if_pos (by omega), if_pos hq2]
          · rw [if_neg (by omega), if_neg hq2, upd_ne _ _ hq]
      exact ⟨q 4 _ _ rfl, q 5 _ _ (by rw [e4]; rfl), q 6 _ _ rfl⟩
theorem St_move (hm : m + 16 ≤ a) (ht : t + 9 ≤ a ∨ a + 7 ≤ t) {h : hp_M} {S : skyV} (ok : okY n S.1) (s : is_ST h m a n S) (o : is_Mo h m th tn tp ea tk dp t rd) (u : is_To h t n S.1 nA A Rs) {fl : Nat} (hfl : 5000 ≤ fl) : ∃ h', f_St_move fl a h = some h' ∧ is_ST h' m a n (movV S) ∧ is_To h' t n (movV S).1 nA A Rs ∧ fr a (a + 7) h h' ∧ h'.2 = h.2 := by
  have h8 := is_St.n8 s
  obtain ⟨h1, f1, s1, r1, z1⟩ := is_St.putD s (S.2.1 + 1)
  obtain ⟨h', f', s', r', z'⟩ := St_move_b hm ht ok fl n fl 0 h1 _ _ _ s1 (o.keep r1 (by omega)) (u.keep r1 (by omega)) (fun j _ _ => ⟨rfl, rfl⟩) (by omega) (by omega)
  refine ⟨h', ?_, s'.congr (fun j hj => by simp only [Nat.zero_le, if_true]; exact ⟨rfl, rfl, rfl⟩), ((u.keep r1 (by omega)).keep r' (by omega)).congr (fun i k hi hk => ?_), r1.trans r', by omega⟩
  · unfold f_St_move
    simp only [is_St.r0 s, f1, Option.bind_some]
    exact f'
  · show S.1 i k = mv (S.1 i) (S.2.1 + 1) k
    unfold mv
    rw [if_neg (by omega), if_neg (by omega), if_neg (by omega)]
end
