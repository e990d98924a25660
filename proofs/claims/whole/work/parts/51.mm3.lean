/-! The Model lets days go by and looks ahead. -/
theorem tele (a b c d : Int32) : a + (b - c) + (d - b) = a + (d - c) := by
  have e0 : -b + b = 0 := Int32.add_left_neg b
  have e : b + (-c + (d + -b)) = d + -c := by
    rw [Int32.add_comm b, Int32.add_assoc (-c), Int32.add_assoc d, e0, Int32.add_zero, Int32.add_comm]
  rw [Int32.sub_eq_add_neg, Int32.sub_eq_add_neg, Int32.sub_eq_add_neg, Int32.add_assoc a, Int32.add_assoc b, e]
section
variable {m t tn : Nat} {tp : Nat → Int32} {th ea : Int32} {n : Nat} {S : skyV} {nA : Nat} {A : Nat → List Int32} {Rs : List ruV}
/-- the state ahead, in a Model -/
def is_MA (h : hp_M) (m t tn : Nat) (tp : Nat → Int32) (th ea : Int32) (n : Nat) (S : skyV) (nA : Nat) (A : Nat → List Int32) (Rs : List ruV) (S1 : skyV) : Prop := is_MM h m t tn tp th ea n S nA A Rs ∧ is_ST h m (m + 23) n S1 ∧ is_To h t n S1.1 nA A Rs
theorem MA_copy {h : hp_M} (o : is_MM h m t tn tp th ea n S nA A Rs) : ∃ h', f_St_become (m + 23) (m + 16) h = some h' ∧ is_MA h' m t tn tp th ea n S nA A Rs S ∧ fr m (m + 30) h h' ∧ h'.2 = h.2 := by
  have ps := o.ps
  obtain ⟨n', S', sa⟩ := o.ah
  obtain ⟨h', e, s', r, z⟩ := is_St.become sa o.st (by omega)
  exact ⟨h', e, ⟨o.setA s' r, s', o.to.keep r (by omega)⟩, r.mono (by omega) (by omega), z⟩
theorem MA_on {β : Type} {h : hp_M} {a n' : Nat} {S1 : skyV} (s : is_ST h m a n' S1) (g : Option β) : onO h a 10 g = g := is_St.on s g
theorem MA_pass {h : hp_M} {S1 : skyV} (o : is_MA h m t tn tp th ea n S nA A Rs S1) (ok : okY n S1.1) (okr : okRs n nA A Rs) {fl : Nat} (hfl : 5000 ≤ fl) : ∃ h', f_St_pass fl (m + 23) h = some (ix (dayV A Rs S1).2.2.1 - ix S1.2.2.1, h') ∧ is_MA h' m t tn tp th ea n S nA A Rs (dayV A Rs S1) ∧ fr m (m + 30) h h' ∧ h'.2 = h.2 := by
  obtain ⟨o1, o2, o3⟩ := o
  have ps := o1.ps
  obtain ⟨tk, dp, rd, q⟩ := o1.mo
  obtain ⟨h', e, s', u', r, z⟩ := St_pass (a := m + 23) (by omega) (by omega) okr hfl ok o2 q o3
  exact ⟨h', e, ⟨o1.setA s' r, s', u'⟩, r.mono (by omega) (by omega), z⟩
theorem MA_move {h : hp_M} {S1 : skyV} (o : is_MA h m t tn tp th ea n S nA A Rs S1) (ok : okY n S1.1) {fl : Nat} (hfl : 5000 ≤ fl) : ∃ h', f_St_move fl (m + 23) h = some h' ∧ is_MA h' m t tn tp th ea n S nA A Rs (movV S1) ∧ fr m (m + 30) h h' ∧ h'.2 = h.2 := by
  obtain ⟨o1, o2, o3⟩ := o
  have ps := o1.ps
  obtain ⟨tk, dp, rd, q⟩ := o1.mo
  obtain ⟨h', e, s', u', r, z⟩ := St_move (a := m + 23) (by omega) (by omega) ok o2 q o3 hfl
  exact ⟨h', e, ⟨o1.setA s' r, s', u'⟩, r.mono (by omega) (by omega), z⟩
theorem Md_pass_b (okr : okRs n nA A Rs) {D : Nat} (hD : D ≤ 3000) {fl : Nat} (hfl : 5000 ≤ fl) : ∀ (r k fu : Nat) (h : hp_M) (S1 : skyV) (x : Int32), k + r = D → r < fu → okY n S1.1 → is_MM h m t tn tp th ea n S1 nA A Rs → ∃ h', f_Md_pass_b26 fl m (ix D) fu x (ix k) h = some (x + (ix (daysV A Rs r S1).2.2.1 - ix S1.2.2.1), h') ∧ is_MM h' m t tn tp th ea n (daysV A Rs r S1) nA A Rs ∧ fr m (m + 30) h h' ∧ h'.2 = h.2 := by
  intro r
  induction r with
  | zero =>
    intro k fu h S1 x hk hf ok o
    obtain ⟨fu, rfl⟩ : ∃ q, fu = q + 1 := ⟨fu - 1, by omega⟩
    unfold f_Md_pass_b26
    rw [if_pos (ix_le1 (by omega) (by omega))]
    refine ⟨h, ?_, o, fr.refl _ _ _, rfl⟩
    show some (x, h) = some (x + (ix S1.2.2.1 - ix S1.2.2.1), h)
    rw [Int32.sub_self, Int32.add_zero]
  | succ r ih =>
    intro k fu h S1 x hk hf ok o
    obtain ⟨fu, rfl⟩ : ∃ q, fu = q + 1 := ⟨fu - 1, by omega⟩
    have ps := o.ps
    obtain ⟨tk, dp, rd, q⟩ := o.mo
    obtain ⟨h1, e1, s1, u1, r1, z1⟩ := St_pass (a := m + 16) (by omega) (by omega) okr hfl ok o.sT q o.to
    obtain ⟨h', e', o', r', z'⟩ := ih (k + 1) fu h1 (dayV A Rs S1) (x + (ix (dayV A Rs S1).2.2.1 - ix S1.2.2.1)) (by omega) (by omega) (okY.mov ok) (o.setS s1 u1 r1)
    refine ⟨h', ?_, o', (r1.mono (by omega) (by omega)).trans r', by omega⟩
    unfold f_Md_pass_b26
    rw [if_neg (ix_nle (by omega) (by omega))]
    simp only [o.r13, o.st.on, e1, Option.bind_some, ixp1]
    rw [e', tele]; rfl
theorem Md_pass {h : hp_M} (o : is_MM h m t tn tp th ea n S nA A Rs) (ok : okY n S.1) (okr : okRs n nA A Rs) {fl : Nat} (hfl : 5000 ≤ fl) {D : Nat} (d1 : 1 ≤ D) (d2 : D ≤ 300) : ∃ h', f_Md_pass fl m (ix D) h = some (ix (daysV A Rs D S).2.2.1 - ix S.2.2.1, h') ∧ is_MM h' m t tn tp 0 ea n (daysV A Rs D S) nA A Rs ∧ fr m (m + 30) h h' ∧ h'.2 = h.2 := by
  obtain ⟨h1, e1, o1, r1, z1⟩ := o.th0 0
  obtain ⟨h', e', o', r', z'⟩ := Md_pass_b okr (D := D) (by omega) hfl D 0 fl h1 S 0 (by omega) (by omega) ok o1
  refine ⟨h', ?_, o', r1.trans r', by omega⟩
  unfold f_Md_pass
  simp only [e1, show (300 : Int32) = ix 300 from rfl, isIn_yes1 d1 d2 (by omega), Option.bind_some]
  rw [if_neg (by decide)]
  refine (show _ = _ from e').trans ?_
  rw [Int32.zero_add]
theorem Md_passX {h : hp_M} (o : is_MM h m t tn tp th ea n S nA A Rs) {fl : Nat} {x : Int32} (hx : ¬ in1 300 x) : MX (f_Md_pass fl m x h) h m t tn tp 1 ea n S nA A Rs := by
  obtain ⟨h1, e1, o1, r1, z1⟩ := o.th0 0
  refine MX_of (x := 1) o1 r1 z1 ?_
  unfold f_Md_pass
  simp only [e1, show (300 : Int32) = ix 300 from rfl, isIn_no1 hx (by omega), Option.bind_some]
  rw [if_pos trivial]
theorem Md_fore_b (okr : okRs n nA A Rs) {D : Nat} (hD : D ≤ 3000) {fl : Nat} (hfl : 5000 ≤ fl) (y : Int32) (K : Int32 → hp_M → Option (Int32 × hp_M)) : ∀ (r k fu : Nat) (h : hp_M) (S1 : skyV) (x : Int32), k + r = D → r < fu → okY n S1.1 → is_MA h m t tn tp th ea n S nA A Rs S1 → ∃ h', f_Md_foresee_b53 fl m (ix D) y K fu x (ix k) h = K (x + (ix (daysV A Rs r S1).2.2.1 - ix S1.2.2.1)) h' ∧ is_MA h' m t tn tp th ea n S nA A Rs (daysV A Rs r S1) ∧ fr m (m + 30) h h' ∧ h'.2 = h.2 := by
  intro r
  induction r with
  | zero =>
    intro k fu h S1 x hk hf ok o
    obtain ⟨fu, rfl⟩ : ∃ q, fu = q + 1 := ⟨fu - 1, by omega⟩
    unfold f_Md_foresee_b53
    rw [if_pos (ix_le1 (by omega) (by omega))]
    refine ⟨h, ?_, o, fr.refl _ _ _, rfl⟩
    show K x h = K (x + (ix S1.2.2.1 - ix S1.2.2.1)) h
    rw [Int32.sub_self, Int32.add_zero]
  | succ r ih =>
    intro k fu h S1 x hk hf ok o
    obtain ⟨fu, rfl⟩ : ∃ q, fu = q + 1 := ⟨fu - 1, by omega⟩
    obtain ⟨h1, e1, o1, r1, z1⟩ := MA_pass o ok okr hfl
    obtain ⟨h', e', o', r', z'⟩ := ih (k + 1) fu h1 (dayV A Rs S1) (x + (ix (dayV A Rs S1).2.2.1 - ix S1.2.2.1)) (by omega) (by omega) (okY.mov ok) o1
    refine ⟨h', ?_, o', r1.trans r', by omega⟩
    unfold f_Md_foresee_b53
    rw [if_neg (ix_nle (by omega) (by omega))]
    simp only [o.1.r14, MA_on o.2.1, e1, Option.bind_some, ixp1]
    rw [e', tele]; rfl
theorem Md_foresee {h : hp_M} (o : is_MM h m t tn tp th ea n S nA A Rs) (ok : okY n S.1) (okr : okRs n nA A Rs) {fl : Nat} (hfl : 5000 ≤ fl) {D k : Nat} (d1 : 1 ≤ D) (d2 : D ≤ 300) (hk : k < 3) : ∃ h', f_Md_foresee fl m (ix D) (ix k) h = some ((if k = 0 then ix (daysV A Rs D S).2.2.1 - ix S.2.2.1 else if k = 1 then prsV (daysV A Rs D S).1 n n 0 0 else sumV (fun i => (daysV A Rs D S).1 i 6) n), h') ∧ is_MM h' m t tn tp 0 ea n S nA A Rs ∧ fr m (m + 30) h h' ∧ h'.2 = h.2 := by
  obtain ⟨h1, e1, o1, r1, z1⟩ := o.th0 0
  obtain ⟨h3, e3, o3, r3, z3⟩ := MA_copy o1
  obtain ⟨n', S', sa⟩ := o1.ah
  obtain ⟨h', e', o', r', z'⟩ := Md_fore_b okr (D := D) (by omega) hfl (ix k) (fun (u11 : Int32) (h12 : hp_M) => if ix k = 0 then (some (u11, h12)) else (if ix k = 1 then ((gR h12 m 12 14).bind fun v15 => (onO h12 v15 10 (f_St_pairs fl v15 h12)).bind fun r16 => some (r16, h12)) else ((gR h12 m 12 14).bind fun v17 => (onO h12 v17 10 (f_St_laps fl v17 h12)).bind fun r18 => some (r18, h12)))) D 0 fl h3 S 0 (by omega) (by omega) ok o3
  refine ⟨h', ?_, o'.1, (r1.trans r3).trans r', by omega⟩
  unfold f_Md_foresee
  simp only [e1, show (300 : Int32) = ix 300 from rfl, isIn_yes1 d1 d2 (by omega), show (2 : Int32) = ix 2 from rfl, isIn_yes' (show k < 2 + 1 by omega) (by omega), o1.r14, o1.r13, MA_on sa, e3, Option.bind_some]
  rw [if_neg (by decide), if_neg (by decide)]
  refine (show _ = _ from e').trans ?_
  rw [Int32.zero_add]
  obtain ⟨tk, dp, rd, q⟩ := o'.1.mo
  have s' : is_St h' m (m + 23) n (fun i => (daysV A Rs D S).1 i 4) (fun i => (daysV A Rs D S).1 i 5) (fun i => (daysV A Rs D S).1 i 6) (daysV A Rs D S).2.2.2.2 (daysV A Rs D S).2.2.1 (daysV A Rs D S).2.2.2.1 (daysV A Rs D S).2.1 := o'.2.1
  have : k = 0 ∨ k = 1 ∨ k = 2 := by omega
  rcases this with w | w | w <;> subst w
  · rfl
  · rw [if_neg (by decide), if_pos (by rfl)]
    simp only [o'.1.r14, s'.on, s'.pairs q o'.2.2 (okY.days A Rs D S ok) hfl, Option.bind_some]
    rfl
  · rw [if_neg (by decide), if_neg (by decide)]
    simp only [o'.1.r14, s'.on, s'.laps q o'.2.2 hfl, Option.bind_some]
    rfl
theorem Md_foreseeX1 {h : hp_M} (o : is_MM h m t tn tp th ea n S nA A Rs) {fl : Nat} {x y : Int32} (hx : ¬ in1 300 x) : MX (f_Md_foresee fl m x y h) h m t tn tp 1 ea n S nA A Rs := by
  obtain ⟨h1, e1, o1, r1, z1⟩ := o.th0 0
  refine MX_of (x := 1) o1 r1 z1 ?_
  unfold f_Md_foresee
  simp only [e1, show (300 : Int32) = ix 300 from rfl, isIn_no1 hx (by omega), Option.bind_some]
  rw [if_pos trivial]
theorem Md_foreseeX2 {h : hp_M} (o : is_MM h m t tn tp th ea n S nA A Rs) {fl D : Nat} {y : Int32} (d1 : 1 ≤ D) (d2 : D ≤ 300) (hy : ¬ inN 3 y) : MX (f_Md_foresee fl m (ix D) y h) h m t tn tp 2 ea n S nA A Rs := by
  obtain ⟨h1, e1, o1, r1, z1⟩ := o.th0 0
  have hy' : ¬ inN (2 + 1) y := hy
  have e2 : ∀ h, f_Md_isIn y 0 2 h = some 0 := fun h => isIn_no' hy' (by omega) h
  refine MX_of (x := 2) o1 r1 z1 ?_
  unfold f_Md_foresee
  simp only [e1, show (300 : Int32) = ix 300 from rfl, isIn_yes1 d1 d2 (by omega), e2, Option.bind_some]
  rw [if_neg (by decide), if_pos trivial]
theorem Md_next_b {i j : Nat} (hi : i < n) (hj : j < n) (y : Int32) {fl : Nat} (hfl : 5000 ≤ fl) : ∀ (r k fu : Nat) (h : hp_M) (S1 : skyV), k + r = 1001 → r < fu → okY n S1.1 → is_MA h m t tn tp th ea n S nA A Rs S1 → ∃ h', f_Md_next_b41 fl m (ix i) (ix j) y fu (ix k) h = some (nxtV i j (if y = 0 then 0 else 180) r k S1, h') ∧ is_MM h' m t tn tp th ea n S nA A Rs ∧ fr m (m + 30) h h' ∧ h'.2 = h.2 := by
  intro r
  induction r with
  | zero =>
    intro k fu h S1 hk hf ok o
    obtain ⟨fu, rfl⟩ : ∃ q, fu = q + 1 := ⟨fu - 1, by omega⟩
    unfold f_Md_next_b41
    rw [show (1000 : Int32) = ix 1000 from rfl, if_pos (ix_lt1 (by omega) (by omega))]
    exact ⟨h, rfl, o.1, fr.refl _ _ _, rfl⟩
  | succ r ih =>
    intro k fu h S1 hk hf ok o
    obtain ⟨fu, rfl⟩ : ∃ q, fu = q + 1 := ⟨fu - 1, by omega⟩
    obtain ⟨h1, e1, o1, r1, z1⟩ := MA_move o ok hfl
    have s1 : is_St h1 m (m + 23) n (fun i => (movV S1).1 i 4) (fun i => (movV S1).1 i 5) (lps (movV S1)) (movV S1).2.2.2.2 (movV S1).2.2.1 (movV S1).2.2.2.1 (movV S1).2.1 := o1.2.1
    obtain ⟨h', e', o', r', z'⟩ := ih (k + 1) fu h1 (movV S1) (by omega) (by omega) (okY.mov ok) o1
    have key : ∀ f, (f = 0 ∨ f = 180) → f = (if y = 0 then 0 else 180) → ∃ h', ((f_St_meets (m + 23) (ix i) (ix j) f h1).bind fun r1025 => if r1025 = 0 then f_Md_next_b41 fl m (ix i) (ix j) y fu (ix (k + 1)) h1 else some (ix k, h1)) = some (nxtV i j (if y = 0 then 0 else 180) (r + 1) k S1, h') ∧ is_MM h' m t tn tp th ea n S nA A Rs ∧ fr m (m + 30) h h' ∧ h'.2 = h.2 := by
      intro f hf hfe
      rw [s1.meets (okY.mov ok) hi hj hf]
      simp only [Option.bind_some]
      unfold nxtV
      rw [← hfe]
      rw [← hfe] at e'
      by_cases c : meetV ((movV S1).1 i) ((movV S1).1 j) f = 0
      · rw [if_pos c, if_pos c]
        exact ⟨h', e', o', r1.trans r', by omega⟩
      · rw [if_neg c, if_neg c]
        exact ⟨h1, rfl, o1.1, r1, z1⟩
    unfold f_Md_next_b41 jn; dsimp only
    rw [show (1000 : Int32) = ix 1000 from rfl, if_neg (ix_nlt (by omega) (by omega))]
    simp only [o.1.r14, MA_on o.2.1, e1, o1.1.r14, s1.on, Option.bind_some, ixp1]
    by_cases hy : y = 0
    · rw [if_pos hy]
      exact key 0 (Or.inl rfl) (by rw [if_pos hy])
    · rw [if_neg hy]
      exact key 180 (Or.inr rfl) (by rw [if_neg hy])
theorem Md_next {h : hp_M} (o : is_MM h m t tn tp th ea n S nA A Rs) (ok : okY n S.1) {i j : Nat} (hi : i < n) (hj : j < n) (y : Int32) {fl : Nat} (hfl : 5000 ≤ fl) : ∃ h', f_Md_next fl m (ix i) (ix j) y h = some (nxtV i j (if y = 0 then 0 else 180) 1000 1 S, h') ∧ is_MM h' m t tn tp 0 ea n S nA A Rs ∧ fr m (m + 30) h h' ∧ h'.2 = h.2 := by
  obtain ⟨h1, e1, o1, r1, z1⟩ := o.th0 0
  obtain ⟨h3, e3, o3, r3, z3⟩ := MA_copy o1
  obtain ⟨n', S', sa⟩ := o1.ah
  obtain ⟨h', e', o', r', z'⟩ := Md_next_b hi hj y hfl 1000 1 fl h3 S (by omega) (by omega) ok o3
  refine ⟨h', ?_, o', (r1.trans r3).trans r', by omega⟩
  unfold f_Md_next jn; dsimp only
  simp only [e1, o1.on, MM_isPlanet o1 hi, MM_isPlanet o1 hj, o1.r14, o1.r13, MA_on sa, e3, Option.bind_some]
  rw [if_neg (by decide), if_neg (by decide)]
  exact e'
theorem Md_nextX {h : hp_M} (o : is_MM h m t tn tp th ea n S nA A Rs) {fl : Nat} {x y z : Int32} (hx : ¬ (inN n x ∧ inN n y)) : MX (f_Md_next fl m x y z h) h m t tn tp 1 ea n S nA A Rs := by
  obtain ⟨h1, e1, o1, r1, z1⟩ := o.th0 0
  refine MX_of (x := 1) o1 r1 z1 ?_
  unfold f_Md_next jn; dsimp only
  by_cases hq : inN n x
  · obtain ⟨i, hi, rfl⟩ := hq
    have hy : ¬ inN n y := fun q => hx ⟨⟨i, hi, rfl⟩, q⟩
    simp only [e1, o1.on, MM_isPlanet o1 hi, MM_notPlanet o1 hy, Option.bind_some]
    rw [if_neg (by decide), if_pos trivial]
  · simp only [e1, o1.on, MM_notPlanet o1 hq, Option.bind_some]
    rw [if_pos trivial]
end
