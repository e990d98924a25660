/-! Days go by. -/
abbrev skyV : Type := (Nat → Nat → Int32) × Int32 × (Nat × (Nat → Int32) × (Nat → Int32))
def movV (S : skyV) : skyV := (fun j => mv (S.1 j) (S.2.1 + 1), S.2.1 + 1, S.2.2)
def dayV (A : Nat → List Int32) (Rs : List (List (Nat × Nat × Nat) × List (Nat × Nat × Nat) × Nat)) (S : skyV) : skyV := ((movV S).1, (movV S).2.1, rulV (movV S).1 (movV S).2.1 A Rs 0 S.2.2)
def daysV (A : Nat → List Int32) (Rs : List (List (Nat × Nat × Nat) × List (Nat × Nat × Nat) × Nat)) : Nat → skyV → skyV
  | 0, S => S
  | k + 1, S => daysV A Rs k (dayV A Rs S)
def is_SK (h : hp_M) (a n : Nat) (S : skyV) : Prop := is_Sk h a n S.1 S.2.2.2.2 S.2.2.1 S.2.2.2.1 S.2.1
theorem okY.mov {n : Nat} {S : skyV} (ok : okY n S.1) : okY n (movV S).1 := fun i hi => (ok i hi).mv _
theorem okY.days {n : Nat} (A : Nat → List Int32) (Rs : List (List (Nat × Nat × Nat) × List (Nat × Nat × Nat) × Nat)) : ∀ (k : Nat) (S : skyV), okY n S.1 → okY n (daysV A Rs k S).1 := by
  intro k
  induction k with
  | zero => exact fun S ok => ok
  | succ k ih => exact fun S ok => ih _ (okY.mov ok)
section
variable {a b n : Nat} {pl : List (Int64 × (Nat → Int32))} {al : List (Int64 × List Int32)} {l : List (Nat × Nat × Nat)} {rl : List (Nat × Nat × Nat × Nat)} {Rs : List (List (Nat × Nat × Nat) × List (Nat × Nat × Nat) × Nat)}
theorem live_b11 (okb : okB n al l rl Rs) (hab : b + 34 ≤ a ∨ a + 13 ≤ b) {fl : Nat} (hfl : 5000 ≤ fl) (D : Nat) (hD : D ≤ 3000) (x3 : Int32) (k103 : hp_M → Option (Int32 × hp_M)) : ∀ (r i fu : Nat) (h : hp_M) (S : skyV), i + r = D → r < fu → okY n S.1 → is_SK h a n S → is_Bk h b pl al l rl → ∃ h', f_Sk_live_b11 fl a (ix D) b x3 k103 fu (ix i) h = k103 h' ∧ is_SK h' a n (daysV (alV al) Rs r S) ∧ is_Bk h' b pl al l rl ∧ f2 a (a + 13) b (b + 34) h h' ∧ h'.2 = h.2 := by
  intro r
  induction r with
  | zero =>
    intro i fu h S hi hf ok t u
    obtain ⟨fu, rfl⟩ : ∃ q, fu = q + 1 := ⟨fu - 1, by omega⟩
    unfold f_Sk_live_b11
    rw [if_pos (ix_le1 (by omega) (by omega))]
    exact ⟨h, rfl, t, u, f2.refl _ _ _ _ _, rfl⟩
  | succ r ih =>
    intro i fu h S hi hf ok t u
    obtain ⟨fu, rfl⟩ : ∃ q, fu = q + 1 := ⟨fu - 1, by omega⟩
    have h12 := u.2.1
    have hr := okb.1
    unfold f_Sk_live_b11
    rw [if_neg (ix_nle (by omega) (by omega)), t.on]
    obtain ⟨h1, e1, t1, r1, s1⟩ := is_Sk.turn t ok hfl
    rw [e1]
    simp only [Option.bind_some]
    have u1 := u.keep r1 (by omega)
    obtain ⟨h2, e2, t2, u2, r2, s2⟩ := live_rules (Rs := Rs) (P := (movV S).1) (d := (movV S).2.1) (okY.mov ok) okb hab hfl (ix D) x3 (ix i) (fun (h1017 : hp_M) => f_Sk_live_b11 fl a (ix D) b x3 k103 fu (ix i + 1) h1017) Rs 0 fl h1 S.2.2 rfl (by omega) (by omega) t1 u1
    rw [show (0 : Int32) = ix 0 from rfl, e2]
    rw [ix_add1]
    obtain ⟨h', e', t', u', r', s'⟩ := ih (i + 1) fu h2 (dayV (alV al) Rs S) (by omega) (by omega) (okY.mov ok) t2 u2
    exact ⟨h', e', t', u', ((r1.to2 (by omega)).trans r2).trans r', by omega⟩
theorem live_of (okb : okB n al l rl Rs) (hab : b + 34 ≤ a ∨ a + 13 ≤ b) {fl : Nat} (hfl : 5000 ≤ fl) {D : Nat} (hD : D ≤ 3000) {h : hp_M} {S : skyV} (ok : okY n S.1) (t : is_SK h a n S) (u : is_Bk h b pl al l rl) : ∃ h', f_Sk_live fl a (ix D) b h = some (ix (daysV (alV al) Rs D S).2.2.1 - ix S.2.2.1, h') ∧ is_SK h' a n (daysV (alV al) Rs D S) ∧ is_Bk h' b pl al l rl ∧ f2 a (a + 13) b (b + 34) h h' ∧ h'.2 = h.2 := by
  unfold f_Sk_live
  rw [is_Sk.rR3 t]
  simp only [Option.bind_some]
  rw [(is_Sk.paper t).on, (is_Sk.paper t).size]
  simp only [Option.bind_some]
  obtain ⟨h', e', t', u', r', s'⟩ := live_b11 okb hab hfl D hD (ix S.2.2.1) (fun (h3 : hp_M) => (gR h3 a 7 3).bind fun v4 => (onO h3 v4 2 (f_Pp_size v4 h3)).bind fun r5 => some ((r5 - ix S.2.2.1), h3)) D 0 fl h S (by omega) (by omega) ok t u
  refine ⟨h', e'.trans ?_, t', u', r', s'⟩
  rw [is_Sk.rR3 t']
  simp only [Option.bind_some]
  rw [(is_Sk.paper t').on, (is_Sk.paper t').size]
  rfl
end
