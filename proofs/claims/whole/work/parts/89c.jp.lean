/-! A planet's numbers, in both. -/
theorem bl_err {x : Int32 × Int32} (h : x.1 ≠ 0) (k : Int32) (L : List tokV) (i : Nat) : bl x k L i = x := by
  unfold bl blE blP
  rw [if_neg h, if_neg h]
theorem bl_0 (k : Int32) (L : List tokV) (i : Nat) : bl (0, -1) k L i = (k, ix (tkn L i).2.1) := rfl
theorem erN_err {tp : Nat → Int32} {L : List tokV} {x : Int32 × Int32} (h : x.1 ≠ 0) (i : Nat) (lo hi : Int32) : erN tp L x i lo hi = x := by
  unfold erN
  rw [bl_err h]
  split <;> rfl
theorem erN_ok {tp : Nat → Int32} {L : List tokV} {x : Int32 × Int32} {i : Nat} {lo hi : Int32} (h : ¬ (nb tp L i < lo ∨ ¬ nb tp L i ≤ hi)) : erN tp L x i lo hi = x := by
  unfold erN
  rw [if_neg h]
theorem erN_bad {tp : Nat → Int32} {L : List tokV} {i : Nat} {lo hi : Int32} (h : nb tp L i < lo ∨ ¬ nb tp L i ≤ hi) : erN tp L (0, -1) i lo hi = (5, ix (tkn L i).2.1) := by
  unfold erN
  rw [if_pos h]; rfl
theorem plX2_err {tp : Nat → Int32} {L : List tokV} {x : Int32 × Int32} (h : x.1 ≠ 0) (b : Nat) : plX2 tp L x b = x := by
  unfold plX2
  split
  · rfl
  · rw [erN_err h, erN_err h]
/-- the tokens of a planet -/
theorem gPl2_Y {K : Nat → Nat} {a q : Nat} (g : (gPl2 K a q).1 = true) : (gPl2 K a q).2.2.1 = a ∧ (((gPl2 K a q).2.2.2 = 0 ∧ (gPl2 K a q).2.1 = q + 1) ∨ ((gPl2 K a q).2.2.2 = q + 1 ∧ K (q + 1) = 3 ∧ K (q + 3) = 3 ∧ (gPl2 K a q).2.1 = q + 5)) := by
  unfold gPl2 at g ⊢
  by_cases k1 : K q = 8
  · rw [if_pos k1] at g ⊢
    by_cases k2 : K (q + 1) = 3
    · rw [if_pos k2] at g ⊢
      by_cases k3 : K (q + 2) = 9
      · rw [if_pos k3] at g ⊢
        by_cases k4 : K (q + 3) = 3
        · rw [if_pos k4] at g ⊢
          by_cases k5 : K (q + 4) = 30
          · rw [if_pos k5]
            exact ⟨rfl, Or.inr ⟨rfl, k2, k4, rfl⟩⟩
          · rw [if_neg k5] at g; cases g
        · rw [if_neg k4] at g; cases g
      · rw [if_neg k3] at g; cases g
    · rw [if_neg k2] at g; cases g
  · rw [if_neg k1] at g ⊢
    by_cases k5 : K q = 30
    · rw [if_pos k5]
      exact ⟨rfl, Or.inl ⟨rfl, rfl⟩⟩
    · rw [if_neg k5] at g; cases g
theorem gPl_Y {K : Nat → Nat} {p : Nat} (g : (gPl K p).1 = true) : K (p + 1) = 2 ∧ K (p + 3) = 3 ∧ K (p + 5) = 3 ∧ ∃ q0, (((gPl K p).2.2.1 = 0 ∧ q0 = p + 6) ∨ ((gPl K p).2.2.1 = p + 7 ∧ K (p + 7) = 3 ∧ q0 = p + 8)) ∧ (((gPl K p).2.2.2 = 0 ∧ (gPl K p).2.1 = q0 + 1) ∨ ((gPl K p).2.2.2 = q0 + 1 ∧ K (q0 + 1) = 3 ∧ K (q0 + 3) = 3 ∧ (gPl K p).2.1 = q0 + 5)) := by
  unfold gPl at g ⊢
  by_cases k1 : K (p + 1) = 2
  case neg => rw [if_neg k1] at g; cases g
  rw [if_pos k1] at g ⊢
  by_cases k2 : K (p + 2) = 5
  case neg => rw [if_neg k2] at g; cases g
  rw [if_pos k2] at g ⊢
  by_cases k3 : K (p + 3) = 3
  case neg => rw [if_neg k3] at g; cases g
  rw [if_pos k3] at g ⊢
  by_cases k4 : K (p + 4) = 6
  case neg => rw [if_neg k4] at g; cases g
  rw [if_pos k4] at g ⊢
  by_cases k5 : K (p + 5) = 3
  case neg => rw [if_neg k5] at g; cases g
  rw [if_pos k5] at g ⊢
  refine ⟨k1, k3, k5, ?_⟩
  by_cases k6 : K (p + 6) = 7
  · rw [if_pos k6] at g ⊢
    by_cases k7 : K (p + 7) = 3
    case neg => rw [if_neg k7] at g; cases g
    rw [if_pos k7] at g ⊢
    obtain ⟨a1, a2⟩ := gPl2_Y g
    exact ⟨p + 8, Or.inr ⟨a1, k7, rfl⟩, a2⟩
  · rw [if_neg k6] at g ⊢
    obtain ⟨a1, a2⟩ := gPl2_Y g
    exact ⟨p + 6, Or.inl ⟨a1, rfl⟩, a2⟩
section
variable {w : hp_W} {fl e : Nat} {K1 : hp_M → Option (Int32 × hp_M)} {K2 : Int32 → hp_M → Option (Int32 × hp_M)}
variable {m t rd tn : Nat} {tp : Nat → Int32} {th ea : Int32} {L : List tokV} {h0 : hp_M} {R : Nat → Nat} {C : pcV} {h : hp_M} {i : Nat} {nP : Nat} {g1 : Nat → Int32} {nA : Nat} {g2 g3 : Nat → Int32} {M : Nat → Nat}
/-- on to a number, and over it -/
theorem tk_num (oi : okIn tn L) (hfl : 5000 ≤ fl) (he : e < L.length) (c : PS m t rd tn tp th ea L h0 R C h i (nP, g1, nA, g2, g3, M)) {j : Nat} (hij : i ≤ j) (hj : j < e) (sk : ∀ x, i ≤ x → x < j → R x = 0) (k3 : kdp L j = 3) {o : Nat} {lo hi : Int32} (hr : (R j = 8 ∧ o = 0 ∧ lo = 1 ∧ hi = 20) ∨ (R j = 9 ∧ o = 1 ∧ lo = 1 ∧ hi = 60) ∨ (R j = 10 ∧ o = 2 ∧ lo = 0 ∧ hi = 359) ∨ (R j = 11 ∧ o = 3 ∧ lo = 0 ∧ hi = 29)) (hP : 1 ≤ nP ∧ nP ≤ 8) : (¬ (nb tp L j < lo ∨ ¬ nb tp L j ≤ hi) → ∃ h', PS m t rd tn tp th ea L h0 R C h' (j + 1) (nP, upd g1 (5 * (nP - 1) + o) (nb tp L j), nA, g2, g3, M) ∧ Rtt w fl m e K1 K2 h i h' (j + 1)) ∧ ((nb tp L j < lo ∨ ¬ nb tp L j ≤ hi) → ∃ h' D', PS m t rd tn tp th ea L h0 R C h' j D' ∧ Spp w fl m e K1 K2 h i 5 h') := by
  obtain ⟨h1, c1, r1⟩ := tk_skipTo (w := w) (K1 := K1) (K2 := K2) oi hfl he hij (Nat.le_of_lt hj) c sk
  obtain ⟨h2, e2, c2⟩ := eo_num c1 (show j < L.length by omega) hr hP fl (nb tp L j)
  refine ⟨fun ok => ?_, fun bad => ?_⟩
  · rw [if_neg ok] at e2
    obtain ⟨h3, c3, r3⟩ := tk_ok (w := w) (K1 := K1) (K2 := K2) oi hfl c1 hj he (by rw [if_pos k3]; exact e2) c2
    exact ⟨h3, c3, r1.trans r3⟩
  · rw [if_pos bad] at e2
    have s := tk_no (w := w) (K1 := K1) (K2 := K2) oi hfl c1 hj he (x := 5) (by rw [if_pos k3]; exact e2) (by decide)
    exact ⟨h2, _, c2, r1.sp s⟩
end
