/-! The law answers 1. -/
theorem law_b {w : hp_W} (ow : okW w) {fl : Nat} (hfl : 5000 ≤ fl) {xs : Nat → Int32} {L : Nat} (hL : L ≤ 3072) (b a m o : Nat) : ∀ (r k : Nat) (h : hp_M), k + r = 512 → IV a m o h → ∃ h', f_Lw_law_b23 w fl xs L b a m o (r + 1) (ix (6 * k)) h = some (1, h') := by
  have cond : ∀ k, k ≤ 512 → ((Int32.ofNat L) - 6 < ix (6 * k) ↔ L < 6 * k + 6) := fun k hk => by
    have e : (Int32.ofNat L).toInt = (L : Int) := ix_toInt (n := L) (by omega)
    have six : (6 : Int32).toInt = 6 := by decide
    rw [i32_lt, i32_sub (by omega) (by omega), e, six, ix_toInt (by omega)]
    omega
  intro r
  induction r with
  | zero =>
    intro k h hk _
    exact ⟨h, by unfold f_Lw_law_b23; exact ite_p ((cond k (by omega)).mpr (by omega)) rfl⟩
  | succ r ih =>
    intro k h hk iv
    by_cases c : L < 6 * k + 6
    · exact ⟨h, by unfold f_Lw_law_b23; exact ite_p ((cond k (by omega)).mpr c) rfl⟩
    · have sc : ∀ j, j < 6 → scrI xs L (ix (6 * k + j)) = some (xs (6 * k + j)) := fun j hj => by
        unfold scrI
        rw [ix_clamp (by omega), if_neg (fun q => q.elim (ix_nn (by omega)) (fun q => by omega))]
      have s0 : scrI xs L (ix (6 * k)) = some (xs (6 * k)) := sc 0 (by omega)
      have s1 : scrI xs L (ix (6 * k) + 1) = some (xs (6 * k + 1)) := by rw [ixp1]; exact sc 1 (by omega)
      have s2 : scrI xs L (ix (6 * k) + 2) = some (xs (6 * k + 2)) := by rw [ixp2]; exact sc 2 (by omega)
      have s3 : scrI xs L (ix (6 * k) + 3) = some (xs (6 * k + 3)) := by rw [ixp3]; exact sc 3 (by omega)
      have s4 : scrI xs L (ix (6 * k) + 4) = some (xs (6 * k + 4)) := by rw [ixp4]; exact sc 4 (by omega)
      have s5 : scrI xs L (ix (6 * k) + 5) = some (xs (6 * k + 5)) := by rw [show ix (6 * k) + 5 = ix (6 * k + 5) from ix_add _ 5]; exact sc 5 (by omega)
      obtain ⟨h1, e1, iv1⟩ := lw_turn ow hfl s0 s1 s2 s3 s4 s5 iv (fun h1020 => f_Lw_law_b23 w fl xs L b a m o (r + 1) (ix (6 * k) + 6) h1020)
      obtain ⟨h2, e2⟩ := ih (k + 1) h1 (by omega) iv1
      refine ⟨h2, ?_⟩
      rw [f_Lw_law_b23]
      refine ite_n (fun q => c ((cond k (by omega)).mp q)) ?_
      refine (show _ = _ from e1).trans ?_
      show f_Lw_law_b23 w fl xs L b a m o (r + 1) (ix (6 * k) + 6) h1 = _
      rw [show ix (6 * k) + 6 = ix (6 * (k + 1)) from ix_add _ 6]
      exact e2
theorem law_true (w : hp_W) (hkd : ∀ i j, i < 42 → j < 42 → w_kd w i = w_kd w j → i = j) (hka : ∀ i j, i < 39 → j < 39 → w_ka w i = w_ka w j → i = j) (xs : Nat → Int32) (L : Nat) (hL : L ≤ 3072) (a0 N0 : Nat) : ∃ fl h', f_Lw_law w fl xs L a0 (fun _ => none, N0) = some (1, h') := by
  obtain ⟨h, hh⟩ : ∃ h : hp_M, ((fun _ => none, N0) : hp_M) = h := ⟨_, rfl⟩
  obtain ⟨h1, e1, z1, s1⟩ := SS_init_of h 5000 (fun _ => 0) (fun _ _ => 0) (fun _ => 0)
  obtain ⟨h2, e2, z2, k2, q2⟩ := Md_init_of h1 (fun _ => 0) (fun _ _ => 0) (fun _ => 0) (alV [])
  have f2' : fr 0 0 h1 h2 := ⟨by omega, fun q _ hl => k2 q hl⟩
  have w3 := hN_fr h2 (aL 1 (fun _ => 0))
  have z3 := hN_2 h2 (aL 1 (fun _ => 0))
  have iv : IV h.2 h1.2 h2.2 (hN h2 (aL 1 (fun _ => 0))) := ⟨h.2 + 29, h.2 + 63, h1.2 + 7, 0, (fun _ => 0), 0, -1, 0, ((fun _ _ => 0), 0, 0, (fun _ => 0), fun _ => 0), ([], [], [], []), [], (s1.keep f2' (Or.inr (Nat.zero_le _))).keep w3 (Or.inr (Nat.zero_le _)), q2.hN _, ⟨fun i hi => absurd hi (Nat.not_lt_zero _), ⟨rfl, fun i R hR => (by cases hR), fun k hk => absurd hk (Nat.not_lt_zero _)⟩, ⟨fun i R hR => (by cases hR), fun k hk => absurd hk (Nat.not_lt_zero _)⟩⟩, fun i hi => absurd hi (Nat.not_lt_zero _), ⟨_, hN_self _ _⟩, ⟨by omega, by omega, by omega⟩, Or.inl rfl⟩
  obtain ⟨h', e'⟩ := law_b (w := w) (xs := xs) ⟨hkd, hka⟩ (Nat.le_refl 5000) hL a0 h.2 h1.2 h2.2 512 0 _ (Nat.zero_add _) iv
  refine ⟨5000, h', ?_⟩
  rw [hh]
  unfold f_Lw_law
  exact bnd e1 (bnd e2 e')
