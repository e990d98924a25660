theorem law_true (w : hp_W) (hkd : ∀ i j, i < 42 → j < 42 → w_kd w i = w_kd w j → i = j) (hka : ∀ i j, i < 39 → j < 39 → w_ka w i = w_ka w j → i = j) (xs : Nat → Int32) (L : Nat) (hL : L ≤ 3072) (a0 N0 : Nat) : ∃ fl h', f_Lw_law w fl xs L a0 (fun _ => none, N0) = some (1, h') := by
  sorry
