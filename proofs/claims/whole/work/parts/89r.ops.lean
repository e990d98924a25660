/-! The calls, one by one, of both. -/
section
variable {a m o : Nat} {h : hp_M}
theorem Md_countX {t tn : Nat} {tp : Nat → Int32} {th ea : Int32} {n : Nat} {S : skyV} {nA : Nat} {A : Nat → List Int32} {Rs : List ruV} (o : is_MM h m t tn tp th ea n S nA A Rs) {fl : Nat} {x : Int32} (hx : ¬ inN 8 x) : MX (f_Md_count fl m x h) h m t tn tp 1 ea n S nA A Rs := by
  obtain ⟨h1, e1, o1, r1, z1⟩ := o.th0 0
  refine MX_of (x := 1) o1 r1 z1 ?_
  unfold f_Md_count
  simp only [e1, show (7 : Int32) = ix 7 from rfl, isIn_no' (n := 7) hx (by omega), Option.bind_some]
  rw [if_pos trivial]
theorem op_feed {fl : Nat} (hfl : 5000 ≤ fl) (iv : IV a m o h) (x1 x2 x3 x4 x5 : Int32) (j : hp_M → Option (Int32 × hp_M)) : ∃ h', LwT (f_Lw_feed a x1 x2 x3 x4 x5 o h) (fun H => f_Md_feed fl m x1 x2 x3 x4 x5 H) m o j = j h' ∧ IV a m o h' := by
  obtain ⟨bk, dr, t, tn, tp, th, ea, n, S, B, Rs, iv⟩ := iv
  obtain ⟨o1, q1, ⟨ok, okb, okr⟩, ot, _⟩ := id iv
  by_cases c : tn ≤ 1980
  · obtain ⟨h1, e1, s1, f1, z1⟩ := SS_feed o1 c x1 x2 x3 x4 x5
    refine lw_ok iv (v := ix (tn + 20)) (h1 := h1) (fun h2 e2 => by unfold f_Lw_feed; exact bnd ((o1.on _).trans e1) (ite_n (show ¬ (0 : Nat) = 1 by decide) ((ite_n (fun q => q rfl) (bnd e2 rfl))))) f1 z1 s1 (fun h2 q2 => ?_) ok (okT_fed ot _)
    exact Md_feed q2 c x1 x2 x3 x4 x5 hfl
  · exact lw_thr iv (x := 1) (by unfold f_Lw_feed; exact bnd ((o1.on _).trans (SS_feedX o1 c x1 x2 x3 x4 x5)) (ite_p rfl rfl)) (by decide) (fun q => Md_feedX q c x1 x2 x3 x4 x5 fl)
theorem op_trim {fl : Nat} (hfl : 5000 ≤ fl) (iv : IV a m o h) (x1 : Int32) (j : hp_M → Option (Int32 × hp_M)) : ∃ h', LwT (f_Lw_trim a x1 o h) (fun H => f_Md_trim m x1 H) m o j = j h' ∧ IV a m o h' := by
  obtain ⟨bk, dr, t, tn, tp, th, ea, n, S, B, Rs, iv⟩ := iv
  obtain ⟨o1, q1, ⟨ok, okb, okr⟩, ot, _⟩ := id iv
  by_cases c : inN (tn + 1) x1
  · obtain ⟨k, hk, rfl⟩ := c
    obtain ⟨h1, e1, s1, f1, z1⟩ := SS_trim o1 (k := k) (by omega)
    refine lw_ok iv (v := ix k) (h1 := h1) (fun h2 e2 => by unfold f_Lw_trim; exact bnd ((o1.on _).trans e1) (ite_n (show ¬ (0 : Nat) = 2 by decide) ((ite_n (fun q => q rfl) (bnd e2 rfl))))) f1 z1 s1 (fun h2 q2 => ?_) ok (fun i hi => ot i (by omega))
    obtain ⟨h3, e3, q3, f3, _⟩ := Md_trim q2 (k := k) (by omega)
    exact ⟨h3, e3, q3, f3⟩
  · exact lw_thr iv (x := 1) (by unfold f_Lw_trim; exact bnd ((o1.on _).trans (SS_trimX o1 c)) (ite_p rfl rfl)) (by decide) (fun q => Md_trimX q c)
theorem op_count {fl : Nat} (hfl : 5000 ≤ fl) (iv : IV a m o h) (x1 : Int32) (j : hp_M → Option (Int32 × hp_M)) : ∃ h', LwT (f_Lw_count fl a x1 o h) (fun H => f_Md_count fl m x1 H) m o j = j h' ∧ IV a m o h' := by
  obtain ⟨bk, dr, t, tn, tp, th, ea, n, S, B, Rs, iv⟩ := iv
  obtain ⟨o1, q1, ⟨ok, okb, okr⟩, ot, _⟩ := id iv
  by_cases c : inN 8 x1
  · obtain ⟨k, hk, rfl⟩ := c
    have rl : Rs.length = B.2.2.2.length := okb.1.symm
    refine lw_ok iv (v := cntV n S tn B.2.1.length B.2.2.2.length k) (h1 := h) (fun h2 e2 => by unfold f_Lw_count; exact bnd ((o1.on _).trans (SS_count o1 ok hfl hk)) (ite_n (show ¬ (0 : Nat) = 3 by decide) ((ite_n (fun q => q rfl) (bnd e2 rfl))))) (fr.refl _ _ _) rfl o1 (fun h2 q2 => ?_) ok ot
    have e := Md_count q2 ok hfl hk
    rw [rl] at e
    exact e
  · exact lw_thr iv (x := 1) (by unfold f_Lw_count; exact bnd ((o1.on _).trans (SS_countX c)) (ite_p rfl rfl)) (by decide) (fun q => Md_countX q c)
theorem op_planet {fl : Nat} (hfl : 5000 ≤ fl) (iv : IV a m o h) (x1 x2 : Int32) (j : hp_M → Option (Int32 × hp_M)) : ∃ h', LwT (f_Lw_planet a x1 x2 o h) (fun H => f_Md_planet m x1 x2 H) m o j = j h' ∧ IV a m o h' := by
  obtain ⟨bk, dr, t, tn, tp, th, ea, n, S, B, Rs, iv⟩ := iv
  obtain ⟨o1, q1, ⟨ok, okb, okr⟩, ot, _⟩ := id iv
  by_cases c : inN n x1 ∧ inN 7 x2
  · obtain ⟨⟨i, hi, rfl⟩, ⟨k, hk, rfl⟩⟩ := c
    exact lw_ok iv (v := fact (S.1 i) S.2.1 k) (h1 := h) (fun h2 e2 => by unfold f_Lw_planet; exact bnd ((o1.on _).trans (SS_planet o1 ok hi hk)) (ite_n (show ¬ (0 : Nat) = 3 by decide) ((ite_n (fun q => q rfl) (bnd e2 rfl))))) (fr.refl _ _ _) rfl o1 (fun h2 q2 => Md_planet q2 ok hi hk) ok ot
  · exact lw_thr iv (x := 1) (by unfold f_Lw_planet; exact bnd ((o1.on _).trans (SS_planetX o1 c)) (ite_p rfl rfl)) (by decide) (fun q => Md_planetX q c)
theorem op_set {fl : Nat} (hfl : 5000 ≤ fl) (iv : IV a m o h) (x1 x2 : Int32) (j : hp_M → Option (Int32 × hp_M)) : ∃ h', LwT (f_Lw_set a x1 x2 o h) (fun H => f_Md_set m x1 x2 H) m o j = j h' ∧ IV a m o h' := by
  obtain ⟨bk, dr, t, tn, tp, th, ea, n, S, B, Rs, iv⟩ := iv
  obtain ⟨o1, q1, ⟨ok, okb, okr⟩, ot, _⟩ := id iv
  by_cases c : inN n x1
  · obtain ⟨i, hi, rfl⟩ := c
    by_cases c2 : inN 360 x2
    · obtain ⟨k, hk, rfl⟩ := c2
      obtain ⟨h1, e1, s1, f1, z1⟩ := SS_set o1 hi hk
      refine lw_ok iv (v := S.1 i 4) (h1 := h1) (fun h2 e2 => by unfold f_Lw_set; exact bnd ((o1.on _).trans e1) (ite_n (show ¬ (0 : Nat) = 3 by decide) (ite_n (show ¬ (0 : Nat) = 2 by decide) ((ite_n (fun q => q rfl) (bnd e2 rfl)))))) f1 z1 s1 (fun h2 q2 => ?_) (okY_set ok hk) ot
      obtain ⟨h3, e3, q3, f3, _⟩ := Md_set q2 hi hk
      exact ⟨h3, e3, q3, f3⟩
    · exact lw_thr iv (x := 2) (by unfold f_Lw_set; exact bnd ((o1.on _).trans (SS_setX2 o1 hi c2)) (ite_n (show ¬ (2 : Nat) = 3 by decide) (ite_p rfl rfl))) (by decide) (fun q => Md_setX2 q hi c2)
  · exact lw_thr iv (x := 1) (by unfold f_Lw_set; exact bnd ((o1.on _).trans (SS_setX1 o1 c)) (ite_p rfl rfl)) (by decide) (fun q => Md_setX1 q c)
theorem op_gap {fl : Nat} (hfl : 5000 ≤ fl) (iv : IV a m o h) (x1 x2 : Int32) (j : hp_M → Option (Int32 × hp_M)) : ∃ h', LwT (f_Lw_gap a x1 x2 o h) (fun H => f_Md_gap m x1 x2 H) m o j = j h' ∧ IV a m o h' := by
  obtain ⟨bk, dr, t, tn, tp, th, ea, n, S, B, Rs, iv⟩ := iv
  obtain ⟨o1, q1, ⟨ok, okb, okr⟩, ot, _⟩ := id iv
  by_cases c : inN n x1 ∧ inN n x2
  · obtain ⟨⟨i, hi, rfl⟩, ⟨k, hk, rfl⟩⟩ := c
    refine lw_ok iv (v := sht (S.1 i 4 - S.1 k 4)) (h1 := h) (fun h2 e2 => by unfold f_Lw_gap; exact bnd ((o1.on _).trans (SS_gap o1 hi hk)) (ite_n (show ¬ (0 : Nat) = 3 by decide) ((ite_n (fun q => q rfl) (bnd e2 rfl))))) (fr.refl _ _ _) rfl o1 (fun h2 q2 => ?_) ok ot
    obtain ⟨h3, e3, q3, f3, _⟩ := Md_gap q2 ok hi hk
    exact ⟨h3, e3, q3, f3⟩
  · exact lw_thr iv (x := 1) (by unfold f_Lw_gap; exact bnd ((o1.on _).trans (SS_gapX o1 c)) (ite_p rfl rfl)) (by decide) (fun q => Md_gapX q c)
theorem op_letter {fl : Nat} (hfl : 5000 ≤ fl) (iv : IV a m o h) (x1 x2 : Int32) (j : hp_M → Option (Int32 × hp_M)) : ∃ h', LwT (f_Lw_letter a x1 x2 o h) (fun H => f_Md_letter m x1 x2 H) m o j = j h' ∧ IV a m o h' := by
  obtain ⟨bk, dr, t, tn, tp, th, ea, n, S, B, Rs, iv⟩ := iv
  obtain ⟨o1, q1, ⟨ok, okb, okr⟩, ot, _⟩ := id iv
  by_cases c : inN B.2.1.length x1
  · obtain ⟨i, hi, rfl⟩ := c
    by_cases c2 : inN (alV B.2.1 i).length x2
    · obtain ⟨k, hk, rfl⟩ := c2
      refine lw_ok iv (v := (alV B.2.1 i).getD k 0) (h1 := h) (fun h2 e2 => by unfold f_Lw_letter; exact bnd ((o1.on _).trans (SS_letter o1 hi hk)) (ite_n (show ¬ (0 : Nat) = 3 by decide) ((ite_n (fun q => q rfl) (bnd e2 rfl))))) (fr.refl _ _ _) rfl o1 (fun h2 q2 => ?_) ok ot
      obtain ⟨h3, e3, q3, f3, _⟩ := Md_letter q2 hi hk
      exact ⟨h3, e3, q3, f3⟩
    · exact lw_thr iv (x := 1) (by unfold f_Lw_letter; exact bnd ((o1.on _).trans (SS_letterX2 o1 hi c2)) (ite_p rfl rfl)) (by decide) (fun q => Md_letterX2 q hi c2)
  · exact lw_thr iv (x := 1) (by unfold f_Lw_letter; exact bnd ((o1.on _).trans (SS_letterX1 o1 c)) (ite_p rfl rfl)) (by decide) (fun q => Md_letterX1 q c)
theorem op_wrote {fl : Nat} (hfl : 5000 ≤ fl) (iv : IV a m o h) (x1 : Int32) (j : hp_M → Option (Int32 × hp_M)) : ∃ h', LwT (f_Lw_wrote a x1 o h) (fun H => f_Md_wrote m x1 H) m o j = j h' ∧ IV a m o h' := by
  obtain ⟨bk, dr, t, tn, tp, th, ea, n, S, B, Rs, iv⟩ := iv
  obtain ⟨o1, q1, ⟨ok, okb, okr⟩, ot, _⟩ := id iv
  have rl : Rs.length = B.2.2.2.length := okb.1.symm
  by_cases c : inN B.2.2.2.length x1
  · obtain ⟨i, hi, rfl⟩ := c
    refine lw_ok iv (v := S.2.2.2.2 i) (h1 := h) (fun h2 e2 => by unfold f_Lw_wrote; exact bnd ((o1.on _).trans (SS_wrote o1 hi)) (ite_n (show ¬ (0 : Nat) = 3 by decide) ((ite_n (fun q => q rfl) (bnd e2 rfl))))) (fr.refl _ _ _) rfl o1 (fun h2 q2 => ?_) ok ot
    obtain ⟨h3, e3, q3, f3, _⟩ := Md_wrote q2 (i := i) (by rw [rl]; exact hi)
    exact ⟨h3, e3, q3, f3⟩
  · exact lw_thr iv (x := 1) (by unfold f_Lw_wrote; exact bnd ((o1.on _).trans (SS_wroteX o1 c)) (ite_p rfl rfl)) (by decide) (fun q => Md_wroteX q (by rw [rl]; exact c))
theorem op_pass {fl : Nat} (hfl : 5000 ≤ fl) (iv : IV a m o h) (x1 : Int32) (j : hp_M → Option (Int32 × hp_M)) : ∃ h', LwT (f_Lw_pass fl a x1 o h) (fun H => f_Md_pass fl m x1 H) m o j = j h' ∧ IV a m o h' := by
  obtain ⟨bk, dr, t, tn, tp, th, ea, n, S, B, Rs, iv⟩ := iv
  obtain ⟨o1, q1, ⟨ok, okb, okr⟩, ot, _⟩ := id iv
  by_cases c : in1 300 x1
  · obtain ⟨D, d1, d2, rfl⟩ := c
    obtain ⟨h1, e1, s1, f1, z1⟩ := SS_pass o1 ok okb hfl d1 d2
    refine lw_ok iv (v := ix (daysV (alV B.2.1) Rs D S).2.2.1 - ix S.2.2.1) (h1 := h1) (fun h2 e2 => by unfold f_Lw_pass; exact bnd ((o1.on _).trans e1) (ite_n (show ¬ (0 : Nat) = 2 by decide) ((ite_n (fun q => q rfl) (bnd e2 rfl))))) f1 z1 s1 (fun h2 q2 => ?_) (okY.days _ _ D S ok) ot
    obtain ⟨h3, e3, q3, f3, _⟩ := Md_pass q2 ok okr hfl d1 d2
    exact ⟨h3, e3, q3, f3⟩
  · exact lw_thr iv (x := 1) (by unfold f_Lw_pass; exact bnd ((o1.on _).trans (SS_passX c)) (ite_p rfl rfl)) (by decide) (fun q => Md_passX q c)
theorem op_byteAt {fl : Nat} (hfl : 5000 ≤ fl) (iv : IV a m o h) (x1 : Int32) (j : hp_M → Option (Int32 × hp_M)) : ∃ h', LwT (f_Lw_byteAt a x1 o h) (fun H => f_Md_byteAt m x1 H) m o j = j h' ∧ IV a m o h' := by
  obtain ⟨bk, dr, t, tn, tp, th, ea, n, S, B, Rs, iv⟩ := iv
  obtain ⟨o1, q1, ⟨ok, okb, okr⟩, ot, _⟩ := id iv
  by_cases c : inN S.2.2.1 x1
  · obtain ⟨i, hi, rfl⟩ := c
    refine lw_ok iv (v := S.2.2.2.1 i) (h1 := h) (fun h2 e2 => by unfold f_Lw_byteAt; exact bnd ((o1.on _).trans (SS_byteAt o1 hi)) (ite_n (show ¬ (0 : Nat) = 3 by decide) ((ite_n (fun q => q rfl) (bnd e2 rfl))))) (fr.refl _ _ _) rfl o1 (fun h2 q2 => ?_) ok ot
    obtain ⟨h3, e3, q3, f3, _⟩ := Md_byteAt q2 hi
    exact ⟨h3, e3, q3, f3⟩
  · exact lw_thr iv (x := 1) (by unfold f_Lw_byteAt; exact bnd ((o1.on _).trans (SS_byteAtX o1 c)) (ite_p rfl rfl)) (by decide) (fun q => Md_byteAtX q c)
theorem op_translate {fl : Nat} (hfl : 5000 ≤ fl) (iv : IV a m o h) (x1 x2 : Int32) (j : hp_M → Option (Int32 × hp_M)) : ∃ h', LwT (f_Lw_translate fl a x1 x2 o h) (fun H => f_Md_translate fl m x1 x2 H) m o j = j h' ∧ IV a m o h' := by
  obtain ⟨bk, dr, t, tn, tp, th, ea, n, S, B, Rs, iv⟩ := iv
  obtain ⟨o1, q1, ⟨ok, okb, okr⟩, ot, _⟩ := id iv
  by_cases c : inN B.2.1.length x1 ∧ inN B.2.1.length x2
  · obtain ⟨⟨u, hu, rfl⟩, ⟨k, hk, rfl⟩⟩ := c
    obtain ⟨h1, e1, s1, f1, z1⟩ := SS_translate o1 hu hk hfl
    refine lw_ok iv (v := (excV (alV B.2.1 u) (alV B.2.1 k) S.2.2.1 0 0 S.2.2.2.1).1) (h1 := h1) (fun h2 e2 => by unfold f_Lw_translate; exact bnd ((o1.on _).trans e1) (ite_n (show ¬ (0 : Nat) = 3 by decide) ((ite_n (fun q => q rfl) (bnd e2 rfl))))) f1 z1 s1 (fun h2 q2 => ?_) ok ot
    obtain ⟨h3, e3, q3, f3, _⟩ := Md_translate q2 hu hk hfl
    exact ⟨h3, e3, q3, f3⟩
  · exact lw_thr iv (x := 1) (by unfold f_Lw_translate; exact bnd ((o1.on _).trans (SS_translateX o1 c)) (ite_p rfl rfl)) (by decide) (fun q => Md_translateX q c)
theorem op_foresee {fl : Nat} (hfl : 5000 ≤ fl) (iv : IV a m o h) (x1 x2 : Int32) (j : hp_M → Option (Int32 × hp_M)) : ∃ h', LwT (f_Lw_foresee fl a x1 x2 o h) (fun H => f_Md_foresee fl m x1 x2 H) m o j = j h' ∧ IV a m o h' := by
  obtain ⟨bk, dr, t, tn, tp, th, ea, n, S, B, Rs, iv⟩ := iv
  obtain ⟨o1, q1, ⟨ok, okb, okr⟩, ot, _⟩ := id iv
  by_cases c : in1 300 x1
  · obtain ⟨D, d1, d2, rfl⟩ := c
    by_cases c2 : inN 3 x2
    · obtain ⟨k, hk, rfl⟩ := c2
      obtain ⟨h1, e1, s1, f1, z1⟩ := SS_foresee o1 ok okb hfl d1 d2 hk
      refine lw_ok iv (h1 := h1) (fun h2 e2 => by unfold f_Lw_foresee; exact bnd ((o1.on _).trans e1) (ite_n (show ¬ (0 : Nat) = 2 by decide) (ite_n (show ¬ (0 : Nat) = 3 by decide) ((ite_n (fun q => q rfl) (bnd e2 rfl)))))) f1 z1 s1 (fun h2 q2 => ?_) ok ot
      obtain ⟨h3, e3, q3, f3, _⟩ := Md_foresee q2 ok okr hfl d1 d2 hk
      exact ⟨h3, e3, q3, f3⟩
    · exact lw_thr iv (x := 2) (by unfold f_Lw_foresee; exact bnd ((o1.on _).trans (SS_foreseeX2 d1 d2 c2)) (ite_n (show ¬ (3 : Nat) = 2 by decide) (ite_p rfl rfl))) (by decide) (fun q => Md_foreseeX2 q d1 d2 c2)
  · exact lw_thr iv (x := 1) (by unfold f_Lw_foresee; exact bnd ((o1.on _).trans (SS_foreseeX1 c)) (ite_p rfl rfl)) (by decide) (fun q => Md_foreseeX1 q c)
theorem op_next {fl : Nat} (hfl : 5000 ≤ fl) (iv : IV a m o h) (x1 x2 x3 : Int32) (j : hp_M → Option (Int32 × hp_M)) : ∃ h', LwT (f_Lw_next fl a x1 x2 x3 o h) (fun H => f_Md_next fl m x1 x2 x3 H) m o j = j h' ∧ IV a m o h' := by
  obtain ⟨bk, dr, t, tn, tp, th, ea, n, S, B, Rs, iv⟩ := iv
  obtain ⟨o1, q1, ⟨ok, okb, okr⟩, ot, _⟩ := id iv
  by_cases c : inN n x1 ∧ inN n x2
  · obtain ⟨⟨i, hi, rfl⟩, ⟨k, hk, rfl⟩⟩ := c
    obtain ⟨h1, e1, s1, f1, z1⟩ := SS_next o1 ok hi hk x3 hfl
    generalize hv : nxtV i k (if x3 = 0 then 0 else 180) 1000 1 S = v at e1
    refine lw_ok iv (v := v) (h1 := h1) (fun h2 e2 => by unfold f_Lw_next; exact bnd ((o1.on _).trans e1) (ite_n (show ¬ (0 : Nat) = 3 by decide) ((ite_n (fun q => q rfl) (bnd e2 rfl))))) f1 z1 s1 (fun h2 q2 => ?_) ok ot
    obtain ⟨h3, e3, q3, f3, _⟩ := Md_next q2 ok hi hk x3 hfl
    rw [hv] at e3
    exact ⟨h3, e3, q3, f3⟩
  · exact lw_thr iv (x := 1) (by unfold f_Lw_next; exact bnd ((o1.on _).trans (SS_nextX o1 c)) (ite_p rfl rfl)) (by decide) (fun q => Md_nextX q c)
theorem op_again {fl : Nat} (hfl : 5000 ≤ fl) (iv : IV a m o h) (x1 : Int32) (j : hp_M → Option (Int32 × hp_M)) : ∃ h', LwT (f_Lw_again fl a x1 o h) (fun H => f_Md_again fl m x1 H) m o j = j h' ∧ IV a m o h' := by
  obtain ⟨bk, dr, t, tn, tp, th, ea, n, S, B, Rs, iv⟩ := iv
  obtain ⟨o1, q1, ⟨ok, okb, okr⟩, ot, _⟩ := id iv
  by_cases c : in1 2000 x1
  · obtain ⟨D, d1, d2, rfl⟩ := c
    obtain ⟨h1, e1, s1, f1, z1⟩ := SS_again o1 ok d1 d2 hfl
    refine lw_ok iv (h1 := h1) (fun h2 e2 => by unfold f_Lw_again; exact bnd ((o1.on _).trans e1) (ite_n (show ¬ (0 : Nat) = 2 by decide) ((ite_n (fun q => q rfl) (bnd e2 rfl))))) f1 z1 s1 (fun h2 q2 => ?_) ok ot
    obtain ⟨h3, e3, q3, f3, _⟩ := Md_again q2 ok d1 d2 hfl
    exact ⟨h3, e3, q3, f3⟩
  · exact lw_thr iv (x := 1) (by unfold f_Lw_again; exact bnd ((o1.on _).trans (SS_againX c)) (ite_p rfl rfl)) (by decide) (fun q => Md_againX q c)
theorem op_advise {fl : Nat} (hfl : 5000 ≤ fl) (iv : IV a m o h) (x1 x2 : Int32) (j : hp_M → Option (Int32 × hp_M)) : ∃ h', LwT (f_Lw_advise fl a x1 x2 o h) (fun H => f_Md_advise fl m x1 x2 H) m o j = j h' ∧ IV a m o h' := by
  obtain ⟨bk, dr, t, tn, tp, th, ea, n, S, B, Rs, iv⟩ := iv
  obtain ⟨o1, q1, ⟨ok, okb, okr⟩, ot, _⟩ := id iv
  by_cases c : inN n x1
  · obtain ⟨i, hi, rfl⟩ := c
    by_cases c2 : in1 60 x2
    · obtain ⟨D, d1, d2, rfl⟩ := c2
      obtain ⟨h1, e1, s1, f1, z1⟩ := SS_advise o1 ok okb hi d1 d2 hfl
      refine lw_ok iv (h1 := h1) (fun h2 e2 => by unfold f_Lw_advise; exact bnd ((o1.on _).trans e1) (ite_n (show ¬ (0 : Nat) = 3 by decide) (ite_n (show ¬ (0 : Nat) = 2 by decide) ((ite_n (fun q => q rfl) (bnd e2 rfl)))))) f1 z1 s1 (fun h2 q2 => ?_) ok ot
      obtain ⟨h3, e3, q3, f3, _⟩ := Md_advise q2 ok okr hi d1 d2 hfl
      exact ⟨h3, e3, q3, f3⟩
    · exact lw_thr iv (x := 2) (by unfold f_Lw_advise; exact bnd ((o1.on _).trans (SS_adviseX2 o1 hi c2)) (ite_n (show ¬ (2 : Nat) = 3 by decide) (ite_p rfl rfl))) (by decide) (fun q => Md_adviseX2 q hi c2)
  · exact lw_thr iv (x := 1) (by unfold f_Lw_advise; exact bnd ((o1.on _).trans (SS_adviseX1 o1 c)) (ite_p rfl rfl)) (by decide) (fun q => Md_adviseX1 q c)
def LwM (L : Option (Int32 × hp_M)) (G : hp_M → Option (Int32 × hp_M)) (m o : Nat) (j : hp_M → Option (Int32 × hp_M)) : Option (Int32 × hp_M) :=
  L.bind fun r1 => (onO r1.2 m 12 (G r1.2)).bind fun r2 => (onO r2.2 m 12 (f_Md_thrown m r2.2)).bind fun r3 => if r3 = r1.1 then (if r1.1 = 0 then ((gaL r2.2 o 0).bind fun v => if r2.1 = 0 then (if (lg_cmp v 0) = 0 then (j r2.2) else (some (0, r2.2))) else (if (lg_cmp v 1) = 0 then (j r2.2) else (some (0, r2.2)))) else (j r2.2)) else (some (0, r2.2))
theorem op_meets (iv : IV a m o h) (x1 x2 x3 : Int32) (j : hp_M → Option (Int32 × hp_M)) : ∃ h', LwM (f_Lw_meets a x1 x2 x3 o h) (fun H => f_Md_meets m x1 x2 x3 H) m o j = j h' ∧ IV a m o h' := by
  obtain ⟨bk, dr, t, tn, tp, th, ea, n, S, B, Rs, iv⟩ := iv
  obtain ⟨o1, q1, ⟨ok, okb, okr⟩, ot, ⟨g, i5⟩, ⟨i6, i7, i8⟩, i9⟩ := id iv
  by_cases c : inN n x1 ∧ inN n x2
  · obtain ⟨⟨i, hi, rfl⟩, ⟨k, hk, rfl⟩⟩ := c
    have e1 := SS_meets o1 hi hk x3
    have v01 := meetV_01 (S.1 i) (S.1 k) (if x3 = 0 then 0 else 180)
    obtain ⟨h2, e2, s2, q2, ⟨g2, c2, g0⟩, z2⟩ := iv.lay (fr.refl a (a + 106) h) rfl o1 (Int32.toInt64 (meetV (S.1 i) (S.1 k) (if x3 = 0 then 0 else 180)))
    obtain ⟨h3, e3, q3, f3, z3⟩ := Md_meets q2 ok hi hk x3
    obtain ⟨v3, c3⟩ := iv.fin s2 z2 c2 f3 q3 ⟨ok, okb, okr⟩ ot i9
    refine ⟨h3, ?_, v3⟩
    have L : f_Lw_meets a (ix i) (ix k) x3 o h = some (0, h2) := by
      unfold f_Lw_meets
      refine jnE (bnd ((o1.on _).trans e1) (ite_n (show ¬ (0 : Nat) = 3 by decide) (ite_n (fun q => q rfl) ?_)))
      rcases v01 with z | z
      · rw [z] at e2
        exact ite_p z (bnd e2 rfl)
      · rw [z] at e2
        exact ite_n (by show ¬ meetV _ _ _ = 0; rw [z]; decide) (bnd e2 rfl)
    unfold LwM
    refine bnd L (bnd ((q2.on _).trans e3) (bnd (thrown_of q3) (ite_p rfl (ite_p rfl (bnd (gaL_0 c3) ?_)))))
    rw [g0]
    rcases v01 with z | z
    · rw [z]
      exact ite_p rfl (ite_p ((lg_cmp0 _ _).mpr rfl) rfl)
    · rw [z]
      exact ite_n (show ¬ (1 : Int32) = 0 by decide) (ite_p ((lg_cmp0 _ _).mpr rfl) rfl)
  · have q := q1.keep (hX_fr h m m) (by omega) (by omega)
    obtain ⟨h3, e3, q3, f3, z3⟩ := Md_meetsX (z := x3) q c
    have hz : (hX h).2 = h.2 + 1 := rfl
    have c3 : h3.1 o = some (aL 1 g) := f3.cell (show (hX h).1 o = some (aL 1 g) from i5) (by omega) (by omega)
    refine ⟨h3, ?_, bk, dr, t, tn, tp, 1, ea, n, S, B, Rs, o1.X.keep f3 (by omega), q3, ⟨ok, okb, okr⟩, ot, ⟨g, c3⟩, ⟨i6, i7, by omega⟩, i9⟩
    have L : f_Lw_meets a x1 x2 x3 o h = some (1, hX h) := by
      unfold f_Lw_meets
      exact jnE (bnd ((o1.on _).trans (SS_meetsX o1 c)) (ite_p rfl rfl))
    unfold LwM
    exact bnd L (bnd ((q.on _).trans e3) (bnd (thrown_of q3) (ite_p rfl (ite_n (show ¬ (1 : Int32) = 0 by decide) rfl))))
def Lw2 (L : Option (Int32 × hp_M)) (G : hp_M → Option (Int32 × hp_M)) (m : Nat) (j : hp_M → Option (Int32 × hp_M)) : Option (Int32 × hp_M) :=
  L.bind fun r1 => (onO r1.2 m 12 (G r1.2)).bind fun r2 => if r1.1 = r2.1 then (j r2.2) else (some (0, r2.2))
theorem op_teach {w : hp_W} (ow : okW w) {fl : Nat} (hfl : 5000 ≤ fl) (iv : IV a m o h) (j : hp_M → Option (Int32 × hp_M)) : ∃ h', Lw2 (onO h a 9 (f_SS_teach w fl a h)) (fun H => f_Md_teach w fl m H) m j = j h' ∧ IV a m o h' := by
  obtain ⟨bk, dr, t, tn, tp, th, ea, n, S, B, Rs, iv⟩ := iv
  obtain ⟨o1, q1, ⟨ok, okb, okr⟩, ot, _, ⟨i6, i7, i8⟩, i9⟩ := id iv
  obtain ⟨h1, e1, s1, s2, f1, z1⟩ := SS_teach ow ot o1 hfl
  have q2 := iv.mm1 f1
  obtain ⟨h3, e3, f3, r⟩ := Md_teach ow ot hfl q2
  have run : Lw2 (onO h a 9 (f_SS_teach w fl a h)) (fun H => f_Md_teach w fl m H) m j = j h3 := by
    unfold Lw2
    exact bnd ((o1.on _).trans e1) (bnd ((q2.on _).trans e3) (ite_p rfl rfl))
  refine ⟨h3, run, ?_⟩
  have ot0 : okT 0 tp := fun i hi => absurd hi (Nat.not_lt_zero _)
  rcases r with ⟨n0, q3⟩ | ⟨y0, y1, t', Rs', ht, q3, tx⟩
  · exact lw_two iv f1 z1 (s1 n0) f3 q3 ⟨ok, okb, okr⟩ ot0 i9
  · have s3 := s2 y0
    rw [y1] at s3
    exact lw_two iv f1 z1 s3 f3 q3 ⟨fun i hi => (tx.1 i hi).1, tx.2.1, tx.2.2⟩ ot0 (Or.inr (by omega))
theorem op_clear (iv : IV a m o h) (j : hp_M → Option (Int32 × hp_M)) : ∃ h', Lw2 (onO h a 9 (f_SS_clear a h)) (fun H => f_Md_clear m H) m j = j h' ∧ IV a m o h' := by
  obtain ⟨bk, dr, t, tn, tp, th, ea, n, S, B, Rs, iv⟩ := iv
  obtain ⟨o1, q1, ⟨ok, okb, okr⟩, ot, _, _, i9⟩ := id iv
  obtain ⟨h1, e1, s1, f1, z1⟩ := SS_clear o1
  have q2 := iv.mm1 f1
  obtain ⟨h3, e3, q3, f3, _⟩ := Md_clear q2
  refine ⟨h3, ?_, lw_two iv f1 z1 s1 f3 q3 ⟨ok, okb, okr⟩ ot i9⟩
  unfold Lw2
  exact bnd ((o1.on _).trans e1) (bnd ((q2.on _).trans e3) (ite_p rfl rfl))
theorem op_spells {fl : Nat} (hfl : 5000 ≤ fl) (iv : IV a m o h) (j : hp_M → Option (Int32 × hp_M)) : ∃ h', Lw2 (onO h a 9 (f_SS_spells fl a h)) (fun H => f_Md_spells fl m H) m j = j h' ∧ IV a m o h' := by
  obtain ⟨bk, dr, t, tn, tp, th, ea, n, S, B, Rs, iv⟩ := iv
  obtain ⟨o1, q1, ⟨ok, okb, okr⟩, ot, _, _, i9⟩ := id iv
  obtain ⟨h1, e1, s1, f1, z1⟩ := SS_spells o1 ok okb hfl
  have q2 := iv.mm1 f1
  obtain ⟨h3, e3, q3, f3, _⟩ := Md_spells q2 ok okr hfl
  refine ⟨h3, ?_, lw_two iv f1 z1 s1 f3 q3 ⟨ok, okb, okr⟩ ot i9⟩
  unfold Lw2
  exact bnd ((o1.on _).trans e1) (bnd ((q2.on _).trans e3) (ite_p rfl rfl))
theorem op_errorAt (iv : IV a m o h) (j : hp_M → Option (Int32 × hp_M)) : ∃ h', ((onO h a 9 (f_SS_errorAt a h)).bind fun r1 => (onO h m 12 (f_Md_errorAt m h)).bind fun r2 => if r1 = r2.1 then (j r2.2) else (some (0, r2.2))) = j h' ∧ IV a m o h' := by
  obtain ⟨bk, dr, t, tn, tp, th, ea, n, S, B, Rs, iv⟩ := iv
  obtain ⟨o1, q1, ⟨ok, okb, okr⟩, ot, _, _, i9⟩ := id iv
  obtain ⟨h3, e3, q3, f3, _⟩ := Md_errorAt q1
  refine ⟨h3, ?_, lw_two iv (fr.refl _ _ _) rfl o1 f3 q3 ⟨ok, okb, okr⟩ ot i9⟩
  exact bnd ((o1.on _).trans (SS_errorAt o1)) (bnd ((q1.on _).trans e3) (ite_p rfl rfl))
theorem op_find {fl : Nat} (hfl : 5000 ≤ fl) (iv : IV a m o h) (j : hp_M → Option (Int32 × hp_M)) : ∃ h', ((onO h a 9 (f_SS_find fl a h)).bind fun r1 => (onO h m 12 (f_Md_find fl m h)).bind fun r2 => if r1 = r2.1 then (j r2.2) else (some (0, r2.2))) = j h' ∧ IV a m o h' := by
  obtain ⟨bk, dr, t, tn, tp, th, ea, n, S, B, Rs, iv⟩ := iv
  obtain ⟨o1, q1, ⟨ok, okb, okr⟩, ot, _, _, i9⟩ := id iv
  obtain ⟨h3, e3, q3, f3, _⟩ := Md_find q1 hfl
  refine ⟨h3, ?_, lw_two iv (fr.refl _ _ _) rfl o1 f3 q3 ⟨ok, okb, okr⟩ ot i9⟩
  exact bnd ((o1.on _).trans (SS_find o1 hfl)) (bnd ((q1.on _).trans e3) (ite_p rfl rfl))
theorem op_digest {fl : Nat} (hfl : 5000 ≤ fl) (iv : IV a m o h) (j : hp_M → Option (Int32 × hp_M)) : ∃ h', ((onO h a 9 (f_SS_digest fl a h)).bind fun r1 => (onO h m 12 (f_Md_digest fl m h)).bind fun r2 => if (lg_cmp r1 r2.1) = 0 then (j r2.2) else (some (0, r2.2))) = j h' ∧ IV a m o h' := by
  obtain ⟨bk, dr, t, tn, tp, th, ea, n, S, B, Rs, iv⟩ := iv
  obtain ⟨o1, q1, ⟨ok, okb, okr⟩, ot, _, _, i9⟩ := id iv
  obtain ⟨h3, e3, q3, f3⟩ := Md_digest q1 ok hfl
  have rl : Rs.length = B.2.2.2.length := okb.1.symm
  refine ⟨h3, ?_, lw_two iv (fr.refl _ _ _) rfl o1 f3 q3 ⟨ok, okb, okr⟩ ot i9⟩
  exact bnd ((o1.on _).trans (SS_digest o1 ok hfl)) (bnd ((q1.on _).trans e3) (ite_p ((lg_cmp0 _ _).mpr (by dsimp only; rw [rl])) rfl))
theorem op_mean {fl : Nat} (hfl : 5000 ≤ fl) (iv : IV a m o h) (j : hp_M → Option (Int32 × hp_M)) : ∃ h', ((onO h a 9 (f_SS_mean fl a h)).bind fun r1280 => (onO h m 12 (f_Md_mean fl m h)).bind fun r1281 => if (Op.cmpValue (FP.dcmp r1280 r1281.1) .l) = 0 then (j r1281.2) else (if (Op.cmpValue (FP.dcmp r1280 r1280) .l) = 0 then (some (0, r1281.2)) else (if (Op.cmpValue (FP.dcmp r1281.1 r1281.1) .l) = 0 then (some (0, r1281.2)) else (j r1281.2)))) = j h' ∧ IV a m o h' := by
  obtain ⟨bk, dr, t, tn, tp, th, ea, n, S, B, Rs, iv⟩ := iv
  obtain ⟨o1, q1, ⟨ok, okb, okr⟩, ot, _, _, i9⟩ := id iv
  obtain ⟨h3, e3, q3, f3, _⟩ := Md_mean q1 hfl
  have rl : Rs.length = B.2.2.2.length := okb.1.symm
  have es := SS_mean o1 hfl
  rw [rl] at e3
  refine ⟨h3, ?_, lw_two iv (fr.refl _ _ _) rfl o1 f3 q3 ⟨ok, okb, okr⟩ ot i9⟩
  obtain ⟨v, hv, hc⟩ : ∃ v, (if S.2.1 = 0 then some 0 else ddC (FP.i2d (sumV S.2.2.2.2 B.2.2.2.length)) (FP.i2d S.2.1)) = some v ∧ FP.dcmp v v = some .eq := by
    by_cases z : S.2.1 = 0
    · rw [if_pos z]; exact ⟨0, rfl, mean_0⟩
    · rw [if_neg z]; exact mean_ok _ _ z
  rw [hv] at es e3
  exact bnd ((o1.on _).trans es) (bnd ((q1.on _).trans e3) (ite_p (by dsimp only; rw [hc]; rfl) rfl))
end
/-- a turn of the law's loop -/
def lwB (w : hp_W) (fl : Nat) (xs : Nat → Int32) (Ls a1 a2 a3 : Nat) (x4 : Int32) (h : hp_M) (j1019 : hp_M → Option (Int32 × hp_M)) : Option (Int32 × hp_M) := (scrI xs Ls x4).bind fun v1021 => if (v1021 &&& 31) = 0 then ((scrI xs Ls (x4 + 1)).bind fun v1023 => (scrI xs Ls (x4 + 2)).bind fun v1024 => (scrI xs Ls (x4 + 3)).bind fun v1025 => (scrI xs Ls (x4 + 4)).bind fun v1026 => (scrI xs Ls (x4 + 5)).bind fun v1027 => (f_Lw_feed a1 v1023 v1024 v1025 v1026 v1027 a3 h).bind fun r1028 => (scrI xs Ls (x4 + 1)).bind fun v1029 => (scrI xs Ls (x4 + 2)).bind fun v1030 => (scrI xs Ls (x4 + 3)).bind fun v1031 => (scrI xs Ls (x4 + 4)).bind fun v1032 => (scrI xs Ls (x4 + 5)).bind fun v1033 => (onO r1028.2 a2 12 (f_Md_feed fl a2 v1029 v1030 v1031 v1032 v1033 r1028.2)).bind fun r1034 => (onO r1034.2 a2 12 (f_Md_thrown a2 r1034.2)).bind fun r1035 => if r1035 = r1028.1 then (if r1028.1 = 0 then ((gaL r1034.2 a3 0).bind fun v1038 => if (lg_cmp v1038 (Int32.toInt64 r1034.1)) = 0 then (j1019 r1034.2) else (some (0, r1034.2))) else (j1019 r1034.2)) else (some (0, r1034.2))) else if (v1021 &&& 31) = 1 then ((scrI xs Ls (x4 + 1)).bind fun v1041 => (f_Lw_trim a1 v1041 a3 h).bind fun r1042 => (scrI xs Ls (x4 + 1)).bind fun v1043 => (onO r1042.2 a2 12 (f_Md_trim a2 v1043 r1042.2)).bind fun r1044 => (onO r1044.2 a2 12 (f_Md_thrown a2 r1044.2)).bind fun r1045 => if r1045 = r1042.1 then (if r1042.1 = 0 then ((gaL r1044.2 a3 0).bind fun v1048 => if (lg_cmp v1048 (Int32.toInt64 r1044.1)) = 0 then (j1019 r1044.2) else (some (0, r1044.2))) else (j1019 r1044.2)) else (some (0, r1044.2))) else if (v1021 &&& 31) = 2 then ((onO h a1 9 (f_SS_teach w fl a1 h)).bind fun r1051 => (onO r1051.2 a2 12 (f_Md_teach w fl a2 r1051.2)).bind fun r1052 => if r1051.1 = r1052.1 then (j1019 r1052.2) else (some (0, r1052.2))) else if (v1021 &&& 31) = 3 then ((onO h a1 9 (f_SS_errorAt a1 h)).bind fun r1055 => (onO h a2 12 (f_Md_errorAt a2 h)).bind fun r1056 => if r1055 = r1056.1 then (j1019 r1056.2) else (some (0, r1056.2))) else if (v1021 &&& 31) = 4 then ((scrI xs Ls (x4 + 1)).bind fun v1059 => (f_Lw_count fl a1 v1059 a3 h).bind fun r1060 => (scrI xs Ls (x4 + 1)).bind fun v1061 => (onO r1060.2 a2 12 (f_Md_count fl a2 v1061 r1060.2)).bind fun r1062 => (onO r1062.2 a2 12 (f_Md_thrown a2 r1062.2)).bind fun r1063 => if r1063 = r1060.1 then (if r1060.1 = 0 then ((gaL r1062.2 a3 0).bind fun v1066 => if (lg_cmp v1066 (Int32.toInt64 r1062.1)) = 0 then (j1019 r1062.2) else (some (0, r1062.2))) else (j1019 r1062.2)) else (some (0, r1062.2))) else if (v1021 &&& 31) = 5 then ((scrI xs Ls (x4 + 1)).bind fun v1069 => (scrI xs Ls (x4 + 2)).bind fun v1070 => (f_Lw_planet a1 v1069 v1070 a3 h).bind fun r1071 => (scrI xs Ls (x4 + 1)).bind fun v1072 => (scrI xs Ls (x4 + 2)).bind fun v1073 => (onO r1071.2 a2 12 (f_Md_planet a2 v1072 v1073 r1071.2)).bind fun r1074 => (onO r1074.2 a2 12 (f_Md_thrown a2 r1074.2)).bind fun r1075 => if r1075 = r1071.1 then (if r1071.1 = 0 then ((gaL r1074.2 a3 0).bind fun v1078 => if (lg_cmp v1078 (Int32.toInt64 r1074.1)) = 0 then (j1019 r1074.2) else (some (0, r1074.2))) else (j1019 r1074.2)) else (some (0, r1074.2))) else if (v1021 &&& 31) = 6 then ((scrI xs Ls (x4 + 1)).bind fun v1081 => (scrI xs Ls (x4 + 2)).bind fun v1082 => (f_Lw_set a1 v1081 v1082 a3 h).bind fun r1083 => (scrI xs Ls (x4 + 1)).bind fun v1084 => (scrI xs Ls (x4 + 2)).bind fun v1085 => (onO r1083.2 a2 12 (f_Md_set a2 v1084 v1085 r1083.2)).bind fun r1086 => (onO r1086.2 a2 12 (f_Md_thrown a2 r1086.2)).bind fun r1087 => if r1087 = r1083.1 then (if r1083.1 = 0 then ((gaL r1086.2 a3 0).bind fun v1090 => if (lg_cmp v1090 (Int32.toInt64 r1086.1)) = 0 then (j1019 r1086.2) else (some (0, r1086.2))) else (j1019 r1086.2)) else (some (0, r1086.2))) else if (v1021 &&& 31) = 7 then ((scrI xs Ls (x4 + 1)).bind fun v1093 => (scrI xs Ls (x4 + 2)).bind fun v1094 => (f_Lw_gap a1 v1093 v1094 a3 h).bind fun r1095 => (scrI xs Ls (x4 + 1)).bind fun v1096 => (scrI xs Ls (x4 + 2)).bind fun v1097 => (onO r1095.2 a2 12 (f_Md_gap a2 v1096 v1097 r1095.2)).bind fun r1098 => (onO r1098.2 a2 12 (f_Md_thrown a2 r1098.2)).bind fun r1099 => if r1099 = r1095.1 then (if r1095.1 = 0 then ((gaL r1098.2 a3 0).bind fun v1102 => if (lg_cmp v1102 (Int32.toInt64 r1098.1)) = 0 then (j1019 r1098.2) else (some (0, r1098.2))) else (j1019 r1098.2)) else (some (0, r1098.2))) else if (v1021 &&& 31) = 8 then (jn (fun (u1109 : Int32) (u1110 : Int32) (u1111 : Int32) (u1112 : Nat) => jn (fun (u1118 : Int32) (u1119 : Int32) (u1120 : Int32) (u1121 : Int32) (u1122 : Nat) (h1123 : hp_M) => (onO h1123 u1122 12 (f_Md_meets u1122 u1121 u1120 u1119 h1123)).bind fun r1124 => (onO r1124.2 a2 12 (f_Md_thrown a2 r1124.2)).bind fun r1125 => if r1125 = u1118 then (if u1118 = 0 then (jn (fun (u1130 : Int64) (u1131 : Int64) => if (lg_cmp u1131 u1130) = 0 then (j1019 r1124.2) else (some (0, r1124.2))) fun (j1129 : Int64 → Int64 → Option (Int32 × hp_M)) => (gaL r1124.2 a3 0).bind fun v1133 => if r1124.1 = 0 then (j1129 0 v1133) else (j1129 1 v1133)) else (j1019 r1124.2)) else (some (0, r1124.2))) fun (j1117 : Int32 → Int32 → Int32 → Int32 → Nat → hp_M → Option (Int32 × hp_M)) => (f_Lw_meets u1112 u1111 u1110 u1109 a3 h).bind fun r1135 => (scrI xs Ls (x4 + 1)).bind fun v1136 => (scrI xs Ls (x4 + 2)).bind fun v1137 => (scrI xs Ls (x4 + 3)).bind fun v1138 => if v1138 = 0 then (j1117 r1135.1 0 v1137 v1136 a2 r1135.2) else (j1117 r1135.1 1 v1137 v1136 a2 r1135.2)) fun (j1108 : Int32 → Int32 → Int32 → Nat → Option (Int32 × hp_M)) => (scrI xs Ls (x4 + 1)).bind fun v1140 => (scrI xs Ls (x4 + 2)).bind fun v1141 => (scrI xs Ls (x4 + 3)).bind fun v1142 => if v1142 = 0 then (j1108 0 v1141 v1140 a1) else (j1108 1 v1141 v1140 a1)) else if (v1021 &&& 31) = 9 then ((scrI xs Ls (x4 + 1)).bind fun v1145 => (scrI xs Ls (x4 + 2)).bind fun v1146 => (f_Lw_letter a1 v1145 v1146 a3 h).bind fun r1147 => (scrI xs Ls (x4 + 1)).bind fun v1148 => (scrI xs Ls (x4 + 2)).bind fun v1149 => (onO r1147.2 a2 12 (f_Md_letter a2 v1148 v1149 r1147.2)).bind fun r1150 => (onO r1150.2 a2 12 (f_Md_thrown a2 r1150.2)).bind fun r1151 => if r1151 = r1147.1 then (if r1147.1 = 0 then ((gaL r1150.2 a3 0).bind fun v1154 => if (lg_cmp v1154 (Int32.toInt64 r1150.1)) = 0 then (j1019 r1150.2) else (some (0, r1150.2))) else (j1019 r1150.2)) else (some (0, r1150.2))) else if (v1021 &&& 31) = 10 then ((scrI xs Ls (x4 + 1)).bind fun v1157 => (f_Lw_wrote a1 v1157 a3 h).bind fun r1158 => (scrI xs Ls (x4 + 1)).bind fun v1159 => (onO r1158.2 a2 12 (f_Md_wrote a2 v1159 r1158.2)).bind fun r1160 => (onO r1160.2 a2 12 (f_Md_thrown a2 r1160.2)).bind fun r1161 => if r1161 = r1158.1 then (if r1158.1 = 0 then ((gaL r1160.2 a3 0).bind fun v1164 => if (lg_cmp v1164 (Int32.toInt64 r1160.1)) = 0 then (j1019 r1160.2) else (some (0, r1160.2))) else (j1019 r1160.2)) else (some (0, r1160.2))) else if (v1021 &&& 31) = 11 then ((scrI xs Ls (x4 + 1)).bind fun v1167 => (f_Lw_pass fl a1 v1167 a3 h).bind fun r1168 => (scrI xs Ls (x4 + 1)).bind fun v1169 => (onO r1168.2 a2 12 (f_Md_pass fl a2 v1169 r1168.2)).bind fun r1170 => (onO r1170.2 a2 12 (f_Md_thrown a2 r1170.2)).bind fun r1171 => if r1171 = r1168.1 then (if r1168.1 = 0 then ((gaL r1170.2 a3 0).bind fun v1174 => if (lg_cmp v1174 (Int32.toInt64 r1170.1)) = 0 then (j1019 r1170.2) else (some (0, r1170.2))) else (j1019 r1170.2)) else (some (0, r1170.2))) else if (v1021 &&& 31) = 12 then ((scrI xs Ls (x4 + 1)).bind fun v1177 => (f_Lw_byteAt a1 v1177 a3 h).bind fun r1178 => (scrI xs Ls (x4 + 1)).bind fun v1179 => (onO r1178.2 a2 12 (f_Md_byteAt a2 v1179 r1178.2)).bind fun r1180 => (onO r1180.2 a2 12 (f_Md_thrown a2 r1180.2)).bind fun r1181 => if r1181 = r1178.1 then (if r1178.1 = 0 then ((gaL r1180.2 a3 0).bind fun v1184 => if (lg_cmp v1184 (Int32.toInt64 r1180.1)) = 0 then (j1019 r1180.2) else (some (0, r1180.2))) else (j1019 r1180.2)) else (some (0, r1180.2))) else if (v1021 &&& 31) = 13 then ((onO h a1 9 (f_SS_clear a1 h)).bind fun r1187 => (onO r1187.2 a2 12 (f_Md_clear a2 r1187.2)).bind fun r1188 => if r1187.1 = r1188.1 then (j1019 r1188.2) else (some (0, r1188.2))) else if (v1021 &&& 31) = 14 then ((onO h a1 9 (f_SS_find fl a1 h)).bind fun r1191 => (onO h a2 12 (f_Md_find fl a2 h)).bind fun r1192 => if r1191 = r1192.1 then (j1019 r1192.2) else (some (0, r1192.2))) else if (v1021 &&& 31) = 15 then ((scrI xs Ls (x4 + 1)).bind fun v1195 => (scrI xs Ls (x4 + 2)).bind fun v1196 => (f_Lw_translate fl a1 v1195 v1196 a3 h).bind fun r1197 => (scrI xs Ls (x4 + 1)).bind fun v1198 => (scrI xs Ls (x4 + 2)).bind fun v1199 => (onO r1197.2 a2 12 (f_Md_translate fl a2 v1198 v1199 r1197.2)).bind fun r1200 => (onO r1200.2 a2 12 (f_Md_thrown a2 r1200.2)).bind fun r1201 => if r1201 = r1197.1 then (if r1197.1 = 0 then ((gaL r1200.2 a3 0).bind fun v1204 => if (lg_cmp v1204 (Int32.toInt64 r1200.1)) = 0 then (j1019 r1200.2) else (some (0, r1200.2))) else (j1019 r1200.2)) else (some (0, r1200.2))) else if (v1021 &&& 31) = 16 then ((scrI xs Ls (x4 + 1)).bind fun v1207 => (scrI xs Ls (x4 + 2)).bind fun v1208 => (f_Lw_foresee fl a1 v1207 v1208 a3 h).bind fun r1209 => (scrI xs Ls (x4 + 1)).bind fun v1210 => (scrI xs Ls (x4 + 2)).bind fun v1211 => (onO r1209.2 a2 12 (f_Md_foresee fl a2 v1210 v1211 r1209.2)).bind fun r1212 => (onO r1212.2 a2 12 (f_Md_thrown a2 r1212.2)).bind fun r1213 => if r1213 = r1209.1 then (if r1209.1 = 0 then ((gaL r1212.2 a3 0).bind fun v1216 => if (lg_cmp v1216 (Int32.toInt64 r1212.1)) = 0 then (j1019 r1212.2) else (some (0, r1212.2))) else (j1019 r1212.2)) else (some (0, r1212.2))) else if (v1021 &&& 31) = 17 then (jn (fun (u1223 : Int32) (u1224 : Int32) (u1225 : Int32) (u1226 : Nat) => jn (fun (u1232 : Int32) (u1233 : Int32) (u1234 : Int32) (u1235 : Int32) (u1236 : Nat) (h1237 : hp_M) => (onO h1237 u1236 12 (f_Md_next fl u1236 u1235 u1234 u1233 h1237)).bind fun r1238 => (onO r1238.2 a2 12 (f_Md_thrown a2 r1238.2)).bind fun r1239 => if r1239 = u1232 then (if u1232 = 0 then ((gaL r1238.2 a3 0).bind fun v1242 => if (lg_cmp v1242 (Int32.toInt64 r1238.1)) = 0 then (j1019 r1238.2) else (some (0, r1238.2))) else (j1019 r1238.2)) else (some (0, r1238.2))) fun (j1231 : Int32 → Int32 → Int32 → Int32 → Nat → hp_M → Option (Int32 × hp_M)) => (f_Lw_next fl u1226 u1225 u1224 u1223 a3 h).bind fun r1244 => (scrI xs Ls (x4 + 1)).bind fun v1245 => (scrI xs Ls (x4 + 2)).bind fun v1246 => (scrI xs Ls (x4 + 3)).bind fun v1247 => if v1247 = 0 then (j1231 r1244.1 0 v1246 v1245 a2 r1244.2) else (j1231 r1244.1 1 v1246 v1245 a2 r1244.2)) fun (j1222 : Int32 → Int32 → Int32 → Nat → Option (Int32 × hp_M)) => (scrI xs Ls (x4 + 1)).bind fun v1249 => (scrI xs Ls (x4 + 2)).bind fun v1250 => (scrI xs Ls (x4 + 3)).bind fun v1251 => if v1251 = 0 then (j1222 0 v1250 v1249 a1) else (j1222 1 v1250 v1249 a1)) else if (v1021 &&& 31) = 18 then ((onO h a1 9 (f_SS_spells fl a1 h)).bind fun r1254 => (onO r1254.2 a2 12 (f_Md_spells fl a2 r1254.2)).bind fun r1255 => if r1254.1 = r1255.1 then (j1019 r1255.2) else (some (0, r1255.2))) else if (v1021 &&& 31) = 19 then ((scrI xs Ls (x4 + 1)).bind fun v1258 => (f_Lw_again fl a1 v1258 a3 h).bind fun r1259 => (scrI xs Ls (x4 + 1)).bind fun v1260 => (onO r1259.2 a2 12 (f_Md_again fl a2 v1260 r1259.2)).bind fun r1261 => (onO r1261.2 a2 12 (f_Md_thrown a2 r1261.2)).bind fun r1262 => if r1262 = r1259.1 then (if r1259.1 = 0 then ((gaL r1261.2 a3 0).bind fun v1265 => if (lg_cmp v1265 (Int32.toInt64 r1261.1)) = 0 then (j1019 r1261.2) else (some (0, r1261.2))) else (j1019 r1261.2)) else (some (0, r1261.2))) else if (v1021 &&& 31) = 20 then ((scrI xs Ls (x4 + 1)).bind fun v1268 => (scrI xs Ls (x4 + 2)).bind fun v1269 => (f_Lw_advise fl a1 v1268 v1269 a3 h).bind fun r1270 => (scrI xs Ls (x4 + 1)).bind fun v1271 => (scrI xs Ls (x4 + 2)).bind fun v1272 => (onO r1270.2 a2 12 (f_Md_advise fl a2 v1271 v1272 r1270.2)).bind fun r1273 => (onO r1273.2 a2 12 (f_Md_thrown a2 r1273.2)).bind fun r1274 => if r1274 = r1270.1 then (if r1270.1 = 0 then ((gaL r1273.2 a3 0).bind fun v1277 => if (lg_cmp v1277 (Int32.toInt64 r1273.1)) = 0 then (j1019 r1273.2) else (some (0, r1273.2))) else (j1019 r1273.2)) else (some (0, r1273.2))) else if (v1021 &&& 31) = 21 then ((onO h a1 9 (f_SS_mean fl a1 h)).bind fun r1280 => (onO h a2 12 (f_Md_mean fl a2 h)).bind fun r1281 => if (Op.cmpValue (FP.dcmp r1280 r1281.1) .l) = 0 then (j1019 r1281.2) else (if (Op.cmpValue (FP.dcmp r1280 r1280) .l) = 0 then (some (0, r1281.2)) else (if (Op.cmpValue (FP.dcmp r1281.1 r1281.1) .l) = 0 then (some (0, r1281.2)) else (j1019 r1281.2)))) else if (v1021 &&& 31) = 22 then ((onO h a1 9 (f_SS_digest fl a1 h)).bind fun r1286 => (onO h a2 12 (f_Md_digest fl a2 h)).bind fun r1287 => if (lg_cmp r1286 r1287.1) = 0 then (j1019 r1287.2) else (some (0, r1287.2))) else (j1019 h)
theorem lw_turn {w : hp_W} (ow : okW w) {fl : Nat} (hfl : 5000 ≤ fl) {xs : Nat → Int32} {Ls a m o : Nat} {X v0 v1 v2 v3 v4 v5 : Int32} (s0 : scrI xs Ls X = some v0) (s1 : scrI xs Ls (X + 1) = some v1) (s2 : scrI xs Ls (X + 2) = some v2) (s3 : scrI xs Ls (X + 3) = some v3) (s4 : scrI xs Ls (X + 4) = some v4) (s5 : scrI xs Ls (X + 5) = some v5) {h : hp_M} (iv : IV a m o h) (j : hp_M → Option (Int32 × hp_M)) : ∃ h', lwB w fl xs Ls a m o X h j = j h' ∧ IV a m o h' := by
  unfold lwB
  rw [s0, Option.bind_some]
  by_cases c0 : (v0 &&& 31) = 0
  · rw [if_pos c0]
    simp only [s1, s2, s3, s4, s5, Option.bind_some]
    exact op_feed hfl iv v1 v2 v3 v4 v5 j
  rw [if_neg c0]
  by_cases c1 : (v0 &&& 31) = 1
  · rw [if_pos c1]
    simp only [s1, Option.bind_some]
    exact op_trim hfl iv v1 j
  rw [if_neg c1]
  by_cases c2 : (v0 &&& 31) = 2
  · rw [if_pos c2]
    exact op_teach ow hfl iv j
  rw [if_neg c2]
  by_cases c3 : (v0 &&& 31) = 3
  · rw [if_pos c3]
    exact op_errorAt iv j
  rw [if_neg c3]
  by_cases c4 : (v0 &&& 31) = 4
  · rw [if_pos c4]
    simp only [s1, Option.bind_some]
    exact op_count hfl iv v1 j
  rw [if_neg c4]
  by_cases c5 : (v0 &&& 31) = 5
  · rw [if_pos c5]
    simp only [s1, s2, Option.bind_some]
    exact op_planet hfl iv v1 v2 j
  rw [if_neg c5]
  by_cases c6 : (v0 &&& 31) = 6
  · rw [if_pos c6]
    simp only [s1, s2, Option.bind_some]
    exact op_set hfl iv v1 v2 j
  rw [if_neg c6]
  by_cases c7 : (v0 &&& 31) = 7
  · rw [if_pos c7]
    simp only [s1, s2, Option.bind_some]
    exact op_gap hfl iv v1 v2 j
  rw [if_neg c7]
  by_cases c8 : (v0 &&& 31) = 8
  · rw [if_pos c8]
    obtain ⟨h1, e1, i1⟩ := op_meets iv v1 v2 (if v3 = 0 then 0 else 1) j
    refine ⟨h1, ?_, i1⟩
    rw [← e1]
    by_cases z : v3 = 0
    · rw [if_pos z]; exact jnE (bnd s1 (bnd s2 (bnd s3 (ite_p z (jnE (by simp only [s1, s2, s3, Option.bind_some, if_pos z]; rfl))))))
    · rw [if_neg z]; exact jnE (bnd s1 (bnd s2 (bnd s3 (ite_n z (jnE (by simp only [s1, s2, s3, Option.bind_some, if_neg z]; rfl))))))
  rw [if_neg c8]
  by_cases c9 : (v0 &&& 31) = 9
  · rw [if_pos c9]
    simp only [s1, s2, Option.bind_some]
    exact op_letter hfl iv v1 v2 j
  rw [if_neg c9]
  by_cases c10 : (v0 &&& 31) = 10
  · rw [if_pos c10]
    simp only [s1, Option.bind_some]
    exact op_wrote hfl iv v1 j
  rw [if_neg c10]
  by_cases c11 : (v0 &&& 31) = 11
  · rw [if_pos c11]
    simp only [s1, Option.bind_some]
    exact op_pass hfl iv v1 j
  rw [if_neg c11]
  by_cases c12 : (v0 &&& 31) = 12
  · rw [if_pos c12]
    simp only [s1, Option.bind_some]
    exact op_byteAt hfl iv v1 j
  rw [if_neg c12]
  by_cases c13 : (v0 &&& 31) = 13
  · rw [if_pos c13]
    exact op_clear iv j
  rw [if_neg c13]
  by_cases c14 : (v0 &&& 31) = 14
  · rw [if_pos c14]
    exact op_find hfl iv j
  rw [if_neg c14]
  by_cases c15 : (v0 &&& 31) = 15
  · rw [if_pos c15]
    simp only [s1, s2, Option.bind_some]
    exact op_translate hfl iv v1 v2 j
  rw [if_neg c15]
  by_cases c16 : (v0 &&& 31) = 16
  · rw [if_pos c16]
    simp only [s1, s2, Option.bind_some]
    exact op_foresee hfl iv v1 v2 j
  rw [if_neg c16]
  by_cases c17 : (v0 &&& 31) = 17
  · rw [if_pos c17]
    obtain ⟨h1, e1, i1⟩ := op_next hfl iv v1 v2 (if v3 = 0 then 0 else 1) j
    refine ⟨h1, ?_, i1⟩
    rw [← e1]
    by_cases z : v3 = 0
    · rw [if_pos z]; exact jnE (bnd s1 (bnd s2 (bnd s3 (ite_p z (jnE (by simp only [s1, s2, s3, Option.bind_some, if_pos z]; rfl))))))
    · rw [if_neg z]; exact jnE (bnd s1 (bnd s2 (bnd s3 (ite_n z (jnE (by simp only [s1, s2, s3, Option.bind_some, if_neg z]; rfl))))))
  rw [if_neg c17]
  by_cases c18 : (v0 &&& 31) = 18
  · rw [if_pos c18]
    exact op_spells hfl iv j
  rw [if_neg c18]
  by_cases c19 : (v0 &&& 31) = 19
  · rw [if_pos c19]
    simp only [s1, Option.bind_some]
    exact op_again hfl iv v1 j
  rw [if_neg c19]
  by_cases c20 : (v0 &&& 31) = 20
  · rw [if_pos c20]
    simp only [s1, s2, Option.bind_some]
    exact op_advise hfl iv v1 v2 j
  rw [if_neg c20]
  by_cases c21 : (v0 &&& 31) = 21
  · rw [if_pos c21]
    exact op_mean hfl iv j
  rw [if_neg c21]
  by_cases c22 : (v0 &&& 31) = 22
  · rw [if_pos c22]
    exact op_digest hfl iv j
  rw [if_neg c22]
  exact ⟨h, rfl, iv⟩
