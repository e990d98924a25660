/-! The Model's second pass: names of planets, letters. -/
section
variable {m t rd tn : Nat} {tp : Nat → Int32} {th ea : Int32} {L : List tokV} {h0 : hp_M} {R : Nat → Nat} {C : pcV} {h : hp_M} {i : Nat} {nP : Nat} {g1 : Nat → Int32} {nA : Nat} {g2 g3 : Nat → Int32} {M : Nat → Nat}
theorem eo_45 (oi : okIn tn L) (on : okNm tp L) (c : PS m t rd tn tp th ea L h0 R C h i (nP, g1, nA, g2, g3, M)) (hR : ∀ q, R q < 100) {j : Nat} (hj : j < L.length) (kj : kdp L j = 2) (hr : R j = 4 ∨ R j = 5) (j1 : 1 ≤ j) (hn : ∀ q, q < j → R q = 1 → kdp L q = 2) {fl : Nat} (hfl : 5000 ≤ fl) (u8 u9 : Int32) : ∃ h', eoB fl m (ix j) h rd u8 u9 = some (if unk (tdV tp L R 1 j) then 3 else if R j = 5 ∧ ix (tdV tp L R 1 j) = ix (M (j - 1)) then 6 else 0, h') ∧ PS m t rd tn tp th ea L h0 R C h' i (nP, g1, nA, g2, g3, fun q => if q = j then tdV tp L R 1 j else M q) := by
  have pL := c.pL
  have td := td_of oi on c hR hj kj (k := 1) (by omega) hn hfl (X := 1) rfl
  have tu := td_unk (tp := tp) (L := L) (R := R) (k := 1) (show j ≤ 401 by omega)
  obtain ⟨h1, e1, c1⟩ := c.putM hj (tdV tp L R 1 j)
  refine ⟨h1, ?_, c1⟩
  have me : gaI h1 (m + 6) (ix j) = some (ix (tdV tp L R 1 j)) := by
    rw [c1.mea hj]; dsimp only; rw [if_pos rfl]
  have me1 : gaI h1 (m + 6) (ix j - 1) = some (ix (M (j - 1))) := by
    rw [ixm1 j1, c1.mea (show j - 1 < L.length by omega)]; dsimp only; rw [if_neg (by omega)]
  have body : ((gR h m 12 8).bind fun v25 => (onO h m 12 (f_Md_told fl m (ix j) 1 h)).bind fun r26 => (paI h v25 (ix j) r26).bind fun h27 => (gR h27 m 12 8).bind fun v28 => (gaI h27 v28 (ix j)).bind fun v29 => if v29 = (-1) then (some ((3 : Int32), h27)) else (jn (some (0, h27)) fun (j37 : Option (Int32 × hp_M)) => (gR h27 m 12 7).bind fun v38 => (gaI h27 v38 (ix j)).bind fun v39 => if v39 = 5 then ((gR h27 m 12 8).bind fun v41 => (gaI h27 v41 (ix j)).bind fun v42 => (gR h27 m 12 8).bind fun v43 => (gaI h27 v43 (ix j - 1)).bind fun v44 => if v42 = v44 then (some (6, h27)) else (j37)) else (j37))) = some (if unk (tdV tp L R 1 j) then 3 else if R j = 5 ∧ ix (tdV tp L R 1 j) = ix (M (j - 1)) then 6 else 0, h1) := by
    refine bnd c.r8 (bnd td (bnd e1 (bnd c1.r8 (bnd me ?_))))
    by_cases u : unk (tdV tp L R 1 j)
    · rw [if_pos (tu.mpr u), if_pos u]
    · rw [if_neg (fun q => u (tu.mp q)), if_neg u]
      refine jnE (bnd c1.r7 (bnd (c1.rol hj) ?_))
      rcases hr with r | r
      · rw [r, if_neg (show ¬ (4 = 5 ∧ ix (tdV tp L R 1 j) = ix (M (j - 1))) from fun q => absurd q.1 (by decide))]
        rfl
      · rw [r]
        refine ite_p rfl ?_
        refine bnd c1.r8 (bnd me (bnd c1.r8 (bnd me1 ?_)))
        by_cases y : ix (tdV tp L R 1 j) = ix (M (j - 1))
        · rw [if_pos y, if_pos ⟨rfl, y⟩]
        · rw [if_neg y, if_neg (fun q => y q.2)]
  unfold eoB
  refine jnE (bnd c.r7 (bnd (c.rol hj) ?_))
  rcases hr with r | r
  · rw [r] at body ⊢
    exact body
  · rw [r] at body ⊢
    exact body
end
theorem one_bit (n : Nat) (hn : n < 32) (x : Int32) : (x >>> (nI n &&& 31)) &&& 1 = 1 ↔ bt x n = true := by
  have b1 : ∀ i, i < 32 → bt 1 i = decide (i = 0) := by decide +kernel
  constructor
  · intro e
    have this : bt ((x >>> (nI n &&& 31)) &&& 1) 0 = bt 1 0 := by rw [e]
    rw [b_and, b_sshr n hn x (by omega), if_pos (by omega), b1 0 (by omega)] at this
    simpa using this
  · intro e
    refine b_ext (fun i hi => ?_)
    rw [b_and, b_sshr n hn x hi, b1 i hi]
    by_cases z : i = 0
    · subst z; rw [if_pos (by omega)]; simp [e]
    · simp [z]
theorem set_bit (n : Nat) (hn : n < 32) (x : Int32) {k : Nat} (hk : k < 32) : bt (x ||| ((1 : Int32) <<< (nI n &&& 31))) k = (bt x k || decide (k = n)) := by
  have b1 : ∀ i, i < 32 → bt 1 i = decide (i = 0) := by decide +kernel
  rw [b_or, b_shl n hn 1 hk]
  by_cases z : n ≤ k
  · rw [b1 (k - n) (by omega)]
    by_cases y : k = n
    · subst y; simp
    · have : ¬ k - n = 0 := by omega
      simp [z, y, this]
  · have : ¬ k = n := by omega
    simp [z, this]
theorem lett_of : ∀ b, b < 256 → isLV (ix b) = true → 97 ≤ b ∧ b ≤ 122 ∧ ix b - 97 = nI (b - 97) ∧ isDV (ix b) = false := by decide +kernel
theorem nlet_of : ∀ b, b < 256 → isWV (ix b) = true → isLV (ix b) = false → isDV (ix b) = true := by decide +kernel
section
variable {m t rd tn : Nat} {tp : Nat → Int32} {th ea : Int32} {L : List tokV} {h0 : hp_M} {R : Nat → Nat} {C : pcV} {h : hp_M} {i : Nat} {nP : Nat} {g1 : Nat → Int32} {nA : Nat} {g2 g3 : Nat → Int32} {M : Nat → Nat}
theorem letters_b2 (oi : okIn tn L) {j : Nat} (hj : j < L.length) (kj : kdp L j = 2) {a : Nat} (ha : a < 6) (fl : Nat) {W S : Nat} (hS : (tkn L j).2.1 = S) (hW : (tkn L j).2.2 = W) (w : wdy (bts tp S W)) : ∀ r k fu (h : hp_M) (x : Int32) (g3 : Nat → Int32), k + r = W → r < fu → PS m t rd tn tp th ea L h0 R C h i (nP, g1, nA, g2, g3, M) → (∀ n, n < 26 → (bt x n = true ↔ ix (n + 97) ∈ bts tp S k)) → ∃ h' g3', f_Md_areLetters_b30 fl m (ix j) (ix a) fu x (ix k) h = some (if badL (bts tp S k) (bts tp (S + k) r) = true then 0 else 1, h') ∧ PS m t rd tn tp th ea L h0 R C h' i (nP, g1, nA, g2, g3', M) ∧ (∀ q, q < 12 * a + k → g3' q = g3 q) ∧ (badL (bts tp S k) (bts tp (S + k) r) = false → ∀ q, q < r → g3' (12 * a + k + q) = tp (S + k + q)) := by
  obtain ⟨i1, i2, i3⟩ := oi j hj (show 2 ≤ kdp L j by omega)
  have W12 : W ≤ 12 := by rw [← hW]; exact i3 (Or.inl kj)
  intro r
  induction r with
  | zero =>
    intro k fu h x g3 hk hf c hx
    have pL := c.pL
    obtain ⟨fu, rfl⟩ : ∃ q, fu = q + 1 := ⟨fu - 1, by omega⟩
    obtain ⟨d, mo⟩ := c.mo
    obtain ⟨gk, gf, gm, gr, gt, a1, a2, a3, a4, a5, a6⟩ := id c.2.2.1
    have e4 : gaI h (m + 4) (ix j) = some (ix W) := by rw [gaI_of a3 (by omega) (by omega), (a6 j hj).2.2.1 (show 2 ≤ kdp L j by omega), hW]
    refine ⟨h, g3, ?_, c, fun _ _ => rfl, fun _ q hq => by omega⟩
    unfold f_Md_areLetters_b30
    refine bnd mo.r6 (bnd e4 ?_)
    exact ite_p (ix_le1 (by omega) (by omega)) rfl
  | succ r ih =>
    intro k fu h x g3 hk hf c hx
    have pL := c.pL
    obtain ⟨fu, rfl⟩ : ∃ q, fu = q + 1 := ⟨fu - 1, by omega⟩
    obtain ⟨d, mo⟩ := c.mo
    have t2 := mo.tn2
    obtain ⟨gk, gf, gm, gr, gt, a1, a2, a3, a4, a5, a6⟩ := id c.2.2.1
    have e4 : gaI h (m + 4) (ix j) = some (ix W) := by rw [gaI_of a3 (by omega) (by omega), (a6 j hj).2.2.1 (show 2 ≤ kdp L j by omega), hW]
    have e3 : gaI h (m + 3) (ix j) = some (ix S) := by rw [gaI_of a2 (by omega) (by omega), (a6 j hj).2.1, hS]
    have eb : gaI h (m + 1) (ix S + ix k) = some (tp (S + k)) := by rw [ix_add]; exact mo.ga (by omega)
    -- the sign
    have mem : tp (S + k) ∈ bts tp S W := by
      have : ∀ l p q, q < l → tp (p + q) ∈ bts tp p l := by
        intro l
        induction l with
        | zero => intro p q hq; omega
        | succ l ih =>
          intro p q hq
          rw [bts_cons]
          cases q with
          | zero => exact List.mem_cons_self ..
          | succ q => rw [show p + (q + 1) = p + 1 + q by omega]; exact List.mem_cons_of_mem _ (ih (p + 1) q (by omega))
      exact this W S k (by omega)
    obtain ⟨b, hb, eb', wb⟩ := w _ mem
    rw [bts_cons]
    have pre : ∀ y, ((f_Md_isLetter (tp (S + k)) h).bind fun r1015 => if r1015 = 0 then (some ((0 : Int32), h)) else (if ((x >>> ((tp (S + k) - 97) &&& 31)) &&& 1) = 1 then (some (0, h)) else ((gR h m 12 12).bind fun v1018 => (gR h v1018 11 4).bind fun v1019 => (paI h v1019 ((12 * ix a) + ix k) (tp (S + k))).bind fun h1020 => f_Md_areLetters_b30 fl m (ix j) (ix a) fu (x ||| (1 <<< ((tp (S + k) - 97) &&& 31))) (ix k + 1) h1020))) = y → f_Md_areLetters_b30 fl m (ix j) (ix a) (fu + 1) x (ix k) h = y := by
      intro y q
      unfold f_Md_areLetters_b30
      refine bnd mo.r6 (bnd e4 ?_)
      refine ite_n (ix_nle (by omega) (by omega)) ?_
      exact bnd mo.r1 (bnd mo.r5 (bnd e3 (bnd eb q)))
    by_cases lv : isLV (tp (S + k)) = true
    · rw [eb'] at lv
      obtain ⟨l1, l2, l3, l4⟩ := lett_of b hb lv
      have xb := hx (b - 97) (by omega)
      rw [show b - 97 + 97 = b by omega, ← eb'] at xb
      by_cases dup : tp (S + k) ∈ bts tp S k
      · have bad : badL (bts tp S k) (tp (S + k) :: bts tp (S + k + 1) r) = true := by
          unfold badL; rw [decide_eq_true dup, Bool.or_true]; rfl
        refine ⟨h, g3, ?_, c, fun _ _ => rfl, fun q => by rw [bad] at q; cases q⟩
        rw [bad, if_pos rfl]
        refine pre _ (bnd (mL_of _ _) ?_)
        rw [eb', lv, if_pos rfl]
        refine ite_n z10 ?_
        rw [l3]
        exact ite_p ((one_bit (b - 97) (by omega) x).mpr (xb.mpr dup)) rfl
      · obtain ⟨h1, e1, c1⟩ := c.put3 (k := 12 * a + k) (by omega) (tp (S + k))
        have hx' : ∀ n, n < 26 → (bt (x ||| ((1 : Int32) <<< (nI (b - 97) &&& 31))) n = true ↔ ix (n + 97) ∈ bts tp S (k + 1)) := by
          intro n hn
          rw [set_bit (b - 97) (by omega) x (by omega), bts_snoc, List.mem_append, List.mem_singleton, Bool.or_eq_true, hx n hn, decide_eq_true_eq, eb', ix_inj (by omega) (by omega)]
          constructor
          · rintro (q | q)
            · exact Or.inl q
            · exact Or.inr (by omega)
          · rintro (q | q)
            · exact Or.inl q
            · exact Or.inr (by omega)
        obtain ⟨h2, g3', e2, c2, k1, k2⟩ := ih (k + 1) fu h1 _ _ (by omega) (by omega) c1 hx'
        have bd : badL (bts tp S k) (tp (S + k) :: bts tp (S + k + 1) r) = badL (bts tp S (k + 1)) (bts tp (S + (k + 1)) r) := by
          rw [bts_snoc]
          show (isDV (tp (S + k)) || decide (tp (S + k) ∈ bts tp S k) || badL (bts tp S k ++ [tp (S + k)]) (bts tp (S + k + 1) r)) = _
          rw [decide_eq_false dup, eb', l4]; rfl
        rw [bd]
        refine ⟨h2, g3', ?_, c2, fun q hq => ?_, fun q n hn => ?_⟩
        · refine pre _ (bnd (mL_of _ _) ?_)
          refine ite_n (by rw [if_pos (show isLV (tp (S + k)) = true by rw [eb']; exact lv)]; exact z10) ?_
          rw [show tp (S + k) - 97 = nI (b - 97) by rw [eb']; exact l3]
          refine ite_n (fun q => dup (xb.mp ((one_bit (b - 97) (by omega) x).mp q))) ?_
          refine bnd c.r12 (bnd c.rd4 ?_)
          rw [ix12, ix_add]
          refine bnd e1 ?_
          rw [ixp1]
          exact e2
        · rw [k1 q (by omega), upd_ne _ _ (by omega)]
        · cases n with
          | zero =>
            rw [Nat.add_zero, Nat.add_zero, k1 _ (by omega), upd_eq]
          | succ n =>
            have := k2 q n (by omega)
            rw [show 12 * a + k + (n + 1) = 12 * a + (k + 1) + n by omega, this]
            congr 1; omega
    · have lv' : isLV (ix b) = false := by rw [← eb']; simpa using lv
      have dv := nlet_of b hb (by rw [← eb']; exact wb) lv'
      have bad : badL (bts tp S k) (tp (S + k) :: bts tp (S + k + 1) r) = true := by
        unfold badL; rw [eb', dv]; rfl
      refine ⟨h, g3, ?_, c, fun _ _ => rfl, fun q => by rw [bad] at q; cases q⟩
      rw [bad, if_pos rfl]
      refine pre _ (bnd (mL_of _ _) ?_)
      exact ite_p (by rw [if_neg lv]) rfl
theorem eo_3 (oi : okIn tn L) (on : okNm tp L) (c : PS m t rd tn tp th ea L h0 R C h i (nP, g1, nA, g2, g3, M)) {j : Nat} (hj : j < L.length) (kj : kdp L j = 2) (hr : R j = 3) (hA : 1 ≤ nA ∧ nA ≤ 6) {fl : Nat} (hfl : 5000 ≤ fl) (u8 u9 : Int32) : ∃ h' g3', eoB fl m (ix j) h rd u8 u9 = some (if badL [] (tbt tp L j) = true then 7 else 0, h') ∧ PS m t rd tn tp th ea L h0 R C h' i (nP, g1, nA, upd g2 (nA - 1) (ix (tkn L j).2.2), g3', M) ∧ (∀ q, q < 12 * (nA - 1) → g3' q = g3 q) ∧ (badL [] (tbt tp L j) = false → ∀ q, q < (tkn L j).2.2 → g3' (12 * (nA - 1) + q) = tp ((tkn L j).2.1 + q)) := by
  have pL := c.pL
  obtain ⟨i1, i2, i3⟩ := oi j hj (show 2 ≤ kdp L j by omega)
  have i4 := i3 (Or.inl kj)
  obtain ⟨d, mo⟩ := c.mo
  obtain ⟨gk, gf, gm, gr, gt, a1, a2, a3, a4, a5, a6⟩ := id c.2.2.1
  have e4 : gaI h (m + 4) (ix j) = some (ix (tkn L j).2.2) := by rw [gaI_of a3 (by omega) (by omega), (a6 j hj).2.2.1 (show 2 ≤ kdp L j by omega)]
  obtain ⟨h1, e1, c1⟩ := c.put2 (k := nA - 1) (by omega) (ix (tkn L j).2.2)
  obtain ⟨h2, g3', e2, c2, k1, k2⟩ := letters_b2 oi hj kj (a := nA - 1) (by omega) fl rfl rfl (on j hj kj).1 (tkn L j).2.2 0 fl h1 0 g3 (by omega) (by omega) c1 (fun n hn => by rw [b_0]; exact ⟨fun q => (by cases q), fun q => (by cases q)⟩)
  have tb : bts tp ((tkn L j).2.1 + 0) (tkn L j).2.2 = tbt tp L j := rfl
  rw [tb] at e2 k2
  have n0 : bts tp (tkn L j).2.1 0 = [] := rfl
  rw [n0] at e2 k2
  refine ⟨h2, g3', ?_, c2, fun q hq => k1 q (by omega), fun q n hn => ?_⟩
  · have al : f_Md_areLetters fl m (ix j) h = some (if badL [] (tbt tp L j) = true then 0 else 1, h2) := by
      unfold f_Md_areLetters
      refine bnd c.r12 (bnd c.rd2 (bnd c.r12 (bnd c.rd3 (bnd mo.r6 (bnd e4 ?_)))))
      show (paI h (rd + 2) (ix nA - 1) (ix (tkn L j).2.2)).bind (fun h7 => f_Md_areLetters_b30 fl m (ix j) (ix nA - 1) fl 0 0 h7) = _
      rw [ixm1 hA.1]
      exact bnd e1 e2
    unfold eoB
    refine jnE (bnd c.r7 (bnd (c.rol hj) ?_))
    rw [hr]
    refine bnd ((c.on _).trans al) ?_
    by_cases z : badL [] (tbt tp L j) = true
    · rw [if_pos z, if_pos z]; rfl
    · rw [if_neg z, if_neg z]; rfl
  · have := k2 q n hn
    rw [Nat.add_zero, Nat.add_zero] at this
    exact this
end
