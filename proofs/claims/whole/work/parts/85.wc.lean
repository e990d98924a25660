/-! Words and their codes; the Model looks names up. -/
def cN (b : Int32) : Nat := (codeV b).toBitVec.toNat
def cI (k : Nat) : Int32 := if k ≤ 26 then ix (k + 96) else ix (k + 21)
theorem cN_of : ∀ n, n < 256 → isWV (ix n) = true → (1 ≤ cN (ix n) ∧ cN (ix n) ≤ 36) ∧ cI (cN (ix n)) = ix n ∧ (codeV (ix n)).toInt64 = Int64.ofNat (cN (ix n)) := by decide +kernel
def wdy (l : List Int32) : Prop := ∀ b, b ∈ l → ∃ n, n < 256 ∧ b = ix n ∧ isWV b = true
def wnR : List Int32 → Nat
  | [] => 0
  | b :: l => wnR l * 37 + cN b
theorem wdy_c {b : Int32} {l : List Int32} (h : wdy (b :: l)) : (1 ≤ cN b ∧ cN b ≤ 36 ∧ cI (cN b) = b ∧ (codeV b).toInt64 = Int64.ofNat (cN b)) ∧ wdy l := by
  obtain ⟨n, hn, e, w⟩ := h b (List.mem_cons_self ..)
  subst e
  obtain ⟨⟨a1, a2⟩, a3, a4⟩ := cN_of n hn w
  exact ⟨⟨a1, a2, a3, a4⟩, fun c hc => h c (List.mem_cons_of_mem _ hc)⟩
theorem wnR_inj : ∀ l k : List Int32, wdy l → wdy k → wnR l = wnR k → l = k := by
  intro l
  induction l with
  | nil =>
    intro k _ hk e
    cases k with
    | nil => rfl
    | cons b k =>
      have := (wdy_c hk).1.1
      have e' : 0 = wnR k * 37 + cN b := e
      omega
  | cons a l ih =>
    intro k hl hk e
    cases k with
    | nil =>
      have := (wdy_c hl).1.1
      have e' : wnR l * 37 + cN a = 0 := e
      omega
    | cons b k =>
      obtain ⟨⟨a1, a2, a3, _⟩, a4⟩ := wdy_c hl
      obtain ⟨⟨b1, b2, b3, _⟩, b4⟩ := wdy_c hk
      have e' : wnR l * 37 + cN a = wnR k * 37 + cN b := e
      have e1 : wnR l = wnR k := by omega
      have e2 : cN a = cN b := by omega
      rw [ih k a4 b4 e1, ← a3, ← b3, e2]
theorem wnR_lt : ∀ l : List Int32, wdy l → wnR l < 37 ^ l.length := by
  intro l
  induction l with
  | nil => intro _; decide
  | cons a l ih =>
    intro h
    obtain ⟨⟨a1, a2, _, _⟩, a4⟩ := wdy_c h
    have := ih a4
    rw [List.length_cons, Nat.pow_succ]
    show wnR l * 37 + cN a < _
    omega
theorem wcL_R : ∀ l : List Int32, wdy l → wcL 0 l.reverse = Int64.ofNat (wnR l) := by
  intro l
  induction l with
  | nil => intro _; rfl
  | cons a l ih =>
    intro h
    obtain ⟨⟨_, _, _, a3⟩, a4⟩ := wdy_c h
    have e : wcL 0 (a :: l).reverse = wcL 0 l.reverse * 37 + (codeV a).toInt64 := by
      unfold wcL
      rw [List.reverse_cons, List.foldl_append]; rfl
    rw [e, ih a4, a3]
    show _ = Int64.ofNat (wnR l * 37 + cN a)
    rw [Int64.ofNat_add, Int64.ofNat_mul]; rfl
theorem l64_inj {a b : Nat} (ha : a < 9223372036854775808) (hb : b < 9223372036854775808) (h : Int64.ofNat a = Int64.ofNat b) : a = b := by
  have e : (Int64.ofNat a).toBitVec.toNat = (Int64.ofNat b).toBitVec.toNat := by rw [h]
  have v : ∀ c : Nat, (Int64.ofNat c).toBitVec.toNat = c % 18446744073709551616 := fun c => by
    show (BitVec.ofNat 64 c).toNat = _
    rw [BitVec.toNat_ofNat]
  rw [v, v] at e
  omega
theorem wc_inj {l k : List Int32} (hl : wdy l) (hk : wdy k) (l1 : l.length ≤ 12) (k1 : k.length ≤ 12) : wcL 0 l = wcL 0 k ↔ l = k := by
  refine ⟨fun h => ?_, fun h => by rw [h]⟩
  have rl : wdy l.reverse := fun b hb => hl b (List.mem_reverse.mp hb)
  have rk : wdy k.reverse := fun b hb => hk b (List.mem_reverse.mp hb)
  have e1 := wcL_R _ rl
  have e2 := wcL_R _ rk
  rw [List.reverse_reverse] at e1 e2
  rw [e1, e2] at h
  have p12 : (37 : Nat) ^ 12 < 9223372036854775808 := by decide
  have b1 : wnR l.reverse < 9223372036854775808 := by
    have := wnR_lt _ rl
    rw [List.length_reverse] at this
    exact Nat.lt_of_lt_of_le this (Nat.le_of_lt (Nat.lt_of_le_of_lt (Nat.pow_le_pow_right (by decide) l1) p12))
  have b2 : wnR k.reverse < 9223372036854775808 := by
    have := wnR_lt _ rk
    rw [List.length_reverse] at this
    exact Nat.lt_of_lt_of_le this (Nat.le_of_lt (Nat.lt_of_le_of_lt (Nat.pow_le_pow_right (by decide) k1) p12))
  have := wnR_inj _ _ rl rk (l64_inj b1 b2 h)
  rw [← List.reverse_reverse l, ← List.reverse_reverse k, this]
theorem spn_all (q : Int32 → Bool) (tp : Nat → Int32) : ∀ r p j, p ≤ j → j < spn q tp r p → q (tp j) = true := by
  intro r
  induction r with
  | zero => intro p j h1 h2; have : j < p := h2; omega
  | succ r ih =>
    intro p j h1 h2
    unfold spn at h2
    by_cases c : q (tp p) = true
    · rw [if_pos c] at h2
      by_cases e : j = p
      · rw [e]; exact c
      · exact ih (p + 1) j (by omega) h2
    · rw [if_neg c] at h2; omega
theorem bts_mem {tp : Nat → Int32} {b : Int32} : ∀ l p, b ∈ bts tp p l → ∃ j, j < l ∧ b = tp (p + j) := by
  intro l
  induction l with
  | zero => intro p h; cases h
  | succ l ih =>
    intro p h
    rw [bts_cons] at h
    rcases List.mem_cons.mp h with e | e
    · exact ⟨0, by omega, e⟩
    · obtain ⟨j, hj, e⟩ := ih (p + 1) e
      exact ⟨j + 1, by omega, by rw [e, show p + 1 + j = p + (j + 1) by omega]⟩
/-- the names among the tokens are words -/
def okNm (tp : Nat → Int32) (L : List tokV) : Prop := ∀ i, i < L.length → (tkn L i).1 = 2 → wdy (tbt tp L i) ∧ (tbt tp L i).length ≤ 12
theorem okNm_of {tn : Nat} {tp : Nat → Int32} (ot : okT tn tp) : okNm tp (tksV tn tp) := fun i hi hk => by
  obtain ⟨a1, a2, a3, _⟩ := tksV_in ot hi (by omega)
  obtain ⟨b1, b2⟩ := a3 hk
  refine ⟨fun b hb => ?_, by unfold tbt; rw [bts_len]; exact b1⟩
  unfold tbt at hb
  obtain ⟨j, hj, e⟩ := bts_mem _ _ hb
  have sl := spn_le isWV tp (tn - (tkn (tksV tn tp) i).2.1) (tkn (tksV tn tp) i).2.1
  have w := spn_all isWV tp _ _ ((tkn (tksV tn tp) i).2.1 + j) (by omega) (show (tkn (tksV tn tp) i).2.1 + j < spn isWV tp (tn - (tkn (tksV tn tp) i).2.1) (tkn (tksV tn tp) i).2.1 by omega)
  obtain ⟨n, hn, en⟩ := ot _ (show (tkn (tksV tn tp) i).2.1 + j < tn by omega)
  exact ⟨n, hn, by rw [e, en], by rw [e]; exact w⟩
section
variable {m t rd tn : Nat} {tp : Nat → Int32} {th ea tk dp : Int32} {L : List tokV} {h : hp_M} {R M : Nat → Nat}
theorem same_b (oi : okIn tn L) (o : is_Mo h m th tn tp ea tk dp t rd) (a : md_ar h m L R M) (hL : L.length ≤ 401) {i j : Nat} (hi : i < L.length) (hj : j < L.length) (ki : 2 ≤ (tkn L i).1) (kj : 2 ≤ (tkn L j).1) (el : (tkn L i).2.2 = (tkn L j).2.2) (fl : Nat) : ∀ r k fu, k + r = (tkn L i).2.2 → r < fu → f_Md_isSame_b19 fl m (ix i) (ix j) h fu (ix k) = some (if bts tp ((tkn L i).2.1 + k) r = bts tp ((tkn L j).2.1 + k) r then 1 else 0) := by
  have t2 := o.tn2
  obtain ⟨i1, i2, i3⟩ := oi i hi ki
  obtain ⟨j1, j2, j3⟩ := oi j hj kj
  obtain ⟨gk, gf, gm, gr, gt, a1, a2, a3, a4, a5, a6⟩ := a
  have e4 : gaI h (m + 4) (ix i) = some (ix (tkn L i).2.2) := by rw [gaI_of a3 (by omega) (by omega), (a6 i hi).2.2.1 ki]
  have e3 : gaI h (m + 3) (ix i) = some (ix (tkn L i).2.1) := by rw [gaI_of a2 (by omega) (by omega), (a6 i hi).2.1]
  have e3' : gaI h (m + 3) (ix j) = some (ix (tkn L j).2.1) := by rw [gaI_of a2 (by omega) (by omega), (a6 j hj).2.1]
  intro r
  induction r with
  | zero =>
    intro k fu hk hf
    obtain ⟨fu, rfl⟩ : ∃ q, fu = q + 1 := ⟨fu - 1, by omega⟩
    unfold f_Md_isSame_b19
    refine bnd o.r6 (bnd e4 ?_)
    exact ite_p (ix_le1 (by omega) (by omega)) rfl
  | succ r ih =>
    intro k fu hk hf
    obtain ⟨fu, rfl⟩ : ∃ q, fu = q + 1 := ⟨fu - 1, by omega⟩
    unfold f_Md_isSame_b19
    refine bnd o.r6 (bnd e4 ?_)
    refine ite_n (ix_nle (by omega) (by omega)) ?_
    refine bnd o.r1 (bnd o.r5 (bnd e3 ?_))
    rw [ix_add]
    refine bnd (o.ga (by omega)) ?_
    refine bnd o.r1 (bnd o.r5 (bnd e3' ?_))
    rw [ix_add]
    refine bnd (o.ga (by omega)) ?_
    rw [bts_cons, bts_cons]
    by_cases z : tp ((tkn L i).2.1 + k) = tp ((tkn L j).2.1 + k)
    · refine ite_p z ?_
      rw [ixp1, ih (k + 1) fu (by omega) (by omega), ← Nat.add_assoc, ← Nat.add_assoc]
      by_cases y : bts tp ((tkn L i).2.1 + k + 1) r = bts tp ((tkn L j).2.1 + k + 1) r
      · rw [if_pos y, if_pos (by rw [z, y])]
      · rw [if_neg y, if_neg (fun q => y (List.cons.inj q).2)]
    · refine ite_n z ?_
      rw [if_neg (fun q => z (List.cons.inj q).1)]
theorem same_of (oi : okIn tn L) (o : is_Mo h m th tn tp ea tk dp t rd) (a : md_ar h m L R M) (hL : L.length ≤ 401) {i j : Nat} (hi : i < L.length) (hj : j < L.length) (ki : 2 ≤ (tkn L i).1) (kj : 2 ≤ (tkn L j).1) {fl : Nat} (hfl : 5000 ≤ fl) : onO h m 12 (f_Md_isSame fl m (ix i) (ix j) h) = some (if tbt tp L i = tbt tp L j then 1 else 0) := by
  have t2 := o.tn2
  rw [o.on]
  obtain ⟨i1, i2, i3⟩ := oi i hi ki
  obtain ⟨j1, j2, j3⟩ := oi j hj kj
  have e4 : gaI h (m + 4) (ix i) = some (ix (tkn L i).2.2) := by
    obtain ⟨gk, gf, gm, gr, gt, a1, a2, a3, a4, a5, a6⟩ := a
    rw [gaI_of a3 (by omega) (by omega), (a6 i hi).2.2.1 ki]
  have e4' : gaI h (m + 4) (ix j) = some (ix (tkn L j).2.2) := by
    obtain ⟨gk, gf, gm, gr, gt, a1, a2, a3, a4, a5, a6⟩ := a
    rw [gaI_of a3 (by omega) (by omega), (a6 j hj).2.2.1 kj]
  unfold f_Md_isSame
  refine bnd o.r6 (bnd e4 (bnd o.r6 (bnd e4' ?_)))
  by_cases z : (tkn L i).2.2 = (tkn L j).2.2
  · refine ite_p (by rw [z]) ?_
    exact same_b oi o a hL hi hj ki kj z fl (tkn L i).2.2 0 fl (by omega) (by omega) |>.trans (by unfold tbt; rw [Nat.add_zero, Nat.add_zero, ← z])
  · refine ite_n (fun q => z ((ix_inj (by omega) (by omega)).mp q)) ?_
    rw [if_neg (fun q => z ?_)]
    have := congrArg List.length q
    unfold tbt at this
    rw [bts_len, bts_len] at this
    exact this
/-- names of a role among tokens j .. i - 1 -/
def nmR (R : Nat → Nat) (k j r : Nat) : List Nat := (List.range' j r).filter (fun q => decide (R q = k))
theorem told_b (oi : okIn tn L) (on : okNm tp L) (o : is_Mo h m th tn tp ea tk dp t rd) (a : md_ar h m L R M) (hL : L.length ≤ 401) {i k : Nat} (hi : i < L.length) (ki : (tkn L i).1 = 2) (hR : ∀ q, R q < 100) (hk : k < 100) (hn : ∀ q, q < i → R q = k → (tkn L q).1 = 2) {fl : Nat} (hfl : 5000 ≤ fl) : ∀ r j fu c, j + r = i → r < fu → c ≤ j → f_Md_told_b5 fl m (ix i) (ix k) h fu (ix c) (ix j) = some (ix (lkC (wcL 0 (tbt tp L i)) ((nmR R k j r).map (fun q => wcL 0 (tbt tp L q))) c)) := by
  intro r
  induction r with
  | zero =>
    intro j fu c hj hf hc
    obtain ⟨fu, rfl⟩ : ∃ q, fu = q + 1 := ⟨fu - 1, by omega⟩
    unfold f_Md_told_b5
    exact ite_p (ix_le1 (by omega) (by omega)) (by show _ = some (ix 4294967295); rw [ix_m1])
  | succ r ih =>
    intro j fu c hj hf hc
    obtain ⟨fu, rfl⟩ : ∃ q, fu = q + 1 := ⟨fu - 1, by omega⟩
    have hjL : j < L.length := by omega
    have e5 : gaI h (m + 5) (ix j) = some (ix (R j)) := by
      obtain ⟨gk, gf, gm, gr, gt, a1, a2, a3, a4, a5, a6⟩ := a
      rw [gaI_of a4 (by omega) (by omega), (a6 j hjL).2.2.2.1]
    unfold f_Md_told_b5
    refine ite_n (ix_nle (by omega) (by omega)) ?_
    refine jnE ?_
    refine bnd o.r7 (bnd e5 ?_)
    have rr : nmR R k j (r + 1) = if R j = k then j :: nmR R k (j + 1) r else nmR R k (j + 1) r := by
      unfold nmR
      rw [List.range'_succ, List.filter_cons]
      by_cases z : R j = k
      · rw [if_pos (decide_eq_true z), if_pos z]
      · rw [if_neg (by rw [decide_eq_true_eq]; exact z), if_neg z]
    rw [rr]
    by_cases z : R j = k
    · rw [if_pos z]
      refine ite_p (by rw [z]) ?_
      have kj := hn j (by omega) z
      refine bnd (same_of oi o a hL hjL hi (by omega) (by omega) hfl) ?_
      rw [List.map_cons]
      unfold lkC
      have inj := wc_inj (on j hjL kj).1 (on i hi ki).1 (on j hjL kj).2 (on i hi ki).2
      by_cases y : tbt tp L j = tbt tp L i
      · rw [if_pos y, if_pos (inj.mpr y)]
        exact ite_n z10 rfl
      · rw [if_neg y, if_neg (fun q => y (inj.mp q))]
        refine ite_p rfl ?_
        rw [ixp1, ixp1]
        exact ih (j + 1) fu (c + 1) (by omega) (by omega) (by omega)
    · rw [if_neg z]
      refine ite_n (fun q => z ((ix_inj (by have := hR j; omega) (by omega)).mp q)) ?_
      rw [ixp1]
      exact ih (j + 1) fu c (by omega) (by omega) (by omega)
theorem told_of (oi : okIn tn L) (on : okNm tp L) (o : is_Mo h m th tn tp ea tk dp t rd) (a : md_ar h m L R M) (hL : L.length ≤ 401) {i k : Nat} (hi : i < L.length) (ki : (tkn L i).1 = 2) (hR : ∀ q, R q < 100) (hk : k < 100) (hn : ∀ q, q < i → R q = k → (tkn L q).1 = 2) {fl : Nat} (hfl : 5000 ≤ fl) {X : Int32} (eX : X = ix k) : onO h m 12 (f_Md_told fl m (ix i) X h) = some (ix (lkC (wcL 0 (tbt tp L i)) ((nmR R k 0 i).map (fun q => wcL 0 (tbt tp L q))) 0)) := by
  subst eX
  rw [o.on]
  exact told_b oi on o a hL hi ki hR hk hn hfl i 0 fl 0 (by omega) (by omega) (by omega)
end
