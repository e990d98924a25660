/-! The Model: spells, again, advise, mean, translate, feed. -/
theorem plc_in (pp tp : Nat → Int32) (pn tn : Nat) : ∀ (r k : Nat), plc pp pn tp tn r k = -1 ∨ ∃ j, k ≤ j ∧ j + tn ≤ pn ∧ plc pp pn tp tn r k = ix j := by
  intro r
  induction r with
  | zero => intro k; exact Or.inl rfl
  | succ r ih =>
    intro k
    unfold plc
    split
    · exact Or.inl rfl
    · split
      · exact Or.inr ⟨k, Nat.le_refl _, by omega, rfl⟩
      · rcases ih (k + 1) with q | ⟨j, j1, j2, j3⟩
        · exact Or.inl q
        · exact Or.inr ⟨j, by omega, j2, j3⟩
theorem fnd_in (pp tp : Nat → Int32) (pn tn k : Nat) : fnd pp pn tp tn k = -1 ∨ ∃ j, k ≤ j ∧ j + tn ≤ pn ∧ fnd pp pn tp tn k = ix j := by
  unfold fnd
  split
  · exact Or.inl rfl
  · exact plc_in pp tp pn tn 700 k
theorem ix_ne_m1 {j : Nat} (h : j < 2147483648) : ix j ≠ -1 := by
  intro q
  have := congrArg Int32.toInt q
  rw [ix_toInt h, show (-1 : Int32).toInt = -1 from by decide] at this
  omega
section
variable {m t tn : Nat} {tp : Nat → Int32} {th ea : Int32} {n : Nat} {S : skyV} {nA : Nat} {A : Nat → List Int32} {Rs : List ruV}
theorem Md_spells_b (okr : okRs n nA A Rs) {fl : Nat} (hfl : 5000 ≤ fl) : ∀ (r k fu L : Nat) (h : hp_M) (S1 : skyV), k + r = 400 → r + 1 < fu → L ≤ 3000 → fnd S1.2.2.2.1 S1.2.2.1 tp tn L = -1 → okY n S1.1 → is_MA h m t tn tp th ea n S nA A Rs S1 → ∃ h', f_Md_spells_b29 fl m fu (ix L) (ix k) h = some (splV A Rs tp tn r (k + 1) S1, h') ∧ is_MM h' m t tn tp th ea n S nA A Rs ∧ fr m (m + 30) h h' ∧ h'.2 = h.2 := by
  intro r
  induction r with
  | zero =>
    intro k fu L h S1 hk hf hL hm ok o
    obtain ⟨fu, rfl⟩ : ∃ q, fu = q + 1 := ⟨fu - 1, by omega⟩
    obtain ⟨fu, rfl⟩ : ∃ q, fu = q + 1 := ⟨fu - 1, by omega⟩
    obtain ⟨tk, dp, rd, q⟩ := o.1.mo
    obtain ⟨h1, e1, o1, r1, z1⟩ := MA_pass o ok okr hfl
    refine ⟨h1, ?_, o1.1, r1, z1⟩
    unfold f_Md_spells_b29
    rw [show (400 : Int32) = ix 400 from rfl, if_neg (ix_nlt (by omega) (by omega))]
    simp only [o.1.r14, o.1.r2, MA_on o.2.1, is_St.find o.2.1 q hfl hL, hm, is_St.r6 o.2.1, e1, Option.bind_some, ixp1]
    rw [if_pos trivial]
    unfold f_Md_spells_b29
    rw [show (400 : Int32) = ix 400 from rfl, if_pos (ix_lt1 (by omega) (by omega))]
    rfl
  | succ r ih =>
    intro k fu L h S1 hk hf hL hm ok o
    obtain ⟨fu, rfl⟩ : ∃ q, fu = q + 1 := ⟨fu - 1, by omega⟩
    obtain ⟨tk, dp, rd, q⟩ := o.1.mo
    have p6 : S1.2.2.1 ≤ 600 := is_St.pn6 o.2.1
    have t2 := o.1.tn2
    obtain ⟨h1, e1, o1, r1, z1⟩ := MA_pass o ok okr hfl
    have q6 : (dayV A Rs S1).2.2.1 ≤ 600 := is_St.pn6 o1.2.1
    unfold f_Md_spells_b29 splV
    rw [show (400 : Int32) = ix 400 from rfl, if_neg (ix_nlt (by omega) (by omega))]
    simp only [o.1.r14, o.1.r2, MA_on o.2.1, is_St.find o.2.1 q hfl hL, hm, is_St.r6 o.2.1, e1, (froV p6 t2).2, Option.bind_some, ixp1]
    rw [if_pos trivial]
    rcases fnd_in (dayV A Rs S1).2.2.2.1 tp (dayV A Rs S1).2.2.1 tn (S1.2.2.1 + 1 - tn) with w | ⟨j, j1, j2, j3⟩
    · rw [if_pos (Or.inr (by rw [w]; decide))]
      obtain ⟨h', e', o', r', z'⟩ := ih (k + 1) fu (S1.2.2.1 + 1 - tn) h1 (dayV A Rs S1) (by omega) (by omega) (by omega) w (okY.mov ok) o1
      exact ⟨h', e', o', r1.trans r', by omega⟩
    · rw [if_neg (fun w => w.elim (fun w => by omega) (fun w => by rw [j3] at w; exact ix_nn (by omega) w))]
      obtain ⟨fu, rfl⟩ : ∃ q, fu = q + 1 := ⟨fu - 1, by omega⟩
      obtain ⟨tk', dp', rd', q'⟩ := o1.1.mo
      refine ⟨h1, ?_, o1.1, r1, z1⟩
      unfold f_Md_spells_b29
      rw [show (400 : Int32) = ix 400 from rfl, if_neg (ix_nlt (by omega) (by omega))]
      simp only [o1.1.r14, MA_on o1.2.1, is_St.find o1.2.1 q' hfl (show S1.2.2.1 + 1 - tn ≤ 3000 by omega), j3, Option.bind_some]
      rw [if_neg (ix_ne_m1 (by omega))]
theorem Md_spells {h : hp_M} (o : is_MM h m t tn tp th ea n S nA A Rs) (ok : okY n S.1) (okr : okRs n nA A Rs) {fl : Nat} (hfl : 5000 ≤ fl) : ∃ h', f_Md_spells fl m h = some (if tn = 0 then -1 else if fnd S.2.2.2.1 S.2.2.1 tp tn 0 < 0 then splV A Rs tp tn 400 1 S else 0, h') ∧ is_MM h' m t tn tp 0 ea n S nA A Rs ∧ fr m (m + 30) h h' ∧ h'.2 = h.2 := by
  have t2 := o.tn2
  have p6 := o.st.pn6
  obtain ⟨h1, e1, o1, r1, z1⟩ := o.th0 0
  unfold f_Md_spells
  simp only [e1, o1.r2, Option.bind_some]
  by_cases hn : tn = 0
  · rw [if_pos (by rw [hn]; rfl), if_pos hn]
    exact ⟨h1, rfl, o1, r1, z1⟩
  · rw [if_neg hn, show (0 : Int32) = ix 0 from rfl, if_neg (ix_ne hn (by omega) (by omega))]
    obtain ⟨h3, e3, o3, r3, z3⟩ := MA_copy o1
    obtain ⟨n', S', sa⟩ := o1.ah
    simp only [o1.r14, o1.r13, MA_on sa, e3, Option.bind_some]
    rcases fnd_in S.2.2.2.1 tp S.2.2.1 tn 0 with w | ⟨j, j1, j2, j3⟩
    · rw [if_pos (by rw [w]; decide)]
      obtain ⟨h', e', o', r', z'⟩ := Md_spells_b okr hfl 400 0 fl 0 h3 S (by omega) (by omega) (by omega) w ok o3
      exact ⟨h', e', o', (r1.trans r3).trans r', by omega⟩
    · rw [if_neg (by rw [j3]; exact ix_nn (by omega))]
      obtain ⟨tk, dp, rd, q⟩ := o3.1.mo
      refine ⟨h3, ?_, o3.1, r1.trans r3, by omega⟩
      obtain ⟨fu, hfu⟩ : ∃ q, fl = q + 1 := ⟨fl - 1, by omega⟩
      have key : ∀ fu', fu' = fu + 1 → f_Md_spells_b29 fl m fu' (ix 0) (ix 0) h3 = some (ix 0, h3) := by
        intro fu' hf
        subst hf
        unfold f_Md_spells_b29
        rw [show (400 : Int32) = ix 400 from rfl, if_neg (ix_nlt (by omega) (by omega))]
        simp only [o3.1.r14, MA_on o3.2.1, is_St.find o3.2.1 q hfl (show 0 ≤ 3000 by omega), j3, Option.bind_some]
        rw [if_neg (ix_ne_m1 (by omega))]
      exact key fl hfu
theorem Md_again_b62_of {h : hp_M} {S1 : skyV} (o : is_MA h m t tn tp th ea n S nA A Rs S1) (fl : Nat) (x1 x2 : Int32) (K : Int32 → Option (Int32 × hp_M)) : ∀ r fu i (x : Int32), i + r = n → r < fu → z01 x → f_Md_again_b62 fl m x1 x2 h K fu x (ix i) = K (if x = 0 then 0 else asV S1.1 S.1 r i) := by
  have h8 := o.1.to.n8
  intro r
  induction r with
  | zero =>
    intro fu i x hi hf hx
    obtain ⟨fu, rfl⟩ : ∃ q, fu = q + 1 := ⟨fu - 1, by omega⟩
    unfold f_Md_again_b62
    simp only [o.1.r11, o.1.to.r0, Option.bind_some]
    rw [if_pos (ix_le1 (by omega) (by omega))]
    rcases hx with rfl | rfl
    · rw [if_pos rfl]
    · rw [if_neg (by decide)]; rfl
  | succ r ih =>
    intro fu i x hi hf hx
    obtain ⟨fu, rfl⟩ : ∃ q, fu = q + 1 := ⟨fu - 1, by omega⟩
    have pa : gaI h (m + 23 + 1) (ix i) = some (S1.1 i 4) := is_St.ang o.2.1 (show i < n by omega)
    have pb : gaI h (m + 16 + 1) (ix i) = some (S.1 i 4) := is_St.ang o.1.st (show i < n by omega)
    unfold f_Md_again_b62 jn; dsimp only
    simp only [o.1.r11, o.1.to.r0, o.1.r14, o.1.r13, is_St.r1 o.2.1, o.1.st.r1, pa, pb, Option.bind_some, ixp1]
    rw [if_neg (ix_nle (by omega) (by omega))]
    unfold asV
    by_cases c : S1.1 i 4 = S.1 i 4
    · rw [if_pos c, if_pos c]
      have e : x &&& 1 = x := by rcases hx with rfl | rfl <;> rfl
      rw [e]
      exact ih fu (i + 1) x (by omega) (by omega) hx
    · rw [if_neg c, if_neg c]
      have e : x &&& 0 = 0 := by rcases hx with rfl | rfl <;> rfl
      rw [e, ih fu (i + 1) 0 (by omega) (by omega) (Or.inl rfl), if_pos rfl, ite_self]
theorem Md_again_b35_of {D : Nat} (hD : D ≤ 2000) (hn : 0 < n) {fl : Nat} (hfl : 5000 ≤ fl) : ∀ (r k fu : Nat) (h : hp_M) (S1 : skyV), k + r = D + 1 → r < fu → okY n S1.1 → is_MA h m t tn tp th ea n S nA A Rs S1 → ∃ h', f_Md_again_b35 fl m (ix D) fu (ix k) h = some (agnV S.1 n r k S1, h') ∧ is_MM h' m t tn tp th ea n S nA A Rs ∧ fr m (m + 30) h h' ∧ h'.2 = h.2 := by
  intro r
  induction r with
  | zero =>
    intro k fu h S1 hk hf ok o
    obtain ⟨fu, rfl⟩ : ∃ q, fu = q + 1 := ⟨fu - 1, by omega⟩
    unfold f_Md_again_b35
    rw [if_pos (ix_lt1 (by omega) (by omega))]
    exact ⟨h, rfl, o.1, fr.refl _ _ _, rfl⟩
  | succ r ih =>
    intro k fu h S1 hk hf ok o
    obtain ⟨fu, rfl⟩ : ∃ q, fu = q + 1 := ⟨fu - 1, by omega⟩
    have h8 := o.1.to.n8
    obtain ⟨h1, e1, o1, r1, z1⟩ := MA_move o ok hfl
    unfold f_Md_again_b35 agnV
    rw [if_neg (ix_nlt (by omega) (by omega))]
    simp only [o.1.r11, o.1.to.r0, o.1.r14, MA_on o.2.1, e1, Option.bind_some, ixp1]
    have lp := Md_again_b62_of o1 fl (ix D) (ix k) (fun (u1014 : Int32) => if u1014 = 0 then (f_Md_again_b35 fl m (ix D) fu (ix (k + 1)) h1) else (some (ix k, h1))) n fl 0 1 (by omega) (by omega) (Or.inr rfl)
    rw [if_neg (show ¬ ((1 : Int32) = 0) by decide)] at lp
    rw [show (0 : Int32) = ix 0 from rfl, if_neg (ix_nle (by omega) (by omega))]
    by_cases c : asV (movV S1).1 S.1 n 0 = 0
    · obtain ⟨h', e', o', r', z'⟩ := ih (k + 1) fu h1 (movV S1) (by omega) (by omega) (okY.mov ok) o1
      rw [if_pos c] at lp
      refine ⟨h', ?_, o', r1.trans r', by omega⟩
      refine (show _ = _ from lp).trans ?_
      rw [e']
      exact congrArg (fun z => some (z, h')) (if_pos c).symm
    · rw [if_neg c] at lp
      refine ⟨h1, ?_, o1.1, r1, z1⟩
      refine (show _ = _ from lp).trans ?_
      exact congrArg (fun z => some (z, h1)) (if_neg c).symm
theorem Md_again {h : hp_M} (o : is_MM h m t tn tp th ea n S nA A Rs) (ok : okY n S.1) {D : Nat} (d1 : 1 ≤ D) (d2 : D ≤ 2000) {fl : Nat} (hfl : 5000 ≤ fl) : ∃ h', f_Md_again fl m (ix D) h = some ((if n = 0 then -1 else agnV S.1 n D 1 S), h') ∧ is_MM h' m t tn tp 0 ea n S nA A Rs ∧ fr m (m + 30) h h' ∧ h'.2 = h.2 := by
  obtain ⟨h1, e1, o1, r1, z1⟩ := o.th0 0
  obtain ⟨h3, e3, o3, r3, z3⟩ := MA_copy o1
  obtain ⟨n', S', sa⟩ := o1.ah
  have pre : f_Md_again fl m (ix D) h = f_Md_again_b35 fl m (ix D) fl 1 h3 := by
    unfold f_Md_again
    simp only [e1, show (2000 : Int32) = ix 2000 from rfl, isIn_yes1 d1 d2 (by omega), o1.r14, o1.r13, MA_on sa, e3, Option.bind_some]
    rw [if_neg (by decide)]
  by_cases hn : n = 0
  · rw [if_pos hn]
    refine ⟨h3, ?_, o3.1, r1.trans r3, by omega⟩
    rw [pre]
    obtain ⟨fu, hfu⟩ : ∃ q, fl = q + 1 := ⟨fl - 1, by omega⟩
    have key : ∀ fu', fu' = fu + 1 → f_Md_again_b35 fl m (ix D) fu' 1 h3 = some (-1, h3) := by
      intro fu' hf
      subst hf
      unfold f_Md_again_b35
      rw [show (1 : Int32) = ix 1 from rfl, if_neg (ix_nlt (by omega) (by omega))]
      simp only [o3.1.r11, o3.1.to.r0, Option.bind_some]
      rw [if_pos (by rw [hn]; decide)]
    exact key fl hfu
  · rw [if_neg hn]
    obtain ⟨h', e', o', r', z'⟩ := Md_again_b35_of d2 (by omega) hfl D 1 fl h3 S (by omega) (by omega) ok o3
    exact ⟨h', pre.trans e', o', (r1.trans r3).trans r', by omega⟩
theorem Md_againX {h : hp_M} (o : is_MM h m t tn tp th ea n S nA A Rs) {fl : Nat} {x : Int32} (hx : ¬ in1 2000 x) : MX (f_Md_again fl m x h) h m t tn tp 1 ea n S nA A Rs := by
  obtain ⟨h1, e1, o1, r1, z1⟩ := o.th0 0
  refine MX_of (x := 1) o1 r1 z1 ?_
  unfold f_Md_again
  simp only [e1, show (2000 : Int32) = ix 2000 from rfl, isIn_no1 hx (by omega), Option.bind_some]
  rw [if_pos trivial]
theorem Md_adv_b94 (okr : okRs n nA A Rs) {D : Nat} (hD : D ≤ 3000) {fl : Nat} (hfl : 5000 ≤ fl) (y1 y3 y4 y5 : Int32) (K : Int32 → hp_M → Option (Int32 × hp_M)) : ∀ (r k fu : Nat) (h : hp_M) (S1 : skyV) (x : Int32), k + r = D → r < fu → okY n S1.1 → is_MA h m t tn tp th ea n S nA A Rs S1 → ∃ h', f_Md_advise_b94 fl m y1 (ix D) y3 y4 y5 K fu x (ix k) h = K (x + (ix (daysV A Rs r S1).2.2.1 - ix S1.2.2.1)) h' ∧ is_MA h' m t tn tp th ea n S nA A Rs (daysV A Rs r S1) ∧ fr m (m + 30) h h' ∧ h'.2 = h.2 := by
  intro r
  induction r with
  | zero =>
    intro k fu h S1 x hk hf ok o
    obtain ⟨fu, rfl⟩ : ∃ q, fu = q + 1 := ⟨fu - 1, by omega⟩
    unfold f_Md_advise_b94
    rw [if_pos (ix_le1 (by omega) (by omega))]
    refine ⟨h, ?_, o, fr.refl _ _ _, rfl⟩
    show K x h = K (x + (ix S1.2.2.1 - ix S1.2.2.1)) h
    rw [Int32.sub_self, Int32.add_zero]
  | succ r ih =>
    intro k fu h S1 x hk hf ok o
    obtain ⟨fu, rfl⟩ : ∃ q, fu = q + 1 := ⟨fu - 1, by omega⟩
    obtain ⟨h1, e1, o1, r1, z1⟩ := MA_pass o ok okr hfl
    obtain ⟨h', e', o', r', z'⟩ := ih (k + 1) fu h1 (dayV A Rs S1) (x + (ix (dayV A Rs S1).2.2.1 - ix S1.2.2.1)) (by omega) (by omega) (okY.mov ok) o1
    refine ⟨h', ?_, o', r1.trans r', by omega⟩
    unfold f_Md_advise_b94
    rw [if_neg (ix_nle (by omega) (by omega))]
    simp only [o.1.r14, MA_on o.2.1, e1, Option.bind_some, ixp1]
    rw [e', tele]; rfl
theorem Md_advise_b (ok : okY n S.1) (okr : okRs n nA A Rs) {fl p D : Nat} (hp : p < n) (hD : D ≤ 60) (hfl : 5000 ≤ fl) : ∀ (r k fu : Nat) (h : hp_M) (best most : Int32), k + r = 36 → r < fu → is_MM h m t tn tp th ea n S nA A Rs → ∃ h', f_Md_advise_b43 fl m (ix p) (ix D) fu best most (ix k) h = some (advV A Rs S p D r k best most, h') ∧ is_MM h' m t tn tp th ea n S nA A Rs ∧ fr m (m + 30) h h' ∧ h'.2 = h.2 := by
  intro r
  induction r with
  | zero =>
    intro k fu h best most hk hf o
    obtain ⟨fu, rfl⟩ : ∃ q, fu = q + 1 := ⟨fu - 1, by omega⟩
    unfold f_Md_advise_b43
    rw [show (36 : Int32) = ix 36 from rfl, if_pos (ix_le1 (by omega) (by omega))]
    exact ⟨h, rfl, o, fr.refl _ _ _, rfl⟩
  | succ r ih =>
    intro k fu h best most hk hf o
    obtain ⟨fu, rfl⟩ : ∃ q, fu = q + 1 := ⟨fu - 1, by omega⟩
    have ps := o.ps
    obtain ⟨h1, e1, o1, r1, z1⟩ := MA_copy o
    obtain ⟨n', S', sa⟩ := o.ah
    have e10 : (10 : Int32) * ix k = ix (10 * k) := ix_mul 10 k
    obtain ⟨h2, e2, s2, r2, z2⟩ := ST_set o1.2.1 hp (rm (S.1 p 4 + ix (10 * k)) 360)
    have s2' : is_ST h2 m (m + 23) n (shf S p k) := s2
    have o2 : is_MA h2 m t tn tp th ea n S nA A Rs (shf S p k) := ⟨o1.1.setA s2' r2, s2', To_setV (o1.2.2.keep r2 (by omega)) p _⟩
    have pa : gaI h1 (m + 16 + 1) (ix p) = some (S.1 p 4) := o1.1.st.ang hp
    obtain ⟨h3, e3, o3, r3, z3⟩ := Md_adv_b94 okr (D := D) (by omega) hfl (ix p) best most (ix k) (fun (u1018 : Int32) (h1019 : hp_M) => if most < u1018 then f_Md_advise_b43 fl m (ix p) (ix D) fu (ix k) u1018 (ix (k + 1)) h1019 else f_Md_advise_b43 fl m (ix p) (ix D) fu best most (ix (k + 1)) h1019) D 0 fl h2 (shf S p k) 0 (by omega) (by omega) (okY_shf ok hp (show k < 36 by omega)) o2
    have rr := (r1.trans (r2.mono (show m ≤ m + 23 by omega) (show m + 23 + 7 ≤ m + 30 by omega))).trans r3
    unfold f_Md_advise_b43 advV jn; dsimp only
    rw [show (36 : Int32) = ix 36 from rfl, if_neg (ix_nle (by omega) (by omega))]
    simp only [o.r14, o.r13, MA_on sa, e1, o1.1.r14, o1.1.r13, o1.1.st.r1, pa, e10, remI_of (show (360 : Int32) ≠ 0 by decide), MA_on o1.2.1, e2, Option.bind_some, ixp1]
    have cc : ∀ x y : Int32, x < y ↔ ¬ y ≤ x := fun x y => by rw [i32_lt, i32_le]; omega
    rw [Int32.zero_add] at e3
    by_cases c : ix (daysV A Rs D (shf S p k)).2.2.1 - ix S.2.2.1 ≤ most
    · obtain ⟨h', e', o', r', z'⟩ := ih (k + 1) fu h3 best most (by omega) (by omega) o3.1
      refine ⟨h', ?_, o', rr.trans r', by omega⟩
      refine (show _ = _ from e3).trans ?_
      rw [if_pos c, ← e']
      exact if_neg (fun q => (cc _ _).mp q c)
    · obtain ⟨h', e', o', r', z'⟩ := ih (k + 1) fu h3 (ix k) (ix (daysV A Rs D (shf S p k)).2.2.1 - ix S.2.2.1) (by omega) (by omega) o3.1
      refine ⟨h', ?_, o', rr.trans r', by omega⟩
      refine (show _ = _ from e3).trans ?_
      rw [if_neg c, ← e']
      exact if_pos ((cc _ _).mpr c)
theorem Md_advise {h : hp_M} (o : is_MM h m t tn tp th ea n S nA A Rs) (ok : okY n S.1) (okr : okRs n nA A Rs) {p D : Nat} (hp : p < n) (d1 : 1 ≤ D) (d2 : D ≤ 60) {fl : Nat} (hfl : 5000 ≤ fl) : ∃ h', f_Md_advise fl m (ix p) (ix D) h = some (advV A Rs S p D 36 0 0 (-1), h') ∧ is_MM h' m t tn tp 0 ea n S nA A Rs ∧ fr m (m + 30) h h' ∧ h'.2 = h.2 := by
  obtain ⟨h1, e1, o1, r1, z1⟩ := o.th0 0
  obtain ⟨h', e', o', r', z'⟩ := Md_advise_b ok okr hp d2 hfl 36 0 fl h1 0 (-1) (by omega) (by omega) o1
  refine ⟨h', ?_, o', r1.trans r', by omega⟩
  unfold f_Md_advise
  simp only [e1, o1.on, MM_isPlanet o1 hp, show (60 : Int32) = ix 60 from rfl, isIn_yes1 d1 d2 (by omega), Option.bind_some]
  rw [if_neg (by decide), if_neg (by decide)]
  exact e'
theorem Md_adviseX1 {h : hp_M} (o : is_MM h m t tn tp th ea n S nA A Rs) {fl : Nat} {x y : Int32} (hx : ¬ inN n x) : MX (f_Md_advise fl m x y h) h m t tn tp 1 ea n S nA A Rs := by
  obtain ⟨h1, e1, o1, r1, z1⟩ := o.th0 0
  refine MX_of (x := 1) o1 r1 z1 ?_
  unfold f_Md_advise
  simp only [e1, o1.on, MM_notPlanet o1 hx, Option.bind_some]
  rw [if_pos trivial]
theorem Md_adviseX2 {h : hp_M} (o : is_MM h m t tn tp th ea n S nA A Rs) {fl p : Nat} {y : Int32} (hp : p < n) (hy : ¬ in1 60 y) : MX (f_Md_advise fl m (ix p) y h) h m t tn tp 2 ea n S nA A Rs := by
  obtain ⟨h1, e1, o1, r1, z1⟩ := o.th0 0
  refine MX_of (x := 2) o1 r1 z1 ?_
  unfold f_Md_advise
  simp only [e1, o1.on, MM_isPlanet o1 hp, show (60 : Int32) = ix 60 from rfl, isIn_no1 hy (by omega), Option.bind_some]
  rw [if_neg (by decide), if_pos trivial]
theorem Md_wia {h : hp_M} (o : is_MM h m t tn tp th ea n S nA A Rs) (fl : Nat) : ∀ r fu i, i + r = Rs.length → r < fu → f_Md_wroteInAll_b4 fl m h fu (sumV S.2.2.2.2 i) (ix i) = some (sumV S.2.2.2.2 Rs.length) := by
  have h12 := o.to.nR12
  intro r
  induction r with
  | zero =>
    intro fu i hi hf
    obtain ⟨fu, rfl⟩ : ∃ q, fu = q + 1 := ⟨fu - 1, by omega⟩
    have : i = Rs.length := by omega
    subst this
    unfold f_Md_wroteInAll_b4
    simp only [o.r11, o.to.r5, Option.bind_some]
    rw [if_pos (ix_le1 (Nat.le_refl _) (by omega))]
  | succ r ih =>
    intro fu i hi hf
    obtain ⟨fu, rfl⟩ : ∃ q, fu = q + 1 := ⟨fu - 1, by omega⟩
    unfold f_Md_wroteInAll_b4
    simp only [o.r11, o.to.r5, o.r13, o.st.r4, o.st.wro (show i < 12 by omega), Option.bind_some, ixp1]
    rw [if_neg (ix_nle (by omega) (by omega))]
    exact ih fu (i + 1) (by omega) (by omega)
theorem Md_mean {h : hp_M} (o : is_MM h m t tn tp th ea n S nA A Rs) {fl : Nat} (hfl : 5000 ≤ fl) : ∃ h', f_Md_mean fl m h = ((if S.2.1 = 0 then some 0 else ddC (FP.i2d (sumV S.2.2.2.2 Rs.length)) (FP.i2d S.2.1)).bind fun v => some (v, h')) ∧ is_MM h' m t tn tp 0 ea n S nA A Rs ∧ fr m (m + 30) h h' ∧ h'.2 = h.2 := by
  have h12 := o.to.nR12
  obtain ⟨h1, e1, o1, r1, z1⟩ := o.th0 0
  refine ⟨h1, ?_, o1, r1, z1⟩
  have lp : f_Md_wroteInAll fl m h1 = some (sumV S.2.2.2.2 Rs.length) := by
    unfold f_Md_wroteInAll
    exact Md_wia o1 fl Rs.length fl 0 (by omega) (by omega)
  unfold f_Md_mean
  simp only [e1, o1.r13, o1.st.r0, o1.on, lp, Option.bind_some]
  split <;> rfl
end
