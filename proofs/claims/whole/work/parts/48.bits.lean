/-! Bits (began as kit/laws/BITS.to-paste: Int32 by its bits). -/
def bt (x : Int32) (i : Nat) : Bool := x.toBitVec.getLsbD i
theorem b_ext {x y : Int32} (h : ∀ i, i < 32 → bt x i = bt y i) : x = y := Int32.toBitVec_inj.mp (BitVec.eq_of_getLsbD_eq (fun i hi => h i hi))
theorem b_or (x y : Int32) (i : Nat) : bt (x ||| y) i = (bt x i || bt y i) := by unfold bt; rw [Int32.toBitVec_or, BitVec.getLsbD_or]
theorem b_and (x y : Int32) (i : Nat) : bt (x &&& y) i = (bt x i && bt y i) := by unfold bt; rw [Int32.toBitVec_and, BitVec.getLsbD_and]
theorem b_xor (x y : Int32) (i : Nat) : bt (x ^^^ y) i = (bt x i ^^ bt y i) := by unfold bt; rw [Int32.toBitVec_xor, BitVec.getLsbD_xor]
theorem b_big {x : Int32} {i : Nat} (h : 32 ≤ i) : bt x i = false := BitVec.getLsbD_of_ge _ _ h
theorem b_255 (i : Nat) : bt 255 i = decide (i < 8) := by
  rcases Nat.lt_or_ge i 32 with h | h
  · exact (by decide +kernel : ∀ i, i < 32 → bt 255 i = decide (i < 8)) i h
  · rw [b_big h, decide_eq_false (by omega)]
theorem b_65535 (i : Nat) : bt 65535 i = decide (i < 16) := by
  rcases Nat.lt_or_ge i 32 with h | h
  · exact (by decide +kernel : ∀ i, i < 32 → bt 65535 i = decide (i < 16)) i h
  · rw [b_big h, decide_eq_false (by omega)]
theorem b_m1 : ∀ i, i < 32 → bt (-1) i = true := by decide +kernel
theorem b_0 (i : Nat) : bt 0 i = false := BitVec.getLsbD_zero
theorem s_l : ∀ n, n < 32 → ((nI n &&& 31).toBitVec.smod 32).toNat = n := by decide +kernel
theorem s_u : ∀ n, n < 32 → (((nI n).toUInt32 &&& Int32.toUInt32 31).toBitVec % 32).toNat = n := by decide +kernel
theorem b_shl (n : Nat) (hn : n < 32) (x : Int32) {i : Nat} (hi : i < 32) : bt (x <<< (nI n &&& 31)) i = (decide (n ≤ i) && bt x (i - n)) := by
  unfold bt
  rw [Int32.toBitVec_shiftLeft]
  show (x.toBitVec <<< ((nI n &&& 31).toBitVec.smod 32).toNat).getLsbD i = _
  rw [s_l n hn, BitVec.getLsbD_shiftLeft]
  rcases Nat.lt_or_ge i n with h | h
  · simp [h, Nat.not_le.mpr h]
  · simp [hi, h, Nat.not_lt.mpr h]
theorem b_ushr (n : Nat) (hn : n < 32) (x : Int32) (i : Nat) : bt ((x.toUInt32 >>> ((nI n).toUInt32 &&& Int32.toUInt32 31)).toInt32) i = bt x (n + i) := by
  show (x.toUInt32 >>> ((nI n).toUInt32 &&& Int32.toUInt32 31)).toBitVec.getLsbD i = x.toUInt32.toBitVec.getLsbD (n + i)
  rw [UInt32.toBitVec_shiftRight]
  show (x.toUInt32.toBitVec >>> (((nI n).toUInt32 &&& Int32.toUInt32 31).toBitVec % 32).toNat).getLsbD i = _
  rw [s_u n hn, BitVec.getLsbD_ushiftRight]
theorem b_sshr (n : Nat) (hn : n < 32) (x : Int32) {i : Nat} (hi : i < 32) : bt (x >>> (nI n &&& 31)) i = if n + i < 32 then bt x (n + i) else bt x 31 := by
  unfold bt
  rw [Int32.toBitVec_shiftRight]
  show (x.toBitVec.sshiftRight ((nI n &&& 31).toBitVec.smod 32).toNat).getLsbD i = _
  rw [s_l n hn, BitVec.getLsbD_sshiftRight, BitVec.msb_eq_getLsbD_last]
  simp [hi]
theorem b_shl8 (x : Int32) {i : Nat} (hi : i < 32) : bt (x <<< ((8 : Int32) &&& 31)) i = (decide (8 ≤ i) && bt x (i - 8)) := b_shl 8 (by omega) x hi
theorem b_shl16 (x : Int32) {i : Nat} (hi : i < 32) : bt (x <<< ((16 : Int32) &&& 31)) i = (decide (16 ≤ i) && bt x (i - 16)) := b_shl 16 (by omega) x hi
theorem b_shl24 (x : Int32) {i : Nat} (hi : i < 32) : bt (x <<< ((24 : Int32) &&& 31)) i = (decide (24 ≤ i) && bt x (i - 24)) := b_shl 24 (by omega) x hi
theorem b_sshr8 (x : Int32) {i : Nat} (hi : i < 32) : bt (x >>> ((8 : Int32) &&& 31)) i = if 8 + i < 32 then bt x (8 + i) else bt x 31 := b_sshr 8 (by omega) x hi
/-! The four bytes of a number. -/
def byV (x : Int32) (j : Nat) : Int32 := (x >>> (nI (24 - 8 * j) &&& 31)) &&& 255
theorem byV_ush (x : Int32) {s : Nat} (hs : s ≤ 24) : ush x (nI s) &&& 255 = (x >>> (nI s &&& 31)) &&& 255 := by
  apply b_ext
  intro i hi
  rw [b_and, b_and, b_255]
  by_cases h : i < 8
  · unfold ush
    rw [b_ushr s (by omega), b_sshr s (by omega) x hi, if_pos (by omega)]
  · rw [decide_eq_false h, Bool.and_false, Bool.and_false]
theorem byV_0 (x : Int32) : x &&& 255 = byV x 3 := by
  apply b_ext
  intro i hi
  unfold byV
  rw [b_and, b_and, b_255]
  by_cases h : i < 8
  · rw [b_sshr (24 - 8 * 3) (by omega) x hi, if_pos (by omega)]
    simp
  · rw [decide_eq_false h, Bool.and_false, Bool.and_false]
def num4 (f : Nat → Int32) (n : Nat) (x : Int32) : Nat → Int32 := fun i => if i < n then f i else byV x (i - n)
def xsV (x1 x2 x3 x4 x5 : Int32) : Nat → Int32 := fun k => [x1, x2, x3, x4, x5].getD k 0
def fedV (f : Nat → Int32) (n : Nat) (X : Nat → Int32) : Nat → Int32 := fun i => if i < n then f i else byV (X ((i - n) / 4)) ((i - n) % 4)
theorem is_Tp.num4 {h : hp_M} {a n : Nat} {f : Nat → Int32} (t : is_Tp h a n f) (hn : n + 4 ≤ 2000) (x : Int32) : ∃ h', f_Tp_appendNumber a x h = some h' ∧ is_Tp h' a (n + 4) (num4 f n x) ∧ fr a (a + 2) h h' ∧ h'.2 = h.2 := by
  obtain ⟨h', e, t', r, z⟩ := t.number hn x
  refine ⟨h', e, t'.congr (fun i hi => ?_), r, z⟩
  unfold Jvm.Pilot.CShadowSpellLaw_law_r9225_03f26d.num4
  have c : i < n ∨ i = n ∨ i = n + 1 ∨ i = n + 2 ∨ i = n + 3 := by omega
  rcases c with c | c | c | c | c
  · rw [upd_ne _ _ (by omega), upd_ne _ _ (by omega), upd_ne _ _ (by omega), upd_ne _ _ (by omega), if_pos c]
  · rw [upd_ne _ _ (by omega), upd_ne _ _ (by omega), upd_ne _ _ (by omega), c, upd_self, if_neg (by omega), Nat.sub_self]
    exact byV_ush x (s := 24) (by omega)
  · rw [upd_ne _ _ (by omega), upd_ne _ _ (by omega), c, upd_self, if_neg (by omega), show n + 1 - n = 1 by omega]
    exact byV_ush x (s := 16) (by omega)
  · rw [upd_ne _ _ (by omega), c, upd_self, if_neg (by omega), show n + 2 - n = 2 by omega]
    exact byV_ush x (s := 8) (by omega)
  · rw [c, upd_self, if_neg (by omega), show n + 3 - n = 3 by omega]
    exact byV_0 x
theorem fed_num (f : Nat → Int32) (n : Nat) (x1 x2 x3 x4 x5 : Int32) {i : Nat} (hi : i < n + 20) : num4 (num4 (num4 (num4 (num4 f n x1) (n + 4) x2) (n + 4 + 4) x3) (n + 4 + 4 + 4) x4) (n + 4 + 4 + 4 + 4) x5 i = fedV f n (xsV x1 x2 x3 x4 x5) i := by
  unfold num4 fedV xsV
  by_cases c0 : i < n
  · rw [if_pos (by omega), if_pos (by omega), if_pos (by omega), if_pos (by omega), if_pos c0, if_pos c0]
  · rw [if_neg c0]
    by_cases c1 : i < n + 4
    · rw [if_pos (by omega), if_pos (by omega), if_pos (by omega), if_pos (by omega), if_neg c0, show (i - n) / 4 = 0 by omega, show (i - n) % 4 = i - n by omega]; rfl
    · by_cases c2 : i < n + 4 + 4
      · rw [if_pos (by omega), if_pos (by omega), if_pos (by omega), if_neg c1, if_neg c0, show (i - n) / 4 = 1 by omega, show (i - n) % 4 = i - (n + 4) by omega]; rfl
      · by_cases c3 : i < n + 4 + 4 + 4
        · rw [if_pos (by omega), if_pos (by omega), if_neg c2, if_neg c0, show (i - n) / 4 = 2 by omega, show (i - n) % 4 = i - (n + 4 + 4) by omega]; rfl
        · by_cases c4 : i < n + 4 + 4 + 4 + 4
          · rw [if_pos (by omega), if_neg c3, if_neg c0, show (i - n) / 4 = 3 by omega, show (i - n) % 4 = i - (n + 4 + 4 + 4) by omega]; rfl
          · rw [if_neg c4, if_neg c0, show (i - n) / 4 = 4 by omega, show (i - n) % 4 = i - (n + 4 + 4 + 4 + 4) by omega]; rfl
section
variable {h : hp_M} {a bk dr tn : Nat} {tp : Nat → Int32} {ea : Int32} {n : Nat} {S : skyV} {B : bkV}
theorem SS_feed (o : is_SS h a bk dr tn tp ea n S B) (hn : tn ≤ 1980) (x1 x2 x3 x4 x5 : Int32) : ∃ h', f_SS_feed a x1 x2 x3 x4 x5 h = some (0, ix (tn + 20), h') ∧ is_SS h' a bk dr (tn + 20) (fedV tp tn (xsV x1 x2 x3 x4 x5)) ea n S B ∧ fr a (a + 106) h h' ∧ h'.2 = h.2 := by
  obtain ⟨h1, e1, t1, r1, z1⟩ := o.tP.num4 (by omega) x1
  have o1 := o.setTp t1 r1
  obtain ⟨h2, e2, t2, r2, z2⟩ := t1.num4 (by omega) x2
  have o2 := o1.setTp t2 r2
  obtain ⟨h3, e3, t3, r3, z3⟩ := t2.num4 (by omega) x3
  have o3 := o2.setTp t3 r3
  obtain ⟨h4, e4, t4, r4, z4⟩ := t3.num4 (by omega) x4
  have o4 := o3.setTp t4 r4
  obtain ⟨h5, e5, t5, r5, z5⟩ := t4.num4 (by omega) x5
  have t5' : is_Tp h5 (a + 1) (tn + 20) (fedV tp tn (xsV x1 x2 x3 x4 x5)) := t5.congr (fun i hi => fed_num tp tn x1 x2 x3 x4 x5 (by omega))
  have o5 := o4.setTp t5' r5
  refine ⟨h5, ?_, o5, ((((r1.trans r2).trans r3).trans r4).trans r5).mono (by omega) (by omega), by omega⟩
  unfold f_SS_feed
  simp only [o.r0, o.tP.on, o.tP.room, if_pos hn, e1, o1.r0, t1.on, e2, o2.r0, t2.on, e3, o3.r0, t3.on, e4, o4.r0, t4.on, e5, o5.r0, t5'.on, t5'.size, Option.bind_some]
  rw [if_neg (by decide)]
theorem SS_feedX (o : is_SS h a bk dr tn tp ea n S B) (hn : ¬ tn ≤ 1980) (x1 x2 x3 x4 x5 : Int32) : f_SS_feed a x1 x2 x3 x4 x5 h = some (1, 0, hX h) := by
  unfold f_SS_feed
  simp only [o.r0, o.tP.on, o.tP.room, if_neg hn, Option.bind_some]
  rw [if_pos trivial]; rfl
end
/-! Letters exchanged. -/
def xch (A B : List Int32) (b : Int32) : Int32 := B.getD (noV b A 0).toInt.toNat 0
def excV (A B : List Int32) : Nat → Nat → Int32 → (Nat → Int32) → Int32 × (Nat → Int32)
  | 0, _, c, f => (c, f)
  | r + 1, k, c, f => if (noV (f k) A 0 < 0 ∨ ix B.length ≤ noV (f k) A 0) then excV A B r (k + 1) c f else excV A B r (k + 1) (c + (if xch A B (f k) = f k then 0 else 1)) (upd f k (xch A B (f k)))
theorem noV_in (x : Int32) : ∀ (l : List Int32) (i : Nat), i + l.length < 2147483648 → noV x l i = -1 ∨ ∃ j, i ≤ j ∧ j < i + l.length ∧ noV x l i = ix j := by
  intro l
  induction l with
  | nil => intro i _; exact Or.inl rfl
  | cons y l ih =>
    intro i hi
    unfold noV
    simp only [List.length_cons] at hi
    split
    · exact Or.inr ⟨i, Nat.le_refl _, by simp, rfl⟩
    · rcases ih (i + 1) (by omega) with q | ⟨j, h1, h2, h3⟩
      · exact Or.inl q
      · exact Or.inr ⟨j, by omega, by simp; omega, h3⟩
section
variable {b p : Nat} {pl : List (Int64 × (Nat → Int32))} {al : List (Int64 × List Int32)} {l : List (Nat × Nat × Nat)} {rl : List (Nat × Nat × Nat × Nat)} {pn : Nat}
theorem is_Pp.setAt {h : hp_M} {f : Nat → Int32} (t : is_Pp h p pn f) {k : Nat} (hk : k < pn) (x : Int32) : ∃ h', paI h (p + 1) (ix k) x = some h' ∧ is_Pp h' p pn (upd f k x) ∧ fr p (p + 2) h h' ∧ h'.2 = h.2 := by
  obtain ⟨h1, h2, h3, g, h4, h5⟩ := t
  refine ⟨_, paI_of h4 (by omega) (by omega), ⟨h1, h2, ?_, _, wr_self _ _ _, fun i hi => ?_⟩, wr_frI _ _ (by omega) (by omega), rfl⟩
  · rw [wr_ne _ _ (by omega)]; exact h3
  · unfold upd; split
    · rfl
    · exact h5 i hi
theorem is_Pp.raw {h : hp_M} {f : Nat → Int32} (t : is_Pp h p pn f) {k : Nat} (hk : k < pn) : gI h p 2 1 = some (ix pn) ∧ gR h p 2 0 = some (p + 1) ∧ gaI h (p + 1) (ix k) = some (f k) := by
  obtain ⟨h1, h2, h3, g, h4, h5⟩ := t
  exact ⟨gI_of h3 rfl, gR_of h3 rfl, by rw [gaI_of h4 (by omega) (by omega), h5 k hk]⟩
theorem exch_b {u v : Nat} (hu : u < al.length) (hv : v < al.length) (hpb : p + 2 ≤ b ∨ b + 34 ≤ p) {fl : Nat} (hfl : 5000 ≤ fl) : ∀ (r k fu : Nat) (h : hp_M) (c : Int32) (f : Nat → Int32), k + r = pn → r < fu → is_Pp h p pn f → is_Bk h b pl al l rl → ∃ h', f_Pp_exchange_b6 fl p b (ix u) (ix v) fu c (ix k) h = some ((excV (alV al u) (alV al v) r k c f).1, h') ∧ is_Pp h' p pn (excV (alV al u) (alV al v) r k c f).2 ∧ fr p (p + 2) h h' ∧ h'.2 = h.2 := by
  intro r
  induction r with
  | zero =>
    intro k fu h c f hk hf t o
    obtain ⟨fu, rfl⟩ : ∃ q, fu = q + 1 := ⟨fu - 1, by omega⟩
    have h6 := t.2.1
    unfold f_Pp_exchange_b6
    rw [gI_of t.2.2.1 rfl]
    simp only [Option.bind_some]
    rw [if_pos (ix_le1 (by omega) (by omega))]
    exact ⟨h, rfl, t, fr.refl _ _ _, rfl⟩
  | succ r ih =>
    intro k fu h c f hk hf t o
    obtain ⟨fu, rfl⟩ : ∃ q, fu = q + 1 := ⟨fu - 1, by omega⟩
    have h6 := t.2.1
    obtain ⟨q1, q2, q3⟩ := t.raw (k := k) (by omega)
    have hl1 : (alV al u).length ≤ 12 := (o.alp hu).2.1
    have hl2 : (alV al v).length ≤ 12 := (o.alp hv).2.1
    have e1 : f_Bk_numberOf fl b (ix u) (f k) h = some (noV (f k) (alV al u) 0) := o.numberOf hfl hu (f k)
    have e2 : f_Bk_lettersOf b (ix v) h = some (ix (alV al v).length) := o.lettersOf hv
    have e3 : ∀ j, j < (alV al v).length → f_Bk_letterOf b (ix v) (ix j) h = some ((alV al v).getD j 0) := fun j hj => o.letterOf hv hj
    unfold f_Pp_exchange_b6 excV jn; dsimp only
    simp only [q1, q2, q3, o.on, e1, e2, Option.bind_some, ixp1]
    rw [if_neg (ix_nle (by omega) (by omega))]
    have nxt := ih (k + 1) fu h c f (by omega) (by omega) t o
    by_cases c1 : noV (f k) (alV al u) 0 < 0
    · rw [if_pos c1, if_pos (Or.inl c1)]; exact nxt
    · rw [if_neg c1]
      by_cases c2 : ix (alV al v).length ≤ noV (f k) (alV al u) 0
      · rw [if_pos c2, if_pos (Or.inr c2)]; exact nxt
      · rw [if_neg c2, if_neg (fun q => q.elim c1 c2)]
        rcases noV_in (f k) (alV al u) 0 (by omega) with q | ⟨j, _, j1, j2⟩
        · exact absurd (by rw [q]; decide) c1
        · have j3 : j < (alV al v).length := by
            rw [j2] at c2
            exact Nat.lt_of_not_le fun q => c2 (ix_le1 q (by omega))
          have ex : xch (alV al u) (alV al v) (f k) = (alV al v).getD j 0 := by
            unfold xch
            rw [j2, ix_toInt (by omega)]
            rfl
          obtain ⟨h1, e4, t1, r1, z1⟩ := t.setAt (k := k) (by omega) ((alV al v).getD j 0)
          obtain ⟨h', e', t', r', z'⟩ := ih (k + 1) fu h1 (c + (if xch (alV al u) (alV al v) (f k) = f k then 0 else 1)) (upd f k (xch (alV al u) (alV al v) (f k))) (by omega) (by omega) (by rw [ex]; exact t1) (o.keep r1 (by omega))
          refine ⟨h', ?_, t', r1.trans r', by omega⟩
          rw [← e']
          rw [ex, j2]
          simp only [e3 j j3, e4, Option.bind_some]
          split <;> rfl
end
section
variable {h : hp_M} {a bk dr tn : Nat} {tp : Nat → Int32} {ea : Int32} {n : Nat} {S : skyV} {B : bkV}
def trV (S : skyV) (A B : List Int32) : skyV := (S.1, S.2.1, S.2.2.1, (excV A B S.2.2.1 0 0 S.2.2.2.1).2, S.2.2.2.2)
theorem SS_translate (o : is_SS h a bk dr tn tp ea n S B) {u v : Nat} (hu : u < B.2.1.length) (hv : v < B.2.1.length) {fl : Nat} (hfl : 5000 ≤ fl) : ∃ h', f_SS_translate fl a (ix u) (ix v) h = some (0, (excV (alV B.2.1 u) (alV B.2.1 v) S.2.2.1 0 0 S.2.2.2.1).1, h') ∧ is_SS h' a bk dr tn tp ea n (trV S (alV B.2.1 u) (alV B.2.1 v)) B ∧ fr a (a + 106) h h' ∧ h'.2 = h.2 := by
  have bd := o.bd
  have p6 := o.sk.pn600
  obtain ⟨h', e, t, r, z⟩ := exch_b hu hv (p := a + 3 + 3) (b := bk) (by omega) hfl S.2.2.1 0 fl h 0 S.2.2.2.1 (by omega) (by omega) o.sk.paper o.bK
  have t' : is_SK h' (a + 3) n (trV S (alV B.2.1 u) (alV B.2.1 v)) := is_Sk.setPp o.sk t r
  refine ⟨h', ?_, o.setSk t' (r.mono (by omega) (by omega)), r.mono (by omega) (by omega), z⟩
  unfold f_SS_translate f_Pp_exchange jn; dsimp only
  simp only [o.r4, o.r2, o.bK.on, o.bK.hasA hu, o.bK.hasA hv, o.sk.on, o.sk.fpaper, o.sk.paper.on, Option.bind_some]
  rw [if_neg (by decide), if_neg (by decide)]
  rw [show (0 : Int32) = ix 0 from rfl] at e ⊢
  rw [e]; rfl
theorem SS_translateX (o : is_SS h a bk dr tn tp ea n S B) {fl : Nat} {x y : Int32} (hx : ¬ (inN B.2.1.length x ∧ inN B.2.1.length y)) : f_SS_translate fl a x y h = some (3, 0, hX h) := by
  unfold f_SS_translate jn; dsimp only
  by_cases hq : inN B.2.1.length x
  · obtain ⟨i, hi, rfl⟩ := hq
    have hy : ¬ inN B.2.1.length y := fun q => hx ⟨⟨i, hi, rfl⟩, q⟩
    simp only [o.r4, o.bK.on, o.bK.hasA hi, o.bK.hasNotA hy, Option.bind_some]
    rw [if_neg (by decide), if_pos trivial]; rfl
  · simp only [o.r4, o.bK.on, o.bK.hasNotA hq, Option.bind_some]
    rw [if_pos trivial]; rfl
end
