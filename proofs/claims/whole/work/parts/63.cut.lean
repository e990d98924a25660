/-! The Model cuts the tape into tokens. -/
def mkT (k : Nat) : Nat := [900, 901, 30, 31, 0, 1, 2, 3, 4, 5, 6, 7, 8, 9, 10, 11, 12, 13, 14, 15, 16, 17, 18, 19, 20, 21, 72, 73, 123, 125, 91, 76, 75, 77, 74, 79, 69, 92, 94, 93, 800, 801].getD k 0
theorem mkT_w : ∀ j, j < 23 → 1 ≤ j → mkT (j + 3) = j - 1 := by decide
theorem mkT_900 : ∀ k, k < 42 → (mkT k < 900 ↔ 2 ≤ k) ∧ (mkT k = 900 ↔ k = 0) ∧ mkT k < 1000 := by decide
theorem mkT_inj : ∀ i, i < 42 → ∀ j, j < 42 → mkT i = mkT j → i = j := by decide +kernel
theorem mk_eq {i j : Nat} (hi : i < 42) (hj : j < 42) : ix (mkT i) = ix (mkT j) ↔ i = j := by
  have a := (mkT_900 i hi).2.2
  have b := (mkT_900 j hj).2.2
  rw [ix_inj (by omega) (by omega)]
  exact ⟨mkT_inj i hi j hj, fun q => by rw [q]⟩
def lgB (b : Int32) (cb : Bool) : Bool := (decide (b = 60) || decide (b = 62)) && cb
def mdK (b : Int32) (lg : Bool) : Int32 := if lg = true then (if b = 60 then 800 else 801) else if b = 40 ∨ b = 41 ∨ b = 91 ∨ b = 93 ∨ b = 59 ∨ b = 44 ∨ b = 43 ∨ b = 45 ∨ b = 42 ∨ b = 47 ∨ b = 37 ∨ b = 60 ∨ b = 62 ∨ b = 61 then 32 + b else 901
theorem mdK_of : ∀ b, b < 256 → ∀ cb : Bool, isLV (ix b) = false → isDV (ix b) = false → mdK (ix b) (lgB (ix b) cb) = ix (mkT (symV (ix b) cb)) ∧ (2 ≤ symV (ix b) cb → (if lgB (ix b) cb = true then 2 else 1) = tln (txi (symV (ix b) cb))) := by decide +kernel
theorem sym_tree (b : Int32) (h : hp_M) : (if b = 40 then some (32 + b, h) else if b = 41 then some (32 + b, h) else if b = 91 then some (32 + b, h) else if b = 93 then some (32 + b, h) else if b = 59 then some (32 + b, h) else if b = 44 then some (32 + b, h) else if b = 43 then some (32 + b, h) else if b = 45 then some (32 + b, h) else if b = 42 then some (32 + b, h) else if b = 47 then some (32 + b, h) else if b = 37 then some (32 + b, h) else if b = 60 then some (32 + b, h) else if b = 62 then some (32 + b, h) else if b = 61 then some (32 + b, h) else some (901, h)) = some (mdK b false, h) := by
  unfold mdK
  rw [if_neg (show ¬ (false = true) by decide)]
  by_cases q : b = 40 ∨ b = 41 ∨ b = 91 ∨ b = 93 ∨ b = 59 ∨ b = 44 ∨ b = 43 ∨ b = 45 ∨ b = 42 ∨ b = 47 ∨ b = 37 ∨ b = 60 ∨ b = 62 ∨ b = 61
  · rw [if_pos q]
    rcases q with q | q | q | q | q | q | q | q | q | q | q | q | q | q <;> subst q <;> rfl
  · rw [if_neg q]
    simp only [not_or] at q
    obtain ⟨q0, q1, q2, q3, q4, q5, q6, q7, q8, q9, q10, q11, q12, q13⟩ := q
    rw [if_neg q0, if_neg q1, if_neg q2, if_neg q3, if_neg q4, if_neg q5, if_neg q6, if_neg q7, if_neg q8, if_neg q9, if_neg q10, if_neg q11, if_neg q12, if_neg q13]
def byt (tn : Nat) (tp : Nat → Int32) (p : Nat) : Int32 := if p < tn then tp p else -1
section
variable {m tn : Nat} {tp : Nat → Int32} {th ea tk dp : Int32} {t rd : Nat}
theorem byteOf_of {h : hp_M} (o : is_Mo h m th tn tp ea tk dp t rd) {p : Nat} (hp : p ≤ 3000) : f_Md_byteOf m (ix p) h = some (byt tn tp p) := by
  have t2 := o.tn2
  unfold f_Md_byteOf byt
  simp only [o.r2, Option.bind_some]
  by_cases c : p < tn
  · rw [if_neg (ix_nle c (by omega)), if_pos c]
    simp only [o.r1, o.ga c, Option.bind_some]
  · rw [if_pos (ix_le1 (by omega) (by omega)), if_neg c]
theorem m1_nw : isLV (-1) = false ∧ isDV (-1) = false := by decide
theorem mw_b {h : hp_M} (w : hp_W) (o : is_Mo h m th tn tp ea tk dp t rd) (fl : Nat) (x1 x2 : Int32) (K : Int32 → Option (Int32 × hp_M)) : ∀ r fu p, p + r = tn → r < fu → f_Md_kindAt_b18 w fl m x1 x2 h K fu (ix p) = K (ix (spn isWV tp r p)) := by
  have t2 := o.tn2
  intro r
  induction r with
  | zero =>
    intro fu p hp hf
    obtain ⟨fu, rfl⟩ : ∃ q, fu = q + 1 := ⟨fu - 1, by omega⟩
    have e : byt tn tp p = -1 := by unfold byt; rw [if_neg (by omega)]
    unfold f_Md_kindAt_b18 spn jn; dsimp only
    simp only [o.on, byteOf_of o (show p ≤ 3000 by omega), e, mL_of, mD_of, m1_nw.1, m1_nw.2, Option.bind_some]
    rfl
  | succ r ih =>
    intro fu p hp hf
    obtain ⟨fu, rfl⟩ : ∃ q, fu = q + 1 := ⟨fu - 1, by omega⟩
    have nx := ih fu (p + 1) (by omega) (by omega)
    have e : byt tn tp p = tp p := by unfold byt; rw [if_pos (by omega)]
    unfold f_Md_kindAt_b18 spn jn; dsimp only
    simp only [o.on, byteOf_of o (show p ≤ 3000 by omega), e, mL_of, mD_of, ixp1, Option.bind_some]
    by_cases c1 : isLV (tp p) = true
    · rw [if_pos c1, if_neg z10, if_pos (show isWV (tp p) = true by unfold isWV; rw [c1]; rfl)]; exact nx
    · rw [if_neg c1, if_pos rfl]
      by_cases c2 : isDV (tp p) = true
      · rw [if_pos c2, if_neg z10, if_pos (show isWV (tp p) = true by unfold isWV; rw [c2, Bool.or_true])]; exact nx
      · rw [if_neg c2, if_pos rfl, if_neg (show ¬ isWV (tp p) = true by unfold isWV; rw [Bool.or_eq_true]; exact fun q => q.elim c1 c2)]
theorem mn_b {h : hp_M} (w : hp_W) (o : is_Mo h m th tn tp ea tk dp t rd) (fl : Nat) (x1 x2 : Int32) (K : Int32 → Option (Int32 × hp_M)) : ∀ r fu p, p + r = tn → r < fu → f_Md_kindAt_b90 w fl m x1 x2 h K fu (ix p) = K (ix (spn isDV tp r p)) := by
  have t2 := o.tn2
  intro r
  induction r with
  | zero =>
    intro fu p hp hf
    obtain ⟨fu, rfl⟩ : ∃ q, fu = q + 1 := ⟨fu - 1, by omega⟩
    have e : byt tn tp p = -1 := by unfold byt; rw [if_neg (by omega)]
    unfold f_Md_kindAt_b90 spn
    simp only [o.on, byteOf_of o (show p ≤ 3000 by omega), e, mD_of, m1_nw.2, Option.bind_some]
    rfl
  | succ r ih =>
    intro fu p hp hf
    obtain ⟨fu, rfl⟩ : ∃ q, fu = q + 1 := ⟨fu - 1, by omega⟩
    have nx := ih fu (p + 1) (by omega) (by omega)
    have e : byt tn tp p = tp p := by unfold byt; rw [if_pos (by omega)]
    unfold f_Md_kindAt_b90 spn
    simp only [o.on, byteOf_of o (show p ≤ 3000 by omega), e, mD_of, ixp1, Option.bind_some]
    by_cases c2 : isDV (tp p) = true
    · rw [if_pos c2, if_neg z10, if_pos c2]; exact nx
    · rw [if_neg c2, if_pos rfl, if_neg c2]
theorem md32 {w : hp_W} (ow : okW w) {h : hp_M} (o : is_Mo h m th tn tp ea tk dp t rd) {p len j : Nat} (hp : p + len ≤ tn) (hj : j < 22) (hl : tln (j + 1) = len) (fl : Nat) (K : Int32 → Option Int32) : ∀ r fu i, i + r = len → r + 1 < fu → (∀ k, k < i → tp (p + k) = tby (j + 1) k) → f_Md_word_b32 w fl m (ix p) (ix len) (ix j) h K fu 1 (ix i) = K (if mtV tp (j + 1) p = true then 1 else 0) := by
  have t2 := o.tn2
  intro r
  induction r with
  | zero =>
    intro fu i hi hf hk
    obtain ⟨fu, rfl⟩ : ∃ q, fu = q + 1 := ⟨fu - 1, by omega⟩
    unfold f_Md_word_b32
    rw [if_neg z10, if_pos (ix_le1 (by omega) (by omega)), if_pos (mtV_iff.mpr (fun k hk' => hk k (by omega)))]
  | succ r ih =>
    intro fu i hi hf hk
    obtain ⟨fu, rfl⟩ : ∃ q, fu = q + 1 := ⟨fu - 1, by omega⟩
    unfold f_Md_word_b32 jn; dsimp only
    rw [if_neg z10, if_neg (ix_nle (by omega) (by omega))]
    simp only [kWord_of w hj, tAt_of ow (show j + 1 < 39 by omega) (show i < tln (j + 1) by omega), o.r1, ix_add, o.ga (show p + i < tn by omega), ixp1, Option.bind_some]
    by_cases c : tby (j + 1) i = tp (p + i)
    · rw [if_pos c]
      refine ih fu (i + 1) (by omega) (by omega) (fun k hk' => ?_)
      by_cases q : k = i
      · rw [q]; exact c.symm
      · exact hk k (by omega)
    · rw [if_neg c, if_neg (fun q => c (mtV_iff.mp q i (by omega)).symm)]
      obtain ⟨fu, rfl⟩ : ∃ q, fu = q + 1 := ⟨fu - 1, by omega⟩
      unfold f_Md_word_b32
      rw [if_pos rfl]
theorem md_word_b {w : hp_W} (ow : okW w) {h : hp_M} (o : is_Mo h m th tn tp ea tk dp t rd) {p len : Nat} (hp : p + len ≤ tn) {fl : Nat} (hfl : 5000 ≤ fl) : ∀ r fu i, i + r = 22 → r < fu → f_Md_word_b2 w fl m (ix p) (ix len) h fu (ix i) = some (if fwV tp p len r (i + 1) = 0 then 30 else ix (fwV tp p len r (i + 1) - 1)) := by
  have t2 := o.tn2
  intro r
  induction r with
  | zero =>
    intro fu i hi hf
    obtain ⟨fu, rfl⟩ : ∃ q, fu = q + 1 := ⟨fu - 1, by omega⟩
    unfold f_Md_word_b2
    rw [show (22 : Int32) = ix 22 from rfl, if_pos (ix_le1 (by omega) (by omega))]
    rfl
  | succ r ih =>
    intro fu i hi hf
    obtain ⟨fu, rfl⟩ : ∃ q, fu = q + 1 := ⟨fu - 1, by omega⟩
    have nx := ih fu (i + 1) (by omega) (by omega)
    have l8 := tln_le (i + 1) (by omega)
    unfold f_Md_word_b2 fwV jn; dsimp only
    rw [show (22 : Int32) = ix 22 from rfl, if_neg (ix_nle (by omega) (by omega))]
    simp only [kWord_of w (show i < 22 by omega), tLen_of ow (show i + 1 < 39 by omega), ixp1, Option.bind_some]
    by_cases c : tln (i + 1) = len
    · rw [if_pos (by rw [c])]
      rw [show (0 : Int32) = ix 0 from rfl, md32 ow o hp (show i < 22 by omega) c fl _ len fl 0 (by omega) (by omega) (fun k hk => by omega)]
      by_cases d : mtV tp (i + 1) p = true
      · have q : tln (i + 1) = len ∧ mtV tp (i + 1) p = true := ⟨c, d⟩
        rw [if_pos d, if_neg (show ¬ ((1 : Int32) = ix 0) by decide), if_pos q, if_neg (show ¬ (i + 1 = 0) by omega)]; rfl
      · have q : ¬ (tln (i + 1) = len ∧ mtV tp (i + 1) p = true) := fun q => d q.2
        rw [if_neg d, if_pos (show (0 : Int32) = ix 0 from rfl), if_neg q]; exact nx
    · have q : ¬ (tln (i + 1) = len ∧ mtV tp (i + 1) p = true) := fun q => c q.1
      rw [if_neg (fun q => c ((ix_inj (by omega) (by omega)).mp q)), if_neg q]
      obtain ⟨fv, hfv⟩ : ∃ q, fl = q + 1 := ⟨fl - 1, by omega⟩
      have z : ∀ f', f' = fv + 1 → ∀ K, f_Md_word_b32 w fl m (ix p) (ix len) (ix i) h K f' 0 0 = K 0 := by
        intro f' hf' K
        subst hf'
        unfold f_Md_word_b32
        rw [if_pos rfl]
      rw [z fl hfv, if_pos rfl]
      exact nx
theorem md_word_of {w : hp_W} (ow : okW w) {h : hp_M} (o : is_Mo h m th tn tp ea tk dp t rd) {p len : Nat} (hp : p + len ≤ tn) {fl : Nat} (hfl : 5000 ≤ fl) : f_Md_word w fl m (ix p) (ix len) h = some (ix (mkT (kwV tp p len))) := by
  have f : ∀ r j, j + r = 23 → fwV tp p len r j = 0 ∨ (j ≤ fwV tp p len r j ∧ fwV tp p len r j < 23) := by
    intro r
    induction r with
    | zero => intro j _; exact Or.inl rfl
    | succ r ih =>
      intro j hj
      unfold fwV
      split
      · exact Or.inr ⟨Nat.le_refl _, by omega⟩
      · rcases ih (j + 1) (by omega) with q | q
        · exact Or.inl q
        · exact Or.inr ⟨by omega, q.2⟩
  have b := md_word_b ow o hp hfl 22 fl 0 (by omega) (by omega)
  unfold f_Md_word
  refine (show _ = _ from b).trans ?_
  have := f 22 1 (by omega)
  unfold kwV
  by_cases c : fwV tp p len 22 1 = 0
  · rw [if_pos c, if_pos c]; rfl
  · rw [if_neg c, if_neg c, mkT_w _ (by omega) (by omega)]
/-- the kind of the token at a place; its length is written -/
theorem kindAt_of {w : hp_W} (ow : okW w) (ot : okT tn tp) {h : hp_M} (o : is_Mo h m th tn tp ea tk dp t rd) {gm : Nat → Int32} (c : h.1 (m + 4) = some (aI 401 gm)) {p i : Nat} (hp : p ≤ tn) (hi : i < 401) {fl : Nat} (hfl : 5000 ≤ fl) : ∃ ln, f_Md_kindAt w fl m (ix p) (ix i) h = some (ix (mkT (tkV tn tp p).1), wr h (m + 4) (aI 401 (upd gm i ln))) ∧ (2 ≤ (tkV tn tp p).1 → ln = ix (tkV tn tp p).2) := by
  have t2 := o.tn2
  have pw : ∀ x, paI h (m + 4) (ix i) x = some (wr h (m + 4) (aI 401 (upd gm i x))) := fun x => paI_of c hi (by omega)
  have ow' : ∀ x, is_Mo (wr h (m + 4) (aI 401 (upd gm i x))) m th tn tp ea tk dp t rd := fun x => by
    obtain ⟨q1, q2, q3, g, q4, q5⟩ := o
    exact ⟨q1, q2, (wr_ne _ _ (by omega)).trans q3, g, (wr_ne _ _ (by omega)).trans q4, q5⟩
  unfold f_Md_kindAt
  simp only [o.on, byteOf_of o (show p ≤ 3000 by omega), mL_of, mD_of, Option.bind_some]
  unfold tkV
  by_cases d : tn ≤ p
  · have e : byt tn tp p = -1 := by unfold byt; rw [if_neg (by omega)]
    rw [e, if_pos d, m1_nw.1, m1_nw.2]
    refine ⟨1, ?_, fun q => by dsimp only at q; omega⟩
    refine ite_p rfl ?_
    refine ite_p rfl ?_
    refine jnE ?_
    refine jnE ?_
    refine jnE ?_
    refine ite_n (by decide) ?_
    refine ite_n (by decide) ?_
    refine jnE ?_
    refine bnd o.r6 ?_
    refine ite_p rfl ?_
    refine bnd (pw 1) ?_
    exact ite_p rfl (ite_p rfl rfl)
  · have e : byt tn tp p = tp p := by unfold byt; rw [if_pos (by omega)]
    obtain ⟨b, hb, eb⟩ := ot p (by omega)
    rw [e, if_neg d]
    by_cases d1 : isLV (tp p) = true
    · rw [if_pos d1, if_neg z10, if_pos d1]
      have le := spn_le isWV tp (tn - p - 1) (p + 1)
      have es : spn isWV tp (tn - p) p = spn isWV tp (tn - p - 1) (p + 1) := by
        obtain ⟨r, hr⟩ : ∃ r, tn - p = r + 1 := ⟨tn - p - 1, by omega⟩
        rw [hr]
        show (if isWV (tp p) = true then spn isWV tp r (p + 1) else p) = _
        rw [if_pos (show isWV (tp p) = true by unfold isWV; rw [d1]; rfl)]; rfl
      rw [es]
      refine ⟨ix (spn isWV tp (tn - p - 1) (p + 1) - p), ?_, fun _ => rfl⟩
      rw [ixp1, mw_b w o fl (ix p) (ix i) _ (tn - p - 1) fl (p + 1) (by omega) (by omega)]
      simp only [o.r6, ix_sub (show p ≤ spn isWV tp (tn - p - 1) (p + 1) by omega), pw, Option.bind_some]
      by_cases d2 : spn isWV tp (tn - p - 1) (p + 1) - p ≤ 12
      · rw [if_pos (show ix (spn isWV tp (tn - p - 1) (p + 1) - p) ≤ 12 from ix_le1 (n := 12) d2 (by omega)), if_pos d2, (ow' _).on, md_word_of ow (ow' _) (show p + (spn isWV tp (tn - p - 1) (p + 1) - p) ≤ tn by omega) hfl]
        rfl
      · rw [if_neg (show ¬ ix (spn isWV tp (tn - p - 1) (p + 1) - p) ≤ 12 from ix_nle (n := 12) (by omega) (by omega)), if_neg d2]
        rfl
    · rw [if_neg d1, if_pos rfl, if_neg d1]
      by_cases d2 : isDV (tp p) = true
      · rw [if_pos d2, if_neg z10, if_pos d2]
        have le := spn_le isDV tp (tn - p - 1) (p + 1)
        have es : spn isDV tp (tn - p) p = spn isDV tp (tn - p - 1) (p + 1) := by
          obtain ⟨r, hr⟩ : ∃ r, tn - p = r + 1 := ⟨tn - p - 1, by omega⟩
          rw [hr]
          show (if isDV (tp p) = true then spn isDV tp r (p + 1) else p) = _
          rw [if_pos d2]; rfl
        rw [es]
        refine ⟨ix (spn isDV tp (tn - p - 1) (p + 1) - p), ?_, fun _ => rfl⟩
        rw [ixp1, mn_b w o fl (ix p) (ix i) _ (tn - p - 1) fl (p + 1) (by omega) (by omega)]
        simp only [o.r6, ix_sub (show p ≤ spn isDV tp (tn - p - 1) (p + 1) by omega), pw, Option.bind_some]
        by_cases d3 : spn isDV tp (tn - p - 1) (p + 1) - p ≤ 6
        · rw [if_pos (show ix (spn isDV tp (tn - p - 1) (p + 1) - p) ≤ 6 from ix_le1 (n := 6) d3 (by omega)), if_pos d3]; rfl
        · rw [if_neg (show ¬ ix (spn isDV tp (tn - p - 1) (p + 1) - p) ≤ 6 from ix_nle (n := 6) (by omega) (by omega)), if_neg d3]; rfl
      · rw [if_neg d2, if_pos rfl, if_neg d2]
        have mk := mdK_of b hb (eqAt tn tp p) (by rw [← eb]; simpa using d1) (by rw [← eb]; simpa using d2)
        rw [← eb] at mk
        obtain ⟨mk1, mk2⟩ := mk
        have be : (byt tn tp (p + 1) = 61) ↔ eqAt tn tp p = true := by
          unfold byt eqAt
          rw [Bool.and_eq_true, decide_eq_true_eq, decide_eq_true_eq]
          by_cases q : p + 1 < tn
          · rw [if_pos q]; exact ⟨fun x => ⟨q, x⟩, fun x => x.2⟩
          · rw [if_neg q]; exact ⟨fun x => absurd x (by decide), fun x => absurd x.1 q⟩
        have bm : tp p ≠ -1 := by rw [eb]; exact ix_ne_m1 (by omega)
        refine ⟨if lgB (tp p) (eqAt tn tp p) = true then 2 else 1, ?_, fun q => ?_⟩
        · dsimp only
          rw [← mk1]
          have long : lgB (tp p) (eqAt tn tp p) = true → ((gR h m 12 6).bind fun v34 => (if (1 : Int32) = 0 then ((paI h v34 (ix i) 1).bind fun h15 => if (1 : Int32) = 0 then (if tp p = (-1) then (some (900, h15)) else (some (901, h15))) else (if tp p = 60 then (some (800, h15)) else (some (801, h15)))) else ((paI h v34 (ix i) 2).bind fun h15 => if (1 : Int32) = 0 then (if tp p = (-1) then (some (900, h15)) else (some (901, h15))) else (if tp p = 60 then (some (800, h15)) else (some (801, h15)))))) = some (mdK (tp p) (lgB (tp p) (eqAt tn tp p)), wr h (m + 4) (aI 401 (upd gm i (if lgB (tp p) (eqAt tn tp p) = true then 2 else 1)))) := by
            intro hl
            rw [if_pos hl, hl]
            refine bnd o.r6 ?_
            refine ite_n z10 ?_
            refine bnd (pw 2) ?_
            refine ite_n z10 ?_
            unfold mdK
            rw [if_pos rfl]
            split <;> rfl
          have short : lgB (tp p) (eqAt tn tp p) = false → ∀ X : Option (Int32 × hp_M), X = ((gR h m 12 6).bind fun v34 => (paI h v34 (ix i) 1).bind fun h15 => (if tp p = (-1) then (some (900, h15)) else (if tp p = 40 then some (32 + tp p, h15) else if tp p = 41 then some (32 + tp p, h15) else if tp p = 91 then some (32 + tp p, h15) else if tp p = 93 then some (32 + tp p, h15) else if tp p = 59 then some (32 + tp p, h15) else if tp p = 44 then some (32 + tp p, h15) else if tp p = 43 then some (32 + tp p, h15) else if tp p = 45 then some (32 + tp p, h15) else if tp p = 42 then some (32 + tp p, h15) else if tp p = 47 then some (32 + tp p, h15) else if tp p = 37 then some (32 + tp p, h15) else if tp p = 60 then some (32 + tp p, h15) else if tp p = 62 then some (32 + tp p, h15) else if tp p = 61 then some (32 + tp p, h15) else some (901, h15)))) → X = some (mdK (tp p) (lgB (tp p) (eqAt tn tp p)), wr h (m + 4) (aI 401 (upd gm i (if lgB (tp p) (eqAt tn tp p) = true then 2 else 1)))) := by
            intro hl X hX
            rw [hX, hl, if_neg (show ¬ (false = true) by decide)]
            refine bnd o.r6 ?_
            refine bnd (pw 1) ?_
            refine ite_n bm ?_
            exact sym_tree _ _
          refine jnE ?_
          refine jnE ?_
          refine jnE ?_
          have bo := byteOf_of o (show p + 1 ≤ 3000 by omega)
          rw [← ixp1] at bo
          have body : ∀ (c60 : tp p = 60 ∨ tp p = 62), ((f_Md_byteOf m (ix p + 1) h).bind fun r41 => if r41 = 61 then ((gR h m 12 6).bind fun v34 => if (1 : Int32) = 0 then ((paI h v34 (ix i) 1).bind fun h15 => if (1 : Int32) = 0 then (if tp p = (-1) then (some (900, h15)) else (some (901, h15))) else (if tp p = 60 then (some (800, h15)) else (some (801, h15)))) else ((paI h v34 (ix i) 2).bind fun h15 => if (1 : Int32) = 0 then (if tp p = (-1) then (some (900, h15)) else (some (901, h15))) else (if tp p = 60 then (some (800, h15)) else (some (801, h15))))) else ((gR h m 12 6).bind fun v34 => (paI h v34 (ix i) 1).bind fun h15 => (if tp p = (-1) then (some (900, h15)) else (if tp p = 40 then some (32 + tp p, h15) else if tp p = 41 then some (32 + tp p, h15) else if tp p = 91 then some (32 + tp p, h15) else if tp p = 93 then some (32 + tp p, h15) else if tp p = 59 then some (32 + tp p, h15) else if tp p = 44 then some (32 + tp p, h15) else if tp p = 43 then some (32 + tp p, h15) else if tp p = 45 then some (32 + tp p, h15) else if tp p = 42 then some (32 + tp p, h15) else if tp p = 47 then some (32 + tp p, h15) else if tp p = 37 then some (32 + tp p, h15) else if tp p = 60 then some (32 + tp p, h15) else if tp p = 62 then some (32 + tp p, h15) else if tp p = 61 then some (32 + tp p, h15) else some (901, h15))))) = some (mdK (tp p) (lgB (tp p) (eqAt tn tp p)), wr h (m + 4) (aI 401 (upd gm i (if lgB (tp p) (eqAt tn tp p) = true then 2 else 1)))) := by
            intro c60
            refine bnd bo ?_
            have l60 : lgB (tp p) (eqAt tn tp p) = eqAt tn tp p := by
              unfold lgB
              rcases c60 with q | q <;> rw [q] <;> rfl
            by_cases q : eqAt tn tp p = true
            · exact ite_p (be.mpr q) (long (by rw [l60]; exact q))
            · exact ite_n (fun x => q (be.mp x)) (short (by rw [l60]; simpa using q) _ rfl)
          by_cases c60 : tp p = 60
          · refine ite_p c60 ?_
            exact body (Or.inl c60)
          · refine ite_n c60 ?_
            by_cases c62 : tp p = 62
            · refine ite_p c62 ?_
              exact body (Or.inr c62)
            · refine ite_n c62 ?_
              refine short (by unfold lgB; rw [decide_eq_false c60, decide_eq_false c62]; rfl) _ rfl
        · dsimp only at q ⊢
          rw [← mk2 q]
          split <;> rfl
end
