/-! Kinds of words and symbols; a token; the class's scanning. -/
def okT (tn : Nat) (tp : Nat → Int32) : Prop := ∀ i, i < tn → ∃ b, b < 256 ∧ tp i = ix b
def fwV (tp : Nat → Int32) (p len : Nat) : Nat → Nat → Nat
  | 0, _ => 0
  | r + 1, j => if tln j = len ∧ mtV tp j p = true then j else fwV tp p len r (j + 1)
def kwV (tp : Nat → Int32) (p len : Nat) : Nat := if fwV tp p len 22 1 = 0 then 2 else fwV tp p len 22 1 + 3
def fkV (tp : Nat → Int32) (p len : Nat) : Nat → Nat → Nat
  | 0, _ => 2
  | r + 1, i => if tln (txi i) = len ∧ mtV tp (txi i) p = true then i else fkV tp p len r (i + 1)
theorem sym_nl : ∀ j, j < 39 → 23 ≤ j → 1 ≤ tln j ∧ isLV (tby j 0) = false := by decide +kernel
theorem txi_j : ∀ j, j < 39 → 1 ≤ j → txi (j + 3) = j := by decide +kernel
theorem fkV_sym {tp : Nat → Int32} {p len : Nat} (hl : isLV (tp p) = true) : ∀ r i, 26 ≤ i → i + r ≤ 42 → fkV tp p len r i = 2 := by
  intro r
  induction r with
  | zero => intro i _ _; rfl
  | succ r ih =>
    intro i h1 h2
    unfold fkV
    have e : txi i = i - 3 := by
      have := txi_j (i - 3) (by omega) (by omega)
      rw [show i - 3 + 3 = i by omega] at this
      exact this
    rw [if_neg (fun q => ?_)]
    · exact ih (i + 1) (by omega) (by omega)
    · obtain ⟨n1, n2⟩ := sym_nl (i - 3) (by omega) (by omega)
      have := mtV_iff.mp q.2 0 (by rw [e]; omega)
      rw [e, Nat.add_zero] at this
      rw [← this, hl] at n2
      cases n2
theorem fkV_kw {tp : Nat → Int32} {p len : Nat} (hl : isLV (tp p) = true) : ∀ r j, 1 ≤ j → j + r = 23 → fkV tp p len (r + 16) (j + 3) = if fwV tp p len r j = 0 then 2 else fwV tp p len r j + 3 := by
  intro r
  induction r with
  | zero =>
    intro j h1 h2
    unfold fwV
    rw [if_pos rfl]
    exact fkV_sym hl 16 (j + 3) (by omega) (by omega)
  | succ r ih =>
    intro j h1 h2
    have e := txi_j j (by omega) h1
    show (if tln (txi (j + 3)) = len ∧ mtV tp (txi (j + 3)) p = true then j + 3 else fkV tp p len (r + 16) (j + 3 + 1)) = _
    unfold fwV
    rw [e]
    split
    · rw [if_neg (by omega)]
    · exact ih (j + 1) (by omega) (by omega)
theorem fkV_all {tp : Nat → Int32} {p len : Nat} (hl : isLV (tp p) = true) (h1 : 1 ≤ len) : fkV tp p len 42 0 = kwV tp p len := by
  have z : ∀ r i, i < 4 → fkV tp p len (r + 1) i = fkV tp p len r (i + 1) := fun r i hi => by
    have e : ∀ i, i < 4 → tln (txi i) = 0 := by decide
    show (if tln (txi i) = len ∧ mtV tp (txi i) p = true then i else fkV tp p len r (i + 1)) = _
    rw [if_neg (fun q => by have := e i hi; omega)]
  rw [show (42 : Nat) = 38 + 1 + 1 + 1 + 1 from rfl, z _ 0 (by omega), z _ 1 (by omega), z _ 2 (by omega), z _ 3 (by omega)]
  exact fkV_kw hl 22 1 (by omega) (by omega)
theorem kwV_lt (tp : Nat → Int32) (p len : Nat) : 2 ≤ kwV tp p len ∧ kwV tp p len ≤ 25 ∧ kwV tp p len ≠ 3 := by
  have f : ∀ r j, j + r = 23 → fwV tp p len r j = 0 ∨ (j ≤ fwV tp p len r j ∧ fwV tp p len r j < 23) := by
    intro r
    induction r with
    | zero => intro j _; exact Or.inl rfl
    | succ r ih =>
      intro j hj
      unfold fwV
      split
      · exact Or.inr ⟨Nat.le_refl _, by omega⟩
      · rcases ih (j + 1) (by omega) with q | q
        · exact Or.inl q
        · exact Or.inr ⟨by omega, q.2⟩
  have := f 22 1 (by omega)
  unfold kwV
  split <;> omega
theorem ofWord_b {w : hp_W} (ow : okW w) {h : hp_M} {tpA tn : Nat} {tp : Nat → Int32} (t : is_Tp h tpA tn tp) {p len : Nat} (hp : p + len ≤ tn) {fl : Nat} (hfl : 5000 ≤ fl) : ∀ r fu i, i + r = 42 → r < fu → f_Kd_ofWord_b2 w fl tpA (ix p) (ix len) h fu (ix i) = some (w_kd w (fkV tp p len r i)) := by
  have t2 := t.2.1
  intro r
  induction r with
  | zero =>
    intro fu i hi hf
    obtain ⟨fu, rfl⟩ : ∃ q, fu = q + 1 := ⟨fu - 1, by omega⟩
    unfold f_Kd_ofWord_b2 fkV
    rw [show (42 : Int32) = ix 42 from rfl, if_pos (ix_le1 (by omega) (by omega))]
  | succ r ih =>
    intro fu i hi hf
    obtain ⟨fu, rfl⟩ : ∃ q, fu = q + 1 := ⟨fu - 1, by omega⟩
    have nx := ih fu (i + 1) (by omega) (by omega)
    have tl := txi_lt i (by omega)
    have l8 := tln_le (txi i) tl
    unfold f_Kd_ofWord_b2 fkV jn; dsimp only
    rw [show (42 : Int32) = ix 42 from rfl, if_neg (ix_nle (by omega) (by omega))]
    simp only [kAll_of w (show i < 42 by omega), kText_of ow (show i < 42 by omega), tLen_of ow tl, t.on, isAt_of ow t tl (show p ≤ tn by omega) hfl, ixp1, Option.bind_some]
    by_cases c : tln (txi i) = len
    · rw [if_pos (by rw [c])]
      by_cases d : mtV tp (txi i) p = true
      · have q : p + tln (txi i) ≤ tn ∧ mtV tp (txi i) p = true := ⟨by omega, d⟩
        rw [if_pos q, if_neg z10, if_pos ⟨c, d⟩]
      · have q : ¬ (p + tln (txi i) ≤ tn ∧ mtV tp (txi i) p = true) := fun q => d q.2
        rw [if_neg q, if_pos rfl, if_neg (fun q => d q.2)]; exact nx
    · rw [if_neg (fun q => c ((ix_inj (by omega) (by omega)).mp q)), if_neg (fun q => c q.1)]; exact nx
/-- symbols, by the sign and whether = follows -/
def isB (b : Int32) (cb : Bool) (j : Nat) : Bool := if tln j = 0 then true else if tby j 0 = b then (if tln j = 1 then true else cb) else false
def sfB (b : Int32) (cb : Bool) : Nat → Nat → Nat → Nat
  | 0, _, cu => cu
  | r + 1, i, cu => if tln (txi cu) < tln (txi i) ∧ isB b cb (txi i) = true then sfB b cb r (i + 1) i else sfB b cb r (i + 1) cu
def symV (b : Int32) (cb : Bool) : Nat := sfB b cb 42 0 1
theorem sfB_lt (b : Int32) (cb : Bool) : ∀ r i cu, i + r ≤ 42 → cu < 42 → sfB b cb r i cu < 42 := by
  intro r
  induction r with
  | zero => intro i cu _ h; exact h
  | succ r ih =>
    intro i cu h1 h2
    unfold sfB
    split
    · exact ih _ _ (by omega) (by omega)
    · exact ih _ _ (by omega) h2
theorem symV_lt (b : Int32) (cb : Bool) : symV b cb < 42 := sfB_lt b cb 42 0 1 (by omega) (by omega)
theorem kw_l0 : ∀ j, j < 23 → 1 ≤ j → isLV (tby j 0) = true := by decide +kernel
theorem sy_l2 : ∀ j, j < 39 → 23 ≤ j → tln j = 1 ∨ (tln j = 2 ∧ tby j 1 = 61) := by decide +kernel
def eqAt (tn : Nat) (tp : Nat → Int32) (p : Nat) : Bool := decide (p + 1 < tn) && decide (tp (p + 1) = 61)
theorem isB_of {tn : Nat} {tp : Nat → Int32} {p j : Nat} (hj : j < 39) (hp : p < tn) (hl : isLV (tp p) = false) : (p + tln j ≤ tn ∧ mtV tp j p = true) ↔ isB (tp p) (eqAt tn tp p) j = true := by
  unfold isB
  by_cases z : tln j = 0
  · rw [if_pos z]
    exact ⟨fun _ => rfl, fun _ => ⟨by omega, mtV_iff.mpr (fun i hi => by omega)⟩⟩
  · rw [if_neg z]
    by_cases c : tby j 0 = tp p
    · rw [if_pos c]
      have j23 : 23 ≤ j := by
        apply Nat.le_of_not_lt
        intro q
        have h0 : j ≠ 0 := fun q => z (by rw [q]; decide)
        have := kw_l0 j q (by omega)
        rw [c, hl] at this
        cases this
      rcases sy_l2 j hj j23 with l | ⟨l, l2⟩
      · rw [if_pos l]
        refine ⟨fun _ => rfl, fun _ => ⟨by omega, mtV_iff.mpr (fun i hi => ?_)⟩⟩
        have : i = 0 := by omega
        rw [this, Nat.add_zero]; exact c.symm
      · rw [if_neg (by omega)]
        unfold eqAt
        rw [Bool.and_eq_true, decide_eq_true_eq, decide_eq_true_eq]
        constructor
        · rintro ⟨q1, q2⟩
          exact ⟨by omega, (mtV_iff.mp q2 1 (by omega)).trans l2⟩
        · rintro ⟨q1, q2⟩
          refine ⟨by omega, mtV_iff.mpr (fun i hi => ?_)⟩
          have : i = 0 ∨ i = 1 := by omega
          rcases this with rfl | rfl
          · exact c.symm
          · rw [l2]; exact q2
    · rw [if_neg c]
      exact ⟨fun q => absurd (mtV_iff.mp q.2 0 (by omega)).symm c, fun q => by cases q⟩
theorem ofSym_b {w : hp_W} (ow : okW w) {h : hp_M} {tpA tn : Nat} {tp : Nat → Int32} (t : is_Tp h tpA tn tp) {p : Nat} (hp : p < tn) (hl : isLV (tp p) = false) {fl : Nat} (hfl : 5000 ≤ fl) : ∀ r fu i cu, i + r = 42 → r < fu → cu < 42 → f_Kd_ofSymbol_b6 w fl tpA (ix p) h fu (w_kd w cu) (ix i) = some (w_kd w (sfB (tp p) (eqAt tn tp p) r i cu)) := by
  have t2 := t.2.1
  intro r
  induction r with
  | zero =>
    intro fu i cu hi hf hc
    obtain ⟨fu, rfl⟩ : ∃ q, fu = q + 1 := ⟨fu - 1, by omega⟩
    unfold f_Kd_ofSymbol_b6 sfB
    rw [show (42 : Int32) = ix 42 from rfl, if_pos (ix_le1 (by omega) (by omega))]
  | succ r ih =>
    intro fu i cu hi hf hc
    obtain ⟨fu, rfl⟩ : ∃ q, fu = q + 1 := ⟨fu - 1, by omega⟩
    have n1 := ih fu (i + 1) cu (by omega) (by omega) hc
    have n2 := ih fu (i + 1) i (by omega) (by omega) (by omega)
    have tl := txi_lt i (by omega)
    have l8 := tln_le (txi i) tl
    have tc := txi_lt cu hc
    have c8 := tln_le (txi cu) tc
    unfold f_Kd_ofSymbol_b6 sfB jn; dsimp only
    rw [show (42 : Int32) = ix 42 from rfl, if_neg (ix_nle (by omega) (by omega))]
    simp only [kAll_of w (show i < 42 by omega), kText_of ow (show i < 42 by omega), kText_of ow hc, tLen_of ow tl, tLen_of ow tc, t.on, isAt_of ow t tl (show p ≤ tn by omega) hfl, ixp1, Option.bind_some]
    by_cases c : tln (txi cu) < tln (txi i)
    · rw [if_neg (ix_nle c (by omega))]
      by_cases d : isB (tp p) (eqAt tn tp p) (txi i) = true
      · rw [if_pos ((isB_of tl hp hl).mpr d), if_neg z10, if_pos ⟨c, d⟩]; exact n2
      · rw [if_neg (fun q => d ((isB_of tl hp hl).mp q)), if_pos rfl, if_neg (fun q => d q.2)]; exact n1
    · rw [if_pos (ix_le1 (by omega) (by omega)), if_neg (fun q => c q.1)]; exact n1
/-- the token at a place: its kind and length -/
def tkV (tn : Nat) (tp : Nat → Int32) (p : Nat) : Nat × Nat :=
  if tn ≤ p then (0, 0) else if isLV (tp p) = true then (if spn isWV tp (tn - p) p - p ≤ 12 then kwV tp p (spn isWV tp (tn - p) p - p) else 1, spn isWV tp (tn - p) p - p)
  else if isDV (tp p) = true then (if spn isDV tp (tn - p) p - p ≤ 6 then 3 else 1, spn isDV tp (tn - p) p - p)
  else (symV (tp p) (eqAt tn tp p), tln (txi (symV (tp p) (eqAt tn tp p))))
theorem sym_kind : ∀ b, b < 256 → ∀ cb : Bool, isLV (ix b) = false → isDV (ix b) = false → symV (ix b) cb = 1 ∨ 26 ≤ symV (ix b) cb := by decide +kernel
theorem sym_eq2 : ∀ b, b < 256 → ∀ cb : Bool, isLV (ix b) = false → tln (txi (symV (ix b) cb)) ≤ 1 ∨ (cb = true ∧ tln (txi (symV (ix b) cb)) = 2) := by decide +kernel
theorem sym_ln : ∀ b, b < 256 → ∀ cb : Bool, symV (ix b) cb ≠ 1 → isLV (ix b) = false → isDV (ix b) = false → 1 ≤ tln (txi (symV (ix b) cb)) := by decide +kernel
theorem tkV_lt {tn : Nat} {tp : Nat → Int32} (ot : okT tn tp) (p : Nat) : (tkV tn tp p).1 < 42 ∧ (p ≤ tn → p + (tkV tn tp p).2 ≤ tn) ∧ ((tkV tn tp p).1 = 0 ↔ tn ≤ p) ∧ (2 ≤ (tkV tn tp p).1 → 1 ≤ (tkV tn tp p).2) ∧ ((tkV tn tp p).1 = 2 → (tkV tn tp p).2 ≤ 12 ∧ isLV (tp p) = true) ∧ ((tkV tn tp p).1 = 3 → (tkV tn tp p).2 ≤ 6 ∧ isLV (tp p) = false ∧ isDV (tp p) = true) := by
  unfold tkV
  by_cases c : tn ≤ p
  · rw [if_pos c]
    exact ⟨by omega, fun _ => by omega, ⟨fun _ => c, fun _ => rfl⟩, fun q => by omega, fun q => by omega, fun q => by omega⟩
  · rw [if_neg c]
    obtain ⟨b, hb, eb⟩ := ot p (by omega)
    by_cases c1 : isLV (tp p) = true
    · rw [if_pos c1]
      have le := spn_le isWV tp (tn - p) p
      have k := kwV_lt tp p (spn isWV tp (tn - p) p - p)
      have l1 : 1 ≤ spn isWV tp (tn - p) p - p := by
        obtain ⟨r, hr⟩ : ∃ r, tn - p = r + 1 := ⟨tn - p - 1, by omega⟩
        have := spn_le isWV tp r (p + 1)
        rw [hr]
        unfold spn
        rw [if_pos (show isWV (tp p) = true by unfold isWV; rw [c1]; rfl)]
        omega
      dsimp only
      refine ⟨?_, fun _ => by omega, ⟨fun q => ?_, fun q => absurd q c⟩, fun _ => l1, fun q => ⟨?_, c1⟩, fun q => ?_⟩
      · split <;> omega
      · split at q <;> omega
      · split at q <;> omega
      · split at q <;> omega
    · rw [if_neg c1]
      have c1' : isLV (tp p) = false := by simpa using c1
      by_cases c2 : isDV (tp p) = true
      · rw [if_pos c2]
        have le := spn_le isDV tp (tn - p) p
        have l1 : 1 ≤ spn isDV tp (tn - p) p - p := by
          obtain ⟨r, hr⟩ : ∃ r, tn - p = r + 1 := ⟨tn - p - 1, by omega⟩
          have := spn_le isDV tp r (p + 1)
          rw [hr]
          unfold spn
          rw [if_pos c2]
          omega
        dsimp only
        refine ⟨?_, fun _ => by omega, ⟨fun q => ?_, fun q => absurd q c⟩, fun _ => l1, fun q => ?_, fun q => ⟨?_, c1', c2⟩⟩
        · split <;> omega
        · split at q <;> omega
        · split at q <;> omega
        · split at q <;> omega
      · rw [if_neg c2]
        have c2' : isDV (tp p) = false := by simpa using c2
        dsimp only
        have hk := sym_kind b hb (eqAt tn tp p) (by rw [← eb]; exact c1') (by rw [← eb]; exact c2')
        have h2 := sym_eq2 b hb (eqAt tn tp p) (by rw [← eb]; exact c1')
        have hl := sym_ln b hb (eqAt tn tp p)
        rw [← eb] at hk h2 hl
        refine ⟨symV_lt _ _, fun hp => ?_, ⟨fun q => by omega, fun q => absurd q c⟩, fun q => hl (by omega) c1' c2', fun q => by omega, fun q => by omega⟩
        rcases h2 with q | ⟨q1, q2⟩
        · omega
        · unfold eqAt at q1
          rw [Bool.and_eq_true, decide_eq_true_eq] at q1
          omega
