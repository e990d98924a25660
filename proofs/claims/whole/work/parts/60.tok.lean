/-! Tokens: signs, blanks, words, numbers; and the scanner of the class. -/
def isLV (b : Int32) : Bool := decide (97 ≤ b) && decide (b ≤ 122)
def isDV (b : Int32) : Bool := decide (48 ≤ b) && decide (b ≤ 57)
def isWV (b : Int32) : Bool := isLV b || isDV b
def codeV (b : Int32) : Int32 := if isLV b then b - 97 + 1 else b - 48 + 27
def bts (tp : Nat → Int32) : Nat → Nat → List Int32
  | _, 0 => []
  | p, l + 1 => tp p :: bts tp (p + 1) l
def skp (tn : Nat) (tp : Nat → Int32) : Nat → Nat → Nat
  | 0, p => p
  | r + 1, p => if tp p = 32 ∨ tp p = 10 then skp tn tp r (p + 1) else p
def spn (q : Int32 → Bool) (tp : Nat → Int32) : Nat → Nat → Nat
  | 0, p => p
  | r + 1, p => if q (tp p) = true then spn q tp r (p + 1) else p
def wcL (d : Int64) (l : List Int32) : Int64 := l.foldl (fun d b => d * 37 + (codeV b).toInt64) d
def nvL (d : Int32) (l : List Int32) : Int32 := l.foldl (fun d b => d * 10 + b - 48) d
theorem spn_le (q : Int32 → Bool) (tp : Nat → Int32) : ∀ r p, p ≤ spn q tp r p ∧ spn q tp r p ≤ p + r := by
  intro r
  induction r with
  | zero => intro p; exact ⟨Nat.le_refl _, Nat.le_refl _⟩
  | succ r ih =>
    intro p
    unfold spn
    split
    · have := ih (p + 1); omega
    · omega
theorem skp_le (tn : Nat) (tp : Nat → Int32) : ∀ r p, p ≤ skp tn tp r p ∧ skp tn tp r p ≤ p + r := by
  intro r
  induction r with
  | zero => intro p; exact ⟨Nat.le_refl _, Nat.le_refl _⟩
  | succ r ih =>
    intro p
    unfold skp
    split
    · have := ih (p + 1); omega
    · omega
theorem isL_of (b : Int32) (h : hp_M) : f_Sc_isLetter b h = some (if isLV b then 1 else 0) := by
  unfold f_Sc_isLetter jn isLV
  simp only [Bool.and_eq_true, decide_eq_true_eq, i32_lt, i32_le]
  (repeat' split) <;> first | rfl | (exfalso; omega)
theorem isD_of (b : Int32) (h : hp_M) : f_Sc_isDigit b h = some (if isDV b then 1 else 0) := by
  unfold f_Sc_isDigit jn isDV
  simp only [Bool.and_eq_true, decide_eq_true_eq, i32_lt, i32_le]
  (repeat' split) <;> first | rfl | (exfalso; omega)
theorem mL_of (b : Int32) (h : hp_M) : f_Md_isLetter b h = some (if isLV b then 1 else 0) := isL_of b h
theorem mD_of (b : Int32) (h : hp_M) : f_Md_isDigit b h = some (if isDV b then 1 else 0) := isD_of b h
theorem code_of (b : Int32) (h : hp_M) : f_Sc_codeOf b h = some (codeV b) := by
  unfold f_Sc_codeOf codeV
  rw [isL_of]
  simp only [Option.bind_some]
  by_cases q : isLV b = true
  · rw [if_pos q, if_neg (by decide), if_pos q]
  · rw [if_neg q, if_pos rfl, if_neg q]
theorem z10 : ¬ ((1 : Int32) = 0) := by decide
/-- the scanner's object -/
def scC (s tpA : Nat) (rw fr pl : Int32) (wd : Int64) (nb : Int32) : va_E := oC 6 [.ref tpA, .ref (s + 1), .ref (s + 2), .ref (s + 3), .ref (s + 4), .ref (s + 5), .int rw, .int fr, .int pl, .long wd, .int nb]
section
variable {h : hp_M} {s tpA tn : Nat} {tp : Nat → Int32} {rw fr pl : Int32} {wd : Int64} {nb : Int32}
theorem sc_r0 (c : h.1 s = some (scC s tpA rw fr pl wd nb)) : gR h s 6 0 = some tpA := gR_of c rfl
theorem sc_r1 (c : h.1 s = some (scC s tpA rw fr pl wd nb)) : gR h s 6 1 = some (s + 1) := gR_of c rfl
theorem sc_r2 (c : h.1 s = some (scC s tpA rw fr pl wd nb)) : gR h s 6 2 = some (s + 2) := gR_of c rfl
theorem sc_r3 (c : h.1 s = some (scC s tpA rw fr pl wd nb)) : gR h s 6 3 = some (s + 3) := gR_of c rfl
theorem sc_r4 (c : h.1 s = some (scC s tpA rw fr pl wd nb)) : gR h s 6 4 = some (s + 4) := gR_of c rfl
theorem sc_r5 (c : h.1 s = some (scC s tpA rw fr pl wd nb)) : gR h s 6 5 = some (s + 5) := gR_of c rfl
theorem sc_r6 (c : h.1 s = some (scC s tpA rw fr pl wd nb)) : gI h s 6 6 = some rw := gI_of c rfl
theorem sc_r7 (c : h.1 s = some (scC s tpA rw fr pl wd nb)) : gI h s 6 7 = some fr := gI_of c rfl
theorem sc_r8 (c : h.1 s = some (scC s tpA rw fr pl wd nb)) : gI h s 6 8 = some pl := gI_of c rfl
theorem sc_r9 (c : h.1 s = some (scC s tpA rw fr pl wd nb)) : gL h s 6 9 = some wd := gL_of c rfl
theorem sc_r10 (c : h.1 s = some (scC s tpA rw fr pl wd nb)) : gI h s 6 10 = some nb := gI_of c rfl
theorem sc_on {β : Type} (c : h.1 s = some (scC s tpA rw fr pl wd nb)) (g : Option β) : onO h s 6 g = g := onO_of c
theorem sc_p6 (c : h.1 s = some (scC s tpA rw fr pl wd nb)) (x : Int32) : pF h s 6 6 (.int x) = some (wr h s (scC s tpA x fr pl wd nb)) := pF_of c (by simp)
theorem sc_p7 (c : h.1 s = some (scC s tpA rw fr pl wd nb)) (x : Int32) : pF h s 6 7 (.int x) = some (wr h s (scC s tpA rw x pl wd nb)) := pF_of c (by simp)
theorem sc_p8 (c : h.1 s = some (scC s tpA rw fr pl wd nb)) (x : Int32) : pF h s 6 8 (.int x) = some (wr h s (scC s tpA rw fr x wd nb)) := pF_of c (by simp)
theorem sc_p9 (c : h.1 s = some (scC s tpA rw fr pl wd nb)) (x : Int64) : pF h s 6 9 (.long x) = some (wr h s (scC s tpA rw fr pl x nb)) := pF_of c (by simp)
theorem sc_p10 (c : h.1 s = some (scC s tpA rw fr pl wd nb)) (x : Int32) : pF h s 6 10 (.int x) = some (wr h s (scC s tpA rw fr pl wd x)) := pF_of c (by simp)
end
section
variable {s tpA tn : Nat} {tp : Nat → Int32} {rw fr : Int32}
theorem skip_b (hs : tpA + 2 ≤ s) (fl : Nat) (wd : Int64) (nb : Int32) : ∀ (r p fu : Nat) (h : hp_M), p + r = tn → r < fu → is_Tp h tpA tn tp → h.1 s = some (scC s tpA rw fr (ix p) wd nb) → f_Sc_skipBlanks_b0 fl s fu h = some (wr h s (scC s tpA rw fr (ix (skp tn tp r p)) wd nb)) := by
  intro r
  induction r with
  | zero =>
    intro p fu h hp hf t c
    obtain ⟨fu, rfl⟩ : ∃ q, fu = q + 1 := ⟨fu - 1, by omega⟩
    have t2 := t.2.1
    unfold f_Sc_skipBlanks_b0 skp
    simp only [sc_r8 c, sc_r0 c, t.on, t.size, Option.bind_some]
    rw [if_pos (ix_le1 (by omega) (by omega)), wr_id c]
  | succ r ih =>
    intro p fu h hp hf t c
    obtain ⟨fu, rfl⟩ : ∃ q, fu = q + 1 := ⟨fu - 1, by omega⟩
    have t2 := t.2.1
    have nx := ih (p + 1) fu (wr h s (scC s tpA rw fr (ix (p + 1)) wd nb)) (by omega) (by omega) (t.keep (wr_fr _ _ _) (by omega)) (wr_self _ _ _)
    rw [wr_wr] at nx
    unfold f_Sc_skipBlanks_b0 skp jn; dsimp only
    simp only [sc_r8 c, sc_r0 c, t.on, t.size, t.at (show p < tn by omega), ixp1, sc_p8 c, nx, Option.bind_some]
    rw [if_neg (ix_nle (by omega) (by omega))]
    by_cases c1 : tp p = 32
    · rw [if_pos c1, if_pos (Or.inl c1)]
    · rw [if_neg c1]
      by_cases c2 : tp p = 10
      · rw [if_pos c2, if_pos (Or.inr c2)]
      · rw [if_neg c2, if_neg (fun q => q.elim c1 c2), wr_id c]
theorem word_b (w : hp_W) (hs : tpA + 2 ≤ s) (fl : Nat) (nb x1 : Int32) (K : hp_M → Option (Nat × hp_M)) : ∀ (r p fu : Nat) (h : hp_M) (wd : Int64), p + r = tn → r < fu → is_Tp h tpA tn tp → h.1 s = some (scC s tpA rw fr (ix p) wd nb) → f_Sc_readWord_b5 w fl s x1 K fu h = K (wr h s (scC s tpA rw fr (ix (spn isWV tp r p)) (wcL wd (bts tp p (spn isWV tp r p - p))) nb)) := by
  intro r
  induction r with
  | zero =>
    intro p fu h wd hp hf t c
    obtain ⟨fu, rfl⟩ : ∃ q, fu = q + 1 := ⟨fu - 1, by omega⟩
    have t2 := t.2.1
    unfold f_Sc_readWord_b5 spn
    simp only [sc_r8 c, sc_r0 c, t.on, t.size, Option.bind_some]
    rw [if_pos (ix_le1 (by omega) (by omega)), Nat.sub_self]
    show K h = K (wr h s (scC s tpA rw fr (ix p) wd nb))
    rw [wr_id c]
  | succ r ih =>
    intro p fu h wd hp hf t c
    obtain ⟨fu, rfl⟩ : ∃ q, fu = q + 1 := ⟨fu - 1, by omega⟩
    have t2 := t.2.1
    have nx := ih (p + 1) fu (wr h s (scC s tpA rw fr (ix (p + 1)) (wd * 37 + (codeV (tp p)).toInt64) nb)) (wd * 37 + (codeV (tp p)).toInt64) (by omega) (by omega) (t.keep (wr_fr _ _ _) (by omega)) (wr_self _ _ _)
    rw [wr_wr] at nx
    have g8 : gI (wr h s (scC s tpA rw fr (ix p) (wd * 37 + (codeV (tp p)).toInt64) nb)) s 6 8 = some (ix p) := sc_r8 (wr_self _ _ _)
    have p8 : pF (wr h s (scC s tpA rw fr (ix p) (wd * 37 + (codeV (tp p)).toInt64) nb)) s 6 8 (.int (ix (p + 1))) = some (wr h s (scC s tpA rw fr (ix (p + 1)) (wd * 37 + (codeV (tp p)).toInt64) nb)) := by rw [sc_p8 (wr_self _ _ _), wr_wr]
    unfold f_Sc_readWord_b5 spn jn; dsimp only
    simp only [sc_r8 c, sc_r0 c, sc_r9 c, t.on, t.size, t.at (show p < tn by omega), ixp1, isL_of, isD_of, code_of, sc_p9 c, g8, p8, nx, Option.bind_some]
    rw [if_neg (ix_nle (by omega) (by omega))]
    have le := spn_le isWV tp r (p + 1)
    have eb : bts tp p (spn isWV tp r (p + 1) - p) = tp p :: bts tp (p + 1) (spn isWV tp r (p + 1) - (p + 1)) := by
      rw [show spn isWV tp r (p + 1) - p = (spn isWV tp r (p + 1) - (p + 1)) + 1 by omega]; rfl
    by_cases c1 : isLV (tp p) = true
    · have c3 : isWV (tp p) = true := by unfold isWV; rw [c1]; rfl
      rw [if_pos c1, if_neg z10, if_pos c3, eb]; rfl
    · rw [if_neg c1, if_pos rfl]
      by_cases c2 : isDV (tp p) = true
      · have c3 : isWV (tp p) = true := by unfold isWV; rw [c2, Bool.or_true]
        rw [if_pos c2, if_neg z10, if_pos c3, eb]; rfl
      · have c3 : ¬ isWV (tp p) = true := by
          unfold isWV
          rw [Bool.or_eq_true]
          exact fun q => q.elim c1 c2
        rw [if_neg c2, if_pos rfl, if_neg c3, Nat.sub_self]
        show K h = K (wr h s (scC s tpA rw fr (ix p) wd nb))
        rw [wr_id c]
theorem num_b (w : hp_W) (hs : tpA + 2 ≤ s) (fl : Nat) (wd : Int64) (x1 : Int32) (K : hp_M → Option (Nat × hp_M)) : ∀ (r p fu : Nat) (h : hp_M) (nb : Int32), p + r = tn → r < fu → is_Tp h tpA tn tp → h.1 s = some (scC s tpA rw fr (ix p) wd nb) → f_Sc_readNumber_b5 w fl s x1 K fu h = K (wr h s (scC s tpA rw fr (ix (spn isDV tp r p)) wd (nvL nb (bts tp p (spn isDV tp r p - p))))) := by
  intro r
  induction r with
  | zero =>
    intro p fu h nb hp hf t c
    obtain ⟨fu, rfl⟩ : ∃ q, fu = q + 1 := ⟨fu - 1, by omega⟩
    have t2 := t.2.1
    unfold f_Sc_readNumber_b5 spn
    simp only [sc_r8 c, sc_r0 c, t.on, t.size, Option.bind_some]
    rw [if_pos (ix_le1 (by omega) (by omega)), Nat.sub_self]
    show K h = K (wr h s (scC s tpA rw fr (ix p) wd nb))
    rw [wr_id c]
  | succ r ih =>
    intro p fu h nb hp hf t c
    obtain ⟨fu, rfl⟩ : ∃ q, fu = q + 1 := ⟨fu - 1, by omega⟩
    have t2 := t.2.1
    have nx := ih (p + 1) fu (wr h s (scC s tpA rw fr (ix (p + 1)) wd (nb * 10 + tp p - 48))) (nb * 10 + tp p - 48) (by omega) (by omega) (t.keep (wr_fr _ _ _) (by omega)) (wr_self _ _ _)
    rw [wr_wr] at nx
    have g8 : gI (wr h s (scC s tpA rw fr (ix p) wd (nb * 10 + tp p - 48))) s 6 8 = some (ix p) := sc_r8 (wr_self _ _ _)
    have p8 : pF (wr h s (scC s tpA rw fr (ix p) wd (nb * 10 + tp p - 48))) s 6 8 (.int (ix (p + 1))) = some (wr h s (scC s tpA rw fr (ix (p + 1)) wd (nb * 10 + tp p - 48))) := by rw [sc_p8 (wr_self _ _ _), wr_wr]
    unfold f_Sc_readNumber_b5 spn
    simp only [sc_r8 c, sc_r0 c, sc_r10 c, t.on, t.size, t.at (show p < tn by omega), ixp1, isD_of, sc_p10 c, g8, p8, nx, Option.bind_some]
    rw [if_neg (ix_nle (by omega) (by omega))]
    have le := spn_le isDV tp r (p + 1)
    have eb : bts tp p (spn isDV tp r (p + 1) - p) = tp p :: bts tp (p + 1) (spn isDV tp r (p + 1) - (p + 1)) := by
      rw [show spn isDV tp r (p + 1) - p = (spn isDV tp r (p + 1) - (p + 1)) + 1 by omega]; rfl
    by_cases c2 : isDV (tp p) = true
    · rw [if_pos c2, if_neg z10, if_pos c2, eb]; rfl
    · rw [if_neg c2, if_pos rfl, if_neg c2, Nat.sub_self]
      show K h = K (wr h s (scC s tpA rw fr (ix p) wd nb))
      rw [wr_id c]
end
/-! Texts. -/
theorem find_range {n : Nat} {p : Nat → Bool} {j : Nat} (hj : j < n) (h1 : p j = true) (h2 : ∀ i, i < n → p i = true → i = j) : (List.range n).find? p = some j := by
  cases q : (List.range n).find? p with
  | none =>
    rw [List.find?_eq_none] at q
    exact absurd h1 (q j (List.mem_range.mpr hj))
  | some x =>
    have a := List.find?_some q
    have b := List.mem_range.mp (List.mem_of_find?_eq_some q)
    rw [h2 x b a]
def okW (w : hp_W) : Prop := (∀ i j, i < 42 → j < 42 → w_kd w i = w_kd w j → i = j) ∧ ∀ i j, i < 39 → j < 39 → w_ka w i = w_ka w j → i = j
theorem kx_of {w : hp_W} (ow : okW w) {i : Nat} (hi : i < 42) : kx w (w_kd w i) = some i := by
  unfold kx
  exact find_range hi (by simp) (fun j hj q => ow.1 j i hj hi (by simpa using q))
theorem sx_of {w : hp_W} (ow : okW w) {i : Nat} (hi : i < 39) : sx w (w_ka w i) = some i := by
  unfold sx
  exact find_range hi (by simp) (fun j hj q => ow.2 j i hj hi (by simpa using q))
def txi (i : Nat) : Nat := kd_tx.getD i 0
def tln (j : Nat) : Nat := tx_len.getD j 0
def tby (j i : Nat) : Int32 := (tx_byt.getD j []).getD i 0
theorem txi_lt : ∀ i, i < 42 → txi i < 39 := by decide
theorem tln_le : ∀ j, j < 39 → tln j ≤ 8 := by decide
theorem kText_of {w : hp_W} (ow : okW w) {i : Nat} (hi : i < 42) : kText w (w_kd w i) = some (w_ka w (txi i)) := by
  unfold kText
  rw [kx_of ow hi]; rfl
theorem kStep_of {w : hp_W} (ow : okW w) {i : Nat} (hi : i < 42) : kStep w (w_kd w i) = some (kd_st.getD i 0) := by
  unfold kStep
  rw [kx_of ow hi]; rfl
theorem tLen_of {w : hp_W} (ow : okW w) {j : Nat} (hj : j < 39) : tLen w (w_ka w j) = some (ix (tln j)) := by
  unfold tLen
  rw [sx_of ow hj]; rfl
theorem tAt_of {w : hp_W} (ow : okW w) {j i : Nat} (hj : j < 39) (hi : i < tln j) : tAt w (w_ka w j) (ix i) = some (tby j i) := by
  have := tln_le j hj
  have hb : i < 2147483648 := by omega
  unfold tAt
  rw [sx_of ow hj]
  simp only [Option.bind_some, ix_clamp hb]
  rw [if_neg (fun q => q.elim (fun q => ix_nn hb q) (fun q => by unfold tln at hi; omega))]
  rfl
theorem kAll_of (w : hp_W) {i : Nat} (hi : i < 42) : kAll w (ix i) = some (w_kd w i) := by
  have hb : i < 2147483648 := by omega
  unfold kAll
  rw [ix_clamp hb, if_neg (fun q => q.elim (fun q => ix_nn hb q) (fun q => by omega))]
theorem kWord_of (w : hp_W) {i : Nat} (hi : i < 22) : kWord w (ix i) = some (w_ka w (i + 1)) := by
  have hb : i < 2147483648 := by omega
  unfold kWord
  rw [ix_clamp hb, if_neg (fun q => q.elim (fun q => ix_nn hb q) (fun q => by omega))]
  have e : ∀ i, i < 22 → wd_tx.getD i 0 = i + 1 := by decide
  rw [e i hi]
/-- the text j is written at p -/
def mtV (tp : Nat → Int32) (j p : Nat) : Bool := decide (∀ i, i < tln j → tp (p + i) = tby j i)
theorem mtV_iff {tp : Nat → Int32} {j p : Nat} : mtV tp j p = true ↔ ∀ i, i < tln j → tp (p + i) = tby j i := by unfold mtV; exact decide_eq_true_iff
theorem isAt_b {w : hp_W} (ow : okW w) {h : hp_M} {tpA tn : Nat} {tp : Nat → Int32} (t : is_Tp h tpA tn tp) {j p : Nat} (hj : j < 39) (hp : p + tln j ≤ tn) (fl : Nat) : ∀ r fu i, i + r = tln j → r < fu → (∀ k, k < i → tp (p + k) = tby j k) → f_Tp_isAt_b21 w fl tpA (ix p) (w_ka w j) h fu (ix i) = some (if mtV tp j p then 1 else 0) := by
  have t2 := t.2.1
  obtain ⟨h1, h2, h3, g, h4, h5⟩ := t
  intro r
  induction r with
  | zero =>
    intro fu i hi hf hk
    obtain ⟨fu, rfl⟩ : ∃ q, fu = q + 1 := ⟨fu - 1, by omega⟩
    unfold f_Tp_isAt_b21
    simp only [tLen_of ow hj, Option.bind_some]
    rw [if_pos (ix_le1 (by omega) (by omega)), if_pos (mtV_iff.mpr (fun k hk' => hk k (by omega)))]
  | succ r ih =>
    intro fu i hi hf hk
    obtain ⟨fu, rfl⟩ : ∃ q, fu = q + 1 := ⟨fu - 1, by omega⟩
    have ga : gaI h (tpA + 1) (ix (p + i)) = some (tp (p + i)) := by rw [gaI_of h4 (by omega) (by omega), h5 _ (by omega)]
    have e0 : gR h tpA 8 0 = some (tpA + 1) := gR_of h3 rfl
    unfold f_Tp_isAt_b21
    simp only [tLen_of ow hj, e0, ix_add, ga, tAt_of ow hj (show i < tln j by omega), ixp1, Option.bind_some]
    rw [if_neg (ix_nle (by omega) (by omega))]
    by_cases c : tp (p + i) = tby j i
    · rw [if_pos c]
      refine ih fu (i + 1) (by omega) (by omega) (fun k hk' => ?_)
      by_cases q : k = i
      · rw [q]; exact c
      · exact hk k (by omega)
    · rw [if_neg c, if_neg (fun q => c (mtV_iff.mp q i (by omega)))]
theorem isAt_of {w : hp_W} (ow : okW w) {h : hp_M} {tpA tn : Nat} {tp : Nat → Int32} (t : is_Tp h tpA tn tp) {j p : Nat} (hj : j < 39) (hp : p ≤ tn) {fl : Nat} (hfl : 5000 ≤ fl) : f_Tp_isAt w fl tpA (ix p) (w_ka w j) h = some (if p + tln j ≤ tn ∧ mtV tp j p = true then 1 else 0) := by
  have t2 := t.2.1
  have l8 := tln_le j hj
  unfold f_Tp_isAt
  have e0 : gI h tpA 8 1 = some (ix tn) := gI_of t.2.2.1 rfl
  rw [if_neg (ix_nn (by omega))]
  simp only [tLen_of ow hj, e0, ix_add, Option.bind_some]
  by_cases c : p + tln j ≤ tn
  · rw [if_pos (ix_le1 c (by omega)), show (0 : Int32) = ix 0 from rfl, isAt_b ow t hj c fl (tln j) fl 0 (by omega) (by omega) (fun k hk => by omega)]
    by_cases q : mtV tp j p = true
    · rw [if_pos q, if_pos ⟨c, q⟩]
    · rw [if_neg q, if_neg (fun w => q w.2)]; rfl
  · rw [if_neg (ix_nle (by omega) (by omega)), if_neg (fun w => c w.1)]
