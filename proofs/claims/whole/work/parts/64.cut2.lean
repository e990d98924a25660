/-! The Model's tokens. -/
def md_ar (h : hp_M) (m : Nat) (L : List tokV) (R M : Nat → Nat) : Prop := ∃ gk gf gm gr gt, h.1 (m + 2) = some (aI 401 gk) ∧ h.1 (m + 3) = some (aI 401 gf) ∧ h.1 (m + 4) = some (aI 401 gm) ∧ h.1 (m + 5) = some (aI 401 gr) ∧ h.1 (m + 6) = some (aI 401 gt) ∧
  ∀ i, i < L.length → gk i = ix (mkT (tkn L i).1) ∧ gf i = ix (tkn L i).2.1 ∧ (2 ≤ (tkn L i).1 → gm i = ix (tkn L i).2.2) ∧ gr i = ix (R i) ∧ gt i = ix (M i)
theorem is_Mo.keep2 {h h' : hp_M} {m tn : Nat} {tp : Nat → Int32} {th ea tk dp : Int32} {t rd lo hi : Nat} (o : is_Mo h m th tn tp ea tk dp t rd) (r : fr lo hi h h') (ho : m + 2 ≤ lo ∨ hi ≤ m) : is_Mo h' m th tn tp ea tk dp t rd := by
  obtain ⟨h1, h2, h3, g, h4, h5⟩ := o
  exact ⟨Nat.le_trans h1 r.1, h2, r.cell h3 (by omega) (by omega), g, r.cell h4 (by omega) (by omega), h5⟩
section
variable {m tn : Nat} {tp : Nat → Int32} {th ea tk dp : Int32} {t rd : Nat}
theorem cut_skip {h : hp_M} (w : hp_W) (o : is_Mo h m th tn tp ea tk dp t rd) (fl : Nat) (x2 : Int32) (K : Int32 → Option hp_M) : ∀ r fu p, p + r = tn → r < fu → f_Md_cutIntoTokens_b11 w fl m x2 h K fu (ix p) = K (ix (skp tn tp r p)) := by
  have t2 := o.tn2
  intro r
  induction r with
  | zero =>
    intro fu p hp hf
    obtain ⟨fu, rfl⟩ : ∃ q, fu = q + 1 := ⟨fu - 1, by omega⟩
    have e : byt tn tp p = -1 := by unfold byt; rw [if_neg (by omega)]
    unfold f_Md_cutIntoTokens_b11 skp jn; dsimp only
    simp only [o.on, byteOf_of o (show p ≤ 3000 by omega), e, Option.bind_some]
    rfl
  | succ r ih =>
    intro fu p hp hf
    obtain ⟨fu, rfl⟩ : ∃ q, fu = q + 1 := ⟨fu - 1, by omega⟩
    have nx := ih fu (p + 1) (by omega) (by omega)
    have e : byt tn tp p = tp p := by unfold byt; rw [if_pos (by omega)]
    unfold f_Md_cutIntoTokens_b11 skp jn; dsimp only
    simp only [o.on, byteOf_of o (show p ≤ 3000 by omega), e, ixp1, Option.bind_some]
    by_cases c1 : tp p = 32
    · rw [if_pos c1, if_pos (Or.inl c1)]; exact nx
    · rw [if_neg c1]
      by_cases c2 : tp p = 10
      · rw [if_pos c2, if_pos (Or.inr c2)]; exact nx
      · rw [if_neg c2, if_neg (fun q => q.elim c1 c2)]
theorem cut_b {w : hp_W} (ow : okW w) (ot : okT tn tp) {fl : Nat} (hfl : 5000 ≤ fl) : ∀ (r i fu p : Nat) (h : hp_M) (L : List tokV), L.length = i → i + r = 401 → r + 1 < fu → p ≤ tn → is_Mo h m th tn tp ea tk dp t rd → md_ar h m L (fun _ => 0) (fun _ => 0) → ∃ h', f_Md_cutIntoTokens_b4 w fl m fu (ix p) (ix i) h = some h' ∧ is_Mo h' m th tn tp ea tk dp t rd ∧ md_ar h' m (L ++ scnV tn tp r p) (fun _ => 0) (fun _ => 0) ∧ fr (m + 2) (m + 7) h h' ∧ h'.2 = h.2 := by
  intro r
  induction r with
  | zero =>
    intro i fu p h L hL hi hf hp o a
    obtain ⟨fu, rfl⟩ : ∃ q, fu = q + 1 := ⟨fu - 1, by omega⟩
    refine ⟨h, ?_, o, ?_, fr.refl _ _ _, rfl⟩
    · unfold f_Md_cutIntoTokens_b4
      rw [if_pos (show (400 : Int32) < ix i from ix_lt1 (i := 400) (by omega) (by omega))]
    · rw [show L ++ scnV tn tp 0 p = L from List.append_nil L]; exact a
  | succ r ih =>
    intro i fu p h L hL hi hf hp o a
    obtain ⟨fu, rfl⟩ : ∃ q, fu = q + 1 := ⟨fu - 1, by omega⟩
    have t2 := o.tn2
    have hz := o.1
    have sle := skp_le tn tp (tn - p) p
    obtain ⟨s0, hs0⟩ : ∃ q, skp tn tp (tn - p) p = q := ⟨_, rfl⟩
    rw [hs0] at sle
    obtain ⟨k42, kle, k0, kl, kn, kd⟩ := tkV_lt ot s0
    obtain ⟨⟨k, l⟩, hkl⟩ : ∃ q, tkV tn tp s0 = q := ⟨_, rfl⟩
    rw [hkl] at k42 kle k0 kl kn kd
    dsimp only at k42 kle k0 kl kn kd
    obtain ⟨k', hk'⟩ : ∃ q, (if r = 0 ∧ k ≠ 0 then 1 else k) = q := ⟨_, rfl⟩
    have sc : scnV tn tp (r + 1) p = (k', s0, l) :: (if k' ≤ 1 then [] else scnV tn tp r (s0 + l)) := by
      show (if r = 0 ∧ (tkV tn tp (skp tn tp (tn - p) p)).1 ≠ 0 then 1 else (tkV tn tp (skp tn tp (tn - p) p)).1, skp tn tp (tn - p) p, (tkV tn tp (skp tn tp (tn - p) p)).2) :: _ = _
      rw [hs0, hkl]
      dsimp only
      rw [hk']
    have k'42 : k' < 42 := by rw [← hk']; split <;> omega
    have k'e : k' ≠ 1 → k' = k := fun q => by rw [← hk'] at q ⊢; split <;> simp_all
    have k'k : 2 ≤ k' → k' = k := fun q => k'e (by omega)
    have m9 := mkT_900 k' k'42
    have m9k := mkT_900 k k42
    obtain ⟨gk, gf, gm, gr, gt, a1, a2, a3, a4, a5, a6⟩ := a
    have w1 := paI_of (x := ix s0) a2 (show i < 401 by omega) (by omega)
    obtain ⟨H1, hH1⟩ : ∃ q, wr h (m + 3) (aI 401 (upd gf i (ix s0))) = q := ⟨_, rfl⟩
    rw [hH1] at w1
    have f1 : ∀ q, q ≠ m + 3 → H1.1 q = h.1 q := fun q hq => by rw [← hH1]; exact wr_ne _ _ hq
    have o1 : is_Mo H1 m th tn tp ea tk dp t rd := by rw [← hH1]; exact o.keep2 (wr_fr _ _ _) (by omega)
    have w2 := paI_of (x := 0) ((f1 _ (by omega)).trans a4) (show i < 401 by omega) (by omega)
    obtain ⟨H2, hH2⟩ : ∃ q, wr H1 (m + 5) (aI 401 (upd gr i 0)) = q := ⟨_, rfl⟩
    rw [hH2] at w2
    have f2 : ∀ q, q ≠ m + 5 → H2.1 q = H1.1 q := fun q hq => by rw [← hH2]; exact wr_ne _ _ hq
    have o2 : is_Mo H2 m th tn tp ea tk dp t rd := by rw [← hH2]; exact o1.keep2 (wr_fr _ _ _) (by omega)
    have w3 := paI_of (x := 0) ((f2 _ (by omega)).trans ((f1 _ (by omega)).trans a5)) (show i < 401 by omega) (by omega)
    obtain ⟨H3, hH3⟩ : ∃ q, wr H2 (m + 6) (aI 401 (upd gt i 0)) = q := ⟨_, rfl⟩
    rw [hH3] at w3
    have f3 : ∀ q, q ≠ m + 6 → H3.1 q = H2.1 q := fun q hq => by rw [← hH3]; exact wr_ne _ _ hq
    have o3 : is_Mo H3 m th tn tp ea tk dp t rd := by rw [← hH3]; exact o2.keep2 (wr_fr _ _ _) (by omega)
    have c3 : H3.1 (m + 4) = some (aI 401 gm) := (f3 _ (by omega)).trans ((f2 _ (by omega)).trans ((f1 _ (by omega)).trans a3))
    obtain ⟨ln, w4, hln⟩ := kindAt_of ow ot o3 c3 (show s0 ≤ tn by omega) (show i < 401 by omega) hfl
    rw [hkl] at w4 hln
    dsimp only at w4 hln
    obtain ⟨H4, hH4⟩ : ∃ q, wr H3 (m + 4) (aI 401 (upd gm i ln)) = q := ⟨_, rfl⟩
    rw [hH4] at w4
    have f4 : ∀ q, q ≠ m + 4 → H4.1 q = H3.1 q := fun q hq => by rw [← hH4]; exact wr_ne _ _ hq
    have o4 : is_Mo H4 m th tn tp ea tk dp t rd := by rw [← hH4]; exact o3.keep2 (wr_fr _ _ _) (by omega)
    have c4 : H4.1 (m + 2) = some (aI 401 gk) := (f4 _ (by omega)).trans ((f3 _ (by omega)).trans ((f2 _ (by omega)).trans ((f1 _ (by omega)).trans a1)))
    have w5 := fun x => paI_of (x := x) c4 (show i < 401 by omega) (by omega)
    have c5 : (wr H4 (m + 2) (aI 401 (upd gk i (ix (mkT k))))).1 (m + 2) = some (aI 401 (upd gk i (ix (mkT k)))) := wr_self _ _ _
    have o5 : is_Mo (wr H4 (m + 2) (aI 401 (upd gk i (ix (mkT k))))) m th tn tp ea tk dp t rd := o4.keep2 (wr_fr _ _ _) (by omega)
    have updu : ∀ (g : Nat → Int32) (x y : Int32), upd (upd g i x) i y = upd g i y := fun g x y => by
      funext q
      unfold upd
      split <;> rfl
    have w6 : paI (wr H4 (m + 2) (aI 401 (upd gk i (ix (mkT k))))) (m + 2) (ix i) 901 = some (wr H4 (m + 2) (aI 401 (upd gk i 901))) := by
      rw [paI_of c5 (by omega) (by omega), wr_wr, updu]
    obtain ⟨H6, hH6⟩ : ∃ q, wr H4 (m + 2) (aI 401 (upd gk i (ix (mkT k')))) = q := ⟨_, rfl⟩
    have f6 : ∀ q, q ≠ m + 2 → H6.1 q = H4.1 q := fun q hq => by rw [← hH6]; exact wr_ne _ _ hq
    have o6 : is_Mo H6 m th tn tp ea tk dp t rd := by rw [← hH6]; exact o4.keep2 (wr_fr _ _ _) (by omega)
    have c6 : H6.1 (m + 2) = some (aI 401 (upd gk i (ix (mkT k')))) := by rw [← hH6]; exact wr_self _ _ _
    have z6 : H6.2 = h.2 := by rw [← hH6, wr_2, ← hH4, wr_2, ← hH3, wr_2, ← hH2, wr_2, ← hH1, wr_2]
    have fr6 : fr (m + 2) (m + 7) h H6 := ⟨by rw [z6]; exact Nat.le_refl _, fun q hq hl => by rw [f6 q (by omega), f4 q (by omega), f3 q (by omega), f2 q (by omega), f1 q (by omega)]⟩
    have c64 : H6.1 (m + 4) = some (aI 401 (upd gm i ln)) := by rw [f6 _ (by omega), ← hH4]; exact wr_self _ _ _
    have ar6 : md_ar H6 m (L ++ [(k', s0, l)]) (fun _ => 0) (fun _ => 0) := by
      refine ⟨upd gk i (ix (mkT k')), upd gf i (ix s0), upd gm i ln, upd gr i 0, upd gt i 0, c6, ?_, c64, ?_, ?_, fun j hj => ?_⟩
      · rw [f6 _ (by omega), f4 _ (by omega), f3 _ (by omega), f2 _ (by omega), ← hH1]; exact wr_self _ _ _
      · rw [f6 _ (by omega), f4 _ (by omega), f3 _ (by omega), ← hH2]; exact wr_self _ _ _
      · rw [f6 _ (by omega), f4 _ (by omega), ← hH3]; exact wr_self _ _ _
      · rw [List.length_append, List.length_singleton] at hj
        by_cases q : j = i
        · subst q
          rw [← hL, tkn_eq]
          dsimp only
          rw [upd_self, upd_self, upd_self, upd_self, upd_self]
          exact ⟨rfl, rfl, fun q => hln (by rw [← k'k q]; exact q), rfl, rfl⟩
        · obtain ⟨q1, q2, q3, q4, q5⟩ := a6 j (by omega)
          rw [tkn_lt _ _ (by omega), upd_ne _ _ q, upd_ne _ _ q, upd_ne _ _ q, upd_ne _ _ q, upd_ne _ _ q]
          exact ⟨q1, q2, q3, q4, q5⟩
    have g6 : gaI H6 (m + 2) (ix i) = some (ix (mkT k')) := by rw [gaI_of c6 (by omega) (by omega), upd_self]
    have g64 : gaI H6 (m + 4) (ix i) = some ln := by rw [gaI_of c64 (by omega) (by omega), upd_self]
    have tail : ∀ H, H = H6 → ((gR H m 12 4).bind fun v1018 => (gaI H v1018 (ix i)).bind fun v1019 => if v1019 < 900 then ((gR H m 12 6).bind fun v1021 => (gaI H v1021 (ix i)).bind fun v1022 => f_Md_cutIntoTokens_b4 w fl m fu (ix s0 + v1022) (ix i + 1) H) else (some H)) = if k' ≤ 1 then some H6 else f_Md_cutIntoTokens_b4 w fl m fu (ix (s0 + l)) (ix (i + 1)) H6 := by
      intro H hH
      subst hH
      refine bnd o6.r4 ?_
      refine bnd g6 ?_
      by_cases q : k' ≤ 1
      · rw [if_pos q]
        exact ite_n (show ¬ ix (mkT k') < 900 from ix_nlt (n := 900) (by have := m9.1; omega) (by have := m9.2.2; omega)) rfl
      · rw [if_neg q]
        refine ite_p (show ix (mkT k') < 900 from ix_lt1 (n := 900) (m9.1.mpr (by omega)) (by omega)) ?_
        refine bnd o6.r6 ?_
        refine bnd g64 ?_
        rw [hln (by rw [← k'k (by omega)]; omega), ix_add, ixp1]
    have step : f_Md_cutIntoTokens_b4 w fl m (fu + 1) (ix p) (ix i) h = if k' ≤ 1 then some H6 else f_Md_cutIntoTokens_b4 w fl m fu (ix (s0 + l)) (ix (i + 1)) H6 := by
      have i400 : (ix i = 400) ↔ r = 0 := by
        rw [show (400 : Int32) = ix 400 from rfl, ix_inj (by omega) (by omega)]; omega
      conv => lhs; unfold f_Md_cutIntoTokens_b4
      refine ite_n (show ¬ (400 : Int32) < ix i from ix_nlt (n := i) (i := 400) (by omega) (by omega)) ?_
      rw [cut_skip w o fl (ix i) _ (tn - p) fl p (by omega) (by omega), hs0]
      refine jnE ?_
      refine bnd o.r5 ?_
      refine bnd w1 ?_
      refine bnd o1.r7 ?_
      refine bnd w2 ?_
      refine bnd o2.r8 ?_
      refine bnd w3 ?_
      refine bnd o3.r4 ?_
      refine bnd ((o3.on _).trans w4) ?_
      refine bnd (w5 (ix (mkT k))) ?_
      by_cases r0 : r = 0
      · refine ite_p (i400.mpr r0) ?_
        refine bnd o5.r4 ?_
        refine bnd (show gaI (wr H4 (m + 2) (aI 401 (upd gk i (ix (mkT k))))) (m + 2) (ix i) = some (ix (mkT k)) by rw [gaI_of c5 (by omega) (by omega), upd_self]) ?_
        by_cases q0 : k = 0
        · refine ite_p (by rw [q0]; rfl) ?_
          exact tail _ (by rw [← hH6, ← hk', if_neg (fun q => q.2 q0)])
        · refine ite_n (fun q => q0 ?_) ?_
          · have : mkT k = 900 := (ix_inj (by have := m9k.2.2; omega) (by omega)).mp (show ix (mkT k) = ix 900 from q)
            exact m9k.2.1.mp this
          · refine bnd o5.r4 ?_
            refine bnd w6 ?_
            exact tail _ (by rw [← hH6, ← hk', if_pos ⟨r0, q0⟩]; rfl)
      · refine ite_n (fun q => r0 (i400.mp q)) ?_
        exact tail _ (by rw [← hH6, ← hk', if_neg (fun q => r0 q.1)])
    rw [step, sc]
    by_cases q : k' ≤ 1
    · rw [if_pos q, if_pos q]
      exact ⟨H6, rfl, o6, ar6, fr6, z6⟩
    · rw [if_neg q, if_neg q]
      obtain ⟨h', x1, x2, x3, x4, x5⟩ := ih (i + 1) fu (s0 + l) H6 (L ++ [(k', s0, l)]) (by rw [List.length_append, List.length_singleton, hL]) (by omega) (by omega) (by have := k'k (by omega); have := kle (by omega); omega) o6 ar6
      rw [List.append_assoc] at x3
      exact ⟨h', x1, x2, x3, fr6.trans x4, by omega⟩
end
/-! What the tokens are like. -/
def tksV (tn : Nat) (tp : Nat → Int32) : List tokV := scnV tn tp 401 0
/-- the last token ends or is none; the others are tokens -/
def okK (L : List tokV) : Prop := 0 < L.length ∧ L.length ≤ 401 ∧ ∀ i, i < L.length → (tkn L i).1 < 42 ∧ (i + 1 < L.length ↔ 2 ≤ (tkn L i).1)
theorem tkn_0 (x : tokV) (L : List tokV) : tkn (x :: L) 0 = x := rfl
theorem tkn_s (x : tokV) (L : List tokV) (i : Nat) : tkn (x :: L) (i + 1) = tkn L i := by unfold tkn; simp
theorem scnV_ok {tn : Nat} {tp : Nat → Int32} (ot : okT tn tp) : ∀ r p, p ≤ tn → (0 < r → 0 < (scnV tn tp r p).length) ∧ (scnV tn tp r p).length ≤ r ∧ ∀ i, i < (scnV tn tp r p).length → ((tkn (scnV tn tp r p) i).1 < 42 ∧ (i + 1 < (scnV tn tp r p).length ↔ 2 ≤ (tkn (scnV tn tp r p) i).1)) ∧ (2 ≤ (tkn (scnV tn tp r p) i).1 → (tkn (scnV tn tp r p) i).2 = ((tkn (scnV tn tp r p) i).2.1, (tkV tn tp (tkn (scnV tn tp r p) i).2.1).2) ∧ (tkV tn tp (tkn (scnV tn tp r p) i).2.1).1 = (tkn (scnV tn tp r p) i).1) ∧ (tkn (scnV tn tp r p) i).2.1 ≤ tn := by
  intro r
  induction r with
  | zero =>
    intro p _
    exact ⟨fun q => by omega, Nat.le_refl _, fun i hi => by simp [scnV] at hi⟩
  | succ r ih =>
    intro p hp
    have sle := skp_le tn tp (tn - p) p
    obtain ⟨s0, hs0⟩ : ∃ q, skp tn tp (tn - p) p = q := ⟨_, rfl⟩
    rw [hs0] at sle
    obtain ⟨k42, kle, k0, kl, kn, kd⟩ := tkV_lt ot s0
    obtain ⟨k', hk'⟩ : ∃ q, (if r = 0 ∧ (tkV tn tp s0).1 ≠ 0 then 1 else (tkV tn tp s0).1) = q := ⟨_, rfl⟩
    have sc : scnV tn tp (r + 1) p = (k', s0, (tkV tn tp s0).2) :: (if k' ≤ 1 then [] else scnV tn tp r (s0 + (tkV tn tp s0).2)) := by
      show (if r = 0 ∧ (tkV tn tp (skp tn tp (tn - p) p)).1 ≠ 0 then 1 else (tkV tn tp (skp tn tp (tn - p) p)).1, skp tn tp (tn - p) p, (tkV tn tp (skp tn tp (tn - p) p)).2) :: _ = _
      rw [hs0, hk']
    have k'42 : k' < 42 := by rw [← hk']; split <;> omega
    have k'e : k' ≠ 1 → k' = (tkV tn tp s0).1 := fun q => by rw [← hk'] at q ⊢; split <;> simp_all
    obtain ⟨i1, i2, i3⟩ := ih (s0 + (tkV tn tp s0).2) (kle (by omega))
    rw [sc]
    by_cases q : k' ≤ 1
    · rw [if_pos q]
      refine ⟨fun _ => by simp, by simp, fun i hi => ?_⟩
      have : i = 0 := by simpa using hi
      subst this
      rw [tkn_0]
      dsimp only
      exact ⟨⟨k'42, by simp; omega⟩, fun q => by omega, by omega⟩
    · rw [if_neg q]
      refine ⟨fun _ => by simp, by simp; omega, fun i hi => ?_⟩
      cases i with
      | zero =>
        rw [tkn_0]
        dsimp only
        have rp : 0 < r := by
          apply Nat.pos_of_ne_zero
          intro r0
          apply q
          rw [← hk']
          split
          · omega
          · next hq =>
            apply Nat.le_of_not_lt
            intro h2
            exact hq ⟨r0, by omega⟩
        have := i1 rp
        refine ⟨⟨k'42, by simp; omega⟩, fun _ => ⟨rfl, (k'e (by omega)).symm⟩, by omega⟩
      | succ i =>
        rw [tkn_s]
        simp only [List.length_cons] at hi
        have := i3 i (by omega)
        refine ⟨⟨this.1.1, ?_⟩, this.2⟩
        rw [← this.1.2]
        simp
theorem tksV_ok {tn : Nat} {tp : Nat → Int32} (ot : okT tn tp) : okK (tksV tn tp) := by
  obtain ⟨h1, h2, h3⟩ := scnV_ok ot 401 0 (Nat.zero_le _)
  exact ⟨h1 (by omega), h2, fun i hi => (h3 i hi).1⟩
/-- names have up to 12 signs, numbers up to 6 -/
theorem tksV_in {tn : Nat} {tp : Nat → Int32} (ot : okT tn tp) {i : Nat} (hi : i < (tksV tn tp).length) (hk : 2 ≤ (tkn (tksV tn tp) i).1) : (tkn (tksV tn tp) i).2.1 + (tkn (tksV tn tp) i).2.2 ≤ tn ∧ 1 ≤ (tkn (tksV tn tp) i).2.2 ∧ ((tkn (tksV tn tp) i).1 = 2 → (tkn (tksV tn tp) i).2.2 ≤ 12 ∧ (tkn (tksV tn tp) i).2.2 = spn isWV tp (tn - (tkn (tksV tn tp) i).2.1) (tkn (tksV tn tp) i).2.1 - (tkn (tksV tn tp) i).2.1) ∧ ((tkn (tksV tn tp) i).1 = 3 → (tkn (tksV tn tp) i).2.2 ≤ 6 ∧ (tkn (tksV tn tp) i).2.2 = spn isDV tp (tn - (tkn (tksV tn tp) i).2.1) (tkn (tksV tn tp) i).2.1 - (tkn (tksV tn tp) i).2.1) := by
  obtain ⟨_, _, h3⟩ := scnV_ok ot 401 0 (Nat.zero_le _)
  obtain ⟨_, h4, h5⟩ := h3 i hi
  obtain ⟨h6, h7⟩ := h4 hk
  obtain ⟨k42, kle, k0, kl, kn, kd⟩ := tkV_lt ot (tkn (tksV tn tp) i).2.1
  have e : (tkn (tksV tn tp) i).2.2 = (tkV tn tp (tkn (tksV tn tp) i).2.1).2 := by
    have := congrArg Prod.snd h6
    exact this
  have e1 : (tkV tn tp (tkn (tksV tn tp) i).2.1).1 = (tkn (tksV tn tp) i).1 := h7
  rw [e]
  refine ⟨kle h5, kl (by omega), fun q => ⟨(kn (by omega)).1, ?_⟩, fun q => ⟨(kd (by omega)).1, ?_⟩⟩
  · have l := (kn (by omega)).2
    unfold tkV
    rw [if_neg (fun z => by have := k0.mpr z; omega), if_pos l]
  · obtain ⟨_, l, d⟩ := kd (by omega)
    unfold tkV
    rw [if_neg (fun z => by have := k0.mpr z; omega), if_neg (by rw [l]; decide), if_pos d]
