/-! The class reads a token, and all tokens. -/
theorem bnd {α β : Type} {x : Option α} {f : α → Option β} {v : α} {y : Option β} (e : x = some v) (g : f v = y) : x.bind f = y := by rw [e]; exact g
theorem ite_n {β : Type} {c : Prop} {d : Decidable c} {a b y : β} (hc : ¬ c) (g : b = y) : @ite β c d a b = y := by rw [if_neg hc]; exact g
theorem ite_p {β : Type} {c : Prop} {d : Decidable c} {a b y : β} (hc : c) (g : a = y) : @ite β c d a b = y := by rw [if_pos hc]; exact g
theorem jnE {β γ : Type} {B : β} {M : β → γ} {y : γ} (g : M B = y) : jn B M = y := g
section
variable {s tpA tn : Nat} {tp : Nat → Int32} {rw fr : Int32}
theorem readToken_of {w : hp_W} (ow : okW w) (ot : okT tn tp) (hs : tpA + 2 ≤ s) {fl : Nat} (hfl : 5000 ≤ fl) {h : hp_M} {p : Nat} {wd0 : Int64} {nb0 : Int32} (hp : p ≤ tn) (t : is_Tp h tpA tn tp) (c : h.1 s = some (scC s tpA rw fr (ix p) wd0 nb0)) : ∃ wd nb, f_Sc_readToken w fl s h = some (w_kd w (tkV tn tp p).1, wr h s (scC s tpA rw fr (ix (p + (tkV tn tp p).2)) wd nb)) ∧ ((tkV tn tp p).1 = 2 → wd = wcL 0 (bts tp p (tkV tn tp p).2)) ∧ ((tkV tn tp p).1 = 3 → nb = nvL 0 (bts tp p (tkV tn tp p).2)) := by
  have t2 := t.2.1
  have c1 : (wr h s (scC s tpA rw fr (ix p) 0 nb0)).1 s = some (scC s tpA rw fr (ix p) 0 nb0) := wr_self _ _ _
  have e1 := sc_p9 c 0
  have e2 : pF (wr h s (scC s tpA rw fr (ix p) 0 nb0)) s 6 10 (.int 0) = some (wr h s (scC s tpA rw fr (ix p) 0 0)) := by rw [sc_p10 c1, wr_wr]
  have c2 : (wr h s (scC s tpA rw fr (ix p) 0 0)).1 s = some (scC s tpA rw fr (ix p) 0 0) := wr_self _ _ _
  have tt : is_Tp (wr h s (scC s tpA rw fr (ix p) 0 0)) tpA tn tp := t.keep (wr_fr _ _ _) (by omega)
  obtain ⟨k42, kle, k0, kl, kn, kd⟩ := tkV_lt ot p
  unfold f_Sc_readToken
  simp only [e1, e2, sc_r8 c2, sc_r0 c2, tt.on, tt.size, Option.bind_some]
  unfold tkV at kn kd ⊢
  by_cases d : tn ≤ p
  · rw [if_neg (ix_nlt d (by omega)), if_pos d]
    exact ⟨0, 0, rfl, (fun q => by cases q), (fun q => by cases q)⟩
  · rw [if_pos (ix_lt1 (by omega) (by omega)), if_neg d]
    rw [if_neg d] at kn kd
    simp only [tt.at (show p < tn by omega), isL_of, isD_of, Option.bind_some]
    by_cases d1 : isLV (tp p) = true
    · rw [if_pos d1, if_neg z10, if_pos d1]
      rw [if_pos d1] at kn kd
      have le := spn_le isWV tp (tn - p) p
      have wb := word_b (rw := rw) (fr := fr) w hs fl 0 (ix p) (fun (h2 : hp_M) => (gI h2 s 6 8).bind fun v3 => if (v3 - ix p) ≤ 12 then ((gR h2 s 6 0).bind fun v5 => (gI h2 s 6 8).bind fun v6 => (f_Kd_ofWord w fl v5 (ix p) (v6 - ix p) h2).bind fun r7 => some (r7, h2)) else (some ((w_kd w 1), h2))) (tn - p) p fl (wr h s (scC s tpA rw fr (ix p) 0 0)) 0 (by omega) (by omega) tt c2
      rw [wr_wr] at wb
      have c3 : (wr h s (scC s tpA rw fr (ix (spn isWV tp (tn - p) p)) (wcL 0 (bts tp p (spn isWV tp (tn - p) p - p))) 0)).1 s = some _ := wr_self _ _ _
      have tt3 : is_Tp (wr h s (scC s tpA rw fr (ix (spn isWV tp (tn - p) p)) (wcL 0 (bts tp p (spn isWV tp (tn - p) p - p))) 0)) tpA tn tp := t.keep (wr_fr _ _ _) (by omega)
      have l1 : 1 ≤ spn isWV tp (tn - p) p - p := by
        obtain ⟨r, hr⟩ : ∃ r, tn - p = r + 1 := ⟨tn - p - 1, by omega⟩
        have := spn_le isWV tp r (p + 1)
        rw [hr]
        unfold spn
        rw [if_pos (show isWV (tp p) = true by unfold isWV; rw [d1]; rfl)]
        omega
      refine ⟨wcL 0 (bts tp p (spn isWV tp (tn - p) p - p)), 0, ?_, fun _ => rfl, fun q => by have := (kd q).2.1; rw [d1] at this; cases this⟩
      dsimp only
      unfold f_Sc_readWord
      rw [sc_on c2]
      simp only [sc_r8 c2, Option.bind_some]
      rw [wb]
      simp only [sc_r8 c3, sc_r0 c3, ix_sub (show p ≤ spn isWV tp (tn - p) p by omega), Option.bind_some]
      rw [show (12 : Int32) = ix 12 from rfl, show p + (spn isWV tp (tn - p) p - p) = spn isWV tp (tn - p) p by omega]
      by_cases d2 : spn isWV tp (tn - p) p - p ≤ 12
      · rw [if_pos (ix_le1 d2 (by omega)), if_pos d2]
        unfold f_Kd_ofWord
        have ob := ofWord_b ow tt3 (show p + (spn isWV tp (tn - p) p - p) ≤ tn by omega) hfl 42 fl 0 (by omega) (by omega)
        rw [fkV_all d1 l1, show ix 0 = (0 : Int32) from rfl] at ob
        rw [ob]
        rfl
      · rw [if_neg (ix_nle (by omega) (by omega)), if_neg d2]
        rfl
    · rw [if_neg d1, if_pos rfl, if_neg d1]
      rw [if_neg d1] at kn kd
      have d1' : isLV (tp p) = false := by simpa using d1
      by_cases d2 : isDV (tp p) = true
      · rw [if_pos d2, if_neg z10, if_pos d2]
        rw [if_pos d2] at kn kd
        have le := spn_le isDV tp (tn - p) p
        have wb := num_b (rw := rw) (fr := fr) w hs fl 0 (ix p) (fun (h2 : hp_M) => (gI h2 s 6 8).bind fun v3 => if (v3 - ix p) ≤ 6 then (some ((w_kd w 3), h2)) else (some ((w_kd w 1), h2))) (tn - p) p fl (wr h s (scC s tpA rw fr (ix p) 0 0)) 0 (by omega) (by omega) tt c2
        rw [wr_wr] at wb
        have c3 : (wr h s (scC s tpA rw fr (ix (spn isDV tp (tn - p) p)) 0 (nvL 0 (bts tp p (spn isDV tp (tn - p) p - p))))).1 s = some _ := wr_self _ _ _
        refine ⟨0, nvL 0 (bts tp p (spn isDV tp (tn - p) p - p)), ?_, fun q => absurd (kn q).2 (by rw [d1']; decide), fun _ => rfl⟩
        dsimp only
        unfold f_Sc_readNumber
        rw [sc_on c2]
        simp only [sc_r8 c2, Option.bind_some]
        rw [wb]
        simp only [sc_r8 c3, ix_sub (show p ≤ spn isDV tp (tn - p) p by omega), Option.bind_some]
        rw [show (6 : Int32) = ix 6 from rfl, show p + (spn isDV tp (tn - p) p - p) = spn isDV tp (tn - p) p by omega]
        by_cases d3 : spn isDV tp (tn - p) p - p ≤ 6
        · rw [if_pos (ix_le1 d3 (by omega)), if_pos d3]; rfl
        · rw [if_neg (ix_nle (by omega) (by omega)), if_neg d3]; rfl
      · rw [if_neg d2, if_pos rfl, if_neg d2]
        rw [if_neg d2] at kn kd
        have sl := symV_lt (tp p) (eqAt tn tp p)
        refine ⟨0, 0, ?_, fun q => absurd (kn q).2 (by rw [d1']; decide), fun q => absurd (kd q).2.2 d2⟩
        dsimp only
        unfold f_Kd_ofSymbol f_Kd_length
        have os := ofSym_b ow tt (show p < tn by omega) d1' hfl 42 fl 0 1 (by omega) (by omega) (by omega)
        have os' : f_Kd_ofSymbol_b6 w fl tpA (ix p) (wr h s (scC s tpA rw fr (ix p) 0 0)) fl (w_kd w 1) 0 = some (w_kd w (symV (tp p) (eqAt tn tp p))) := os
        simp only [sc_r0 c2, sc_r8 c2, os', kText_of ow sl, tLen_of ow (txi_lt _ sl), ix_add, sc_p8 c2, wr_wr, Option.bind_some]
end
abbrev tokV : Type := Nat × Nat × Nat
def scnV (tn : Nat) (tp : Nat → Int32) : Nat → Nat → List tokV
  | 0, _ => []
  | r + 1, p => (if r = 0 ∧ (tkV tn tp (skp tn tp (tn - p) p)).1 ≠ 0 then 1 else (tkV tn tp (skp tn tp (tn - p) p)).1, skp tn tp (tn - p) p, (tkV tn tp (skp tn tp (tn - p) p)).2) :: (if (if r = 0 ∧ (tkV tn tp (skp tn tp (tn - p) p)).1 ≠ 0 then 1 else (tkV tn tp (skp tn tp (tn - p) p)).1) ≤ 1 then [] else scnV tn tp r (skp tn tp (tn - p) p + (tkV tn tp (skp tn tp (tn - p) p)).2))
def tkn (L : List tokV) (i : Nat) : tokV := L.getD i (1, 0, 0)
def sc_ar (w : hp_W) (h : hp_M) (s : Nat) (tp : Nat → Int32) (L : List tokV) : Prop := ∃ gk gs gl gw gn, h.1 (s + 1) = some (aR 2 401 gk) ∧ h.1 (s + 2) = some (aI 401 gs) ∧ h.1 (s + 3) = some (aI 401 gl) ∧ h.1 (s + 4) = some (aL 401 gw) ∧ h.1 (s + 5) = some (aI 401 gn) ∧
  ∀ i, i < L.length → gk i = some (w_kd w (tkn L i).1) ∧ gs i = ix (tkn L i).2.1 ∧ gl i = ix (tkn L i).2.2 ∧ ((tkn L i).1 = 2 → gw i = wcL 0 (bts tp (tkn L i).2.1 (tkn L i).2.2)) ∧ ((tkn L i).1 = 3 → gn i = nvL 0 (bts tp (tkn L i).2.1 (tkn L i).2.2))
theorem tkn_lt (L : List tokV) (x : tokV) {i : Nat} (hi : i < L.length) : tkn (L ++ [x]) i = tkn L i := getD_snoc_lt L x _ hi
theorem tkn_eq (L : List tokV) (x : tokV) : tkn (L ++ [x]) L.length = x := getD_snoc_eq L x _
section
variable {s tpA tn : Nat} {tp : Nat → Int32}
theorem scan_b {w : hp_W} (ow : okW w) (ot : okT tn tp) (hs : tpA + 2 ≤ s) {fl : Nat} (hfl : 5000 ≤ fl) : ∀ (r i fu p : Nat) (h : hp_M) (L : List tokV) (wd : Int64) (nb : Int32), L.length = i → i + r = 401 → r + 1 < fu → p ≤ tn → s + 6 ≤ h.2 → is_Tp h tpA tn tp → h.1 s = some (scC s tpA (ix i) 0 (ix p) wd nb) → sc_ar w h s tp L → ∃ h' pl' wd' nb', f_Sc_scan_b17 w fl s fu 1 h = some h' ∧ h'.1 s = some (scC s tpA (ix (L ++ scnV tn tp r p).length) 0 pl' wd' nb') ∧ sc_ar w h' s tp (L ++ scnV tn tp r p) ∧ fr s (s + 6) h h' ∧ h'.2 = h.2 := by
  intro r
  induction r with
  | zero =>
    intro i fu p h L wd nb hL hi hf hp hz t c a
    obtain ⟨fu, rfl⟩ : ∃ q, fu = q + 1 := ⟨fu - 1, by omega⟩
    refine ⟨h, ix p, wd, nb, ?_, ?_, ?_, fr.refl _ _ _, rfl⟩
    · unfold f_Sc_scan_b17
      simp only [sc_r6 c, Option.bind_some]
      rw [if_pos (show (401 : Int32) ≤ ix i from ix_le1 (i := 401) (by omega) (by omega))]
    · rw [show L ++ scnV tn tp 0 p = L from List.append_nil L, hL]; exact c
    · rw [show L ++ scnV tn tp 0 p = L from List.append_nil L]; exact a
  | succ r ih =>
    intro i fu p h L wd nb hL hi hf hp hz t c a
    obtain ⟨fu, rfl⟩ : ∃ q, fu = q + 1 := ⟨fu - 1, by omega⟩
    have t2 := t.2.1
    have sle := skp_le tn tp (tn - p) p
    obtain ⟨s0, hs0⟩ : ∃ q, skp tn tp (tn - p) p = q := ⟨_, rfl⟩
    have e1 := skip_b (rw := ix i) (fr := 0) hs fl wd nb (tn - p) p fl h (by omega) (by omega) t c
    rw [hs0] at e1 sle
    have t1 : is_Tp (wr h s (scC s tpA (ix i) 0 (ix s0) wd nb)) tpA tn tp := t.keep (wr_fr _ _ _) (by omega)
    have c1 : (wr h s (scC s tpA (ix i) 0 (ix s0) wd nb)).1 s = some (scC s tpA (ix i) 0 (ix s0) wd nb) := wr_self _ _ _
    obtain ⟨wd2, nb2, e2, ew, en⟩ := readToken_of ow ot hs hfl (show s0 ≤ tn by omega) t1 c1
    rw [wr_wr] at e2
    obtain ⟨k42, kle, k0, kl, kn, kd⟩ := tkV_lt ot s0
    obtain ⟨⟨k, l⟩, hkl⟩ : ∃ q, tkV tn tp s0 = q := ⟨_, rfl⟩
    rw [hkl] at e2 ew en k42 kle k0 kl kn kd
    dsimp only at e2 ew en k42 kle k0 kl kn kd
    obtain ⟨k', hk'⟩ : ∃ q, (if r = 0 ∧ k ≠ 0 then 1 else k) = q := ⟨_, rfl⟩
    have sc : scnV tn tp (r + 1) p = (k', s0, l) :: (if k' ≤ 1 then [] else scnV tn tp r (s0 + l)) := by
      show (if r = 0 ∧ (tkV tn tp (skp tn tp (tn - p) p)).1 ≠ 0 then 1 else (tkV tn tp (skp tn tp (tn - p) p)).1, skp tn tp (tn - p) p, (tkV tn tp (skp tn tp (tn - p) p)).2) :: _ = _
      rw [hs0, hkl]
      dsimp only
      rw [hk']
    have k'42 : k' < 42 := by rw [← hk']; split <;> omega
    have k'e : k' ≠ 1 → k' = k := fun q => by rw [← hk'] at q ⊢; split <;> simp_all
    have k'k : 2 ≤ k' → k' = k := fun q => k'e (by omega)
    have H2 := wr_fr h s (scC s tpA (ix i) 0 (ix (s0 + l)) wd2 nb2)
    obtain ⟨gk, gs, gl, gw, gn, a1, a2, a3, a4, a5, a6⟩ := a
    -- the rows written
    have b1 : (wr h s (scC s tpA (ix i) 0 (ix (s0 + l)) wd2 nb2)).1 s = some (scC s tpA (ix i) 0 (ix (s0 + l)) wd2 nb2) := wr_self _ _ _
    have d1 : (wr h s (scC s tpA (ix i) 0 (ix (s0 + l)) wd2 nb2)).1 (s + 1) = some (aR 2 401 gk) := (wr_ne _ _ (by omega)).trans a1
    have d2 : (wr h s (scC s tpA (ix i) 0 (ix (s0 + l)) wd2 nb2)).1 (s + 2) = some (aI 401 gs) := (wr_ne _ _ (by omega)).trans a2
    have d3 : (wr h s (scC s tpA (ix i) 0 (ix (s0 + l)) wd2 nb2)).1 (s + 3) = some (aI 401 gl) := (wr_ne _ _ (by omega)).trans a3
    have d4 : (wr h s (scC s tpA (ix i) 0 (ix (s0 + l)) wd2 nb2)).1 (s + 4) = some (aL 401 gw) := (wr_ne _ _ (by omega)).trans a4
    have d5 : (wr h s (scC s tpA (ix i) 0 (ix (s0 + l)) wd2 nb2)).1 (s + 5) = some (aI 401 gn) := (wr_ne _ _ (by omega)).trans a5
    have z2 : (wr h s (scC s tpA (ix i) 0 (ix (s0 + l)) wd2 nb2)).2 = h.2 := rfl
    obtain ⟨H, hH⟩ : ∃ q, wr h s (scC s tpA (ix i) 0 (ix (s0 + l)) wd2 nb2) = q := ⟨_, rfl⟩
    rw [hH] at b1 d1 d2 d3 d4 d5 z2 H2 e2
    have w1 := paK_of d1 (show i < 401 by omega) (by omega) (kx_of ow k'42)
    obtain ⟨H1, hH1⟩ : ∃ q, wr H (s + 1) (aR 2 401 (va_up gk i (some (w_kd w k')))) = q := ⟨_, rfl⟩
    rw [hH1] at w1
    have f1 : ∀ q, q ≠ s + 1 → H1.1 q = H.1 q := fun q hq => by rw [← hH1]; exact wr_ne _ _ hq
    have w2 := paI_of (x := ix s0) ((f1 _ (by omega)).trans d2) (show i < 401 by omega) (by omega)
    obtain ⟨H3, hH3⟩ : ∃ q, wr H1 (s + 2) (aI 401 (upd gs i (ix s0))) = q := ⟨_, rfl⟩
    rw [hH3] at w2
    have f3 : ∀ q, q ≠ s + 2 → H3.1 q = H1.1 q := fun q hq => by rw [← hH3]; exact wr_ne _ _ hq
    have w3 := paI_of (x := ix l) ((f3 _ (by omega)).trans ((f1 _ (by omega)).trans d3)) (show i < 401 by omega) (by omega)
    obtain ⟨H4, hH4⟩ : ∃ q, wr H3 (s + 3) (aI 401 (upd gl i (ix l))) = q := ⟨_, rfl⟩
    rw [hH4] at w3
    have f4 : ∀ q, q ≠ s + 3 → H4.1 q = H3.1 q := fun q hq => by rw [← hH4]; exact wr_ne _ _ hq
    have w4 := paL_of (x := wd2) ((f4 _ (by omega)).trans ((f3 _ (by omega)).trans ((f1 _ (by omega)).trans d4))) (show i < 401 by omega) (by omega)
    obtain ⟨H5, hH5⟩ : ∃ q, wr H4 (s + 4) (aL 401 (vp_updL gw i wd2)) = q := ⟨_, rfl⟩
    rw [hH5] at w4
    have f5 : ∀ q, q ≠ s + 4 → H5.1 q = H4.1 q := fun q hq => by rw [← hH5]; exact wr_ne _ _ hq
    have w5 := paI_of (x := nb2) ((f5 _ (by omega)).trans ((f4 _ (by omega)).trans ((f3 _ (by omega)).trans ((f1 _ (by omega)).trans d5)))) (show i < 401 by omega) (by omega)
    obtain ⟨H6, hH6⟩ : ∃ q, wr H5 (s + 5) (aI 401 (upd gn i nb2)) = q := ⟨_, rfl⟩
    rw [hH6] at w5
    have f6 : ∀ q, q ≠ s + 5 → H6.1 q = H5.1 q := fun q hq => by rw [← hH6]; exact wr_ne _ _ hq
    have cs1 := (f1 s (by omega)).trans b1
    have cs3 := (f3 s (by omega)).trans cs1
    have cs4 := (f4 s (by omega)).trans cs3
    have cs5 := (f5 s (by omega)).trans cs4
    have cs6 := (f6 s (by omega)).trans cs5
    have w6 := sc_p6 cs6 (ix (i + 1))
    obtain ⟨H7, hH7⟩ : ∃ q, wr H6 s (scC s tpA (ix (i + 1)) 0 (ix (s0 + l)) wd2 nb2) = q := ⟨_, rfl⟩
    rw [hH7] at w6
    have f7 : ∀ q, q ≠ s → H7.1 q = H6.1 q := fun q hq => by rw [← hH7]; exact wr_ne _ _ hq
    have z7 : H7.2 = h.2 := by rw [← hH7, wr_2, ← hH6, wr_2, ← hH5, wr_2, ← hH4, wr_2, ← hH3, wr_2, ← hH1, wr_2, z2]
    have c7 : H7.1 s = some (scC s tpA (ix (i + 1)) 0 (ix (s0 + l)) wd2 nb2) := by rw [← hH7]; exact wr_self _ _ _
    have fr7 : Jvm.Pilot.CShadowSpellLaw_law_r9225_03f26d.fr s (s + 6) h H7 := ⟨by rw [z7]; exact Nat.le_refl _, fun q hq hl => by rw [f7 q (by omega), f6 q (by omega), f5 q (by omega), f4 q (by omega), f3 q (by omega), f1 q (by omega)]; exact H2.2 q (by omega) hl⟩
    have ar7 : sc_ar w H7 s tp (L ++ [(k', s0, l)]) := by
      refine ⟨va_up gk i (some (w_kd w k')), upd gs i (ix s0), upd gl i (ix l), vp_updL gw i wd2, upd gn i nb2, ?_, ?_, ?_, ?_, ?_, fun j hj => ?_⟩
      · rw [f7 _ (by omega), f6 _ (by omega), f5 _ (by omega), f4 _ (by omega), f3 _ (by omega), ← hH1]; exact wr_self _ _ _
      · rw [f7 _ (by omega), f6 _ (by omega), f5 _ (by omega), f4 _ (by omega), ← hH3]; exact wr_self _ _ _
      · rw [f7 _ (by omega), f6 _ (by omega), f5 _ (by omega), ← hH4]; exact wr_self _ _ _
      · rw [f7 _ (by omega), f6 _ (by omega), ← hH5]; exact wr_self _ _ _
      · rw [f7 _ (by omega), ← hH6]; exact wr_self _ _ _
      · rw [List.length_append, List.length_singleton] at hj
        by_cases q : j = i
        · subst q
          rw [← hL, tkn_eq]
          dsimp only
          rw [va_up_self, upd_self, upd_self, upd_self]
          refine ⟨rfl, rfl, rfl, fun q => ?_, fun q => ?_⟩
          · have hk : k = 2 := by rw [← k'k (by omega)]; exact q
            rw [← ew hk]
            unfold vp_updL; rw [if_pos rfl]
          · have hk : k = 3 := by rw [← k'k (by omega)]; exact q
            exact en hk
        · obtain ⟨q1, q2, q3, q4, q5⟩ := a6 j (by omega)
          rw [tkn_lt _ _ (by omega), va_up_ne _ _ q, upd_ne _ _ q, upd_ne _ _ q, upd_ne _ _ q]
          refine ⟨q1, q2, q3, fun x => ?_, q5⟩
          rw [← q4 x]
          unfold vp_updL; rw [if_neg q]
    have step : f_Sc_scan_b17 w fl s (fu + 1) 1 h = f_Sc_scan_b17 w fl s fu (if k' ≤ 1 then 0 else 1) H7 := by
      have i400 : (ix i = 400) ↔ r = 0 := by
        rw [show (400 : Int32) = ix 400 from rfl, ix_inj (by omega) (by omega)]; omega
      have kd0 : ∀ a b, a < 42 → b < 42 → (w_kd w a = w_kd w b ↔ a = b) := fun a b ha hb => ⟨ow.1 a b ha hb, fun q => by rw [q]⟩
      have esub : ix (s0 + l) - ix s0 = ix l := by rw [ix_sub (by omega), Nat.add_sub_cancel_left]
      have tail : ∀ kk, kk = k' → ((gR H s 6 1).bind fun v1065 => (gI H s 6 6).bind fun v1066 => (paK w H v1065 v1066 (w_kd w kk)).bind fun h1067 => (gR h1067 s 6 2).bind fun v1068 => (gI h1067 s 6 6).bind fun v1069 => (paI h1067 v1068 v1069 (ix s0)).bind fun h1070 => (gR h1070 s 6 3).bind fun v1071 => (gI h1070 s 6 6).bind fun v1072 => (gI h1070 s 6 8).bind fun v1073 => (paI h1070 v1071 v1072 (v1073 - (ix s0))).bind fun h1074 => (gR h1074 s 6 4).bind fun v1075 => (gI h1074 s 6 6).bind fun v1076 => (gL h1074 s 6 9).bind fun v1077 => (paL h1074 v1075 v1076 v1077).bind fun h1078 => (gR h1078 s 6 5).bind fun v1079 => (gI h1078 s 6 6).bind fun v1080 => (gI h1078 s 6 10).bind fun v1081 => (paI h1078 v1079 v1080 v1081).bind fun h1082 => if (w_kd w kk) = (w_kd w 0) then ((gI h1082 s 6 6).bind fun v1036 => (pF h1082 s 6 6 (.int (v1036 + 1))).bind fun h1037 => f_Sc_scan_b17 w fl s fu 0 h1037) else if (w_kd w kk) = (w_kd w 1) then ((gI h1082 s 6 6).bind fun v1036 => (pF h1082 s 6 6 (.int (v1036 + 1))).bind fun h1037 => f_Sc_scan_b17 w fl s fu 0 h1037) else ((gI h1082 s 6 6).bind fun v1036 => (pF h1082 s 6 6 (.int (v1036 + 1))).bind fun h1037 => f_Sc_scan_b17 w fl s fu 1 h1037)) = f_Sc_scan_b17 w fl s fu (if k' ≤ 1 then 0 else 1) H7 := by
        intro kk hkk
        subst hkk
        simp only [sc_r1 b1, sc_r6 b1, w1, sc_r2 cs1, sc_r6 cs1, w2, sc_r3 cs3, sc_r6 cs3, sc_r8 cs3, esub, w3, sc_r4 cs4, sc_r6 cs4, sc_r9 cs4, w4, sc_r5 cs5, sc_r6 cs5, sc_r10 cs5, w5, sc_r6 cs6, ixp1, w6, kd0 kk 0 k'42 (by omega), kd0 kk 1 k'42 (by omega), Option.bind_some]
        by_cases q0 : kk = 0
        · rw [if_pos q0, if_pos (by omega)]
        · rw [if_neg q0]
          by_cases q1 : kk = 1
          · rw [if_pos q1, if_pos (by omega)]
          · rw [if_neg q1, if_neg (by omega)]
      have e1' : f_Sc_skipBlanks fl s h = _ := e1
      conv => lhs; unfold f_Sc_scan_b17
      refine bnd (sc_r6 c) ?_
      refine ite_n (show ¬ (401 : Int32) ≤ ix i from ix_nle (n := i) (i := 401) (by omega) (by omega)) ?_
      refine ite_n z10 ?_
      refine jnE ?_
      refine bnd ((sc_on c _).trans e1') ?_
      refine bnd (sc_r8 c1) ?_
      refine bnd ((sc_on c1 _).trans e2) ?_
      refine bnd (sc_r6 b1) ?_
      by_cases r0 : r = 0
      · refine ite_p (i400.mpr r0) ?_
        by_cases q0 : k = 0
        · refine ite_p (by rw [q0]) ?_
          exact tail k (by rw [← hk', if_neg (fun q => q.2 q0)])
        · refine ite_n (fun q => q0 ((kd0 k 0 k42 (by omega)).mp q)) ?_
          exact tail 1 (by rw [← hk', if_pos ⟨r0, q0⟩])
      · refine ite_n (fun q => r0 (i400.mp q)) ?_
        exact tail k (by rw [← hk', if_neg (fun q => r0 q.1)])
    rw [step, sc]
    by_cases q : k' ≤ 1
    · rw [if_pos q, if_pos q]
      refine ⟨H7, ix (s0 + l), wd2, nb2, ?_, ?_, ar7, fr7, z7⟩
      · obtain ⟨fu, rfl⟩ : ∃ q, fu = q + 1 := ⟨fu - 1, by omega⟩
        unfold f_Sc_scan_b17
        simp only [sc_r6 c7, Option.bind_some]
        split
        · rfl
        · rfl
      · rw [List.length_append, hL]; exact c7
    · rw [if_neg q, if_neg q]
      have hr0 : r ≠ 0 := fun q0 => by
        apply q
        rw [← hk']
        split
        · omega
        · next hq =>
          apply Nat.le_of_not_lt
          intro h2
          exact hq ⟨q0, by omega⟩
      have kk := k'k (by omega)
      obtain ⟨h', pl', wd', nb', x1, x2, x3, x4, x5⟩ := ih (i + 1) fu (s0 + l) H7 (L ++ [(k', s0, l)]) wd2 nb2 (by rw [List.length_append, List.length_singleton, hL]) (by omega) (by omega) (kle (by omega)) (by omega) (t.keep fr7 (by omega)) c7 ar7
      rw [List.append_assoc] at x2 x3
      exact ⟨h', pl', wd', nb', x1, x2, x3, fr7.trans x4, by omega⟩
end
