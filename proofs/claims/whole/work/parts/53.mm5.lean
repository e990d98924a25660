/-! The Model: translate, feed. -/
section
variable {m t tn : Nat} {tp : Nat → Int32} {th ea : Int32} {n : Nat} {S : skyV} {nA : Nat} {A : Nat → List Int32} {Rs : List ruV}
theorem is_MM.setMo {h h' : hp_M} {tn' : Nat} {tp' : Nat → Int32} {th' ea' tk dp : Int32} {rd : Nat} (o : is_MM h m t tn tp th ea n S nA A Rs) (q : is_Mo h' m th' tn' tp' ea' tk dp t rd) (r : fr m (m + 2) h h') : is_MM h' m t tn' tp' th' ea' n S nA A Rs := by
  have ps := o.ps
  obtain ⟨o1, o2, _, o4, ⟨n', S', o5⟩, o6, o7⟩ := o
  refine ⟨Nat.le_trans o1 r.1, o2, ⟨tk, dp, rd, q⟩, o4.keep r (by omega), ⟨n', S', o5.keep r (by omega)⟩, o6.keep r (by omega), fun j a b => ?_⟩
  obtain ⟨g, hg⟩ := o7 j a b
  exact ⟨g, r.cell hg (by omega) (by omega)⟩
theorem Md_numberOf_b {h : hp_M} (o : is_MM h m t tn tp th ea n S nA A Rs) {u : Nat} (hu : u < nA) (fl : Nat) (x : Int32) : ∀ r fu i, i + r = (A u).length → r < fu → f_Md_numberOf_b2 fl m (ix u) x h fu (ix i) = some (noV x ((A u).drop i) i) := by
  have h12 := o.to.al12 hu
  intro r
  induction r with
  | zero =>
    intro fu i hi hf
    obtain ⟨fu, rfl⟩ : ∃ q, fu = q + 1 := ⟨fu - 1, by omega⟩
    unfold f_Md_numberOf_b2
    simp only [o.r11, o.to.r3, o.to.lets hu, Option.bind_some]
    rw [if_pos (ix_le1 (by omega) (by omega)), List.drop_eq_nil_of_le (by omega)]
    rfl
  | succ r ih =>
    intro fu i hi hf
    obtain ⟨fu, rfl⟩ : ∃ q, fu = q + 1 := ⟨fu - 1, by omega⟩
    unfold f_Md_numberOf_b2
    simp only [o.r11, o.to.r3, o.to.r4, o.to.lets hu, ix12, ix_add, ixp1, o.to.ltr hu (show i < (A u).length by omega), Option.bind_some]
    rw [if_neg (ix_nle (by omega) (by omega)), List.drop_eq_getElem_cons (show i < (A u).length by omega)]
    unfold noV
    have hg : (A u).getD i 0 = (A u)[i]'(by omega) := by simp [List.getD_eq_getElem?_getD, show i < (A u).length by omega]
    rw [hg]
    split
    · rfl
    · exact ih fu (i + 1) (by omega) (by omega)
theorem Md_numberOf {h : hp_M} (o : is_MM h m t tn tp th ea n S nA A Rs) {u : Nat} (hu : u < nA) {fl : Nat} (hfl : 5000 ≤ fl) (x : Int32) : f_Md_numberOf fl m (ix u) x h = some (noV x (A u) 0) := by
  have h12 := o.to.al12 hu
  unfold f_Md_numberOf
  have := Md_numberOf_b o hu fl x (A u).length fl 0 (by omega) (by omega)
  rw [List.drop_zero] at this
  exact this
def ppS (S : skyV) (f : Nat → Int32) : skyV := (S.1, S.2.1, S.2.2.1, f, S.2.2.2.2)
theorem Md_trans_b {u v : Nat} (hu : u < nA) (hv : v < nA) {fl : Nat} (hfl : 5000 ≤ fl) : ∀ (r k fu : Nat) (h : hp_M) (c : Int32) (f : Nat → Int32), k + r = S.2.2.1 → r < fu → is_MM h m t tn tp th ea n (ppS S f) nA A Rs → ∃ h', f_Md_translate_b32 fl m (ix u) (ix v) fu c (ix k) h = some ((excV (A u) (A v) r k c f).1, h') ∧ is_MM h' m t tn tp th ea n (ppS S (excV (A u) (A v) r k c f).2) nA A Rs ∧ fr m (m + 30) h h' ∧ h'.2 = h.2 := by
  intro r
  induction r with
  | zero =>
    intro k fu h c f hk hf o
    obtain ⟨fu, rfl⟩ : ∃ q, fu = q + 1 := ⟨fu - 1, by omega⟩
    have p6 : S.2.2.1 ≤ 600 := o.st.pn6
    have e0 : gI h (m + 16) 10 6 = some (ix S.2.2.1) := o.st.r6
    unfold f_Md_translate_b32
    simp only [o.r13, e0, Option.bind_some]
    rw [if_pos (ix_le1 (by omega) (by omega))]
    exact ⟨h, rfl, o, fr.refl _ _ _, rfl⟩
  | succ r ih =>
    intro k fu h c f hk hf o
    obtain ⟨fu, rfl⟩ : ∃ q, fu = q + 1 := ⟨fu - 1, by omega⟩
    have ps := o.ps
    have p6 : S.2.2.1 ≤ 600 := o.st.pn6
    have e0 : gI h (m + 16) 10 6 = some (ix S.2.2.1) := o.st.r6
    have e1 : gaI h (m + 16 + 5) (ix k) = some (f k) := o.st.pap (show k < S.2.2.1 by omega)
    have hl1 := o.to.al12 hu
    have hl2 := o.to.al12 hv
    unfold f_Md_translate_b32 excV jn; dsimp only
    simp only [o.r13, o.r11, e0, e1, o.st.r5, o.on, Md_numberOf o hu hfl, o.to.r3, o.to.r4, o.to.lets hv, Option.bind_some, ixp1]
    rw [if_neg (ix_nle (by omega) (by omega))]
    have nxt := ih (k + 1) fu h c f (by omega) (by omega) o
    rcases noV_in (f k) (A u) 0 (by omega) with q | ⟨j, _, j1, j2⟩
    · rw [if_pos q, if_pos (Or.inl (by rw [q]; decide))]; exact nxt
    · rw [if_neg (by rw [j2]; exact ix_ne_m1 (by omega))]
      by_cases c2 : j < (A v).length
      · rw [if_pos (by rw [j2]; exact ix_lt1 c2 (by omega)), if_neg (fun w => w.elim (fun w => by rw [j2] at w; exact ix_nn (by omega) w) (fun w => by rw [j2] at w; exact ix_nle c2 (by omega) w))]
        have ex : xch (A u) (A v) (f k) = (A v).getD j 0 := by
          unfold xch
          rw [j2, ix_toInt (by omega)]
          rfl
        obtain ⟨h1, e4, s1, r1, z1⟩ := o.st.putX (i := k) (show k < S.2.2.1 by omega) ((A v).getD j 0)
        have s1' : is_ST h1 m (m + 16) n (ppS S (upd f k (xch (A u) (A v) (f k)))) := by rw [ex]; exact s1
        obtain ⟨h', e', o', r', z'⟩ := ih (k + 1) fu h1 (c + (if xch (A u) (A v) (f k) = f k then 0 else 1)) (upd f k (xch (A u) (A v) (f k))) (by omega) (by omega) (o.setS s1' (o.to.keep r1 (by omega)) r1)
        refine ⟨h', ?_, o', (r1.mono (by omega) (by omega)).trans r', by omega⟩
        rw [← e']
        rw [ex, j2]
        simp only [ix12, ix_add, o.to.ltr hv c2, e4, Option.bind_some]
        split <;> rfl
      · rw [if_neg (by rw [j2]; exact ix_nlt (by omega) (by omega)), if_pos (Or.inr (by rw [j2]; exact ix_le1 (by omega) (by omega)))]
        exact nxt
theorem Md_translate {h : hp_M} (o : is_MM h m t tn tp th ea n S nA A Rs) {u v : Nat} (hu : u < nA) (hv : v < nA) {fl : Nat} (hfl : 5000 ≤ fl) : ∃ h', f_Md_translate fl m (ix u) (ix v) h = some ((excV (A u) (A v) S.2.2.1 0 0 S.2.2.2.1).1, h') ∧ is_MM h' m t tn tp 0 ea n (trV S (A u) (A v)) nA A Rs ∧ fr m (m + 30) h h' ∧ h'.2 = h.2 := by
  have p6 := o.st.pn6
  obtain ⟨h1, e1, o1, r1, z1⟩ := o.th0 0
  obtain ⟨h', e', o', r', z'⟩ := Md_trans_b (S := S) hu hv hfl S.2.2.1 0 fl h1 0 S.2.2.2.1 (by omega) (by omega) o1
  refine ⟨h', ?_, o', r1.trans r', by omega⟩
  unfold f_Md_translate jn; dsimp only
  simp only [e1, o1.on, MM_isAlphabet o1 hu, MM_isAlphabet o1 hv, Option.bind_some]
  rw [if_neg (by decide), if_neg (by decide)]
  exact e'
theorem Md_translateX {h : hp_M} (o : is_MM h m t tn tp th ea n S nA A Rs) {fl : Nat} {x y : Int32} (hx : ¬ (inN nA x ∧ inN nA y)) : MX (f_Md_translate fl m x y h) h m t tn tp 1 ea n S nA A Rs := by
  obtain ⟨h1, e1, o1, r1, z1⟩ := o.th0 0
  refine MX_of (x := 1) o1 r1 z1 ?_
  unfold f_Md_translate jn; dsimp only
  by_cases hq : inN nA x
  · obtain ⟨i, hi, rfl⟩ := hq
    have hy : ¬ inN nA y := fun q => hx ⟨⟨i, hi, rfl⟩, q⟩
    simp only [e1, o1.on, MM_isAlphabet o1 hi, MM_notAlphabet o1 hy, Option.bind_some]
    rw [if_neg (by decide), if_pos trivial]
  · simp only [e1, o1.on, MM_notAlphabet o1 hq, Option.bind_some]
    rw [if_pos trivial]
theorem ix_div4 : ∀ k, k < 20 → ix k / 4 = ix (k / 4) ∧ rm (ix k) 4 = ix (k % 4) := by decide +kernel
theorem ix_sh4 : ∀ r, r < 4 → (24 : Int32) - 8 * ix r = ix (24 - 8 * r) := by decide +kernel
theorem Md_feed_b (q : Nat) (X : Nat → Int32) {gX : Nat → Int32} (hX : ∀ i, i < 5 → gX i = X i) (hq : m + 2 ≤ q) {td dp : Int32} {rd : Nat} (hn : tn ≤ 1980) (fl : Nat) (K : hp_M → Option (Int32 × hp_M)) : ∀ (r k fu : Nat) (h : hp_M) (g : Nat → Int32), k + r = 20 → r < fu → q < h.2 → h.1 m = some (moC m th (ix tn) ea td dp t rd) → h.1 (m + 1) = some (aI 2000 g) → (∀ i, i < tn + k → g i = fedV tp tn X i) → h.1 q = some (aI 5 gX) → ∃ h' g', f_Md_feed_b51 fl m q K fu (ix k) h = K h' ∧ h'.1 m = some (moC m th (ix tn) ea td dp t rd) ∧ h'.1 (m + 1) = some (aI 2000 g') ∧ (∀ i, i < tn + 20 → g' i = fedV tp tn X i) ∧ fr m (m + 2) h h' ∧ h'.2 = h.2 := by
  intro r
  induction r with
  | zero =>
    intro k fu h g hk hf hz c0 c1 c2 c3
    obtain ⟨fu, rfl⟩ : ∃ q, fu = q + 1 := ⟨fu - 1, by omega⟩
    have : k = 20 := by omega
    subst this
    unfold f_Md_feed_b51
    rw [show (20 : Int32) = ix 20 from rfl, if_pos (ix_le1 (Nat.le_refl _) (by omega))]
    exact ⟨h, g, rfl, c0, c1, c2, fr.refl _ _ _, rfl⟩
  | succ r ih =>
    intro k fu h g hk hf hz c0 c1 c2 c3
    obtain ⟨fu, rfl⟩ : ∃ q, fu = q + 1 := ⟨fu - 1, by omega⟩
    obtain ⟨d1, d2⟩ := ix_div4 k (by omega)
    have d3 := ix_sh4 (k % 4) (by omega)
    have hv : divI (ix k) 4 = some (ix (k / 4)) := by unfold divI; rw [if_neg (by decide), d1]
    have hr : remI (ix k) 4 = some (ix (k % 4)) := by rw [remI_of (by decide), d2]
    have ga : gaI h q (ix (k / 4)) = some (X (k / 4)) := by rw [gaI_of c3 (by omega) (by omega), hX _ (by omega)]
    have pa := paI_of (x := byV (X (k / 4)) (k % 4)) c1 (show tn + k < 2000 by omega) (by omega)
    have c0' : (wr h (m + 1) (aI 2000 (upd g (tn + k) (byV (X (k / 4)) (k % 4))))).1 m = _ := (wr_ne h _ (by omega)).trans c0
    obtain ⟨h', g', e', e1, e2, e3, r', z'⟩ := ih (k + 1) fu _ (upd g (tn + k) (byV (X (k / 4)) (k % 4))) (by omega) (by omega) (show q < (wr h (m + 1) (aI 2000 (upd g (tn + k) (byV (X (k / 4)) (k % 4))))).2 from hz) c0' (wr_self _ _ _) (fun i hi => by
      by_cases w : i = tn + k
      · rw [w, upd_self]
        unfold fedV
        rw [if_neg (by omega), show tn + k - tn = k by omega]
      · rw [upd_ne _ _ w]; exact c2 i (by omega)) ((wr_ne h _ (by omega)).trans c3)
    refine ⟨h', g', ?_, e1, e2, e3, (wr_frI _ _ (by omega) (by omega)).trans r', z'⟩
    have g1 : gR h m 12 1 = some (m + 1) := gR_of c0 rfl
    have g2 : gI h m 12 2 = some (ix tn) := gI_of c0 rfl
    have sh : (X (k / 4) >>> ((24 - 8 * ix (k % 4)) &&& 31)) &&& 255 = byV (X (k / 4)) (k % 4) := by rw [d3]; rfl
    unfold f_Md_feed_b51
    rw [show (20 : Int32) = ix 20 from rfl, if_neg (ix_nle (by omega) (by omega))]
    simp only [g1, g2, hv, hr, ga, sh, ix_add, pa, ixp1, Option.bind_some]
    exact e'
theorem Md_feed {h : hp_M} (o : is_MM h m t tn tp th ea n S nA A Rs) (hn : tn ≤ 1980) (x1 x2 x3 x4 x5 : Int32) {fl : Nat} (hfl : 5000 ≤ fl) : ∃ h', f_Md_feed fl m x1 x2 x3 x4 x5 h = some (ix (tn + 20), h') ∧ is_MM h' m t (tn + 20) (fedV tp tn (xsV x1 x2 x3 x4 x5)) 0 ea n S nA A Rs ∧ fr m (m + 30) h h' := by
  obtain ⟨h1, e1, o1, r1, z1⟩ := o.th0 0
  have hm := o1.1
  have w : ∀ g i x, i < 5 → paI (Jvm.Pilot.CShadowSpellLaw_law_r9225_03f26d.hN h1 (aI 5 g)) h1.2 (ix i) x = some (Jvm.Pilot.CShadowSpellLaw_law_r9225_03f26d.hN h1 (aI 5 (upd g i x))) := fun g i x hi => paI_hN hi (by omega) x
  have w0 := fun g x => w g 0 x (by omega)
  have w1 := fun g x => w g 1 x (by omega)
  have w2 := fun g x => w g 2 x (by omega)
  have w3 := fun g x => w g 3 x (by omega)
  have w4 := fun g x => w g 4 x (by omega)
  rw [show ix 0 = (0 : Int32) from rfl] at w0
  rw [show ix 1 = (1 : Int32) from rfl] at w1
  rw [show ix 2 = (2 : Int32) from rfl] at w2
  rw [show ix 3 = (3 : Int32) from rfl] at w3
  rw [show ix 4 = (4 : Int32) from rfl] at w4
  have o2 := o1.hN (aI 5 (upd (upd (upd (upd (upd (fun _ => 0) 0 x1) 1 x2) 2 x3) 3 x4) 4 x5))
  obtain ⟨tk, dp, rd, q⟩ := o2.mo
  obtain ⟨q1, q2, q3, g, q4, q5⟩ := id q
  obtain ⟨h', g', e', d1, d2, d3, r', z'⟩ := Md_feed_b (tp := tp) (th := 0) (ea := ea) (t := t) h1.2 (xsV x1 x2 x3 x4 x5) (gX := upd (upd (upd (upd (upd (fun _ => 0) 0 x1) 1 x2) 2 x3) 3 x4) 4 x5) (fun i hi => by
    have : i = 0 ∨ i = 1 ∨ i = 2 ∨ i = 3 ∨ i = 4 := by omega
    rcases this with rfl | rfl | rfl | rfl | rfl <;> rfl) (by omega) hn fl (fun (h9 : hp_M) => (gI h9 m 12 2).bind fun v10 => (pF h9 m 12 2 (.int (v10 + 20))).bind fun h11 => (gI h11 m 12 2).bind fun v12 => some (v12, h11)) 20 0 fl _ g (by omega) (by omega) (show h1.2 < h1.2 + 1 by omega) q3 q4 (fun i hi => by rw [q5 i (by omega)]; unfold fedV; rw [if_pos (by omega)]) (hN_self h1 _)
  have pw : pF h' m 12 2 (.int (ix (tn + 20))) = some (wr h' m (moC m 0 (ix (tn + 20)) ea tk dp t rd)) := pF_of d1 (by simp)
  have rw' : fr m (m + 2) h' (wr h' m (moC m 0 (ix (tn + 20)) ea tk dp t rd)) := wr_frI _ _ (by omega) (by omega)
  have mo' : is_Mo (wr h' m (moC m 0 (ix (tn + 20)) ea tk dp t rd)) m 0 (tn + 20) (fedV tp tn (xsV x1 x2 x3 x4 x5)) ea tk dp t rd :=
    ⟨by rw [wr_2]; have := r'.1; omega, by omega, wr_self _ _ _, g', (wr_ne _ _ (by omega)).trans d2, d3⟩
  refine ⟨_, ?_, o2.setMo mo' (r'.trans rw'), r1.trans ((hN_fr2 h1 _ m (m + 30)).trans ((r'.trans rw').mono (by omega) (by omega)))⟩
  have le : ix tn ≤ 1980 := ix_le1 (n := 1980) hn (by omega)
  unfold f_Md_feed
  simp only [e1, o1.r2, Option.bind_some]
  rw [if_pos le]
  simp only [w0, w1, w2, w3, w4, Option.bind_some]
  refine (show _ = _ from e').trans ?_
  have g2 : gI h' m 12 2 = some (ix tn) := gI_of d1 rfl
  have e20 : ix tn + 20 = ix (tn + 20) := ix_add tn 20
  have g3 : gI (wr h' m (moC m 0 (ix (tn + 20)) ea tk dp t rd)) m 12 2 = some (ix (tn + 20)) := gI_of (wr_self _ _ _) rfl
  simp only [g2, e20, pw, g3, Option.bind_some]
theorem Md_feedX {h : hp_M} (o : is_MM h m t tn tp th ea n S nA A Rs) (hn : ¬ tn ≤ 1980) (x1 x2 x3 x4 x5 : Int32) (fl : Nat) : MX (f_Md_feed fl m x1 x2 x3 x4 x5 h) h m t tn tp 1 ea n S nA A Rs := by
  have t2 := o.tn2
  obtain ⟨h1, e1, o1, r1, z1⟩ := o.th0 0
  refine MX_of (x := 1) o1 r1 z1 ?_
  have le : ¬ ix tn ≤ 1980 := ix_nle (n := 1980) (by omega) (by omega)
  unfold f_Md_feed
  simp only [e1, o1.r2, Option.bind_some]
  rw [if_neg le]
end
