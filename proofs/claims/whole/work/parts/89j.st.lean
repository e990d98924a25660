/-! A statement, and a text, in the Model's second pass. -/
theorem gRu_Y {K : Nat → Nat} (hK : ∀ i, K i < 42) {p : Nat} (g : (gRu K p).1 = true) : asc (p + 1) (gRu K p).2.2.2.2 (evTs ((gRu K p).2.2.1 ++ (gRu K p).2.2.2.1)) ∧ (∀ q, q ∈ (gRu K p).2.2.1 ++ (gRu K p).2.2.2.1 → evK K q) ∧ K (gRu K p).2.2.2.2 = 2 ∧ (gRu K p).2.1 = (gRu K p).2.2.2.2 + 2 ∧ fits (gRu K p).2.2.1 [] = some [true] ∧ fits (gRu K p).2.2.2.1 [] = some [false] := by
  have P1 := gTst_P hK (gSin_P hK 8) (p + 1)
  have F1 := gTst_F (K := K) (gSin_F hK 8) (p + 1)
  unfold gRu at g ⊢
  by_cases c1 : (gTS K (p + 1)).1 = true
  case neg => rw [if_neg c1] at g; cases g
  rw [if_pos c1] at g ⊢
  by_cases c2 : K (gTS K (p + 1)).2.1 = 12
  case neg => rw [if_neg c2] at g; cases g
  rw [if_pos c2] at g ⊢
  have P2 := gSum_P hK (gVal_P hK 8) ((gTS K (p + 1)).2.1 + 1)
  have F2 := gSum_F (K := K) (gVal_F (K := K) 8) ((gTS K (p + 1)).2.1 + 1)
  by_cases c3 : (gSM K ((gTS K (p + 1)).2.1 + 1)).1 = true
  case neg => rw [if_neg c3] at g; cases g
  rw [if_pos c3] at g ⊢
  by_cases c4 : K (gSM K ((gTS K (p + 1)).2.1 + 1)).2.1 = 13
  case neg => rw [if_neg c4] at g; cases g
  rw [if_pos c4] at g ⊢
  by_cases c5 : K ((gSM K ((gTS K (p + 1)).2.1 + 1)).2.1 + 1) = 2
  case neg => rw [if_neg c5] at g; cases g
  rw [if_pos c5] at g ⊢
  by_cases c6 : K ((gSM K ((gTS K (p + 1)).2.1 + 1)).2.1 + 2) = 30
  case neg => rw [if_neg c6] at g; cases g
  rw [if_pos c6]
  obtain ⟨a1, a2⟩ := P1 c1
  obtain ⟨b1, b2⟩ := P2 c3
  refine ⟨?_, fun q hq => ?_, c5, rfl, F1 c1 [], F2 c3 []⟩
  · dsimp only
    rw [evTs_app]
    exact asc_hi _ (asc_app _ _ (asc_hi _ a1 (Nat.le_succ _)) b1) (Nat.le_succ _)
  · rcases List.mem_append.mp hq with z | z
    · exact a2 q z
    · exact b2 q z
theorem plR_12 {p a b j v : Nat} (h : (j, v) ∈ plR p a b) : v ≠ 2 ∧ (v = 1 → j = p + 1) ∧ v < 13 := by
  unfold plR at h
  have pr : ∀ {x y : Nat}, (j, v) = (x, y) → j = x ∧ v = y := fun e => ⟨congrArg Prod.fst e, congrArg Prod.snd e⟩
  rcases List.mem_append.mp h with z | z
  · simp only [List.mem_cons, List.not_mem_nil, or_false] at z
    rcases z with e | e | e <;> (have := pr e; omega)
  · rcases List.mem_append.mp z with z | z
    · by_cases a0 : a = 0
      · rw [if_pos a0] at z; cases z
      · rw [if_neg a0] at z; have := pr (List.mem_singleton.mp z); omega
    · by_cases b0 : b = 0
      · rw [if_pos b0] at z; cases z
      · rw [if_neg b0] at z
        simp only [List.mem_cons, List.not_mem_nil, or_false] at z
        rcases z with e | e <;> (have := pr e; omega)
theorem evRs_45 {l : List evV} {j v : Nat} (h : (j, v) ∈ evRs l) : v = 4 ∨ v = 5 := by
  obtain ⟨q, _, hq⟩ := List.mem_flatMap.mp h
  rcases osn_012 q.1 with o | o | o
  · rw [evR_0 o] at hq; cases hq
  · rw [evR_1 o] at hq; exact Or.inl (congrArg Prod.snd (List.mem_singleton.mp hq))
  · rw [evR_2 o] at hq
    rcases List.mem_cons.mp hq with z | z
    · exact Or.inl (congrArg Prod.snd z)
    · exact Or.inr (congrArg Prod.snd (List.mem_singleton.mp z))
theorem ruR_12 {p a j v : Nat} {l : List evV} (h : (j, v) ∈ ((p, 7) :: (evRs l ++ [(a, 6)]) : List (Nat × Nat))) : v ≠ 1 ∧ v ≠ 2 ∧ v < 13 := by
  rcases List.mem_cons.mp h with z | z
  · have : v = 7 := congrArg Prod.snd z
    omega
  · rcases List.mem_append.mp z with z | z
    · have := evRs_45 z; omega
    · have : v = 6 := congrArg Prod.snd (List.mem_singleton.mp z)
      omega
theorem nm_one {R : Nat → Nat} {k p q t : Nat} (h1 : p ≤ t) (h2 : t < q) (h3 : R t = k) (h4 : ∀ j, p ≤ j → j < q → j ≠ t → R j ≠ k) : nmR R k 0 q = nmR R k 0 p ++ [t] := by
  rw [nmR_to (R := R) (k := k) (show t + 1 ≤ q by omega) (fun j a b => h4 j (by omega) b (by omega)), nmR_add, if_pos h3, nmR_to (R := R) (k := k) h1 (fun j a b => h4 j a (by omega) (by omega))]
theorem erK_err {L : List tokV} {x : Int32 × Int32} (h : x.1 ≠ 0) (i u : Nat) (b : Bool) : erK L x i u b = x := by
  unfold erK
  rw [bl_err h, ite_self, bl_err h, ite_self]
theorem stX_err {B : bkV} {tp : Nat → Int32} {L : List tokV} {x : Int32 × Int32} (h : x.1 ≠ 0) (s : stV) : stX B tp L x s = x := by
  have p1 : ∀ p, plX1 B tp L x p = x := fun p => by unfold plX1; rw [erK_err h, erN_err h, erN_err h]
  have e1 : ∀ p a b, plX B tp L x p a b = x := fun p a b => by unfold plX; rw [p1, erN_err h, ite_self, plX2_err h]
  have e2 : ∀ p, alX B tp L x p = x := fun p => by unfold alX; rw [erK_err h, bl_err h, ite_self]
  have e3 : ∀ p T S a, ruX B tp L x p T S a = x := fun p T S a => by
    have r0 : ruX0 B L x p = x := by unfold ruX0; rw [bl_err h, ite_self]
    unfold ruX erA
    rw [r0, erL_err h, bl_err h, ite_self]
  unfold stX
  rw [e1, e2, e3, ite_self, ite_self]
theorem stXs_err {tp : Nat → Int32} {L : List tokV} : ∀ (l : List stV) (B : bkV) {x : Int32 × Int32}, x.1 ≠ 0 → stXs tp L l B x = x := by
  intro l
  induction l with
  | nil => intro B x _; rfl
  | cons s l ih =>
    intro B x h
    show stXs tp L l (stB B tp L s) (stX B tp L x s) = x
    rw [stX_err h]; exact ih _ h
def rusV : List stV → List ruE
  | [] => []
  | s :: l => if s.1 = 2 then (s.2.2.2.2.1, s.2.2.2.2.2, s.2.2.1) :: rusV l else rusV l
theorem gSt_asc {K : Nat → Nat} (hK : ∀ i, K i < 42) {p : Nat} (g : (gSt K p).1 = true) : asc p (gSt K p).2.1 ((stR (gSt K p).2.2).map (·.1)) := by
  unfold gSt at g ⊢
  by_cases k4 : K p = 4
  · rw [if_pos k4] at g ⊢
    obtain ⟨_, _, _, q0, ha, hb⟩ := gPl_Y g
    show asc p (gPl K p).2.1 ((plR p (gPl K p).2.2.1 (gPl K p).2.2.2).map Prod.fst)
    exact plR_asc (q0 := q0) (by omega) (by omega)
  rw [if_neg k4] at g ⊢
  by_cases k10 : K p = 10
  · rw [if_pos k10] at g ⊢
    have e : (gAl K p).2 = p + 4 := by
      dsimp only at g
      unfold gAl at g ⊢
      by_cases c1 : K (p + 1) = 2
      case neg => rw [if_neg c1] at g; cases g
      rw [if_pos c1] at g ⊢
      by_cases c2 : K (p + 2) = 2
      case neg => rw [if_neg c2] at g; cases g
      rw [if_pos c2] at g ⊢
      by_cases c3 : K (p + 3) = 30
      case neg => rw [if_neg c3] at g; cases g
      rw [if_pos c3]
    show asc p (gAl K p).2 [p + 1, p + 2]
    rw [e]
    exact ⟨by omega, by omega, by show p + 2 + 1 ≤ p + 4; omega⟩
  rw [if_neg k10] at g ⊢
  by_cases k11 : K p = 11
  · rw [if_pos k11] at g ⊢
    obtain ⟨a1, _, _, a4, _, _⟩ := gRu_Y hK g
    dsimp only
    rw [a4]
    show asc p _ (p :: ((evRs ((gRu K p).2.2.1 ++ (gRu K p).2.2.2.1) ++ [((gRu K p).2.2.2.2, 6)]).map Prod.fst))
    rw [List.map_append]
    exact ⟨Nat.le_refl _, asc_app _ _ (show asc (p + 1) _ ((evRs ((gRu K p).2.2.1 ++ (gRu K p).2.2.2.1)).map (·.1)) from a1) (show asc _ ((gRu K p).2.2.2.2 + 2) [(gRu K p).2.2.2.2] from ⟨Nat.le_refl _, by show (gRu K p).2.2.2.2 + 1 ≤ _; omega⟩)⟩
  · rw [if_neg k11] at g; cases g
theorem gTx_asc {K : Nat → Nat} (hK : ∀ i, K i < 42) : ∀ n p, (gTx K n p).1 = true → asc p (gTx K n p).2.1 ((stRs (gTx K n p).2.2).map (·.1)) := by
  intro n
  induction n with
  | zero => intro p _; exact Nat.le_refl _
  | succ n ih =>
    intro p g
    unfold gTx at g ⊢
    by_cases k0 : K p = 0
    · rw [if_pos k0]; exact Nat.le_refl _
    · rw [if_neg k0] at g ⊢
      by_cases s : (gSt K p).1 = true
      · rw [if_pos s] at g ⊢
        show asc p _ (((stR (gSt K p).2.2) ++ stRs (gTx K n (gSt K p).2.1).2.2).map (·.1))
        rw [List.map_append]
        exact asc_app _ _ (gSt_asc hK s) (ih _ g)
      · rw [if_neg s] at g; cases g
/-- which tokens have the roles of new names -/
theorem gTx_12 {K : Nat → Nat} : ∀ n p, (gTx K n p).1 = true → ∀ y, y ∈ stRs (gTx K n p).2.2 → y.2 < 13 ∧ (y.2 = 1 ∨ y.2 = 2 → K y.1 = 2) := by
  intro n
  induction n with
  | zero => intro p _ y hy; cases hy
  | succ n ih =>
    intro p g y hy
    unfold gTx at g hy
    by_cases k0 : K p = 0
    · rw [if_pos k0] at hy; cases hy
    · rw [if_neg k0] at g hy
      by_cases s : (gSt K p).1 = true
      · rw [if_pos s] at g hy
        have hy' : y ∈ stR (gSt K p).2.2 ++ stRs (gTx K n (gSt K p).2.1).2.2 := hy
        rcases List.mem_append.mp hy' with z | z
        · clear hy hy' g
          unfold gSt at z s
          by_cases k4 : K p = 4
          · rw [if_pos k4] at z s
            have k1 := (gPl_Y s).1
            have := plR_12 (show (y.1, y.2) ∈ plR p (gPl K p).2.2.1 (gPl K p).2.2.2 from z)
            refine ⟨this.2.2, fun q => ?_⟩
            rw [this.2.1 (by omega)]; exact k1
          rw [if_neg k4] at z s
          by_cases k10 : K p = 10
          · rw [if_pos k10] at z s
            have k1 : K (p + 1) = 2 := by
              dsimp only at s
              unfold gAl at s
              by_cases c1 : K (p + 1) = 2
              · exact c1
              · rw [if_neg c1] at s; cases s
            have z' : y ∈ ([(p + 1, 2), (p + 2, 3)] : List (Nat × Nat)) := z
            rcases List.mem_cons.mp z' with v | v
            · rw [v]; exact ⟨show 2 < 13 by decide, fun _ => k1⟩
            · rw [List.mem_singleton.mp v]; exact ⟨show 3 < 13 by decide, fun q => absurd q (show ¬ (3 = 1 ∨ 3 = 2) by decide)⟩
          rw [if_neg k10] at z s
          by_cases k11 : K p = 11
          · rw [if_pos k11] at z s
            have := ruR_12 (show (y.1, y.2) ∈ ((p, 7) :: (evRs ((gRu K p).2.2.1 ++ (gRu K p).2.2.2.1) ++ [((gRu K p).2.2.2.2, 6)]) : List (Nat × Nat)) from z)
            exact ⟨this.2.2, fun q => by omega⟩
          · rw [if_neg k11] at s; cases s
        · exact ih _ g y z
      · rw [if_neg s] at g; cases g
section
variable {w : hp_W} {fl e : Nat} {K1 : hp_M → Option (Int32 × hp_M)} {K2 : Int32 → hp_M → Option (Int32 × hp_M)}
variable {m t rd tn : Nat} {tp : Nat → Int32} {th ea : Int32} {L : List tokV} {h0 : hp_M} {R : Nat → Nat} {C : pcV} {h : hp_M} {B : bkV}
theorem so_stat (oi : okIn tn L) (on : okNm tp L) (okk : okK L) (hR : ∀ q, R q < 100) (hn : ∀ q, R q = 1 → kdp L q = 2) (hn2 : ∀ q, R q = 2 → kdp L q = 2) (hfl : 5000 ≤ fl) (he : e < L.length) (nums : ∀ j, kdp L j = 3 → nuN tp L j < 2147483648) {p : Nat} {D : pdV} {Ru : List ruE} (c : PS m t rd tn tp th ea L h0 R C h p D) (jb : JB tp L R p D B) (jr : JR tp L p D.1 D.2.2.1 D.2.2.2.2.2 Ru B) (g : (gSt (kdp L) p).1 = true) (hq : (gSt (kdp L) p).2.1 ≤ e) (hRr : ∀ i, p ≤ i → i < (gSt (kdp L) p).2.1 → R i = rof (stR (gSt (kdp L) p).2.2) i) : SO w fl m e K1 K2 t rd tn tp th ea L h0 R C h p (gSt (kdp L) p).2.1 (stX B tp L (0, -1) (gSt (kdp L) p).2.2) (fun D' => JB tp L R (gSt (kdp L) p).2.1 D' (stB B tp L (gSt (kdp L) p).2.2) ∧ JR tp L (gSt (kdp L) p).2.1 D'.1 D'.2.2.1 D'.2.2.2.2.2 (Ru ++ rusV [(gSt (kdp L) p).2.2]) (stB B tp L (gSt (kdp L) p).2.2)) := by
  have hK : ∀ i, kdp L i < 42 := kdp_42 okk
  obtain ⟨nP, g1, nA, g2, g3, M⟩ := D
  have jb' := jb
  obtain ⟨⟨j1, j2, j3⟩, j4, j5, ⟨j6, j7, j8⟩, j9, j10, j11⟩ := jb'
  dsimp only at j1 j6 j10
  dsimp only at jr
  unfold gSt at g hq hRr ⊢
  by_cases k4 : kdp L p = 4
  · rw [if_pos k4] at g hq hRr ⊢
    dsimp only at g hq hRr ⊢
    obtain ⟨k1, k3, k5, q0, ha, hb⟩ := gPl_Y g
    have hRr' : ∀ i, p ≤ i → i < (gPl (kdp L) p).2.1 → R i = rof (plR p (gPl (kdp L) p).2.2.1 (gPl (kdp L) p).2.2.2) i := hRr
    generalize (gPl (kdp L) p).2.2.1 = a at ha hRr' ⊢
    generalize (gPl (kdp L) p).2.2.2 = b at hb hRr' ⊢
    generalize (gPl (kdp L) p).2.1 = q at hb hRr' hq ⊢
    have ac := plR_asc (p := p) (a := a) (b := b) (q0 := q0) (q := q) (by omega) (by omega)
    have rp : R p = 0 := by rw [hRr' p (Nat.le_refl _) (by omega)]; exact plR_no (by omega) (by omega) (by omega) (by omega) (by omega)
    have r1 : R (p + 1) = 1 := by rw [hRr' _ (by omega) (by omega)]; exact rof_in _ ac _ (plR_1 p a b).1
    have mem : ∀ i, p ≤ i → i < q → R i ≠ 0 → (i, R i) ∈ plR p a b := fun i x1 x2 n => by
      rw [hRr' i x1 x2] at n ⊢; exact rof_mem _ _ n
    have n1 : nmR R 1 0 q = nmR R 1 0 p ++ [p + 1] := nm_one (by omega) (by omega) r1 (fun j x1 x2 x3 z => x3 ((plR_12 (mem j x1 x2 (by omega))).2.1 z))
    have n2 : nmR R 2 0 q = nmR R 2 0 p := nmR_to (by omega) (fun j x1 x2 z => (plR_12 (mem j x1 x2 (by omega))).1 z)
    have lk := jb.lkP (show p ≤ p + 1 by omega) (fun j x1 x2 => by rw [show j = p by omega, rp]; decide)
    refine (so_planet (w := w) (K1 := K1) (K2 := K2) oi on hR hn hfl he (B := B) c j1 (by omega) lk k1 k3 k5 ha hb hq hRr').mono (fun D' d => ?_)
    obtain ⟨d1, d2, d3, d4, d5, d6⟩ := d
    subst d2
    refine ⟨jb_planet jb d1 n1 n2 (okp_plV d4 d5 d6), ?_⟩
    show JR tp L q (nP + 1) nA M (Ru ++ []) (plB B tp L p a b)
    rw [List.append_nil]
    exact jr.up (by omega) (Nat.le_succ _) (Nat.le_refl _) (fun _ _ _ => rfl) rfl rfl
  rw [if_neg k4] at g hq hRr ⊢
  by_cases k10 : kdp L p = 10
  · rw [if_pos k10] at g hq hRr ⊢
    dsimp only at g hq hRr ⊢
    have gg : (gAl (kdp L) p).2 = p + 4 ∧ kdp L (p + 1) = 2 ∧ kdp L (p + 2) = 2 := by
      unfold gAl at g ⊢
      by_cases c1 : kdp L (p + 1) = 2
      case neg => rw [if_neg c1] at g; cases g
      rw [if_pos c1] at g ⊢
      by_cases c2 : kdp L (p + 2) = 2
      case neg => rw [if_neg c2] at g; cases g
      rw [if_pos c2] at g ⊢
      by_cases c3 : kdp L (p + 3) = 30
      case neg => rw [if_neg c3] at g; cases g
      rw [if_pos c3]
      exact ⟨rfl, c1, c2⟩
    obtain ⟨e4, k1, k2⟩ := gg
    have hRr' : ∀ i, p ≤ i → i < (gAl (kdp L) p).2 → R i = rof [(p + 1, 2), (p + 2, 3)] i := hRr
    rw [e4] at hq hRr' ⊢
    have rv : ∀ i, rof [(p + 1, 2), (p + 2, 3)] i = if i = p + 2 then 3 else if i = p + 1 then 2 else 0 := fun i => rfl
    have r1 : R (p + 1) = 2 := by rw [hRr' (p + 1) (by omega) (by omega), rv, if_neg (by omega), if_pos rfl]
    have r0 : ∀ i, p ≤ i → i < p + 4 → i ≠ p + 1 → R i = 0 ∨ R i = 3 := fun i x1 x2 x3 => by
      rw [hRr' i x1 x2, rv]
      by_cases z : i = p + 2
      · rw [if_pos z]; exact Or.inr rfl
      · rw [if_neg z, if_neg x3]; exact Or.inl rfl
    have n2 : nmR R 2 0 (p + 4) = nmR R 2 0 p ++ [p + 1] := nm_one (by omega) (by omega) r1 (fun j x1 x2 x3 z => by have := r0 j x1 x2 x3; omega)
    have n1 : nmR R 1 0 (p + 4) = nmR R 1 0 p := nmR_to (by omega) (fun j x1 x2 z => by
      by_cases y : j = p + 1
      · rw [y, r1] at z; exact absurd z (by decide)
      · have := r0 j x1 x2 y; omega)
    have lk := jb.lkA (show p ≤ p + 1 by omega) (fun j x1 x2 => by have := r0 j x1 (by omega) (by omega); omega)
    refine (so_alph (w := w) (K1 := K1) (K2 := K2) oi on hR hn2 hfl he (B := B) c j6 (by omega) lk k1 k2 hq hRr').mono (fun D' d => ?_)
    obtain ⟨d1, g3', d2, d3, d4⟩ := d
    subst d2
    refine ⟨jb_alph oi (by omega) k2 jb d1 n1 n2 d3 d4, ?_⟩
    show JR tp L (p + 4) nP (nA + 1) M (Ru ++ []) (alB B tp L p)
    rw [List.append_nil]
    exact jr.up (by omega) (Nat.le_refl _) (Nat.le_succ _) (fun _ _ _ => rfl) rfl rfl
  rw [if_neg k10] at g hq hRr ⊢
  by_cases k11 : kdp L p = 11
  · rw [if_pos k11] at g hq hRr ⊢
    dsimp only at g hq hRr ⊢
    obtain ⟨a1, a2, a3, a4, a5, a6⟩ := gRu_Y hK g
    have pb : (gRu (kdp L) p).2.2.1.length + (gRu (kdp L) p).2.2.2.1.length + p + 5 ≤ (gRu (kdp L) p).2.1 ∧ wsm (gRu (kdp L) p).2.2.1 + wsm (gRu (kdp L) p).2.2.2.1 + 2 * p + 10 ≤ 2 * (gRu (kdp L) p).2.1 ∧ osm (gRu (kdp L) p).2.2.1 + osm (gRu (kdp L) p).2.2.2.1 + p + 5 ≤ (gRu (kdp L) p).2.1 := by
      refine gRu_B (N := L.length) (fun i hi => ⟨(okk.2.2 i hi).1, fun z => (okk.2.2 i hi).2.mpr z⟩) ?_ g
      have := asc_le _ a1
      omega
    have hRr' : ∀ i, p ≤ i → i < (gRu (kdp L) p).2.1 → R i = rof ((p, 7) :: (evRs ((gRu (kdp L) p).2.2.1 ++ (gRu (kdp L) p).2.2.2.1) ++ [((gRu (kdp L) p).2.2.2.2, 6)])) i := hRr
    rw [a4] at pb hq hRr' ⊢
    generalize (gRu (kdp L) p).2.2.1 = T at *
    generalize (gRu (kdp L) p).2.2.2.1 = S at *
    generalize (gRu (kdp L) p).2.2.2.2 = a at *
    have pa := asc_le _ a1
    have r12 : ∀ i, p ≤ i → i < a + 2 → R i ≠ 1 ∧ R i ≠ 2 := fun i x1 x2 => by
      by_cases z : R i = 0
      · omega
      · have := ruR_12 (show (i, R i) ∈ ((p, 7) :: (evRs (T ++ S) ++ [(a, 6)]) : List (Nat × Nat)) by rw [hRr' i x1 x2] at z ⊢; exact rof_mem _ _ z)
        omega
    refine (so_rule (w := w) (K1 := K1) (K2 := K2) oi on hR hn hn2 hfl he (B := B) j2 j1 nums c j10 j11 a1 a2 a3 hq (fun j x1 x2 => jb.lkP x1 (fun u y1 y2 => (r12 u y1 (by omega)).1)) (jb.lkA (show p ≤ a by omega) (fun u y1 y2 => (r12 u y1 (by omega)).2)) hRr').mono (fun D' d => ?_)
    obtain ⟨M', d1, d2, d3, d4, d5, d6, d7⟩ := d
    subst d1
    have jt := jb.to (q := a + 2) (by omega) r12
    obtain ⟨t1, t2, t3, t4, t5, _⟩ := jt
    have len : (ruB B tp L T S a).2.2.2.length = B.2.2.2.length + 1 := by
      show (if B.2.2.2.length < 12 then B.2.2.2 ++ [_] else B.2.2.2).length = _
      rw [if_pos d3, List.length_append]; rfl
    refine ⟨⟨t1, t2, t3, t4, t5, by show M' 0 = (ruB B tp L T S a).2.2.2.length; rw [len]; exact d2, by show (ruB B tp L T S a).2.2.2.length ≤ 12; rw [len]; omega⟩, ?_⟩
    show JR tp L (a + 2) nP nA M' (Ru ++ [(T, S, a)]) (ruB B tp L T S a)
    exact jr.add d3 d4 a1 d5 d6 (by rw [j6]; exact lkA_lt d7) a5 a6 (by rw [wsm_app]; omega) (by rw [osm_app]; omega) (by rw [List.length_append]; omega)
  · rw [if_neg k11] at g; cases g
theorem rusV_cons (s : stV) (l : List stV) : rusV (s :: l) = rusV [s] ++ rusV l := by
  show (if s.1 = 2 then _ :: rusV l else rusV l) = (if s.1 = 2 then _ :: rusV [] else rusV []) ++ rusV l
  by_cases z : s.1 = 2
  · rw [if_pos z, if_pos z]; rfl
  · rw [if_neg z, if_neg z]; rfl
theorem so_text (oi : okIn tn L) (on : okNm tp L) (okk : okK L) (hR : ∀ q, R q < 100) (hn : ∀ q, R q = 1 → kdp L q = 2) (hn2 : ∀ q, R q = 2 → kdp L q = 2) (hfl : 5000 ≤ fl) (he : e < L.length) (nums : ∀ j, kdp L j = 3 → nuN tp L j < 2147483648) : ∀ (n p : Nat) (h : hp_M) (D : pdV) (B : bkV) (Ru : List ruE), (gTx (kdp L) n p).1 = true → (gTx (kdp L) n p).2.1 ≤ e → PS m t rd tn tp th ea L h0 R C h p D → JB tp L R p D B → JR tp L p D.1 D.2.2.1 D.2.2.2.2.2 Ru B → (∀ i, p ≤ i → R i = rof (stRs (gTx (kdp L) n p).2.2) i) → SO w fl m e K1 K2 t rd tn tp th ea L h0 R C h p (gTx (kdp L) n p).2.1 (stXs tp L (gTx (kdp L) n p).2.2 B (0, -1)) (fun D' => JB tp L R (gTx (kdp L) n p).2.1 D' (stBs tp L (gTx (kdp L) n p).2.2 B) ∧ JR tp L (gTx (kdp L) n p).2.1 D'.1 D'.2.2.1 D'.2.2.2.2.2 (Ru ++ rusV (gTx (kdp L) n p).2.2) (stBs tp L (gTx (kdp L) n p).2.2 B)) := by
  have hK : ∀ i, kdp L i < 42 := kdp_42 okk
  intro n
  induction n with
  | zero =>
    intro p h D B Ru _ _ c jb jr _
    exact Or.inl ⟨rfl, h, D, c, ⟨jb, by show JR tp L p _ _ _ (Ru ++ []) B; rw [List.append_nil]; exact jr⟩, Rtt.refl⟩
  | succ n ih =>
    intro p h D B Ru g ge c jb jr hr
    unfold gTx at g ge hr ⊢
    by_cases k0 : kdp L p = 0
    · rw [if_pos k0]
      exact Or.inl ⟨rfl, h, D, c, ⟨jb, by show JR tp L p _ _ _ (Ru ++ []) B; rw [List.append_nil]; exact jr⟩, Rtt.refl⟩
    · rw [if_neg k0] at g ge hr ⊢
      by_cases s : (gSt (kdp L) p).1 = true
      · rw [if_pos s] at g ge hr ⊢
        dsimp only at g ge hr ⊢
        have A1 := gSt_asc hK s
        have A2 := gTx_asc hK n _ g
        have l1 := asc_le _ A1
        have l2 := asc_le _ A2
        have hr' : ∀ i, p ≤ i → R i = rof (stR (gSt (kdp L) p).2.2 ++ stRs (gTx (kdp L) n (gSt (kdp L) p).2.1).2.2) i := hr
        have h1 : ∀ i, p ≤ i → i < (gSt (kdp L) p).2.1 → R i = rof (stR (gSt (kdp L) p).2.2) i := fun i x1 x2 => by
          rw [hr' i x1]
          exact rof_app_no _ _ _ (fun y hy => by have := (asc_mem _ A2 y.1 (List.mem_map_of_mem hy)).1; omega)
        have h2 : ∀ i, (gSt (kdp L) p).2.1 ≤ i → R i = rof (stRs (gTx (kdp L) n (gSt (kdp L) p).2.1).2.2) i := fun i x1 => by
          rw [hr' i (by omega)]
          exact rof_app_yes _ _ _ (fun y hy => by have := (asc_mem _ A1 y.1 (List.mem_map_of_mem hy)).2; omega)
        have s1 := so_stat (w := w) (K1 := K1) (K2 := K2) (e := e) oi on okk hR hn hn2 hfl he nums c jb jr s (by omega) h1
        show SO w fl m e K1 K2 t rd tn tp th ea L h0 R C h p _ (stXs tp L (gTx (kdp L) n (gSt (kdp L) p).2.1).2.2 (stB B tp L (gSt (kdp L) p).2.2) (stX B tp L (0, -1) (gSt (kdp L) p).2.2)) (fun D' => JB tp L R _ D' (stBs tp L (gTx (kdp L) n (gSt (kdp L) p).2.1).2.2 (stB B tp L (gSt (kdp L) p).2.2)) ∧ JR tp L _ D'.1 D'.2.2.1 D'.2.2.2.2.2 (Ru ++ rusV ((gSt (kdp L) p).2.2 :: (gTx (kdp L) n (gSt (kdp L) p).2.1).2.2)) (stBs tp L (gTx (kdp L) n (gSt (kdp L) p).2.1).2.2 (stB B tp L (gSt (kdp L) p).2.2)))
        refine s1.seq (fun e1 h1 D1 c1 d1 => ?_) (fun n => stXs_err _ _ n)
        rw [e1, rusV_cons, ← List.append_assoc]
        exact ih _ h1 D1 _ _ g ge c1 d1.1 d1.2 h2
      · rw [if_neg s] at g; cases g
end
