/-! The Model's digest. -/
section
variable {m t tn : Nat} {tp : Nat → Int32} {th ea : Int32} {n : Nat} {S : skyV} {nA : Nat} {A : Nat → List Int32} {Rs : List ruV} {h : hp_M}
theorem Md_dg4 (o : is_MM h m t tn tp th ea n S nA A Rs) (fl : Nat) {p : Nat} (hp : p < nA) (K : Int64 → Option (Int64 × hp_M)) : ∀ r fu i d, i + r = (A p).length → r < fu → f_Md_digest_b119 fl m (ix p) h K fu d (ix i) = K (mixN (fun j => (A p).getD j 0) r i d) := by
  have h12 := o.to.al12 hp
  intro r
  induction r with
  | zero =>
    intro fu i d hi hf
    obtain ⟨fu, rfl⟩ : ∃ q, fu = q + 1 := ⟨fu - 1, by omega⟩
    unfold f_Md_digest_b119
    simp only [o.r11, o.to.r3, o.to.lets hp, Option.bind_some]
    rw [if_pos (ix_le1 (by omega) (by omega))]; rfl
  | succ r ih =>
    intro fu i d hi hf
    obtain ⟨fu, rfl⟩ : ∃ q, fu = q + 1 := ⟨fu - 1, by omega⟩
    unfold f_Md_digest_b119
    simp only [o.r11, o.to.r3, o.to.r4, o.to.lets hp, ix12, ix_add, ixp1, o.to.ltr hp (show i < (A p).length by omega), Option.bind_some]
    rw [if_neg (ix_nle (by omega) (by omega))]
    exact ih fu (i + 1) _ (by omega) (by omega)
theorem Md_dg5 (o : is_MM h m t tn tp th ea n S nA A Rs) {fl : Nat} (hfl : 5000 ≤ fl) (K : Int64 → Option (Int64 × hp_M)) : ∀ r fu i d, i + r = nA → r < fu → f_Md_digest_b88 fl m h K fu d (ix i) = K (mixA A r i d) := by
  have h8 := o.to.nA6
  intro r
  induction r with
  | zero =>
    intro fu i d hi hf
    obtain ⟨fu, rfl⟩ : ∃ q, fu = q + 1 := ⟨fu - 1, by omega⟩
    unfold f_Md_digest_b88
    simp only [o.r11, o.to.r2, Option.bind_some]
    rw [if_pos (ix_le1 (by omega) (by omega))]; rfl
  | succ r ih =>
    intro fu i d hi hf
    obtain ⟨fu, rfl⟩ : ∃ q, fu = q + 1 := ⟨fu - 1, by omega⟩
    have hp : i < nA := by omega
    have h12 := o.to.al12 hp
    unfold f_Md_digest_b88
    simp only [o.r11, o.to.r2, o.to.r3, o.to.lets hp, Option.bind_some, ixp1]
    rw [if_neg (ix_nle (by omega) (by omega)), show (0 : Int32) = ix 0 from rfl, Md_dg4 o fl hp _ (A i).length fl 0 _ (by omega) (by omega)]
    exact ih fu (i + 1) _ (by omega) (by omega)
theorem Md_dg6 (o : is_MM h m t tn tp th ea n S nA A Rs) (fl : Nat) (K : Int64 → Option (Int64 × hp_M)) : ∀ r fu i d, i + r = Rs.length → r < fu → f_Md_digest_b170 fl m h K fu d (ix i) = K (mixN S.2.2.2.2 r i d) := by
  have h8 := o.to.nR12
  intro r
  induction r with
  | zero =>
    intro fu i d hi hf
    obtain ⟨fu, rfl⟩ : ∃ q, fu = q + 1 := ⟨fu - 1, by omega⟩
    unfold f_Md_digest_b170
    simp only [o.r11, o.to.r5, Option.bind_some]
    rw [if_pos (ix_le1 (by omega) (by omega))]; rfl
  | succ r ih =>
    intro fu i d hi hf
    obtain ⟨fu, rfl⟩ : ∃ q, fu = q + 1 := ⟨fu - 1, by omega⟩
    unfold f_Md_digest_b170
    simp only [o.r11, o.to.r5, o.r13, o.st.r4, o.st.wro (show i < 12 by omega), Option.bind_some, ixp1]
    rw [if_neg (ix_nle (by omega) (by omega))]
    exact ih fu (i + 1) _ (by omega) (by omega)
theorem Md_dg7 (o : is_MM h m t tn tp th ea n S nA A Rs) (fl : Nat) : ∀ r fu i d, i + r = S.2.2.1 → r < fu → f_Md_digest_b206 fl m h fu d (ix i) = some (mixN S.2.2.2.1 r i d, h) := by
  have h8 := o.st.pn6
  intro r
  induction r with
  | zero =>
    intro fu i d hi hf
    obtain ⟨fu, rfl⟩ : ∃ q, fu = q + 1 := ⟨fu - 1, by omega⟩
    unfold f_Md_digest_b206
    simp only [o.r13, o.st.r6, Option.bind_some]
    rw [if_pos (ix_le1 (by omega) (by omega))]; rfl
  | succ r ih =>
    intro fu i d hi hf
    obtain ⟨fu, rfl⟩ : ∃ q, fu = q + 1 := ⟨fu - 1, by omega⟩
    unfold f_Md_digest_b206
    simp only [o.r13, o.st.r6, o.st.r5, o.st.pap (show i < S.2.2.1 by omega), Option.bind_some, ixp1]
    rw [if_neg (ix_nle (by omega) (by omega))]
    exact ih fu (i + 1) _ (by omega) (by omega)
theorem Md_dgT (o : is_MM h m t tn tp th ea n S nA A Rs) {fl : Nat} (hfl : 5000 ≤ fl) (D : Int64) : f_Md_digest_b88 fl m h (fun (u25 : Int64) => f_Md_digest_b170 fl m h (fun (u26 : Int64) => f_Md_digest_b206 fl m h fl u26 0) fl u25 0) fl D 0 = some (mixN S.2.2.2.1 S.2.2.1 0 (mixN S.2.2.2.2 Rs.length 0 (mixA A nA 0 D)), h) := by
  have h8 := o.to.nA6
  have h9 := o.to.nR12
  have h10 := o.st.pn6
  rw [show (0 : Int32) = ix 0 from rfl, Md_dg5 o hfl _ nA fl 0 _ (by omega) (by omega), Md_dg6 o fl _ Rs.length fl 0 _ (by omega) (by omega), Md_dg7 o fl S.2.2.1 fl 0 _ (by omega) (by omega)]
theorem Md_countedM (o : is_MM h m t tn tp th ea n S nA A Rs) (ok : okY n S.1) {fl : Nat} (hfl : 5000 ≤ fl) {k : Nat} (hk : k < 8) {x : Int32} (hx : x = ix k) : ∃ h', f_Md_counted fl m x h = some (cntV n S tn nA Rs.length k, h') ∧ is_MM h' m t tn tp th ea n S nA A Rs ∧ fr m (m + 30) h h' := by
  obtain ⟨e, q⟩ := Md_counted o ok hfl hk
  exact ⟨_, by rw [hx]; exact q, o.hN e, hN_fr2 _ _ _ _⟩
theorem Md_planetM (o : is_MM h m t tn tp th ea n S nA A Rs) (ok : okY n S.1) {i k : Nat} (hi : i < n) (hk : k < 7) {x y : Int32} (hx : x = ix i) (hy : y = ix k) : ∃ h', f_Md_planetTold m x y h = some (fact (S.1 i) S.2.1 k, h') ∧ is_MM h' m t tn tp th ea n S nA A Rs ∧ fr m (m + 30) h h' := by
  obtain ⟨e, q⟩ := Md_planetTold o ok hi hk
  exact ⟨_, by rw [hx, hy]; exact q, o.hN e, hN_fr2 _ _ _ _⟩
theorem dg_b {α β : Type} {P : Option β → Prop} {x : Option α} {f : α → Option β} {v : α} (e : x = some v) (g : P (f v)) : P (x.bind f) := by rw [e]; exact g
theorem dg_n {β : Type} {P : Option β → Prop} {c : Prop} {d : Decidable c} {a b : Option β} (hc : ¬ c) (g : P b) : P (@ite _ c d a b) := by rw [if_neg hc]; exact g
theorem dg_p {β : Type} {P : Option β → Prop} {c : Prop} {d : Decidable c} {a b : Option β} (hc : c) (g : P a) : P (@ite _ c d a b) := by rw [if_pos hc]; exact g
theorem dg_j {β γ : Type} {P : Option β → Prop} {B : γ} {M : γ → Option β} (g : P (M B)) : P (jn B M) := g
set_option maxRecDepth 100000 in
set_option maxHeartbeats 8000000 in
theorem Md_dgA (P : Option (Int64 × hp_M) → Prop) (o : is_MM h m t tn tp th ea n S nA A Rs) (ok : okY n S.1) {fl : Nat} (hfl : 5000 ≤ fl) (F : ∀ (h' : hp_M) (D : Int64), is_MM h' m t tn tp 0 ea n S nA A Rs → fr m (m + 30) h h' → D = mixP S.1 S.2.1 n 0 (mixN (cntV n S tn nA Rs.length) 8 0 727) → P (f_Md_digest_b88 fl m h' (fun (u25 : Int64) => f_Md_digest_b170 fl m h' (fun (u26 : Int64) => f_Md_digest_b206 fl m h' fl u26 0) fl u25 0) fl D 0)) : P (f_Md_digest fl m h) := by
  have h8 := o.to.n8
  obtain ⟨h1, e1, o1, r1, z1⟩ := o.th0 0
  have q0 : n ≤ 0 → ix n ≤ 0 := fun q => ix_le1 (n := 0) q (by omega)
  have nq0 : ¬ n ≤ 0 → ¬ ix n ≤ 0 := fun q => ix_nle (n := 0) (by omega) (by omega)
  have q1 : n ≤ 1 → ix n ≤ 1 := fun q => ix_le1 (n := 1) q (by omega)
  have nq1 : ¬ n ≤ 1 → ¬ ix n ≤ 1 := fun q => ix_nle (n := 1) (by omega) (by omega)
  have q2 : n ≤ 2 → ix n ≤ 2 := fun q => ix_le1 (n := 2) q (by omega)
  have nq2 : ¬ n ≤ 2 → ¬ ix n ≤ 2 := fun q => ix_nle (n := 2) (by omega) (by omega)
  have q3 : n ≤ 3 → ix n ≤ 3 := fun q => ix_le1 (n := 3) q (by omega)
  have nq3 : ¬ n ≤ 3 → ¬ ix n ≤ 3 := fun q => ix_nle (n := 3) (by omega) (by omega)
  have q4 : n ≤ 4 → ix n ≤ 4 := fun q => ix_le1 (n := 4) q (by omega)
  have nq4 : ¬ n ≤ 4 → ¬ ix n ≤ 4 := fun q => ix_nle (n := 4) (by omega) (by omega)
  have q5 : n ≤ 5 → ix n ≤ 5 := fun q => ix_le1 (n := 5) q (by omega)
  have nq5 : ¬ n ≤ 5 → ¬ ix n ≤ 5 := fun q => ix_nle (n := 5) (by omega) (by omega)
  have q6 : n ≤ 6 → ix n ≤ 6 := fun q => ix_le1 (n := 6) q (by omega)
  have nq6 : ¬ n ≤ 6 → ¬ ix n ≤ 6 := fun q => ix_nle (n := 6) (by omega) (by omega)
  have q7 : n ≤ 7 → ix n ≤ 7 := fun q => ix_le1 (n := 7) q (by omega)
  have nq7 : ¬ n ≤ 7 → ¬ ix n ≤ 7 := fun q => ix_nle (n := 7) (by omega) (by omega)
  have q8 : n ≤ 8 → ix n ≤ 8 := fun q => ix_le1 (n := 8) q (by omega)
  have nq8 : ¬ n ≤ 8 → ¬ ix n ≤ 8 := fun q => ix_nle (n := 8) (by omega) (by omega)
  have l80 : ¬ ((8 : Int32) ≤ 0) := by decide
  have l81 : ¬ ((8 : Int32) ≤ 1) := by decide
  have l82 : ¬ ((8 : Int32) ≤ 2) := by decide
  have l83 : ¬ ((8 : Int32) ≤ 3) := by decide
  have l84 : ¬ ((8 : Int32) ≤ 4) := by decide
  have l85 : ¬ ((8 : Int32) ≤ 5) := by decide
  have l86 : ¬ ((8 : Int32) ≤ 6) := by decide
  have l87 : ¬ ((8 : Int32) ≤ 7) := by decide
  have l88 : (8 : Int32) ≤ 8 := by decide
  have l70 : ¬ ((7 : Int32) ≤ 0) := by decide
  have l71 : ¬ ((7 : Int32) ≤ 1) := by decide
  have l72 : ¬ ((7 : Int32) ≤ 2) := by decide
  have l73 : ¬ ((7 : Int32) ≤ 3) := by decide
  have l74 : ¬ ((7 : Int32) ≤ 4) := by decide
  have l75 : ¬ ((7 : Int32) ≤ 5) := by decide
  have l76 : ¬ ((7 : Int32) ≤ 6) := by decide
  have l77 : (7 : Int32) ≤ 7 := by decide
  obtain ⟨k0, c0, p0, f0⟩ := Md_countedM o1 ok hfl (k := 0) (by omega) (x := 0) rfl
  obtain ⟨k1, c1, p1, f1⟩ := Md_countedM p0 ok hfl (k := 1) (by omega) (x := 1) rfl
  obtain ⟨k2, c2, p2, f2⟩ := Md_countedM p1 ok hfl (k := 2) (by omega) (x := 2) rfl
  obtain ⟨k3, c3, p3, f3⟩ := Md_countedM p2 ok hfl (k := 3) (by omega) (x := 3) rfl
  obtain ⟨k4, c4, p4, f4⟩ := Md_countedM p3 ok hfl (k := 4) (by omega) (x := 4) rfl
  obtain ⟨k5, c5, p5, f5⟩ := Md_countedM p4 ok hfl (k := 5) (by omega) (x := 5) rfl
  obtain ⟨k6, c6, p6, f6⟩ := Md_countedM p5 ok hfl (k := 6) (by omega) (x := 6) rfl
  obtain ⟨k7, c7, p7, f7⟩ := Md_countedM p6 ok hfl (k := 7) (by omega) (x := 7) rfl
  have ff := ((((((((r1.trans f0).trans f1).trans f2).trans f3).trans f4).trans f5).trans f6).trans f7)
  unfold f_Md_digest
  refine dg_b e1 ?_
  refine dg_n l80 ?_
  refine dg_b ((o1.on _).trans c0) ?_
  refine dg_n l81 ?_
  refine dg_b ((p0.on _).trans c1) ?_
  refine dg_n l82 ?_
  refine dg_b ((p1.on _).trans c2) ?_
  refine dg_n l83 ?_
  refine dg_b ((p2.on _).trans c3) ?_
  refine dg_n l84 ?_
  refine dg_b ((p3.on _).trans c4) ?_
  refine dg_n l85 ?_
  refine dg_b ((p4.on _).trans c5) ?_
  refine dg_n l86 ?_
  refine dg_b ((p5.on _).trans c6) ?_
  refine dg_n l87 ?_
  refine dg_b ((p6.on _).trans c7) ?_
  refine dg_p l88 ?_
  refine dg_j ?_
  refine dg_b p7.r11 ?_
  refine dg_b p7.to.r0 ?_
  by_cases w0 : n ≤ 0
  · have hn : n = 0 := by omega
    subst hn
    refine dg_p (q0 (by omega)) ?_
    exact F _ _ p7 ff rfl
  refine dg_n (nq0 w0) ?_
  obtain ⟨k0_0, c0_0, p0_0, f0_0⟩ := Md_planetM p7 ok (i := 0) (k := 0) (by omega) (by omega) (x := 0) (y := 0) rfl rfl
  refine dg_n l70 ?_
  refine dg_b ((p7.on _).trans c0_0) ?_
  obtain ⟨k0_1, c0_1, p0_1, f0_1⟩ := Md_planetM p0_0 ok (i := 0) (k := 1) (by omega) (by omega) (x := 0) (y := 1) rfl rfl
  refine dg_n l71 ?_
  refine dg_b ((p0_0.on _).trans c0_1) ?_
  obtain ⟨k0_2, c0_2, p0_2, f0_2⟩ := Md_planetM p0_1 ok (i := 0) (k := 2) (by omega) (by omega) (x := 0) (y := 2) rfl rfl
  refine dg_n l72 ?_
  refine dg_b ((p0_1.on _).trans c0_2) ?_
  obtain ⟨k0_3, c0_3, p0_3, f0_3⟩ := Md_planetM p0_2 ok (i := 0) (k := 3) (by omega) (by omega) (x := 0) (y := 3) rfl rfl
  refine dg_n l73 ?_
  refine dg_b ((p0_2.on _).trans c0_3) ?_
  obtain ⟨k0_4, c0_4, p0_4, f0_4⟩ := Md_planetM p0_3 ok (i := 0) (k := 4) (by omega) (by omega) (x := 0) (y := 4) rfl rfl
  refine dg_n l74 ?_
  refine dg_b ((p0_3.on _).trans c0_4) ?_
  obtain ⟨k0_5, c0_5, p0_5, f0_5⟩ := Md_planetM p0_4 ok (i := 0) (k := 5) (by omega) (by omega) (x := 0) (y := 5) rfl rfl
  refine dg_n l75 ?_
  refine dg_b ((p0_4.on _).trans c0_5) ?_
  obtain ⟨k0_6, c0_6, p0_6, f0_6⟩ := Md_planetM p0_5 ok (i := 0) (k := 6) (by omega) (by omega) (x := 0) (y := 6) rfl rfl
  refine dg_n l76 ?_
  refine dg_b ((p0_5.on _).trans c0_6) ?_
  have ff0 := (((((((ff.trans f0_0).trans f0_1).trans f0_2).trans f0_3).trans f0_4).trans f0_5).trans f0_6)
  refine dg_p l77 ?_
  refine dg_b p0_6.r11 ?_
  refine dg_b p0_6.to.r0 ?_
  by_cases w1 : n ≤ 1
  · have hn : n = 1 := by omega
    subst hn
    refine dg_p (q1 (by omega)) ?_
    exact F _ _ p0_6 ff0 rfl
  refine dg_n (nq1 w1) ?_
  obtain ⟨k1_0, c1_0, p1_0, f1_0⟩ := Md_planetM p0_6 ok (i := 1) (k := 0) (by omega) (by omega) (x := 1) (y := 0) rfl rfl
  refine dg_n l70 ?_
  refine dg_b ((p0_6.on _).trans c1_0) ?_
  obtain ⟨k1_1, c1_1, p1_1, f1_1⟩ := Md_planetM p1_0 ok (i := 1) (k := 1) (by omega) (by omega) (x := 1) (y := 1) rfl rfl
  refine dg_n l71 ?_
  refine dg_b ((p1_0.on _).trans c1_1) ?_
  obtain ⟨k1_2, c1_2, p1_2, f1_2⟩ := Md_planetM p1_1 ok (i := 1) (k := 2) (by omega) (by omega) (x := 1) (y := 2) rfl rfl
  refine dg_n l72 ?_
  refine dg_b ((p1_1.on _).trans c1_2) ?_
  obtain ⟨k1_3, c1_3, p1_3, f1_3⟩ := Md_planetM p1_2 ok (i := 1) (k := 3) (by omega) (by omega) (x := 1) (y := 3) rfl rfl
  refine dg_n l73 ?_
  refine dg_b ((p1_2.on _).trans c1_3) ?_
  obtain ⟨k1_4, c1_4, p1_4, f1_4⟩ := Md_planetM p1_3 ok (i := 1) (k := 4) (by omega) (by omega) (x := 1) (y := 4) rfl rfl
  refine dg_n l74 ?_
  refine dg_b ((p1_3.on _).trans c1_4) ?_
  obtain ⟨k1_5, c1_5, p1_5, f1_5⟩ := Md_planetM p1_4 ok (i := 1) (k := 5) (by omega) (by omega) (x := 1) (y := 5) rfl rfl
  refine dg_n l75 ?_
  refine dg_b ((p1_4.on _).trans c1_5) ?_
  obtain ⟨k1_6, c1_6, p1_6, f1_6⟩ := Md_planetM p1_5 ok (i := 1) (k := 6) (by omega) (by omega) (x := 1) (y := 6) rfl rfl
  refine dg_n l76 ?_
  refine dg_b ((p1_5.on _).trans c1_6) ?_
  have ff1 := (((((((ff0.trans f1_0).trans f1_1).trans f1_2).trans f1_3).trans f1_4).trans f1_5).trans f1_6)
  refine dg_p l77 ?_
  refine dg_b p1_6.r11 ?_
  refine dg_b p1_6.to.r0 ?_
  by_cases w2 : n ≤ 2
  · have hn : n = 2 := by omega
    subst hn
    refine dg_p (q2 (by omega)) ?_
    exact F _ _ p1_6 ff1 rfl
  refine dg_n (nq2 w2) ?_
  obtain ⟨k2_0, c2_0, p2_0, f2_0⟩ := Md_planetM p1_6 ok (i := 2) (k := 0) (by omega) (by omega) (x := 2) (y := 0) rfl rfl
  refine dg_n l70 ?_
  refine dg_b ((p1_6.on _).trans c2_0) ?_
  obtain ⟨k2_1, c2_1, p2_1, f2_1⟩ := Md_planetM p2_0 ok (i := 2) (k := 1) (by omega) (by omega) (x := 2) (y := 1) rfl rfl
  refine dg_n l71 ?_
  refine dg_b ((p2_0.on _).trans c2_1) ?_
  obtain ⟨k2_2, c2_2, p2_2, f2_2⟩ := Md_planetM p2_1 ok (i := 2) (k := 2) (by omega) (by omega) (x := 2) (y := 2) rfl rfl
  refine dg_n l72 ?_
  refine dg_b ((p2_1.on _).trans c2_2) ?_
  obtain ⟨k2_3, c2_3, p2_3, f2_3⟩ := Md_planetM p2_2 ok (i := 2) (k := 3) (by omega) (by omega) (x := 2) (y := 3) rfl rfl
  refine dg_n l73 ?_
  refine dg_b ((p2_2.on _).trans c2_3) ?_
  obtain ⟨k2_4, c2_4, p2_4, f2_4⟩ := Md_planetM p2_3 ok (i := 2) (k := 4) (by omega) (by omega) (x := 2) (y := 4) rfl rfl
  refine dg_n l74 ?_
  refine dg_b ((p2_3.on _).trans c2_4) ?_
  obtain ⟨k2_5, c2_5, p2_5, f2_5⟩ := Md_planetM p2_4 ok (i := 2) (k := 5) (by omega) (by omega) (x := 2) (y := 5) rfl rfl
  refine dg_n l75 ?_
  refine dg_b ((p2_4.on _).trans c2_5) ?_
  obtain ⟨k2_6, c2_6, p2_6, f2_6⟩ := Md_planetM p2_5 ok (i := 2) (k := 6) (by omega) (by omega) (x := 2) (y := 6) rfl rfl
  refine dg_n l76 ?_
  refine dg_b ((p2_5.on _).trans c2_6) ?_
  have ff2 := (((((((ff1.trans f2_0).trans f2_1).trans f2_2).trans f2_3).trans f2_4).trans f2_5).trans f2_6)
  refine dg_p l77 ?_
  refine dg_b p2_6.r11 ?_
  refine dg_b p2_6.to.r0 ?_
  by_cases w3 : n ≤ 3
  · have hn : n = 3 := by omega
    subst hn
    refine dg_p (q3 (by omega)) ?_
    exact F _ _ p2_6 ff2 rfl
  refine dg_n (nq3 w3) ?_
  obtain ⟨k3_0, c3_0, p3_0, f3_0⟩ := Md_planetM p2_6 ok (i := 3) (k := 0) (by omega) (by omega) (x := 3) (y := 0) rfl rfl
  refine dg_n l70 ?_
  refine dg_b ((p2_6.on _).trans c3_0) ?_
  obtain ⟨k3_1, c3_1, p3_1, f3_1⟩ := Md_planetM p3_0 ok (i := 3) (k := 1) (by omega) (by omega) (x := 3) (y := 1) rfl rfl
  refine dg_n l71 ?_
  refine dg_b ((p3_0.on _).trans c3_1) ?_
  obtain ⟨k3_2, c3_2, p3_2, f3_2⟩ := Md_planetM p3_1 ok (i := 3) (k := 2) (by omega) (by omega) (x := 3) (y := 2) rfl rfl
  refine dg_n l72 ?_
  refine dg_b ((p3_1.on _).trans c3_2) ?_
  obtain ⟨k3_3, c3_3, p3_3, f3_3⟩ := Md_planetM p3_2 ok (i := 3) (k := 3) (by omega) (by omega) (x := 3) (y := 3) rfl rfl
  refine dg_n l73 ?_
  refine dg_b ((p3_2.on _).trans c3_3) ?_
  obtain ⟨k3_4, c3_4, p3_4, f3_4⟩ := Md_planetM p3_3 ok (i := 3) (k := 4) (by omega) (by omega) (x := 3) (y := 4) rfl rfl
  refine dg_n l74 ?_
  refine dg_b ((p3_3.on _).trans c3_4) ?_
  obtain ⟨k3_5, c3_5, p3_5, f3_5⟩ := Md_planetM p3_4 ok (i := 3) (k := 5) (by omega) (by omega) (x := 3) (y := 5) rfl rfl
  refine dg_n l75 ?_
  refine dg_b ((p3_4.on _).trans c3_5) ?_
  obtain ⟨k3_6, c3_6, p3_6, f3_6⟩ := Md_planetM p3_5 ok (i := 3) (k := 6) (by omega) (by omega) (x := 3) (y := 6) rfl rfl
  refine dg_n l76 ?_
  refine dg_b ((p3_5.on _).trans c3_6) ?_
  have ff3 := (((((((ff2.trans f3_0).trans f3_1).trans f3_2).trans f3_3).trans f3_4).trans f3_5).trans f3_6)
  refine dg_p l77 ?_
  refine dg_b p3_6.r11 ?_
  refine dg_b p3_6.to.r0 ?_
  by_cases w4 : n ≤ 4
  · have hn : n = 4 := by omega
    subst hn
    refine dg_p (q4 (by omega)) ?_
    exact F _ _ p3_6 ff3 rfl
  refine dg_n (nq4 w4) ?_
  obtain ⟨k4_0, c4_0, p4_0, f4_0⟩ := Md_planetM p3_6 ok (i := 4) (k := 0) (by omega) (by omega) (x := 4) (y := 0) rfl rfl
  refine dg_n l70 ?_
  refine dg_b ((p3_6.on _).trans c4_0) ?_
  obtain ⟨k4_1, c4_1, p4_1, f4_1⟩ := Md_planetM p4_0 ok (i := 4) (k := 1) (by omega) (by omega) (x := 4) (y := 1) rfl rfl
  refine dg_n l71 ?_
  refine dg_b ((p4_0.on _).trans c4_1) ?_
  obtain ⟨k4_2, c4_2, p4_2, f4_2⟩ := Md_planetM p4_1 ok (i := 4) (k := 2) (by omega) (by omega) (x := 4) (y := 2) rfl rfl
  refine dg_n l72 ?_
  refine dg_b ((p4_1.on _).trans c4_2) ?_
  obtain ⟨k4_3, c4_3, p4_3, f4_3⟩ := Md_planetM p4_2 ok (i := 4) (k := 3) (by omega) (by omega) (x := 4) (y := 3) rfl rfl
  refine dg_n l73 ?_
  refine dg_b ((p4_2.on _).trans c4_3) ?_
  obtain ⟨k4_4, c4_4, p4_4, f4_4⟩ := Md_planetM p4_3 ok (i := 4) (k := 4) (by omega) (by omega) (x := 4) (y := 4) rfl rfl
  refine dg_n l74 ?_
  refine dg_b ((p4_3.on _).trans c4_4) ?_
  obtain ⟨k4_5, c4_5, p4_5, f4_5⟩ := Md_planetM p4_4 ok (i := 4) (k := 5) (by omega) (by omega) (x := 4) (y := 5) rfl rfl
  refine dg_n l75 ?_
  refine dg_b ((p4_4.on _).trans c4_5) ?_
  obtain ⟨k4_6, c4_6, p4_6, f4_6⟩ := Md_planetM p4_5 ok (i := 4) (k := 6) (by omega) (by omega) (x := 4) (y := 6) rfl rfl
  refine dg_n l76 ?_
  refine dg_b ((p4_5.on _).trans c4_6) ?_
  have ff4 := (((((((ff3.trans f4_0).trans f4_1).trans f4_2).trans f4_3).trans f4_4).trans f4_5).trans f4_6)
  refine dg_p l77 ?_
  refine dg_b p4_6.r11 ?_
  refine dg_b p4_6.to.r0 ?_
  by_cases w5 : n ≤ 5
  · have hn : n = 5 := by omega
    subst hn
    refine dg_p (q5 (by omega)) ?_
    exact F _ _ p4_6 ff4 rfl
  refine dg_n (nq5 w5) ?_
  obtain ⟨k5_0, c5_0, p5_0, f5_0⟩ := Md_planetM p4_6 ok (i := 5) (k := 0) (by omega) (by omega) (x := 5) (y := 0) rfl rfl
  refine dg_n l70 ?_
  refine dg_b ((p4_6.on _).trans c5_0) ?_
  obtain ⟨k5_1, c5_1, p5_1, f5_1⟩ := Md_planetM p5_0 ok (i := 5) (k := 1) (by omega) (by omega) (x := 5) (y := 1) rfl rfl
  refine dg_n l71 ?_
  refine dg_b ((p5_0.on _).trans c5_1) ?_
  obtain ⟨k5_2, c5_2, p5_2, f5_2⟩ := Md_planetM p5_1 ok (i := 5) (k := 2) (by omega) (by omega) (x := 5) (y := 2) rfl rfl
  refine dg_n l72 ?_
  refine dg_b ((p5_1.on _).trans c5_2) ?_
  obtain ⟨k5_3, c5_3, p5_3, f5_3⟩ := Md_planetM p5_2 ok (i := 5) (k := 3) (by omega) (by omega) (x := 5) (y := 3) rfl rfl
  refine dg_n l73 ?_
  refine dg_b ((p5_2.on _).trans c5_3) ?_
  obtain ⟨k5_4, c5_4, p5_4, f5_4⟩ := Md_planetM p5_3 ok (i := 5) (k := 4) (by omega) (by omega) (x := 5) (y := 4) rfl rfl
  refine dg_n l74 ?_
  refine dg_b ((p5_3.on _).trans c5_4) ?_
  obtain ⟨k5_5, c5_5, p5_5, f5_5⟩ := Md_planetM p5_4 ok (i := 5) (k := 5) (by omega) (by omega) (x := 5) (y := 5) rfl rfl
  refine dg_n l75 ?_
  refine dg_b ((p5_4.on _).trans c5_5) ?_
  obtain ⟨k5_6, c5_6, p5_6, f5_6⟩ := Md_planetM p5_5 ok (i := 5) (k := 6) (by omega) (by omega) (x := 5) (y := 6) rfl rfl
  refine dg_n l76 ?_
  refine dg_b ((p5_5.on _).trans c5_6) ?_
  have ff5 := (((((((ff4.trans f5_0).trans f5_1).trans f5_2).trans f5_3).trans f5_4).trans f5_5).trans f5_6)
  refine dg_p l77 ?_
  refine dg_b p5_6.r11 ?_
  refine dg_b p5_6.to.r0 ?_
  by_cases w6 : n ≤ 6
  · have hn : n = 6 := by omega
    subst hn
    refine dg_p (q6 (by omega)) ?_
    exact F _ _ p5_6 ff5 rfl
  refine dg_n (nq6 w6) ?_
  obtain ⟨k6_0, c6_0, p6_0, f6_0⟩ := Md_planetM p5_6 ok (i := 6) (k := 0) (by omega) (by omega) (x := 6) (y := 0) rfl rfl
  refine dg_n l70 ?_
  refine dg_b ((p5_6.on _).trans c6_0) ?_
  obtain ⟨k6_1, c6_1, p6_1, f6_1⟩ := Md_planetM p6_0 ok (i := 6) (k := 1) (by omega) (by omega) (x := 6) (y := 1) rfl rfl
  refine dg_n l71 ?_
  refine dg_b ((p6_0.on _).trans c6_1) ?_
  obtain ⟨k6_2, c6_2, p6_2, f6_2⟩ := Md_planetM p6_1 ok (i := 6) (k := 2) (by omega) (by omega) (x := 6) (y := 2) rfl rfl
  refine dg_n l72 ?_
  refine dg_b ((p6_1.on _).trans c6_2) ?_
  obtain ⟨k6_3, c6_3, p6_3, f6_3⟩ := Md_planetM p6_2 ok (i := 6) (k := 3) (by omega) (by omega) (x := 6) (y := 3) rfl rfl
  refine dg_n l73 ?_
  refine dg_b ((p6_2.on _).trans c6_3) ?_
  obtain ⟨k6_4, c6_4, p6_4, f6_4⟩ := Md_planetM p6_3 ok (i := 6) (k := 4) (by omega) (by omega) (x := 6) (y := 4) rfl rfl
  refine dg_n l74 ?_
  refine dg_b ((p6_3.on _).trans c6_4) ?_
  obtain ⟨k6_5, c6_5, p6_5, f6_5⟩ := Md_planetM p6_4 ok (i := 6) (k := 5) (by omega) (by omega) (x := 6) (y := 5) rfl rfl
  refine dg_n l75 ?_
  refine dg_b ((p6_4.on _).trans c6_5) ?_
  obtain ⟨k6_6, c6_6, p6_6, f6_6⟩ := Md_planetM p6_5 ok (i := 6) (k := 6) (by omega) (by omega) (x := 6) (y := 6) rfl rfl
  refine dg_n l76 ?_
  refine dg_b ((p6_5.on _).trans c6_6) ?_
  have ff6 := (((((((ff5.trans f6_0).trans f6_1).trans f6_2).trans f6_3).trans f6_4).trans f6_5).trans f6_6)
  refine dg_p l77 ?_
  refine dg_b p6_6.r11 ?_
  refine dg_b p6_6.to.r0 ?_
  by_cases w7 : n ≤ 7
  · have hn : n = 7 := by omega
    subst hn
    refine dg_p (q7 (by omega)) ?_
    exact F _ _ p6_6 ff6 rfl
  refine dg_n (nq7 w7) ?_
  obtain ⟨k7_0, c7_0, p7_0, f7_0⟩ := Md_planetM p6_6 ok (i := 7) (k := 0) (by omega) (by omega) (x := 7) (y := 0) rfl rfl
  refine dg_n l70 ?_
  refine dg_b ((p6_6.on _).trans c7_0) ?_
  obtain ⟨k7_1, c7_1, p7_1, f7_1⟩ := Md_planetM p7_0 ok (i := 7) (k := 1) (by omega) (by omega) (x := 7) (y := 1) rfl rfl
  refine dg_n l71 ?_
  refine dg_b ((p7_0.on _).trans c7_1) ?_
  obtain ⟨k7_2, c7_2, p7_2, f7_2⟩ := Md_planetM p7_1 ok (i := 7) (k := 2) (by omega) (by omega) (x := 7) (y := 2) rfl rfl
  refine dg_n l72 ?_
  refine dg_b ((p7_1.on _).trans c7_2) ?_
  obtain ⟨k7_3, c7_3, p7_3, f7_3⟩ := Md_planetM p7_2 ok (i := 7) (k := 3) (by omega) (by omega) (x := 7) (y := 3) rfl rfl
  refine dg_n l73 ?_
  refine dg_b ((p7_2.on _).trans c7_3) ?_
  obtain ⟨k7_4, c7_4, p7_4, f7_4⟩ := Md_planetM p7_3 ok (i := 7) (k := 4) (by omega) (by omega) (x := 7) (y := 4) rfl rfl
  refine dg_n l74 ?_
  refine dg_b ((p7_3.on _).trans c7_4) ?_
  obtain ⟨k7_5, c7_5, p7_5, f7_5⟩ := Md_planetM p7_4 ok (i := 7) (k := 5) (by omega) (by omega) (x := 7) (y := 5) rfl rfl
  refine dg_n l75 ?_
  refine dg_b ((p7_4.on _).trans c7_5) ?_
  obtain ⟨k7_6, c7_6, p7_6, f7_6⟩ := Md_planetM p7_5 ok (i := 7) (k := 6) (by omega) (by omega) (x := 7) (y := 6) rfl rfl
  refine dg_n l76 ?_
  refine dg_b ((p7_5.on _).trans c7_6) ?_
  have ff7 := (((((((ff6.trans f7_0).trans f7_1).trans f7_2).trans f7_3).trans f7_4).trans f7_5).trans f7_6)
  refine dg_p l77 ?_
  refine dg_b p7_6.r11 ?_
  refine dg_b p7_6.to.r0 ?_
  have hn : n = 8 := by omega
  subst hn
  refine dg_p (q8 (by omega)) ?_
  exact F _ _ p7_6 ff7 rfl
theorem Md_digest (o : is_MM h m t tn tp th ea n S nA A Rs) (ok : okY n S.1) {fl : Nat} (hfl : 5000 ≤ fl) : ∃ h', f_Md_digest fl m h = some (digV n S tn nA Rs.length A, h') ∧ is_MM h' m t tn tp 0 ea n S nA A Rs ∧ fr m (m + 30) h h' := by
  refine Md_dgA (fun z => ∃ h', z = some (digV n S tn nA Rs.length A, h') ∧ is_MM h' m t tn tp 0 ea n S nA A Rs ∧ fr m (m + 30) h h') o ok hfl ?_
  intro h' D q r hD
  refine ⟨h', ?_, q, r⟩
  rw [Md_dgT q hfl, hD]
  rfl
end
