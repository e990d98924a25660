/-! The Model reads a text, from its start. -/
section
variable {m t rd tn : Nat} {tp : Nat → Int32} {th ea : Int32} {L : List tokV} {h0 : hp_M} {h : hp_M} {p : Nat} {Rl : List (Nat × Nat)}
theorem stN_B {K : Nat → Nat} {N : Nat} (ok : okN K N) {p : Nat} (hp : p + 1 < N) (g : (gSt K p).1 = true) (c : mcV) (hn : c.1 ≤ p) (hw : wsm c.2.2 ≤ 2 * p) (ho : osm c.2.2 ≤ p) : (stN (gSt K p).2.2 c).1 ≤ (gSt K p).2.1 ∧ wsm (stN (gSt K p).2.2 c).2.2 ≤ 2 * (gSt K p).2.1 ∧ osm (stN (gSt K p).2.2 c).2.2 ≤ (gSt K p).2.1 := by
  have ge := gSt_ge K p g ⟨N, ok, hp⟩
  unfold gSt at g ge ⊢
  by_cases k4 : K p = 4
  · rw [if_pos k4] at ge ⊢
    dsimp only at ge ⊢
    show c.1 ≤ _ ∧ wsm c.2.2 ≤ _ ∧ osm c.2.2 ≤ _
    omega
  rw [if_neg k4] at g ge ⊢
  by_cases k10 : K p = 10
  · rw [if_pos k10] at ge ⊢
    dsimp only at ge ⊢
    show c.1 ≤ _ ∧ wsm c.2.2 ≤ _ ∧ osm c.2.2 ≤ _
    omega
  rw [if_neg k10] at g ge ⊢
  by_cases k11 : K p = 11
  · rw [if_pos k11] at g ge ⊢
    dsimp only at g ge ⊢
    obtain ⟨d1, d2, d3⟩ := gRu_B ok hp g
    show c.1 + 1 ≤ _ ∧ wsm (c.2.2 ++ ((gRu K p).2.2.1 ++ (gRu K p).2.2.2.1)) ≤ _ ∧ osm (c.2.2 ++ ((gRu K p).2.2.1 ++ (gRu K p).2.2.2.1)) ≤ _
    rw [wsm_app, wsm_app, osm_app, osm_app]
    omega
  · rw [if_neg k11] at g; cases g
theorem mtext_b (oi : okIn tn L) {fl : Nat} (hfl : 5000 ≤ fl) : ∀ (n fu p : Nat) (h : hp_M) (c : mcV) (Rl : List (Nat × Nat)), L.length ≤ p + 2 * n → n < fu → c.1 ≤ p → wsm c.2.2 ≤ 2 * p → osm c.2.2 ≤ p → MR m t rd tn tp th ea L h0 c.1 c.2.1 h p 0 c.2.2 Rl →
    ((gTx (kdp L) n p).1 = true → kdp L (gTx (kdp L) n p).2.1 = 0 ∧ ∃ h', f_Md_isText_b0 fl m fu h = some (1, h') ∧ MR m t rd tn tp th ea L h0 (stNs (gTx (kdp L) n p).2.2 c).1 (stNs (gTx (kdp L) n p).2.2 c).2.1 h' (gTx (kdp L) n p).2.1 0 (stNs (gTx (kdp L) n p).2.2 c).2.2 (Rl ++ stRs (gTx (kdp L) n p).2.2)) ∧
    ((gTx (kdp L) n p).1 = false → ∃ h', f_Md_isText_b0 fl m fu h = some (0, h') ∧ MF m t rd tn tp th ea L h0 h' (gTx (kdp L) n p).2.1) := by
  intro n
  induction n with
  | zero => intro fu p h c Rl hp _ _ _ _ r; have := r.pl; omega
  | succ n ih =>
    intro fu p h c Rl hp hf hn hw ho r
    obtain ⟨fu, rfl⟩ : ∃ q, fu = q + 1 := ⟨fu - 1, by omega⟩
    have okk := r.okk
    by_cases k0 : kdp L p = 0
    · unfold gTx
      rw [if_pos k0]
      refine ⟨fun _ => ⟨k0, h, ?_, ?_⟩, fun q => by cases q⟩
      · unfold f_Md_isText_b0
        exact bnd (r.isY (k := 0) (by omega) rfl k0) (ite_n z10 rfl)
      · show MR m t rd tn tp th ea L h0 c.1 c.2.1 h p 0 c.2.2 (Rl ++ [])
        rw [List.append_nil]; exact r
    -- the statement's outcome, and what the loop does with it
    have go : ∀ z : Option (Int32 × hp_M), ((kdp L p = 4 → z = onO h m 12 (f_Md_isPlanetLine m h)) ∧ (kdp L p = 10 → z = onO h m 12 (f_Md_isAlphabetLine m h)) ∧ (kdp L p = 11 → z = onO h m 12 (f_Md_isRule fl m h)) ∧ (kdp L p ≠ 4 → kdp L p ≠ 10 → kdp L p ≠ 11 → z = some (0, h))) → (∀ h', z = some (1, h') → f_Md_isText_b0 fl m (fu + 1) h = f_Md_isText_b0 fl m fu h') → (∀ h', z = some (0, h') → f_Md_isText_b0 fl m (fu + 1) h = some (0, h')) →
        ((gTx (kdp L) (n + 1) p).1 = true → kdp L (gTx (kdp L) (n + 1) p).2.1 = 0 ∧ ∃ h', f_Md_isText_b0 fl m (fu + 1) h = some (1, h') ∧ MR m t rd tn tp th ea L h0 (stNs (gTx (kdp L) (n + 1) p).2.2 c).1 (stNs (gTx (kdp L) (n + 1) p).2.2 c).2.1 h' (gTx (kdp L) (n + 1) p).2.1 0 (stNs (gTx (kdp L) (n + 1) p).2.2 c).2.2 (Rl ++ stRs (gTx (kdp L) (n + 1) p).2.2)) ∧
        ((gTx (kdp L) (n + 1) p).1 = false → ∃ h', f_Md_isText_b0 fl m (fu + 1) h = some (0, h') ∧ MF m t rd tn tp th ea L h0 h' (gTx (kdp L) (n + 1) p).2.1) := by
      intro z hz e1 e0
      obtain ⟨o1, o2⟩ := mstat_of oi hfl c hn hw ho r hz
      unfold gTx
      rw [if_neg k0]
      by_cases g : (gSt (kdp L) p).1 = true
      · rw [if_pos g]
        have k2 : 2 ≤ kdp L p := by
          unfold gSt at g
          by_cases k4 : kdp L p = 4
          · omega
          rw [if_neg k4] at g
          by_cases k10 : kdp L p = 10
          · omega
          rw [if_neg k10] at g
          by_cases k11 : kdp L p = 11
          · omega
          · rw [if_neg k11] at g; cases g
        have p1 := r.nxt k2
        obtain ⟨h', ez, r'⟩ := o1 g
        have ge := gSt_ge _ _ g ⟨_, kN okk, p1⟩
        obtain ⟨n1, n2, n3⟩ := stN_B (kN okk) p1 g c hn hw ho
        obtain ⟨i1, i2⟩ := ih fu (gSt (kdp L) p).2.1 h' (stN (gSt (kdp L) p).2.2 c) _ (by omega) (by omega) n1 n2 n3 r'
        rw [e1 h' ez]
        refine ⟨fun q => ?_, i2⟩
        obtain ⟨j0, h2, j1, j2⟩ := i1 q
        refine ⟨j0, h2, j1, ?_⟩
        have er : Rl ++ stRs ((gSt (kdp L) p).2.2 :: (gTx (kdp L) n (gSt (kdp L) p).2.1).2.2) = Rl ++ stR (gSt (kdp L) p).2.2 ++ stRs (gTx (kdp L) n (gSt (kdp L) p).2.1).2.2 := by
          unfold stRs; rw [List.flatMap_cons, List.append_assoc]
        rw [er]
        exact j2
      · rw [if_neg g]
        obtain ⟨h', ez, r'⟩ := o2 (by simpa using g)
        exact ⟨(fun q => by cases q), fun _ => ⟨h', e0 h' ez, r'⟩⟩
    by_cases k4 : kdp L p = 4
    · refine go (onO h m 12 (f_Md_isPlanetLine m h)) ⟨fun _ => rfl, fun q => by omega, fun q => by omega, fun q => absurd k4 q⟩ (fun h' e => ?_) (fun h' e => ?_)
      · conv => lhs; unfold f_Md_isText_b0
        exact bnd (r.isN (k := 0) (by omega) rfl k0) (ite_p rfl (jnE (bnd (r.isY (k := 4) (X := 0) (by omega) rfl k4) (ite_n z10 (bnd e (ite_n z10 rfl))))))
      · unfold f_Md_isText_b0
        exact bnd (r.isN (k := 0) (by omega) rfl k0) (ite_p rfl (jnE (bnd (r.isY (k := 4) (X := 0) (by omega) rfl k4) (ite_n z10 (bnd e (ite_p rfl rfl))))))
    by_cases k10 : kdp L p = 10
    · refine go (onO h m 12 (f_Md_isAlphabetLine m h)) ⟨fun q => by omega, fun _ => rfl, fun q => by omega, fun _ q => absurd k10 q⟩ (fun h' e => ?_) (fun h' e => ?_)
      · conv => lhs; unfold f_Md_isText_b0
        exact bnd (r.isN (k := 0) (by omega) rfl k0) (ite_p rfl (jnE (bnd (r.isN (k := 4) (X := 0) (by omega) rfl k4) (ite_p rfl (bnd (r.isY (k := 10) (X := 6) (by omega) rfl k10) (ite_n z10 (bnd e (ite_n z10 rfl))))))))
      · unfold f_Md_isText_b0
        exact bnd (r.isN (k := 0) (by omega) rfl k0) (ite_p rfl (jnE (bnd (r.isN (k := 4) (X := 0) (by omega) rfl k4) (ite_p rfl (bnd (r.isY (k := 10) (X := 6) (by omega) rfl k10) (ite_n z10 (bnd e (ite_p rfl rfl))))))))
    by_cases k11 : kdp L p = 11
    · refine go (onO h m 12 (f_Md_isRule fl m h)) ⟨fun q => by omega, fun q => by omega, fun _ => rfl, fun _ _ q => absurd k11 q⟩ (fun h' e => ?_) (fun h' e => ?_)
      · conv => lhs; unfold f_Md_isText_b0
        exact bnd (r.isN (k := 0) (by omega) rfl k0) (ite_p rfl (jnE (bnd (r.isN (k := 4) (X := 0) (by omega) rfl k4) (ite_p rfl (bnd (r.isN (k := 10) (X := 6) (by omega) rfl k10) (ite_p rfl (jnE (bnd (r.isY (k := 11) (X := 7) (by omega) rfl k11) (ite_n z10 (bnd e (ite_n z10 (ite_n z10 rfl))))))))))))
      · unfold f_Md_isText_b0
        exact bnd (r.isN (k := 0) (by omega) rfl k0) (ite_p rfl (jnE (bnd (r.isN (k := 4) (X := 0) (by omega) rfl k4) (ite_p rfl (bnd (r.isN (k := 10) (X := 6) (by omega) rfl k10) (ite_p rfl (jnE (bnd (r.isY (k := 11) (X := 7) (by omega) rfl k11) (ite_n z10 (bnd e (ite_p rfl (ite_p rfl rfl))))))))))))
    · refine go (some (0, h)) ⟨fun q => absurd q k4, fun q => absurd q k10, fun q => absurd q k11, fun _ _ _ => rfl⟩ (fun h' e => ?_) (fun h' e => ?_)
      · exact absurd (show (0 : Int32) = 1 from congrArg Prod.fst (Option.some.inj e)) (by decide)
      · obtain rfl : h = h' := congrArg Prod.snd (Option.some.inj e)
        unfold f_Md_isText_b0
        exact bnd (r.isN (k := 0) (by omega) rfl k0) (ite_p rfl (jnE (bnd (r.isN (k := 4) (X := 0) (by omega) rfl k4) (ite_p rfl (bnd (r.isN (k := 10) (X := 6) (by omega) rfl k10) (ite_p rfl (jnE (bnd (r.isN (k := 11) (X := 7) (by omega) rfl k11) (ite_p rfl (ite_p rfl rfl))))))))))
end
/-- a new thing, and a field that points to it -/
theorem al_f {h : hp_M} {a ci k : Nat} {fs : List Value} (e : va_E) (c : h.1 a = some (oC ci fs)) (hk : k < fs.length) (ha : a < h.2) : ∃ h', pF (hN h e) a ci k (.ref h.2) = some h' ∧ h'.2 = h.2 + 1 ∧ h'.1 a = some (oC ci (fs.set k (.ref h.2))) ∧ h'.1 h.2 = some e ∧ ∀ q, q ≠ a → q < h.2 → h'.1 q = h.1 q := by
  have c1 : (hN h e).1 a = some (oC ci fs) := (hN_ne h e (by omega)).trans c
  refine ⟨_, pF_of c1 hk, rfl, wr_self _ _ _, ?_, fun q hq hl => ?_⟩
  · rw [wr_ne _ _ (by omega)]; exact hN_self h e
  · rw [wr_ne _ _ hq]; exact hN_ne h e (by omega)
theorem To_init_of (h : hp_M) : ∃ h', f_To_init h.2 (hN h (oC 11 [.int 0, .null, .int 0, .null, .null, .int 0, .null, .null, .null, .null, .int 0, .null, .int 0])) = some h' ∧ h'.2 = h.2 + 9 ∧ h'.1 h.2 = some (rdC h.2 0 0 0) ∧ h'.1 (h.2 + 1) = some (aI 40 (fun _ => 0)) ∧ h'.1 (h.2 + 2) = some (aI 6 (fun _ => 0)) ∧ h'.1 (h.2 + 3) = some (aI 72 (fun _ => 0)) ∧ h'.1 (h.2 + 4) = some (aI 13 (fun _ => 0)) ∧ h'.1 (h.2 + 5) = some (aI 13 (fun _ => 0)) ∧ h'.1 (h.2 + 6) = some (aI 13 (fun _ => 0)) ∧ h'.1 (h.2 + 7) = some (aI 1200 (fun _ => 0)) ∧ h'.1 (h.2 + 8) = some (aI 400 (fun _ => 0)) ∧ ∀ q, q < h.2 → h'.1 q = h.1 q := by
  obtain ⟨a, ha⟩ : ∃ q, h.2 = q := ⟨_, rfl⟩
  have c0 := hN_self h (oC 11 [.int 0, .null, .int 0, .null, .null, .int 0, .null, .null, .null, .null, .int 0, .null, .int 0])
  have z0 := hN_2 h (oC 11 [.int 0, .null, .int 0, .null, .null, .int 0, .null, .null, .null, .null, .int 0, .null, .int 0])
  have k0 : ∀ q, q < h.2 → (hN h (oC 11 [.int 0, .null, .int 0, .null, .null, .int 0, .null, .null, .null, .null, .int 0, .null, .int 0])).1 q = h.1 q := fun q hq => hN_ne h _ (by omega)
  obtain ⟨H0, hH0⟩ : ∃ q, hN h (oC 11 [.int 0, .null, .int 0, .null, .null, .int 0, .null, .null, .null, .null, .int 0, .null, .int 0]) = q := ⟨_, rfl⟩
  rw [hH0] at c0 z0 k0
  rw [hH0]
  rw [ha] at c0 z0 k0 ⊢
  obtain ⟨H1, e1, z1, c1, n1, k1⟩ := al_f (k := 1) (aI 40 (fun _ => 0)) c0 (by simp) (by omega)
  obtain ⟨H2, e2, z2, c2, n2, k2⟩ := al_f (k := 3) (aI 6 (fun _ => 0)) c1 (by simp) (by omega)
  obtain ⟨H3, e3, z3, c3, n3, k3⟩ := al_f (k := 4) (aI 72 (fun _ => 0)) c2 (by simp) (by omega)
  obtain ⟨H4, e4, z4, c4, n4, k4⟩ := al_f (k := 6) (aI 13 (fun _ => 0)) c3 (by simp) (by omega)
  obtain ⟨H5, e5, z5, c5, n5, k5⟩ := al_f (k := 7) (aI 13 (fun _ => 0)) c4 (by simp) (by omega)
  obtain ⟨H6, e6, z6, c6, n6, k6⟩ := al_f (k := 8) (aI 13 (fun _ => 0)) c5 (by simp) (by omega)
  obtain ⟨H7, e7, z7, c7, n7, k7⟩ := al_f (k := 9) (aI 1200 (fun _ => 0)) c6 (by simp) (by omega)
  obtain ⟨H8, e8, z8, c8, n8, k8⟩ := al_f (k := 11) (aI 400 (fun _ => 0)) c7 (by simp) (by omega)
  have y1 : H1.2 = a + 2 := by omega
  have y2 : H2.2 = a + 3 := by omega
  have y3 : H3.2 = a + 4 := by omega
  have y4 : H4.2 = a + 5 := by omega
  have y5 : H5.2 = a + 6 := by omega
  have y6 : H6.2 = a + 7 := by omega
  have y7 : H7.2 = a + 8 := by omega
  rw [z0] at n1 c1 c2 c3 c4 c5 c6 c7 c8
  rw [y1] at n2 c2 c3 c4 c5 c6 c7 c8
  rw [y2] at n3 c3 c4 c5 c6 c7 c8
  rw [y3] at n4 c4 c5 c6 c7 c8
  rw [y4] at n5 c5 c6 c7 c8
  rw [y5] at n6 c6 c7 c8
  rw [y6] at n7 c7 c8
  rw [y7] at n8 c8
  refine ⟨H8, ?_, by omega, c8, ?_, ?_, ?_, ?_, ?_, ?_, ?_, n8, fun q hq => ?_⟩
  · unfold f_To_init
    exact bnd e1 (bnd e2 (bnd e3 (bnd e4 (bnd e5 (bnd e6 (bnd e7 (bnd e8 rfl)))))))
  · rw [k8 _ (by omega) (by omega), k7 _ (by omega) (by omega), k6 _ (by omega) (by omega), k5 _ (by omega) (by omega), k4 _ (by omega) (by omega), k3 _ (by omega) (by omega), k2 _ (by omega) (by omega)]; exact n1
  · rw [k8 _ (by omega) (by omega), k7 _ (by omega) (by omega), k6 _ (by omega) (by omega), k5 _ (by omega) (by omega), k4 _ (by omega) (by omega), k3 _ (by omega) (by omega)]; exact n2
  · rw [k8 _ (by omega) (by omega), k7 _ (by omega) (by omega), k6 _ (by omega) (by omega), k5 _ (by omega) (by omega), k4 _ (by omega) (by omega)]; exact n3
  · rw [k8 _ (by omega) (by omega), k7 _ (by omega) (by omega), k6 _ (by omega) (by omega), k5 _ (by omega) (by omega)]; exact n4
  · rw [k8 _ (by omega) (by omega), k7 _ (by omega) (by omega), k6 _ (by omega) (by omega)]; exact n5
  · rw [k8 _ (by omega) (by omega), k7 _ (by omega) (by omega)]; exact n6
  · rw [k8 _ (by omega) (by omega)]; exact n7
  · rw [k8 _ (by omega) (by omega), k7 _ (by omega) (by omega), k6 _ (by omega) (by omega), k5 _ (by omega) (by omega), k4 _ (by omega) (by omega), k3 _ (by omega) (by omega), k2 _ (by omega) (by omega), k1 _ (by omega) (by omega)]; exact k0 q hq
