/-! The Model begins to read, and where the text is none. -/
section
variable {h h' : hp_M} {m t tn : Nat} {tp : Nat → Int32} {th ea : Int32} {n : Nat} {S : skyV} {nA : Nat} {A : Nat → List Int32} {Rs : List ruV}
theorem okIn_of (ot : okT tn tp) : okIn tn (tksV tn tp) := fun i hi hk => by
  obtain ⟨a1, a2, a3, a4⟩ := tksV_in ot hi hk
  exact ⟨a1, a2, fun q => q.elim (fun q => (a3 q).1) (fun q => Nat.le_trans (a4 q).1 (by omega))⟩
theorem is_MM.after (o : is_MM h m t tn tp th ea n S nA A Rs) (f : fr m (m + 7) h h') {th' ea' tk dp : Int32} {tn' rd : Nat} {tp' : Nat → Int32} (mo : is_Mo h' m th' tn' tp' ea' tk dp t rd) (ar : ∀ j, 2 ≤ j → j ≤ 6 → ∃ g, h'.1 (m + j) = some (aI 401 g)) : is_MM h' m t tn' tp' th' ea' n S nA A Rs := by
  obtain ⟨o1, o2, o3, o4, ⟨n', S', o5⟩, o6, o7⟩ := o
  exact ⟨Nat.le_trans o1 f.1, o2, ⟨tk, dp, rd, mo⟩, o4.keep f (by omega), ⟨n', S', o5.keep f (by omega)⟩, o6.keep f (by omega), ar⟩
theorem md_ar.ar {L : List tokV} {R M : Nat → Nat} (a : md_ar h m L R M) : ∀ j, 2 ≤ j → j ≤ 6 → ∃ g, h.1 (m + j) = some (aI 401 g) := by
  obtain ⟨gk, gf, gm, gr, gt, a1, a2, a3, a4, a5, a6⟩ := a
  intro j h1 h2
  have : j = 2 ∨ j = 3 ∨ j = 4 ∨ j = 5 ∨ j = 6 := by omega
  rcases this with q | q | q | q | q <;> subst q
  · exact ⟨_, a1⟩
  · exact ⟨_, a2⟩
  · exact ⟨_, a3⟩
  · exact ⟨_, a4⟩
  · exact ⟨_, a5⟩
def zZ : zV := (fun _ => 0, fun _ => 0, fun _ => 0)
theorem read_head {w : hp_W} (ow : okW w) (ot : okT tn tp) {fl : Nat} (hfl : 5000 ≤ fl) (o : is_MM h m t tn tp th ea n S nA A Rs) : ∃ h5, MR m t h.2 tn tp th ea (tksV tn tp) h5 0 zZ h5 0 0 [] [] ∧ fr m (m + 7) h h5 ∧ h5.2 = h.2 + 9 ∧ ∀ y, ((onO h5 m 12 (f_Md_isText fl m h5)).bind fun r6 => if r6.1 = 0 then ((gR r6.2 m 12 5).bind fun v8 => (gI r6.2 m 12 9).bind fun v9 => (gaI r6.2 v8 v9).bind fun v10 => (pF r6.2 m 12 3 (.int v10)).bind fun h11 => some (1, h11)) else ((gI r6.2 m 12 9).bind fun v12 => (gR r6.2 m 12 8).bind fun v13 => (paI r6.2 v13 0 0).bind fun h14 => (pF h14 m 12 9 (.int 0)).bind fun h15 => f_Md_read_b64 w fl m v12 (fun (h16 : hp_M) => f_Md_read_b118 w fl m (fun (h17 : hp_M) => f_Md_read_b176 w fl m fl 0 h17) fl 0 h16) (fun (u18 : Int32) (h19 : hp_M) => (gR h19 m 12 5).bind fun v20 => (gI h19 m 12 9).bind fun v21 => (gaI h19 v20 v21).bind fun v22 => (pF h19 m 12 3 (.int v22)).bind fun h23 => some (u18, h23)) fl h15)) = y → f_Md_read w fl m h = y := by
  obtain ⟨tk, dp, rd, mo⟩ := o.mo
  obtain ⟨o1, _, _, _, _, _, o7⟩ := id o
  obtain ⟨h1, e1, z1, c1, d1, d2, d3, d4, d5, d6, d7, d8, k1⟩ := To_init_of h
  have f1 : fr 0 0 h h1 := ⟨by omega, fun q _ hl => k1 q hl⟩
  have mo1 : is_Mo h1 m th tn tp ea tk dp t rd := mo.keep f1 (Or.inr (by omega))
  obtain ⟨h2, e2, mo2, f2', z2⟩ := mo1.put (k := 12) (v := .ref h.2) (th' := th) (ea' := ea) (tk' := tk) (dp' := dp) (tn' := tn) (t' := t) (rd' := h.2) (by omega) (Nat.le_refl _) rfl
  have ar2 : md_ar h2 m [] (fun _ => 0) (fun _ => 0) := by
    obtain ⟨g2, a2⟩ := o7 2 (by omega) (by omega)
    obtain ⟨g3, a3⟩ := o7 3 (by omega) (by omega)
    obtain ⟨g4, a4⟩ := o7 4 (by omega) (by omega)
    obtain ⟨g5, a5⟩ := o7 5 (by omega) (by omega)
    obtain ⟨g6, a6⟩ := o7 6 (by omega) (by omega)
    have mv : ∀ {q e}, h.1 q = some e → q < h.2 → m + 1 ≤ q → h2.1 q = some e := fun hq hl hm => f2'.cell ((k1 _ hl).trans hq) (by omega) (by omega)
    exact ⟨g2, g3, g4, g5, g6, mv a2 (by omega) (by omega), mv a3 (by omega) (by omega), mv a4 (by omega) (by omega), mv a5 (by omega) (by omega), mv a6 (by omega) (by omega), fun i hi => by simp at hi⟩
  obtain ⟨h3, e3, mo3, ar3, f3, z3⟩ := cut_b ow ot hfl 401 0 fl 0 h2 [] rfl (by omega) (by omega) (by omega) mo2 ar2
  have ar3' : md_ar h3 m (tksV tn tp) (fun _ => 0) (fun _ => 0) := ar3
  obtain ⟨h4, e4, mo4, f4, z4⟩ := mo3.put (k := 9) (v := .int 0) (th' := th) (ea' := ea) (tk' := ix 0) (dp' := dp) (tn' := tn) (t' := t) (rd' := h.2) (by omega) (Nat.le_refl _) rfl
  obtain ⟨h5, e5, mo5, f5, z5⟩ := mo4.put (k := 10) (v := .int 0) (th' := th) (ea' := ea) (tk' := ix 0) (dp' := ix 0) (tn' := tn) (t' := t) (rd' := h.2) (by omega) (Nat.le_refl _) rfl
  have ar5 : md_ar h5 m (tksV tn tp) (fun _ => 0) (fun _ => 0) := by
    obtain ⟨gk, gf, gm, gr, gt, a1, a2, a3, a4, a5, a6⟩ := ar3'
    exact ⟨gk, gf, gm, gr, gt, f5.cell (f4.cell a1 (by omega) (by omega)) (by omega) (by omega), f5.cell (f4.cell a2 (by omega) (by omega)) (by omega) (by omega), f5.cell (f4.cell a3 (by omega) (by omega)) (by omega) (by omega), f5.cell (f4.cell a4 (by omega) (by omega)) (by omega) (by omega), f5.cell (f4.cell a5 (by omega) (by omega)) (by omega) (by omega), a6⟩
  have mv : ∀ {q e}, h1.1 q = some e → q < h1.2 → m + 7 ≤ q → h5.1 q = some e := fun hq hl hm => f5.cell (f4.cell (f3.cell (f2'.cell hq hl (by omega)) (by omega) (by omega)) (by omega) (by omega)) (by omega) (by omega)
  have okk := tksV_ok ot
  refine ⟨h5, ⟨fun _ => 0, fun _ => 0, ⟨⟨o1, by omega, okk, okk.1, by omega, ot⟩, mo5, ar5, mv c1 (by omega) (by omega), ⟨mv d1 (by omega) (by omega), ⟨_, mv d2 (by omega) (by omega)⟩, ⟨_, mv d3 (by omega) (by omega)⟩⟩, ⟨mv d4 (by omega) (by omega), mv d5 (by omega) (by omega), mv d6 (by omega) (by omega)⟩, mv d7 (by omega) (by omega), mv d8 (by omega) (by omega), f2.refl _ _ _ _ _, rfl⟩, rfl, fun j hj => absurd hj (Nat.not_lt_zero _)⟩, ?_, by omega, ?_⟩
  · have f0 : fr m (m + 7) h h1 := ⟨f1.1, fun q _ hl => k1 q hl⟩
    exact (((f0.trans (f2'.mono (Nat.le_refl _) (by omega))).trans (f3.mono (by omega) (by omega))).trans (f4.mono (Nat.le_refl _) (by omega))).trans (f5.mono (Nat.le_refl _) (by omega))
  · intro y q
    unfold f_Md_read
    refine bnd e1 ?_
    refine bnd e2 ?_
    refine bnd ((mo2.on _).trans e3) ?_
    refine bnd e4 ?_
    exact bnd e5 q
/-- no text: error 1 at the token where it breaks off -/
theorem read_no {w : hp_W} (ow : okW w) (ot : okT tn tp) {fl : Nat} (hfl : 5000 ≤ fl) (o : is_MM h m t tn tp th ea n S nA A Rs) (g : (gTx (kdp (tksV tn tp)) 400 0).1 = false) : ∃ h', f_Md_read w fl m h = some (1, h') ∧ is_MM h' m t tn tp th (ix (tkn (tksV tn tp) (gTx (kdp (tksV tn tp)) 400 0).2.1).2.1) n S nA A Rs ∧ fr m (m + 30) h h' := by
  obtain ⟨h5, r, f5, z5, k⟩ := read_head ow ot hfl o
  have pL := r.pL
  obtain ⟨_, h2⟩ := mtext_b (okIn_of ot) hfl 400 fl 0 h5 (0, zZ, []) [] (by omega) (by omega) (Nat.le_refl _) (Nat.zero_le _) (Nat.zero_le _) r
  obtain ⟨h6, e6, ⟨q1, q2, q3, q4⟩, ⟨dp, mo⟩, ⟨R, M, ar⟩, fq, zq⟩ := h2 g
  have st : gaI h6 (m + 3) (ix (gTx (kdp (tksV tn tp)) 400 0).2.1) = some (ix (tkn (tksV tn tp) (gTx (kdp (tksV tn tp)) 400 0).2.1).2.1) := by
    obtain ⟨gk, gf, gm, gr, gt, a1, a2, a3, a4, a5, a6⟩ := ar
    rw [gaI_of a2 (by omega) (by omega), (a6 _ q4).2.1]
  obtain ⟨h7, e7, mo7, f7, z7⟩ := mo.put (k := 3) (v := .int (ix (tkn (tksV tn tp) (gTx (kdp (tksV tn tp)) 400 0).2.1).2.1)) (th' := th) (ea' := ix (tkn (tksV tn tp) (gTx (kdp (tksV tn tp)) 400 0).2.1).2.1) (tk' := ix (gTx (kdp (tksV tn tp)) 400 0).2.1) (dp' := dp) (tn' := tn) (t' := t) (rd' := h.2) (by omega) (Nat.le_refl _) rfl
  have F : fr m (m + 7) h h7 := by
    refine ⟨by have := f5.1; omega, fun q hq hl => ?_⟩
    rw [f7.2 q (by omega) (by have := f5.1; omega), fq.2 q (by omega) (by omega) (by have := f5.1; omega)]
    exact f5.2 q hq hl
  refine ⟨h7, k _ ?_, o.after F mo7 (fun j a b => ?_), F.mono (Nat.le_refl _) (by omega)⟩
  · refine bnd ((r.on _).trans (show f_Md_isText fl m h5 = some (0, h6) from e6)) ?_
    refine ite_p rfl ?_
    exact bnd mo.r5 (bnd mo.r9 (bnd st (bnd e7 rfl)))
  · obtain ⟨g', hg⟩ := ar.ar j a b
    exact ⟨g', f7.cell hg (by omega) (by omega)⟩
end
