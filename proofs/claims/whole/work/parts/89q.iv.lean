/-! Class and Model side by side: what the law's loop keeps. -/
theorem mean_ok (s d : Int32) (hd : d ≠ 0) : ∃ v, ddC (FP.i2d s) (FP.i2d d) = some v ∧ FP.dcmp v v = some .eq := by
  have nn : Jvm.FP.Core.dIsNaN (FP.ddiv (FP.i2d s) (FP.i2d d)) = false := Jvm.FP.Core.ddiv_out (Jvm.FP.Core.i2d_fin s).notNaN (Jvm.FP.Core.i2d_fin d) (fun z => Jvm.FP.Core.i2d_ne_zero hd ((Jvm.FP.Core.zero_bits2 _).mp z))
  have le : FP.ddiv (FP.i2d s) (FP.i2d d) &&& 0x7fffffffffffffff ≤ 0x7ff0000000000000 := by
    rw [UInt64.le_iff_toNat_le, UInt64.toNat_and]
    have h1 : (0x7fffffffffffffff : UInt64).toNat = 2 ^ 63 - 1 := by decide
    have h2 : (0x7ff0000000000000 : UInt64).toNat = 9218868437227405312 := by decide
    rw [h1, h2, Nat.and_two_pow_sub_one_eq_mod]
    have q := nn
    rw [← Bool.not_eq_true, Jvm.FP.Core.isNaN_bits] at q
    omega
  exact ⟨_, by unfold ddC; rw [if_pos le], Jvm.FP.Core.dcmp_refl nn⟩
theorem mean_0 : FP.dcmp 0 0 = some .eq := by decide +kernel
def IVs (a m o : Nat) (h : hp_M) (bk dr t tn : Nat) (tp : Nat → Int32) (th ea : Int32) (n : Nat) (S : skyV) (B : bkV) (Rs : List ruV) : Prop :=
  is_SS h a bk dr tn tp ea n S B ∧ is_MM h m t tn tp th ea n S B.2.1.length (alV B.2.1) Rs ∧ (okY n S.1 ∧ okBB n B Rs ∧ okRs n B.2.1.length (alV B.2.1) Rs) ∧ okT tn tp ∧ (∃ g, h.1 o = some (aL 1 g)) ∧ (a + 106 ≤ m ∧ m + 30 ≤ o ∧ o < h.2) ∧ (t = m + 7 ∨ o < t)
def IV (a m o : Nat) (h : hp_M) : Prop := ∃ bk dr t tn tp th ea n S B Rs, IVs a m o h bk dr t tn tp th ea n S B Rs
section
variable {a m o : Nat} {h : hp_M} {bk dr t tn : Nat} {tp : Nat → Int32} {th ea : Int32} {n : Nat} {S : skyV} {B : bkV} {Rs : List ruV}
theorem thrown_of {nA : Nat} {A : Nat → List Int32} {x : Int32} (q : is_MM h m t tn tp x ea n S nA A Rs) : onO h m 12 (f_Md_thrown m h) = some x := by
  rw [q.on]
  unfold f_Md_thrown
  exact bnd q.r0 rfl
theorem gaL_0 {g : Nat → Int64} {h : hp_M} (e : h.1 o = some (aL 1 g)) : gaL h o 0 = some (g 0) := gaL_of (i := 0) e (by omega) (by omega)
/-- the class is done, its answer laid down -/
theorem IVs.lay (iv : IVs a m o h bk dr t tn tp th ea n S B Rs) {h1 : hp_M} (f : fr a (a + 106) h h1) (z : h1.2 = h.2) {bk' dr' tn' : Nat} {tp' : Nat → Int32} {ea' : Int32} {n' : Nat} {S' : skyV} {B' : bkV} (s : is_SS h1 a bk' dr' tn' tp' ea' n' S' B') (v : Int64) : ∃ h2, paL h1 o 0 v = some h2 ∧ is_SS h2 a bk' dr' tn' tp' ea' n' S' B' ∧ is_MM h2 m t tn tp th ea n S B.2.1.length (alV B.2.1) Rs ∧ (∃ g, h2.1 o = some (aL 1 g) ∧ g 0 = v) ∧ h2.2 = h.2 := by
  obtain ⟨i1, i2, i3, i4, ⟨g, i5⟩, ⟨i6, i7, i8⟩, i9⟩ := iv
  have c1 : h1.1 o = some (aL 1 g) := f.cell i5 i8 (by omega)
  have e : paL h1 o 0 v = some (wr h1 o (aL 1 (vp_updL g 0 v))) := paL_of (i := 0) c1 (by omega) (by omega)
  have w := wr_fr h1 o (aL 1 (vp_updL g 0 v))
  refine ⟨_, e, s.keep w (by omega), (i2.keep f (by omega) (by omega)).keep w (by omega) (by omega), ⟨_, wr_self _ _ _, if_pos rfl⟩, z⟩
/-- the Model has answered too -/
theorem IVs.fin (iv : IVs a m o h bk dr t tn tp th ea n S B Rs) {h2 h3 : hp_M} {bk' dr' t' tn' : Nat} {tp' : Nat → Int32} {th' ea' : Int32} {n' : Nat} {S' : skyV} {B' : bkV} {Rs' : List ruV} (s : is_SS h2 a bk' dr' tn' tp' ea' n' S' B') (z : h2.2 = h.2) {g : Nat → Int64} (c : h2.1 o = some (aL 1 g)) (f : fr m (m + 30) h2 h3) (q : is_MM h3 m t' tn' tp' th' ea' n' S' B'.2.1.length (alV B'.2.1) Rs') (ok : okY n' S'.1 ∧ okBB n' B' Rs' ∧ okRs n' B'.2.1.length (alV B'.2.1) Rs') (ot : okT tn' tp') (ht : t' = m + 7 ∨ o < t') : IV a m o h3 ∧ h3.1 o = some (aL 1 g) := by
  obtain ⟨i1, i2, i3, i4, _, ⟨i6, i7, i8⟩, i9⟩ := iv
  have hz := f.1
  have c3 := f.cell c (by omega) (by omega)
  exact ⟨⟨bk', dr', t', tn', tp', th', ea', n', S', B', Rs', s.keep f (by omega), q, ok, ot, ⟨_, c3⟩, ⟨i6, i7, by omega⟩, ht⟩, c3⟩
def LwT (L : Option (Int32 × hp_M)) (G : hp_M → Option (Int32 × hp_M)) (m o : Nat) (j : hp_M → Option (Int32 × hp_M)) : Option (Int32 × hp_M) :=
  L.bind fun r1 => (onO r1.2 m 12 (G r1.2)).bind fun r2 => (onO r2.2 m 12 (f_Md_thrown m r2.2)).bind fun r3 => if r3 = r1.1 then (if r1.1 = 0 then ((gaL r2.2 o 0).bind fun v => if (lg_cmp v (Int32.toInt64 r2.1)) = 0 then (j r2.2) else (some (0, r2.2))) else (j r2.2)) else (some (0, r2.2))
/-- both answer, alike -/
theorem lw_ok {j : hp_M → Option (Int32 × hp_M)} {L : Option (Int32 × hp_M)} {G : hp_M → Option (Int32 × hp_M)} {v : Int32} {h1 : hp_M} {tn' : Nat} {tp' : Nat → Int32} {S' : skyV} (iv : IVs a m o h bk dr t tn tp th ea n S B Rs) (hL : ∀ h2, paL h1 o 0 (Int32.toInt64 v) = some h2 → L = some (0, h2)) (f : fr a (a + 106) h h1) (z : h1.2 = h.2) (s : is_SS h1 a bk dr tn' tp' ea n S' B) (hG : ∀ h2, is_MM h2 m t tn tp th ea n S B.2.1.length (alV B.2.1) Rs → ∃ h3, G h2 = some (v, h3) ∧ is_MM h3 m t tn' tp' 0 ea n S' B.2.1.length (alV B.2.1) Rs ∧ fr m (m + 30) h2 h3) (ok : okY n S'.1) (ot : okT tn' tp') : ∃ h', LwT L G m o j = j h' ∧ IV a m o h' := by
  obtain ⟨h2, e2, s2, q2, ⟨g, c2, g0⟩, z2⟩ := iv.lay f z s (Int32.toInt64 v)
  obtain ⟨h3, e3, q3, f3⟩ := hG h2 q2
  obtain ⟨v3, c3⟩ := iv.fin s2 z2 c2 f3 q3 ⟨ok, iv.2.2.1.2.1, iv.2.2.1.2.2⟩ ot iv.2.2.2.2.2.2
  refine ⟨h3, ?_, v3⟩
  unfold LwT
  refine bnd (hL h2 e2) (bnd ((q2.on _).trans e3) (bnd (thrown_of q3) (ite_p rfl (ite_p rfl (bnd (gaL_0 c3) (ite_p ?_ rfl))))))
  rw [g0]
  exact (lg_cmp0 _ _).mpr rfl
/-- both throw, alike -/
theorem lw_thr {j : hp_M → Option (Int32 × hp_M)} {L : Option (Int32 × hp_M)} {G : hp_M → Option (Int32 × hp_M)} {x : Int32} (iv : IVs a m o h bk dr t tn tp th ea n S B Rs) (hL : L = some (x, hX h)) (hx : x ≠ 0) (hG : is_MM (hX h) m t tn tp th ea n S B.2.1.length (alV B.2.1) Rs → MX (G (hX h)) (hX h) m t tn tp x ea n S B.2.1.length (alV B.2.1) Rs) : ∃ h', LwT L G m o j = j h' ∧ IV a m o h' := by
  obtain ⟨i1, i2, i3, i4, ⟨g, i5⟩, ⟨i6, i7, i8⟩, i9⟩ := id iv
  have q := i2.keep (hX_fr h m m) (by omega) (by omega)
  obtain ⟨h3, e3, q3, f3, z3⟩ := hG q
  have hz : (hX h).2 = h.2 + 1 := rfl
  have c3 : h3.1 o = some (aL 1 g) := f3.cell (show (hX h).1 o = some (aL 1 g) from i5) (by omega) (by omega)
  refine ⟨h3, ?_, bk, dr, t, tn, tp, x, ea, n, S, B, Rs, i1.X.keep f3 (by omega), q3, i3, i4, ⟨g, c3⟩, ⟨i6, i7, by omega⟩, i9⟩
  unfold LwT
  exact bnd hL (bnd ((q.on _).trans e3) (bnd (thrown_of q3) (ite_p rfl (ite_n hx rfl))))
/-- a heap of the class's call that the Model's call follows, without a throw -/
theorem lw_two {h1 h3 : hp_M} {bk' dr' t' tn' : Nat} {tp' : Nat → Int32} {th' ea' : Int32} {n' : Nat} {S' : skyV} {B' : bkV} {Rs' : List ruV} (iv : IVs a m o h bk dr t tn tp th ea n S B Rs) (f : fr a (a + 106) h h1) (z : h1.2 = h.2) (s : is_SS h1 a bk' dr' tn' tp' ea' n' S' B') (f3 : fr m (m + 30) h1 h3) (q : is_MM h3 m t' tn' tp' th' ea' n' S' B'.2.1.length (alV B'.2.1) Rs') (ok : okY n' S'.1 ∧ okBB n' B' Rs' ∧ okRs n' B'.2.1.length (alV B'.2.1) Rs') (ot : okT tn' tp') (ht : t' = m + 7 ∨ o < t') : IV a m o h3 := by
  obtain ⟨i1, i2, i3, i4, ⟨g, i5⟩, ⟨i6, i7, i8⟩, i9⟩ := id iv
  exact (iv.fin s z (f.cell i5 i8 (by omega)) f3 q ok ot ht).1
theorem IVs.mm1 (iv : IVs a m o h bk dr t tn tp th ea n S B Rs) {h1 : hp_M} (f : fr a (a + 106) h h1) : is_MM h1 m t tn tp th ea n S B.2.1.length (alV B.2.1) Rs := by
  obtain ⟨i1, i2, i3, i4, ⟨g, i5⟩, ⟨i6, i7, i8⟩, i9⟩ := iv
  exact i2.keep f (by omega) (by omega)
end
theorem okY_set {n : Nat} {S : skyV} (ok : okY n S.1) {i k : Nat} (hk : k < 360) : okY n (setV S i (ix k)).1 := by
  intro j hj
  show okp (upP S.1 i (upd (upd (S.1 i) 4 (ix k)) 5 (ix k)) j)
  unfold upP
  by_cases q : j = i
  · subst q
    rw [if_pos rfl]
    obtain ⟨o1, o2, o3, o4⟩ := ok j hj
    have b : 0 ≤ (ix k).toInt ∧ (ix k).toInt < 360 := by rw [ix_toInt (by omega)]; omega
    exact ⟨o1, o2, b, b⟩
  · rw [if_neg q]; exact ok j hj
theorem byV_ok (x : Int32) (j : Nat) : ∃ b, b < 256 ∧ byV x j = ix b := by
  have h : (byV x j).toBitVec.toNat < 256 := by
    unfold byV
    rw [Int32.toBitVec_and, BitVec.toNat_and]
    exact Nat.lt_of_le_of_lt Nat.and_le_right (by decide)
  exact ⟨_, h, (ix_bv _).symm⟩
theorem okT_fed {tn : Nat} {tp : Nat → Int32} (ot : okT tn tp) (X : Nat → Int32) : okT (tn + 20) (fedV tp tn X) := fun i hi => by
  unfold fedV
  by_cases q : i < tn
  · rw [if_pos q]; exact ot i q
  · rw [if_neg q]; exact byV_ok _ _
