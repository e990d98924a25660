/-! The class is taught: its object. -/
section
variable {w : hp_W} {h : hp_M} {a bk dr tn : Nat} {tp : Nat → Int32} {ea : Int32} {n : Nat} {S : skyV} {B : bkV}
theorem SS_teach (ow : okW w) (ot : okT tn tp) (o : is_SS h a bk dr tn tp ea n S B) {fl : Nat} (hfl : 5000 ≤ fl) : ∃ h', f_SS_teach w fl a h = some ((rdV tn tp).1, h') ∧ ((rdV tn tp).1 ≠ 0 → is_SS h' a bk dr 0 tp (rdV tn tp).2.1 n S B) ∧ ((rdV tn tp).1 = 0 → is_SS h' a dr bk 0 tp (rdV tn tp).2.1 (rdV tn tp).2.2.1.length (plOf (rdV tn tp).2.2, S.2.1, S.2.2.1, S.2.2.2.1, fun _ => 0) (rdV tn tp).2.2) ∧ fr a (a + 106) h h' ∧ h'.2 = h.2 := by
  obtain ⟨o1, o2, o3, o4, o5, ⟨n', S', o6⟩, o7, ⟨B', o8⟩, o9⟩ := o
  obtain ⟨h1, e1, p1, r1, ⟨B1, b1, q1⟩, f1, z1⟩ := readInto_of (r := a + 97) ow ot hfl (show a + 1 + 2 ≤ dr by omega) (show dr + 34 ≤ a + 97 by omega) o9 o4 o8
  obtain ⟨hm, fa, fb⟩ := f1.split
  have c1 : h1.1 a = some (oC 9 [.ref (a + 1), .ref (a + 97), .ref (a + 3), .ref (a + 16), .ref bk, .ref dr, .int ea]) := fb.cell (fa.cell o2 (by omega) (by omega)) (by have := fa.1; omega) (by omega)
  have t1 : is_Tp h1 (a + 1) tn tp := (o4.keep fa (by omega)).keep fb (by omega)
  have s1 : is_SK h1 (a + 3) n S := (o5.keep fa (by omega)).keep fb (by omega)
  have s1' : is_SK h1 (a + 16) n' S' := (o6.keep fa (by omega)).keep fb (by omega)
  have k1 : is_BK h1 bk B := (o7.keep fa (by omega)).keep fb (by omega)
  have fA : fr a (a + 106) h h1 := (fa.mono (by omega) (by omega)).trans (fb.mono (by omega) (by omega))
  -- the error's place
  obtain ⟨ep, hep⟩ : ∃ q, (rdV tn tp).2.1 = q := ⟨_, rfl⟩
  rw [hep] at p1
  have f2' := wr_fr h1 a (oC 9 [.ref (a + 1), .ref (a + 97), .ref (a + 3), .ref (a + 16), .ref bk, .ref dr, .int ep])
  have e2 : pF h1 a 9 6 (.int ep) = some (wr h1 a (oC 9 [.ref (a + 1), .ref (a + 97), .ref (a + 3), .ref (a + 16), .ref bk, .ref dr, .int ep])) := pF_of c1 (by simp)
  have c2 := wr_self h1 a (oC 9 [.ref (a + 1), .ref (a + 97), .ref (a + 3), .ref (a + 16), .ref bk, .ref dr, .int ep])
  have z2 : (wr h1 a (oC 9 [.ref (a + 1), .ref (a + 97), .ref (a + 3), .ref (a + 16), .ref bk, .ref dr, .int ep])).2 = h1.2 := rfl
  obtain ⟨h2, hh2⟩ : ∃ q, wr h1 a (oC 9 [.ref (a + 1), .ref (a + 97), .ref (a + 3), .ref (a + 16), .ref bk, .ref dr, .int ep]) = q := ⟨_, rfl⟩
  rw [hh2] at e2 c2 z2 f2'
  have t2 := t1.keep f2' (by omega)
  obtain ⟨h3, e3, t3, f3, z3⟩ := t2.keepFirst (Nat.zero_le tn)
  have c3 : h3.1 a = some (oC 9 [.ref (a + 1), .ref (a + 97), .ref (a + 3), .ref (a + 16), .ref bk, .ref dr, .int ep]) := f3.cell c2 (by omega) (by omega)
  have o3h : is_SS h3 a bk dr 0 tp ep n S B := ⟨by omega, c3, o3, t3, (s1.keep f2' (by omega)).keep f3 (by omega), ⟨n', S', (s1'.keep f2' (by omega)).keep f3 (by omega)⟩, (k1.keep f2' (by omega)).keep f3 (by omega), ⟨B1, (is_BK.keep b1 f2' (by omega)).keep f3 (by omega)⟩, (r1.keep f2' (by omega)).keep f3 (by omega)⟩
  have fB : fr a (a + 106) h h3 := (fA.trans (f2'.mono (by omega) (by omega))).trans (f3.mono (by omega) (by omega))
  have ron : onO h1 (a + 97) 5 (f_Rd_placeOfError (a + 97) h1) = some ep := by
    obtain ⟨_, ⟨_, _, _, _, q⟩, _⟩ := r1
    rw [onO_of q]; exact p1
  have ron0 : onO h (a + 97) 5 (f_Rd_readInto w fl (a + 97) dr h) = some ((rdV tn tp).1, h1) := by
    obtain ⟨_, ⟨_, _, _, _, q⟩, _⟩ := o9
    rw [onO_of q]; exact e1
  rw [hep]
  -- up to the tape's emptying
  have head : ∀ y, (if (rdV tn tp).1 = 0 then ((gR h3 a 9 4).bind fun v10 => (gR h3 a 9 5).bind fun v11 => (pF h3 a 9 4 (.ref v11)).bind fun h12 => (pF h12 a 9 5 (.ref v10)).bind fun h13 => (gR h13 a 9 2).bind fun v14 => (gR h13 a 9 4).bind fun v15 => (onO h13 v14 7 (f_Sk_startWith fl v14 v15 h13)).bind fun h16 => some ((rdV tn tp).1, h16)) else (some ((rdV tn tp).1, h3))) = y → f_SS_teach w fl a h = y := by
    intro y q
    unfold f_SS_teach
    refine bnd (gR_of o2 rfl) ?_
    refine bnd (gR_of o2 rfl) ?_
    refine bnd ron0 ?_
    refine bnd (gR_of c1 rfl) ?_
    refine bnd ron ?_
    refine bnd e2 ?_
    refine bnd (gR_of c2 rfl) ?_
    exact bnd ((t2.on _).trans e3) q
  by_cases g : (rdV tn tp).1 = 0
  · obtain ⟨_, _, _, _, s3, _, k3, ⟨_, _⟩, _⟩ := id o3h
    have b3 : is_BK h3 dr (rdV tn tp).2.2 := by
      have := (is_BK.keep b1 f2' (by omega)).keep f3 (by omega)
      rw [q1 g] at this; exact this
    have f4 := wr_fr h3 a (oC 9 [.ref (a + 1), .ref (a + 97), .ref (a + 3), .ref (a + 16), .ref dr, .ref bk, .int ep])
    have e4 : pF h3 a 9 4 (.ref dr) = some (wr h3 a (oC 9 [.ref (a + 1), .ref (a + 97), .ref (a + 3), .ref (a + 16), .ref dr, .ref dr, .int ep])) := pF_of c3 (by simp)
    have e5 : pF (wr h3 a (oC 9 [.ref (a + 1), .ref (a + 97), .ref (a + 3), .ref (a + 16), .ref dr, .ref dr, .int ep])) a 9 5 (.ref bk) = some (wr h3 a (oC 9 [.ref (a + 1), .ref (a + 97), .ref (a + 3), .ref (a + 16), .ref dr, .ref bk, .int ep])) := by
      rw [pF_of (wr_self _ _ _) (by simp), wr_wr]; rfl
    have c4 := wr_self h3 a (oC 9 [.ref (a + 1), .ref (a + 97), .ref (a + 3), .ref (a + 16), .ref dr, .ref bk, .int ep])
    have z4 : (wr h3 a (oC 9 [.ref (a + 1), .ref (a + 97), .ref (a + 3), .ref (a + 16), .ref dr, .ref bk, .int ep])).2 = h3.2 := rfl
    obtain ⟨h4, hh4⟩ : ∃ q, wr h3 a (oC 9 [.ref (a + 1), .ref (a + 97), .ref (a + 3), .ref (a + 16), .ref dr, .ref bk, .int ep]) = q := ⟨_, rfl⟩
    rw [hh4] at f4 c4 z4 e5
    have s4 : is_SK h4 (a + 3) n S := s3.keep f4 (by omega)
    have b4 : is_BK h4 dr (rdV tn tp).2.2 := b3.keep f4 (by omega)
    obtain ⟨h5, e6, s5, f5, z5⟩ := is_Sk.startWith (b := dr) s4 b4 (by omega) hfl
    have o4h : is_SS h4 a dr bk 0 tp ep n S (rdV tn tp).2.2 := by
      obtain ⟨i1, i2, i3, i4, i5, ⟨n6, S6, i6⟩, i7, ⟨B8, i8⟩, i9⟩ := o3h
      exact ⟨by omega, c4, by omega, i4.keep f4 (by omega), s4, ⟨n6, S6, i6.keep f4 (by omega)⟩, b4, ⟨B, k3.keep f4 (by omega)⟩, i9.keep f4 (by omega)⟩
    have o5h : is_SS h5 a dr bk 0 tp ep (rdV tn tp).2.2.1.length (plOf (rdV tn tp).2.2, S.2.1, S.2.2.1, S.2.2.2.1, fun _ => 0) (rdV tn tp).2.2 := by
      obtain ⟨i1, i2, i3, i4, i5, ⟨n6, S6, i6⟩, i7, ⟨B8, i8⟩, i9⟩ := o4h
      exact ⟨by omega, f5.cell i2 (by omega) (by omega), i3, i4.keep f5 (by omega), s5, ⟨n6, S6, i6.keep f5 (by omega)⟩, i7.keep f5 (by omega), ⟨B8, i8.keep f5 (by omega)⟩, i9.keep f5 (by omega)⟩
    refine ⟨h5, head _ (ite_p g ?_), fun q => absurd g q, fun _ => o5h, (fB.trans (f4.mono (by omega) (by omega))).trans (f5.mono (by omega) (by omega)), by omega⟩
    refine bnd (gR_of c3 rfl) ?_
    refine bnd (gR_of c3 rfl) ?_
    refine bnd e4 ?_
    refine bnd e5 ?_
    refine bnd (gR_of c4 rfl) ?_
    refine bnd (gR_of c4 rfl) ?_
    exact bnd ((is_Sk.on s4 _).trans e6) rfl
  · refine ⟨h3, head _ (ite_n g rfl), fun _ => o3h, fun q => absurd q g, fB, by omega⟩
end
