/-! A planet. -/
theorem wr_id {h : hp_M} {a : Nat} {e : va_E} (he : h.1 a = some e) : wr h a e = h := by
  unfold wr
  have : va_up h.1 a (some e) = h.1 := by
    funext q
    by_cases hq : q = a
    · subst hq; rw [va_up_self, he]
    · rw [va_up_ne _ _ hq]
  rw [this]
theorem wr_wr (h : hp_M) (a : Nat) (e e' : va_E) : wr (wr h a e) a e' = wr h a e' := by
  unfold wr
  have : va_up (va_up h.1 a (some e)) a (some e') = va_up h.1 a (some e') := by
    funext q
    by_cases hq : q = a
    · subst hq; rw [va_up_self, va_up_self]
    · rw [va_up_ne _ _ hq, va_up_ne _ _ hq, va_up_ne _ _ hq]
  rw [this]
theorem gF_wr (h : hp_M) (a ci k : Nat) (fs : List Value) : gF (wr h a (oC ci fs)) a ci k = fs[k]? := by
  unfold gF; rw [wr_self]; simp
theorem gI_wr (h : hp_M) (a ci k : Nat) (fs : List Value) : gI (wr h a (oC ci fs)) a ci k = (fs[k]?).bind vI := by
  unfold gI; rw [gF_wr]
theorem gR_wr (h : hp_M) (a ci k : Nat) (fs : List Value) : gR (wr h a (oC ci fs)) a ci k = (fs[k]?).bind vR := by
  unfold gR; rw [gF_wr]
theorem pF_wr (h : hp_M) (a ci k : Nat) (fs : List Value) (v : Value) : pF (wr h a (oC ci fs)) a ci k v = if k < fs.length then some (wr h a (oC ci (fs.set k v))) else none := by
  split
  · next hk => rw [pF_of (wr_self h a _) hk, wr_wr]
  · next hk => unfold pF; rw [wr_self]; simp [hk]
theorem onO_wr {β : Type} (h : hp_M) (a ci : Nat) (fs : List Value) (g : Option β) : onO (wr h a (oC ci fs)) a ci g = g := onO_of (wr_self h a _)
def pfs (p : Nat → Int32) : List Value := [.int (p 0), .int (p 1), .int (p 2), .int (p 3), .int (p 4), .int (p 5), .int (p 6)]
def rv (p : Nat → Int32) (d : Int32) : Int32 := if p 2 ≤ rm d (p 3) then 0 else 1
def mvt (p : Nat → Int32) (d : Int32) : Int32 := p 4 + (if rv p d = 0 then p 1 else - p 1)
def mv (p : Nat → Int32) (d : Int32) : Nat → Int32 := fun k => if k = 4 then adj (mvt p d) else if k = 5 then p 4 else if k = 6 then (if mvt p d < 360 then (if 0 ≤ mvt p d then p 6 else p 6 - 1) else p 6 + 1) else p k
theorem pos_ne {y : Int32} (hy : 0 < y.toInt) : y ≠ 0 := fun h => by rw [h] at hy; exact absurd hy (by decide)
theorem pos_nle {y : Int32} (hy : 0 < y.toInt) : ¬ y ≤ 0 := by rw [i32_le, show (0 : Int32).toInt = 0 from by decide]; omega
section
variable {h : hp_M} {a : Nat} {p : Nat → Int32}
theorem f_Pl_isRetro_of (e : h.1 a = some (oC 3 (pfs p))) (hv : 0 < (p 3).toInt) (d : Int32) : f_Pl_isRetro a d h = some (rv p d) := by
  rw [← wr_id e]
  unfold f_Pl_isRetro jn rv
  simp only [gI_wr, pfs, List.getElem?_cons_succ, List.getElem?_cons_zero, Option.bind_some, vI, if_neg (pos_nle hv), remI_of (pos_ne hv)]
  split <;> rfl
theorem f_Pl_turn_of (e : h.1 a = some (oC 3 (pfs p))) (hv : 0 < (p 3).toInt) (d : Int32) : f_Pl_turn a d h = some (wr h a (oC 3 (pfs (mv p d)))) := by
  have hr : ∀ h0, f_Pl_isRetro a d (wr h0 a (oC 3 [.int (p 0), .int (p 1), .int (p 2), .int (p 3), .int (p 4), .int (p 4), .int (p 6)])) = some (rv p d) := fun h0 => by
    have := f_Pl_isRetro_of (p := upd p 5 (p 4)) (wr_self h0 a _) (by simpa [upd] using hv) d
    simpa [pfs, upd, rv] using this
  rw [← wr_id e]
  unfold f_Pl_turn jn
  simp only [gI_wr, pF_wr, pfs, List.getElem?_cons_succ, List.getElem?_cons_zero, Option.bind_some, vI, onO_wr, List.length_cons, List.length_nil, List.set_cons_succ, List.set_cons_zero, Nat.reduceAdd, Nat.reduceLT, if_true, hr, wr_wr]
  have key : ∀ t, t = mvt p d → (if t < 360 then if 0 ≤ t then some (wr h a (oC 3 [.int (p 0), .int (p 1), .int (p 2), .int (p 3), .int t, .int (p 4), .int (p 6)])) else some (wr h a (oC 3 [.int (p 0), .int (p 1), .int (p 2), .int (p 3), .int (t + 360), .int (p 4), .int (p 6 - 1)])) else some (wr h a (oC 3 [.int (p 0), .int (p 1), .int (p 2), .int (p 3), .int (t - 360), .int (p 4), .int (p 6 + 1)]))) = some (wr h a (oC 3 [.int (mv p d 0), .int (mv p d 1), .int (mv p d 2), .int (mv p d 3), .int (mv p d 4), .int (mv p d 5), .int (mv p d 6)])) := fun t ht => by
    subst ht
    simp only [mv, adj]
    by_cases h2 : mvt p d < 360
    · by_cases h3 : 0 ≤ mvt p d <;> simp [h2, h3]
    · simp [h2]
  by_cases h1 : rv p d = 0
  · simp only [h1, if_true]
    exact key _ (by simp [mvt, h1])
  · simp only [h1, if_false]
    exact key _ (by simp [mvt, h1])
theorem f_Pl_copyFrom_of {b : Nat} {q : Nat → Int32} (e : h.1 a = some (oC 3 (pfs p))) (e1 : h.1 b = some (oC 3 (pfs q))) (n : a ≠ b) : f_Pl_copyFrom a b h = some (wr h a (oC 3 (pfs q))) := by
  rw [← wr_id e]
  have g : ∀ e0 k, gI (wr h a e0) b 3 k = ((pfs q)[k]?).bind vI := fun e0 k => by
    unfold gI gF; rw [wr_ne h e0 (Ne.symm n), e1]; simp
  unfold f_Pl_copyFrom
  simp only [g, pF_wr, pfs, List.getElem?_cons_succ, List.getElem?_cons_zero, Option.bind_some, vI, List.length_cons, List.length_nil, List.set_cons_succ, List.set_cons_zero, Nat.reduceAdd, Nat.reduceLT, if_true, wr_wr]
theorem f_Pl_putAt_of (e : h.1 a = some (oC 3 (pfs p))) (x : Int32) : f_Pl_putAt a x h = some (wr h a (oC 3 (pfs (upd (upd p 4 x) 5 x)))) := by
  rw [← wr_id e]
  unfold f_Pl_putAt
  simp only [gI_wr, pF_wr, pfs, List.getElem?_cons_succ, List.getElem?_cons_zero, Option.bind_some, vI, List.length_cons, List.length_nil, List.set_cons_succ, List.set_cons_zero, Nat.reduceAdd, Nat.reduceLT, if_true, wr_wr]
  simp [upd]
def tl (x1 x2 x3 x4 x5 : Int32) : Nat → Int32 := fun k => if k = 0 then x1 else if k = 1 then x2 else if k = 2 then x4 else if k = 3 then x5 else if k = 4 then x3 else if k = 5 then x3 else 0
theorem f_Pl_tell_of (e : h.1 a = some (oC 3 (pfs p))) (x1 x2 x3 x4 x5 : Int32) : f_Pl_tell a x1 x2 x3 x4 x5 h = some (wr h a (oC 3 (pfs (tl x1 x2 x3 x4 x5)))) := by
  rw [← wr_id e]
  unfold f_Pl_tell
  simp only [gI_wr, pF_wr, pfs, List.getElem?_cons_succ, List.getElem?_cons_zero, Option.bind_some, vI, List.length_cons, List.length_nil, List.set_cons_succ, List.set_cons_zero, Nat.reduceAdd, Nat.reduceLT, if_true, wr_wr, onO_wr]
  have := f_Pl_putAt_of (p := fun k => if k = 0 then x1 else if k = 1 then x2 else if k = 2 then x4 else if k = 3 then x5 else if k = 6 then 0 else p k) (wr_self h a _) x3
  simp [pfs, wr_wr, upd] at this
  simp [this, tl]
theorem f_Pl_rail_of (e : h.1 a = some (oC 3 (pfs p))) : f_Pl_rail a h = some (p 0) := by unfold f_Pl_rail; rw [gI_of e rfl]; rfl
theorem f_Pl_angle_of (e : h.1 a = some (oC 3 (pfs p))) : f_Pl_angle a h = some (p 4) := by unfold f_Pl_angle; rw [gI_of e rfl]; rfl
theorem f_Pl_angleBefore_of (e : h.1 a = some (oC 3 (pfs p))) : f_Pl_angleBefore a h = some (p 5) := by unfold f_Pl_angleBefore; rw [gI_of e rfl]; rfl
theorem f_Pl_lap_of (e : h.1 a = some (oC 3 (pfs p))) : f_Pl_lap a h = some (p 6) := by unfold f_Pl_lap; rw [gI_of e rfl]; rfl
def fact (p : Nat → Int32) (d : Int32) : Nat → Int32 := fun k => if k = 0 then p 0 else if k = 1 then p 1 else if k = 2 then p 4 else if k = 3 then p 6 else if k = 4 then p 2 else if k = 5 then p 3 else rv p d
theorem f_Pl_fact_of (e : h.1 a = some (oC 3 (pfs p))) (hv : 0 < (p 3).toInt) (d : Int32) {k : Nat} (hk : k < 7) : f_Pl_fact a (ix k) d h = some (fact p d k) := by
  unfold f_Pl_fact
  rw [onO_of e, f_Pl_isRetro_of e hv]
  rw [gI_of e rfl, gI_of e rfl, gI_of e rfl, gI_of e rfl, gI_of e rfl, gI_of e rfl]
  have : k = 0 ∨ k = 1 ∨ k = 2 ∨ k = 3 ∨ k = 4 ∨ k = 5 ∨ k = 6 := by omega
  rcases this with r | r | r | r | r | r | r <;> subst r <;> simp [fact, ix, rv]
  all_goals (try (split <;> simp))
end
