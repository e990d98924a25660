/-! What items mean, and the class's reckoning. -/
def askV (P : Nat → Nat → Int32) (pn : Nat) (d : Int32) (k u v : Nat) : Int32 :=
  if k = 0 then ix u else if k = 1 then d else if k = 2 then ix pn else if k = 3 then P u 4 else if k = 4 then P u 6 else if k = 5 then sht (P u 4 - P v 4) else if k = 6 then rv (P u) d else if k = 7 then (if P v 0 < P u 0 then 0 else meetV (P u) (P v) 0) else meetV (P u) (P v) 180
def turV (k : Nat) (x : Int32) : Int32 := if k = 9 then -x else if x = 0 then 1 else 0
def b01 (b : Bool) : Int32 := if b then 1 else 0
def joiV (k : Nat) (x y : Int32) : Int32 :=
  if k = 11 then x &&& y else if k = 12 then x ||| y else if k = 13 then imin x y else if k = 14 then imax x y else if k = 15 then x + y else if k = 16 then x - y else if k = 17 then x * y else if k = 18 then (if y = 0 then 0 else x / y) else if k = 19 then (if y = 0 then 0 else rm x y) else if k = 20 then b01 (decide (x < y)) else if k = 21 then b01 (decide (y < x)) else if k = 22 then b01 (decide (x = y)) else if k = 23 then b01 (decide (x ≤ y)) else b01 (decide (y ≤ x))
def okIt (n : Nat) (q : Nat × Nat × Nat) : Prop := q.1 ≤ 24 ∧ q.2.1 < 2147483648 ∧ ((q.1 = 3 ∨ q.1 = 4 ∨ q.1 = 6) → q.2.1 < n) ∧ ((q.1 = 5 ∨ q.1 = 7 ∨ q.1 = 8) → q.2.1 < n ∧ q.2.2 < n)
theorem f_Pr_truth_of (b : Bool) (h : hp_M) : f_Pr_truth (b01 b) h = some (b01 b) := by cases b <;> rfl
theorem f_Pr_truth_rv (p : Nat → Int32) (d : Int32) (h : hp_M) : f_Pr_truth (rv p d) h = some (rv p d) := by
  rcases rv_01 p d with q | q <;> rw [q] <;> rfl
theorem meetV_01 (p q : Nat → Int32) (f : Int32) : meetV p q f = 0 ∨ meetV p q f = 1 := met_01 _ _
theorem f_Pr_truth_met (p q : Nat → Int32) (f : Int32) (h : hp_M) : f_Pr_truth (meetV p q f) h = some (meetV p q f) := by
  rcases meetV_01 p q f with q | q <;> rw [q] <;> rfl
theorem f_Pr_turned_of {k : Nat} (hk : k = 9 ∨ k = 10) (x : Int32) (h : hp_M) : f_Pr_turned (ix k) x h = some (turV k x) := by
  unfold f_Pr_turned turV jn
  rcases hk with rfl | rfl
  · rfl
  · rw [if_neg (by decide), if_neg (by decide)]
    split <;> rfl
theorem f_Pr_joined_of {k : Nat} (hk : 11 ≤ k ∧ k ≤ 24) (x y : Int32) (h : hp_M) : f_Pr_joined (ix k) x y h = some (joiV k x y) := by
  have hi : ∀ j : Nat, j < 25 → (ix k = ix j ↔ k = j) := fun j hj => ix_inj (by omega) (by omega)
  unfold f_Pr_joined joiV jn
  rw [show (11 : Int32) = ix 11 from rfl, show (12 : Int32) = ix 12 from rfl, show (13 : Int32) = ix 13 from rfl, show (14 : Int32) = ix 14 from rfl, show (15 : Int32) = ix 15 from rfl, show (16 : Int32) = ix 16 from rfl, show (17 : Int32) = ix 17 from rfl, show (18 : Int32) = ix 18 from rfl, show (19 : Int32) = ix 19 from rfl, show (20 : Int32) = ix 20 from rfl, show (21 : Int32) = ix 21 from rfl, show (22 : Int32) = ix 22 from rfl, show (23 : Int32) = ix 23 from rfl]
  have t0 : f_Pr_truth 0 h = some 0 := rfl
  have t1 : f_Pr_truth 1 h = some 1 := rfl
  have : k = 11 ∨ k = 12 ∨ k = 13 ∨ k = 14 ∨ k = 15 ∨ k = 16 ∨ k = 17 ∨ k = 18 ∨ k = 19 ∨ k = 20 ∨ k = 21 ∨ k = 22 ∨ k = 23 ∨ k = 24 := by omega
  simp only [t0, t1, Option.bind_some, hi 11 (by omega), hi 12 (by omega), hi 13 (by omega), hi 14 (by omega), hi 15 (by omega), hi 16 (by omega), hi 17 (by omega), hi 18 (by omega), hi 19 (by omega), hi 20 (by omega), hi 21 (by omega), hi 22 (by omega), hi 23 (by omega)]
  have d1 : ∀ q, ¬ y = 0 → divI q y = some (q / y) := fun q hq => by unfold divI; rw [if_neg hq]
  rcases this with r | r | r | r | r | r | r | r | r | r | r | r | r | r <;> subst r <;> simp only [Nat.reduceEqDiff, if_true, if_false, b01, decide_eq_true_eq]
  · split
    · rfl
    · next hq => rw [d1 x hq]; rfl
  · split
    · rfl
    · next hq => rw [remI_of hq]; rfl
  · simp only [i32_lt, i32_le]; (repeat' split) <;> first | rfl | (exfalso; omega)
  · simp only [i32_lt, i32_le]; (repeat' split) <;> first | rfl | (exfalso; omega)
  · split <;> rfl
  · simp only [i32_lt, i32_le]; (repeat' split) <;> first | rfl | (exfalso; omega)
  · simp only [i32_lt, i32_le]; (repeat' split) <;> first | rfl | (exfalso; omega)
theorem f_Pr_asked_of {h : hp_M} {a n : Nat} {P : Nat → Nat → Int32} {wt : Nat → Int32} {pn : Nat} {pp : Nat → Int32} {d : Int32} (t : is_Sk h a n P wt pn pp d) (ok : okY n P) {k u v : Nat} (hk : k < 9) (o : okIt n (k, u, v)) : f_Pr_asked (ix k) (ix u) (ix v) a h = some (askV P pn d k u v) := by
  have hi : ∀ j : Nat, j < 25 → (ix k = ix j ↔ k = j) := fun j hj => ix_inj (by omega) (by omega)
  obtain ⟨_, _, o1, o2⟩ := o
  dsimp only at o1 o2
  have : k = 0 ∨ k = 1 ∨ k = 2 ∨ k = 3 ∨ k = 4 ∨ k = 5 ∨ k = 6 ∨ k = 7 ∨ k = 8 := by omega
  rcases this with r | r | r | r | r | r | r | r | r <;> subst r
  · rfl
  · show (onO h a 7 (f_Sk_day a h)).bind (fun r3 => some r3) = some d
    rw [t.on, t.day]; rfl
  · show (onO h a 7 (f_Sk_paper a h)).bind (fun r5 => (onO h r5 2 (f_Pp_size r5 h)).bind fun r6 => some r6) = some (ix pn)
    rw [t.on, t.fpaper]
    simp only [Option.bind_some]
    rw [t.paper.on, t.paper.size]
    rfl
  · show (onO h a 7 (f_Sk_angleOf a (ix u) h)).bind (fun r3 => some r3) = some (P u 4)
    rw [t.on, t.angleOf (o1 (by omega))]; rfl
  · show (onO h a 7 (f_Sk_lapOf a (ix u) h)).bind (fun r3 => some r3) = some (P u 6)
    rw [t.on, t.lapOf (o1 (by omega))]; rfl
  · show (onO h a 7 (f_Sk_gapOf a (ix u) (ix v) h)).bind (fun r3 => some r3) = some (sht (P u 4 - P v 4))
    rw [t.on, t.gapOf (o2 (by omega)).1 (o2 (by omega)).2]; rfl
  · show (onO h a 7 (f_Sk_isRetro a (ix u) h)).bind (fun r3 => (f_Pr_truth r3 h).bind fun r4 => some r4) = some (rv (P u) d)
    rw [t.on, t.isRetro ok (o1 (by omega))]
    simp only [Option.bind_some, f_Pr_truth_rv]
  · show (onO h a 7 (f_Sk_isInside a (ix u) (ix v) h)).bind (fun r26 => if r26 = 0 then (f_Pr_truth 0 h).bind fun r21 => some r21 else (onO h a 7 (f_Sk_areMet a (ix u) (ix v) 0 h)).bind fun r28 => if r28 = 0 then (f_Pr_truth 0 h).bind fun r21 => some r21 else (f_Pr_truth 1 h).bind fun r21 => some r21) = some (if P v 0 < P u 0 then 0 else meetV (P u) (P v) 0)
    rw [t.on, t.on, t.isInside (o2 (by omega)).1 (o2 (by omega)).2, t.areMet (o2 (by omega)).1 (o2 (by omega)).2]
    simp only [Option.bind_some]
    by_cases hq : P v 0 < P u 0
    · simp only [if_pos hq]; rfl
    · simp only [if_neg hq]
      rw [if_neg (show ¬ (1 : Int32) = 0 by decide), if_pos trivial]
      rcases meetV_01 (P u) (P v) 0 with q | q <;> rw [q] <;> rfl
  · show (onO h a 7 (f_Sk_areMet a (ix u) (ix v) 1 h)).bind (fun r3 => (f_Pr_truth r3 h).bind fun r4 => some r4) = some (meetV (P u) (P v) 180)
    rw [t.on, t.areMet (o2 (by omega)).1 (o2 (by omega)).2, if_neg (show ¬ (1 : Int32) = 0 by decide)]
    simp only [Option.bind_some, f_Pr_truth_met]
