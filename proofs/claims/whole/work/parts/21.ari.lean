/-! Remainders, gaps, and a planet's day. -/
def rm (x y : Int32) : Int32 := x - x / y * y
theorem remI_of {x y : Int32} (h : y ≠ 0) : remI x y = some (rm x y) := by unfold remI; rw [if_neg h]; rfl
theorem bm_id {n : Int} (h1 : -2147483648 ≤ n) (h2 : n < 2147483648) : n.bmod (2 ^ 32) = n := Int.bmod_eq_of_le (by omega) (by omega)
theorem i32_add {x y : Int32} (h1 : -2147483648 ≤ x.toInt + y.toInt) (h2 : x.toInt + y.toInt < 2147483648) : (x + y).toInt = x.toInt + y.toInt := by
  rw [Int32.toInt_add, bm_id h1 h2]
theorem i32_sub {x y : Int32} (h1 : -2147483648 ≤ x.toInt - y.toInt) (h2 : x.toInt - y.toInt < 2147483648) : (x - y).toInt = x.toInt - y.toInt := by
  rw [Int32.toInt_sub, bm_id h1 h2]
theorem i32_neg {x : Int32} (h1 : -2147483648 < x.toInt) : (-x).toInt = -x.toInt := by
  have := Int32.toInt_lt x
  rw [Int32.toInt_neg, bm_id (by omega) (by omega)]
theorem rm_toInt {x y : Int32} (hy : 0 < y.toInt) : (rm x y).toInt = x.toInt.tmod y.toInt := by
  have hx1 := Int32.le_toInt x
  have hx2 := Int32.toInt_lt x
  have hq : (x / y).toInt = x.toInt.tdiv y.toInt := Int32.toInt_div_of_ne_right x y (by
    intro h
    rw [h] at hy
    exact absurd hy (by decide))
  have h0 := Int.tdiv_mul_add_tmod x.toInt y.toInt
  have b1 : (x.toInt.tmod y.toInt).natAbs ≤ x.toInt.natAbs := by
    rw [Int.natAbs_tmod]
    exact Nat.mod_le _ _
  have s1 : 0 ≤ x.toInt → 0 ≤ x.toInt.tmod y.toInt := fun h => Int.tmod_nonneg _ h
  have s2 : x.toInt ≤ 0 → x.toInt.tmod y.toInt ≤ 0 := fun h => by
    have := Int.tmod_nonneg (a := -x.toInt) y.toInt (by omega)
    rw [Int.neg_tmod] at this
    omega
  have hm : (x / y * y).toInt = x.toInt.tdiv y.toInt * y.toInt := by
    rw [Int32.toInt_mul, hq, bm_id] <;> omega
  unfold rm
  rw [i32_sub] <;> rw [hm] <;> omega
def adj (t : Int32) : Int32 := if t < 360 then (if 0 ≤ t then t else t + 360) else t - 360
theorem i32_lt {x y : Int32} : x < y ↔ x.toInt < y.toInt := Int32.lt_iff_toInt_lt
theorem i32_le {x y : Int32} : x ≤ y ↔ x.toInt ≤ y.toInt := Int32.le_iff_toInt_le
theorem adj_rm {t : Int32} (h1 : -360 ≤ t.toInt) (h2 : t.toInt < 720) : rm (t + 360) 360 = adj t := by
  have e : (360 : Int32).toInt = 360 := by decide
  have z : (0 : Int32).toInt = 0 := by decide
  have e1 : (t + 360).toInt = t.toInt + 360 := by rw [i32_add, e] <;> rw [e] <;> omega
  have e2 : (t - 360).toInt = t.toInt - 360 := by rw [i32_sub, e] <;> rw [e] <;> omega
  apply Int32.toInt_inj.mp
  rw [rm_toInt (by rw [e]; omega), e, e1, Int.tmod_eq_emod_of_nonneg (by omega)]
  unfold adj
  simp only [i32_lt, i32_le, e, z]
  split
  · split
    · omega
    · rw [e1]; omega
  · rw [e2]; omega
theorem adj_bd {t : Int32} (h1 : -360 ≤ t.toInt) (h2 : t.toInt < 720) : 0 ≤ (adj t).toInt ∧ (adj t).toInt < 360 := by
  have e : (360 : Int32).toInt = 360 := by decide
  have z : (0 : Int32).toInt = 0 := by decide
  have e1 : (t + 360).toInt = t.toInt + 360 := by rw [i32_add, e] <;> rw [e] <;> omega
  have e2 : (t - 360).toInt = t.toInt - 360 := by rw [i32_sub, e] <;> rw [e] <;> omega
  unfold adj
  simp only [i32_lt, i32_le, e, z]
  split
  · split
    · omega
    · rw [e1]; omega
  · rw [e2]; omega
def sht (x : Int32) : Int32 := if rm x 360 ≤ 180 then (if -180 < rm x 360 then rm x 360 else rm x 360 + 360) else rm x 360 - 360
theorem f_Pl_shortest_of (x : Int32) (h : hp_M) : f_Pl_shortest x h = some (sht x) := by
  unfold f_Pl_shortest sht
  rw [remI_of (by decide)]
  simp only [Option.bind_some]
  split <;> first | rfl | (split <;> rfl)
