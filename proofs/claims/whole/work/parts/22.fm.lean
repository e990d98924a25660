/-! floorMod, and the gap of both sides. -/
theorem i32_msb (x : Int32) : (0 ≤ x) ↔ x.toBitVec.msb = false := by
  rw [i32_le, show (0 : Int32).toInt = 0 from by decide, BitVec.msb_eq_toInt]
  show 0 ≤ x.toBitVec.toInt ↔ _
  simp
theorem i32_xor_nn {x y : Int32} (hy : 0 ≤ y) : (0 ≤ x ^^^ y) ↔ 0 ≤ x := by
  rw [i32_msb] at hy
  rw [i32_msb, i32_msb, Int32.toBitVec_xor, BitVec.msb_xor, hy]
  simp
def fm (x y : Int32) : Int32 := if 0 ≤ x then rm x y else if rm x y = 0 then rm x y else rm x y + y
theorem fmI_of {x y : Int32} (hy : 0 < y.toInt) : fmI x y = some (fm x y) := by
  have hy0 : y ≠ 0 := fun h => by rw [h] at hy; exact absurd hy (by decide)
  have hyn : 0 ≤ y := by rw [i32_le, show (0 : Int32).toInt = 0 from by decide]; omega
  unfold fmI fm
  rw [remI_of hy0]
  simp only [Option.bind_some, i32_xor_nn hyn]
  split <;> first | rfl | (split <;> rfl)
theorem fm_toInt {x y : Int32} (hy : 0 < y.toInt) : (fm x y).toInt = x.toInt % y.toInt := by
  have z : (0 : Int32).toInt = 0 := by decide
  have hr := rm_toInt (x := x) hy
  have hm := Int.emod_nonneg x.toInt (b := y.toInt) (by omega)
  have hy2 := Int32.toInt_lt y
  unfold fm
  split
  · next h =>
    rw [i32_le, z] at h
    rw [hr, Int.tmod_eq_emod_of_nonneg h]
  · next h =>
    rw [i32_le, z] at h
    have hn := Int.tmod_nonneg (a := -x.toInt) y.toInt (by omega)
    rw [Int.neg_tmod] at hn
    have hl : - y.toInt < x.toInt.tmod y.toInt := by
      have := Int.tmod_lt_of_pos (-x.toInt) hy
      rw [Int.neg_tmod] at this
      omega
    have hd : x.toInt.tmod y.toInt % y.toInt = x.toInt % y.toInt := by
      have h0 := Int.tdiv_mul_add_tmod x.toInt y.toInt
      have h2 : (x.toInt.tdiv y.toInt * y.toInt + x.toInt.tmod y.toInt) % y.toInt = x.toInt.tmod y.toInt % y.toInt := by simp
      rw [h0] at h2
      exact h2.symm
    split
    · next h1 =>
      rw [← Int32.toInt_inj, hr, z] at h1
      rw [hr, h1]
      rw [h1] at hd
      simpa using hd
    · next h1 =>
      rw [← Int32.toInt_inj, hr, z] at h1
      rw [i32_add] <;> rw [hr]
      · rw [← hd]
        have : (x.toInt.tmod y.toInt + y.toInt) % y.toInt = x.toInt.tmod y.toInt + y.toInt := Int.emod_eq_of_lt (by omega) (by omega)
        rw [← this, Int.add_emod_right]
      · omega
      · omega
theorem gap_eq {x : Int32} (h1 : -1000 < x.toInt) (h2 : x.toInt < 1000) : (if fm x 360 ≤ 180 then fm x 360 else fm x 360 - 360) = sht x := by
  have e : (360 : Int32).toInt = 360 := by decide
  have e2 : (180 : Int32).toInt = 180 := by decide
  have e3 : (-180 : Int32).toInt = -180 := by decide
  have hf := fm_toInt (x := x) (y := 360) (by rw [e]; omega)
  have hr := rm_toInt (x := x) (y := 360) (by rw [e]; omega)
  rw [e] at hf hr
  have ht : x.toInt.tmod 360 = if 0 ≤ x.toInt then x.toInt % 360 else -((-x.toInt) % 360) := by
    split
    · next h => rw [Int.tmod_eq_emod_of_nonneg h]
    · next h =>
      have := Int.tmod_eq_emod_of_nonneg (a := -x.toInt) (b := 360) (by omega)
      rw [Int.neg_tmod] at this
      omega
  have a1 : (fm x 360 - 360).toInt = (fm x 360).toInt - 360 := by rw [i32_sub, e] <;> rw [e, hf] <;> omega
  have a2 : (rm x 360 - 360).toInt = (rm x 360).toInt - 360 := by
    rw [i32_sub, e] <;> rw [e, hr, ht] <;> split <;> omega
  have a3 : (rm x 360 + 360).toInt = (rm x 360).toInt + 360 := by
    rw [i32_add, e] <;> rw [e, hr, ht] <;> split <;> omega
  apply Int32.toInt_inj.mp
  unfold sht
  simp only [i32_lt, i32_le, e2, e3, hf, hr]
  rw [ht]
  split at ht <;> (repeat' split) <;> simp only [hf, hr, a1, a2, a3] <;> omega
theorem sht_bd (x : Int32) : -180 < (sht x).toInt ∧ (sht x).toInt ≤ 180 := by
  have e : (360 : Int32).toInt = 360 := by decide
  have e2 : (180 : Int32).toInt = 180 := by decide
  have e3 : (-180 : Int32).toInt = -180 := by decide
  have hr := rm_toInt (x := x) (y := 360) (by rw [e]; omega)
  rw [e] at hr
  have b1 : -360 < (rm x 360).toInt := by
    rw [hr]
    have := Int.tmod_lt_of_pos (-x.toInt) (b := 360) (by omega)
    rw [Int.neg_tmod] at this
    omega
  have b2 : (rm x 360).toInt < 360 := by
    rw [hr]
    exact Int.tmod_lt_of_pos _ (by omega)
  have a2 : (rm x 360 - 360).toInt = (rm x 360).toInt - 360 := by
    rw [i32_sub, e] <;> rw [e] <;> omega
  have a3 : (rm x 360 ≤ -180) → (rm x 360 + 360).toInt = (rm x 360).toInt + 360 := fun h => by
    rw [i32_le, e3] at h
    rw [i32_add, e] <;> rw [e] <;> omega
  unfold sht
  split
  · next h =>
    rw [i32_le, e2] at h
    split
    · next h1 =>
      rw [i32_lt, e3] at h1
      omega
    · next h1 =>
      rw [i32_lt, e3] at h1
      rw [a3 (by rw [i32_le, e3]; omega)]
      omega
  · next h =>
    rw [i32_le, e2] at h
    rw [a2]
    omega
