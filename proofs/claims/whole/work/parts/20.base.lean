/-! The pure part: indices, cells, frames. -/
def ix (n : Nat) : Int32 := Int32.ofNat n
theorem ix_toInt {n : Nat} (h : n < 2147483648) : (ix n).toInt = n := Int32.toInt_ofNat_of_lt h
theorem ix_clamp {n : Nat} (h : n < 2147483648) : (ix n).toNatClampNeg = n := by
  show (ix n).toInt.toNat = n
  rw [ix_toInt h]
  rfl
theorem ix_lt {i n : Nat} (hi : i < 2147483648) (hn : n < 2147483648) : ix i < ix n ↔ i < n := by
  rw [Int32.lt_iff_toInt_lt, ix_toInt hi, ix_toInt hn]
  omega
theorem ix_le {i n : Nat} (hi : i < 2147483648) (hn : n < 2147483648) : ix i ≤ ix n ↔ i ≤ n := by
  rw [Int32.le_iff_toInt_le, ix_toInt hi, ix_toInt hn]
  omega
theorem ix_inj {i n : Nat} (hi : i < 2147483648) (hn : n < 2147483648) : ix i = ix n ↔ i = n := by
  constructor
  · intro h
    have := congrArg Int32.toInt h
    rw [ix_toInt hi, ix_toInt hn] at this
    omega
  · intro h
    rw [h]
theorem ix_add (i n : Nat) : ix i + ix n = ix (i + n) := (Int32.ofNat_add i n).symm
theorem ix_add1 (i : Nat) : ix i + 1 = ix (i + 1) := ix_add i 1
theorem ix_sub {i n : Nat} (h : n ≤ i) : ix i - ix n = ix (i - n) := by
  have := ix_add (i - n) n
  rw [Nat.sub_add_cancel h] at this
  rw [← this]
  simp
theorem ix_nn {i : Nat} (hi : i < 2147483648) : ¬ ix i < 0 := by
  rw [show (0 : Int32) = ix 0 from rfl, ix_lt hi (by omega)]
  omega
theorem ix_mul (i n : Nat) : ix i * ix n = ix (i * n) := (Int32.ofNat_mul i n).symm
theorem ix_of {x : Int32} (h : 0 ≤ x) : ∃ n, n < 2147483648 ∧ x = ix n := by
  rw [Int32.le_iff_toInt_le] at h
  refine ⟨x.toInt.toNat, ?_, ?_⟩
  · have := Int32.toInt_lt x
    simp at h
    omega
  · apply Int32.toInt_inj.mp
    rw [ix_toInt]
    · simp at h
      omega
    · have := Int32.toInt_lt x
      simp at h
      omega
/-! Frames: what lies outside of an interval is kept. -/
def fr (lo hi : Nat) (h h' : hp_M) : Prop := h.2 ≤ h'.2 ∧ ∀ q, q < lo ∨ hi ≤ q → q < h.2 → h'.1 q = h.1 q
theorem fr.refl (lo hi : Nat) (h : hp_M) : fr lo hi h h := ⟨Nat.le_refl _, fun _ _ _ => rfl⟩
theorem fr.trans {lo hi : Nat} {h h1 h2 : hp_M} (f : fr lo hi h h1) (g : fr lo hi h1 h2) : fr lo hi h h2 :=
  ⟨Nat.le_trans f.1 g.1, fun q hq hl => (g.2 q hq (Nat.lt_of_lt_of_le hl f.1)).trans (f.2 q hq hl)⟩
theorem fr.mono {lo hi lo' hi' : Nat} {h h1 : hp_M} (f : fr lo hi h h1) (a : lo' ≤ lo) (b : hi ≤ hi') : fr lo' hi' h h1 :=
  ⟨f.1, fun q hq hl => f.2 q (by omega) hl⟩
theorem fr.cell {lo hi : Nat} {h h1 : hp_M} (f : fr lo hi h h1) {q : Nat} {e : va_E} (he : h.1 q = some e) (hl : q < h.2) (ho : q < lo ∨ hi ≤ q) : h1.1 q = some e := (f.2 q ho hl).trans he
def wr (h : hp_M) (a : Nat) (e : va_E) : hp_M := (va_up h.1 a (some e), h.2)
theorem wr_self (h : hp_M) (a : Nat) (e : va_E) : (wr h a e).1 a = some e := va_up_self _ _ _
theorem wr_ne (h : hp_M) {a q : Nat} (e : va_E) (n : q ≠ a) : (wr h a e).1 q = h.1 q := va_up_ne _ _ n
theorem wr_2 (h : hp_M) (a : Nat) (e : va_E) : (wr h a e).2 = h.2 := rfl
theorem wr_fr (h : hp_M) (a : Nat) (e : va_E) : fr a (a + 1) h (wr h a e) := ⟨Nat.le_refl _, fun q hq _ => wr_ne h e (by omega)⟩
theorem wr_frI {lo hi : Nat} (h : hp_M) {a : Nat} (e : va_E) (h1 : lo ≤ a) (h2 : a < hi) : fr lo hi h (wr h a e) := (wr_fr h a e).mono h1 h2
theorem hN_self (h : hp_M) (e : va_E) : (hN h e).1 h.2 = some e := va_up_self _ _ _
theorem hN_ne (h : hp_M) {q : Nat} (e : va_E) (n : q ≠ h.2) : (hN h e).1 q = h.1 q := va_up_ne _ _ n
theorem hN_2 (h : hp_M) (e : va_E) : (hN h e).2 = h.2 + 1 := rfl
theorem hN_fr (h : hp_M) (e : va_E) : fr 0 0 h (hN h e) := ⟨Nat.le_succ _, fun q _ hl => hN_ne h e (by omega)⟩
/-! Reads and writes of known cells. -/
section
variable {h : hp_M} {a ci k : Nat}
theorem gI_of {fs : List Value} {x : Int32} (e : h.1 a = some (oC ci fs)) (hk : fs[k]? = some (.int x)) : gI h a ci k = some x := by
  unfold gI gF; rw [e]; simp [hk, vI]
theorem gL_of {fs : List Value} {x : Int64} (e : h.1 a = some (oC ci fs)) (hk : fs[k]? = some (.long x)) : gL h a ci k = some x := by
  unfold gL gF; rw [e]; simp [hk, vL]
theorem gR_of {fs : List Value} {x : Nat} (e : h.1 a = some (oC ci fs)) (hk : fs[k]? = some (.ref x)) : gR h a ci k = some x := by
  unfold gR gF; rw [e]; simp [hk, vR]
theorem pF_of {fs : List Value} {v : Value} (e : h.1 a = some (oC ci fs)) (hk : k < fs.length) : pF h a ci k v = some (wr h a (oC ci (fs.set k v))) := by
  unfold pF; rw [e]; simp [hk, wr]
theorem onO_of {β : Type} {fs : List Value} {g : Option β} (e : h.1 a = some (oC ci fs)) : onO h a ci g = g := by
  unfold onO; rw [e]; simp
theorem gaI_of {n i : Nat} {f : Nat → Int32} (e : h.1 a = some (aI n f)) (hi : i < n) (hn : n < 2147483648) : gaI h a (ix i) = some (f i) := by
  have hb : i < 2147483648 := by omega
  unfold gaI; rw [e]; simp [ix_nn hb, ix_clamp hb]; omega
theorem gaL_of {n i : Nat} {f : Nat → Int64} (e : h.1 a = some (aL n f)) (hi : i < n) (hn : n < 2147483648) : gaL h a (ix i) = some (f i) := by
  have hb : i < 2147483648 := by omega
  unfold gaL; rw [e]; simp [ix_nn hb, ix_clamp hb]; omega
theorem gaR_of {t n i : Nat} {f : Nat → Option Nat} (e : h.1 a = some (aR t n f)) (hi : i < n) (hn : n < 2147483648) : gaR h t a (ix i) = f i := by
  have hb : i < 2147483648 := by omega
  unfold gaR; rw [e]; simp [ix_nn hb, ix_clamp hb, hi]
theorem gLen_of {n : Nat} {f : Nat → Int32} (e : h.1 a = some (aI n f)) : gLen h a = some (ix n) := by
  unfold gLen; rw [e]; rfl
theorem paI_of {n i : Nat} {x : Int32} {f : Nat → Int32} (e : h.1 a = some (aI n f)) (hi : i < n) (hn : n < 2147483648) : paI h a (ix i) x = some (wr h a (aI n (upd f i x))) := by
  have hb : i < 2147483648 := by omega
  unfold paI; rw [e]; simp [ix_nn hb, ix_clamp hb, wr]; omega
theorem paL_of {n i : Nat} {x : Int64} {f : Nat → Int64} (e : h.1 a = some (aL n f)) (hi : i < n) (hn : n < 2147483648) : paL h a (ix i) x = some (wr h a (aL n (vp_updL f i x))) := by
  have hb : i < 2147483648 := by omega
  unfold paL; rw [e]; simp [ix_nn hb, ix_clamp hb, wr]; omega
theorem paR_of {t n i v : Nat} {fs : List Value} {f : Nat → Option Nat} (e : h.1 a = some (aR t n f)) (hi : i < n) (hn : n < 2147483648) (hv : h.1 v = some (oC ci fs)) : paR h t ci a (ix i) v = some (wr h a (aR t n (va_up f i (some v)))) := by
  have hb : i < 2147483648 := by omega
  unfold paR; rw [e]; simp [ix_nn hb, ix_clamp hb, hi, wr]
  rw [onO_of hv]
theorem paK_of {w : hp_W} {n i v j : Nat} {f : Nat → Option Nat} (e : h.1 a = some (aR 2 n f)) (hi : i < n) (hn : n < 2147483648) (hv : kx w v = some j) : paK w h a (ix i) v = some (wr h a (aR 2 n (va_up f i (some v)))) := by
  have hb : i < 2147483648 := by omega
  unfold paK; rw [e]; simp [ix_nn hb, ix_clamp hb, hv, wr]; omega
theorem cpI_of {b sp dp n n0 n1 : Nat} {f g : Nat → Int32} (e : h.1 a = some (aI n0 f)) (e1 : h.1 b = some (aI n1 g)) (h0 : sp + n ≤ n0) (h1 : dp + n ≤ n1) (hb0 : n0 < 2147483648) (hb1 : n1 < 2147483648) : cpI h a (ix sp) b (ix dp) (ix n) = some (wr h b (aI n1 (va_cpy f g sp dp n))) := by
  have b1 : sp < 2147483648 := by omega
  have b2 : dp < 2147483648 := by omega
  have b3 : n < 2147483648 := by omega
  unfold cpI; rw [e, e1]; simp [ix_nn b1, ix_nn b2, ix_nn b3, ix_clamp b1, ix_clamp b2, ix_clamp b3, wr]; omega
end
theorem ix_le1 {i n : Nat} (h : i ≤ n) (hn : n < 2147483648) : ix i ≤ ix n := (ix_le (by omega) hn).mpr h
theorem ix_nle {i n : Nat} (h : n < i) (hi : i < 2147483648) : ¬ ix i ≤ ix n := fun q => by have := (ix_le hi (by omega)).mp q; omega
theorem ix_lt1 {i n : Nat} (h : i < n) (hn : n < 2147483648) : ix i < ix n := (ix_lt (by omega) hn).mpr h
theorem ix_nlt {i n : Nat} (h : n ≤ i) (hi : i < 2147483648) : ¬ ix i < ix n := fun q => by have := (ix_lt hi (by omega)).mp q; omega
theorem ix_ne {i n : Nat} (h : i ≠ n) (hi : i < 2147483648) (hn : n < 2147483648) : ix i ≠ ix n := fun q => h ((ix_inj hi hn).mp q)
