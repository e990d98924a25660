/-! What a grammar's events leave on a stack; numbers are small. -/
def gFt (ty : Bool) (r : resV) : Prop := r.1 = true → ∀ ts, fits r.2.2 ts = some (ty :: ts)
def opF (ty : Bool) (k : Nat) : Prop := ∀ ts, fitI (stp k) (ty :: ty :: ts) = some (ty :: ts)
theorem opF_pro {k : Nat} (h : opPro k = true) : opF false k := by
  have q : k = 34 ∨ k = 35 ∨ k = 36 := by unfold opPro at h; exact of_decide_eq_true h
  intro ts
  rcases q with e | e | e <;> (rw [e]; rfl)
theorem opF_sum {k : Nat} (h : opSum k = true) : opF false k := by
  have q : k = 32 ∨ k = 33 := by unfold opSum at h; exact of_decide_eq_true h
  intro ts
  rcases q with e | e <;> (rw [e]; rfl)
theorem opF_and {k : Nat} (h : opAnd k = true) : opF true k := by
  have q : k = 22 := by unfold opAnd at h; exact of_decide_eq_true h
  intro ts
  rw [q]; rfl
theorem opF_or {k : Nat} (h : opOr k = true) : opF true k := by
  have q : k = 23 := by unfold opOr at h; exact of_decide_eq_true h
  intro ts
  rw [q]; rfl
theorem fits_cons (q : Nat × Nat × Nat) (l : List (Nat × Nat × Nat)) (ts : List Bool) : fits (q :: l) ts = (fitI q.1 ts).bind fun t => fits l t := rfl
theorem fits_one (q : Nat × Nat × Nat) (ts : List Bool) : fits [q] ts = fitI q.1 ts := by
  rw [fits_cons]
  cases fitI q.1 ts <;> rfl
section
variable {K : Nat → Nat}
theorem gFl_F (ty : Bool) (q : Nat) : gFt ty (gFl q) := fun z => by cases z
theorem gLp_F {ty : Bool} {v : Nat → resV} (hv : ∀ q, gFt ty (v q)) {op : Nat → Bool} (hop : ∀ k, op k = true → opF ty k) : ∀ n p, (gLp K v op n p).1 = true → ∀ ts, fits (gLp K v op n p).2.2 (ty :: ts) = some (ty :: ts) := by
  intro n
  induction n with
  | zero => intro p _ ts; rfl
  | succ n ih =>
    intro p
    unfold gLp
    by_cases c : op (K p) = true
    · rw [if_pos c]
      by_cases d : (v (p + 1)).1 = true
      · rw [if_pos d]
        intro z ts
        dsimp only at z ⊢
        rw [fits_append, hv (p + 1) d, Option.bind_some, fits_cons]
        dsimp only
        rw [hop _ c ts, Option.bind_some]
        exact ih _ z ts
      · rw [if_neg d]; intro z; cases z
    · rw [if_neg c]; intro _ ts; rfl
theorem gSq_F {ty : Bool} {v : Nat → resV} (hv : ∀ q, gFt ty (v q)) {op : Nat → Bool} (hop : ∀ k, op k = true → opF ty k) (p : Nat) : gFt ty (gSq K v op p) := by
  unfold gSq
  by_cases d : (v p).1 = true
  · rw [if_pos d]
    intro z ts
    dsimp only at z ⊢
    rw [fits_append, hv p d, Option.bind_some]
    exact gLp_F hv hop 400 _ z ts
  · rw [if_neg d]; exact gFl_F _ _
theorem gTwo_F {p : Nat} {ty : Bool} (h : ∀ ts, fitI (stp (K p)) ts = some (ty :: ts)) : gFt ty (gTwo K p) := by
  unfold gTwo
  by_cases c : K (p + 1) = 2
  · rw [if_pos c]
    by_cases d : K (p + 2) = 2
    · rw [if_pos d]
      intro _ ts
      rw [fits_one]; exact h ts
    · rw [if_neg d]; exact gFl_F _ _
  · rw [if_neg c]; exact gFl_F _ _
theorem gOne_F {st p : Nat} {ty : Bool} (h : ∀ ts, fitI st ts = some (ty :: ts)) : gFt ty (gOne K st p) := by
  unfold gOne
  by_cases c : K (p + 1) = 2
  · rw [if_pos c]
    intro _ ts
    rw [fits_one]; exact h ts
  · rw [if_neg c]; exact gFl_F _ _
/-- after events that leave ts1 from ts, one more -/
theorem gAft_G {r : resV} {ty : Bool} {q : evV} {f : List Bool → List Bool} (h : r.1 = true → ∀ ts, fits r.2.2 ts = some (f ts)) (hq : ∀ ts, fitI q.1 (f ts) = some (ty :: ts)) : gFt ty (gAft r q) := by
  unfold gAft
  by_cases d : r.1 = true
  · rw [if_pos d]
    intro _ ts
    dsimp only
    rw [fits_append, h d, Option.bind_some, fits_one]
    exact hq ts
  · rw [if_neg d]; exact gFl_F _ _
theorem gCls_G {k : Nat} {r : resV} {f : List Bool → List Bool} (h : r.1 = true → ∀ ts, fits r.2.2 ts = some (f ts)) : (gCls K r k).1 = true → ∀ ts, fits (gCls K r k).2.2 ts = some (f ts) := by
  unfold gCls
  by_cases d : r.1 = true
  · rw [if_pos d]
    by_cases c : K r.2.1 = k
    · rw [if_pos c]; intro _; exact h d
    · rw [if_neg c]; intro z; cases z
  · rw [if_neg d]; intro z; cases z
theorem gThn_G {r : resV} {g : Nat → resV} {f f' : List Bool → List Bool} (h : r.1 = true → ∀ ts, fits r.2.2 ts = some (f ts)) (hg : ∀ q, (g q).1 = true → ∀ ts, fits (g q).2.2 ts = some (f' ts)) : (gThn r g).1 = true → ∀ ts, fits (gThn r g).2.2 ts = some (f' (f ts)) := by
  unfold gThn
  by_cases d : r.1 = true
  · rw [if_pos d]
    intro z ts
    dsimp only at z ⊢
    rw [fits_append, h d, Option.bind_some]
    exact hg _ z _
  · rw [if_neg d]; intro z; cases z
theorem gValF_F {v s : Nat → resV} {deep : Bool} (hv : deep = true → ∀ q, gFt false (v q)) (hs : deep = true → ∀ q, gFt false (s q)) (p : Nat) : gFt false (gValF K v s deep p) := by
  unfold gValF
  by_cases c1 : K p = 3
  · rw [if_pos c1]; intro _ ts; rfl
  rw [if_neg c1]
  by_cases c2 : K p = 19 ∨ K p = 20
  · rw [if_pos c2]
    intro _ ts
    rw [fits_one]
    rcases c2 with q | q <;> (rw [q]; rfl)
  rw [if_neg c2]
  by_cases c3 : K p = 16 ∨ K p = 17
  · rw [if_pos c3]
    exact gOne_F (fun ts => by rcases c3 with q | q <;> (rw [q]; rfl))
  rw [if_neg c3]
  by_cases c4 : K p = 18
  · rw [if_pos c4]; exact gTwo_F (fun ts => by rw [c4]; rfl)
  rw [if_neg c4]
  by_cases c5 : K p = 33
  · rw [if_pos c5]
    by_cases d : deep = true
    · rw [if_pos d]
      exact gAft_G (f := fun ts => false :: ts) (hv d (p + 1)) (fun ts => rfl)
    · rw [if_neg d]; exact gFl_F _ _
  rw [if_neg c5]
  by_cases c6 : K p = 24 ∨ K p = 25
  · rw [if_pos c6]
    by_cases d : K (p + 1) = 26 ∧ deep = true
    · rw [if_pos d]
      exact gAft_G (f := fun ts => false :: false :: ts) (gCls_G (gThn_G (f := fun ts => false :: ts) (f' := fun ts => false :: ts) (gCls_G (hs d.2 (p + 2))) (hs d.2))) (fun ts => by rcases c6 with q | q <;> (rw [q]; rfl))
    · rw [if_neg d]; exact gFl_F _ _
  rw [if_neg c6]
  by_cases c7 : K p = 26 ∧ deep = true
  · rw [if_pos c7]
    exact gCls_G (f := fun ts => false :: ts) (hs c7.2 (p + 1))
  · rw [if_neg c7]; exact gFl_F _ _
theorem gSum_F {v : Nat → resV} (hv : ∀ q, gFt false (v q)) (p : Nat) : gFt false (gSum K v p) :=
  gSq_F (gSq_F hv (fun _ c => opF_pro c)) (fun _ c => opF_sum c) p
theorem gVal_F : ∀ k p, gFt false (gVal K k p) := by
  intro k
  induction k with
  | zero => exact gValF_F (fun q => by cases q) (fun q => by cases q)
  | succ k ih => exact gValF_F (fun _ => ih) (fun _ => gSum_F ih)
theorem gTst_F {v : Nat → resV} (hv : ∀ q, gFt true (v q)) (p : Nat) : gFt true (gTst K v p) :=
  gSq_F (gSq_F hv (fun _ c => opF_and c)) (fun _ c => opF_or c) p
theorem cmp_F : ∀ k, k < 42 → 37 ≤ k → k = 37 ∨ k = 38 ∨ k = 39 ∨ k = 40 ∨ k = 41 := by intro k h1 h2; omega
theorem gSinF_F (hK : ∀ i, K i < 42) {sum s t : Nat → resV} {deep : Bool} (hu : ∀ q, gFt false (sum q)) (hs : deep = true → ∀ q, gFt true (s q)) (ht : deep = true → ∀ q, gFt true (t q)) (p : Nat) : gFt true (gSinF K sum s t deep p) := by
  unfold gSinF
  by_cases c1 : K p = 21
  · rw [if_pos c1]
    by_cases d : deep = true
    · rw [if_pos d]
      exact gAft_G (f := fun ts => true :: ts) (hs d (p + 1)) (fun ts => rfl)
    · rw [if_neg d]; exact gFl_F _ _
  rw [if_neg c1]
  by_cases c2 : K p = 28
  · rw [if_pos c2]
    by_cases d : deep = true
    · rw [if_pos d]
      exact gCls_G (f := fun ts => true :: ts) (ht d (p + 1))
    · rw [if_neg d]; exact gFl_F _ _
  rw [if_neg c2]
  by_cases c3 : K p = 14 ∨ K p = 15
  · rw [if_pos c3]
    exact gTwo_F (fun ts => by rcases c3 with q | q <;> (rw [q]; rfl))
  rw [if_neg c3]
  by_cases c4 : K p = 8
  · rw [if_pos c4]; exact gOne_F (fun ts => rfl)
  rw [if_neg c4]
  by_cases d : (sum p).1 = true
  · rw [if_pos d]
    by_cases y : 37 ≤ K (sum p).2.1
    · rw [if_pos y]
      refine gAft_G (f := fun ts => false :: false :: ts) (gThn_G (f := fun ts => false :: ts) (f' := fun ts => false :: ts) (fun _ => hu p d) hu) (fun ts => ?_)
      rcases cmp_F _ (hK _) y with q | q | q | q | q <;> (rw [q]; rfl)
    · rw [if_neg y]; exact gFl_F _ _
  · rw [if_neg d]; exact gFl_F _ _
theorem gSin_F (hK : ∀ i, K i < 42) : ∀ k p, gFt true (gSin K k p) := by
  intro k
  induction k with
  | zero => exact gSinF_F hK (gSum_F (gVal_F 0)) (fun q => by cases q) (fun q => by cases q)
  | succ k ih => exact gSinF_F hK (gSum_F (gVal_F (k + 1))) (fun _ => ih) (fun _ => gTst_F ih)
end
theorem dig_of : ∀ n, n < 256 → isDV (ix n) = true → 48 ≤ n ∧ n ≤ 57 := by decide +kernel
theorem nvL_bd : ∀ l : List Int32, (∀ b, b ∈ l → ∃ n, 48 ≤ n ∧ n ≤ 57 ∧ b = ix n) → ∀ d k, d < 10 ^ k → ∃ e, e < 10 ^ (k + l.length) ∧ nvL (ix d) l = ix e := by
  intro l
  induction l with
  | nil => intro _ d k hd; exact ⟨d, hd, rfl⟩
  | cons b l ih =>
    intro h d k hd
    obtain ⟨n, n1, n2, e⟩ := h b (List.mem_cons_self ..)
    obtain ⟨e2, h1, h2⟩ := ih (fun c hc => h c (List.mem_cons_of_mem _ hc)) (d * 10 + n - 48) (k + 1) (by rw [Nat.pow_succ]; omega)
    refine ⟨e2, by rw [List.length_cons, show k + (l.length + 1) = k + 1 + l.length by omega]; exact h1, ?_⟩
    have s : ix d * 10 + b - 48 = ix (d * 10 + n - 48) := by
      rw [e, show (10 : Int32) = ix 10 from rfl, ix_mul, ix_add, show (48 : Int32) = ix 48 from rfl, ix_sub (by omega)]
    show nvL (ix d * 10 + b - 48) l = ix e2
    rw [s]; exact h2
theorem nuN_lt {tn : Nat} {tp : Nat → Int32} (ot : okT tn tp) {j : Nat} (hj : j < (tksV tn tp).length) (k3 : kdp (tksV tn tp) j = 3) : nuN tp (tksV tn tp) j < 2147483648 := by
  obtain ⟨a1, a2, _, a4⟩ := tksV_in ot hj (show 2 ≤ kdp (tksV tn tp) j by omega)
  obtain ⟨b1, b2⟩ := a4 k3
  have dg : ∀ b, b ∈ tbt tp (tksV tn tp) j → ∃ n, 48 ≤ n ∧ n ≤ 57 ∧ b = ix n := by
    intro b hb
    unfold tbt at hb
    obtain ⟨u, hu, e⟩ := bts_mem _ _ hb
    have w := spn_all isDV tp _ _ ((tkn (tksV tn tp) j).2.1 + u) (by omega) (show (tkn (tksV tn tp) j).2.1 + u < spn isDV tp (tn - (tkn (tksV tn tp) j).2.1) (tkn (tksV tn tp) j).2.1 by omega)
    obtain ⟨n, hn, en⟩ := ot _ (show (tkn (tksV tn tp) j).2.1 + u < tn by omega)
    rw [en] at w
    obtain ⟨d1, d2⟩ := dig_of n hn w
    exact ⟨n, d1, d2, by rw [e, en]⟩
  obtain ⟨e, e1, e2⟩ := nvL_bd _ dg 0 0 (by decide)
  have ln : (tbt tp (tksV tn tp) j).length ≤ 6 := by unfold tbt; rw [bts_len]; exact b1
  have e6 : e < 10 ^ 6 := Nat.lt_of_lt_of_le e1 (Nat.pow_le_pow_right (by decide) (by omega))
  unfold nuN
  rw [show (0 : Int32) = ix 0 from rfl, e2]
  show (BitVec.ofNat 32 e).toNat < _
  rw [BitVec.toNat_ofNat]
  omega
