/-! The events of a grammar: their names stand in order. -/
def asc : Nat → Nat → List Nat → Prop
  | lo, hi, [] => lo ≤ hi
  | lo, hi, k :: l => lo ≤ k ∧ asc (k + 1) hi l
theorem asc_lo : ∀ (l : List Nat) {a b c : Nat}, asc a b l → c ≤ a → asc c b l := by
  intro l
  cases l with
  | nil => intro a b c h q; exact Nat.le_trans q h
  | cons k l => intro a b c h q; exact ⟨Nat.le_trans q h.1, h.2⟩
theorem asc_app : ∀ (l k : List Nat) {a b c : Nat}, asc a b l → asc b c k → asc a c (l ++ k) := by
  intro l
  induction l with
  | nil => intro k a b c h q; exact asc_lo k q h
  | cons x l ih => intro k a b c h q; exact ⟨h.1, ih k h.2 q⟩
theorem asc_hi (l : List Nat) {a b c : Nat} (h : asc a b l) (q : b ≤ c) : asc a c l := by
  have := asc_app l [] h (show asc b c [] from q)
  rw [List.append_nil] at this
  exact this
def evTs (l : List evV) : List Nat := (evRs l).map (·.1)
def evK (K : Nat → Nat) (q : evV) : Prop := (1 ≤ osn q.1 → K q.2.1 = 2) ∧ (osn q.1 = 2 → K q.2.2 = 2) ∧ (q.1 = 0 → K q.2.1 = 3) ∧ q.1 ≤ 24 ∧ (osn q.1 = 2 → q.2.2 = q.2.1 + 1) ∧ (osn q.1 = 0 → q.1 ≠ 0 → q.2.1 = 0)
def evPl (k : Nat) : Prop := k ≠ 0 ∧ osn k = 0 ∧ k ≤ 24
theorem evTs_app (l k : List evV) : evTs (l ++ k) = evTs l ++ evTs k := by unfold evTs; rw [evRs_app, List.map_append]
theorem evTs_pl {k u v : Nat} (h : evPl k) : evTs [(k, u, v)] = [] := by
  unfold evTs; rw [evRs_one]; unfold evR; dsimp only; rw [h.2.1]; rfl
theorem evK_pl {K : Nat → Nat} {k v : Nat} (h : evPl k) : evK K (k, 0, v) := ⟨fun q => by have := h.2.1; dsimp only at q; omega, fun q => by have := h.2.1; dsimp only at q; omega, fun q => absurd q h.1, h.2.2, fun q => by have := h.2.1; dsimp only at q; omega, fun _ _ => rfl⟩
theorem opPl : ∀ k, k < 42 → (opPro k = true ∨ opSum k = true ∨ opAnd k = true ∨ opOr k = true ∨ 37 ≤ k ∨ k = 24 ∨ k = 25 ∨ k = 19 ∨ k = 20) → stp k ≠ 0 ∧ osn (stp k) = 0 ∧ stp k ≤ 24 := by decide +kernel
def gP (K : Nat → Nat) (p : Nat) (r : resV) : Prop := r.1 = true → asc p r.2.1 (evTs r.2.2) ∧ ∀ q, q ∈ r.2.2 → evK K q
section
variable {K : Nat → Nat}
theorem gP.up {p q : Nat} {r : resV} (h : gP K q r) (hq : p ≤ q) : gP K p r := fun z => ⟨asc_lo _ (h z).1 hq, (h z).2⟩
theorem gFl_P (p q : Nat) : gP K p (gFl q) := fun z => by cases z
theorem gLp_P {v : Nat → resV} (hv : ∀ q, gP K q (v q)) {op : Nat → Bool} (hop : ∀ q, op (K q) = true → evPl (stp (K q))) : ∀ n p, gP K p (gLp K v op n p) := by
  intro n
  induction n with
  | zero => intro p _; exact ⟨Nat.le_refl _, fun q hq => by cases hq⟩
  | succ n ih =>
    intro p
    unfold gLp
    by_cases c : op (K p) = true
    · rw [if_pos c]
      by_cases d : (v (p + 1)).1 = true
      · rw [if_pos d]
        intro z
        obtain ⟨a1, a2⟩ := hv (p + 1) d
        obtain ⟨b1, b2⟩ := ih (v (p + 1)).2.1 z
        have e : (v (p + 1)).2.2 ++ (stp (K p), 0, 0) :: (gLp K v op n (v (p + 1)).2.1).2.2 = (v (p + 1)).2.2 ++ [(stp (K p), 0, 0)] ++ (gLp K v op n (v (p + 1)).2.1).2.2 := by simp
        dsimp only
        rw [e]
        refine ⟨?_, fun q hq => ?_⟩
        · rw [evTs_app, evTs_app, evTs_pl (hop p c), List.append_nil]
          exact asc_app _ _ (asc_lo _ a1 (Nat.le_succ _)) b1
        · rcases List.mem_append.mp hq with y | y
          · rcases List.mem_append.mp y with x | x
            · exact a2 q x
            · rw [List.mem_singleton.mp x]; exact evK_pl (hop p c)
          · exact b2 q y
      · rw [if_neg d]; exact gFl_P _ _
    · rw [if_neg c]
      intro _
      exact ⟨Nat.le_refl _, fun q hq => by cases hq⟩
theorem gSq_P {v : Nat → resV} (hv : ∀ q, gP K q (v q)) {op : Nat → Bool} (hop : ∀ q, op (K q) = true → evPl (stp (K q))) (p : Nat) : gP K p (gSq K v op p) := by
  unfold gSq
  by_cases d : (v p).1 = true
  · rw [if_pos d]
    intro z
    obtain ⟨a1, a2⟩ := hv p d
    obtain ⟨b1, b2⟩ := gLp_P hv hop 400 (v p).2.1 z
    dsimp only
    refine ⟨?_, fun q hq => ?_⟩
    · rw [evTs_app]; exact asc_app _ _ a1 b1
    · rcases List.mem_append.mp hq with y | y
      · exact a2 q y
      · exact b2 q y
  · rw [if_neg d]; exact gFl_P _ _
theorem gTwo_P {p : Nat} (h : osn (stp (K p)) = 2 ∧ stp (K p) ≠ 0 ∧ stp (K p) ≤ 24) : gP K p (gTwo K p) := by
  unfold gTwo
  by_cases c : K (p + 1) = 2
  · rw [if_pos c]
    by_cases d : K (p + 2) = 2
    · rw [if_pos d]
      intro _
      refine ⟨?_, fun q hq => ?_⟩
      · unfold evTs; rw [evRs_one]; unfold evR; dsimp only; rw [h.1, if_pos rfl]
        exact ⟨Nat.le_succ _, by show p + 1 + 1 ≤ p + 2; omega, by show p + 2 + 1 ≤ p + 3; omega⟩
      · rw [List.mem_singleton.mp hq]
        exact ⟨fun _ => c, fun _ => d, fun q => absurd q h.2.1, h.2.2, fun _ => rfl, fun q => by have := h.1; dsimp only at q; omega⟩
    · rw [if_neg d]; exact gFl_P _ _
  · rw [if_neg c]; exact gFl_P _ _
theorem gOne_P {st p : Nat} (h : osn st = 1 ∧ st ≠ 0 ∧ st ≤ 24) : gP K p (gOne K st p) := by
  unfold gOne
  by_cases c : K (p + 1) = 2
  · rw [if_pos c]
    intro _
    refine ⟨?_, fun q hq => ?_⟩
    · unfold evTs; rw [evRs_one]; unfold evR; dsimp only; rw [h.1, if_neg (by decide), if_pos rfl]
      exact ⟨Nat.le_succ _, by show p + 1 + 1 ≤ p + 2; omega⟩
    · rw [List.mem_singleton.mp hq]
      exact ⟨fun _ => c, fun q => by have := h.1; dsimp only at q; omega, fun q => absurd q h.2.1, h.2.2, fun q => by have := h.1; dsimp only at q; omega, fun q => by have := h.1; dsimp only at q; omega⟩
  · rw [if_neg c]; exact gFl_P _ _
theorem gAft_P {p : Nat} {r : resV} {k v : Nat} (h : gP K p r) (hk : evPl k) : gP K p (gAft r (k, 0, v)) := by
  unfold gAft
  by_cases d : r.1 = true
  · rw [if_pos d]
    intro _
    obtain ⟨a1, a2⟩ := h d
    dsimp only
    refine ⟨?_, fun q hq => ?_⟩
    · rw [evTs_app, evTs_pl hk, List.append_nil]; exact a1
    · rcases List.mem_append.mp hq with y | y
      · exact a2 q y
      · rw [List.mem_singleton.mp y]; exact evK_pl hk
  · rw [if_neg d]; exact gFl_P _ _
theorem gCls_P {p k : Nat} {r : resV} (h : gP K p r) : gP K p (gCls K r k) := by
  unfold gCls
  by_cases d : r.1 = true
  · rw [if_pos d]
    by_cases c : K r.2.1 = k
    · rw [if_pos c]
      intro _
      exact ⟨asc_hi _ (h d).1 (Nat.le_succ _), (h d).2⟩
    · rw [if_neg c]; exact gFl_P _ _
  · rw [if_neg d]; exact gFl_P _ _
theorem gThn_P {p : Nat} {r : resV} {f : Nat → resV} (h : gP K p r) (hf : ∀ q, gP K q (f q)) : gP K p (gThn r f) := by
  unfold gThn
  by_cases d : r.1 = true
  · rw [if_pos d]
    intro z
    obtain ⟨a1, a2⟩ := h d
    obtain ⟨b1, b2⟩ := hf r.2.1 z
    dsimp only
    refine ⟨?_, fun q hq => ?_⟩
    · rw [evTs_app]; exact asc_app _ _ a1 b1
    · rcases List.mem_append.mp hq with y | y
      · exact a2 q y
      · exact b2 q y
  · rw [if_neg d]; exact gFl_P _ _
theorem gValF_P (hK : ∀ i, K i < 42) {v s : Nat → resV} {deep : Bool} (hv : deep = true → ∀ q, gP K q (v q)) (hs : deep = true → ∀ q, gP K q (s q)) (p : Nat) : gP K p (gValF K v s deep p) := by
  unfold gValF
  by_cases c1 : K p = 3
  · rw [if_pos c1]
    intro _
    refine ⟨Nat.le_succ p, fun q hq => ?_⟩
    rw [List.mem_singleton.mp hq]
    exact ⟨fun q => absurd q (by show ¬ 1 ≤ osn 0; decide), fun q => absurd q (by show ¬ osn 0 = 2; decide), fun _ => c1, Nat.zero_le _, fun q => absurd q (by show ¬ osn 0 = 2; decide), fun _ q => absurd rfl q⟩
  rw [if_neg c1]
  by_cases c2 : K p = 19 ∨ K p = 20
  · rw [if_pos c2]
    have e := opPl (K p) (hK p) (by omega)
    intro _
    refine ⟨by dsimp only; rw [evTs_pl e]; exact Nat.le_succ p, fun q hq => ?_⟩
    rw [List.mem_singleton.mp hq]; exact evK_pl e
  rw [if_neg c2]
  by_cases c3 : K p = 16 ∨ K p = 17
  · rw [if_pos c3]
    exact gOne_P (by rcases c3 with q | q <;> rw [q] <;> decide)
  rw [if_neg c3]
  by_cases c4 : K p = 18
  · rw [if_pos c4]; exact gTwo_P (by rw [c4]; decide)
  rw [if_neg c4]
  by_cases c5 : K p = 33
  · rw [if_pos c5]
    by_cases d : deep = true
    · rw [if_pos d]
      exact gAft_P ((hv d (p + 1)).up (Nat.le_succ _)) (by unfold evPl; decide)
    · rw [if_neg d]; exact gFl_P _ _
  rw [if_neg c5]
  by_cases c6 : K p = 24 ∨ K p = 25
  · rw [if_pos c6]
    have e := opPl (K p) (hK p) (by omega)
    by_cases d : K (p + 1) = 26 ∧ deep = true
    · rw [if_pos d]
      exact gAft_P (gCls_P (gThn_P (gCls_P ((hs d.2 (p + 2)).up (by omega))) (hs d.2))) e
    · rw [if_neg d]; exact gFl_P _ _
  rw [if_neg c6]
  by_cases c7 : K p = 26 ∧ deep = true
  · rw [if_pos c7]
    exact gCls_P ((hs c7.2 (p + 1)).up (by omega))
  · rw [if_neg c7]; exact gFl_P _ _
theorem gSum_P (hK : ∀ i, K i < 42) {v : Nat → resV} (hv : ∀ q, gP K q (v q)) (p : Nat) : gP K p (gSum K v p) :=
  gSq_P (gSq_P hv (fun q c => opPl _ (hK q) (Or.inl c))) (fun q c => opPl _ (hK q) (Or.inr (Or.inl c))) p
theorem gVal_P (hK : ∀ i, K i < 42) : ∀ k p, gP K p (gVal K k p) := by
  intro k
  induction k with
  | zero => exact gValF_P hK (fun q => by cases q) (fun q => by cases q)
  | succ k ih => exact gValF_P hK (fun _ => ih) (fun _ => gSum_P hK ih)
theorem gTst_P (hK : ∀ i, K i < 42) {v : Nat → resV} (hv : ∀ q, gP K q (v q)) (p : Nat) : gP K p (gTst K v p) :=
  gSq_P (gSq_P hv (fun q c => opPl _ (hK q) (Or.inr (Or.inr (Or.inl c))))) (fun q c => opPl _ (hK q) (Or.inr (Or.inr (Or.inr (Or.inl c))))) p
theorem gSinF_P (hK : ∀ i, K i < 42) {sum s t : Nat → resV} {deep : Bool} (hu : ∀ q, gP K q (sum q)) (hs : deep = true → ∀ q, gP K q (s q)) (ht : deep = true → ∀ q, gP K q (t q)) (p : Nat) : gP K p (gSinF K sum s t deep p) := by
  unfold gSinF
  by_cases c1 : K p = 21
  · rw [if_pos c1]
    by_cases d : deep = true
    · rw [if_pos d]
      exact gAft_P ((hs d (p + 1)).up (Nat.le_succ _)) (by unfold evPl; decide)
    · rw [if_neg d]; exact gFl_P _ _
  rw [if_neg c1]
  by_cases c2 : K p = 28
  · rw [if_pos c2]
    by_cases d : deep = true
    · rw [if_pos d]
      exact gCls_P ((ht d (p + 1)).up (Nat.le_succ _))
    · rw [if_neg d]; exact gFl_P _ _
  rw [if_neg c2]
  by_cases c3 : K p = 14 ∨ K p = 15
  · rw [if_pos c3]
    exact gTwo_P (by rcases c3 with q | q <;> rw [q] <;> decide)
  rw [if_neg c3]
  by_cases c4 : K p = 8
  · rw [if_pos c4]; exact gOne_P (by decide)
  rw [if_neg c4]
  by_cases d : (sum p).1 = true
  · rw [if_pos d]
    by_cases y : 37 ≤ K (sum p).2.1
    · rw [if_pos y]
      refine gAft_P ?_ (opPl _ (hK _) (by omega))
      intro z
      obtain ⟨a1, a2⟩ := hu p d
      rw [gThn_T] at z ⊢
      obtain ⟨b1, b2⟩ := hu ((sum p).2.1 + 1) z
      dsimp only
      refine ⟨?_, fun q hq => ?_⟩
      · rw [evTs_app]; exact asc_app _ _ a1 (asc_lo _ b1 (Nat.le_succ _))
      · rcases List.mem_append.mp hq with x | x
        · exact a2 q x
        · exact b2 q x
    · rw [if_neg y]; exact gFl_P _ _
  · rw [if_neg d]; exact gFl_P _ _
theorem gSin_P (hK : ∀ i, K i < 42) : ∀ k p, gP K p (gSin K k p) := by
  intro k
  induction k with
  | zero => exact gSinF_P hK (gSum_P hK (gVal_P hK 0)) (fun q => by cases q) (fun q => by cases q)
  | succ k ih => exact gSinF_P hK (gSum_P hK (gVal_P hK (k + 1))) (fun _ => ih) (fun _ => gTst_P hK ih)
end
theorem kdp_42 {L : List tokV} (ok : okK L) (i : Nat) : kdp L i < 42 := by
  by_cases h : i < L.length
  · exact (ok.2.2 i h).1
  · unfold kdp tkn
    rw [List.getD_eq_getElem?_getD, List.getElem?_eq_none (by omega)]
    decide
