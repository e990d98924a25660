/-! The Model's second pass, token after token. -/
def Lpp (w : hp_W) (fl m e : Nat) (K1 : hp_M → Option (Int32 × hp_M)) (K2 : Int32 → hp_M → Option (Int32 × hp_M)) (i : Nat) (h : hp_M) (y : Option (Int32 × hp_M)) : Prop := ∀ fu, e - i < fu → f_Md_read_b64 w fl m (ix e) K1 K2 fu h = y
/-- the pass goes on from i with h to i' with h' -/
def Rtt (w : hp_W) (fl m e : Nat) (K1 : hp_M → Option (Int32 × hp_M)) (K2 : Int32 → hp_M → Option (Int32 × hp_M)) (h : hp_M) (i : Nat) (h' : hp_M) (i' : Nat) : Prop := ∀ y, Lpp w fl m e K1 K2 i' h' y → Lpp w fl m e K1 K2 i h y
/-- the pass ends with an error -/
def Spp (w : hp_W) (fl m e : Nat) (K1 : hp_M → Option (Int32 × hp_M)) (K2 : Int32 → hp_M → Option (Int32 × hp_M)) (h : hp_M) (i : Nat) (x : Int32) (h' : hp_M) : Prop := ∀ y, K2 x h' = y → Lpp w fl m e K1 K2 i h y
section
variable {w : hp_W} {fl e : Nat} {K1 : hp_M → Option (Int32 × hp_M)} {K2 : Int32 → hp_M → Option (Int32 × hp_M)}
variable {m t rd tn : Nat} {tp : Nat → Int32} {th ea : Int32} {L : List tokV} {h0 : hp_M} {R : Nat → Nat} {C : pcV} {h h1 h2 : hp_M} {i : Nat} {D D' : pdV}
theorem Rtt.refl : Rtt w fl m e K1 K2 h i h i := fun _ q => q
theorem Rtt.trans {i1 i2 : Nat} (a : Rtt w fl m e K1 K2 h i h1 i1) (b : Rtt w fl m e K1 K2 h1 i1 h2 i2) : Rtt w fl m e K1 K2 h i h2 i2 := fun y q => a y (b y q)
theorem Rtt.sp {i1 : Nat} {x : Int32} (a : Rtt w fl m e K1 K2 h i h1 i1) (b : Spp w fl m e K1 K2 h1 i1 x h2) : Spp w fl m e K1 K2 h i x h2 := fun y q => a y (b y q)
theorem lp_end (c : PS m t rd tn tp th ea L h0 R C h e D) (he : e < L.length) {y : Option (Int32 × hp_M)} (k : K1 h = y) : Lpp w fl m e K1 K2 e h y := by
  intro fu hf
  have pL := c.pL
  obtain ⟨fu, rfl⟩ : ∃ q, fu = q + 1 := ⟨fu - 1, by omega⟩
  unfold f_Md_read_b64
  exact bnd c.r9 (ite_p (ix_le1 (Nat.le_refl _) (by omega)) k)
theorem tk_ok (oi : okIn tn L) (hfl : 5000 ≤ fl) (c : PS m t rd tn tp th ea L h0 R C h i D) (hi : i < e) (he : e < L.length) (q : eoB fl m (ix i) h rd (5 * (ix D.1 - 1)) (if kdp L i = 3 then nb tp L i else 0) = some (0, h1)) (c1 : PS m t rd tn tp th ea L h0 R C h1 i D') : ∃ h2, PS m t rd tn tp th ea L h0 R C h2 (i + 1) D' ∧ Rtt w fl m e K1 K2 h i h2 (i + 1) := by
  have pL := c.pL
  obtain ⟨h2, e2, c2⟩ := c1.next
  refine ⟨h2, c2, fun y lp fu hf => ?_⟩
  obtain ⟨fu, rfl⟩ : ∃ q, fu = q + 1 := ⟨fu - 1, by omega⟩
  unfold f_Md_read_b64
  refine bnd c.r9 (ite_n (ix_nle hi (by omega)) (bnd c.r9 (bnd ((c.on _).trans ((eo_head oi c (show i < L.length by omega) hfl).trans q)) (ite_p rfl (bnd c1.r9 (bnd e2 ?_))))))
  exact lp fu (by omega)
theorem tk_no (oi : okIn tn L) (hfl : 5000 ≤ fl) (c : PS m t rd tn tp th ea L h0 R C h i D) (hi : i < e) (he : e < L.length) {x : Int32} (q : eoB fl m (ix i) h rd (5 * (ix D.1 - 1)) (if kdp L i = 3 then nb tp L i else 0) = some (x, h1)) (hx : x ≠ 0) : Spp w fl m e K1 K2 h i x h1 := by
  have pL := c.pL
  intro y k fu hf
  obtain ⟨fu, rfl⟩ : ∃ q, fu = q + 1 := ⟨fu - 1, by omega⟩
  unfold f_Md_read_b64
  exact bnd c.r9 (ite_n (ix_nle hi (by omega)) (bnd c.r9 (bnd ((c.on _).trans ((eo_head oi c (show i < L.length by omega) hfl).trans q)) (ite_n hx k))))
/-- tokens without a role -/
theorem tk_skip (oi : okIn tn L) (hfl : 5000 ≤ fl) (he : e < L.length) : ∀ n i h, PS m t rd tn tp th ea L h0 R C h i D → (∀ j, i ≤ j → j < i + n → R j = 0) → i + n ≤ e → ∃ h', PS m t rd tn tp th ea L h0 R C h' (i + n) D ∧ Rtt w fl m e K1 K2 h i h' (i + n) := by
  intro n
  induction n with
  | zero => intro i h c _ _; exact ⟨h, c, Rtt.refl⟩
  | succ n ih =>
    intro i h c hr hn
    obtain ⟨h1, c1, r1⟩ := tk_ok (w := w) (K1 := K1) (K2 := K2) oi hfl c (show i < e by omega) he (eo_0 c (show i < L.length by omega) (hr i (Nat.le_refl _) (by omega)) fl _ _) c
    obtain ⟨h2, c2, r2⟩ := ih (i + 1) h1 c1 (fun j a b => hr j (by omega) (by omega)) (by omega)
    rw [show i + (n + 1) = i + 1 + n by omega]
    exact ⟨h2, c2, r1.trans r2⟩
theorem tk_skipTo (oi : okIn tn L) (hfl : 5000 ≤ fl) (he : e < L.length) {q : Nat} (hq : i ≤ q) (hqe : q ≤ e) (c : PS m t rd tn tp th ea L h0 R C h i D) (hr : ∀ j, i ≤ j → j < q → R j = 0) : ∃ h', PS m t rd tn tp th ea L h0 R C h' q D ∧ Rtt w fl m e K1 K2 h i h' q := by
  obtain ⟨h', c', r'⟩ := tk_skip (w := w) (K1 := K1) (K2 := K2) oi hfl he (q - i) i h c (fun j a b => hr j a (by omega)) (by omega)
  rw [show i + (q - i) = q by omega] at c' r'
  exact ⟨h', c', r'⟩
end
/-- roles of one statement: a list of tokens in order, each with its role -/
theorem rof_no : ∀ (l : List (Nat × Nat)) (f : Nat → Nat) (i : Nat), (∀ q, q ∈ l → q.1 ≠ i) → l.foldl (fun f q i => if i = q.1 then q.2 else f i) f i = f i := by
  intro l
  induction l with
  | nil => intro f i _; rfl
  | cons q l ih =>
    intro f i h
    rw [List.foldl_cons, ih _ _ (fun x hx => h x (List.mem_cons_of_mem _ hx))]
    exact if_neg (fun z => h q (List.mem_cons_self ..) z.symm)
theorem rof_app_no (l k : List (Nat × Nat)) (i : Nat) (h : ∀ q, q ∈ k → q.1 ≠ i) : rof (l ++ k) i = rof l i := by
  unfold rof
  rw [List.foldl_append]
  exact rof_no k _ i h
theorem rof_app_yes (l k : List (Nat × Nat)) (i : Nat) (h : ∀ q, q ∈ l → q.1 ≠ i) : rof (l ++ k) i = rof k i := by
  have gen : ∀ (k : List (Nat × Nat)) (f g : Nat → Nat), f i = g i → k.foldl (fun f q i => if i = q.1 then q.2 else f i) f i = k.foldl (fun f q i => if i = q.1 then q.2 else f i) g i := by
    intro k
    induction k with
    | nil => intro f g e; exact e
    | cons q k ih =>
      intro f g e
      rw [List.foldl_cons, List.foldl_cons]
      refine ih _ _ ?_
      show (if i = q.1 then q.2 else f i) = (if i = q.1 then q.2 else g i)
      rw [e]
  unfold rof
  rw [List.foldl_append]
  exact gen k _ _ (rof_no l _ i h)
theorem asc_mem : ∀ (l : List Nat) {a b : Nat}, asc a b l → ∀ x, x ∈ l → a ≤ x ∧ x < b := by
  intro l
  induction l with
  | nil => intro a b _ x hx; cases hx
  | cons k l ih =>
    intro a b h x hx
    have kb : k + 1 ≤ b := by
      have le : ∀ (l : List Nat) {a b : Nat}, asc a b l → a ≤ b := by
        intro l
        induction l with
        | nil => intro a b h; exact h
        | cons k l ih => intro a b h; have := ih h.2; have := h.1; omega
      exact le l h.2
    rcases List.mem_cons.mp hx with e | e
    · rw [e]; exact ⟨h.1, kb⟩
    · have := ih h.2 x e
      have := h.1
      omega
