/-! The pure heap: a partial map from addresses to cells, and the heap's size; the machine's heap holds it from b0 on, and is the start's below it. -/
abbrev hp_M : Type := (Nat → Option va_E) × Nat
/-- what is fixed for a whole run: b0, the heap at the start, the classes' numbers and slots, the array classes by tags, the addresses of the constants of Kind, of the texts, of the static arrays -/
abbrev hp_W : Type := Nat × Heap × va_G × (Nat → ClassId) × (Nat → Nat) × (Nat → Nat) × (Nat → Nat)
def hp_e (cT : Nat → ClassId) : va_E → va_E
  | .inl a => .inl (cT a.1, a.2)
  | .inr o => .inr o
def hp_tys (cT : Nat → ClassId) : List (ClassId × FieldType) := [(cT 0, .int), (cT 1, .long), (cT 2, .object RX2), (cT 3, .object RX4), (cT 4, .object RX0)]
def hp_A (w : hp_W) : Nat → Prop := fun q => w.1 ≤ q
def w_kd (w : hp_W) : Nat → Nat := w.2.2.2.2.1
def w_ka (w : hp_W) : Nat → Nat := w.2.2.2.2.2.1
def w_al (w : hp_W) : Nat → Nat := w.2.2.2.2.2.2
def hp_R (w : hp_W) (h : hp_M) (H : Heap) : Prop :=
  H.size = h.2 ∧ (∀ q, q < w.1 → H[q]? = w.2.1[q]?) ∧ ∀ (q : Nat) (e : va_E), h.1 q = some e → w.1 ≤ q ∧ va_at w.2.2.1 vwCl (q, hp_e w.2.2.2.1 e) H
theorem hp_R.lt {w : hp_W} {h : hp_M} {H : Heap} (hR : hp_R w h H) {a : Nat} {e : va_E} (ha : h.1 a = some e) : a < H.size := (hR.2.2 a e ha).2.lt
theorem hp_R.put {w : hp_W} {h : hp_M} {H H1 : Heap} (hR : hp_R w h H) {a : Nat} {e0 e : va_E} (ha : h.1 a = some e0) (hz : H1.size = H.size) (ho : ∀ q, q ≠ a → H1[q]? = H[q]?) (hn : va_at w.2.2.1 vwCl (a, hp_e w.2.2.2.1 e) H1) : hp_R w (va_up h.1 a (some e), h.2) H1 := by
  obtain ⟨h1, h2, h3⟩ := hR
  have hw := (h3 a e0 ha).1
  refine ⟨hz.trans h1, fun q hq => (ho q (by omega)).trans (h2 q hq), fun q e' hq => ?_⟩
  dsimp only at hq
  by_cases hqa : q = a
  · subst hqa
    rw [va_up_self] at hq
    cases hq
    exact ⟨hw, hn⟩
  · rw [va_up_ne _ _ hqa] at hq
    exact ⟨(h3 q e' hq).1, (h3 q e' hq).2.kept (ho q hqa)⟩
def hN (h : hp_M) (e : va_E) : hp_M := (va_up h.1 h.2 (some e), h.2 + 1)
theorem hp_R.push {w : hp_W} {h : hp_M} {H H1 : Heap} (hR : hp_R w h H) {e : va_E} (hb : w.1 ≤ H.size) (hz : H1.size = H.size + 1) (ho : ∀ q, q < H.size → H1[q]? = H[q]?) (hn : va_at w.2.2.1 vwCl (H.size, hp_e w.2.2.2.1 e) H1) : hp_R w (hN h e) H1 := by
  obtain ⟨h1, h2, h3⟩ := hR
  rw [h1] at hb hz ho hn
  refine ⟨hz, fun q hq => (ho q (by omega)).trans (h2 q hq), fun q e' hq => ?_⟩
  dsimp only [hN] at hq
  by_cases hqa : q = h.2
  · subst hqa
    rw [va_up_self] at hq
    cases hq
    exact ⟨hb, hn⟩
  · rw [va_up_ne _ _ hqa] at hq
    have hl : q < h.2 := by rw [← h1]; exact (h3 q e' hq).2.lt
    exact ⟨(h3 q e' hq).1, (h3 q e' hq).2.kept (ho q hl)⟩
/-! The tables' words that every method's contract stands on. -/
def TB : List Cond := lw_tbl.filter goodWord
theorem tb_of {x : Cond} (h : x ∈ lw_tbl) (g : goodWord x = true) : x ∈ TB := List.mem_filter.mpr ⟨h, g⟩
theorem tb_i {x : Cond} (i : Nat) (h : tables_1[i]? = some x) (g : goodWord x = true) : x ∈ TB := tb_of (List.mem_append_right _ (List.mem_of_getElem? h)) g
theorem tb_p {x : Cond} (i : Nat) (h : (k2_sels lw_privs)[i]? = some x) (g : goodWord x = true) : x ∈ TB := tb_of (List.mem_append_left _ (List.mem_of_getElem? h)) g
theorem tb_good {ws : List Cond} (h : ∀ x ∈ ws, x ∈ TB) : GoodIn TB ws := fun x hx => ⟨h x hx, good_of_word (List.mem_filter.mp (h x hx)).2⟩
def kd_nm : List String := ["END", "BAD", "NAME", "NUMBER", "PLANET", "RAIL", "SPEED", "FROM", "RETRO", "EVERY", "ALPHABET", "WHEN", "WRITE", "OF", "TRANSIT", "OPPOSITE", "AT", "LAP", "GAP", "DAY", "LENGTH", "NOT", "AND", "OR", "MIN", "MAX", "OPEN", "CLOSE", "OPEN_TEST", "CLOSE_TEST", "SEMICOLON", "COMMA", "PLUS", "MINUS", "TIMES", "OVER", "REST", "LESS", "GREATER", "EQUAL", "AT_MOST", "AT_LEAST"]
def kd_st : List Int32 := [-1, -1, -1, -1, -1, -1, -1, -1, -1, -1, -1, -1, -1, -1, 7, 8, 3, 4, 5, 1, 2, 10, 11, 12, 13, 14, -1, -1, -1, -1, -1, -1, 15, 16, 17, 18, 19, 20, 21, 22, 23, 24]
def kd_tx : List Nat := [0, 0, 0, 0, 1, 2, 3, 4, 5, 6, 7, 8, 9, 10, 11, 12, 13, 14, 15, 16, 17, 18, 19, 20, 21, 22, 23, 24, 25, 26, 27, 28, 29, 30, 31, 32, 33, 34, 35, 36, 37, 38]
def tx_len : List Nat := [0, 6, 4, 5, 4, 5, 5, 8, 4, 5, 2, 7, 8, 2, 3, 3, 3, 6, 3, 3, 2, 3, 3, 1, 1, 1, 1, 1, 1, 1, 1, 1, 1, 1, 1, 1, 1, 2, 2]
def tx_byt : List (List Int32) := [[], [112, 108, 97, 110, 101, 116], [114, 97, 105, 108], [115, 112, 101, 101, 100], [102, 114, 111, 109], [114, 101, 116, 114, 111], [101, 118, 101, 114, 121], [97, 108, 112, 104, 97, 98, 101, 116], [119, 104, 101, 110], [119, 114, 105, 116, 101], [111, 102], [116, 114, 97, 110, 115, 105, 116], [111, 112, 112, 111, 115, 105, 116, 101], [97, 116], [108, 97, 112], [103, 97, 112], [100, 97, 121], [108, 101, 110, 103, 116, 104], [110, 111, 116], [97, 110, 100], [111, 114], [109, 105, 110], [109, 97, 120], [40], [41], [91], [93], [59], [44], [43], [45], [42], [47], [37], [60], [62], [61], [60, 61], [62, 61]]
def wd_tx : List Nat := [1, 2, 3, 4, 5, 6, 7, 8, 9, 10, 11, 12, 13, 14, 15, 16, 17, 18, 19, 20, 21, 22]
def ex_tx : List (String × Nat × String) := [("ShadowSpell", 55, "the tape is full"), ("ShadowSpell", 70, "the tape has not so many bytes"), ("ShadowSpell", 89, "there is no such count"), ("ShadowSpell", 99, "there is no such planet or fact"), ("ShadowSpell", 105, "there is no such planet"), ("ShadowSpell", 109, "there is no such angle"), ("ShadowSpell", 131, "there is no such alphabet or letter"), ("ShadowSpell", 139, "there is no such rule"), ("ShadowSpell", 144, "so many days can't go by"), ("ShadowSpell", 157, "there is no such place on the paper"), ("ShadowSpell", 169, "there is no such alphabet"), ("ShadowSpell", 175, "so many days can't be foreseen"), ("ShadowSpell", 177, "there is nothing such to foresee"), ("ShadowSpell", 197, "so many days can't be looked through")]
/-! What the start says of statics, constants and texts, at the start's heap; it stays, since nothing below b0 is written. -/
def nwOk : Cond → Bool
  | .fieldLinkNest .. => true
  | .methodLinkNest .. => true
  | x => x.onTables && x.keepsFace
theorem nw_on {x : Cond} (g : nwOk x = true) : x.onTables = true := by
  cases x <;> first | rfl | (simp only [nwOk, Bool.and_eq_true] at g; exact g.1)
theorem nw_warm {x : Cond} (g : nwOk x = true) {s U : State} (hW : s.WarmedH U.vm) (h : va_Nw x s) : va_Nw x U := by
  have gen : (x.onTables && x.keepsFace) = true → va_Nw x U := fun g => by
    rw [Bool.and_eq_true] at g
    have h1 : x.before #[] (s.setVm U.vm) = true := Cond.before_shiftedFace (State.Shifted.of_warmed hW) _ g.2 h
    exact va_tabs g.1 (rfl : (s.setVm U.vm).vm = U.vm) h1
  cases x <;> first | exact va_Nw.warmF hW h | exact va_Nw.warmM hW h | exact gen g
def hp_nw : List Cond := tables_1.filter nwOk
theorem nw_i {x : Cond} (i : Nat) (h : tables_1[i]? = some x) (g : nwOk x = true) : x ∈ hp_nw := List.mem_filter.mpr ⟨List.mem_of_getElem? h, g⟩
def hp_SK (w : hp_W) (U : State) : Prop :=
  (∀ i, i < 42 → va_Z RX2 (kd_nm.getD i "") "LShadowSpell$Kind;" (.ref (w_kd w i)) (hp_A w) U w.2.1 ∧ va_O RX2 (w_kd w i) (hp_A w) U w.2.1 ∧ va_OF RX2 "step" "I" (.int (kd_st.getD i 0)) (w_kd w i) (hp_A w) U w.2.1 ∧ va_OF RX2 "spelling" "Ljava/lang/String;" (.ref (w_ka w (kd_tx.getD i 0))) (w_kd w i) (hp_A w) U w.2.1)
def hp_SA (w : hp_W) (U : State) : Prop :=
  va_Z RX2 "ALL" "[LShadowSpell$Kind;" (.ref (w_al w 0)) (hp_A w) U w.2.1 ∧ va_T (.object RX2) (w_al w 0) 42 (fun j => .ref (w_kd w j)) (hp_A w) U w.2.1 ∧
  va_Z RX13 "WORDS" "[Ljava/lang/String;" (.ref (w_al w 1)) (hp_A w) U w.2.1 ∧ va_T (.object "java/lang/String") (w_al w 1) 22 (fun j => .ref (w_ka w (wd_tx.getD j 0))) (hp_A w) U w.2.1
def hp_SJ (w : hp_W) (U : State) : Prop :=
  vk_S 39 tx_len tx_byt (w_ka w) (fun j => w_al w (j + 2)) (hp_A w) U w.2.1 ∧ va_Z "java/lang/String" "COMPACT_STRINGS" "Z" (.int 1) (hp_A w) U w.2.1 ∧ va_Zq "jdk/internal/util/Preconditions" "SIOOBE_FORMATTER" "Ljava/util/function/BiFunction;" (hp_A w) U w.2.1 ∧
  vx_Zq Bundle.tN "UNASSIGNED_STACK" Bundle.steD (hp_A w) U w.2.1 ∧ vx_Zq Bundle.tN "SUPPRESSED_SENTINEL" Bundle.listD (hp_A w) U w.2.1
def hp_SX (U : State) : Prop :=
  (∀ q ∈ ex_tx, ∃ a, vk_R q.1 q.2.1 q.2.2 a U) ∧ va_AO RX2 U ∧ va_AO RX4 U ∧ va_AO RX0 U ∧ va_Nc "java/lang/IndexOutOfBoundsException" "java/lang/IllegalArgumentException" U ∧ va_Nc "java/lang/IllegalArgumentException" "java/lang/IndexOutOfBoundsException" U
def hp_K (w : hp_W) (U : State) : Prop :=
  va_K w.2.2.1 vwCl (hp_tys w.2.2.2.1) U ∧ (∀ x ∈ hp_nw, va_Nw x U) ∧ (w.2.1.size = w.1 ∧ ∀ i j, i < 42 → j < 42 → w_kd w i = w_kd w j → i = j) ∧ hp_SK w U ∧ hp_SA w U ∧ hp_SJ w U ∧ hp_SX U
theorem hp_SK.moved {w : hp_W} {u U : State} (hvm : u.vm.Alike U.vm) (h : hp_SK w u) : hp_SK w U := fun i hi => ⟨(h i hi).1.moved hvm, (h i hi).2.1.moved hvm, (h i hi).2.2.1.moved hvm, (h i hi).2.2.2.moved hvm⟩
theorem hp_SA.moved {w : hp_W} {u U : State} (hvm : u.vm.Alike U.vm) (h : hp_SA w u) : hp_SA w U := ⟨h.1.moved hvm, h.2.1.moved hvm, h.2.2.1.moved hvm, h.2.2.2.moved hvm⟩
theorem hp_SJ.moved {w : hp_W} {u U : State} (hvm : u.vm.Alike U.vm) (h : hp_SJ w u) : hp_SJ w U := by
  obtain ⟨h1, h2, h3, h4, h5⟩ := h
  exact ⟨h1.moved hvm, h2.moved hvm, h3.moved hvm, h4.moved hvm, h5.moved hvm⟩
theorem hp_K.warm {w : hp_W} {s U : State} (hW : s.WarmedH U.vm) (h : hp_K w s) : hp_K w U := by
  obtain ⟨h1, h2, h3, h4, h5, h6, h7, h8, h9, h10, h11, h12⟩ := h
  refine ⟨h1.moved hW.alike, fun x hx => nw_warm (List.mem_filter.mp hx).2 hW (h2 x hx), h3, h4.moved hW.alike, h5.moved hW.alike, h6.moved hW.alike, fun q hq => ?_, h8.moved hW.alike, h9.moved hW.alike, h10.moved hW.alike, h11.moved hW.alike, h12.moved hW.alike⟩
  obtain ⟨a, ha⟩ := h7 q hq
  exact ⟨a, ha.warm hW⟩
theorem hp_K.same {w : hp_W} {u U : State} (hv : u.vm = U.vm) (h : hp_K w u) : hp_K w U := by
  have hA : u.vm.Alike U.vm := by rw [← hv]; exact Vm.Alike.refl _
  obtain ⟨h1, h2, h3, h4, h5, h6, h7, h8, h9, h10, h11, h12⟩ := h
  refine ⟨h1.moved hA, fun x hx => (h2 x hx).same (nw_on (List.mem_filter.mp hx).2) hv, h3, h4.moved hA, h5.moved hA, h6.moved hA, fun q hq => ?_, h8.moved hA, h9.moved hA, h10.moved hA, h11.moved hA, h12.moved hA⟩
  obtain ⟨a, ha⟩ := h7 q hq
  exact ⟨a, ha.same hv.symm⟩
