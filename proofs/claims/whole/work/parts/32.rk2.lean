/-! Reckoning: typed items over a typed stack (true: a test's value, 0 or 1). -/
def fitI (k : Nat) (ts : List Bool) : Option (List Bool) :=
  if k < 6 then some (false :: ts) else if k < 9 then some (true :: ts) else
  match ts with
  | [] => none
  | x :: r => if k = 9 then (if x then none else some (false :: r)) else if k = 10 then (if x then some (true :: r) else none) else
    match r with
    | [] => none
    | y :: r' => if k < 13 then (if x && y then some (true :: r') else none) else if k < 20 then (if x || y then none else some (false :: r')) else (if x || y then none else some (true :: r'))
def fits : List (Nat × Nat × Nat) → List Bool → Option (List Bool)
  | [], ts => some ts
  | q :: l, ts => (fitI q.1 ts).bind fun t => fits l t
theorem fits_append (l m : List (Nat × Nat × Nat)) (ts : List Bool) : fits (l ++ m) ts = (fits l ts).bind fun t => fits m t := by
  induction l generalizing ts with
  | nil => rfl
  | cons q l ih =>
    simp only [List.cons_append, fits]
    cases fitI q.1 ts with
    | none => rfl
    | some t => simp only [Option.bind_some]; exact ih t
def stpV (ask : Nat → Nat → Nat → Int32) (q : Nat × Nat × Nat) (st : List Int32) : List Int32 :=
  if q.1 < 9 then ask q.1 q.2.1 q.2.2 :: st else
  match st with
  | [] => []
  | x :: r => if q.1 < 11 then turV q.1 x :: r else
    match r with
    | [] => []
    | y :: r' => joiV q.1 y x :: r'
def runV (ask : Nat → Nat → Nat → Int32) (l : List (Nat × Nat × Nat)) (st : List Int32) : List Int32 := l.foldl (fun s q => stpV ask q s) st
/-- the values of a stack keep its types -/
def typd (st : List Int32) (ts : List Bool) : Prop := st.length = ts.length ∧ ∀ i, ts.getD i false = true → st.getD i 0 = 0 ∨ st.getD i 0 = 1
