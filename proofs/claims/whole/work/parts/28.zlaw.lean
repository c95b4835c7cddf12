/-! a law as a list of steps: its values, its kinds, both machines -/
/-- a step on a stack: facts and numbers are pushed; 9 plus, 10 less, 11 more, 12 not, 13 and, 14 or -/
def stp (fv : Nat → Int32 → Int32) (s : List Int32) (x : Nat × Int32) : List Int32 :=
  if x.1 ≤ 8 then fv x.1 x.2 :: s else match x.1, s with
  | 9, y :: x :: r => (x + y) :: r
  | 10, y :: x :: r => (if y ≤ x then 0 else 1) :: r
  | 11, y :: x :: r => (if x ≤ y then 0 else 1) :: r
  | 12, y :: r => (1 - y) :: r
  | 13, y :: x :: r => (x &&& y) :: r
  | 14, y :: x :: r => (x ||| y) :: r
  | _, s => s
/-- the kinds on the stack: true a number, false a condition -/
def tyS (s : List Bool) (c : Nat) : Option (List Bool) :=
  if c = 7 then some (false :: s) else if c ≤ 8 then some (true :: s) else match c, s with
  | 9, true :: true :: r => some (true :: r)
  | 10, true :: true :: r => some (false :: r)
  | 11, true :: true :: r => some (false :: r)
  | 12, false :: r => some (false :: r)
  | 13, false :: false :: r => some (false :: r)
  | 14, false :: false :: r => some (false :: r)
  | 15, [false] => some []
  | 16, [false] => some []
  | 17, [] => some [false]
  | _, _ => none
def tyL (D : Nat) : List Bool → List (Nat × Int32) → Option (List Bool)
  | s, [] => some s
  | s, x :: r => (tyS s x.1).bind fun s' => if s'.length ≤ D then tyL D s' r else none
theorem tyL_app {D : Nat} : ∀ {l l' : List (Nat × Int32)} {s s' : List Bool}, tyL D s l = some s' → tyL D s (l ++ l') = tyL D s' l'
  | [], _, _, _, h => by cases h; rfl
  | x :: r, l', s, s', h => by
    unfold tyL at h
    show (tyS s x.1).bind _ = _
    cases e : tyS s x.1 with
    | none => rw [e] at h; cases h
    | some u =>
      rw [e] at h
      have h2 : (if u.length ≤ D then tyL D u r else none) = some s' := h
      show (if u.length ≤ D then tyL D u (r ++ l') else none) = _
      by_cases hu : u.length ≤ D
      · rw [if_pos hu] at h2 ⊢
        exact tyL_app h2
      · rw [if_neg hu] at h2; cases h2
/-- values of these kinds -/
def VT : List Bool → List Int32 → Prop
  | [], [] => True
  | b :: r, x :: s => (b = false → x = 0 ∨ x = 1) ∧ VT r s
  | _, _ => False
theorem VT.len : ∀ {τ : List Bool} {s : List Int32}, VT τ s → s.length = τ.length
  | [], [], _ => rfl
  | b :: r, x :: s, h => congrArg (· + 1) (VT.len h.2)
theorem VT.two {b c : Bool} {r : List Bool} {s : List Int32} (h : VT (b :: c :: r) s) : ∃ y x u, s = y :: x :: u ∧ (b = false → y = 0 ∨ y = 1) ∧ (c = false → x = 0 ∨ x = 1) ∧ VT r u := by
  cases s with
  | nil => exact h.elim
  | cons y s => cases s with
    | nil => exact h.2.elim
    | cons x u => exact ⟨y, x, u, rfl, h.1, h.2.1, h.2.2⟩
theorem VT.one {b : Bool} {r : List Bool} {s : List Int32} (h : VT (b :: r) s) : ∃ y u, s = y :: u ∧ (b = false → y = 0 ∨ y = 1) ∧ VT r u := by
  cases s with
  | nil => exact h.elim
  | cons y s => exact ⟨y, s, rfl, h.1, h.2⟩
theorem VT.emp {s : List Int32} (h : VT [] s) : s = [] := by
  cases s with
  | nil => rfl
  | cons y s => exact h.elim
theorem i01 {c : Prop} [Decidable c] : ((if c then (0 : Int32) else 1) = 0) ∨ ((if c then (0 : Int32) else 1) = 1) := by
  by_cases h : c
  · rw [if_pos h]; exact Or.inl rfl
  · rw [if_neg h]; exact Or.inr rfl
/-- the ways a step can be of its kinds -/
theorem tyS_cases {s s' : List Bool} {c : Nat} (h : tyS s c = some s') :
    (c ≤ 8 ∧ s' = (!decide (c = 7)) :: s) ∨ (∃ r, c = 9 ∧ s = true :: true :: r ∧ s' = true :: r) ∨ (∃ r, (c = 10 ∨ c = 11) ∧ s = true :: true :: r ∧ s' = false :: r) ∨ (∃ r, c = 12 ∧ s = false :: r ∧ s' = false :: r) ∨ (∃ r, (c = 13 ∨ c = 14) ∧ s = false :: false :: r ∧ s' = false :: r) ∨ ((c = 15 ∨ c = 16) ∧ s = [false] ∧ s' = []) ∨ (c = 17 ∧ s = [] ∧ s' = [false]) := by
  unfold tyS at h
  by_cases h7 : c = 7
  · rw [if_pos h7] at h
    cases h
    subst h7
    exact Or.inl ⟨by omega, rfl⟩
  · rw [if_neg h7] at h
    by_cases h8 : c ≤ 8
    · rw [if_pos h8] at h
      cases h
      exact Or.inl ⟨h8, by rw [decide_eq_false h7]; rfl⟩
    · rw [if_neg h8] at h
      right
      split at h
      all_goals first
        | (cases h; exact Or.inl ⟨_, rfl, rfl, rfl⟩)
        | (cases h; exact Or.inr (Or.inl ⟨_, Or.inl rfl, rfl, rfl⟩))
        | (cases h; exact Or.inr (Or.inl ⟨_, Or.inr rfl, rfl, rfl⟩))
        | (cases h; exact Or.inr (Or.inr (Or.inl ⟨_, rfl, rfl, rfl⟩)))
        | (cases h; exact Or.inr (Or.inr (Or.inr (Or.inl ⟨_, Or.inl rfl, rfl, rfl⟩))))
        | (cases h; exact Or.inr (Or.inr (Or.inr (Or.inl ⟨_, Or.inr rfl, rfl, rfl⟩))))
        | (cases h; exact Or.inr (Or.inr (Or.inr (Or.inr (Or.inl ⟨Or.inl rfl, rfl, rfl⟩)))))
        | (cases h; exact Or.inr (Or.inr (Or.inr (Or.inr (Or.inl ⟨Or.inr rfl, rfl, rfl⟩)))))
        | (cases h; exact Or.inr (Or.inr (Or.inr (Or.inr (Or.inr ⟨rfl, rfl, rfl⟩)))))
        | cases h
/-- the machine of the one side: sum, never, stack; 15 hard, 16 never, 17 always -/
def cst (fv : Nat → Int32 → Int32) (st : Int32 × Int32 × List Int32) (x : Nat × Int32) : Int32 × Int32 × List Int32 :=
  match x.1, st.2.2 with
  | 15, y :: r => (st.1 + (if y = 1 then x.2 else 0), st.2.1, r)
  | 16, y :: r => (st.1, (if y = 1 then 1 else if st.2.1 = 0 then 0 else 1), r)
  | 17, s => (st.1, st.2.1, 1 :: s)
  | _, s => (st.1, st.2.1, stp fv s x)
theorem cst_low {fv : Nat → Int32 → Int32} {st : Int32 × Int32 × List Int32} {x : Nat × Int32} (h : x.1 ≤ 14) : cst fv st x = (st.1, st.2.1, stp fv st.2.2 x) := by
  unfold cst
  split
  · rename_i e _; omega
  · rename_i e _; omega
  · rename_i e _; omega
  · rfl
theorem stp_fact {fv : Nat → Int32 → Int32} {s : List Int32} {x : Nat × Int32} (h : x.1 ≤ 8) : stp fv s x = fv x.1 x.2 :: s := by
  unfold stp
  rw [if_pos h]
