/-! THE ABSTRACT MACHINE: a memory of numbers, its picture in the heap, one predicate for 'from here the machine comes to the end P', one row an instruction. -/
abbrev Mem := (Nat → Nat → Int32) × (Nat → Nat → Nat) × (Nat → Nat → Int64) × (Nat → Nat × Nat) × Nat
def qI (M : Mem) (a k : Nat) : Int32 := M.1 a k
def qR (M : Mem) (a k : Nat) : Nat := M.2.1 a k
def qL (M : Mem) (a k : Nat) : Int64 := M.2.2.1 a k
def qS (M : Mem) (a : Nat) : Nat := (M.2.2.2.1 a).1
def qN (M : Mem) (a : Nat) : Nat := (M.2.2.2.1 a).2
def qZ (M : Mem) : Nat := M.2.2.2.2
def u2 {α : Type} (f : Nat → Nat → α) (a k : Nat) (v : α) : Nat → Nat → α := fun b j => if b = a ∧ j = k then v else f b j
def pI (M : Mem) (a k : Nat) (v : Int32) : Mem := (u2 M.1 a k v, M.2)
def pR (M : Mem) (a k : Nat) (v : Nat) : Mem := (M.1, u2 M.2.1 a k v, M.2.2)
def pL (M : Mem) (a k : Nat) (v : Int64) : Mem := (M.1, M.2.1, u2 M.2.2.1 a k v, M.2.2.2)
/-- a whole row of ints -/
def pRow (M : Mem) (a : Nat) (f : Nat → Int32) : Mem := (fun b => if b = a then f else M.1 b, M.2)
/-- a new cell of kind t and length n, all 0 -/
def pNew (M : Mem) (t n : Nat) : Mem := (fun b => if b = qZ M then fun _ => 0 else M.1 b, fun b => if b = qZ M then fun _ => 0 else M.2.1 b, fun b => if b = qZ M then fun _ => 0 else M.2.2.1 b, fun b => if b = qZ M then (t, n) else M.2.2.2.1 b, qZ M + 1)
theorem u2_s {α : Type} (f : Nat → Nat → α) (a k : Nat) (v : α) : u2 f a k v a k = v := if_pos ⟨rfl, rfl⟩
theorem u2_n {α : Type} (f : Nat → Nat → α) (a k : Nat) (v : α) {b j : Nat} (h : ¬ (b = a ∧ j = k)) : u2 f a k v b j = f b j := if_neg h
theorem u2_o {α : Type} (f : Nat → Nat → α) (a k : Nat) (v : α) {b : Nat} (h : b ≠ a) : u2 f a k v b = f b := funext fun j => if_neg fun q => h q.1
/-! what is fixed in a run: the launch, class and slot numbers, the arrays' classes, the constants' addresses, the first new address, the heap at the start -/
abbrev Cx := Launch × va_G × (Nat → ClassId) × (Nat → Nat) × Nat × Heap
def xl (X : Cx) : Launch := X.1
def xD (X : Cx) : va_G := X.2.1
def xA (X : Cx) : Nat → ClassId := X.2.2.1
def xa (X : Cx) : Nat → Nat := X.2.2.2.1
def xb (X : Cx) : Nat := X.2.2.2.2.1
def xH (X : Cx) : Heap := X.2.2.2.2.2
def Ax (X : Cx) : Nat → Prop := fun q => xb X ≤ q
def ra (X : Cx) (a : Nat) : Nat := if a < 1000 then xa X a else xb X + (a - 1000)
def rf (X : Cx) (r : Nat) : Option Nat := if r = 0 then none else some (ra X r)
def cv (X : Cx) (v : Value) : Value := match v with
  | .ref r => va_rf (rf X r)
  | v => v
def kn (v : Value) : Bool := match v with
  | .retAddr _ => false
  | _ => true
theorem cv_cat (X : Cx) (v : Value) : (cv X v).category = v.category := by
  cases v with
  | ref r =>
    show (va_rf (rf X r)).category = 1
    unfold rf
    by_cases h : r = 0
    · rw [if_pos h]; rfl
    · rw [if_neg h]; rfl
  | _ => rfl
theorem cv_ref (X : Cx) {r : Nat} (h : r ≠ 0) : cv X (.ref r) = .ref (ra X r) := by
  show va_rf (rf X r) = _
  unfold rf
  rw [if_neg h]
  rfl
theorem ra_new (X : Cx) {a : Nat} (h : 1000 ≤ a) : ra X a = xb X + (a - 1000) := if_neg (Nat.not_lt.mpr h)
theorem ra_inj (X : Cx) {a b : Nat} (ha : 1000 ≤ a) (hb : 1000 ≤ b) (h : ra X a = ra X b) : a = b := by
  rw [ra_new X ha, ra_new X hb] at h
  omega
/-- the classes' fields: types, how many -/
def tyOf (ci : Nat) : Nat → FieldType := match ci with
  | 0 => tyX1
  | 1 => tyX2
  | 2 => tyX3
  | 3 => tyX4
  | 4 => tyX7
  | 5 => tyX8
  | 6 => tyX9
  | 7 => tyX11
  | 8 => tyX12
  | _ => tyX13
def nfl (ci : Nat) : Nat := match ci with
  | 0 => 4
  | 1 => 3
  | 2 => 5
  | 3 => 5
  | 4 => 2
  | 5 => 2
  | 6 => 7
  | 7 => 20
  | 8 => 12
  | _ => 20
/-- a field's value -/
def fv (X : Cx) (ci : Nat) (i : Nat → Int32) (r : Nat → Nat) (k : Nat) : Value := if (tyOf ci k).isReference then va_rf (rf X (r k)) else .int (i k)
def fsl (X : Cx) (ci : Nat) (i : Nat → Int32) (r : Nat → Nat) : List Value := (List.range (nfl ci)).map (fv X ci i r)
/-- what stands at an address -/
def ent (X : Cx) (M : Mem) (a : Nat) : va_E :=
  if qS M a = 1 then .inl (xA X 1, qN M a, .inl (qI M a))
  else if qS M a = 2 then .inl (xA X 2, qN M a, .inl (qI M a))
  else if qS M a = 3 then .inl (xA X 3, qN M a, .inr (.inl (qL M a)))
  else if qS M a < 10 then .inl (xA X (qS M a), qN M a, .inr (.inr (.inr (.inr (fun j => rf X (qR M a j))))))
  else .inr (qS M a - 10, fsl X (qS M a - 10) (qI M a) (qR M a))
def Rep (X : Cx) (M : Mem) (H : Heap) : Prop :=
  (1000 ≤ qZ M ∧ H.size + 1000 = xb X + qZ M) ∧ (∀ q : Nat, q < xb X → H[q]? = (xH X)[q]?) ∧
  ∀ a : Nat, qS M a ≠ 0 → 1000 ≤ a ∧ a < qZ M ∧ (qS M a ≠ 30 → va_at (xD X) vwCl (ra X a, ent X M a) H)
theorem Rep.upd {X : Cx} {M M' : Mem} {H H1 : Heap} {a : Nat} (h : Rep X M H) (ha : qS M a ≠ 0) (hz : qZ M' = qZ M) (hs : ∀ b, qS M' b = qS M b) (he : ∀ b, b ≠ a → ent X M' b = ent X M b)
    (hat : va_at (xD X) vwCl (ra X a, ent X M' a) H1) (z : H1.size = H.size) (oq : ∀ q : Nat, q ≠ ra X a → H1[q]? = H[q]?) : Rep X M' H1 := by
  obtain ⟨h1, h2, h3⟩ := h
  have h0 := (h3 a ha).1
  refine ⟨by rw [z, hz]; exact h1, fun q hq => ?_, fun b hb => ?_⟩
  · rw [oq q (by rw [ra_new X h0]; omega)]
    exact h2 q hq
  · rw [hs b] at hb ⊢
    rw [hz]
    refine ⟨(h3 b hb).1, (h3 b hb).2.1, fun hx => ?_⟩
    by_cases e : b = a
    · rw [e]; exact hat
    · rw [he b e]
      exact ((h3 b hb).2.2 hx).kept (oq _ fun q => e (ra_inj X (h3 b hb).1 h0 q))
theorem Rep.at {X : Cx} {M : Mem} {H : Heap} {a : Nat} (h : Rep X M H) (h0 : qS M a ≠ 0) (h1 : qS M a ≠ 30) : va_at (xD X) vwCl (ra X a, ent X M a) H := (h.2.2 a h0).2.2 h1
theorem Rep.lt {X : Cx} {M : Mem} {H : Heap} {a : Nat} (h : Rep X M H) (h0 : qS M a ≠ 0) : 1000 ≤ a := (h.2.2 a h0).1
theorem Rep.ne {X : Cx} {M : Mem} {H : Heap} {a : Nat} (h : Rep X M H) (h0 : qS M a ≠ 0) : a ≠ 0 := by have := h.lt h0; omega
theorem Rep.A {X : Cx} {M : Mem} {H : Heap} {a : Nat} (h : Rep X M H) (h0 : qS M a ≠ 0) : Ax X (ra X a) := by
  show xb X ≤ _
  rw [ra_new X (h.lt h0)]
  omega
/-- a new cell -/
theorem ent_new_old (X : Cx) (M : Mem) (t n : Nat) {b : Nat} (hb : b ≠ qZ M) : ent X (pNew M t n) b = ent X M b ∧ qS (pNew M t n) b = qS M b := by
  have e1 : qS (pNew M t n) b = qS M b := by show (if b = qZ M then _ else _ : Nat × Nat).1 = _; rw [if_neg hb]; rfl
  have e2 : qN (pNew M t n) b = qN M b := by show (if b = qZ M then _ else _ : Nat × Nat).2 = _; rw [if_neg hb]; rfl
  have e3 : qI (pNew M t n) b = qI M b := by show (if b = qZ M then _ else _ : Nat → Int32) = _; rw [if_neg hb]; rfl
  have e4 : qR (pNew M t n) b = qR M b := by show (if b = qZ M then _ else _ : Nat → Nat) = _; rw [if_neg hb]; rfl
  have e5 : qL (pNew M t n) b = qL M b := by show (if b = qZ M then _ else _ : Nat → Int64) = _; rw [if_neg hb]; rfl
  refine ⟨?_, e1⟩
  unfold ent
  rw [e1, e2, e3, e4, e5]
theorem ent_new_self (X : Cx) (M : Mem) (t n : Nat) : qS (pNew M t n) (qZ M) = t ∧ qN (pNew M t n) (qZ M) = n ∧ qI (pNew M t n) (qZ M) = (fun _ => 0) ∧ qR (pNew M t n) (qZ M) = (fun _ => 0) ∧ qL (pNew M t n) (qZ M) = (fun _ => 0) := by
  refine ⟨?_, ?_, ?_, ?_, ?_⟩
  · show (if qZ M = qZ M then _ else _ : Nat × Nat).1 = _; rw [if_pos rfl]
  · show (if qZ M = qZ M then _ else _ : Nat × Nat).2 = _; rw [if_pos rfl]
  · show (if qZ M = qZ M then _ else _ : Nat → Int32) = _; rw [if_pos rfl]
  · show (if qZ M = qZ M then _ else _ : Nat → Nat) = _; rw [if_pos rfl]
  · show (if qZ M = qZ M then _ else _ : Nat → Int64) = _; rw [if_pos rfl]
theorem Rep.new {X : Cx} {M : Mem} {H H1 : Heap} {t n : Nat} (h : Rep X M H) (hat : t ≠ 30 → va_at (xD X) vwCl (H.size, ent X (pNew M t n) (qZ M)) H1) (z : H1.size = H.size + 1) (oq : ∀ q : Nat, q < H.size → H1[q]? = H[q]?) : Rep X (pNew M t n) H1 ∧ ra X (qZ M) = H.size := by
  obtain ⟨⟨h0, h1⟩, h2, h3⟩ := h
  have hra : ra X (qZ M) = H.size := by rw [ra_new X h0]; omega
  refine ⟨⟨⟨by show 1000 ≤ qZ M + 1; omega, by show _ = xb X + (qZ M + 1); omega⟩, fun q hq => ?_, fun a ha => ?_⟩, hra⟩
  · rw [oq q (by omega)]; exact h2 q hq
  · by_cases e : a = qZ M
    · subst e
      refine ⟨h0, by show _ < qZ M + 1; omega, fun hx => ?_⟩
      rw [hra]
      exact hat (by rw [(ent_new_self X M t n).1] at hx; exact hx)
    · obtain ⟨e1, e2⟩ := ent_new_old X M t n e
      rw [e2] at ha ⊢
      rw [e1]
      obtain ⟨k1, k2, k3⟩ := h3 a ha
      refine ⟨k1, by show _ < qZ M + 1; omega, fun hx => (k3 hx).kept (oq _ ?_)⟩
      show ra X a < H.size
      rw [ra_new X k1]
      omega
