/-! what holds at the start: the tables -/
section START2
variable {s : State} {args : Array Value}
theorem gw_sub (hts : ∀ w ∈ lw_tbl, w.before args s = true) : ∀ w ∈ gw, w.before args s = true := fun w hw => hts w (List.mem_filter.mp hw).1
theorem of_cls (hg : ∀ w ∈ gw, w.before args s = true) : ∃ D : va_G, ∀ (c : Nat) (q : vw_C), vwCl[c]? = some q → u_Kn s q.1 q.2.1 q.2.2 (D.1 c) (D.2 c) := by
  have h0 : ∀ c : Nat, ∃ x : ClassId × (Nat → Nat), ∀ q : vw_C, vwCl[c]? = some q → u_Kn s q.1 q.2.1 q.2.2 x.1 x.2 := fun c => by
    match c with
    | 0 =>
      obtain ⟨a, b, h⟩ := u_known (ws := gw) hg cl_0.2.2.1 (hg _ in_X1)
      exact ⟨(a, b), fun q hq => by cases hq; exact h⟩
    | 1 =>
      obtain ⟨a, b, h⟩ := u_known (ws := gw) hg cl_1.2.2.1 (hg _ in_X2)
      exact ⟨(a, b), fun q hq => by cases hq; exact h⟩
    | 2 =>
      obtain ⟨a, b, h⟩ := u_known (ws := gw) hg cl_2.2.2.1 (hg _ in_X3)
      exact ⟨(a, b), fun q hq => by cases hq; exact h⟩
    | 3 =>
      obtain ⟨a, b, h⟩ := u_known (ws := gw) hg cl_3.2.2.1 (hg _ in_X4)
      exact ⟨(a, b), fun q hq => by cases hq; exact h⟩
    | 4 =>
      obtain ⟨a, b, h⟩ := u_known (ws := gw) hg cl_4.2.2.1 (hg _ in_X7)
      exact ⟨(a, b), fun q hq => by cases hq; exact h⟩
    | 5 =>
      obtain ⟨a, b, h⟩ := u_known (ws := gw) hg cl_5.2.2.1 (hg _ in_X8)
      exact ⟨(a, b), fun q hq => by cases hq; exact h⟩
    | 6 =>
      obtain ⟨a, b, h⟩ := u_known (ws := gw) hg cl_6.2.2.1 (hg _ in_X9)
      exact ⟨(a, b), fun q hq => by cases hq; exact h⟩
    | 7 =>
      obtain ⟨a, b, h⟩ := u_known (ws := gw) hg cl_7.2.2.1 (hg _ in_X11)
      exact ⟨(a, b), fun q hq => by cases hq; exact h⟩
    | 8 =>
      obtain ⟨a, b, h⟩ := u_known (ws := gw) hg cl_8.2.2.1 (hg _ in_X12)
      exact ⟨(a, b), fun q hq => by cases hq; exact h⟩
    | 9 =>
      obtain ⟨a, b, h⟩ := u_known (ws := gw) hg cl_9.2.2.1 (hg _ in_X13)
      exact ⟨(a, b), fun q hq => by cases hq; exact h⟩
    | n + 10 => exact ⟨(0, fun _ => 0), fun q hq => by cases hq⟩
  obtain ⟨f, hf⟩ := Classical.axiomOfChoice h0
  exact ⟨(fun c => (f c).1, fun c => (f c).2), fun c q hq => hf c q hq⟩
theorem arr_1 {ty : FieldType} (hty : ∀ cA : ClassId, va_RA s cA ty = (s.vm.findClass ("[" ++ ty.toString) = some cA)) (h : (Cond.arrayClass ty).before args s = true) : ∃ cA : ClassId, ArrOfT s cA ty ∧ va_RA s cA ty := by
  obtain ⟨c, k, comp, h1, h2, h3⟩ := Cond.arrayClass_spec h
  exact ⟨c, fun n z => ⟨fun k h => (by cases h), k, h2, comp, h3⟩, by rw [hty]; exact h1⟩
theorem arr_2 {C : String} (h : (Cond.arrayOver (.object C)).before args s = true) : ∃ cA : ClassId, ArrOfT s cA (.object C) ∧ va_RA s cA (.object C) := by
  obtain ⟨comp, c, k, h1, -, h2, h3, h4⟩ := Cond.arrayOver_spec h
  exact ⟨c, fun n z => ⟨fun k h => (by cases h), k, h2, comp, h3⟩, k, comp, h2, h3, h1, h4⟩
theorem arr_3 {t : FieldType} (h : (Cond.arrayOver (.array t)).before args s = true) : ∃ cA : ClassId, ArrOfT s cA (.array t) ∧ va_RA s cA (.array t) := by
  obtain ⟨comp, c, k, h1, h2, h3, h4⟩ := Cond.arrayOver_specA h
  exact ⟨c, fun n z => ⟨fun k h => (by cases h), k, h2, comp, h3⟩, h4⟩
theorem of_arrs (hts : ∀ w ∈ lw_tbl, w.before args s = true) : ∃ cA : Nat → ClassId, ∀ (k : Nat) (q : ClassId × FieldType), [(cA 1, FieldType.int), (cA 2, .byte), (cA 3, .long), (cA 4, .object RX10), (cA 5, .object RX11), (cA 6, .array .int)][k]? = some q → ArrOfT s q.1 q.2 ∧ va_RA s q.1 q.2 := by
  obtain ⟨c1, h1⟩ := arr_1 (ty := .int) (fun _ => rfl) (hts _ (by decide +kernel))
  obtain ⟨c2, h2⟩ := arr_1 (ty := .byte) (fun _ => rfl) (hts _ (by decide +kernel))
  obtain ⟨c3, h3⟩ := arr_1 (ty := .long) (fun _ => rfl) (hts _ (by decide +kernel))
  obtain ⟨c4, h4⟩ := arr_2 (C := RX10) (hts _ (by decide +kernel))
  obtain ⟨c5, h5⟩ := arr_2 (C := RX11) (hts _ (by decide +kernel))
  obtain ⟨c6, h6⟩ := arr_3 (t := .int) (hts _ (by decide +kernel))
  refine ⟨fun i => match i with
    | 1 => c1
    | 2 => c2
    | 3 => c3
    | 4 => c4
    | 5 => c5
    | _ => c6, fun k q hq => ?_⟩
  match k with
  | 0 => cases hq; exact h1
  | 1 => cases hq; exact h2
  | 2 => cases hq; exact h3
  | 3 => cases hq; exact h4
  | 4 => cases hq; exact h5
  | 5 => cases hq; exact h6
  | n + 6 => cases hq
theorem of_KS (hgv : (Jvm.Cond.and given_1 narrow_1).before args s = true) (hts : ∀ w ∈ lw_tbl, w.before args s = true) (l : Launch) (hst : l.stackTraces = false) (b : Nat) : ∃ X : Cx, xl X = l ∧ xb X = s.heap.size ∧ xH X = s.heap ∧ xa X 50 = b ∧ KS X s := by
  obtain ⟨D, hD⟩ := of_cls (gw_sub hts)
  obtain ⟨cA, hcA⟩ := of_arrs hts
  obtain ⟨xaF, x50, hKC⟩ := of_const (flat_of_before _ hgv) hts l D cA b
  exact ⟨(l, D, cA, xaF, s.heap.size, s.heap), rfl, rfl, rfl, x50, ⟨hD, hcA⟩, fun w hw => va_Nw.of (isNw_on (List.mem_filter.mp hw).2) (hts w (List.mem_filter.mp hw).1), hst, hKC, va_AO.of (hts _ (by decide +kernel)), va_AO.of (hts _ (by decide +kernel)), va_AOA.of (hts _ (by decide +kernel))⟩
end START2
