/-! what holds at the start: the constants -/
section START
variable {s : State} {args : Array Value} {A : Nat → Prop}
theorem of_OF {t : Term} {a : Nat} {o n d : String} {v : Value} (ht : t.eval args s none [] s = some (.ref a)) (hv : (Term.field t o n d).eval args s none [] s = some v) (hA : ∀ a : Nat, a < s.heap.size → ¬ A a) : va_OF o n d v a A s s.heap := by
  cases hfo : s.fieldFound? o n d with
  | none =>
    rw [va_fe ht] at hv
    simp [State.fieldOf?, State.fieldNamed?, hfo] at hv
  | some x =>
    obtain ⟨cf, k, fi, f⟩ := x
    obtain ⟨g1, cell, g2, g3, -, -, g6⟩ := Term.field_spec hfo ht hv
    exact ⟨cf, k, fi, f, cell, hfo, g1, g2, g3, g6, hA _ (Array.getElem?_eq_some_iff.mp g2).1⟩
theorem stAt_e {j : Nat} {q : String × Nat × String × List Int32} (h : strT[j]? = some q) : j < 81 ∧ stAt j = q := by
  have h1 : j < strT.length := (List.getElem?_eq_some_iff.mp h).1
  rw [strT_len] at h1
  refine ⟨h1, ?_⟩
  unfold stAt
  rw [List.getD_eq_getElem?_getD, h]
  rfl
theorem blkS_len : alB (fun j => decide ((stAt j).2.2.2.length < 1000)) 81 = true := by decide +kernel
theorem of_str (hg : ∀ w ∈ gv, w.before args s = true) (hA : ∀ a : Nat, a < s.heap.size → ¬ A a) {j : Nat} (hj : j < 81) : ∃ a t : Nat, (sTm (stAt j)).eval args s none [] s = some (.ref a) ∧ va_O "java/lang/String" a A s s.heap ∧ va_OF "java/lang/String" "coder" "B" (.int 0) a A s s.heap ∧ va_OF "java/lang/String" "value" "[B" (.ref t) a A s s.heap ∧ va_T .byte t (stAt j).2.2.2.length (fun i => .int ((stAt j).2.2.2.getD i 0)) A s s.heap := by
  have hb : ∀ w ∈ blkS (stAt j), w.before args s = true := fun w hw => hg w (inGv_mem (alB_iff.mp blkS_ok j hj) hw)
  have hlen := of_decide_eq_true (alB_iff.mp blkS_len j hj)
  generalize stAt j = q at hb hlen ⊢
  have b1 : (Cond.exactly (sTm q) "java/lang/String").before args s = true := hb _ (by unfold blkS; simp)
  have b2 : (Cond.eq (.field (sTm q) "java/lang/String" "coder" "B") (.int 0)).before args s = true := hb _ (by unfold blkS; simp)
  have b3 : (Cond.arrayOf (vTm q) .byte).before args s = true := hb _ (by unfold blkS; simp)
  have b4 : (Cond.eq (.length (vTm q)) (.int (Int32.ofNat q.2.2.2.length))).before args s = true := hb _ (by unfold blkS; simp)
  have b5 : ∀ i, i < q.2.2.2.length → (Cond.eq (.elem (vTm q) (.int (Int32.ofNat i))) (.int (q.2.2.2.getD i 0))).before args s = true := fun i hi => hb _ (by
    unfold blkS
    exact List.mem_append_right _ (List.mem_map.mpr ⟨i, List.mem_range.mpr hi, rfl⟩))
  obtain ⟨a, c, cell, k, q1, q2, q3, q4, q5, q6, -⟩ := Cond.exactly_spec b1
  obtain ⟨t, t1, t2⟩ := va_Tof (N := q.2.2.2.length) (f := fun i => .int (q.2.2.2.getD i 0)) (by omega) b3 (va_eqt b4) (fun j hj => va_eqt (b5 j hj)) hA
  exact ⟨a, t, q1, va_Oof b1 q1 hA, of_OF q1 (va_eqt b2) hA, of_OF q1 t1 hA, t2⟩
theorem of_isRef {t : Term} (h : (Cond.isRef t).before args s = true) : t.eval args s none [] s = some .null ∨ ∃ a, t.eval args s none [] s = some (.ref a) := by
  cases e : t.eval args s none [] s with
  | none => simp [Cond.before, Cond.holds, Cond.value, e] at h
  | some v =>
    cases v with
    | ref a => exact Or.inr ⟨a, rfl⟩
    | null => exact Or.inl rfl
    | _ => simp [Cond.before, Cond.holds, Cond.value, e] at h
theorem tokO_e : alB (fun i => decide (tokO.getD i 0 = Int32.ofNat i)) 36 = true := by decide +kernel
/-- one cell's field has one value -/
theorem OF_one {o n d : String} {v v' : Value} {a : Nat} {U : State} {H : Heap} (h : va_OF o n d v a A U H) (h' : va_OF o n d v' a A U H) : v = v' := by
  obtain ⟨cf, k, i, f, cell, h1, -, h3, -, h5, -⟩ := h
  obtain ⟨cf', k', i', f', cell', h1', -, h3', -, h5', -⟩ := h'
  rw [h1] at h1'
  cases h1'
  rw [h3] at h3'
  cases h3'
  rw [h5] at h5'
  exact Option.some.inj h5'
theorem of_const (hg : ∀ w ∈ gv, w.before args s = true) (hts : ∀ w ∈ lw_tbl, w.before args s = true) (l : Launch) (D : va_G) (cA : Nat → ClassId) (b : Nat) :
    ∃ xaF : Nat → Nat, xaF 50 = b ∧ KC (l, D, cA, xaF, s.heap.size, s.heap) s := by
  have hA : ∀ a : Nat, a < s.heap.size → ¬ (fun q => s.heap.size ≤ q) a := fun a h z => Nat.not_le.mpr h z
  have h0 : ∀ j : Nat, ∃ x : Nat × Nat, j < 81 → (sTm (stAt j)).eval args s none [] s = some (.ref x.1) ∧ va_O "java/lang/String" x.1 (fun q => s.heap.size ≤ q) s s.heap ∧ va_OF "java/lang/String" "coder" "B" (.int 0) x.1 (fun q => s.heap.size ≤ q) s s.heap ∧ va_OF "java/lang/String" "value" "[B" (.ref x.2) x.1 (fun q => s.heap.size ≤ q) s s.heap ∧ va_T .byte x.2 (stAt j).2.2.2.length (fun i => .int ((stAt j).2.2.2.getD i 0)) (fun q => s.heap.size ≤ q) s s.heap := fun j => by
    by_cases hj : j < 81
    · obtain ⟨a, t, h⟩ := of_str hg hA hj
      exact ⟨(a, t), fun _ => h⟩
    · exact ⟨(0, 0), fun h => absurd h hj⟩
  obtain ⟨sa, hsa⟩ := Classical.axiomOfChoice h0
  have h1 : ∀ i : Nat, ∃ a : Nat, i < 36 → (tTm i).eval args s none [] s = some (.ref a) := fun i => by
    by_cases hi : i < 36
    · have b1 : (Cond.exactly (tTm i) RX10).before args s = true := hg _ (inGv_mem (alB_iff.mp blkT_ok i hi) (by unfold blkT; simp))
      obtain ⟨a, c, cell, k, q1, -⟩ := Cond.exactly_spec b1
      exact ⟨a, fun _ => q1⟩
    · exact ⟨0, fun h => absurd h hi⟩
  obtain ⟨ta, hta⟩ := Classical.axiomOfChoice h1
  have tini : (Cond.initialized RX10).before args s = true := hts _ (by decide +kernel)
  have wini : (Cond.initialized RX0).before args s = true := hts _ (by decide +kernel)
  have hT36 : (36 : Nat) < 2 ^ 31 := by omega
  obtain ⟨xA40, eA, vA⟩ := va_Tof (args := args) (s := s) (tm := aTm) (ty := .object RX10) (N := 36) (f := fun i => .ref (ta i)) hT36 (hg _ (inGv_mem blkA_ok (by simp))) (va_eqt (hg _ (inGv_mem blkA_ok (by simp)))) (fun j hj => va_eqv (hg _ (inGv_mem blkA2_ok (List.mem_map.mpr ⟨j, List.mem_range.mpr hj, rfl⟩))) (hta j hj)) hA
  obtain ⟨xW41, eW, vW⟩ := va_Tof (args := args) (s := s) (tm := wTm) (ty := .int) (N := 36) (f := fun i => .int (swL.getD i 0)) hT36 (hg _ (inGv_mem blkW_ok (by simp))) (va_eqt (hg _ (inGv_mem blkW_ok (by simp)))) (fun j hj => va_eqt (hg _ (inGv_mem blkW_ok (List.mem_append_right _ (List.mem_map.mpr ⟨j, List.mem_range.mpr hj, rfl⟩))))) hA
  have hF : ∃ tF : Nat, va_Z "jdk/internal/util/Preconditions" "SIOOBE_FORMATTER" "Ljava/util/function/BiFunction;" .null (fun q => s.heap.size ≤ q) s s.heap ∨ va_Z "jdk/internal/util/Preconditions" "SIOOBE_FORMATTER" "Ljava/util/function/BiFunction;" (.ref tF) (fun q => s.heap.size ≤ q) s s.heap := by
    rcases of_isRef (hg (Cond.isRef (.static "jdk/internal/util/Preconditions" "SIOOBE_FORMATTER" "Ljava/util/function/BiFunction;")) (by decide +kernel)) with h | ⟨a, h⟩
    · exact ⟨0, Or.inl (va_Zof (hts _ (by decide +kernel)) (hts _ (by decide +kernel)) h hA)⟩
    · exact ⟨a, Or.inr (va_Zof (hts _ (by decide +kernel)) (hts _ (by decide +kernel)) h hA)⟩
  obtain ⟨tF, hF⟩ := hF
  obtain ⟨xaF, exa⟩ : ∃ f : Nat → Nat, f = fun r => if r = 40 then xA40 else if r = 41 then xW41 else if r = 50 then b else if r = 999 then tF else if r ≤ 36 then ta (r - 1) else if r < 181 then (sa (r - 100)).1 else (sa (r - 300)).2 := ⟨_, rfl⟩
  have x40 : xaF 40 = xA40 := by rw [exa]; rfl
  have x41 : xaF 41 = xW41 := by rw [exa]; rfl
  have x50 : xaF 50 = b := by rw [exa]; rfl
  have x99 : xaF 999 = tF := by rw [exa]; rfl
  have xT : ∀ i, i < 36 → xaF (i + 1) = ta i := fun i hi => by
    rw [exa]
    show (if i + 1 = 40 then xA40 else _) = _
    rw [if_neg (by omega), if_neg (by omega), if_neg (by omega), if_neg (by omega), if_pos (by omega), Nat.add_sub_cancel]
  have xS : ∀ j, j < 81 → xaF (100 + j) = (sa j).1 := fun j hj => by
    rw [exa]
    show (if 100 + j = 40 then xA40 else _) = _
    rw [if_neg (by omega), if_neg (by omega), if_neg (by omega), if_neg (by omega), if_neg (by omega), if_pos (by omega), show 100 + j - 100 = j by omega]
  have xV : ∀ j, j < 81 → xaF (300 + j) = (sa j).2 := fun j hj => by
    rw [exa]
    show (if 300 + j = 40 then xA40 else _) = _
    rw [if_neg (by omega), if_neg (by omega), if_neg (by omega), if_neg (by omega), if_neg (by omega), if_neg (by omega), show 300 + j - 300 = j by omega]
  have tOF : ∀ i, i < 36 → va_OF "java/lang/Enum" "ordinal" "I" (.int (tokO.getD i 0)) (ta i) (fun q => s.heap.size ≤ q) s s.heap := fun i hi => of_OF (hta i hi) (va_eqt (hg _ (inGv_mem (alB_iff.mp blkT_ok i hi) (by unfold blkT; simp)))) hA
  clear exa
  refine ⟨xaF, x50, rfl, ⟨⟨?_, ?_⟩, ?_, ?_, ?_, ⟨?_, ?_⟩, ⟨?_, ?_⟩, ?_, ?_⟩, ?_, ?_⟩
  · exact vx_Zqof (hts _ (by decide +kernel)) (hts _ (by decide +kernel)) (hg (Cond.isRef (.static Bundle.tN "UNASSIGNED_STACK" Bundle.steD)) (by decide +kernel)) hA
  · exact vx_Zqof (hts _ (by decide +kernel)) (hts _ (by decide +kernel)) (hg (Cond.isRef (.static Bundle.tN "SUPPRESSED_SENTINEL" Bundle.listD)) (by decide +kernel)) hA
  · intro j q hq
    obtain ⟨hj, rfl⟩ := stAt_e hq
    obtain ⟨-, k1, k2, k3, k4⟩ := hsa j hj
    refine ⟨?_, ?_, ?_, ?_⟩
    · show va_O "java/lang/String" (xaF (100 + j)) _ s s.heap
      rw [xS j hj]; exact k1
    · show va_OF "java/lang/String" "coder" "B" (.int 0) (xaF (100 + j)) _ s s.heap
      rw [xS j hj]; exact k2
    · show va_OF "java/lang/String" "value" "[B" (.ref (xaF (300 + j))) (xaF (100 + j)) _ s s.heap
      rw [xS j hj, xV j hj]; exact k3
    · show va_T .byte (xaF (300 + j)) _ _ _ s s.heap
      rw [xV j hj]; exact k4
  · refine ⟨fun i hi => ?_, fun i j hi hj e => ?_⟩
    · have hi : i < 36 := hi
      have hl : (Cond.laysStatic RX10 (tokN.getD i "") dTok).before args s = true := hts _ (of_decide_eq_true (alB_iff.mp tabT_ok i hi))
      have hex : (Cond.exactly (tTm i) RX10).before args s = true := hg _ (inGv_mem (alB_iff.mp blkT_ok i hi) (by unfold blkT; simp))
      show va_Z RX10 (tokN.getD i "") dTok (.ref (xaF (i + 1))) _ s s.heap ∧ va_O RX10 (xaF (i + 1)) _ s s.heap ∧ ∀ q ∈ _, va_OF _ _ _ _ (xaF (i + 1)) _ s s.heap
      rw [xT i hi]
      refine ⟨va_Zref hl tini (hta i hi) hA, va_Oof hex (hta i hi) hA, fun q hq => ?_⟩
      rw [List.mem_singleton.mp hq]
      exact tOF i hi
    · have hi : i < 36 := hi
      have hj : j < 36 := hj
      have e : xaF (i + 1) = xaF (j + 1) := e
      rw [xT i hi, xT j hj] at e
      have ti := tOF i hi
      rw [e] at ti
      have := OF_one ti (tOF j hj)
      rw [of_decide_eq_true (alB_iff.mp tokO_e i hi), of_decide_eq_true (alB_iff.mp tokO_e j hj)] at this
      have h2 : Int32.ofNat i = Int32.ofNat j := by injection this
      exact (nI_eq (by omega) (by omega)).mp h2
  · intro i hi
    have hs81 : tokS.getD i 0 < 81 := by
      have : alB (fun i => decide (tokS.getD i 0 < 81)) 36 = true := by decide +kernel
      exact of_decide_eq_true (alB_iff.mp this i hi)
    show va_OF RX10 "spelling" "Ljava/lang/String;" (.ref (xaF (100 + tokS.getD i 0))) (xaF (i + 1)) _ s s.heap
    rw [xT i hi, xS _ hs81]
    exact of_OF (hta i hi) (va_eqv (hg (Cond.eq (.field (tTm i) RX10 "spelling" "Ljava/lang/String;") (sTm (stAt (tokS.getD i 0)))) (inGv_mem (alB_iff.mp blkT_ok i hi) (by unfold blkT; simp))) (hsa _ hs81).1) hA
  · show va_Z RX10 "ALL" "[LRiddleRoad$Token;" (.ref (xaF 40)) _ s s.heap
    rw [x40]
    exact va_Zref (hts _ (by decide +kernel)) tini eA hA
  · show va_T (.object RX10) (xaF 40) 36 (fun i => .ref (xaF (i + 1))) _ s s.heap
    rw [x40]
    obtain ⟨cell, h1, h2, h3, h4, h5, h6, h7⟩ := vA
    refine ⟨cell, h1, h2, h3, h4, h5, fun j hj => ?_, h7⟩
    show _ = some (Value.ref (xaF (j + 1)))
    rw [xT j hj]
    exact h6 j hj
  · show va_Z RX0 "$SwitchMap$RiddleRoad$Token" "[I" (.ref (xaF 41)) _ s s.heap
    rw [x41]
    exact va_Zref (hts _ (by decide +kernel)) wini eW hA
  · show va_T .int (xaF 41) 36 _ _ s s.heap
    rw [x41]; exact vW
  · exact va_Zof (hts _ (by decide +kernel)) (hts _ (by decide +kernel)) (va_eqt (hg (Cond.eq (.static "java/lang/String" "COMPACT_STRINGS" "Z") (.int 1)) (by decide +kernel))) hA
  · show va_Z _ _ _ .null _ s s.heap ∨ va_Z _ _ _ (.ref (xaF 999)) _ s s.heap
    rw [x99]; exact hF
  · intro j q hq
    obtain ⟨hj, rfl⟩ := stAt_e hq
    show vk_R _ _ _ (xaF (100 + j)) s
    rw [xS j hj]
    have w : (Cond.stringRef (stAt j).1 (stAt j).2.1 (stAt j).2.2.1).before args s = true := hts _ (of_decide_eq_true (alB_iff.mp tabS_ok j hj))
    exact vk_R.of (A := args) w (hsa j hj).1
  · intro i j hi hj hij
    have := alB_iff.mp blkN_ok (5 * i + j) (by omega)
    unfold blkN at this
    rw [show (5 * i + j) / 5 = i by omega, show (5 * i + j) % 5 = j by omega, beq_false_of_ne hij, Bool.false_or] at this
    exact va_Nc.of (hg _ (List.mem_of_getElem? (of_decide_eq_true this)))
end START
