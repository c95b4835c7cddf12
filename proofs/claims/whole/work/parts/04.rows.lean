/-! words, what holds of the tables, methods, the predicate G -/
def gw : List Cond := lw_tbl.filter goodWord
def isNw (w : Cond) : Bool := match w with
  | .fieldLinkNest .. => true
  | .methodLinkNest .. => true
  | .castable .. => true
  | .declares _ => true
  | _ => false
def nw : List Cond := lw_tbl.filter isNw
theorem isNw_on {w : Cond} (h : isNw w = true) : w.onTables = true := by cases w <;> first | rfl | (simp [isNw] at h)
theorem isNw_warm {w : Cond} (h : isNw w = true) {s U : State} (hW : s.WarmedH U.vm) (hZ : va_Nw w s) : va_Nw w U := by
  cases w with
  | fieldLinkNest a i b n d h => exact va_Nw.warmF hW hZ
  | methodLinkNest a i x h => exact va_Nw.warmM hW hZ
  | castable a b => exact va_Nw.warmC hW hZ
  | declares x => exact va_Nw.warmD hW hZ
  | _ => simp [isNw] at h
def tysX (X : Cx) : List (ClassId × FieldType) := [(xA X 1, .int), (xA X 2, .byte), (xA X 3, .long), (xA X 4, .object RX10), (xA X 5, .object RX11), (xA X 6, .array .int)]
theorem va_AOA.moved {ty : FieldType} {u U : State} (hvm : u.vm.Alike U.vm) (h : va_AOA ty u) : va_AOA ty U := by
  have h1 := Cond.arrayOver_setVmC (args := #[]) hvm (.array ty)
  have h2 : (Cond.arrayOver (.array ty)).before #[] (u.setVm U.vm) = true := by rw [h1]; exact h
  exact h2
def KS (X : Cx) (U : State) : Prop := va_K (xD X) vwCl (tysX X) U ∧ (∀ w ∈ nw, va_Nw w U) ∧ (xl X).stackTraces = false ∧ KC X U ∧ va_AO RX10 U ∧ va_AO RX11 U ∧ va_AOA .int U
theorem KS.warm {X : Cx} {s U : State} (hW : s.WarmedH U.vm) (h : KS X s) : KS X U := ⟨va_K.moved hW.alike h.1, fun w hw => isNw_warm (List.mem_filter.mp hw).2 hW (h.2.1 w hw), h.2.2.1, KC.warm hW h.2.2.2.1, va_AO.moved hW.alike h.2.2.2.2.1, va_AO.moved hW.alike h.2.2.2.2.2.1, va_AOA.moved hW.alike h.2.2.2.2.2.2⟩
theorem KS.same {X : Cx} {s U : State} (e : s.vm = U.vm) (h : KS X s) : KS X U := by
  have ha : s.vm.Alike U.vm := by rw [← e]; exact Vm.Alike.refl s.vm
  exact ⟨va_K.moved ha h.1, fun w hw => va_Nw.same (isNw_on (List.mem_filter.mp hw).2) e (h.2.1 w hw), h.2.2.1, KC.same e h.2.2.2.1, va_AO.moved ha h.2.2.2.2.1, va_AO.moved ha h.2.2.2.2.2.1, va_AOA.moved ha h.2.2.2.2.2.2⟩
/-- a method: its name, code, locals, answer, room, exception table -/
abbrev My := MethodName × ByteArray × Nat × Option FieldType × Room × List (Nat × Nat × Nat × Nat)
def yN (Y : My) : MethodName := Y.1
def yC (Y : My) : ByteArray := Y.2.1
def yL (Y : My) : Nat := Y.2.2.1
def yT (Y : My) : Option FieldType := Y.2.2.2.1
def yR (Y : My) : Room := Y.2.2.2.2.1
def yX (Y : My) : List (Nat × Nat × Nat × Nat) := Y.2.2.2.2.2
/-- locals that are known, by their places -/
def lsl (X : Cx) (ls : List Value) : List (Nat × Value) := (List.range ls.length).filterMap fun i => match ls[i]? with
  | some v => if kn v then some (i, cv X v) else none
  | none => none
theorem lsl_mem {X : Cx} {ls : List Value} {i : Nat} {v : Value} (h : ls[i]? = some v) (hk : kn v = true) : (i, cv X v) ∈ lsl X ls := by
  unfold lsl
  rw [List.mem_filterMap]
  refine ⟨i, List.mem_range.mpr (List.getElem?_eq_some_iff.mp h).1, ?_⟩
  rw [h]
  show (if kn v = true then _ else _) = _
  rw [if_pos hk]
theorem lsl_of {X : Cx} {ls : List Value} {q : Nat × Value} (h : q ∈ lsl X ls) : ∃ v, ls[q.1]? = some v ∧ kn v = true ∧ q.2 = cv X v := by
  unfold lsl at h
  rw [List.mem_filterMap] at h
  obtain ⟨i, -, hi⟩ := h
  cases e : ls[i]? with
  | none => rw [e] at hi; cases hi
  | some v =>
    rw [e] at hi
    by_cases hk : kn v = true
    · replace hi : (if kn v = true then some (i, cv X v) else none) = some q := hi
      rw [if_pos hk] at hi
      cases hi
      exact ⟨v, e, hk, rfl⟩
    · replace hi : (if kn v = true then some (i, cv X v) else none) = some q := hi
      rw [if_neg hk] at hi
      cases hi
def Lo (X : Cx) (n : Nat) (ls : List Value) (la : Array Slot) : Prop := lv_has la n (lsl X ls)
theorem Lo.get {X : Cx} {n : Nat} {ls : List Value} {la : Array Slot} (h : Lo X n ls la) {i : Nat} {v : Value} (hl : ls[i]? = some v) (hk : kn v = true) : la[i]? = some (.val (cv X v)) := h.2.2 (i, cv X v) (lsl_mem hl hk)
/-- a long ahead of the place would lose its half -/
def nolong (ls : List Value) (i : Nat) : Bool := match i with
  | 0 => true
  | j + 1 => match ls[j]? with
    | some v => v.category == 1
    | none => true
theorem Lo.set {X : Cx} {n : Nat} {ls : List Value} {la : Array Slot} {i : Nat} {v : Value} (hn : nolong ls i = true) (h : lv_has la n ((i, cv X v) :: (lsl X ls).filter (fun q => !(q.1 == i) && !(q.1 + 1 == i && q.2.category == 2)))) : Lo X n (ls.set i v) la := by
  refine ⟨h.1, h.2.1, fun q hq => h.2.2 q ?_⟩
  obtain ⟨w, h1, h2, h3⟩ := lsl_of hq
  by_cases e : q.1 = i
  · have hw : w = v := by
      rw [e] at h1
      have hl : i < ls.length := by
        have := (List.getElem?_eq_some_iff.mp h1).1
        rwa [List.length_set] at this
      rw [List.getElem?_set_self hl] at h1
      cases h1
      rfl
    subst hw
    obtain ⟨a, b⟩ := q
    cases e
    cases h3
    exact List.mem_cons_self
  · rw [List.getElem?_set_ne (fun z => e z.symm)] at h1
    refine List.mem_cons_of_mem _ (List.mem_filter.mpr ⟨?_, ?_⟩)
    · have := lsl_mem (X := X) h1 h2
      rw [← h3] at this
      exact this
    · have e1 : (q.1 == i) = false := by simpa using e
      rw [e1, h3, cv_cat]
      by_cases e2 : q.1 + 1 = i
      · subst e2
        have h9 : w.category = 1 := by
          have hn' : (match ls[q.1]? with | some v => v.category == 1 | none => true) = true := hn
          rw [h1] at hn'
          exact eq_of_beq hn'
        rw [h9]
        simp
      · have e3 : (q.1 + 1 == i) = false := by simpa using e2
        rw [e3]
        rfl
/-- what holds at a method's every place -/
def Fx (X : Cx) (Y : My) (p : Program) (s : State) (m : MethodId) (args : Array Value) (meth : Method) (c : Code) : Prop :=
  (p.tables.exec = Jvm.exec ∧ c.code = yC Y ∧ c.maxLocals = yL Y ∧ s.vm.findClass (yN Y).cls = some m.cls ∧ meth.sig.returnType = yT Y ∧ meth.locks = false ∧ meth.name = (yN Y).name) ∧
  (∀ w ∈ gw, w.before args s = true) ∧ KS X s ∧ ((∀ q : Nat, q < xb X → s.heap[q]? = (xH X)[q]?) ∧ xb X ≤ s.heap.size) ∧ c.exceptionTable.toList.map (fun x => (x.startPc, x.endPc, x.handlerPc, x.catchType)) = yX Y
/-- from here the machine comes to the end P -/
def G (X : Cx) (Y : My) (P : List Frame → Array Value → State → State → Prop) (pc : Nat) (ls st : List Value) (cs ss : Nat) (M : Mem) : Prop :=
  ∀ (p : Program) (e : Env) (s : State) (m : MethodId) (args : Array Value) (below : List Frame) (meth : Method) (c : Code), Fx X Y p s m args meth c →
    ∀ (H : Heap) (locs : List Loc) (la : Array Slot), Rep X M H → va_S (Ax X) s.heap H locs → Lo X (yL Y) ls la →
      W p (xl X) e (yR Y) s m args below meth c H locs cs ss (P below args s) (F0 m pc la (st.map (cv X)))
section GR
variable {X : Cx} {Y : My} {P : List Frame → Array Value → State → State → Prop} {pc : Nat} {ls st : List Value} {cs ss : Nat} {M : Mem}
theorem g_iload {i : Nat} {x : Int32} (d : decode (yC Y) pc = .ok (.iload i, 2)) (hl : ls[i]? = some (.int x)) (k : G X Y P (pc + 2) ls (.int x :: st) cs ss M) : G X Y P pc ls st cs ss M := by
  intro p e s m args below meth c F H locs la hR hS hL
  exact lv_iload F.1.1 F.1.2.1 d (hL.get hl rfl) (k p e s m args below meth c F H locs la hR hS hL)
theorem g_iload_n {n : Fin 4} {x : Int32} (d : decode (yC Y) pc = .ok (.iload_n n, 1)) (hl : ls[n.val]? = some (.int x)) (k : G X Y P (pc + 1) ls (.int x :: st) cs ss M) : G X Y P pc ls st cs ss M := by
  intro p e s m args below meth c F H locs la hR hS hL
  exact lv_iload_n F.1.1 F.1.2.1 d rfl (hL.get hl rfl) (k p e s m args below meth c F H locs la hR hS hL)
theorem g_lload {i : Nat} {x : Int64} (d : decode (yC Y) pc = .ok (.lload i, 2)) (hl : ls[i]? = some (.long x)) (k : G X Y P (pc + 2) ls (.long x :: st) cs ss M) : G X Y P pc ls st cs ss M := by
  intro p e s m args below meth c F H locs la hR hS hL
  exact lv_lload F.1.1 F.1.2.1 d (hL.get hl rfl) (k p e s m args below meth c F H locs la hR hS hL)
theorem g_lload_n {n : Fin 4} {x : Int64} (d : decode (yC Y) pc = .ok (.lload_n n, 1)) (hl : ls[n.val]? = some (.long x)) (k : G X Y P (pc + 1) ls (.long x :: st) cs ss M) : G X Y P pc ls st cs ss M := by
  intro p e s m args below meth c F H locs la hR hS hL
  exact lv_lload_n F.1.1 F.1.2.1 d rfl (hL.get hl rfl) (k p e s m args below meth c F H locs la hR hS hL)
theorem cv_case (X : Cx) (r : Nat) : (cv X (.ref r) = .null) ∨ ∃ a, cv X (.ref r) = .ref a := by
  show (va_rf (rf X r) = .null) ∨ ∃ a, va_rf (rf X r) = .ref a
  unfold rf
  by_cases h : r = 0
  · rw [if_pos h]; exact Or.inl rfl
  · rw [if_neg h]; exact Or.inr ⟨_, rfl⟩
theorem g_aload {i : Nat} {r : Nat} (d : decode (yC Y) pc = .ok (.aload i, 2)) (hl : ls[i]? = some (.ref r)) (k : G X Y P (pc + 2) ls (.ref r :: st) cs ss M) : G X Y P pc ls st cs ss M := by
  intro p e s m args below meth c F H locs la hR hS hL
  have h1 := hL.get hl rfl
  have h2 := k p e s m args below meth c F H locs la hR hS hL
  rw [List.map_cons] at h2
  rcases cv_case X r with h | ⟨a, h⟩
  · rw [h] at h1 h2
    exact lv_aloadN F.1.1 F.1.2.1 d h1 h2
  · rw [h] at h1 h2
    exact lv_aload F.1.1 F.1.2.1 d h1 h2
theorem g_aload_n {n : Fin 4} {r : Nat} (d : decode (yC Y) pc = .ok (.aload_n n, 1)) (hl : ls[n.val]? = some (.ref r)) (k : G X Y P (pc + 1) ls (.ref r :: st) cs ss M) : G X Y P pc ls st cs ss M := by
  intro p e s m args below meth c F H locs la hR hS hL
  have h1 := hL.get hl rfl
  have h2 := k p e s m args below meth c F H locs la hR hS hL
  rw [List.map_cons] at h2
  rcases cv_case X r with h | ⟨a, h⟩
  · rw [h] at h1 h2
    exact lv_aload_nN F.1.1 F.1.2.1 d rfl h1 h2
  · rw [h] at h1 h2
    exact lv_aload_n F.1.1 F.1.2.1 d rfl h1 h2
theorem g_istore {i : Nat} {x : Int32} (d : decode (yC Y) pc = .ok (.istore i, 2)) (hi : (decide (i < yL Y) && nolong ls i) = true) (k : G X Y P (pc + 2) (ls.set i (.int x)) st cs ss M) : G X Y P pc ls (.int x :: st) cs ss M := by
  intro p e s m args below meth c F H locs la hR hS hL
  rw [Bool.and_eq_true, decide_eq_true_eq] at hi
  exact lv_istore (i := i) (x := x) F.1.1 F.1.2.1 d hL hi.1 rfl fun la' h => k p e s m args below meth c F H locs la' hR hS (Lo.set (v := .int x) hi.2 h)
theorem g_istore_n {n : Fin 4} {x : Int32} (d : decode (yC Y) pc = .ok (.istore_n n, 1)) (hi : (decide (n.val < yL Y) && nolong ls n.val) = true) (k : G X Y P (pc + 1) (ls.set n.val (.int x)) st cs ss M) : G X Y P pc ls (.int x :: st) cs ss M := by
  intro p e s m args below meth c F H locs la hR hS hL
  rw [Bool.and_eq_true, decide_eq_true_eq] at hi
  exact lv_istore_n (k := n) (x := x) F.1.1 F.1.2.1 d rfl hL hi.1 rfl fun la' h => k p e s m args below meth c F H locs la' hR hS (Lo.set (v := .int x) hi.2 h)
theorem g_astore {i : Nat} {r : Nat} (d : decode (yC Y) pc = .ok (.astore i, 2)) (hi : (decide (i < yL Y) && nolong ls i) = true) (h0 : r ≠ 0) (k : G X Y P (pc + 2) (ls.set i (.ref r)) st cs ss M) : G X Y P pc ls (.ref r :: st) cs ss M := by
  intro p e s m args below meth c F H locs la hR hS hL
  rw [Bool.and_eq_true, decide_eq_true_eq] at hi
  have h2 := cv_ref X h0
  show W _ _ _ _ _ _ _ _ _ _ _ _ _ _ _ (F0 m pc la (cv X (.ref r) :: st.map (cv X)))
  rw [h2]
  refine lv_astore (i := i) F.1.1 F.1.2.1 d hL hi.1 rfl fun la' h => k p e s m args below meth c F H locs la' hR hS (Lo.set (v := .ref r) hi.2 ?_)
  rw [h2]
  exact h
theorem g_astore_n {n : Fin 4} {r : Nat} (d : decode (yC Y) pc = .ok (.astore_n n, 1)) (hi : (decide (n.val < yL Y) && nolong ls n.val) = true) (h0 : r ≠ 0) (k : G X Y P (pc + 1) (ls.set n.val (.ref r)) st cs ss M) : G X Y P pc ls (.ref r :: st) cs ss M := by
  intro p e s m args below meth c F H locs la hR hS hL
  rw [Bool.and_eq_true, decide_eq_true_eq] at hi
  have h2 := cv_ref X h0
  show W _ _ _ _ _ _ _ _ _ _ _ _ _ _ _ (F0 m pc la (cv X (.ref r) :: st.map (cv X)))
  rw [h2]
  refine lv_astore_n (k := n) F.1.1 F.1.2.1 d rfl hL hi.1 rfl fun la' h => k p e s m args below meth c F H locs la' hR hS (Lo.set (v := .ref r) hi.2 ?_)
  rw [h2]
  exact h
end GR
theorem Lo.set2 {X : Cx} {n : Nat} {ls : List Value} {la : Array Slot} {i : Nat} {x : Int64} (hn : nolong ls i = true) (h : lv_has la n ((i, Value.long x) :: (lsl X ls).filter (fun q => !(q.1 == i) && (!(q.1 == i + 1) && !(q.1 + 1 == i && q.2.category == 2))))) : Lo X n ((ls.set i (.long x)).set (i + 1) (.retAddr 0)) la := by
  refine ⟨h.1, h.2.1, fun q hq => h.2.2 q ?_⟩
  obtain ⟨w, h1, h2, h3⟩ := lsl_of hq
  by_cases e0 : q.1 = i + 1
  · rw [e0] at h1
    have hl : i + 1 < (ls.set i (.long x)).length := by
      have := (List.getElem?_eq_some_iff.mp h1).1
      rwa [List.length_set] at this
    rw [List.getElem?_set_self hl] at h1
    cases h1
    cases h2
  · rw [List.getElem?_set_ne (fun z => e0 z.symm)] at h1
    by_cases e : q.1 = i
    · have hw : w = .long x := by
        rw [e] at h1
        have hl : i < ls.length := by
          have := (List.getElem?_eq_some_iff.mp h1).1
          rwa [List.length_set] at this
        rw [List.getElem?_set_self hl] at h1
        cases h1
        rfl
      subst hw
      obtain ⟨a, b⟩ := q
      cases e
      cases h3
      exact List.mem_cons_self
    · rw [List.getElem?_set_ne (fun z => e z.symm)] at h1
      refine List.mem_cons_of_mem _ (List.mem_filter.mpr ⟨?_, ?_⟩)
      · have := lsl_mem (X := X) h1 h2
        rw [← h3] at this
        exact this
      · have e1 : (q.1 == i) = false := by simpa using e
        have e4 : (q.1 == i + 1) = false := by simpa using e0
        rw [e1, e4, h3, cv_cat]
        by_cases e2 : q.1 + 1 = i
        · subst e2
          have h9 : w.category = 1 := by
            have hn' : (match ls[q.1]? with | some v => v.category == 1 | none => true) = true := hn
            rw [h1] at hn'
            exact eq_of_beq hn'
          rw [h9]
          simp
        · have e3 : (q.1 + 1 == i) = false := by simpa using e2
          rw [e3]
          rfl
section GS
variable {X : Cx} {Y : My} {P : List Frame → Array Value → State → State → Prop} {pc : Nat} {ls st : List Value} {cs ss : Nat} {M : Mem}
theorem g_lstore_n {n : Fin 4} {x : Int64} (d : decode (yC Y) pc = .ok (.lstore_n n, 1)) (hi : (decide (n.val + 1 < yL Y) && nolong ls n.val) = true) (k : G X Y P (pc + 1) ((ls.set n.val (.long x)).set (n.val + 1) (.retAddr 0)) st cs ss M) : G X Y P pc ls (.long x :: st) cs ss M := by
  intro p e s m args below meth c F H locs la hR hS hL
  exact lv_lstore_n (k := n) (x := x) F.1.1 F.1.2.1 d rfl hL (of_decide_eq_true (Bool.and_eq_true_iff.mp hi).1) rfl fun la' h => k p e s m args below meth c F H locs la' hR hS (Lo.set2 (Bool.and_eq_true_iff.mp hi).2 h)
theorem g_lstore {i : Nat} {x : Int64} (d : decode (yC Y) pc = .ok (.lstore i, 2)) (hi : (decide (i + 1 < yL Y) && nolong ls i) = true) (k : G X Y P (pc + 2) ((ls.set i (.long x)).set (i + 1) (.retAddr 0)) st cs ss M) : G X Y P pc ls (.long x :: st) cs ss M := by
  intro p e s m args below meth c F H locs la hR hS hL
  exact lv_lstore (i := i) (x := x) F.1.1 F.1.2.1 d hL (of_decide_eq_true (Bool.and_eq_true_iff.mp hi).1) rfl fun la' h => k p e s m args below meth c F H locs la' hR hS (Lo.set2 (Bool.and_eq_true_iff.mp hi).2 h)
theorem g_iconst {n : Int} {v : Int32} (d : decode (yC Y) pc = .ok (.iconst n, 1)) (hv : Int32.ofInt n = v) (k : G X Y P (pc + 1) ls (.int v :: st) cs ss M) : G X Y P pc ls (st) cs ss M := by
  intro p e s m args below meth c F H locs la hR hS hL
  exact lv_iconst F.1.1 F.1.2.1 d hv (k p e s m args below meth c F H locs la hR hS hL)
theorem g_bipush {n : Int} {v : Int32} (d : decode (yC Y) pc = .ok (.bipush n, 2)) (hv : (Int8.ofInt n).toInt32 = v) (k : G X Y P (pc + 2) ls (.int v :: st) cs ss M) : G X Y P pc ls (st) cs ss M := by
  intro p e s m args below meth c F H locs la hR hS hL
  exact lv_bipush F.1.1 F.1.2.1 d hv (k p e s m args below meth c F H locs la hR hS hL)
theorem g_sipush {n : Int} {v : Int32} (d : decode (yC Y) pc = .ok (.sipush n, 3)) (hv : (Int16.ofInt n).toInt32 = v) (k : G X Y P (pc + 3) ls (.int v :: st) cs ss M) : G X Y P pc ls (st) cs ss M := by
  intro p e s m args below meth c F H locs la hR hS hL
  exact lv_sipush F.1.1 F.1.2.1 d hv (k p e s m args below meth c F H locs la hR hS hL)
theorem g_lconst {n : Fin 2} {v : Int64} (d : decode (yC Y) pc = .ok (.lconst n, 1)) (hv : Int64.ofNat (n : Nat) = v) (k : G X Y P (pc + 1) ls (.long v :: st) cs ss M) : G X Y P pc ls (st) cs ss M := by
  intro p e s m args below meth c F H locs la hR hS hL
  exact lv_lconst F.1.1 F.1.2.1 d hv (k p e s m args below meth c F H locs la hR hS hL)
theorem g_null (d : decode (yC Y) pc = .ok (.aconst_null, 1)) (k : G X Y P (pc + 1) ls (.ref 0 :: st) cs ss M) : G X Y P pc ls (st) cs ss M := by
  intro p e s m args below meth c F H locs la hR hS hL
  exact lv_null F.1.1 F.1.2.1 d (k p e s m args below meth c F H locs la hR hS hL)
theorem g_ldc {i : Nat} {v : Int32} (d : decode (yC Y) pc = .ok (.ldc i, 2)) (hc : Cond.constant (yN Y).cls i v ∈ gw) (k : G X Y P (pc + 2) ls (.int v :: st) cs ss M) : G X Y P pc ls (st) cs ss M := by
  intro p e s m args below meth c F H locs la hR hS hL
  exact lv_ldc F.1.1 F.1.2.1 F.1.2.2.2.1 (F.2.1 _ hc) d (k p e s m args below meth c F H locs la hR hS hL)
theorem g_ldcw {i : Nat} {v : Int32} (d : decode (yC Y) pc = .ok (.ldc_w i, 3)) (hc : Cond.constant (yN Y).cls i v ∈ gw) (k : G X Y P (pc + 3) ls (.int v :: st) cs ss M) : G X Y P pc ls (st) cs ss M := by
  intro p e s m args below meth c F H locs la hR hS hL
  exact lv_ldcw F.1.1 F.1.2.1 F.1.2.2.2.1 (F.2.1 _ hc) d (k p e s m args below meth c F H locs la hR hS hL)
theorem g_ldc2 {i : Nat} {v : Int64} (d : decode (yC Y) pc = .ok (.ldc2_w i, 3)) (hc : Cond.constantLong (yN Y).cls i v ∈ gw) (k : G X Y P (pc + 3) ls (.long v :: st) cs ss M) : G X Y P pc ls (st) cs ss M := by
  intro p e s m args below meth c F H locs la hR hS hL
  exact lv_ldc2 F.1.1 F.1.2.1 F.1.2.2.2.1 (F.2.1 _ hc) d (k p e s m args below meth c F H locs la hR hS hL)
theorem g_iadd {x y : Int32} (d : decode (yC Y) pc = .ok (.iadd, 1)) (k : G X Y P (pc + 1) ls (.int (x + y) :: st) cs ss M) : G X Y P pc ls (.int y :: .int x :: st) cs ss M := by
  intro p e s m args below meth c F H locs la hR hS hL
  exact lv_iadd F.1.1 F.1.2.1 d (k p e s m args below meth c F H locs la hR hS hL)
theorem g_isub {x y : Int32} (d : decode (yC Y) pc = .ok (.isub, 1)) (k : G X Y P (pc + 1) ls (.int (x - y) :: st) cs ss M) : G X Y P pc ls (.int y :: .int x :: st) cs ss M := by
  intro p e s m args below meth c F H locs la hR hS hL
  exact lv_isub F.1.1 F.1.2.1 d (k p e s m args below meth c F H locs la hR hS hL)
theorem g_imul {x y : Int32} (d : decode (yC Y) pc = .ok (.imul, 1)) (k : G X Y P (pc + 1) ls (.int (x * y) :: st) cs ss M) : G X Y P pc ls (.int y :: .int x :: st) cs ss M := by
  intro p e s m args below meth c F H locs la hR hS hL
  exact lv_imul F.1.1 F.1.2.1 d (k p e s m args below meth c F H locs la hR hS hL)
theorem g_iand {x y : Int32} (d : decode (yC Y) pc = .ok (.iand, 1)) (k : G X Y P (pc + 1) ls (.int (x &&& y) :: st) cs ss M) : G X Y P pc ls (.int y :: .int x :: st) cs ss M := by
  intro p e s m args below meth c F H locs la hR hS hL
  exact lv_iand F.1.1 F.1.2.1 d (k p e s m args below meth c F H locs la hR hS hL)
theorem g_ior {x y : Int32} (d : decode (yC Y) pc = .ok (.ior, 1)) (k : G X Y P (pc + 1) ls (.int (x ||| y) :: st) cs ss M) : G X Y P pc ls (.int y :: .int x :: st) cs ss M := by
  intro p e s m args below meth c F H locs la hR hS hL
  exact lv_ior F.1.1 F.1.2.1 d (k p e s m args below meth c F H locs la hR hS hL)
theorem g_ixor {x y : Int32} (d : decode (yC Y) pc = .ok (.ixor, 1)) (k : G X Y P (pc + 1) ls (.int (x ^^^ y) :: st) cs ss M) : G X Y P pc ls (.int y :: .int x :: st) cs ss M := by
  intro p e s m args below meth c F H locs la hR hS hL
  exact lv_ixor F.1.1 F.1.2.1 d (k p e s m args below meth c F H locs la hR hS hL)
theorem g_ishl {x y : Int32} (d : decode (yC Y) pc = .ok (.ishl, 1)) (k : G X Y P (pc + 1) ls (.int (x <<< (y &&& 31)) :: st) cs ss M) : G X Y P pc ls (.int y :: .int x :: st) cs ss M := by
  intro p e s m args below meth c F H locs la hR hS hL
  exact lv_ishl F.1.1 F.1.2.1 d (k p e s m args below meth c F H locs la hR hS hL)
theorem g_ishr {x y : Int32} (d : decode (yC Y) pc = .ok (.ishr, 1)) (k : G X Y P (pc + 1) ls (.int (x >>> (y &&& 31)) :: st) cs ss M) : G X Y P pc ls (.int y :: .int x :: st) cs ss M := by
  intro p e s m args below meth c F H locs la hR hS hL
  exact lv_ishr F.1.1 F.1.2.1 d (k p e s m args below meth c F H locs la hR hS hL)
theorem g_iushr {x y : Int32} (d : decode (yC Y) pc = .ok (.iushr, 1)) (k : G X Y P (pc + 1) ls (.int (x.toUInt32 >>> (y.toUInt32 &&& Int32.toUInt32 31)).toInt32 :: st) cs ss M) : G X Y P pc ls (.int y :: .int x :: st) cs ss M := by
  intro p e s m args below meth c F H locs la hR hS hL
  exact lv_iushr F.1.1 F.1.2.1 d rfl (k p e s m args below meth c F H locs la hR hS hL)
theorem g_idiv {x y : Int32} (d : decode (yC Y) pc = .ok (.idiv, 1)) (h : ¬ y = 0) (k : G X Y P (pc + 1) ls (.int (x / y) :: st) cs ss M) : G X Y P pc ls (.int y :: .int x :: st) cs ss M := by
  intro p e s m args below meth c F H locs la hR hS hL
  exact lv_idiv F.1.1 F.1.2.1 d h (k p e s m args below meth c F H locs la hR hS hL)
theorem g_irem {x y : Int32} (d : decode (yC Y) pc = .ok (.irem, 1)) (h : ¬ y = 0) (k : G X Y P (pc + 1) ls (.int (x - x / y * y) :: st) cs ss M) : G X Y P pc ls (.int y :: .int x :: st) cs ss M := by
  intro p e s m args below meth c F H locs la hR hS hL
  exact lv_irem F.1.1 F.1.2.1 d h (k p e s m args below meth c F H locs la hR hS hL)
theorem g_ineg {x : Int32} (d : decode (yC Y) pc = .ok (.ineg, 1)) (k : G X Y P (pc + 1) ls (.int (-x) :: st) cs ss M) : G X Y P pc ls (.int x :: st) cs ss M := by
  intro p e s m args below meth c F H locs la hR hS hL
  exact lv_ineg F.1.1 F.1.2.1 d (k p e s m args below meth c F H locs la hR hS hL)
theorem g_i2b {x : Int32} (d : decode (yC Y) pc = .ok (.i2b, 1)) (k : G X Y P (pc + 1) ls (.int x.toInt8.toInt32 :: st) cs ss M) : G X Y P pc ls (.int x :: st) cs ss M := by
  intro p e s m args below meth c F H locs la hR hS hL
  exact lv_i2b F.1.1 F.1.2.1 d rfl (k p e s m args below meth c F H locs la hR hS hL)
theorem g_i2l {x : Int32} (d : decode (yC Y) pc = .ok (.i2l, 1)) (k : G X Y P (pc + 1) ls (.long x.toInt64 :: st) cs ss M) : G X Y P pc ls (.int x :: st) cs ss M := by
  intro p e s m args below meth c F H locs la hR hS hL
  exact lv_i2l F.1.1 F.1.2.1 d rfl (k p e s m args below meth c F H locs la hR hS hL)
theorem g_l2i {x : Int64} (d : decode (yC Y) pc = .ok (.l2i, 1)) (k : G X Y P (pc + 1) ls (.int x.toInt32 :: st) cs ss M) : G X Y P pc ls (.long x :: st) cs ss M := by
  intro p e s m args below meth c F H locs la hR hS hL
  exact lv_l2i F.1.1 F.1.2.1 d rfl (k p e s m args below meth c F H locs la hR hS hL)
theorem g_ladd {x y : Int64} (d : decode (yC Y) pc = .ok (.ladd, 1)) (k : G X Y P (pc + 1) ls (.long (x + y) :: st) cs ss M) : G X Y P pc ls (.long y :: .long x :: st) cs ss M := by
  intro p e s m args below meth c F H locs la hR hS hL
  exact lv_ladd F.1.1 F.1.2.1 d (k p e s m args below meth c F H locs la hR hS hL)
theorem g_lsub {x y : Int64} (d : decode (yC Y) pc = .ok (.lsub, 1)) (k : G X Y P (pc + 1) ls (.long (x - y) :: st) cs ss M) : G X Y P pc ls (.long y :: .long x :: st) cs ss M := by
  intro p e s m args below meth c F H locs la hR hS hL
  exact lv_lsub F.1.1 F.1.2.1 d (k p e s m args below meth c F H locs la hR hS hL)
theorem g_lmul {x y : Int64} (d : decode (yC Y) pc = .ok (.lmul, 1)) (k : G X Y P (pc + 1) ls (.long (x * y) :: st) cs ss M) : G X Y P pc ls (.long y :: .long x :: st) cs ss M := by
  intro p e s m args below meth c F H locs la hR hS hL
  exact lv_lmul F.1.1 F.1.2.1 d (k p e s m args below meth c F H locs la hR hS hL)
theorem g_ldiv {x y : Int64} (d : decode (yC Y) pc = .ok (.ldiv, 1)) (h : ¬ y = 0) (k : G X Y P (pc + 1) ls (.long (x / y) :: st) cs ss M) : G X Y P pc ls (.long y :: .long x :: st) cs ss M := by
  intro p e s m args below meth c F H locs la hR hS hL
  exact lv_ldiv F.1.1 F.1.2.1 d h (k p e s m args below meth c F H locs la hR hS hL)
theorem g_lcmp {x y : Int64} (d : decode (yC Y) pc = .ok (.lcmp, 1)) (k : G X Y P (pc + 1) ls (.int (lg_cmp x y) :: st) cs ss M) : G X Y P pc ls (.long y :: .long x :: st) cs ss M := by
  intro p e s m args below meth c F H locs la hR hS hL
  exact W.lcmp F.1.1 F.1.2.1 d (k p e s m args below meth c F H locs la hR hS hL)
theorem g_pop {v : Value} (d : decode (yC Y) pc = .ok (.pop, 1)) (h : v.category = 1) (k : G X Y P (pc + 1) ls st cs ss M) : G X Y P pc ls (v :: st) cs ss M := by
  intro p e s m args below meth c F H locs la hR hS hL
  exact lv_pop F.1.1 F.1.2.1 d ((cv_cat X v).trans h) (k p e s m args below meth c F H locs la hR hS hL)
theorem g_dup {v : Value} (d : decode (yC Y) pc = .ok (.dup, 1)) (h : v.category = 1) (k : G X Y P (pc + 1) ls (v :: v :: st) cs ss M) : G X Y P pc ls (v :: st) cs ss M := by
  intro p e s m args below meth c F H locs la hR hS hL
  exact lv_dup F.1.1 F.1.2.1 d ((cv_cat X v).trans h) (k p e s m args below meth c F H locs la hR hS hL)
theorem g_dup2 {v w : Value} (d : decode (yC Y) pc = .ok (.dup2, 1)) (h : v.category = 1) (h2 : w.category = 1) (k : G X Y P (pc + 1) ls (v :: w :: v :: w :: st) cs ss M) : G X Y P pc ls (v :: w :: st) cs ss M := by
  intro p e s m args below meth c F H locs la hR hS hL
  exact lv_dup2_11 F.1.1 F.1.2.1 d ((cv_cat X v).trans h) ((cv_cat X w).trans h2) (k p e s m args below meth c F H locs la hR hS hL)
theorem g_dup_x1 {v w : Value} (d : decode (yC Y) pc = .ok (.dup_x1, 1)) (h : v.category = 1) (h2 : w.category = 1) (k : G X Y P (pc + 1) ls (v :: w :: v :: st) cs ss M) : G X Y P pc ls (v :: w :: st) cs ss M := by
  intro p e s m args below meth c F H locs la hR hS hL
  exact lv_dup_x1 F.1.1 F.1.2.1 d ((cv_cat X v).trans h) ((cv_cat X w).trans h2) (k p e s m args below meth c F H locs la hR hS hL)
theorem g_dup_x2 {v w u : Value} (d : decode (yC Y) pc = .ok (.dup_x2, 1)) (h : v.category = 1) (h2 : w.category = 1) (h3 : u.category = 1) (k : G X Y P (pc + 1) ls (v :: w :: u :: v :: st) cs ss M) : G X Y P pc ls (v :: w :: u :: st) cs ss M := by
  intro p e s m args below meth c F H locs la hR hS hL
  exact lv_dup_x2 F.1.1 F.1.2.1 d ((cv_cat X v).trans h) ((cv_cat X w).trans h2) ((cv_cat X u).trans h3) (k p e s m args below meth c F H locs la hR hS hL)
theorem g_goto {o : Int} (t : Nat) (d : decode (yC Y) pc = .ok (.goto o, 3)) (ht : (pc : Int) + o = (t : Int)) (k : G X Y P t ls st cs ss M) : G X Y P pc ls (st) cs ss M := by
  intro p e s m args below meth c F H locs la hR hS hL
  exact lv_goto F.1.1 F.1.2.1 d ht (k p e s m args below meth c F H locs la hR hS hL)
theorem g_iinc {i : Nat} {n : Int} {x : Int32} (v : Int32) (d : decode (yC Y) pc = .ok (.iinc i n, 3)) (hl : ls[i]? = some (.int x)) (hv : x + Int32.ofInt n = v) (hi : (decide (i < yL Y) && nolong ls i) = true) (k : G X Y P (pc + 3) (ls.set i (.int v)) st cs ss M) : G X Y P pc ls st cs ss M := by
  intro p e s m args below meth c F H locs la hR hS hL
  rw [Bool.and_eq_true, decide_eq_true_eq] at hi
  obtain ⟨q, hq⟩ := List.getElem?_of_mem (lsl_mem (X := X) hl rfl)
  exact lv_iinc (i := i) (x := x) (k := q) F.1.1 F.1.2.1 d hL hq hv hi.1 rfl fun la' h => k p e s m args below meth c F H locs la' hR hS (Lo.set (v := .int v) hi.2 h)
theorem g_iincW {i : Nat} {n : Int} {x : Int32} (v : Int32) (d : decode (yC Y) pc = .ok (.iinc i n, 6)) (hl : ls[i]? = some (.int x)) (hv : x + Int32.ofInt n = v) (hi : (decide (i < yL Y) && nolong ls i) = true) (k : G X Y P (pc + 6) (ls.set i (.int v)) st cs ss M) : G X Y P pc ls st cs ss M := by
  intro p e s m args below meth c F H locs la hR hS hL
  rw [Bool.and_eq_true, decide_eq_true_eq] at hi
  obtain ⟨q, hq⟩ := List.getElem?_of_mem (lsl_mem (X := X) hl rfl)
  exact lv_iincW (i := i) (x := x) (k := q) F.1.1 F.1.2.1 d hL hq hv hi.1 rfl fun la' h => k p e s m args below meth c F H locs la' hR hS (Lo.set (v := .int v) hi.2 h)
theorem g_if_eq {x : Int32} {o : Int} (t : Nat) (d : decode (yC Y) pc = .ok (.ifCond .eq o, 3)) (ht : (pc : Int) + o = (t : Int)) (kt : x = 0 → G X Y P t ls st cs ss M) (kf : ¬ x = 0 → G X Y P (pc + 3) ls st cs ss M) : G X Y P pc ls (.int x :: st) cs ss M := by
  intro p e s m args below meth c F H locs la hR hS hL
  exact lv_if_eq F.1.1 F.1.2.1 d ht (fun h => kt h p e s m args below meth c F H locs la hR hS hL) (fun h => kf h p e s m args below meth c F H locs la hR hS hL)
theorem g_if_lt {x : Int32} {o : Int} (t : Nat) (d : decode (yC Y) pc = .ok (.ifCond .lt o, 3)) (ht : (pc : Int) + o = (t : Int)) (kt : x < 0 → G X Y P t ls st cs ss M) (kf : ¬ x < 0 → G X Y P (pc + 3) ls st cs ss M) : G X Y P pc ls (.int x :: st) cs ss M := by
  intro p e s m args below meth c F H locs la hR hS hL
  exact lv_if_lt F.1.1 F.1.2.1 d ht (fun h => kt h p e s m args below meth c F H locs la hR hS hL) (fun h => kf h p e s m args below meth c F H locs la hR hS hL)
theorem g_if_ge {x : Int32} {o : Int} (t : Nat) (d : decode (yC Y) pc = .ok (.ifCond .ge o, 3)) (ht : (pc : Int) + o = (t : Int)) (kt : 0 ≤ x → G X Y P t ls st cs ss M) (kf : ¬ 0 ≤ x → G X Y P (pc + 3) ls st cs ss M) : G X Y P pc ls (.int x :: st) cs ss M := by
  intro p e s m args below meth c F H locs la hR hS hL
  exact lv_if_ge F.1.1 F.1.2.1 d ht (fun h => kt h p e s m args below meth c F H locs la hR hS hL) (fun h => kf h p e s m args below meth c F H locs la hR hS hL)
theorem g_if_gt {x : Int32} {o : Int} (t : Nat) (d : decode (yC Y) pc = .ok (.ifCond .gt o, 3)) (ht : (pc : Int) + o = (t : Int)) (kt : 0 < x → G X Y P t ls st cs ss M) (kf : ¬ 0 < x → G X Y P (pc + 3) ls st cs ss M) : G X Y P pc ls (.int x :: st) cs ss M := by
  intro p e s m args below meth c F H locs la hR hS hL
  exact lv_if_gt F.1.1 F.1.2.1 d ht (fun h => kt h p e s m args below meth c F H locs la hR hS hL) (fun h => kf h p e s m args below meth c F H locs la hR hS hL)
theorem g_if_le {x : Int32} {o : Int} (t : Nat) (d : decode (yC Y) pc = .ok (.ifCond .le o, 3)) (ht : (pc : Int) + o = (t : Int)) (kt : x ≤ 0 → G X Y P t ls st cs ss M) (kf : ¬ x ≤ 0 → G X Y P (pc + 3) ls st cs ss M) : G X Y P pc ls (.int x :: st) cs ss M := by
  intro p e s m args below meth c F H locs la hR hS hL
  exact lv_if_le F.1.1 F.1.2.1 d ht (fun h => kt h p e s m args below meth c F H locs la hR hS hL) (fun h => kf h p e s m args below meth c F H locs la hR hS hL)
theorem g_if_ne {x : Int32} {o : Int} (t : Nat) (d : decode (yC Y) pc = .ok (.ifCond .ne o, 3)) (ht : (pc : Int) + o = (t : Int)) (kt : ¬ x = 0 → G X Y P t ls st cs ss M) (kf : x = 0 → G X Y P (pc + 3) ls st cs ss M) : G X Y P pc ls (.int x :: st) cs ss M := by
  intro p e s m args below meth c F H locs la hR hS hL
  exact lv_if_ne F.1.1 F.1.2.1 d ht (fun h => kt h p e s m args below meth c F H locs la hR hS hL) (fun h => kf h p e s m args below meth c F H locs la hR hS hL)
theorem g_icmp_eq {x y : Int32} {o : Int} (t : Nat) (d : decode (yC Y) pc = .ok (.if_icmp .eq o, 3)) (ht : (pc : Int) + o = (t : Int)) (kt : x = y → G X Y P t ls st cs ss M) (kf : ¬ x = y → G X Y P (pc + 3) ls st cs ss M) : G X Y P pc ls (.int y :: .int x :: st) cs ss M := by
  intro p e s m args below meth c F H locs la hR hS hL
  exact lv_icmp_eq F.1.1 F.1.2.1 d ht (fun h => kt h p e s m args below meth c F H locs la hR hS hL) (fun h => kf h p e s m args below meth c F H locs la hR hS hL)
theorem g_icmp_lt {x y : Int32} {o : Int} (t : Nat) (d : decode (yC Y) pc = .ok (.if_icmp .lt o, 3)) (ht : (pc : Int) + o = (t : Int)) (kt : x < y → G X Y P t ls st cs ss M) (kf : ¬ x < y → G X Y P (pc + 3) ls st cs ss M) : G X Y P pc ls (.int y :: .int x :: st) cs ss M := by
  intro p e s m args below meth c F H locs la hR hS hL
  exact lv_icmp_lt F.1.1 F.1.2.1 d ht (fun h => kt h p e s m args below meth c F H locs la hR hS hL) (fun h => kf h p e s m args below meth c F H locs la hR hS hL)
theorem g_icmp_ge {x y : Int32} {o : Int} (t : Nat) (d : decode (yC Y) pc = .ok (.if_icmp .ge o, 3)) (ht : (pc : Int) + o = (t : Int)) (kt : y ≤ x → G X Y P t ls st cs ss M) (kf : ¬ y ≤ x → G X Y P (pc + 3) ls st cs ss M) : G X Y P pc ls (.int y :: .int x :: st) cs ss M := by
  intro p e s m args below meth c F H locs la hR hS hL
  exact lv_icmp_ge F.1.1 F.1.2.1 d ht (fun h => kt h p e s m args below meth c F H locs la hR hS hL) (fun h => kf h p e s m args below meth c F H locs la hR hS hL)
theorem g_icmp_gt {x y : Int32} {o : Int} (t : Nat) (d : decode (yC Y) pc = .ok (.if_icmp .gt o, 3)) (ht : (pc : Int) + o = (t : Int)) (kt : y < x → G X Y P t ls st cs ss M) (kf : ¬ y < x → G X Y P (pc + 3) ls st cs ss M) : G X Y P pc ls (.int y :: .int x :: st) cs ss M := by
  intro p e s m args below meth c F H locs la hR hS hL
  exact lv_icmp_gt F.1.1 F.1.2.1 d ht (fun h => kt h p e s m args below meth c F H locs la hR hS hL) (fun h => kf h p e s m args below meth c F H locs la hR hS hL)
theorem g_icmp_le {x y : Int32} {o : Int} (t : Nat) (d : decode (yC Y) pc = .ok (.if_icmp .le o, 3)) (ht : (pc : Int) + o = (t : Int)) (kt : x ≤ y → G X Y P t ls st cs ss M) (kf : ¬ x ≤ y → G X Y P (pc + 3) ls st cs ss M) : G X Y P pc ls (.int y :: .int x :: st) cs ss M := by
  intro p e s m args below meth c F H locs la hR hS hL
  exact lv_icmp_le F.1.1 F.1.2.1 d ht (fun h => kt h p e s m args below meth c F H locs la hR hS hL) (fun h => kf h p e s m args below meth c F H locs la hR hS hL)
theorem g_icmp_ne {x y : Int32} {o : Int} (t : Nat) (d : decode (yC Y) pc = .ok (.if_icmp .ne o, 3)) (ht : (pc : Int) + o = (t : Int)) (kt : ¬ x = y → G X Y P t ls st cs ss M) (kf : x = y → G X Y P (pc + 3) ls st cs ss M) : G X Y P pc ls (.int y :: .int x :: st) cs ss M := by
  intro p e s m args below meth c F H locs la hR hS hL
  exact lv_icmp_ne F.1.1 F.1.2.1 d ht (fun h => kt h p e s m args below meth c F H locs la hR hS hL) (fun h => kf h p e s m args below meth c F H locs la hR hS hL)
theorem g_tabIn {dflt lo hi : Int} {offs : Array Int} {len : Nat} {x : Int32} {o : Int} (t : Nat) (d : decode (yC Y) pc = .ok (.tableswitch dflt lo hi offs, len)) (h1 : ¬ x.toInt < lo) (h2 : ¬ hi < x.toInt) (ho : offs[(x.toInt - lo).toNat]? = some o) (ht : (pc : Int) + o = (t : Int)) (k : G X Y P t ls st cs ss M) : G X Y P pc ls (.int x :: st) cs ss M := by
  intro p e s m args below meth c F H locs la hR hS hL
  exact lv_tableIn F.1.1 F.1.2.1 d h1 h2 ho ht (k p e s m args below meth c F H locs la hR hS hL)
theorem g_tabOut {dflt lo hi : Int} {offs : Array Int} {len : Nat} {x : Int32} (t : Nat) (d : decode (yC Y) pc = .ok (.tableswitch dflt lo hi offs, len)) (h : x.toInt < lo ∨ hi < x.toInt) (ht : (pc : Int) + dflt = (t : Int)) (k : G X Y P t ls st cs ss M) : G X Y P pc ls (.int x :: st) cs ss M := by
  intro p e s m args below meth c F H locs la hR hS hL
  exact lv_tableOut F.1.1 F.1.2.1 d h ht (k p e s m args below meth c F H locs la hR hS hL)
end GS
