/-! contracts, ends, calls -/
abbrev Ou := (Value ⊕ Nat) × Mem
/-- what an answer is on the machine; nothing is .retAddr 0 -/
def cvO (X : Cx) (v : Value) : Option Value := match v with
  | .retAddr _ => none
  | v => some (cv X v)
def QK (X : Cx) (out : Ou) : Array Value → State → Outcome → State → Prop := fun _ st o t => (∃ v, out.1 = .inl v ∧ o = .returned (cvO X v) ∧ Rep X out.2 t.heap) ∧ va_F (Ax X) st t
def QE (X : Cx) (out : Ou) : String → State → State → Prop := fun E st t => (∃ k, out.1 = .inr k ∧ E = xcN k ∧ Rep X out.2 t.heap) ∧ va_F (Ax X) st t
def PcX (X : Cx) (as : List Value) (M : Mem) : Array Value → State → Prop := fun v U => v = (as.map (cv X)).toArray ∧ Rep X M U.heap ∧ KS X U
theorem PcX.blind (X : Cx) (as : List Value) (M : Mem) : FrameBlind (PcX X as M) := fun a U g mk h => ⟨h.1, h.2.1, KS.same (s := U) (U := U.calling g mk a) rfl h.2.2⟩
def wsY (Y : My) : List Cond := Cond.code (yN Y) (yC Y) (yL Y) (yT Y) :: gw
def wsYX (Y : My) : List Cond := Cond.codeWith (yN Y) (yC Y) (yL Y) (yT Y) (yX Y) :: gw
/-- the contract: called with these in this memory, it ends so -/
def Ct (X : Cx) (Y : My) (as : List Value) (M : Mem) (out : Ou) : Prop := vx_Met (xl X) (yN Y) (wsY Y) (yR Y) (PcX X as M) (QK X out) (QE X out) (yR Y).cells (yR Y).slots (Ax X)
def CtX (X : Cx) (Y : My) (as : List Value) (M : Mem) (out : Ou) : Prop := vx_Met (xl X) (yN Y) (wsYX Y) (yR Y) (PcX X as M) (QK X out) (QE X out) (yR Y).cells (yR Y).slots (Ax X)
def endP (X : Cx) (Y : My) (out : Ou) : List Frame → Array Value → State → State → Prop := fun below args s => vx_MQ below (QK X out) (QE X out) args s (yR Y).cells (yR Y).slots (Ax X)
/-- the locals at a method's entry -/
def ent0 (Y : My) (as : List Value) : List Value := as ++ List.replicate (yL Y - as.length) (.retAddr 0)
def cat1 (as : List Value) : Bool := as.all fun v => v.category == 1 && kn v
theorem lv_args_at : ∀ (vs : List Value) (i k : Nat) (v : Value), (∀ w ∈ vs, w.category = 1) → vs[k]? = some v → (i + k, v) ∈ lv_args i vs
  | [], i, k, v, _, h => by simp at h
  | w :: vs, i, 0, v, hc, h => by
    cases h
    exact List.mem_cons_self
  | w :: vs, i, k + 1, v, hc, h => by
    have hw : w.category = 1 := hc w List.mem_cons_self
    unfold lv_args
    rw [if_neg (by omega)]
    refine List.mem_cons_of_mem _ ?_
    have := lv_args_at vs (i + 1) k v (fun w hw => hc w (List.mem_cons_of_mem _ hw)) h
    rw [show i + (k + 1) = i + 1 + k by omega]
    exact this
theorem lg_sl_len : ∀ vs : List Value, (∀ w ∈ vs, w.category = 1) → (lg_sl vs).length = vs.length
  | [], _ => rfl
  | w :: vs, h => by
    have hw : w.category = 1 := h w List.mem_cons_self
    have := lg_sl_len vs fun w hw => h w (List.mem_cons_of_mem _ hw)
    unfold lg_sl at this ⊢
    rw [List.flatMap_cons, List.length_append, this, if_neg (by omega)]
    simp; omega
theorem Lo.entry {X : Cx} {Y : My} {m : MethodId} {as : List Value} (hc : cat1 as = true) (hl : as.length ≤ yL Y) : ∃ la, entryFrame m (as.map (cv X)).toArray (yL Y) = F0 m 0 la [] ∧ Lo X (yL Y) (ent0 Y as) la := by
  have h1 : ∀ w ∈ as, w.category = 1 ∧ kn w = true := fun w hw => by
    have := List.all_eq_true.mp hc w hw
    rw [Bool.and_eq_true] at this
    exact ⟨eq_of_beq this.1, this.2⟩
  have h2 : ∀ w ∈ as.map (cv X), w.category = 1 := fun w hw => by
    obtain ⟨v, hv, rfl⟩ := List.mem_map.mp hw
    rw [cv_cat]
    exact (h1 v hv).1
  have h3 := lg_sl_len _ h2
  rw [List.length_map] at h3
  refine ⟨_, lg_entry_eq m _ _, ?_⟩
  have h := lv_entry (as.map (cv X)) (n := yL Y) (by omega)
  refine ⟨h.1, h.2.1, fun q hq => h.2.2 q ?_⟩
  obtain ⟨v, e1, e2, e3⟩ := lsl_of hq
  obtain ⟨i, w⟩ := q
  dsimp only at e1 e3
  subst e3
  unfold ent0 at e1
  by_cases hi : i < as.length
  · rw [List.getElem?_append_left hi] at e1
    have := lv_args_at (as.map (cv X)) 0 i (cv X v) h2 (by rw [List.getElem?_map, e1]; rfl)
    rwa [Nat.zero_add] at this
  · rw [List.getElem?_append_right (by omega)] at e1
    have := List.mem_of_getElem? e1
    rw [List.mem_replicate] at this
    rw [this.2] at e2
    cases e2
theorem Fx.of {X : Cx} {Y : My} {as : List Value} {M : Mem} {p : Program} {S : Spec} {e : Env} {s : State} {m : MethodId} {args : Array Value} {below : List Frame} {meth : Method} {c : Code} {s₁ : State} (B : BodyLoose p (xl X) (yN Y) S (yC Y) (yL Y) (yT Y) e s m args below meth c s₁) (hml : c.maxLocals = yL Y) (hw : ∀ w ∈ gw, w.before args s = true) (hP : PcX X as M args s) (hx : c.exceptionTable.toList.map (fun x => (x.startPc, x.endPc, x.handlerPc, x.catchType)) = yX Y) : Fx X Y p s m args meth c :=
  ⟨⟨B.exec, B.bytes, hml, findClass_of_methodNamed B.named, B.returns, B.notSynchronized, (name_of_methodNamed B.named B.method).1⟩, hw, hP.2.2, ⟨hP.2.1.2.1, by have := hP.2.1.1; omega⟩, hx⟩
theorem Ct.of {X : Cx} {Y : My} {as : List Value} {M : Mem} {out : Ou} (hp : plainName (yN Y).cls = true) (hg : (cat1 as && decide (as.length ≤ yL Y)) = true) (hx : yX Y = []) (h : G X Y (endP X Y out) 0 (ent0 Y as) [] 0 0 M) : Ct X Y as M out := by
  simp only [Bool.and_eq_true, decide_eq_true_eq] at hg
  refine vx_ofW (cc := yC Y) (maxL := yL Y) (ret := yT Y) hp rfl ?_
  intro p e s m args below meth c s₁ B hml hxt hP
  have hts := atoms_spec (ws := wsY Y) B.pre
  have F : Fx X Y p s m args meth c := Fx.of B hml (fun w hw => hts w (List.mem_cons_of_mem _ hw)) hP (by
    rw [hx]
    cases e9 : c.exceptionTable.toList with
    | nil => rfl
    | cons a l => exact (hxt a (by rw [e9]; exact List.mem_cons_self)).elim)
  obtain ⟨la, e1, hL⟩ := Lo.entry (X := X) (Y := Y) (m := m) hg.1 hg.2
  have k := h p e s m args below meth c F s.heap [] la hP.2.1 va_S.rf hL
  rw [hP.1, e1]
  rw [hP.1] at k
  exact k
theorem CtX.of {X : Cx} {Y : My} {as : List Value} {M : Mem} {out : Ou} (hp : plainName (yN Y).cls = true) (hg : (cat1 as && decide (as.length ≤ yL Y)) = true) (h : G X Y (endP X Y out) 0 (ent0 Y as) [] 0 0 M) : CtX X Y as M out := by
  simp only [Bool.and_eq_true, decide_eq_true_eq] at hg
  refine vx_ofWH (cc := yC Y) (maxL := yL Y) (ret := yT Y) (hh := yX Y) hp rfl ?_
  intro p e s m args below meth c s₁ B hml hP
  have hts := atoms_spec (ws := wsYX Y) B.pre
  have F : Fx X Y p s m args meth c := Fx.of B hml (fun w hw => hts w (List.mem_cons_of_mem _ hw)) hP (by
    obtain ⟨m9, meth9, c9, hn9, h1, h2, -, -, h7, -⟩ := Cond.codeWith_spec (hts _ List.mem_cons_self)
    cases Option.some.inj (hn9.symm.trans B.named)
    cases Option.some.inj (h1.symm.trans B.method)
    cases Option.some.inj (h2.symm.trans (Stand.of_body B).code)
    exact h7)
  obtain ⟨la, e1, hL⟩ := Lo.entry (X := X) (Y := Y) (m := m) hg.1 hg.2
  have k := h p e s m args below meth c F s.heap [] la hP.2.1 va_S.rf hL
  rw [hP.1, e1]
  rw [hP.1] at k
  exact k
section GE
variable {X : Cx} {Y : My} {pc : Nat} {ls st : List Value} {cs ss : Nat} {M : Mem}
/-- the room that is left is enough -/
def lw2 (a b c d : Nat) : Bool := decide (a ≤ b) && decide (c ≤ d)
theorem lw2_s {a b c d : Nat} (h : lw2 a b c d = true) : a ≤ b ∧ c ≤ d := by
  unfold lw2 at h
  rw [Bool.and_eq_true, decide_eq_true_eq, decide_eq_true_eq] at h
  exact h
theorem g_iret {v : Int32} (d : decode (yC Y) pc = .ok (.ireturn, 1)) (ht : yT Y = some .int) (hr : lw2 cs (yR Y).cells ss (yR Y).slots = true) : G X Y (endP X Y (.inl (.int v), M)) pc ls [.int v] cs ss M := by
  intro p e s m args below meth c F H locs la hR hS hL
  obtain ⟨r1, r2⟩ := lw2_s hr
  exact W.widen r1 r2 (vx_ret (W.iret (v := v) F.1.1 F.1.2.1 (F.1.2.2.2.2.1.trans ht) (fun t ht9 hW => ⟨⟨.int v, rfl, rfl, by rw [ht9]; exact hR⟩, hS.F ht9⟩) (fun q hq => hS.2.2 q hq) d (hlocks := F.1.2.2.2.2.2.1)))
theorem g_zret {v : Int32} (d : decode (yC Y) pc = .ok (.ireturn, 1)) (ht : yT Y = some .boolean) (hv : v = 0 ∨ v = 1) (hr : lw2 cs (yR Y).cells ss (yR Y).slots = true) : G X Y (endP X Y (.inl (.int v), M)) pc ls [.int v] cs ss M := by
  intro p e s m args below meth c F H locs la hR hS hL
  obtain ⟨r1, r2⟩ := lw2_s hr
  exact W.widen r1 r2 (vx_ret (W.zret (v := v) (ty := .boolean) F.1.1 F.1.2.1 (F.1.2.2.2.2.1.trans ht) (by rcases hv with rfl | rfl <;> decide) (fun t ht9 hW => ⟨⟨.int v, rfl, rfl, by rw [ht9]; exact hR⟩, hS.F ht9⟩) (fun q hq => hS.2.2 q hq) d (hlocks := F.1.2.2.2.2.2.1)))
theorem g_nret {v : Int32} {ty : FieldType} (d : decode (yC Y) pc = .ok (.ireturn, 1)) (ht : yT Y = some ty) (hv : narrow ty (.int v) = .int v) (hr : lw2 cs (yR Y).cells ss (yR Y).slots = true) : G X Y (endP X Y (.inl (.int v), M)) pc ls [.int v] cs ss M := by
  intro p e s m args below meth c F H locs la hR hS hL
  obtain ⟨r1, r2⟩ := lw2_s hr
  exact W.widen r1 r2 (vx_ret (W.zret (v := v) (ty := ty) F.1.1 F.1.2.1 (F.1.2.2.2.2.1.trans ht) hv (fun t ht9 hW => ⟨⟨.int v, rfl, rfl, by rw [ht9]; exact hR⟩, hS.F ht9⟩) (fun q hq => hS.2.2 q hq) d (hlocks := F.1.2.2.2.2.2.1)))
theorem g_vret (d : decode (yC Y) pc = .ok (.return_, 1)) (ht : yT Y = none) (hr : lw2 cs (yR Y).cells ss (yR Y).slots = true) : G X Y (endP X Y (.inl (.retAddr 0), M)) pc ls [] cs ss M := by
  intro p e s m args below meth c F H locs la hR hS hL
  obtain ⟨r1, r2⟩ := lw2_s hr
  exact W.widen r1 r2 (vx_ret (W.vret F.1.1 F.1.2.1 (F.1.2.2.2.2.1.trans ht) (fun t ht9 hW => ⟨⟨.retAddr 0, rfl, rfl, by rw [ht9]; exact hR⟩, hS.F ht9⟩) (fun q hq => hS.2.2 q hq) d (hlocks := F.1.2.2.2.2.2.1)))
theorem g_aret {r : Nat} {C : String} (d : decode (yC Y) pc = .ok (.areturn, 1)) (ht : yT Y = some (.object C)) (hr : lw2 cs (yR Y).cells ss (yR Y).slots = true) : G X Y (endP X Y (.inl (.ref r), M)) pc ls [.ref r] cs ss M := by
  intro p e s m args below meth c F H locs la hR hS hL
  obtain ⟨r1, r2⟩ := lw2_s hr
  exact W.widen r1 r2 (vx_ret (W.aret (v := cv X (.ref r)) (rt := .object C) F.1.1 F.1.2.1 (F.1.2.2.2.2.1.trans ht) (Or.inl ⟨C, rfl⟩) (cv_case X r) (fun t ht9 hW => ⟨⟨.ref r, rfl, rfl, by rw [ht9]; exact hR⟩, hS.F ht9⟩) (fun q hq => hS.2.2 q hq) d (hlocks := F.1.2.2.2.2.2.1)))
/-- 'throw new E("text")' -/
def XL (own : String) (ik is ic k : Nat) : Prop := Cond.classLink own ik (xcN k) ∈ gw ∧ Cond.initialized (xcN k) ∈ gw ∧ (∃ (j : Nat) (q : String × Nat × String × List Int32), strT[j]? = some q ∧ q.1 = own ∧ q.2.1 = is) ∧
  (∀ w ∈ vx_atS own ic (xcN k) ["java/lang/RuntimeException", "java/lang/Exception"], w ∈ gw ∨ w ∈ nw) ∧ Bundle.fit (xcN k) = true
theorem XL.ot {own : String} {ik is ic k : Nat} (h : XL own ik is ic k) : ∀ w ∈ Cond.classLink own ik (xcN k) :: Cond.initialized (xcN k) :: vx_atS own ic (xcN k) ["java/lang/RuntimeException", "java/lang/Exception"], vx_ot w = true := by
  have hg : ∀ w, w ∈ gw → vx_ot w = true := fun w hw => by unfold vx_ot; rw [(List.mem_filter.mp hw).2]; exact Bool.or_true _
  have hn : ∀ w, w ∈ nw → vx_ot w = true := fun w hw => by unfold vx_ot; rw [isNw_on (List.mem_filter.mp hw).2]; rfl
  intro w hw
  rcases List.mem_cons.mp hw with rfl | hw
  · exact hg _ h.1
  · rcases List.mem_cons.mp hw with rfl | hw
    · exact hg _ h.2.1
    · rcases h.2.2.2.1 w hw with h9 | h9
      · exact hg _ h9
      · exact hn _ h9
theorem kept_c {X : Cx} {s : State} {H : Heap} (h : ∀ q : Nat, q < xb X → H[q]? = (xH X)[q]?) : ∀ a : Nat, a < (xH X).size → ¬ Ax X a → H[a]? = (xH X)[a]? := fun a _ h2 => h a (Nat.lt_of_not_le h2)
theorem pNew30 {X : Cx} {M : Mem} {H H1 : Heap} (h : Rep X M H) (z : H1.size = H.size + 1) (oq : ∀ q : Nat, q < H.size → H1[q]? = H[q]?) : Rep X (pNew M 30 0) H1 := (h.new (t := 30) (n := 0) (fun q => absurd rfl q) z oq).1
theorem g_throw {ik is ic k : Nat} (d0 : decode (yC Y) pc = .ok (.new ik, 3)) (d3 : decode (yC Y) (pc + 3) = .ok (.dup, 1)) (d4 : decode (yC Y) (pc + 4) = .ok (.ldc is, 2)) (d6 : decode (yC Y) (pc + 6) = .ok (.invokespecial ic, 3)) (d9 : decode (yC Y) (pc + 9) = .ok (.athrow, 1)) (hx : XL (yN Y).cls ik is ic k) (hY : yX Y = []) (hst : ((st.map fun v => v.category).sum ≤ 8))
    (hfr : lw2 6 (yR Y).frames 100 (yR Y).locals = true) (hr : lw2 (cs + 1) (yR Y).cells (ss + 6) (yR Y).slots = true) : G X Y (endP X Y (.inr k, pNew M 30 0)) pc ls st cs ss M := by
  intro p e s m args below meth c F H locs la hR hS hL
  obtain ⟨r1, r2⟩ := lw2_s hr
  obtain ⟨r3, r4⟩ := lw2_s hfr
  have hot := hx.ot
  obtain ⟨x1, x2, ⟨j, q, q1, q2, q3⟩, x4, x5⟩ := hx
  have hKC := F.2.2.1.2.2.2.1
  have hvk := hKC.2.2.1 j q q1
  rw [q2, q3] at hvk
  have hcs : ((st.map (cv X)).map fun v => v.category).sum ≤ 8 := by
    rw [List.map_map]
    have : ((fun v : Value => v.category) ∘ cv X) = fun v => v.category := funext fun v => cv_cat X v
    rw [this]
    exact hst
  have hat : ∀ w ∈ vx_atS (yN Y).cls ic (xcN k) ["java/lang/RuntimeException", "java/lang/Exception"], w.before args s = true := fun w hw => by
    rcases x4 w hw with h9 | h9
    · exact F.2.1 w h9
    · exact va_Nw.use (isNw_on (List.mem_filter.mp h9).2) (F.2.2.1.2.1 w h9)
  have hk : ∀ a : Nat, a < (xH X).size → ¬ Ax X a → s.heap[a]? = (xH X)[a]? := kept_c (s := s) F.2.2.2.1.1
  exact rr_throwS (names := ["java/lang/RuntimeException", "java/lang/Exception"]) F.1.1 F.1.2.1 F.2.2.1.2.2.1 F.1.2.2.2.1 x5 (by decide +kernel) (F.2.1 _ x1) (F.2.1 _ x2) hvk hat hot (vx_Zq.kept hKC.2.1.1.1 hk) (vx_Zq.kept hKC.2.1.1.2 hk) hS (hL.1.trans F.1.2.2.1.symm) d0 d3 d4 d6 d9
    (by
      have h9 := F.2.2.2.2
      rw [hY] at h9
      intro x hx
      rw [List.map_eq_nil_iff.mp h9] at hx
      cases hx) (by show 2 + 3 < _; omega) (by show _ + (13 * (2 + 1) + 43) ≤ _; omega) r1 r2 F.1.2.2.2.2.2.1
    (fun t ha z oq => ⟨⟨k, rfl, rfl, pNew30 hR z oq⟩, by
      have h8 : va_S (Ax X) s.heap t.heap locs := hS.grow (by omega) oq
      exact h8.F rfl⟩) (fun z hz => hS.2.2 z hz) r1 r2
theorem g_throwW {ik is ic k : Nat} (d0 : decode (yC Y) pc = .ok (.new ik, 3)) (d3 : decode (yC Y) (pc + 3) = .ok (.dup, 1)) (d4 : decode (yC Y) (pc + 4) = .ok (.ldc_w is, 3)) (d6 : decode (yC Y) (pc + 7) = .ok (.invokespecial ic, 3)) (d9 : decode (yC Y) (pc + 10) = .ok (.athrow, 1)) (hx : XL (yN Y).cls ik is ic k) (hY : yX Y = []) (hst : ((st.map fun v => v.category).sum ≤ 8))
    (hfr : lw2 6 (yR Y).frames 100 (yR Y).locals = true) (hr : lw2 (cs + 1) (yR Y).cells (ss + 6) (yR Y).slots = true) : G X Y (endP X Y (.inr k, pNew M 30 0)) pc ls st cs ss M := by
  intro p e s m args below meth c F H locs la hR hS hL
  obtain ⟨r1, r2⟩ := lw2_s hr
  obtain ⟨r3, r4⟩ := lw2_s hfr
  have hot := hx.ot
  obtain ⟨x1, x2, ⟨j, q, q1, q2, q3⟩, x4, x5⟩ := hx
  have hKC := F.2.2.1.2.2.2.1
  have hvk := hKC.2.2.1 j q q1
  rw [q2, q3] at hvk
  have hcs : ((st.map (cv X)).map fun v => v.category).sum ≤ 8 := by
    rw [List.map_map]
    have : ((fun v : Value => v.category) ∘ cv X) = fun v => v.category := funext fun v => cv_cat X v
    rw [this]
    exact hst
  have hat : ∀ w ∈ vx_atS (yN Y).cls ic (xcN k) ["java/lang/RuntimeException", "java/lang/Exception"], w.before args s = true := fun w hw => by
    rcases x4 w hw with h9 | h9
    · exact F.2.1 w h9
    · exact va_Nw.use (isNw_on (List.mem_filter.mp h9).2) (F.2.2.1.2.1 w h9)
  have hk : ∀ a : Nat, a < (xH X).size → ¬ Ax X a → s.heap[a]? = (xH X)[a]? := kept_c (s := s) F.2.2.2.1.1
  exact rr_throwSW (names := ["java/lang/RuntimeException", "java/lang/Exception"]) F.1.1 F.1.2.1 F.2.2.1.2.2.1 F.1.2.2.2.1 x5 (by decide +kernel) (F.2.1 _ x1) (F.2.1 _ x2) hvk hat hot (vx_Zq.kept hKC.2.1.1.1 hk) (vx_Zq.kept hKC.2.1.1.2 hk) hS (hL.1.trans F.1.2.2.1.symm) d0 d3 d4 d6 d9
    (by
      have h9 := F.2.2.2.2
      rw [hY] at h9
      intro x hx
      rw [List.map_eq_nil_iff.mp h9] at hx
      cases hx) (by show 2 + 3 < _; omega) (by show _ + (13 * (2 + 1) + 43) ≤ _; omega) r1 r2 F.1.2.2.2.2.2.1
    (fun t ha z oq => ⟨⟨k, rfl, rfl, pNew30 hR z oq⟩, by
      have h8 : va_S (Ax X) s.heap t.heap locs := hS.grow (by omega) oq
      exact h8.F rfl⟩) (fun z hz => hS.2.2 z hz) r1 r2
end GE
