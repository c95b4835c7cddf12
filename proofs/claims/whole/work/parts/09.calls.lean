/-! calls -/
/-- a thrown exception of class k, over the method's frame at pc -/
def GT (X : Cx) (Y : My) (P : List Frame → Array Value → State → State → Prop) (pc : Nat) (ls : List Value) (k cs ss : Nat) (M : Mem) : Prop :=
  ∀ (p : Program) (e : Env) (s : State) (m : MethodId) (args : Array Value) (below : List Frame) (meth : Method) (c : Code), Fx X Y p s m args meth c →
    ∀ (H : Heap) (locs : List Loc) (la : Array Slot), Rep X M H → va_S (Ax X) s.heap H locs → Lo X (yL Y) ls la →
      ∀ (st : List Value) (ce : Cell) (q : Addr), H[q]? = some ce → ce.vm = .none → s.vm.findClass (xcN k) = some ce.cls →
        vx_W p (xl X) e (yR Y) s m args below meth c H locs cs ss (P below args s) (F0 m pc la st) q
section GC
variable {X : Cx} {Y : My} {P : List Frame → Array Value → State → State → Prop} {pc : Nat} {ls st : List Value} {cs ss : Nat} {M : Mem}
/-- not caught here -/
theorem gt_out {k : Nat} (hY : yX Y = []) (hr : lw2 cs (yR Y).cells ss (yR Y).slots = true) : GT X Y (endP X Y (.inr k, M)) pc ls k cs ss M := by
  intro p e s m args below meth c F H locs la hR hS hL st ce q h1 h2 h3
  obtain ⟨r1, r2⟩ := lw2_s hr
  refine vx_out (fun x hx => ?_) F.1.2.2.2.2.2.1 h1 h2 h3 (fun t ht ha => ⟨⟨k, rfl, rfl, by rw [ht]; exact hR⟩, hS.F ht⟩) (fun z hz => hS.2.2 z hz) r1 r2
  have h9 := F.2.2.2.2
  rw [hY] at h9
  rw [List.map_eq_nil_iff.mp h9] at hx
  cases hx
/-- caught by the table's row i; stored away; the rows ahead are of other classes -/
theorem gt_catch {k i n : Nat} {f : Fin 4} {row : Nat × Nat × Nat × Nat} (hi : (yX Y)[i]? = some row) (hcov : (decide (row.1 ≤ pc) && decide (pc < row.2.1) && decide (row.2.2.2 ≠ 0)) = true) (hl : Cond.classLink (yN Y).cls row.2.2.2 (xcN k) ∈ gw) (hc : Cond.castable (xcN k) (xcN k) ∈ nw)
    (hpre : ∀ j, j < i → ∃ (r : Nat × Nat × Nat × Nat) (k2 : Nat), (yX Y)[j]? = some r ∧ r.2.2.2 ≠ 0 ∧ Cond.classLink (yN Y).cls r.2.2.2 (xcN k2) ∈ gw ∧ k2 < 5 ∧ k ≠ k2) (hk : k < 5)
    (d : decode (yC Y) row.2.2.1 = .ok (.astore_n f, 1)) (hn : (decide (f.val < yL Y) && nolong ls f.val) = true) (kk : G X Y P (row.2.2.1 + 1) (ls.set f.val (.retAddr 0)) [] cs ss M) : GT X Y P pc ls k cs ss M := by
  intro p e s m args below meth c F H locs la hR hS hL st ce q h1 h2 h3
  simp only [Bool.and_eq_true, decide_eq_true_eq] at hcov hn
  have ht := F.2.2.2.2
  have key : ∀ (j : Nat) (r : Nat × Nat × Nat × Nat), (yX Y)[j]? = some r → ∃ x, c.exceptionTable.toList[j]? = some x ∧ (x.startPc, x.endPc, x.handlerPc, x.catchType) = r := fun j r hj => by
    rw [← ht, List.getElem?_map] at hj
    cases hx : c.exceptionTable.toList[j]? with
    | none => rw [hx] at hj; cases hj
    | some x => rw [hx] at hj; exact ⟨x, rfl, Option.some.inj hj⟩
  obtain ⟨x, hx, hrow⟩ := key i row hi
  subst hrow
  have hxs := hx
  obtain ⟨hlt, hxe⟩ := List.getElem?_eq_some_iff.mp hx
  have hsplit : c.exceptionTable.toList = c.exceptionTable.toList.take i ++ x :: c.exceptionTable.toList.drop (i + 1) := by
    conv => lhs; rw [← List.take_append_drop i c.exceptionTable.toList]
    rw [List.drop_eq_getElem_cons hlt, hxe]
  refine vx_catch (E := xcN k) (name := xcN k) F.1.2.2.2.1 _ x _ hsplit (fun z hz => ?_) ?_ hcov.2 (F.2.1 _ hl) (va_Nw.use rfl (F.2.2.1.2.1 _ hc)) h1 h2 h3 ?_
  · obtain ⟨j, hj⟩ := List.getElem?_of_mem hz
    have hji : j < i := by
      have := (List.getElem?_eq_some_iff.mp hj).1
      rw [List.length_take] at this
      omega
    rw [List.getElem?_take, if_pos hji] at hj
    obtain ⟨r, k2, e1, e2, e3, e4, e5⟩ := hpre j hji
    obtain ⟨z', hz', hr'⟩ := key j r e1
    cases Option.some.inj (hj.symm.trans hz')
    subst hr'
    exact Or.inr ⟨e2, xcN k2, F.2.1 _ e3, F.2.2.1.2.2.2.1.2.2.2 k k2 hk e4 e5⟩
  · unfold covers
    simp only [Bool.and_eq_true, decide_eq_true_eq]
    exact ⟨hcov.1.1, hcov.1.2⟩
  · refine lv_astore_n (k := f) F.1.1 F.1.2.1 d rfl hL hn.1 rfl fun la' h => ?_
    have hL' : Lo X (yL Y) (ls.set f.val (.retAddr 0)) la' := by
      refine ⟨h.1, h.2.1, fun q9 hq => h.2.2 q9 ?_⟩
      obtain ⟨w, w1, w2, w3⟩ := lsl_of hq
      by_cases e9 : q9.1 = f.val
      · rw [e9] at w1
        have hl9 : f.val < ls.length := by
          have := (List.getElem?_eq_some_iff.mp w1).1
          rwa [List.length_set] at this
        rw [List.getElem?_set_self hl9] at w1
        cases w1
        cases w2
      · have h9 : q9 ∈ lsl X (ls.set f.val (.int 0)) := by
          have w1' := w1
          rw [List.getElem?_set_ne (fun z => e9 z.symm)] at w1'
          have := lsl_mem (X := X) (show (ls.set f.val (.int 0))[q9.1]? = some w by rw [List.getElem?_set_ne (fun z => e9 z.symm)]; exact w1') w2
          rw [← w3] at this
          exact this
        rw [List.getElem?_set_ne (fun z => e9 z.symm)] at w1
        refine List.mem_cons_of_mem _ (List.mem_filter.mpr ⟨?_, ?_⟩)
        · have := lsl_mem (X := X) w1 w2
          rw [← w3] at this
          exact this
        · have e1 : (q9.1 == f.val) = false := by simpa using e9
          rw [e1, w3, cv_cat]
          by_cases e2 : q9.1 + 1 = f.val
          · have h8 : w.category = 1 := by
              have hn' := hn.2
              rw [← e2] at hn'
              have hn'' : (match ls[q9.1]? with | some v => v.category == 1 | none => true) = true := hn'
              rw [w1] at hn''
              exact eq_of_beq hn''
            rw [h8]
            simp
          · have e3 : (q9.1 + 1 == f.val) = false := by simpa using e2
            rw [e3]
            rfl
    exact kk p e s m args below meth c F H locs la' hR hS hL'
def cvr (X : Cx) (v : Value) : List Value := (cvO X v).toList
theorem run_ret {Yc : My} {v : Value} {M1 : Mem} {p : Program} {l : Launch} {e : Env} {R : Room} {s : State} {m : MethodId} {args : Array Value} {below : List Frame} {meth : Method} {c : Code} {H : Heap} {locs : List Loc} {mc ms : Nat} {la : Array Slot} {st0 rest : List Value} {a : Array Value} {Q : State → Prop}
    (hr : vx_Run p l e R s m args below meth c H locs cs ss mc ms (F0 m pc la st0) rest (QK X (.inl v, M1) a) (QE X (.inl v, M1)) (Ax X)) (hS : va_S (Ax X) s.heap H locs)
    (kk : ∀ (H1 : Heap) (locs1 : List Loc), Rep X M1 H1 → va_S (Ax X) s.heap H1 locs1 → W p l e R s m args below meth c H1 locs1 (cs + mc) (ss + ms) Q (F0 m (pc + 3) la (cvr X v ++ rest))) : W p l e R s m args below meth c H locs cs ss Q (F0 m pc la st0) := by
  intro T hT Xs
  rcases hr T hT Xs with ⟨v', st₀, t, T', L, h0, X', hL, e1, e2, ⟨⟨w, hw, hv, hRep⟩, hF⟩, go⟩ | ⟨q, st₀, t, T', L, E, ce, h0, X', hL, e1, e2, ⟨⟨k, hk, -⟩, -⟩, -⟩
  · have hvw : v' = cvO X v := by
      have h9 : w = v := by cases hw; rfl
      subst h9
      cases hv
      rfl
    subst hvw
    obtain ⟨k1, k2, k3⟩ := vx_keep h0 e1 hS (fun q _ h => h) (fun q h => h) hL hF
    obtain ⟨t2, a1, b1⟩ := kk T'.heap (locs ++ L) (by rw [e1]; exact hRep) k3 T' rfl X'
    exact ⟨t2, go t2 a1, b1⟩
  · cases hk
theorem run_thr {k : Nat} {M1 : Mem} {p : Program} {l : Launch} {e : Env} {R : Room} {s : State} {m : MethodId} {args : Array Value} {below : List Frame} {meth : Method} {c : Code} {H : Heap} {locs : List Loc} {mc ms : Nat} {la : Array Slot} {st0 rest : List Value} {a : Array Value} {Q : State → Prop}
    (hr : vx_Run p l e R s m args below meth c H locs cs ss mc ms (F0 m pc la st0) rest (QK X (.inr k, M1) a) (QE X (.inr k, M1)) (Ax X)) (hS : va_S (Ax X) s.heap H locs)
    (kk : ∀ (H1 : Heap) (locs1 : List Loc) (ce : Cell) (q : Addr), Rep X M1 H1 → va_S (Ax X) s.heap H1 locs1 → H1[q]? = some ce → ce.vm = .none → s.vm.findClass (xcN k) = some ce.cls → vx_W p l e R s m args below meth c H1 locs1 (cs + mc) (ss + ms) Q (F0 m pc la rest) q) : W p l e R s m args below meth c H locs cs ss Q (F0 m pc la st0) := by
  intro T hT Xs
  rcases hr T hT Xs with ⟨v', st₀, t, T', L, h0, X', hL, e1, e2, ⟨⟨w, hw, -⟩, -⟩, -⟩ | ⟨q, st₀, t, T', L, E, ce, h0, X', hL, e1, e2, ⟨⟨k2, hk, hE, hRep⟩, hF⟩, hce, hcv, hcl, go⟩
  · cases hw
  · cases hk
    subst hE
    obtain ⟨k1, k2, k3⟩ := vx_keep h0 e1 hS (fun q _ h => h) (fun q h => h) hL hF
    obtain ⟨t2, a1, b1⟩ := kk T'.heap (locs ++ L) ce q (by rw [e1]; exact hRep) k3 (by rw [e1]; exact hce) hcv hcl T' rfl X'
    exact ⟨t2, go.trans a1, b1⟩
/-- what the tables say of a call's row -/
def notMH (c : String) (ds : String) (n : Nat) : Prop := c ≠ "java/lang/invoke/MethodHandle" ∧ c ≠ "java/lang/invoke/VarHandle" ∧ (parseMethodDescriptor ds).map (fun d => d.parameters.length) = some n
def ML (own : String) (idx : Nat) (y : MethodName) : Prop := Cond.methodLink own idx y ∈ gw ∨ ∃ host, Cond.methodLinkNest own idx y host ∈ nw
def VL (own : String) (idx : Nat) (C : String) (y : MethodName) (n : Nat) : Prop := ML own idx y ∧ Cond.instanceMethod y ∈ gw ∧ Cond.selects C y y ∈ gw ∧ Cond.initialized y.cls ∈ gw ∧ notMH y.cls y.desc n
def SL (own : String) (idx : Nat) (y : MethodName) (n : Nat) : Prop := ML own idx y ∧ Cond.static y ∈ gw ∧ Cond.initialized y.cls ∈ gw ∧ notMH y.cls y.desc n
def IL (own : String) (idx : Nat) (y : MethodName) (n : Nat) : Prop := ML own idx y ∧ Cond.instanceMethod y ∈ gw ∧ Cond.initialized y.cls ∈ gw ∧ notMH y.cls y.desc n ∧ y.name = "<init>"
/-- a method found by the receiver: named x, found y -/
def UL (own : String) (idx : Nat) (C owner : String) (x y : MethodName) (n : Nat) : Prop := Cond.methodLink own idx x ∈ gw ∧ Cond.sameMethod x.cls owner x.name x.desc ∈ gw ∧ Cond.selects C x y ∈ gw ∧ Cond.instanceMethod y ∈ gw ∧ Cond.initialized y.cls ∈ gw ∧ notMH owner x.desc n ∧
  (Cond.declares ⟨owner, x.name, x.desc⟩ ∈ nw ∨ ∃ b k r, Cond.instanceMethod ⟨owner, x.name, x.desc⟩ ∈ gw ∧ Cond.code ⟨owner, x.name, x.desc⟩ b k r ∈ gw)
def YG (Y : My) : Prop := Cond.code (yN Y) (yC Y) (yL Y) (yT Y) ∈ gw
def YGX (Y : My) : Prop := Cond.codeWith (yN Y) (yC Y) (yL Y) (yT Y) (yX Y) ∈ gw
/-- the room for a callee -/
def rmk (Y Y' : My) (cs ss : Nat) : Bool := decide ((yR Y').frames + 1 ≤ (yR Y).frames) && decide (8 + (yL Y' + 11) + (yR Y').locals ≤ (yR Y).locals) && decide (cs + (yR Y').cells ≤ (yR Y).cells) && decide (ss + (yR Y').slots ≤ (yR Y).slots)
theorem gw_pay {s : State} {args : Array Value} (h : ∀ w ∈ gw, w.before args s = true) {w : Cond} (hw : w ∈ gw) (a' : Array Value) (U : State) (hW : s.WarmedH U.vm) : w.before a' U = true := word_at hW (good_of_word (List.mem_filter.mp hw).2) (h w hw)
theorem rmk_s {Y Y' : My} {cs ss : Nat} (h : rmk Y Y' cs ss = true) : (yR Y').frames + 1 ≤ (yR Y).frames ∧ 8 + (yL Y' + 11) + (yR Y').locals ≤ (yR Y).locals ∧ cs + (yR Y').cells ≤ (yR Y).cells ∧ ss + (yR Y').slots ≤ (yR Y).slots := by
  unfold rmk at h
  simp only [Bool.and_eq_true, decide_eq_true_eq] at h
  exact ⟨h.1.1.1, h.1.1.2, h.1.2, h.2⟩
theorem notMH_s {c ds : String} {n : Nat} (h : notMH c ds n) : ∀ sig, parseMethodDescriptor ds = some sig → n = sig.parameters.length := fun sig h9 => by
  have h2 := h.2.2
  rw [h9] at h2
  exact (Option.some.inj h2).symm
theorem cat_map (X : Cx) {st : List Value} (h : (st.map fun v => v.category).sum ≤ 8) : ((st.map (cv X)).map fun v => v.category).sum ≤ 8 := by
  rw [List.map_map]
  have : ((fun v : Value => v.category) ∘ cv X) = fun v => v.category := funext fun v => cv_cat X v
  rw [this]
  exact h
/-- the receiver is an object of class C -/
def RC (X : Cx) (M : Mem) (b : Nat) (C : String) : Prop := ∀ (s : State) (H : Heap), KS X s → Rep X M H → b ≠ 0 ∧ ∃ cellB : Cell, H[ra X b]? = some cellB ∧ cellB.vm.isStatics = false ∧ s.vm.findClass C = some cellB.cls
theorem RC.obj {X : Cx} {M : Mem} {b ci N : Nat} {C : String} {T : u_T} (h : qS M b = 10 + ci) (h20 : ci ≠ 20) (hc : vwCl[ci]? = some (C, T, N)) : RC X M b C := fun s H hK hR => by
  have h0 : qS M b ≠ 0 := by omega
  have hat := hR.at h0 (by omega)
  rw [ent_obj h] at hat
  exact ⟨hR.ne h0, va_recv (q0 := 0) (ci := ci) hK.1 (one_P hat) hc rfl⟩
theorem call_V {idx n : Nat} {C : String} {Y' : My} {b : Nat} {as stk : List Value} {out : Ou} (d : decode (yC Y) pc = .ok (.invokevirtual idx, 3)) (hl : VL (yN Y).cls idx C (yN Y') n) (hy : YG Y') (hct : Ct X Y' (.ref b :: as) M out) (hrc : RC X M b C) (hstk : stk = as.reverse ++ .ref b :: st) (hn : as.length = n) (hr : rmk Y Y' cs ss = true) (hst : (st.map fun v => v.category).sum ≤ 8)
    {p : Program} {e : Env} {s : State} {m : MethodId} {args : Array Value} {below : List Frame} {meth : Method} {c : Code} (F : Fx X Y p s m args meth c) {H : Heap} {locs : List Loc} {la : Array Slot} (hR : Rep X M H) (hL : Lo X (yL Y) ls la) :
    vx_Run p (xl X) e (yR Y) s m args below meth c H locs cs ss (yR Y').cells (yR Y').slots (F0 m pc la (stk.map (cv X))) (st.map (cv X)) (QK X out (.ref (ra X b) :: as.map (cv X)).toArray) (QE X out) (Ax X) := by
  obtain ⟨hb0, hcell⟩ := hrc s H F.2.2.1 hR
  obtain ⟨r1, r2, r3, r4⟩ := rmk_s hr
  have hcvb : cv X (.ref b) = .ref (ra X b) := cv_ref X hb0
  have hstack : stk.map (cv X) = (as.map (cv X)).reverse ++ .ref (ra X b) :: st.map (cv X) := by rw [hstk, List.map_append, List.map_cons, List.map_reverse, hcvb]
  have hp : PreV s H C (ra X b) (PcX X (.ref b :: as) M) (as.map (cv X)) := ⟨PcX.blind _ _ _, hcell, fun U hU hW => ⟨by rw [List.map_cons, hcvb], by rw [hU]; exact hR, KS.warm hW F.2.2.1⟩⟩
  have hS9 : CallFix p m c (yC Y) (yL Y) s args gw (yN Y).cls := ⟨F.1.1, F.1.2.1, F.1.2.2.1, F.1.2.2.2.1, F.2.1⟩
  have hws : ∀ w ∈ wsY Y', ∀ (a' : Array Value) (U : State), s.WarmedH U.vm → w.before a' U = true := fun w hw a' U hW => by
    rcases List.mem_cons.mp hw with rfl | hw
    · exact gw_pay F.2.1 hy a' U hW
    · exact gw_pay F.2.1 hw a' U hW
  obtain ⟨l1, l2, l3, l4, l5⟩ := hl
  rcases l1 with l1 | ⟨host, l1⟩
  · exact vx_runV hS9 hct ⟨⟨rfl, rfl, r1, r2, hws, List.mem_cons_self, F.2.1 _ hy, F.2.1 _ l4, ⟨l5.1, l5.2.1⟩, notMH_s l5, F.2.1 _ l1⟩, F.2.1 _ l2, F.2.1 _ l3⟩ hp rfl (by rw [List.length_map]; exact hn) hL.1 hstack (lv_room (cat_map X hst)) d ⟨r3, r4⟩
  · exact vx_runVN hS9 hct ⟨⟨⟨rfl, rfl, r1, r2, hws, List.mem_cons_self⟩, F.2.1 _ hy, F.2.1 _ l4, ⟨l5.1, l5.2.1⟩, notMH_s l5, va_Nw.use rfl (F.2.2.1.2.1 _ l1)⟩, F.2.1 _ l2, F.2.1 _ l3⟩ hp rfl (by rw [List.length_map]; exact hn) hL.1 hstack (lv_room (cat_map X hst)) d ⟨r3, r4⟩
theorem call_S {idx n : Nat} {Y' : My} {as stk : List Value} {out : Ou} (d : decode (yC Y) pc = .ok (.invokestatic idx, 3)) (hl : SL (yN Y).cls idx (yN Y') n) (hy : YG Y') (hct : Ct X Y' as M out) (hstk : stk = as.reverse ++ st) (hn : as.length = n) (hr : rmk Y Y' cs ss = true) (hst : (st.map fun v => v.category).sum ≤ 8)
    {p : Program} {e : Env} {s : State} {m : MethodId} {args : Array Value} {below : List Frame} {meth : Method} {c : Code} (F : Fx X Y p s m args meth c) {H : Heap} {locs : List Loc} {la : Array Slot} (hR : Rep X M H) (hL : Lo X (yL Y) ls la) :
    vx_Run p (xl X) e (yR Y) s m args below meth c H locs cs ss (yR Y').cells (yR Y').slots (F0 m pc la (stk.map (cv X))) (st.map (cv X)) (QK X out (as.map (cv X)).toArray) (QE X out) (Ax X) := by
  obtain ⟨r1, r2, r3, r4⟩ := rmk_s hr
  have hstack : stk.map (cv X) = (as.map (cv X)).reverse ++ st.map (cv X) := by rw [hstk, List.map_append, List.map_reverse]
  have hp : PreS s H (PcX X as M) (as.map (cv X)) := ⟨PcX.blind _ _ _, fun U hU hW => ⟨rfl, by rw [hU]; exact hR, KS.warm hW F.2.2.1⟩⟩
  have hS9 : CallFix p m c (yC Y) (yL Y) s args gw (yN Y).cls := ⟨F.1.1, F.1.2.1, F.1.2.2.1, F.1.2.2.2.1, F.2.1⟩
  have hws : ∀ w ∈ wsY Y', ∀ (a' : Array Value) (U : State), s.WarmedH U.vm → w.before a' U = true := fun w hw a' U hW => by
    rcases List.mem_cons.mp hw with rfl | hw
    · exact gw_pay F.2.1 hy a' U hW
    · exact gw_pay F.2.1 hw a' U hW
  obtain ⟨l1, l2, l4, l5⟩ := hl
  rcases l1 with l1 | ⟨host, l1⟩
  · exact vx_runS hS9 hct ⟨⟨rfl, rfl, r1, r2, hws, List.mem_cons_self, F.2.1 _ hy, F.2.1 _ l4, ⟨l5.1, l5.2.1⟩, notMH_s l5, F.2.1 _ l1⟩, F.2.1 _ l2⟩ hp rfl (by rw [List.length_map]; exact hn) hL.1 hstack (lv_room (cat_map X hst)) d ⟨r3, r4⟩
  · exact vx_runSN hS9 hct ⟨⟨⟨rfl, rfl, r1, r2, hws, List.mem_cons_self⟩, F.2.1 _ hy, F.2.1 _ l4, ⟨l5.1, l5.2.1⟩, notMH_s l5, va_Nw.use rfl (F.2.2.1.2.1 _ l1)⟩, F.2.1 _ l2, trivial⟩ hp rfl (by rw [List.length_map]; exact hn) hL.1 hstack (lv_room (cat_map X hst)) d ⟨r3, r4⟩
theorem call_I {idx n : Nat} {Y' : My} {b : Nat} {as stk : List Value} {out : Ou} (hT : yT Y' = none) (d : decode (yC Y) pc = .ok (.invokespecial idx, 3)) (hl : IL (yN Y).cls idx (yN Y') n) (hy : YG Y') (hct : Ct X Y' (.ref b :: as) M out) (hb : qS M b ≠ 0) (hstk : stk = as.reverse ++ .ref b :: st) (hn : as.length = n) (hr : rmk Y Y' cs ss = true) (hst : (st.map fun v => v.category).sum ≤ 8)
    {p : Program} {e : Env} {s : State} {m : MethodId} {args : Array Value} {below : List Frame} {meth : Method} {c : Code} (F : Fx X Y p s m args meth c) {H : Heap} {locs : List Loc} {la : Array Slot} (hR : Rep X M H) (hL : Lo X (yL Y) ls la) :
    vx_Run p (xl X) e (yR Y) s m args below meth c H locs cs ss (yR Y').cells (yR Y').slots (F0 m pc la (stk.map (cv X))) (st.map (cv X)) (QK X out (.ref (ra X b) :: as.map (cv X)).toArray) (QE X out) (Ax X) := by
  obtain ⟨r1, r2, r3, r4⟩ := rmk_s hr
  have hcvb : cv X (.ref b) = .ref (ra X b) := cv_ref X (hR.ne hb)
  have hstack : stk.map (cv X) = (as.map (cv X)).reverse ++ .ref (ra X b) :: st.map (cv X) := by rw [hstk, List.map_append, List.map_cons, List.map_reverse, hcvb]
  have hp : PreS s H (PcX X (.ref b :: as) M) (.ref (ra X b) :: as.map (cv X)) := ⟨PcX.blind _ _ _, fun U hU hW => ⟨by rw [List.map_cons, hcvb], by rw [hU]; exact hR, KS.warm hW F.2.2.1⟩⟩
  have hS9 : CallFix p m c (yC Y) (yL Y) s args gw (yN Y).cls := ⟨F.1.1, F.1.2.1, F.1.2.2.1, F.1.2.2.2.1, F.2.1⟩
  have hws : ∀ w ∈ wsY Y', ∀ (a' : Array Value) (U : State), s.WarmedH U.vm → w.before a' U = true := fun w hw a' U hW => by
    rcases List.mem_cons.mp hw with rfl | hw
    · exact gw_pay F.2.1 hy a' U hW
    · exact gw_pay F.2.1 hw a' U hW
  obtain ⟨l1, l2, l4, l5, l6⟩ := hl
  have hy' := hy
  unfold YG at hy'
  rw [hT] at hy'
  have hmem : Cond.code (yN Y') (yC Y') (yL Y') none ∈ wsY Y' := by unfold wsY; rw [hT]; exact List.mem_cons_self
  rcases l1 with l1 | ⟨host, l1⟩
  · exact vx_runI hS9 hct ⟨⟨rfl, rfl, r1, r2, hws, hmem, F.2.1 _ hy', F.2.1 _ l4, ⟨l5.1, l5.2.1⟩, notMH_s l5, F.2.1 _ l1⟩, l6, F.2.1 _ l2⟩ hp rfl (by rw [List.length_map]; exact hn) hL.1 hstack (lv_room (cat_map X hst)) d ⟨r3, r4⟩
  · exact vx_runIN hS9 hct ⟨⟨⟨rfl, rfl, r1, r2, hws, hmem⟩, F.2.1 _ hy', F.2.1 _ l4, ⟨l5.1, l5.2.1⟩, notMH_s l5, va_Nw.use rfl (F.2.2.1.2.1 _ l1)⟩, l6, F.2.1 _ l2⟩ hp rfl (by rw [List.length_map]; exact hn) hL.1 hstack (lv_room (cat_map X hst)) d ⟨r3, r4⟩
theorem call_U {idx n : Nat} {C owner : String} {x : MethodName} {Y' : My} {b : Nat} {as stk : List Value} {out : Ou} (d : decode (yC Y) pc = .ok (.invokevirtual idx, 3)) (hl : UL (yN Y).cls idx C owner x (yN Y') n) (hy : YG Y') (hct : Ct X Y' (.ref b :: as) M out) (hrc : RC X M b C) (hstk : stk = as.reverse ++ .ref b :: st) (hn : as.length = n) (hr : rmk Y Y' cs ss = true) (hst : (st.map fun v => v.category).sum ≤ 8)
    {p : Program} {e : Env} {s : State} {m : MethodId} {args : Array Value} {below : List Frame} {meth : Method} {c : Code} (F : Fx X Y p s m args meth c) {H : Heap} {locs : List Loc} {la : Array Slot} (hR : Rep X M H) (hL : Lo X (yL Y) ls la) :
    vx_Run p (xl X) e (yR Y) s m args below meth c H locs cs ss (yR Y').cells (yR Y').slots (F0 m pc la (stk.map (cv X))) (st.map (cv X)) (QK X out (.ref (ra X b) :: as.map (cv X)).toArray) (QE X out) (Ax X) := by
  obtain ⟨hb0, hcell⟩ := hrc s H F.2.2.1 hR
  obtain ⟨r1, r2, r3, r4⟩ := rmk_s hr
  have hcvb : cv X (.ref b) = .ref (ra X b) := cv_ref X hb0
  have hstack : stk.map (cv X) = (as.map (cv X)).reverse ++ .ref (ra X b) :: st.map (cv X) := by rw [hstk, List.map_append, List.map_cons, List.map_reverse, hcvb]
  have hp : PreV s H C (ra X b) (PcX X (.ref b :: as) M) (as.map (cv X)) := ⟨PcX.blind _ _ _, hcell, fun U hU hW => ⟨by rw [List.map_cons, hcvb], by rw [hU]; exact hR, KS.warm hW F.2.2.1⟩⟩
  have hS9 : CallFix p m c (yC Y) (yL Y) s args gw (yN Y).cls := ⟨F.1.1, F.1.2.1, F.1.2.2.1, F.1.2.2.2.1, F.2.1⟩
  have hws : ∀ w ∈ wsY Y', ∀ (a' : Array Value) (U : State), s.WarmedH U.vm → w.before a' U = true := fun w hw a' U hW => by
    rcases List.mem_cons.mp hw with rfl | hw
    · exact gw_pay F.2.1 hy a' U hW
    · exact gw_pay F.2.1 hw a' U hW
  obtain ⟨l1, l2, l3, l4, l5, l6, l7⟩ := hl
  have hdl : va_Decl s ⟨owner, x.name, x.desc⟩ := by
    rcases l7 with l7 | ⟨b9, k9, r9, l7, l8⟩
    · exact va_Decl.abs (F.2.2.1.2.1 _ l7)
    · exact va_Decl.of (F.2.1 _ l7) (F.2.1 _ l8)
  exact vx_runU hS9 hct ⟨⟨rfl, rfl, r1, r2, hws, List.mem_cons_self⟩, F.2.1 _ hy, F.2.1 _ l5, ⟨l6.1, l6.2.1⟩, notMH_s l6, F.2.1 _ l1, F.2.1 _ l2, hdl, F.2.1 _ l3, F.2.1 _ l4⟩ hp rfl (by rw [List.length_map]; exact hn) hL.1 hstack (lv_room (cat_map X hst)) d ⟨r3, r4⟩
theorem call_SX {idx n : Nat} {Y' : My} {as stk : List Value} {out : Ou} (d : decode (yC Y) pc = .ok (.invokestatic idx, 3)) (hl : SL (yN Y).cls idx (yN Y') n) (hlk : Cond.methodLink (yN Y).cls idx (yN Y') ∈ gw) (hy : YGX Y') (hct : CtX X Y' as M out) (hstk : stk = as.reverse ++ st) (hn : as.length = n) (hr : rmk Y Y' cs ss = true) (hst : (st.map fun v => v.category).sum ≤ 8)
    {p : Program} {e : Env} {s : State} {m : MethodId} {args : Array Value} {below : List Frame} {meth : Method} {c : Code} (F : Fx X Y p s m args meth c) {H : Heap} {locs : List Loc} {la : Array Slot} (hR : Rep X M H) (hL : Lo X (yL Y) ls la) :
    vx_Run p (xl X) e (yR Y) s m args below meth c H locs cs ss (yR Y').cells (yR Y').slots (F0 m pc la (stk.map (cv X))) (st.map (cv X)) (QK X out (as.map (cv X)).toArray) (QE X out) (Ax X) := by
  obtain ⟨r1, r2, r3, r4⟩ := rmk_s hr
  have hstack : stk.map (cv X) = (as.map (cv X)).reverse ++ st.map (cv X) := by rw [hstk, List.map_append, List.map_reverse]
  have hp : PreS s H (PcX X as M) (as.map (cv X)) := ⟨PcX.blind _ _ _, fun U hU hW => ⟨rfl, by rw [hU]; exact hR, KS.warm hW F.2.2.1⟩⟩
  have hS9 : CallFix p m c (yC Y) (yL Y) s args gw (yN Y).cls := ⟨F.1.1, F.1.2.1, F.1.2.2.1, F.1.2.2.2.1, F.2.1⟩
  have hws : ∀ w ∈ wsYX Y', ∀ (a' : Array Value) (U : State), s.WarmedH U.vm → w.before a' U = true := fun w hw a' U hW => by
    rcases List.mem_cons.mp hw with rfl | hw
    · exact gw_pay F.2.1 hy a' U hW
    · exact gw_pay F.2.1 hw a' U hW
  obtain ⟨-, l2, l4, l5⟩ := hl
  exact vx_runSX hS9 hct ⟨⟨rfl, rfl, r1, r2, hws, List.mem_cons_self⟩, F.2.1 _ hy, F.2.1 _ l4, ⟨l5.1, l5.2.1⟩, notMH_s l5, F.2.1 _ hlk, F.2.1 _ l2⟩ hp rfl (by rw [List.length_map]; exact hn) hL.1 hstack (lv_room (cat_map X hst)) d ⟨r3, r4⟩
end GC
