/-! throw new NoSuchElementException("text"): its constructor hands on by row 13 of its own table -/
def nseC : String := "java/util/NoSuchElementException"
def nseR : String := "java/lang/RuntimeException"
def nseL : List String := [nseR, "java/lang/Exception"]
def nseA : Cond := .code (Bundle.initS nseC) Bundle.six 2 none
def nseB : Cond := .methodLink nseC 7 (Bundle.initS nseR)
def nseP : List Cond := Bundle.passSAtoms nseC nseR 13 prog_35_method_4_code
theorem nse_chain {args : Array Value} {s : State} {pl : Platform} (hpl : pl.magicAccessors = ({} : Platform).magicAccessors) {top : MethodId} (htop : s.methodNamed? (Bundle.initS Bundle.tN) = some top)
    (h1 : ∀ w ∈ nseP, w.before args s = true) (h2 : ∀ w ∈ Bundle.chainSAtoms nseR ["java/lang/Exception"], w.before args s = true) :
    ∃ (A : PassC) (As : List PassC), As.length = 2 ∧ A.LinksS pl s ∧ (∀ Q, Q ∈ As → Q.LinksS pl s) ∧ s.methodNamed? (Bundle.initS nseC) = some A.m ∧ A.sup = firstOf top (As.map (·.toPassT)) ∧ PassesOn top (As.map (·.toPassT)) := by
  obtain ⟨A, k1, k2, k3⟩ := PassC.ofS_atoms (args := args) (s := s) hpl (X := nseC) (Y := nseR) (by decide +kernel) (by decide +kernel) (by decide +kernel) (by decide +kernel) (by decide +kernel) (by decide +kernel) h1
  obtain ⟨B, Bs, e1, e2, e3, e4, e5, e6⟩ := Bundle.chainS (args := args) hpl htop ["java/lang/Exception"] nseR (by decide +kernel) (by decide +kernel) h2
  exact ⟨A, B :: Bs, by rw [List.length_cons, e1]; rfl, k1, fun Q hQ => (List.mem_cons.mp hQ).elim (fun q => by rw [q]; exact e2) (e3 Q), k2, Option.some.inj (k3.symm.trans e4), e5, e6⟩
theorem nse_ctor {p : Program} {e : Env} {R : Room} {s : State} {m₀ : MethodId} {args : Array Value} {below : List Frame} {meth : Method} {c : Code} {W0 : State} {locs : List Loc} {cells slots : Nat} {l : Launch}
    (X : Stand p l e R s m₀ args below meth c W0 locs cells slots) (hexec : p.tables.exec = Jvm.exec) (htr : e.platform.stackTraces = false) {own : String} {ic : Nat} (hown : s.vm.findClass own = some m₀.cls)
    (h0 : ∀ w ∈ Bundle.ownAtoms own ic nseC nseL, w ≠ nseA → w ≠ nseB → w.before args s = true) (h1 : ∀ w ∈ nseP, w.before args s = true)
    (hlocs : ∀ x ∈ locs, ∀ cell, s.heap[x.base]? = some cell → cell.vm.isStatics = false)
    {a : Addr} {cX : ClassId} {kX : Class} (hfX : s.vm.findClass nseC = some cX) (hkX : s.vm.classes[cX]? = some kX) (hcell : W0.heap[a]? = some (freshCell cX kX)) (hnew : s.heap.size ≤ a) {msg : Value} (hmsg : msg.isRef = true)
    {g : JFrame} (hg : g.method = m₀) (hsize : g.locals.size = c.maxLocals) (hlocked : g.locked = none) (hentered : g.entered = []) {rest : List Value} (hstack : g.stack = msg :: .ref a :: .ref a :: rest)
    (hd6 : decode c.code g.pc = .ok (.invokespecial ic, 3)) (hd9 : decode c.code (g.pc + 3) = .ok (.athrow, 1)) (hout : ∀ x ∈ c.exceptionTable.toList, covers x (g.pc + 3) = false)
    (hRf : 5 < R.frames) (hRl : 2 * g.monitorRoom + ((Value.ref a :: rest).map fun v => v.category).sum + 81 ≤ R.locals) (hlocks : meth.locks = false) :
    ∃ U : State, Steps p.tables e below (W0.setTop g) U ∧ U.status = .running ∧ Ended U below (.threw a) ∧ s.WarmedH U.vm ∧ s.sameButNew ({ U with vm := s.vm } : State) locs cells slots ∧ ∃ ce, U.heap[a]? = some ce ∧ ce.vm = .none ∧ s.vm.findClass nseC = some ce.cls := by
  have q1 : e.platform.frameOwnsMonitors = true := by rw [X.admits.platform]
  have q2 : e.platform.finalization = false := by rw [X.admits.platform]
  have q3 : e.platform.magicAccessors = ({} : Platform).magicAccessors := by rw [X.admits.platform]
  have nA : ∀ w ∈ Bundle.throwableAtoms ++ Bundle.throwableSAtoms ++ Bundle.chainSAtoms nseR ["java/lang/Exception"], w ≠ nseA ∧ w ≠ nseB := by decide +kernel
  have hAll : ∀ w ∈ Bundle.throwableAtoms ++ Bundle.throwableSAtoms ++ Bundle.chainSAtoms nseR ["java/lang/Exception"], w.before args s = true := fun w hw => by
    refine h0 w ?_ (nA w hw).1 (nA w hw).2
    rcases List.mem_append.mp hw with hw | hw
    · simp only [Bundle.ownAtoms, List.mem_append] at hw ⊢
      rcases hw with hw | hw
      · exact Or.inl (Or.inl (Or.inl hw))
      · exact Or.inl (Or.inl (Or.inr hw))
    · refine List.mem_append.mpr (Or.inl (List.mem_append.mpr (Or.inr ?_)))
      exact List.mem_append.mpr (Or.inr hw)
  obtain ⟨T, Z0, L, -, Y⟩ := ThrowableC.of_atoms (args := args) q1 q2 q3 (fun x hx => hAll x (by simp [hx]))
  obtain ⟨Z, MM, LZ, LM, hnZ⟩ := Init0T.ofS_atoms (args := args) q3 L Y (fun x hx => hAll x (by simp [hx]))
  obtain ⟨A, As, hlen, L1, hL, hA, hl1, hl2⟩ := nse_chain (args := args) q3 hnZ h1 (fun x hx => hAll x (by simp [hx]))
  have hF : s.vm.findClass nseC = some A.m.cls := findClass_of_methodNamed hA
  cases Option.some.inj (hfX.symm.trans hF)
  have w1 : (Cond.instantiable nseC 6).holds args s none s [] = true := h0 _ (by simp [Bundle.ownAtoms]) (fun q => by cases q) (fun q => by cases q)
  have w2 : (Cond.selects nseC Bundle.tFill0 Bundle.tFill0).holds args s none s [] = true := h0 _ (by simp [Bundle.ownAtoms]) (fun q => by cases q) (fun q => by cases q)
  have w3 : (Cond.selects nseC Bundle.tFill Bundle.tFill).holds args s none s [] = true := h0 _ (by simp [Bundle.ownAtoms]) (fun q => by cases q) (fun q => by cases q)
  have w4 : (Cond.isRef (.static Bundle.tN "UNASSIGNED_STACK" Bundle.steD)).holds args s none s [] = true := h0 _ (by simp [Bundle.ownAtoms]) (fun q => by cases q) (fun q => by cases q)
  have w5 : (Cond.isRef (.static Bundle.tN "SUPPRESSED_SENTINEL" Bundle.listD)).holds args s none s [] = true := h0 _ (by simp [Bundle.ownAtoms]) (fun q => by cases q) (fun q => by cases q)
  have w6 : (Cond.fieldLink Bundle.tN 198 Bundle.tN "backtrace" "Ljava/lang/Object;").holds args s none s [] = true := h0 _ (by simp [Bundle.ownAtoms]) (fun q => by cases q) (fun q => by cases q)
  have w7 : ∀ (n d : String) (_ : Cond.lays nseC Bundle.tN n d ∈ Bundle.ownAtoms own ic nseC nseL), (Cond.lays nseC Bundle.tN n d).holds args s none s [] = true := fun n d hm => h0 _ hm (fun q => by cases q) (fun q => by cases q)
  have w8 : (Cond.lays Bundle.tN Bundle.tN "backtrace" "Ljava/lang/Object;").holds args s none s [] = true := h0 _ (by simp [Bundle.ownAtoms]) (fun q => by cases q) (fun q => by cases q)
  have w9 : (Cond.methodLink own ic (Bundle.initS nseC)).holds args s none s [] = true := h0 _ (by simp [Bundle.ownAtoms]) (fun q => by cases q) (fun q => by
    injection q with _ _ q9
    exact absurd q9 (by decide +kernel))
  obtain ⟨c1, k1, hc1, hk, hord, -, -, hn6⟩ := Cond.instantiable_spec w1
  cases Option.some.inj (hc1.symm.trans hF)
  cases Option.some.inj (hkX.symm.trans hk)
  have hs0 : selectMethod e.platform s.vm A.m.cls T.fill0 = .method T.fill0 := by
    obtain ⟨c2, r2, m2, z1, z2, z3, z4, -⟩ := Cond.selects_spec w2
    cases Option.some.inj (z1.symm.trans hF)
    cases Option.some.inj (z2.symm.trans (State.methodFound?_of_named Y.fill0 (by decide)))
    cases Option.some.inj (z3.symm.trans Y.fill0)
    rw [Launch.admits_selectMethod X.admits]; exact z4
  have hs1 : selectMethod e.platform s.vm A.m.cls T.fill = .method T.fill := by
    obtain ⟨c2, r2, m2, z1, z2, z3, z4, -⟩ := Cond.selects_spec w3
    cases Option.some.inj (z1.symm.trans hF)
    cases Option.some.inj (z2.symm.trans (State.methodFound?_of_named Y.fill (by decide)))
    cases Option.some.inj (z3.symm.trans Y.fill)
    rw [Launch.admits_selectMethod X.admits]; exact z4
  obtain ⟨cS, hcS, hst⟩ := Y.statics
  obtain ⟨u, hu⟩ := Cond.staticRefV Y.unassigned L.unassignedStatic L.statics hcS hst w4
  obtain ⟨v, hv⟩ := Cond.staticRefV Y.sentinel L.sentinelStatic L.statics hcS hst w5
  obtain ⟨ci, ii, fB, b1, b2, b3, b4, -, b5, b6, b7⟩ := Cond.ownField (t := .object "java/lang/Object") Y.found L.cls (by decide +kernel) w6 w8 e.platform q3
  obtain ⟨cT, hcT, heT, -, hkeep⟩ := X.same.2.2.2.2.2 T.aS cS hcS
  have ho : ∀ i, (⟨T.aS, i⟩ : Loc) ∉ locs := fun i hm => by
    have h9 := hlocs _ hm cS hcS
    rw [hst] at h9; cases h9
  have hun : cT.vm ≠ .unknown := by
    rw [heT]; intro h9
    rw [show cS.vm = .unknown from h9] at hst
    cases hst
  have hne : T.aS ≠ a := Nat.ne_of_lt (Nat.lt_of_lt_of_le (Array.getElem?_eq_some_iff.mp hcS).1 hnew)
  obtain ⟨iM, hM⟩ := Y.msg
  obtain ⟨tC, dC, eC, nC⟩ := Cond.laysAt hF hk Y.cause (w7 "cause" "Ljava/lang/Throwable;" (by simp [Bundle.ownAtoms]))
  obtain ⟨tS, dS, eS, nS⟩ := Cond.laysAt hF hk Y.stack (w7 "stackTrace" Bundle.steD (by simp [Bundle.ownAtoms]))
  obtain ⟨tP, dP, eP, nP⟩ := Cond.laysAt hF hk Y.supp (w7 "suppressedExceptions" Bundle.listD (by simp [Bundle.ownAtoms]))
  obtain ⟨tM, dM, eM, nM⟩ := Cond.laysAt hF hk hM (w7 "detailMessage" "Ljava/lang/String;" (by simp [Bundle.ownAtoms]))
  obtain ⟨tB, dB, eB, nB⟩ := Cond.laysAt hF hk b7 (w7 "backtrace" "Ljava/lang/Object;" (by simp [Bundle.ownAtoms]))
  have x1 := Cond.laysApart eB eC nB nC (by rw [b5, Y.causeName]; decide)
  have x2 := Cond.laysApart eB eS nB nS (by rw [b5, Y.stackName]; decide)
  have x3 := Cond.laysApart eB eP nB nP (by rw [b5, Y.suppName]; decide)
  have hskip : SkipFacts T e.platform s (fun z => z) u ((preparedCellV T.toThrowableT (freshCell A.m.cls kX) a u v).withEntry W0.cur) :=
    ⟨{ ci198 := ci, i198 := ii, fBack := fB }, ⟨b1, b2, b3, b4⟩, by
      have h9 := fresh_default (c := A.m.cls) tB
      rw [b6] at h9
      simpa [preparedCellV, Cell.setSlot, Cell.withEntry, Array.getElem?_setIfInBounds, x1, x2, x3, x1.symm, x2.symm, x3.symm, defaultValue] using h9, fun _ _ => rfl⟩
  obtain ⟨tm, mc, cd, kk, vm1, z1, -, -, -, -, -, -, -, hW1, st1⟩ := Steps.initColdS (tb := p.tables) (e := e) (below := below) (s := s) (U := W0) X.here hexec X.warmed q3 hown (t := Bundle.initS nseC) rfl rfl (by decide +kernel)
    w9 (h1 (.instanceMethod (Bundle.initS nseC)) (by simp [nseP, Bundle.passSAtoms])) (bytes := prog_35_method_4_code) (maxL := 2) (h1 (.code (Bundle.initS nseC) prog_35_method_4_code 2 none) (by simp [nseP, Bundle.passSAtoms]))
    (f := g) hg (a := a) (msg := msg) (rest := .ref a :: rest) hstack hd6
  cases Option.some.inj (z1.symm.trans hA)
  have X1 := X.noted hW1
  obtain ⟨vm2, X2, st2⟩ := X1.ctorMessageOffV hexec (g := { g with stack := .ref a :: rest }) hg hsize T L Z LZ MM LM (A :: As)
    (fun P hP => (List.mem_cons.mp hP).elim (fun q => by rw [q]; exact L1) (hL P)) ⟨hl1, hl2⟩ (u0 := u) (sen := v) (self := a) hmsg (cell := freshCell A.m.cls kX) (cellS := cT)
    hcell (fun _ => by simp) (by simp) rfl rfl hs0 hs1 hcT hne hun (by rw [hkeep _ (ho _)]; exact hu) (by rw [hkeep _ (ho _)]; exact hv)
    (Takes.of_laid hk hord tC (by rw [Y.causeType]; rfl)) (Takes.of_laid hk hord tS (by rw [Y.stackType]; exact fits_refV_array _ u)) (Takes.of_laid hk hord tP (by rw [Y.suppType]; exact fits_refV_object _ v))
    (Takes.of_laid hk hord tM (by rw [Y.msgType]; exact fits_refV_object _ ⟨msg, hmsg⟩)) Y.objLocals hskip htr [] hd6
    (by rw [List.length_cons, hlen]; omega) (by rw [List.length_cons, hlen]; exact hRl)
  obtain ⟨y1, y2, y3, y4, y5⟩ := X2.athrowLeaves hexec (g := { g with stack := .ref a :: rest, pc := g.pc + 3 }) hg hlocked hentered hout (a := a) (rest := rest) rfl hd9
  have hlt : a < ((W0.setVm vm1).setVm vm2).heap.size := (Array.getElem?_eq_some_iff.mp hcell).1
  have hU := heapAt_setCell_self (s := (W0.setVm vm1).setVm vm2) (plainBareV T.toThrowableT (freshCell A.m.cls kX) a u v msg) hlt
  refine ⟨_, st1 _ (fun acts => ?_), y2, y3, y4, y5.weaken (fun y hy hlt' => ?_) (Nat.le_refl _) (Nat.le_refl _), _, hU, rfl, hF⟩
  · rw [doInvoke_state]
    exact st2 _ y1
  · rcases List.mem_append.mp hy with h9 | h9
    · exact h9
    · exfalso
      have hb : y.base = a := by
        simp only [List.mem_cons, List.not_mem_nil, or_false] at h9
        rcases h9 with rfl | rfl | rfl | rfl | rfl <;> rfl
      rw [hb] at hlt'
      exact Nat.not_lt.mpr hnew hlt'
section NSE
variable {p : Program} {l : Launch} {e : Env} {R : Room} {s : State} {m : MethodId} {args : Array Value} {below : List Frame} {meth : Method} {c : Code} {H : Heap} {locs : List Loc} {cells slots : Nat} {Q : State → Prop}
variable {mc ms : Nat} {free : Addr → Prop} {A0 A1 : Nat → Prop} {H0 : Heap} {a : Array Value} {ls : Array Slot} {st0 rest : List Value}
variable {Qc : Array Value → State → Outcome → State → Prop} {XC : String → State → State → Prop}
theorem rr_throwN {cc : ByteArray} {pc : Nat} (hexec : p.tables.exec = Jvm.exec) (hb : c.code = cc) (hl : l.stackTraces = false) {own text : String} {ik is ic mc ms sa : Nat} {A : Nat → Prop}
    (hown : s.vm.findClass own = some m.cls)
    (hk : (Cond.classLink own ik nseC).before args s = true) (hini : (Cond.initialized nseC).before args s = true) (hstr : vk_R own is text sa s) (hat : ∀ w ∈ vx_atS own ic nseC nseL, w ≠ nseA → w ≠ nseB → w.before args s = true) (hp : ∀ w ∈ nseP, w.before args s = true)
    (hgood : ∀ w ∈ vx_atS own ic nseC nseL, w ≠ nseA → w ≠ nseB → vx_ot w = true) (hg1 : vx_ot (Cond.classLink own ik nseC) = true) (hg2 : vx_ot (Cond.initialized nseC) = true) (hg3 : ∀ w ∈ nseP, vx_ot w = true)
    (hU : vx_Zq Bundle.tN "UNASSIGNED_STACK" Bundle.steD A s s.heap) (hN : vx_Zq Bundle.tN "SUPPRESSED_SENTINEL" Bundle.listD A s s.heap) (hS : va_S A s.heap H locs) (hsize : ls.size = c.maxLocals)
    (d0 : decode cc pc = .ok (.new ik, 3)) (d3 : decode cc (pc + 3) = .ok (.dup, 1)) (d4 : decode cc (pc + 4) = .ok (.ldc is, 2)) (d6 : decode cc (pc + 6) = .ok (.invokespecial ic, 3)) (d9 : decode cc (pc + 9) = .ok (.athrow, 1))
    (hout : ∀ x ∈ c.exceptionTable.toList, covers x (pc + 9) = false)
    (hRframes : 5 < R.frames) (hRlocals : (rest.map fun v => v.category).sum + 82 ≤ R.locals) (hRcells : cells + 1 ≤ R.cells) (hRslots : slots + 6 ≤ R.slots) (hlocks : meth.locks = false)
    (hx : ∀ t : State, s.vm.Alike t.vm → t.heap.size = H.size + 1 → (∀ q : Nat, q < H.size → t.heap[q]? = H[q]?) → XC nseC s t)
    (hf : ∀ z ∈ locs, free z.base) (hc : cells + 1 ≤ mc) (hs : slots + 6 ≤ ms) :
    W p l e R s m args below meth c H locs cells slots (vx_MQ below Qc XC args s mc ms free) (F0 m pc ls rest) := by
  intro T hT X
  have htr : e.platform.stackTraces = false := (show e.platform.stackTraces = l.stackTraces by rw [X.admits.platform]).trans hl
  have Y := vx_rebase X (R' := { frames := R.frames, locals := R.locals, cells := 1, slots := 6 }) (Nat.le_refl _) (Nat.le_refl _) hRcells hRslots
  obtain ⟨s', hA⟩ : ∃ z, z = (T.setVm s.vm).setFrames (.invoking m args :: below) := ⟨_, rfl⟩
  rw [← hA] at Y
  have hvm : s'.vm = s.vm := by rw [hA]; rfl
  have hhp : s'.heap = H := by rw [hA]; exact hT
  have hW0 : s.WarmedH s'.vm := by rw [hvm]; exact State.WarmedH.refl s
  have hat' : ∀ w ∈ vx_atS own ic nseC nseL, w ≠ nseA → w ≠ nseB → w.before args s' = true := fun w hw q1 q2 => vx_ot_at hW0 hvm.symm (hgood w hw q1 q2) (hat w hw q1 q2)
  have hp' : ∀ w ∈ nseP, w.before args s' = true := fun w hw => vx_ot_at hW0 hvm.symm (hg3 w hw) (hp w hw)
  have hk' : (Cond.classLink own ik nseC).before args s' = true := vx_ot_at hW0 hvm.symm hg1 hk
  have hini' : (Cond.initialized nseC).before args s' = true := vx_ot_at hW0 hvm.symm hg2 hini
  have hU' : vx_Zq Bundle.tN "UNASSIGNED_STACK" Bundle.steD A s' s'.heap := by rw [hhp]; exact vx_Zq.moved hW0.alike (hU.kept hS.2.1)
  have hN' : vx_Zq Bundle.tN "SUPPRESSED_SENTINEL" Bundle.listD A s' s'.heap := by rw [hhp]; exact vx_Zq.moved hW0.alike (hN.kept hS.2.1)
  have h : ∀ w ∈ Bundle.ownAtoms own ic nseC nseL, w ≠ nseA → w ≠ nseB → w.before args s' = true := fun w hw n1 n2 => by
    have h9 := vx_own (L := (Bundle.ownAtoms own ic nseC nseL).filter fun w => decide (w ≠ nseA) && decide (w ≠ nseB)) (args := args) (s := s') (fun z hz => by
      obtain ⟨z1, z2⟩ := List.mem_filter.mp hz
      obtain ⟨z3, z4⟩ := List.mem_filter.mp z1
      rw [Bool.and_eq_true, decide_eq_true_eq, decide_eq_true_eq] at z4
      exact hat' z (List.mem_filter.mpr ⟨z3, z2⟩) z4.1 z4.2) (vx_isRefq hU'.1) (vx_isRefq hN'.1) hU'.2.word hN'.2.word
    exact h9 w (List.mem_filter.mpr ⟨hw, by rw [Bool.and_eq_true, decide_eq_true_eq, decide_eq_true_eq]; exact ⟨n1, n2⟩⟩)
  have hown' : s'.vm.findClass own = some m.cls := by rw [hvm]; exact hown
  have hins : (Cond.instantiable nseC 6).before args s' = true := h _ (by simp [Bundle.ownAtoms]) (fun q => by cases q) (fun q => by cases q)
  obtain ⟨vm₁, cX, kX, hfX, hkX, -, -, X₁, st1⟩ := Y.newCold hexec (own := own) (C := nseC) (index := ik) (n := 6) hown' hk' hins hini'
    (g := F0 m pc ls rest) rfl (by rw [hb]; exact d0) (Nat.le_refl _) (Nat.le_refl _)
  generalize hT1 : (T.setVm vm₁).pushCell { cls := cX, slots := kX.instanceTypes.map defaultValue, vm := .none } = T1 at X₁ st1
  have hcat : (Value.ref T.heap.size).category = 1 := rfl
  have hcellA : T1.heap[T.heap.size]? = some (freshCell cX kX) := by rw [← hT1]; exact State.heap_pushCell_size _ _
  have d3' : decode c.code (pc + 3) = .ok (.dup, 1) := by rw [hb]; exact d3
  have d4' : decode c.code (pc + 4) = .ok (.ldc is, 2) := by rw [hb]; exact d4
  have hstr' : vk_R own is text sa s' := vk_R.warm hW0 hstr
  obtain ⟨U, hsteps, hrun, hend, hW, hsame, ce, hce, hO⟩ := nse_ctor X₁ hexec htr (own := own) (ic := ic) hown' h hp' (fun x hx => nomatch hx) hfX hkX hcellA (by rw [hhp, hT]; exact Nat.le_refl _) (msg := .ref sa) rfl
    (g := { method := m, pc := pc + 6, locals := ls, stack := .ref sa :: .ref T.heap.size :: .ref T.heap.size :: rest, locked := none }) rfl hsize rfl rfl (rest := rest) rfl
    (by rw [hb]; exact d6) (by rw [hb]; exact d9) hout hRframes (by simp only [List.map_cons, List.sum_cons, hcat]; omega) hlocks
  obtain ⟨f1, f2⟩ := vx_frame hsame
  rw [hhp] at f1 f2
  have hsz : U.heap.size = H.size + 1 := by
    have a1 := (Array.getElem?_eq_some_iff.mp hce).1
    have a2 : U.heap.size ≤ s'.heap.size + 1 := hsame.2.2.1
    rw [hhp] at a2
    rw [hT] at a1
    omega
  have hWs : s.WarmedH U.vm := State.WarmedH.trans hW0 hW
  have hcl : s.vm.findClass nseC = some ce.cls := by
    have h9 := hO.2
    rw [hvm] at h9
    exact h9
  have hall : s.sameButNew ({ U with vm := s.vm } : State) locs mc ms := by
    subst hA
    obtain ⟨e1, e2⟩ := hsame
    rw [State.setFrames_setFrames] at e1
    have h2 : (T.setVm s.vm).sameButNew ({ U with vm := s.vm } : State) [] (0 + 1) (0 + 6) := ⟨e1, e2⟩
    have h3 := X.same.trans h2
    rw [List.append_nil] at h3
    exact h3.mono hc hs
  refine ⟨U, ?_, .threw T.heap.size, hrun, hend, Or.inr ⟨T.heap.size, rfl, nseC, ce, locs, hx U hWs.alike hsz (fun q hq => f2 q hq (fun z hz => nomatch hz)), hce, hO.1, hcl, hWs, hall, hf⟩⟩
  refine st1 _ ?_
  show Steps p.tables e below (T1.setTop { method := m, pc := pc + 3, locals := ls, stack := .ref T.heap.size :: rest, locked := none }) _
  jvm_step X₁.here [X₁.here.top, hexec, d3', Value.category]
  exact X₁.ldcString hexec (own := own) (text := text) (index := is) (a := sa) hown' hstr'.1 hstr'.2
    (g := { method := m, pc := pc + 4, locals := ls, stack := .ref T.heap.size :: .ref T.heap.size :: rest, locked := none }) rfl d4' _ hsteps
end NSE
def XLN (own : String) (ik is ic : Nat) : Prop := Cond.classLink own ik nseC ∈ gw ∧ Cond.initialized nseC ∈ gw ∧ (∃ (j : Nat) (q : String × Nat × String × List Int32), strT[j]? = some q ∧ q.1 = own ∧ q.2.1 = is) ∧
  (∀ w ∈ vx_atS own ic nseC nseL, w ≠ nseA → w ≠ nseB → w ∈ gw ∨ w ∈ nw) ∧ ∀ w ∈ nseP, w ∈ gw ∨ w ∈ nw
theorem xln_at {L : List Cond} (h : L.all (fun w => decide (w = nseA) || decide (w = nseB) || (decide (w ∈ lw_tbl) && (goodWord w || isNw w))) = true) : ∀ w ∈ L, w ≠ nseA → w ≠ nseB → w ∈ gw ∨ w ∈ nw := fun w hw n1 n2 => by
  have h1 := List.all_eq_true.mp h w hw
  rw [decide_eq_false n1, decide_eq_false n2] at h1
  simp only [Bool.false_or, Bool.and_eq_true, Bool.or_eq_true, decide_eq_true_eq] at h1
  rcases h1.2 with h2 | h2
  · exact Or.inl (List.mem_filter.mpr ⟨h1.1, h2⟩)
  · exact Or.inr (List.mem_filter.mpr ⟨h1.1, h2⟩)
theorem ot_of {w : Cond} (h : w ∈ gw ∨ w ∈ nw) : vx_ot w = true := by
  unfold vx_ot
  rcases h with h | h
  · rw [(List.mem_filter.mp h).2]; exact Bool.or_true _
  · rw [isNw_on (List.mem_filter.mp h).2]; rfl
section NSG
variable {X : Cx} {Y : My} {pc : Nat} {ls st : List Value} {cs ss : Nat} {M : Mem}
theorem g_throwN {ik is ic : Nat} (d0 : decode (yC Y) pc = .ok (.new ik, 3)) (d3 : decode (yC Y) (pc + 3) = .ok (.dup, 1)) (d4 : decode (yC Y) (pc + 4) = .ok (.ldc is, 2)) (d6 : decode (yC Y) (pc + 6) = .ok (.invokespecial ic, 3)) (d9 : decode (yC Y) (pc + 9) = .ok (.athrow, 1)) (hx : XLN (yN Y).cls ik is ic) (hY : yX Y = []) (hst : ((st.map fun v => v.category).sum ≤ 8))
    (hfr : lw2 6 (yR Y).frames 100 (yR Y).locals = true) (hr : lw2 (cs + 1) (yR Y).cells (ss + 6) (yR Y).slots = true) : G X Y (endP X Y (.inr 4, pNew M 30 0)) pc ls st cs ss M := by
  intro p e s m args below meth c F H locs la hR hS hL
  obtain ⟨r1, r2⟩ := lw2_s hr
  obtain ⟨r3, r4⟩ := lw2_s hfr
  obtain ⟨x1, x2, ⟨j, q, q1, q2, q3⟩, x4, x5⟩ := hx
  have hKC := F.2.2.1.2.2.2.1
  have hvk := hKC.2.2.1 j q q1
  rw [q2, q3] at hvk
  have hcs : ((st.map (cv X)).map fun v => v.category).sum ≤ 8 := by
    rw [List.map_map]
    have : ((fun v : Value => v.category) ∘ cv X) = fun v => v.category := funext fun v => cv_cat X v
    rw [this]
    exact hst
  have at1 : ∀ w, w ∈ gw ∨ w ∈ nw → w.before args s = true := fun w hw => by
    rcases hw with h9 | h9
    · exact F.2.1 w h9
    · exact va_Nw.use (isNw_on (List.mem_filter.mp h9).2) (F.2.2.1.2.1 w h9)
  have hk : ∀ a : Nat, a < (xH X).size → ¬ Ax X a → s.heap[a]? = (xH X)[a]? := kept_c (s := s) F.2.2.2.1.1
  exact rr_throwN F.1.1 F.1.2.1 F.2.2.1.2.2.1 F.1.2.2.2.1 (F.2.1 _ x1) (F.2.1 _ x2) hvk (fun w hw n1 n2 => at1 w (x4 w hw n1 n2)) (fun w hw => at1 w (x5 w hw)) (fun w hw n1 n2 => ot_of (x4 w hw n1 n2)) (ot_of (Or.inl x1)) (ot_of (Or.inl x2)) (fun w hw => ot_of (x5 w hw)) (vx_Zq.kept hKC.2.1.1.1 hk) (vx_Zq.kept hKC.2.1.1.2 hk) hS (hL.1.trans F.1.2.2.1.symm) d0 d3 d4 d6 d9
    (by
      have h9 := F.2.2.2.2
      rw [hY] at h9
      intro x hx
      rw [List.map_eq_nil_iff.mp h9] at hx
      cases hx) (by omega) (by omega) r1 r2 F.1.2.2.2.2.2.1
    (fun t ha z oq => ⟨⟨4, rfl, rfl, pNew30 hR z oq⟩, by
      have h8 : va_S (Ax X) s.heap t.heap locs := hS.grow (by omega) oq
      exact h8.F rfl⟩) (fun z hz => hS.2.2 z hz) r1 r2
end NSG
