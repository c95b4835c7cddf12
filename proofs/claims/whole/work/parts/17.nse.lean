/-! throw new NoSuchElementException("text"): its constructor hands on by row 13 of its own table -/
def nseC : String := "java/util/NoSuchElementException"
def nseR : String := "java/lang/RuntimeException"
def nseL : List String := [nseR, "java/lang/Exception"]
def nseA : Cond := .code (Bundle.initS nseC) Bundle.six 2 none
def nseB : Cond := .methodLink nseC 7 (Bundle.initS nseR)
def nseP : List Cond := Bundle.passSAtoms nseC nseR 13 prog_35_method_4_code
theorem nse_chain {args : Array Value} {s : State} {pl : Platform} (hpl : pl.magicAccessors = ({} : Platform).magicAccessors) {top : MethodId} (htop : s.methodNamed? (Bundle.initS Bundle.tN) = some top)
    (h1 : ∀ w ∈ nseP, w.before args s = true) (h2 : ∀ w ∈ Bundle.chainSAtoms nseR ["java/lang/Exception"], w.before args s = true) :
    ∃ (A : PassC) (As : List PassC), As.length = 2 ∧ A.LinksS pl s ∧ (∀ Q, Q ∈ As → Q.LinksS pl s) ∧ s.methodNamed? (Bundle.initS nseC) = some A.m ∧ A.sup = Bundle.firstOf top (As.map (·.toPassT)) ∧ PassesOn top (As.map (·.toPassT)) := by
  obtain ⟨A, k1, k2, k3⟩ := PassC.ofS_atoms (args := args) (s := s) hpl (X := nseC) (Y := nseR) (by decide +kernel) (by decide +kernel) (by decide +kernel) (by decide +kernel) (by decide +kernel) (by decide +kernel) h1
  obtain ⟨B, Bs, e1, e2, e3, e4, e5, e6⟩ := Bundle.chainS (args := args) hpl htop ["java/lang/Exception"] nseR (by decide +kernel) (by decide +kernel) h2
  exact ⟨A, B :: Bs, by rw [List.length_cons, e1]; rfl, k1, fun Q hQ => (List.mem_cons.mp hQ).elim (fun q => by rw [q]; exact e2) (e3 Q), k2, Option.some.inj (k3.symm.trans e4), e5, e6⟩
theorem nse_ctor {p : Program} {e : Env} {R : Room} {s : State} {m₀ : MethodId} {args : Array Value} {below : List Frame} {meth : Method} {c : Code} {W0 : State} {locs : List Loc} {cells slots : Nat} {l : Launch}
    (X : Stand p l e R s m₀ args below meth c W0 locs cells slots) (hexec : p.tables.exec = Jvm.exec) (htr : e.platform.stackTraces = false) {own : String} {ic : Nat} (hown : s.vm.findClass own = some m₀.cls)
    (h0 : ∀ w ∈ Bundle.ownAtoms own ic nseC nseL, w ≠ nseA → w ≠ nseB → w.before args s = true) (h1 : ∀ w ∈ nseP, w.before args s = true)
    (hlocs : ∀ x ∈ locs, ∀ cell, s.heap[x.base]? = some cell → cell.vm.isStatics = false)
    {a : Addr} {cX : ClassId} {kX : Class} (hfX : s.vm.findClass nseC = some cX) (hkX : s.vm.classes[cX]? = some kX) (hcell : W0.heap[a]? = some (freshCell cX kX)) (hnew : s.heap.size ≤ a) {msg : Value} (hmsg : msg.isRef = true)
    {g : JFrame} (hg : g.method = m₀) (hsize : g.locals.size = c.maxLocals) (hlocked : g.locked = none) (hentered : g.entered = []) {rest : List Value} (hstack : g.stack = msg :: .ref a :: .ref a :: rest)
    (hd6 : decode c.code g.pc = .ok (.invokespecial ic, 3)) (hd9 : decode c.code (g.pc + 3) = .ok (.athrow, 1)) (hout : ∀ x ∈ c.exceptionTable.toList, covers x (g.pc + 3) = false)
    (hRf : 5 < R.frames) (hRl : 2 * g.monitorRoom + ((Value.ref a :: rest).map fun v => v.category).sum + 81 ≤ R.locals) (hlocks : meth.locks = false) :
    ∃ U : State, Steps p.tables e below (W0.setTop g) U ∧ U.status = .running ∧ Ended U below (.threw a) ∧ s.WarmedH U.vm ∧ s.sameButNew ({ U with vm := s.vm } : State) locs cells slots ∧ ∃ ce, U.heap[a]? = some ce ∧ ce.vm = .none ∧ s.vm.findClass nseC = some ce.cls := by
  have q1 : e.platform.frameOwnsMonitors = true := by rw [X.admits.platform]
  have q2 : e.platform.finalization = false := by rw [X.admits.platform]
  have q3 : e.platform.magicAccessors = ({} : Platform).magicAccessors := by rw [X.admits.platform]
  have nA : ∀ w ∈ Bundle.throwableAtoms ++ Bundle.throwableSAtoms ++ Bundle.chainSAtoms nseR ["java/lang/Exception"], w ≠ nseA ∧ w ≠ nseB := by decide +kernel
  have hAll : ∀ w ∈ Bundle.throwableAtoms ++ Bundle.throwableSAtoms ++ Bundle.chainSAtoms nseR ["java/lang/Exception"], w.before args s = true := fun w hw => by
    refine h0 w ?_ (nA w hw).1 (nA w hw).2
    rcases List.mem_append.mp hw with hw | hw
    · simp only [Bundle.ownAtoms, List.mem_append] at hw ⊢
      rcases hw with hw | hw
      · exact Or.inl (Or.inl (Or.inl hw))
      · exact Or.inl (Or.inl (Or.inr hw))
    · refine List.mem_append.mpr (Or.inl (List.mem_append.mpr (Or.inr ?_)))
      exact List.mem_append.mpr (Or.inr hw)
  obtain ⟨T, Z0, L, -, Y⟩ := ThrowableC.of_atoms (args := args) q1 q2 q3 (fun x hx => hAll x (by simp [hx]))
  obtain ⟨Z, MM, LZ, LM, hnZ⟩ := Init0T.ofS_atoms (args := args) q3 L Y (fun x hx => hAll x (by simp [hx]))
  obtain ⟨A, As, hlen, L1, hL, hA, hl1, hl2⟩ := nse_chain (args := args) q3 hnZ h1 (fun x hx => hAll x (by simp [hx]))
  have hF : s.vm.findClass nseC = some A.m.cls := findClass_of_methodNamed hA
  cases Option.some.inj (hfX.symm.trans hF)
  have w1 : (Cond.instantiable nseC 6).holds args s none s [] = true := h0 _ (by simp [Bundle.ownAtoms]) (fun q => by cases q) (fun q => by cases q)
  have w2 : (Cond.selects nseC Bundle.tFill0 Bundle.tFill0).holds args s none s [] = true := h0 _ (by simp [Bundle.ownAtoms]) (fun q => by cases q) (fun q => by cases q)
  have w3 : (Cond.selects nseC Bundle.tFill Bundle.tFill).holds args s none s [] = true := h0 _ (by simp [Bundle.ownAtoms]) (fun q => by cases q) (fun q => by cases q)
  have w4 : (Cond.isRef (.static Bundle.tN "UNASSIGNED_STACK" Bundle.steD)).holds args s none s [] = true := h0 _ (by simp [Bundle.ownAtoms]) (fun q => by cases q) (fun q => by cases q)
  have w5 : (Cond.isRef (.static Bundle.tN "SUPPRESSED_SENTINEL" Bundle.listD)).holds args s none s [] = true := h0 _ (by simp [Bundle.ownAtoms]) (fun q => by cases q) (fun q => by cases q)
  have w6 : (Cond.fieldLink Bundle.tN 198 Bundle.tN "backtrace" "Ljava/lang/Object;").holds args s none s [] = true := h0 _ (by simp [Bundle.ownAtoms]) (fun q => by cases q) (fun q => by cases q)
  have w7 : ∀ (n d : String) (_ : Cond.lays nseC Bundle.tN n d ∈ Bundle.ownAtoms own ic nseC nseL), (Cond.lays nseC Bundle.tN n d).holds args s none s [] = true := fun n d hm => h0 _ hm (fun q => by cases q) (fun q => by cases q)
  have w8 : (Cond.lays Bundle.tN Bundle.tN "backtrace" "Ljava/lang/Object;").holds args s none s [] = true := h0 _ (by simp [Bundle.ownAtoms]) (fun q => by cases q) (fun q => by cases q)
  have w9 : (Cond.methodLink own ic (Bundle.initS nseC)).holds args s none s [] = true := h0 _ (by simp [Bundle.ownAtoms]) (fun q => by cases q) (fun q => by
    injection q with _ _ q9
    exact absurd q9 (by decide +kernel))
  obtain ⟨c1, k1, hc1, hk, hord, -, -, hn6⟩ := Cond.instantiable_spec w1
  cases Option.some.inj (hc1.symm.trans hF)
  cases Option.some.inj (hkX.symm.trans hk)
  have hs0 : selectMethod e.platform s.vm A.m.cls T.fill0 = .method T.fill0 := by
    obtain ⟨c2, r2, m2, z1, z2, z3, z4, -⟩ := Cond.selects_spec w2
    cases Option.some.inj (z1.symm.trans hF)
    cases Option.some.inj (z2.symm.trans (State.methodFound?_of_named Y.fill0 (by decide)))
    cases Option.some.inj (z3.symm.trans Y.fill0)
    rw [Launch.admits_selectMethod X.admits]; exact z4
  have hs1 : selectMethod e.platform s.vm A.m.cls T.fill = .method T.fill := by
    obtain ⟨c2, r2, m2, z1, z2, z3, z4, -⟩ := Cond.selects_spec w3
    cases Option.some.inj (z1.symm.trans hF)
    cases Option.some.inj (z2.symm.trans (State.methodFound?_of_named Y.fill (by decide)))
    cases Option.some.inj (z3.symm.trans Y.fill)
    rw [Launch.admits_selectMethod X.admits]; exact z4
  obtain ⟨cS, hcS, hst⟩ := Y.statics
  obtain ⟨u, hu⟩ := Cond.staticRefV Y.unassigned L.unassignedStatic L.statics hcS hst w4
  obtain ⟨v, hv⟩ := Cond.staticRefV Y.sentinel L.sentinelStatic L.statics hcS hst w5
  obtain ⟨ci, ii, fB, b1, b2, b3, b4, -, b5, b6, b7⟩ := Cond.ownField (t := .object "java/lang/Object") Y.found L.cls (by decide +kernel) w6 w8 e.platform q3
  obtain ⟨cT, hcT, heT, -, hkeep⟩ := X.same.2.2.2.2.2 T.aS cS hcS
  have ho : ∀ i, (⟨T.aS, i⟩ : Loc) ∉ locs := fun i hm => by
    have h9 := hlocs _ hm cS hcS
    rw [hst] at h9; cases h9
  have hun : cT.vm ≠ .unknown := by
    rw [heT]; intro h9
    rw [show cS.vm = .unknown from h9] at hst
    cases hst
  have hne : T.aS ≠ a := Nat.ne_of_lt (Nat.lt_of_lt_of_le (Array.getElem?_eq_some_iff.mp hcS).1 hnew)
  obtain ⟨iM, hM⟩ := Y.msg
  obtain ⟨tC, dC, eC, nC⟩ := Cond.laysAt hF hk Y.cause (w7 "cause" "Ljava/lang/Throwable;" (by simp [Bundle.ownAtoms]))
  obtain ⟨tS, dS, eS, nS⟩ := Cond.laysAt hF hk Y.stack (w7 "stackTrace" Bundle.steD (by simp [Bundle.ownAtoms]))
  obtain ⟨tP, dP, eP, nP⟩ := Cond.laysAt hF hk Y.supp (w7 "suppressedExceptions" Bundle.listD (by simp [Bundle.ownAtoms]))
  obtain ⟨tM, dM, eM, nM⟩ := Cond.laysAt hF hk hM (w7 "detailMessage" "Ljava/lang/String;" (by simp [Bundle.ownAtoms]))
  obtain ⟨tB, dB, eB, nB⟩ := Cond.laysAt hF hk b7 (w7 "backtrace" "Ljava/lang/Object;" (by simp [Bundle.ownAtoms]))
  have x1 := Cond.laysApart eB eC nB nC (by rw [b5, Y.causeName]; decide)
  have x2 := Cond.laysApart eB eS nB nS (by rw [b5, Y.stackName]; decide)
  have x3 := Cond.laysApart eB eP nB nP (by rw [b5, Y.suppName]; decide)
  have hskip : SkipFacts T e.platform s (fun z => z) u ((preparedCellV T.toThrowableT (freshCell A.m.cls kX) a u v).withEntry W0.cur) :=
    ⟨{ ci198 := ci, i198 := ii, fBack := fB }, ⟨b1, b2, b3, b4⟩, by
      have h9 := fresh_default (c := A.m.cls) tB
      rw [b6] at h9
      simpa [preparedCellV, Cell.setSlot, Cell.withEntry, Array.getElem?_setIfInBounds, x1, x2, x3, x1.symm, x2.symm, x3.symm, defaultValue] using h9, fun _ _ => rfl⟩
  obtain ⟨tm, mc, cd, kk, vm1, z1, -, -, -, -, -, -, -, hW1, st1⟩ := Steps.initColdS (tb := p.tables) (e := e) (below := below) (s := s) (U := W0) X.here hexec X.warmed q3 hown (t := Bundle.initS nseC) rfl rfl (by decide +kernel)
    w9 (h1 (.instanceMethod (Bundle.initS nseC)) (by simp [nseP, Bundle.passSAtoms])) (bytes := prog_35_method_4_code) (maxL := 2) (h1 (.code (Bundle.initS nseC) prog_35_method_4_code 2 none) (by simp [nseP, Bundle.passSAtoms]))
    (f := g) hg (a := a) (msg := msg) (rest := .ref a :: rest) hstack hd6
  cases Option.some.inj (z1.symm.trans hA)
  have X1 := X.noted hW1
  obtain ⟨vm2, X2, st2⟩ := X1.ctorMessageOffV hexec (g := { g with stack := .ref a :: rest }) hg hsize T L Z LZ MM LM (A :: As)
    (fun P hP => (List.mem_cons.mp hP).elim (fun q => by rw [q]; exact L1) (hL P)) ⟨hl1, hl2⟩ (u0 := u) (sen := v) (self := a) hmsg (cell := freshCell A.m.cls kX) (cellS := cT)
    hcell (fun _ => by simp) (by simp) rfl rfl hs0 hs1 hcT hne hun (by rw [hkeep _ (ho _)]; exact hu) (by rw [hkeep _ (ho _)]; exact hv)
    (Takes.of_laid hk hord tC (by rw [Y.causeType]; rfl)) (Takes.of_laid hk hord tS (by rw [Y.stackType]; exact fits_refV_array _ u)) (Takes.of_laid hk hord tP (by rw [Y.suppType]; exact fits_refV_object _ v))
    (Takes.of_laid hk hord tM (by rw [Y.msgType]; exact fits_refV_object _ ⟨msg, hmsg⟩)) Y.objLocals hskip htr [] hd6
    (by rw [List.length_cons, hlen]; omega) (by rw [List.length_cons, hlen]; exact hRl)
  obtain ⟨y1, y2, y3, y4, y5⟩ := X2.athrowLeaves hexec (g := { g with stack := .ref a :: rest, pc := g.pc + 3 }) hg hlocked hentered hout (a := a) (rest := rest) rfl hd9
  have hlt : a < ((W0.setVm vm1).setVm vm2).heap.size := (Array.getElem?_eq_some_iff.mp hcell).1
  have hU := heapAt_setCell_self (s := (W0.setVm vm1).setVm vm2) (plainBareV T.toThrowableT (freshCell A.m.cls kX) a u v msg) hlt
  refine ⟨_, st1 _ (fun acts => ?_), y2, y3, y4, y5.weaken (fun y hy hlt' => ?_) (Nat.le_refl _) (Nat.le_refl _), _, hU, rfl, hF⟩
  · rw [doInvoke_state]
    exact st2 _ y1
  · rcases List.mem_append.mp hy with h9 | h9
    · exact h9
    · exfalso
      have hb : y.base = a := by
        simp only [List.mem_cons, List.not_mem_nil, or_false] at h9
        rcases h9 with rfl | rfl | rfl | rfl | rfl <;> rfl
      rw [hb] at hlt'
      exact Nat.not_lt.mpr hnew hlt'
