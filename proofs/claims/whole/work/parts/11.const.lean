/-! constants: tokens, the switch map, strings; wrappers of the calls -/
section GK
variable {X : Cx} {Y : My} {P : List Frame → Array Value → State → State → Prop} {pc : Nat} {ls st : List Value} {cs ss : Nat} {M : Mem}
theorem cv_c {X : Cx} {a : Nat} (h0 : a ≠ 0) (h1 : a < 1000) : cv X (.ref a) = .ref (xa X a) := by
  rw [cv_ref X h0]
  unfold ra
  rw [if_pos h1]
theorem Fx.kept {p : Program} {s : State} {m : MethodId} {args : Array Value} {meth : Method} {c : Code} (F : Fx X Y p s m args meth c) : ∀ a : Nat, a < (xH X).size → ¬ Ax X a → s.heap[a]? = (xH X)[a]? := kept_c (s := s) F.2.2.2.1.1
theorem Fx.kc {p : Program} {s : State} {m : MethodId} {args : Array Value} {meth : Method} {c : Code} (F : Fx X Y p s m args meth c) : KCh X s := F.2.2.1.2.2.2.1.2.1
theorem g_tok {i idx : Nat} (d : decode (yC Y) pc = .ok (.getstatic idx, 3)) (hl : Cond.fieldLink (yN Y).cls idx RX10 (tokN.getD i "") "LRiddleRoad$Token;" ∈ gw) (hi : i < 36) (kk : G X Y P (pc + 3) ls (.ref (i + 1) :: st) cs ss M) : G X Y P pc ls st cs ss M := by
  intro p e s m args below meth c F H locs la hR hS hL
  have k := kk p e s m args below meth c F H locs la hR hS hL
  rw [List.map_cons, cv_c (by omega) (by omega)] at k
  exact va_gets F.1.1 F.1.2.1 ((F.kc.2.2.1.1 i hi).1.kept F.kept) hS F.1.2.2.2.1 (F.2.1 _ hl) (fun _ h => h) d k
theorem g_all {idx : Nat} {host : String} (d : decode (yC Y) pc = .ok (.getstatic idx, 3)) (hl : Cond.fieldLinkNest (yN Y).cls idx RX10 "ALL" "[LRiddleRoad$Token;" host ∈ nw) (kk : G X Y P (pc + 3) ls (.ref 40 :: st) cs ss M) : G X Y P pc ls st cs ss M := by
  intro p e s m args below meth c F H locs la hR hS hL
  have k := kk p e s m args below meth c F H locs la hR hS hL
  rw [List.map_cons, cv_c (by omega) (by omega)] at k
  exact va_getsN F.1.1 F.1.2.1 (F.kc.2.2.2.2.1.1.kept F.kept) hS F.1.2.2.2.1 (va_Nw.use rfl (F.2.2.1.2.1 _ hl)) (fun _ h => h) d k
theorem g_alllen (d : decode (yC Y) pc = .ok (.arraylength, 1)) (kk : G X Y P (pc + 1) ls (.int 36 :: st) cs ss M) : G X Y P pc ls (.ref 40 :: st) cs ss M := by
  intro p e s m args below meth c F H locs la hR hS hL
  rw [List.map_cons, cv_c (by omega) (by omega)]
  exact va_tlen F.1.1 F.1.2.1 (F.kc.2.2.2.2.1.2.kept F.kept) hS (by decide) d (kk p e s m args below meth c F H locs la hR hS hL)
/-- ALL[i] -/
def tkA (i : Int32) : Option Nat := if 0 ≤ i ∧ i.toNatClampNeg < 36 then some (i.toNatClampNeg + 1) else none
theorem g_allat {i : Int32} {r : Nat} (d : decode (yC Y) pc = .ok (.aaload, 1)) (h : tkA i = some r) (kk : G X Y P (pc + 1) ls (.ref r :: st) cs ss M) : G X Y P pc ls (.int i :: .ref 40 :: st) cs ss M := by
  intro p e s m args below meth c F H locs la hR hS hL
  obtain ⟨⟨h1, h2⟩, rfl⟩ := ite_s h
  have k := kk p e s m args below meth c F H locs la hR hS hL
  rw [List.map_cons, cv_c (by omega) (by omega)] at k
  rw [List.map_cons, List.map_cons, cv_c (a := 40) (by omega) (by omega)]
  exact vb_tq F.1.1 F.1.2.1 (F.kc.2.2.2.2.1.2.kept F.kept) hS (vin h1 h2) rfl d k
theorem g_swm {idx : Nat} (d : decode (yC Y) pc = .ok (.getstatic idx, 3)) (hl : Cond.fieldLink (yN Y).cls idx RX0 "$SwitchMap$RiddleRoad$Token" "[I" ∈ gw) (kk : G X Y P (pc + 3) ls (.ref 41 :: st) cs ss M) : G X Y P pc ls st cs ss M := by
  intro p e s m args below meth c F H locs la hR hS hL
  have k := kk p e s m args below meth c F H locs la hR hS hL
  rw [List.map_cons, cv_c (by omega) (by omega)] at k
  exact va_gets F.1.1 F.1.2.1 (F.kc.2.2.2.2.2.1.1.kept F.kept) hS F.1.2.2.2.1 (F.2.1 _ hl) (fun _ h => h) d k
def swI (i : Int32) : Option Int32 := if 0 ≤ i ∧ i.toNatClampNeg < 36 then some (swL.getD i.toNatClampNeg 0) else none
theorem g_swat {i x : Int32} (d : decode (yC Y) pc = .ok (.iaload, 1)) (h : swI i = some x) (kk : G X Y P (pc + 1) ls (.int x :: st) cs ss M) : G X Y P pc ls (.int i :: .ref 41 :: st) cs ss M := by
  intro p e s m args below meth c F H locs la hR hS hL
  obtain ⟨⟨h1, h2⟩, rfl⟩ := ite_s h
  rw [List.map_cons, List.map_cons, cv_c (a := 41) (by omega) (by omega)]
  exact va_ti F.1.1 F.1.2.1 (F.kc.2.2.2.2.2.1.2.kept F.kept) hS (vin h1 h2) rfl d (kk p e s m args below meth c F H locs la hR hS hL)
def tkS (r : Nat) : Option Nat := if 1 ≤ r ∧ r ≤ 36 then some (100 + tokS.getD (r - 1) 0) else none
theorem tokS_lt : ∀ i, i < 36 → tokS.getD i 0 < 81 := by decide +kernel
theorem va_getfN {p : Program} {l : Launch} {e : Env} {R : Room} {s : State} {m : MethodId} {args : Array Value} {below : List Frame} {meth : Method} {c : Code} {H : Heap} {locs : List Loc} {cells slots : Nat} {Q : State → Prop} {cc : ByteArray} {pc : Nat} {ls : Array Slot} {rest : List Value} {A : Nat → Prop}
    (hexec : p.tables.exec = Jvm.exec) (hb : c.code = cc) {o n d own ref host : String} {index q : Nat} {v : Value} (hE : va_OF o n d v q A s s.heap) (hS : va_S A s.heap H locs) (hown : s.vm.findClass own = some m.cls) (hlink : (Cond.fieldLinkNest own index ref n d host).before args s = true) (hsame : ∀ x, s.fieldFound? o n d = some x → s.fieldFound? ref n d = some x) (hdg : decode cc pc = .ok (.getfield index, 3))
    (kk : W p l e R s m args below meth c H locs cells slots Q (F0 m (pc + 3) ls (v :: rest))) : W p l e R s m args below meth c H locs cells slots Q (F0 m pc ls (.ref q :: rest)) := by
  obtain ⟨cf, k, fi, f, cell, h1, h2, h3, h4, h5, h6⟩ := hE.kept hS.2.1
  exact va_Wgetf hexec hb hown hlink (hsame _ h1) h2 h3 h4 (v := v) h5 rfl rfl hdg kk
theorem g_spell {idx r x : Nat} {host : String} (d : decode (yC Y) pc = .ok (.getfield idx, 3)) (hl : Cond.fieldLinkNest (yN Y).cls idx RX10 "spelling" "Ljava/lang/String;" host ∈ nw) (h : tkS r = some x) (kk : G X Y P (pc + 3) ls (.ref x :: st) cs ss M) : G X Y P pc ls (.ref r :: st) cs ss M := by
  intro p e s m args below meth c F H locs la hR hS hL
  obtain ⟨⟨h1, h2⟩, rfl⟩ := ite_s h
  have hlt := tokS_lt (r - 1) (by omega)
  have k := kk p e s m args below meth c F H locs la hR hS hL
  rw [List.map_cons, cv_c (by omega) (by omega)] at k
  rw [List.map_cons, cv_c (a := r) (by omega) (by omega)]
  have hf := (F.kc.2.2.2.1 (r - 1) (by omega)).kept F.kept
  rw [show r - 1 + 1 = r by omega] at hf
  exact va_getfN F.1.1 F.1.2.1 hf hS F.1.2.2.2.1 (va_Nw.use rfl (F.2.2.1.2.1 _ hl)) (fun _ h => h) d k
theorem g_ldcS {j idx : Nat} {q : String × Nat × String × List Int32} (d : decode (yC Y) pc = .ok (.ldc idx, 2)) (hj : strT[j]? = some q) (h1 : q.1 = (yN Y).cls) (h2 : q.2.1 = idx) (kk : G X Y P (pc + 2) ls (.ref (100 + j) :: st) cs ss M) : G X Y P pc ls st cs ss M := by
  intro p e s m args below meth c F H locs la hR hS hL
  have hlt : j < 81 := (List.getElem?_eq_some_iff.mp hj).1
  have k := kk p e s m args below meth c F H locs la hR hS hL
  rw [List.map_cons, cv_c (by omega) (by omega)] at k
  have hv := F.2.2.1.2.2.2.1.2.2.1 j q hj
  rw [h1, h2] at hv
  exact va_ldcS F.1.1 F.1.2.1 F.1.2.2.2.1 hv d k
/-- a token into an array of tokens -/
def tT (M : Mem) (a : Nat) (i : Int32) (r : Nat) : Option Mem := if (qS M a = 4 ∧ 1 ≤ r ∧ r ≤ 36) ∧ 0 ≤ i ∧ i.toNatClampNeg < qN M a then some (pR M a i.toNatClampNeg r) else none
theorem g_tT {a : Nat} {i : Int32} {r : Nat} {M' : Mem} (d : decode (yC Y) pc = .ok (.aastore, 1)) (h : tT M a i r = some M') (kk : G X Y P (pc + 1) ls st cs ss M') : G X Y P pc ls (.ref r :: .int i :: .ref a :: st) cs ss M := by
  intro p e s m args below meth c F H locs la hR hS hL
  obtain ⟨⟨⟨h1, h4, h5⟩, h2, h3⟩, rfl⟩ := ite_s h
  have h0 : qS M a ≠ 0 := by omega
  have hP := hR.at h0 (by omega)
  rw [ent_r h1 (by omega) (by omega)] at hP
  have hcr : cv X (.ref r) = .ref (xa X r) := cv_c (by omega) (by omega)
  rw [List.map_cons, List.map_cons, List.map_cons, cv_ref X (hR.ne h0), hcr]
  have hO := (F.kc.2.2.1.1 (r - 1) (show r - 1 < 36 by omega)).2.1.kept F.kept
  dsimp only at hO
  rw [show r - 1 + 1 = r by omega] at hO
  obtain ⟨cellV, g1, g3, g2, g4⟩ := hO.kept hS.2.1
  have hK := F.2.2.1.1
  obtain ⟨kA, comp, k1, k2, k3, -⟩ := (hK.2 3 _ rfl).2
  have hcomp : comp = cellV.cls := Option.some.inj (k3.symm.trans g2)
  subst hcomp
  obtain ⟨kC, hkC, -⟩ := Vm.findClass_spec g2
  have hasg : s.vm.assignable cellV.cls cellV.cls = true := va_asg _ _
  refine W.aast F.1.1 F.1.2.1 hP (fun q h => by cases h) (fun h => by cases h) k1 k2 rfl hkC ⟨fun q => absurd h2 (Int32.not_le.mpr q), by show _ < (arrV _ _ _).slots.size; rw [arrV_size]; exact h3⟩ g1 (fun q h => by rw [h] at g3; cases g3) hkC hasg rfl rfl d fun H1 e1 z oq => ?_
  refine kk p e s m args below meth c F H1 _ la (hR.upd (a := a) h0 rfl (fun _ => rfl) (fun b hb => ent_pR hb) ?_ z oq) (hS.put z oq (hR.A h0)) hL
  rw [ent_r (show qS (pR M a _ _) a = 4 from h1) (by omega) (by omega)]
  show H1[ra X a]? = some (vp_cell _ _)
  rw [e1, vp_cell_q, vp_cell_q, arrV_store]
  congr 2
  funext q
  by_cases hq : q = i.toNatClampNeg
  · subst hq
    simp only [updV, if_pos]
    rw [qR_pR_s]
    exact hcr.symm
  · simp only [updV, if_neg hq]
    rw [qR_pR_n M r (fun z => hq z.2)]
theorem rf_tok {p : Program} {s : State} {m : MethodId} {args : Array Value} {meth : Method} {c : Code} (F : Fx X Y p s m args meth c) {a b : Nat} (ha : a ≤ 36) (hb : b ≤ 36) : rf X a = rf X b ↔ a = b := by
  refine ⟨fun h => ?_, fun h => by rw [h]⟩
  unfold rf at h
  by_cases a0 : a = 0
  · by_cases b0 : b = 0
    · rw [a0, b0]
    · rw [if_pos a0, if_neg b0] at h; cases h
  · by_cases b0 : b = 0
    · rw [if_neg a0, if_pos b0] at h; cases h
    · rw [if_neg a0, if_neg b0] at h
      have h1 := Option.some.inj h
      unfold ra at h1
      rw [if_pos (by omega), if_pos (by omega)] at h1
      have h2 := F.kc.2.2.1.2 (a - 1) (b - 1) (show a - 1 < 36 by omega) (show b - 1 < 36 by omega)
      dsimp only at h2
      rw [show a - 1 + 1 = a by omega, show b - 1 + 1 = b by omega] at h2
      have := h2 h1
      omega
theorem g_acmp_eq {a b : Nat} {o : Int} (t : Nat) (d : decode (yC Y) pc = .ok (.if_acmp .eq o, 3)) (ht : (pc : Int) + o = (t : Int)) (hab : a ≤ 36 ∧ b ≤ 36) (kt : a = b → G X Y P t ls st cs ss M) (kf : ¬ a = b → G X Y P (pc + 3) ls st cs ss M) : G X Y P pc ls (.ref b :: .ref a :: st) cs ss M := by
  intro p e s m args below meth c F H locs la hR hS hL
  exact lv_acmp_eq (rx := rf X a) (ry := rf X b) F.1.1 F.1.2.1 d ht (fun h => kt ((rf_tok F hab.1 hab.2).mp h) p e s m args below meth c F H locs la hR hS hL) (fun h => kf (fun q => h ((rf_tok F hab.1 hab.2).mpr q)) p e s m args below meth c F H locs la hR hS hL)
theorem g_acmp_ne {a b : Nat} {o : Int} (t : Nat) (d : decode (yC Y) pc = .ok (.if_acmp .ne o, 3)) (ht : (pc : Int) + o = (t : Int)) (hab : a ≤ 36 ∧ b ≤ 36) (kt : ¬ a = b → G X Y P t ls st cs ss M) (kf : a = b → G X Y P (pc + 3) ls st cs ss M) : G X Y P pc ls (.ref b :: .ref a :: st) cs ss M := by
  intro p e s m args below meth c F H locs la hR hS hL
  exact lv_acmp_ne (rx := rf X a) (ry := rf X b) F.1.1 F.1.2.1 d ht (fun h => kt (fun q => h ((rf_tok F hab.1 hab.2).mpr q)) p e s m args below meth c F H locs la hR hS hL) (fun h => kf ((rf_tok F hab.1 hab.2).mp h) p e s m args below meth c F H locs la hR hS hL)
theorem g_objInit {idx a : Nat} (d : decode (yC Y) pc = .ok (.invokespecial idx, 3)) (hl : Cond.methodLink (yN Y).cls idx Lib.objectInit ∈ gw) (hi : Cond.instanceMethod Lib.objectInit ∈ gw) (hc : Cond.code Lib.objectInit ⟨#[0xb1]⟩ 1 none ∈ gw) (h : qS M a ≠ 0) (hst : st = []) (hr : lw2 1 (yR Y).frames 12 (yR Y).locals = true) (kk : G X Y P (pc + 3) ls st cs ss M) : G X Y P pc ls (.ref a :: st) cs ss M := by
  intro p e s m args below meth c F H locs la hR hS hL
  obtain ⟨r1, r2⟩ := lw2_s hr
  rw [List.map_cons, cv_ref X (hR.ne h)]
  subst hst
  exact W.objInit F.1.1 F.1.2.1 F.1.2.2.2.1 (F.2.1 _ hl) (F.2.1 _ hi) (F.2.1 _ hc) rfl (hL.1.trans F.1.2.2.1.symm) rfl d r1 (by show 2 * 0 + 0 + 12 ≤ _; omega) (kk p e s m args below meth c F H locs la hR hS hL)
theorem g_i2c {x : Int32} (d : decode (yC Y) pc = .ok (.i2c, 1)) (k : G X Y P (pc + 1) ls (.int (x.toUInt32 % 65536).toInt32 :: st) cs ss M) : G X Y P pc ls (.int x :: st) cs ss M := by
  intro p e s m args below meth c F H locs la hR hS hL
  exact lv_i2c F.1.1 F.1.2.1 d rfl (k p e s m args below meth c F H locs la hR hS hL)
/-! calls that return, calls that throw -/
theorem g_callV {idx n : Nat} {C : String} {Y' : My} {b : Nat} {as stk rvs : List Value} {v : Value} {M1 : Mem} (cs' ss' : Nat) (d : decode (yC Y) pc = .ok (.invokevirtual idx, 3)) (hy : YG Y') (hl : VL (yN Y).cls idx C (yN Y') n) (hct : Ct X Y' (.ref b :: as) M (.inl v, M1)) (hrc : RC X M b C) (hstk : stk = as.reverse ++ .ref b :: st) (hn : as.length = n) (hr : rmk Y Y' cs ss = true) (hst : (st.map fun v => v.category).sum ≤ 8) (hc : cs + (yR Y').cells = cs') (hs : ss + (yR Y').slots = ss') (hv : cvr X v = rvs.map (cv X))
    (kk : G X Y P (pc + 3) ls (rvs ++ st) cs' ss' M1) : G X Y P pc ls stk cs ss M := by
  intro p e s m args below meth c F H locs la hR hS hL
  subst hc hs
  refine run_ret (Yc := Y') (call_V d hl hy hct hrc hstk hn hr hst F hR hL) hS fun H1 locs1 hR1 hS1 => ?_
  rw [hv, ← List.map_append]
  exact kk p e s m args below meth c F H1 locs1 la hR1 hS1 hL
theorem g_callVX {idx n k : Nat} {C : String} {Y' : My} {b : Nat} {as stk : List Value} {M1 : Mem} (cs' ss' : Nat) (d : decode (yC Y) pc = .ok (.invokevirtual idx, 3)) (hy : YG Y') (hl : VL (yN Y).cls idx C (yN Y') n) (hct : Ct X Y' (.ref b :: as) M (.inr k, M1)) (hrc : RC X M b C) (hstk : stk = as.reverse ++ .ref b :: st) (hn : as.length = n) (hr : rmk Y Y' cs ss = true) (hst : (st.map fun v => v.category).sum ≤ 8) (hc : cs + (yR Y').cells = cs') (hs : ss + (yR Y').slots = ss')
    (kk : GT X Y P pc ls k cs' ss' M1) : G X Y P pc ls stk cs ss M := by
  intro p e s m args below meth c F H locs la hR hS hL
  subst hc hs
  exact run_thr (call_V d hl hy hct hrc hstk hn hr hst F hR hL) hS fun H1 locs1 ce q hR1 hS1 h1 h2 h3 => kk p e s m args below meth c F H1 locs1 la hR1 hS1 hL _ ce q h1 h2 h3
theorem g_callS {idx n : Nat} {Y' : My} {as stk rvs : List Value} {v : Value} {M1 : Mem} (cs' ss' : Nat) (d : decode (yC Y) pc = .ok (.invokestatic idx, 3)) (hy : YG Y') (hl : SL (yN Y).cls idx (yN Y') n) (hct : Ct X Y' as M (.inl v, M1)) (hstk : stk = as.reverse ++ st) (hn : as.length = n) (hr : rmk Y Y' cs ss = true) (hst : (st.map fun v => v.category).sum ≤ 8) (hc : cs + (yR Y').cells = cs') (hs : ss + (yR Y').slots = ss') (hv : cvr X v = rvs.map (cv X))
    (kk : G X Y P (pc + 3) ls (rvs ++ st) cs' ss' M1) : G X Y P pc ls stk cs ss M := by
  intro p e s m args below meth c F H locs la hR hS hL
  subst hc hs
  refine run_ret (Yc := Y') (call_S d hl hy hct hstk hn hr hst F hR hL) hS fun H1 locs1 hR1 hS1 => ?_
  rw [hv, ← List.map_append]
  exact kk p e s m args below meth c F H1 locs1 la hR1 hS1 hL
theorem g_callSX {idx n k : Nat} {Y' : My} {as stk : List Value} {M1 : Mem} (cs' ss' : Nat) (d : decode (yC Y) pc = .ok (.invokestatic idx, 3)) (hy : YG Y') (hl : SL (yN Y).cls idx (yN Y') n) (hct : Ct X Y' as M (.inr k, M1)) (hstk : stk = as.reverse ++ st) (hn : as.length = n) (hr : rmk Y Y' cs ss = true) (hst : (st.map fun v => v.category).sum ≤ 8) (hc : cs + (yR Y').cells = cs') (hs : ss + (yR Y').slots = ss')
    (kk : GT X Y P pc ls k cs' ss' M1) : G X Y P pc ls stk cs ss M := by
  intro p e s m args below meth c F H locs la hR hS hL
  subst hc hs
  exact run_thr (call_S d hl hy hct hstk hn hr hst F hR hL) hS fun H1 locs1 ce q hR1 hS1 h1 h2 h3 => kk p e s m args below meth c F H1 locs1 la hR1 hS1 hL _ ce q h1 h2 h3
theorem g_callI {idx n : Nat} {Y' : My} {b : Nat} {as stk : List Value} {M1 : Mem} (cs' ss' : Nat) (hT : yT Y' = none) (d : decode (yC Y) pc = .ok (.invokespecial idx, 3)) (hy : YG Y') (hl : IL (yN Y).cls idx (yN Y') n) (hct : Ct X Y' (.ref b :: as) M (.inl (.retAddr 0), M1)) (hb : qS M b ≠ 0) (hstk : stk = as.reverse ++ .ref b :: st) (hn : as.length = n) (hr : rmk Y Y' cs ss = true) (hst : (st.map fun v => v.category).sum ≤ 8) (hc : cs + (yR Y').cells = cs') (hs : ss + (yR Y').slots = ss')
    (kk : G X Y P (pc + 3) ls st cs' ss' M1) : G X Y P pc ls stk cs ss M := by
  intro p e s m args below meth c F H locs la hR hS hL
  subst hc hs
  exact run_ret (Yc := Y') (call_I hT d hl hy hct hb hstk hn hr hst F hR hL) hS fun H1 locs1 hR1 hS1 => kk p e s m args below meth c F H1 locs1 la hR1 hS1 hL
theorem g_callU {idx n : Nat} {C owner : String} {x : MethodName} {Y' : My} {b : Nat} {as stk rvs : List Value} {v : Value} {M1 : Mem} (cs' ss' : Nat) (d : decode (yC Y) pc = .ok (.invokevirtual idx, 3)) (hy : YG Y') (hl : UL (yN Y).cls idx C owner x (yN Y') n) (hct : Ct X Y' (.ref b :: as) M (.inl v, M1)) (hrc : RC X M b C) (hstk : stk = as.reverse ++ .ref b :: st) (hn : as.length = n) (hr : rmk Y Y' cs ss = true) (hst : (st.map fun v => v.category).sum ≤ 8) (hc : cs + (yR Y').cells = cs') (hs : ss + (yR Y').slots = ss') (hv : cvr X v = rvs.map (cv X))
    (kk : G X Y P (pc + 3) ls (rvs ++ st) cs' ss' M1) : G X Y P pc ls stk cs ss M := by
  intro p e s m args below meth c F H locs la hR hS hL
  subst hc hs
  refine run_ret (Yc := Y') (call_U d hl hy hct hrc hstk hn hr hst F hR hL) hS fun H1 locs1 hR1 hS1 => ?_
  rw [hv, ← List.map_append]
  exact kk p e s m args below meth c F H1 locs1 la hR1 hS1 hL
theorem g_callSW {idx n : Nat} {Y' : My} {as stk rvs : List Value} {v : Value} {M1 : Mem} (cs' ss' : Nat) (d : decode (yC Y) pc = .ok (.invokestatic idx, 3)) (hy : YGX Y') (hl : SL (yN Y).cls idx (yN Y') n) (hlk : Cond.methodLink (yN Y).cls idx (yN Y') ∈ gw) (hct : CtX X Y' as M (.inl v, M1)) (hstk : stk = as.reverse ++ st) (hn : as.length = n) (hr : rmk Y Y' cs ss = true) (hst : (st.map fun v => v.category).sum ≤ 8) (hc : cs + (yR Y').cells = cs') (hs : ss + (yR Y').slots = ss') (hv : cvr X v = rvs.map (cv X))
    (kk : G X Y P (pc + 3) ls (rvs ++ st) cs' ss' M1) : G X Y P pc ls stk cs ss M := by
  intro p e s m args below meth c F H locs la hR hS hL
  subst hc hs
  refine run_ret (Yc := Y') (call_SX d hl hlk hy hct hstk hn hr hst F hR hL) hS fun H1 locs1 hR1 hS1 => ?_
  rw [hv, ← List.map_append]
  exact kk p e s m args below meth c F H1 locs1 la hR1 hS1 hL
end GK
