/-! new objects and arrays, arraycopy -/
theorem fv_0 (X : Cx) (ci k : Nat) (h : okT (tyOf ci k) = true) : defaultValue (tyOf ci k) = fv X ci (fun _ => 0) (fun _ => 0) k := by
  unfold fv
  cases e : tyOf ci k <;> first | (rw [e] at h; cases h; done) | rfl
def nA (M : Mem) (t : Nat) (n : Int32) : Option (Nat × Mem) := if 0 ≤ n ∧ n.toNatClampNeg ≤ 100000 then some (qZ M, pNew M t n.toNatClampNeg) else none
/-- int[n][k] -/
def pMul (M : Mem) (n k : Nat) : Mem := (fun b => if qZ M ≤ b then fun _ => 0 else M.1 b, fun b => if b = qZ M then fun j => if j < n then qZ M + 1 + j else 0 else if qZ M < b then fun _ => 0 else M.2.1 b, M.2.2.1, fun b => if b = qZ M then (6, n) else if qZ M < b ∧ b ≤ qZ M + n then (1, k) else M.2.2.2.1 b, qZ M + 1 + n)
/-- System.arraycopy over ints -/
def cpI (M : Mem) (a : Nat) (sp : Int32) (b : Nat) (dp n : Int32) : Option Mem := if (qS M a = 1 ∧ qS M b = 1) ∧ (0 ≤ sp ∧ 0 ≤ dp ∧ 0 ≤ n) ∧ sp.toNatClampNeg + n.toNatClampNeg ≤ qN M a ∧ dp.toNatClampNeg + n.toNatClampNeg ≤ qN M b then some (pRow M b (va_cpy (qI M a) (qI M b) sp.toNatClampNeg dp.toNatClampNeg n.toNatClampNeg)) else none
theorem va_S.grow {A : Nat → Prop} {H0 H H1 : Heap} {locs : List Loc} (h : va_S A H0 H locs) (z : H.size ≤ H1.size) (o : ∀ q : Nat, q < H.size → H1[q]? = H[q]?) : va_S A H0 H1 locs :=
  ⟨Nat.le_trans h.1 z, fun q h1 h2 => (o q (Nat.lt_of_lt_of_le h1 h.1)).trans (h.2.1 q h1 h2), h.2.2⟩
section GN
variable {X : Cx} {Y : My} {P : List Frame → Array Value → State → State → Prop} {pc : Nat} {ls st : List Value} {cs ss : Nat} {M : Mem}
theorem g_new {idx ci N : Nat} {C : String} {T : u_T} (d : decode (yC Y) pc = .ok (.new idx, 3)) (hc : CL ci C T N) (hci : ci ≠ 20) (hl : Cond.classLink (yN Y).cls idx C ∈ gw) (hi : Cond.instantiable C N ∈ gw) (hn : Cond.initialized C ∈ gw) (hcs : cs + 1 ≤ (yR Y).cells) (hss : ss + N ≤ (yR Y).slots)
    (kk : G X Y P (pc + 3) ls (.ref (qZ M) :: st) (cs + 1) (ss + N) (pNew M (10 + ci) 0)) : G X Y P pc ls st cs ss M := by
  intro p e s m args below meth c F H locs la hR hS hL
  obtain ⟨c1, c2, c3, c4, c5, c6⟩ := hc
  have hKn := F.2.2.1.1.1 ci _ c1
  refine W.newcK F.1.1 F.1.2.1 F.1.2.2.2.1 (F.2.1 _ hl) (F.2.1 _ hi) (F.2.1 _ hn) rfl d hcs hss hKn.2.1 rfl fun H1 kC hkC e1 z1 o1 => ?_
  have hat : va_at (xD X) vwCl (H.size, ent X (pNew M (10 + ci) 0) (qZ M)) H1 := by
    obtain ⟨n1, n2, n3, n4, n5⟩ := ent_new_self X M (10 + ci) 0
    rw [ent_obj n1, n3, n4]
    refine ⟨_, c1, (u_born (tyOf ci) F.2.1 c3 hKn hkC e1 c4).to fun j hj => ?_⟩
    rw [fv_0 X ci j (c6 j hj)]
    show _ = (fsl X ci (fun _ => 0) (fun _ => 0)).getD j .null
    rw [List.getD_eq_getElem?_getD, fsl_at X ci _ _ (c2 ▸ hj)]
    rfl
  obtain ⟨hR1, hra⟩ := hR.new (t := 10 + ci) (n := 0) (fun _ => hat) z1 o1
  have k := kk p e s m args below meth c F H1 locs la hR1 (hS.grow (by omega) o1) hL
  rw [List.map_cons, cv_ref X (by have := hR.1.1; omega), hra] at k
  exact k
theorem g_newa {t : Nat} {atype : ArrayType} {n : Int32} {r B : Nat} {M' : Mem} (d : decode (yC Y) pc = .ok (.newarray atype, 2)) (hty : newarray.typeOf atype = aty t) (ht : (decide (1 ≤ t) && decide (t ≤ 3)) = true) (harr : Cond.arrayClass (aty t) ∈ gw) (h : nA M t n = some (r, M')) (hB : n.toNatClampNeg ≤ B) (hcs : cs + 1 ≤ (yR Y).cells) (hss : ss + B ≤ (yR Y).slots)
    (kk : G X Y P (pc + 2) ls (.ref r :: st) (cs + 1) (ss + B) M') : G X Y P pc ls (.int n :: st) cs ss M := by
  intro p e s m args below meth c F H locs la hR hS hL
  obtain ⟨⟨h1, h2⟩, h3⟩ := ite_s h
  obtain ⟨rfl, rfl⟩ := Prod.mk.inj h3
  rw [Bool.and_eq_true, decide_eq_true_eq, decide_eq_true_eq] at ht
  refine va_newaK F.1.1 F.1.2.1 (atype := atype) (by rw [hty]; exact F.2.1 _ harr) rfl d rfl (fun q => absurd h1 (Int32.not_le.mpr q)) rfl (by
    have : componentBytes (newarray.typeOf atype) ≤ 8 := by cases atype <;> decide
    calc n.toNatClampNeg * componentBytes (newarray.typeOf atype) ≤ 100000 * 8 := Nat.mul_le_mul h2 this
      _ ≤ 536870912 := by decide) hcs (by omega) rfl fun H1 cA e1 z1 o1 hAr hNm => ?_
  rw [hty] at e1 hNm
  have hcA : cA = xA X t := by
    have hh := (F.2.2.1.1.2 (t - 1) _ (tys_at X ht.1 (by omega))).2
    have : s.vm.findClass ("[" ++ (aty t).toString) = some (xA X t) := by
      obtain rfl | rfl | rfl : t = 1 ∨ t = 2 ∨ t = 3 := by omega
      all_goals exact hh
    exact Option.some.inj (hNm.symm.trans this)
  subst hcA
  have hat : va_at (xD X) vwCl (H.size, ent X (pNew M t n.toNatClampNeg) (qZ M)) H1 := by
    obtain ⟨n1, n2, n3, n4, n5⟩ := ent_new_self X M t n.toNatClampNeg
    obtain rfl | rfl | rfl : t = 1 ∨ t = 2 ∨ t = 3 := by omega
    · rw [ent_1 n1, n2, n3]; exact e1
    · rw [ent_2 n1, n2, n3]; exact e1
    · rw [ent_3 n1, n2, n5]; exact e1
  obtain ⟨hR1, hra⟩ := hR.new (t := t) (n := n.toNatClampNeg) (fun _ => hat) z1 o1
  have k := kk p e s m args below meth c F H1 locs la hR1 (hS.grow (by omega) o1) hL
  rw [List.map_cons, cv_ref X (by have := hR.1.1; omega), hra] at k
  exact W.widen (Nat.le_refl _) (by omega) k
theorem g_newq {idx t : Nat} {C : String} {n : Int32} {r B : Nat} {M' : Mem} (d : decode (yC Y) pc = .ok (.anewarray idx, 3)) (ht : (t = 4 ∧ C = RX10) ∨ (t = 5 ∧ C = RX11)) (hl : Cond.classLink (yN Y).cls idx C ∈ gw) (h : nA M t n = some (r, M')) (hB : n.toNatClampNeg ≤ B) (hcs : cs + 1 ≤ (yR Y).cells) (hss : ss + B ≤ (yR Y).slots)
    (kk : G X Y P (pc + 3) ls (.ref r :: st) (cs + 1) (ss + B) M') : G X Y P pc ls (.int n :: st) cs ss M := by
  intro p e s m args below meth c F H locs la hR hS hL
  obtain ⟨⟨h1, h2⟩, h3⟩ := ite_s h
  obtain ⟨rfl, rfl⟩ := Prod.mk.inj h3
  have hao : va_AO C s := by
    rcases ht with ⟨-, rfl⟩ | ⟨-, rfl⟩
    · exact F.2.2.1.2.2.2.2.1
    · exact F.2.2.1.2.2.2.2.2.1
  refine W.anew F.1.1 F.1.2.1 F.1.2.2.2.1 (F.2.1 _ hl) (va_AO.use hao) rfl d rfl (fun q => absurd h1 (Int32.not_le.mpr q)) (by omega) hcs (by omega) fun cA kA comp f1 f2 f3 f4 => ?_
  have hcA : cA = xA X t := by
    rcases ht with ⟨rfl, rfl⟩ | ⟨rfl, rfl⟩
    · obtain ⟨_, _, -, -, -, g4⟩ := (F.2.2.1.1.2 3 _ rfl).2
      exact Option.some.inj (f1.symm.trans g4)
    · obtain ⟨_, _, -, -, -, g4⟩ := (F.2.2.1.1.2 4 _ rfl).2
      exact Option.some.inj (f1.symm.trans g4)
  subst hcA
  generalize hH1 : H.push ({ cls := xA X t, slots := Array.replicate n.toNatClampNeg .null, vm := .none } : Cell) = H1
  have z1 : H1.size = H.size + 1 := by rw [← hH1, Array.size_push]
  have e1 : H1[H.size]? = some (arrV (xA X t) n.toNatClampNeg (fun _ => .null)) := by rw [← hH1, Array.getElem?_push_size, ← arrV_new]
  have o1 : ∀ q : Nat, q < H.size → H1[q]? = H[q]? := fun q hq => by rw [← hH1, Array.getElem?_push, if_neg (Nat.ne_of_lt hq)]
  have hat : va_at (xD X) vwCl (H.size, ent X (pNew M t n.toNatClampNeg) (qZ M)) H1 := by
    obtain ⟨n1, n2, n3, n4, n5⟩ := ent_new_self X M t n.toNatClampNeg
    rw [ent_r n1 (by omega) (by omega), n2, n4]
    exact e1
  obtain ⟨hR1, hra⟩ := hR.new (t := t) (n := n.toNatClampNeg) (fun _ => hat) z1 o1
  have k := kk p e s m args below meth c F H1 locs la hR1 (hS.grow (by omega) o1) hL
  rw [List.map_cons, cv_ref X (by have := hR.1.1; omega), hra] at k
  exact W.widen (Nat.le_refl _) (by omega) k
theorem Rep.mul {X : Cx} {M : Mem} {H H1 : Heap} {n k : Nat} (h : Rep X M H) (z : H1.size = H.size + 1 + n) (oq : ∀ q : Nat, q < H.size → H1[q]? = H[q]?)
    (e0 : H1[H.size]? = some (vp_cell (xA X 6) (n, .inr (.inr (.inr (.inr (fun i => if i < n then some (H.size + 1 + i) else none)))))))
    (e1 : ∀ j : Nat, j < n → H1[H.size + 1 + j]? = some (vp_cell (xA X 1) (k, .inl (fun _ => 0)))) : Rep X (pMul M n k) H1 ∧ ra X (qZ M) = H.size := by
  obtain ⟨⟨h0, h1⟩, h2, h3⟩ := h
  have hra : ∀ j, ra X (qZ M + j) = H.size + j := fun j => by rw [ra_new X (by omega)]; omega
  refine ⟨⟨⟨by show 1000 ≤ qZ M + 1 + n; omega, by show _ = xb X + (qZ M + 1 + n); omega⟩, fun q hq => ?_, fun a ha => ?_⟩, hra 0⟩
  · rw [oq q (by omega)]; exact h2 q hq
  · by_cases e : a = qZ M
    · subst e
      have s1 : qS (pMul M n k) (qZ M) = 6 := by show (if qZ M = qZ M then _ else _ : Nat × Nat).1 = _; rw [if_pos rfl]
      have s2 : qN (pMul M n k) (qZ M) = n := by show (if qZ M = qZ M then _ else _ : Nat × Nat).2 = _; rw [if_pos rfl]
      refine ⟨h0, by show _ < qZ M + 1 + n; omega, fun hx => ?_⟩
      rw [ent_r s1 (by omega) (by omega), s2, show ra X (qZ M) = H.size from hra 0]
      show H1[H.size]? = _
      rw [e0, vp_cell_q, vp_cell_q]
      congr 2
      funext j
      have s3 : qR (pMul M n k) (qZ M) j = if j < n then qZ M + 1 + j else 0 := by show (if qZ M = qZ M then _ else _ : Nat → Nat) j = _; rw [if_pos rfl]
      rw [s3]
      by_cases hj : j < n
      · rw [if_pos hj, if_pos hj]
        unfold rf
        rw [if_neg (by omega), show ra X (qZ M + 1 + j) = H.size + (1 + j) from (congrArg (ra X) (Nat.add_assoc _ _ _)).trans (hra _), Nat.add_assoc]
      · rw [if_neg hj, if_neg hj]
        rfl
    · by_cases e2 : qZ M < a ∧ a ≤ qZ M + n
      · have s1 : qS (pMul M n k) a = 1 := by show (if a = qZ M then _ else if _ then _ else _ : Nat × Nat).1 = _; rw [if_neg e, if_pos e2]
        have s2 : qN (pMul M n k) a = k := by show (if a = qZ M then _ else if _ then _ else _ : Nat × Nat).2 = _; rw [if_neg e, if_pos e2]
        have s3 : qI (pMul M n k) a = fun _ => 0 := by show (if qZ M ≤ a then _ else _ : Nat → Int32) = _; rw [if_pos (by omega)]
        refine ⟨by omega, by show _ < qZ M + 1 + n; omega, fun hx => ?_⟩
        rw [ent_1 s1, s2, s3]
        have := e1 (a - qZ M - 1) (by omega)
        have h9 := hra (a - qZ M)
        rw [show qZ M + (a - qZ M) = a by omega] at h9
        rw [h9]
        rw [show H.size + 1 + (a - qZ M - 1) = H.size + (a - qZ M) by omega] at this
        exact this
      · have s1 : qS (pMul M n k) a = qS M a := by show (if a = qZ M then _ else if _ then _ else _ : Nat × Nat).1 = _; rw [if_neg e, if_neg e2]; rfl
        rw [s1] at ha ⊢
        obtain ⟨k1, k2, k3⟩ := h3 a ha
        have s2 : qN (pMul M n k) a = qN M a := by show (if a = qZ M then _ else if _ then _ else _ : Nat × Nat).2 = _; rw [if_neg e, if_neg e2]; rfl
        have s3 : qI (pMul M n k) a = qI M a := by show (if qZ M ≤ a then _ else _ : Nat → Int32) = _; rw [if_neg (by omega)]; rfl
        have s4 : qR (pMul M n k) a = qR M a := by show (if a = qZ M then _ else if qZ M < a then _ else _ : Nat → Nat) = _; rw [if_neg e, if_neg (by omega)]; rfl
        refine ⟨k1, by show _ < qZ M + 1 + n; omega, fun hx => ?_⟩
        rw [ent_off s1 s2 s3 s4 rfl]
        refine (k3 hx).kept (oq _ ?_)
        show ra X a < H.size
        rw [ra_new X k1]
        omega
theorem g_mul {idx n k : Nat} {n' k' : Int32} (d : decode (yC Y) pc = .ok (.multianewarray idx 2, 4)) (hl : Cond.classLink (yN Y).cls idx ("[" ++ (FieldType.array .int).toString) ∈ gw) (harr : Cond.arrayClass .int ∈ gw) (hn : (decide (0 ≤ n') && decide (n'.toNatClampNeg = n) && decide (0 ≤ k') && decide (k'.toNatClampNeg = k) && decide (n ≤ 1000) && decide (k ≤ 1000)) = true) (hcs : cs + (1 + n) ≤ (yR Y).cells) (hss : ss + (n + n * k) ≤ (yR Y).slots)
    (kk : G X Y P (pc + 4) ls (.ref (qZ M) :: st) (cs + 1 + n) (ss + n + n * k) (pMul M n k)) : G X Y P pc ls (.int k' :: .int n' :: st) cs ss M := by
  intro p e s m args below meth c F H locs la hR hS hL
  simp only [Bool.and_eq_true, decide_eq_true_eq] at hn
  obtain ⟨⟨⟨⟨⟨n1, n2⟩, n3⟩, n4⟩, n5⟩, n6⟩ := hn
  intro T hT Xs
  obtain ⟨vm₁, cA, comp, -, fA, fC, hO, -, X', step⟩ := Xs.multianewarray2F (ty := .int) F.1.1 F.1.2.2.2.1 (F.2.1 _ hl) (va_AOA.use F.2.2.1.2.2.2.2.2.2) (F.2.1 _ harr) (g := F0 m pc la (.int k' :: .int n' :: st.map (cv X))) rfl (by rw [F.1.2.1]; exact d) rfl (fun q => absurd n1 (Int32.not_le.mpr q)) (fun q => absurd n3 (Int32.not_le.mpr q))
    (by omega) (by rw [n4]; show k * 4 ≤ _; omega) (by omega) (by decide) (by decide) (by omega) (by rw [n2, n4]; omega)
  rw [n2, n4] at X' step
  have hK := F.2.2.1.1
  have hcA : cA = xA X 6 := Option.some.inj (fA.symm.trans (hK.2 5 _ rfl).2)
  have hcy : comp = xA X 1 := Option.some.inj (fC.symm.trans (hK.2 0 _ rfl).2)
  subst hcA hcy
  generalize hF : Jvm.Free.Multi.fill (T.setVm vm₁) (xA X 6) (xA X 1) n k (defaultValue .int) n = F9 at X' step
  have hTh : (T.setVm vm₁).heap = H := hT
  obtain ⟨f1, f2, -, -⟩ := Jvm.Free.Multi.fill_facts (T.setVm vm₁) (xA X 6) (xA X 1) n k (defaultValue .int) n
  rw [hF, hTh] at f1 f2
  have hold : ∀ x : Nat, x < H.size → F9.heap[x]? = H[x]? := fun x hx => by
    have := Jvm.Free.Multi.fill_old (T.setVm vm₁) (xA X 6) (xA X 1) n k (defaultValue .int) (a := x) (by rw [hTh]; exact hx) n
    rw [hF, hTh] at this
    exact this
  have hrow : ∀ j : Nat, j < n → F9.heap[H.size + 1 + j]? = some (vp_cell (xA X 1) (k, .inl (fun _ => 0))) := fun j hj => by
    have := Jvm.Free.Multi.fill_inner (T.setVm vm₁) (xA X 6) (xA X 1) n k (defaultValue .int) n j hj
    rw [hF, hTh] at this
    rw [this]
    refine congrArg some ?_
    show ({ cls := xA X 1, slots := Array.replicate k (.int 0), vm := .none } : Cell) = _
    rw [arrV_new]
    rfl
  have hout : Jvm.Free.Multi.outerC (xA X 6) n H.size n = vp_cell (xA X 6) (n, .inr (.inr (.inr (.inr (fun i => if i < n then some (H.size + 1 + i) else none))))) := by
    rw [vp_cell_q]
    exact vr_outer (xA X 6) n H.size n
  rw [hout] at f2
  obtain ⟨hR1, hra⟩ := hR.mul (k := k) (H1 := F9.heap) (by rw [f1]) hold f2 hrow
  have k9 := kk p e s m args below meth c F F9.heap locs la hR1 (hS.grow (by rw [f1]; omega) hold) hL
  rw [List.map_cons, cv_ref X (by have := hR.1.1; omega), hra] at k9
  obtain ⟨t, a1, b1⟩ := k9 F9 rfl X'
  refine ⟨t, step t ?_, b1⟩
  rw [hT]
  exact a1
theorem g_cpy {idx a b : Nat} {sp dp n : Int32} {M' : Mem} (d : decode (yC Y) pc = .ok (.invokestatic idx, 3)) (hl : Cond.methodLink (yN Y).cls idx arraycopyName ∈ gw) (hnat : Cond.native arraycopyName ∈ gw) (hstat : Cond.static arraycopyName ∈ gw) (hini : Cond.initialized "java/lang/System" ∈ gw) (hst : st = []) (hfr : 1 ≤ (yR Y).frames) (hlo : 100 ≤ (yR Y).locals) (h : cpI M a sp b dp n = some M')
    (kk : G X Y P (pc + 3) ls st cs ss M') : G X Y P pc ls (.int n :: .int dp :: .ref b :: .int sp :: .ref a :: st) cs ss M := by
  intro p e s m args below meth c F H locs la hR hS hL
  obtain ⟨⟨⟨s1, s2⟩, ⟨h1, h2, h3⟩, h4, h5⟩, rfl⟩ := ite_s h
  have ha : qS M a ≠ 0 := by omega
  have hb : qS M b ≠ 0 := by omega
  have hPa := hR.at ha (by omega)
  have hPb := hR.at hb (by omega)
  rw [ent_1 s1] at hPa
  rw [ent_1 s2] at hPb
  rw [List.map_cons, List.map_cons, List.map_cons, List.map_cons, List.map_cons, cv_ref X (hR.ne ha), cv_ref X (hR.ne hb)]
  have nn : ∀ z : Int32, 0 ≤ z → z.toInt = (z.toNatClampNeg : Int) := by
    intro z hz
    have hz0 : (0 : Int) ≤ z.toInt := by simpa using Int32.le_iff_toInt_le.mp hz
    show z.toInt = ((z.toInt.toNat : Nat) : Int)
    omega
  have hlw : 2 * (F0 m pc la (.int n :: .int dp :: .ref (ra X b) :: .int sp :: .ref (ra X a) :: st.map (cv X))).monitorRoom + ((st.map (cv X)).map fun v => v.category).sum + (nativeFrameWords "java/lang/System" "arraycopy" 5 + 11) ≤ (yR Y).locals := by
    have h60 : nativeFrameWords "java/lang/System" "arraycopy" 5 ≤ 60 := by decide +kernel
    subst hst
    show 2 * 0 + 0 + _ ≤ _
    omega
  intro T hT Xs
  obtain ⟨-, k1, hk1, cm1, hkk1⟩ := (F.2.2.1.1.2 0 _ rfl).1 (qN M a) (fun j => .int (qI M a j))
  obtain ⟨vm', X', step⟩ := Xs.arraycopy F.1.1 F.1.2.2.2.1 (F.2.1 _ hl) (F.2.1 _ hnat) (F.2.1 _ hstat) (F.2.1 _ hini) (src := ra X a) (dst := ra X b) (cs := vp_cell (xA X 1) (qN M a, .inl (qI M a))) (cd := vp_cell (xA X 1) (qN M b, .inl (qI M b))) (srcPos := sp) (destPos := dp) (n := n) (by rw [hT]; exact hPa) (by rw [hT]; exact hPb)
    (fun _ h => by cases h) (fun _ h => by cases h) (fun h => by cases h) (fun h => by cases h) hk1 hk1 hkk1 hkk1 (by simp [refKind]) (fun q => absurd h1 (Int32.not_le.mpr q)) (fun q => absurd h2 (Int32.not_le.mpr q)) (fun q => absurd h3 (Int32.not_le.mpr q))
    (by rw [nn sp h1, nn n h3]; show ¬ _ > ((arrV (xA X 1) (qN M a) (fun j => .int (qI M a j))).slots.size : Int); rw [arrV_size]; omega)
    (by rw [nn dp h2, nn n h3]; show ¬ _ > ((arrV (xA X 1) (qN M b) (fun j => .int (qI M b j))).slots.size : Int); rw [arrV_size]; omega)
    (fun vm₁ _ i hi => by
      have e : (vp_cell (xA X 1) (qN M a, .inl (qI M a))).slots.getD (sp.toNatClampNeg + i) .null = .int (qI M a (sp.toNatClampNeg + i)) := by
        show (arrV (xA X 1) (qN M a) (fun j => .int (qI M a j))).slots.getD _ _ = _
        rw [Array.getD_eq_getD_getElem?, arrV_read _ _ (by omega)]
        rfl
      refine ⟨?_, ?_⟩
      · rw [e]; rfl
      · rw [e]; exact trivial)
    (g := F0 m pc la (.int n :: .int dp :: .ref (ra X b) :: .int sp :: .ref (ra X a) :: st.map (cv X))) rfl (hL.1.trans F.1.2.2.1.symm) (rest := st.map (cv X)) rfl (by rw [F.1.2.1]; exact d) hfr hlw
  have e1 : copied (vp_cell (xA X 1) (qN M a, .inl (qI M a))) (vp_cell (xA X 1) (qN M b, .inl (qI M b))) sp dp n = vp_cell (xA X 1) (qN M b, .inl (va_cpy (qI M a) (qI M b) sp.toNatClampNeg dp.toNatClampNeg n.toNatClampNeg)) := va_copied (fun z => .int z) _ _ _ _ h4
  rw [e1] at X' step
  have hl9 : ra X b < H.size := (Array.getElem?_eq_some_iff.mp hPb).1
  generalize hg : va_cpy (qI M a) (qI M b) sp.toNatClampNeg dp.toNatClampNeg n.toNatClampNeg = g at X' step kk
  have hheap : ((T.setVm vm').setCell (ra X b) (vp_cell (xA X 1) (qN M b, .inl g))).heap = H.setIfInBounds (ra X b) (vp_cell (xA X 1) (qN M b, .inl g)) := by rw [← hT]; rfl
  have oq : ∀ q : Nat, q ≠ ra X b → (H.setIfInBounds (ra X b) (vp_cell (xA X 1) (qN M b, .inl g)))[q]? = H[q]? := fun q hq => by simp [Array.getElem?_setIfInBounds, Ne.symm hq]
  have hat : va_at (xD X) vwCl (ra X b, ent X (pRow M b g) b) (H.setIfInBounds (ra X b) (vp_cell (xA X 1) (qN M b, .inl g))) := by
    have s3 : qI (pRow M b g) b = g := if_pos rfl
    rw [ent_1 (show qS (pRow M b g) b = 1 from s2), s3]
    show (H.setIfInBounds (ra X b) _)[ra X b]? = some _
    simp [Array.getElem?_setIfInBounds, hl9]
    rfl
  obtain ⟨t, a1, b1⟩ := kk p e s m args below meth c F _ _ la (hR.upd (a := b) hb rfl (fun _ => rfl) (fun z hz => ent_pRow hz) hat (by simp) oq) ⟨by simp; exact hS.1, fun q g1 g2 => by
      rw [oq q (fun e => g2 (by rw [e]; exact hR.A hb))]
      exact hS.2.1 q g1 g2, fun q hq => by
      rcases List.mem_append.mp hq with h | h
      · exact hS.2.2 q h
      · obtain ⟨z, -, hz⟩ := List.mem_map.mp h
        rw [← hz]
        exact hR.A hb⟩ hL _ hheap X'
  exact ⟨t, step t a1, b1⟩
end GN
