/-! outs, small tools of the generated proofs -/
abbrev oI (M : Mem) (r : Int32) : Ou := (.inl (.int r), M)
abbrev oR (M : Mem) (r : Nat) : Ou := (.inl (.ref r), M)
abbrev oV (M : Mem) (_ : Unit) : Ou := (.inl (.retAddr 0), M)
abbrev oIM (r : Int32 × Mem) : Ou := (.inl (.int r.1), r.2)
abbrev oRM (r : Nat × Mem) : Ou := (.inl (.ref r.1), r.2)
abbrev oVM (r : Mem) : Ou := (.inl (.retAddr 0), r)
abbrev oX {R : Type} (f : R → Ou) (r : R ⊕ (Nat × Mem)) : Ou := Sum.elim f (fun b => (.inr b.1, b.2)) r
def nO (M : Mem) (t : Nat) : Option (Nat × Mem) := some (qZ M, pNew M t 0)
def nM (M : Mem) (n k : Nat) : Option (Nat × Mem) := some (qZ M, pMul M n k)
theorem iinc_e {x : Int32} {n : Int} {v : Int32} (h : Int32.ofInt n = v) : x + Int32.ofInt n = x + v := by rw [h]
theorem ife_p {c : Prop} [Decidable c] {α : Type} {a b : Option α} {e : α} (q : c) (h : (if c then a else b) = some e) : a = some e := by rw [if_pos q] at h; exact h
theorem ife_n {c : Prop} [Decidable c] {α : Type} {a b : Option α} {e : α} (q : ¬ c) (h : (if c then a else b) = some e) : b = some e := by rw [if_neg q] at h; exact h
theorem ifb_t {x : Bool} {α : Type} {a b : Option α} {e : α} (q : x = true) (h : (if x = true then a else b) = some e) : a = some e := ife_p q h
theorem ifb_f {x : Bool} {α : Type} {a b : Option α} {e : α} (q : x = false) (h : (if x = true then a else b) = some e) : b = some e := ife_n (by rw [q]; decide) h
theorem bd_s2 {α β : Type} {o : Option α} {f : α → Option β} {b : β} (h : o.bind f = some b) : ∃ a, o = some a ∧ ∀ s, a = s → f s = some b := by
  obtain ⟨a, h1, h2⟩ := bd_s h
  exact ⟨a, h1, fun s q => q ▸ h2⟩
theorem tok_s {r : Nat} {x : Int32} (h : tOrd r = some x) : 1 ≤ r ∧ r ≤ 36 := (ite_s h).1
theorem slen_s {r : Nat} {x : Int32} (h : sLen r = some x) : 100 ≤ r ∧ r < 181 := (ite_s h).1
theorem sat_s {r : Nat} {i x : Int32} (h : sAt r i = some x) : 100 ≤ r ∧ r < 181 := (ite_s h).1.1
theorem fI_q {M : Mem} {a t k : Nat} {v : Int32} (h : fI M a t k = some v) : qS M a = t := (fI_s h).1
section GO
variable {X : Cx} {Y : My} {P : List Frame → Array Value → State → State → Prop} {pc : Nat} {ls st : List Value} {cs ss : Nat} {M : Mem}
theorem g_newO {idx ci N : Nat} {C : String} {T : u_T} {p : Nat × Mem} (d : decode (yC Y) pc = .ok (.new idx, 3)) (hc : CL ci C T N) (hci : ci ≠ 20) (hl : Cond.classLink (yN Y).cls idx C ∈ gw) (hi : Cond.instantiable C N ∈ gw) (hn : Cond.initialized C ∈ gw) (hcs : cs + 1 ≤ (yR Y).cells) (hss : ss + N ≤ (yR Y).slots) (h : nO M (10 + ci) = some p)
    (kk : G X Y P (pc + 3) ls (.ref p.1 :: st) (cs + 1) (ss + N) p.2) : G X Y P pc ls st cs ss M := by
  cases h
  exact g_new d hc hci hl hi hn hcs hss kk
theorem g_mulO {idx n k : Nat} {n' k' : Int32} {p : Nat × Mem} (d : decode (yC Y) pc = .ok (.multianewarray idx 2, 4)) (hl : Cond.classLink (yN Y).cls idx ("[" ++ (FieldType.array .int).toString) ∈ gw) (harr : Cond.arrayClass .int ∈ gw) (hn : (decide (0 ≤ n') && decide (n'.toNatClampNeg = n) && decide (0 ≤ k') && decide (k'.toNatClampNeg = k) && decide (n ≤ 1000) && decide (k ≤ 1000)) = true) (hcs : cs + (1 + n) ≤ (yR Y).cells) (hss : ss + (n + n * k) ≤ (yR Y).slots) (h : nM M n k = some p)
    (kk : G X Y P (pc + 4) ls (.ref p.1 :: st) (cs + 1 + n) (ss + n + n * k) p.2) : G X Y P pc ls (.int k' :: .int n' :: st) cs ss M := by
  cases h
  exact g_mul d hl harr hn hcs hss kk
end GO
def mMax (x y : Int32) : Int32 := if x < y then y else x
def mMin (x y : Int32) : Int32 := if y < x then y else x
section GX
variable {X : Cx} {Y : My} {P : List Frame → Array Value → State → State → Prop} {pc : Nat} {ls st : List Value} {cs ss : Nat} {M : Mem}
theorem g_max {idx : Nat} {x y : Int32} (d : decode (yC Y) pc = .ok (.invokestatic idx, 3)) (hl : Cond.methodLink (yN Y).cls idx Lib.Math.max.name ∈ gw) (hs : Cond.static Lib.Math.max.name ∈ gw) (hi : Cond.initialized "java/lang/Math" ∈ gw) (hc : Cond.code Lib.Math.max.name Lib.Math.max.code 2 (some .int) ∈ gw) (hst : (st.map fun v => v.category).sum ≤ 8) (hr : lw2 1 (yR Y).frames 21 (yR Y).locals = true) (hcs : lw2 cs (yR Y).cells ss (yR Y).slots = true)
    (kk : G X Y P (pc + 3) ls (.int (mMax x y) :: st) cs ss M) : G X Y P pc ls (.int y :: .int x :: st) cs ss M := by
  intro p e s m args below meth c F H locs la hR hS hL
  obtain ⟨r1, r2⟩ := lw2_s hr
  obtain ⟨r3, r4⟩ := lw2_s hcs
  have hst' := cat_map X hst
  intro T hT Xs
  obtain ⟨vm', X', step⟩ := Xs.mathMaxH F.1.1 F.1.2.2.2.1 (F.2.1 _ hl) (F.2.1 _ hs) (F.2.1 _ hi) (F.2.1 _ hc) (g := F0 m pc la (.int y :: .int x :: st.map (cv X))) rfl (hL.1.trans F.1.2.2.1.symm) (rest := st.map (cv X)) rfl (by rw [F.1.2.1]; exact d) r1 (by show 2 * 0 + _ + 13 ≤ _; omega) r3 r4
  obtain ⟨t, a1, b1⟩ := kk p e s m args below meth c F H locs la hR hS hL (T.setVm vm') hT X'
  exact ⟨t, step t a1, b1⟩
theorem g_min {idx : Nat} {x y : Int32} (d : decode (yC Y) pc = .ok (.invokestatic idx, 3)) (hl : Cond.methodLink (yN Y).cls idx Lib.Math.min.name ∈ gw) (hs : Cond.static Lib.Math.min.name ∈ gw) (hi : Cond.initialized "java/lang/Math" ∈ gw) (hc : Cond.code Lib.Math.min.name Lib.Math.min.code 2 (some .int) ∈ gw) (hst : (st.map fun v => v.category).sum ≤ 8) (hr : lw2 1 (yR Y).frames 21 (yR Y).locals = true) (hcs : lw2 cs (yR Y).cells ss (yR Y).slots = true)
    (kk : G X Y P (pc + 3) ls (.int (mMin x y) :: st) cs ss M) : G X Y P pc ls (.int y :: .int x :: st) cs ss M := by
  intro p e s m args below meth c F H locs la hR hS hL
  obtain ⟨r1, r2⟩ := lw2_s hr
  obtain ⟨r3, r4⟩ := lw2_s hcs
  have hst' := cat_map X hst
  intro T hT Xs
  obtain ⟨vm', X', step⟩ := Xs.mathMinH F.1.1 F.1.2.2.2.1 (F.2.1 _ hl) (F.2.1 _ hs) (F.2.1 _ hi) (F.2.1 _ hc) (g := F0 m pc la (.int y :: .int x :: st.map (cv X))) rfl (hL.1.trans F.1.2.2.1.symm) (rest := st.map (cv X)) rfl (by rw [F.1.2.1]; exact d) r1 (by show 2 * 0 + _ + 13 ≤ _; omega) r3 r4
  obtain ⟨t, a1, b1⟩ := kk p e s m args below meth c F H locs la hR hS hL (T.setVm vm') hT X'
  exact ⟨t, step t a1, b1⟩
end GX
theorem rmk_ok {Y Y' : My} {cs ss : Nat} (h1 : (yR Y').frames + 1 ≤ (yR Y).frames) (h2 : 8 + (yL Y' + 11) + (yR Y').locals ≤ (yR Y).locals) (h3 : cs + (yR Y').cells ≤ (yR Y).cells) (h4 : ss + (yR Y').slots ≤ (yR Y).slots) : rmk Y Y' cs ss = true := by
  unfold rmk
  simp only [Bool.and_eq_true, decide_eq_true_eq]
  exact ⟨⟨⟨h1, h2⟩, h3⟩, h4⟩
section GCA
variable {X : Cx} {Y : My} {P : List Frame → Array Value → State → State → Prop} {pc : Nat} {ls st : List Value} {cs ss : Nat} {M : Mem}
/-- caught by the table's row i; stored away; the rows ahead are of other classes -/
theorem gt_catchA {k i n : Nat} {f : Nat} {row : Nat × Nat × Nat × Nat} (hi : (yX Y)[i]? = some row) (hcov : (decide (row.1 ≤ pc) && decide (pc < row.2.1) && decide (row.2.2.2 ≠ 0)) = true) (hl : Cond.classLink (yN Y).cls row.2.2.2 (xcN k) ∈ gw) (hc : Cond.castable (xcN k) (xcN k) ∈ nw)
    (hpre : ∀ j, j < i → ∃ (r : Nat × Nat × Nat × Nat) (k2 : Nat), (yX Y)[j]? = some r ∧ r.2.2.2 ≠ 0 ∧ Cond.classLink (yN Y).cls r.2.2.2 (xcN k2) ∈ gw ∧ k2 < 5 ∧ k ≠ k2) (hk : k < 5)
    (d : decode (yC Y) row.2.2.1 = .ok (.astore f, 2)) (hn : (decide (f < yL Y) && nolong ls f) = true) (kk : G X Y P (row.2.2.1 + 2) (ls.set f (.retAddr 0)) [] cs ss M) : GT X Y P pc ls k cs ss M := by
  intro p e s m args below meth c F H locs la hR hS hL st ce q h1 h2 h3
  simp only [Bool.and_eq_true, decide_eq_true_eq] at hcov hn
  have ht := F.2.2.2.2
  have key : ∀ (j : Nat) (r : Nat × Nat × Nat × Nat), (yX Y)[j]? = some r → ∃ x, c.exceptionTable.toList[j]? = some x ∧ (x.startPc, x.endPc, x.handlerPc, x.catchType) = r := fun j r hj => by
    rw [← ht, List.getElem?_map] at hj
    cases hx : c.exceptionTable.toList[j]? with
    | none => rw [hx] at hj; cases hj
    | some x => rw [hx] at hj; exact ⟨x, rfl, Option.some.inj hj⟩
  obtain ⟨x, hx, hrow⟩ := key i row hi
  subst hrow
  have hxs := hx
  obtain ⟨hlt, hxe⟩ := List.getElem?_eq_some_iff.mp hx
  have hsplit : c.exceptionTable.toList = c.exceptionTable.toList.take i ++ x :: c.exceptionTable.toList.drop (i + 1) := by
    conv => lhs; rw [← List.take_append_drop i c.exceptionTable.toList]
    rw [List.drop_eq_getElem_cons hlt, hxe]
  refine vx_catch (E := xcN k) (name := xcN k) F.1.2.2.2.1 _ x _ hsplit (fun z hz => ?_) ?_ hcov.2 (F.2.1 _ hl) (va_Nw.use rfl (F.2.2.1.2.1 _ hc)) h1 h2 h3 ?_
  · obtain ⟨j, hj⟩ := List.getElem?_of_mem hz
    have hji : j < i := by
      have := (List.getElem?_eq_some_iff.mp hj).1
      rw [List.length_take] at this
      omega
    rw [List.getElem?_take, if_pos hji] at hj
    obtain ⟨r, k2, e1, e2, e3, e4, e5⟩ := hpre j hji
    obtain ⟨z', hz', hr'⟩ := key j r e1
    cases Option.some.inj (hj.symm.trans hz')
    subst hr'
    exact Or.inr ⟨e2, xcN k2, F.2.1 _ e3, F.2.2.1.2.2.2.1.2.2.2 k k2 hk e4 e5⟩
  · unfold covers
    simp only [Bool.and_eq_true, decide_eq_true_eq]
    exact ⟨hcov.1.1, hcov.1.2⟩
  · refine lv_astore (i := f) F.1.1 F.1.2.1 d hL hn.1 rfl fun la' h => ?_
    have hL' : Lo X (yL Y) (ls.set f (.retAddr 0)) la' := by
      refine ⟨h.1, h.2.1, fun q9 hq => h.2.2 q9 ?_⟩
      obtain ⟨w, w1, w2, w3⟩ := lsl_of hq
      by_cases e9 : q9.1 = f
      · rw [e9] at w1
        have hl9 : f < ls.length := by
          have := (List.getElem?_eq_some_iff.mp w1).1
          rwa [List.length_set] at this
        rw [List.getElem?_set_self hl9] at w1
        cases w1
        cases w2
      · have h9 : q9 ∈ lsl X (ls.set f (.int 0)) := by
          have w1' := w1
          rw [List.getElem?_set_ne (fun z => e9 z.symm)] at w1'
          have := lsl_mem (X := X) (show (ls.set f (.int 0))[q9.1]? = some w by rw [List.getElem?_set_ne (fun z => e9 z.symm)]; exact w1') w2
          rw [← w3] at this
          exact this
        rw [List.getElem?_set_ne (fun z => e9 z.symm)] at w1
        refine List.mem_cons_of_mem _ (List.mem_filter.mpr ⟨?_, ?_⟩)
        · have := lsl_mem (X := X) w1 w2
          rw [← w3] at this
          exact this
        · have e1 : (q9.1 == f) = false := by simpa using e9
          rw [e1, w3, cv_cat]
          by_cases e2 : q9.1 + 1 = f
          · have h8 : w.category = 1 := by
              have hn' := hn.2
              rw [← e2] at hn'
              have hn'' : (match ls[q9.1]? with | some v => v.category == 1 | none => true) = true := hn'
              rw [w1] at hn''
              exact eq_of_beq hn''
            rw [h8]
            simp
          · have e3 : (q9.1 + 1 == f) = false := by simpa using e2
            rw [e3]
            rfl
    exact kk p e s m args below meth c F H locs la' hR hS hL'
end GCA
