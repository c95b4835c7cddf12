/-! outs, small tools of the generated proofs -/
abbrev oI (M : Mem) (r : Int32) : Ou := (.inl (.int r), M)
abbrev oR (M : Mem) (r : Nat) : Ou := (.inl (.ref r), M)
abbrev oV (M : Mem) (_ : Unit) : Ou := (.inl (.retAddr 0), M)
abbrev oIM (r : Int32 × Mem) : Ou := (.inl (.int r.1), r.2)
abbrev oRM (r : Nat × Mem) : Ou := (.inl (.ref r.1), r.2)
abbrev oVM (r : Mem) : Ou := (.inl (.retAddr 0), r)
abbrev oX {R : Type} (f : R → Ou) (r : R ⊕ (Nat × Mem)) : Ou := Sum.elim f (fun b => (.inr b.1, b.2)) r
def nO (M : Mem) (t : Nat) : Option (Nat × Mem) := some (qZ M, pNew M t 0)
def nM (M : Mem) (n k : Nat) : Option (Nat × Mem) := some (qZ M, pMul M n k)
theorem iinc_e {x : Int32} {n : Int} {v : Int32} (h : Int32.ofInt n = v) : x + Int32.ofInt n = x + v := by rw [h]
theorem ife_p {c : Prop} [Decidable c] {α : Type} {a b : Option α} {e : α} (q : c) (h : (if c then a else b) = some e) : a = some e := by rw [if_pos q] at h; exact h
theorem ife_n {c : Prop} [Decidable c] {α : Type} {a b : Option α} {e : α} (q : ¬ c) (h : (if c then a else b) = some e) : b = some e := by rw [if_neg q] at h; exact h
theorem ifb_t {x : Bool} {α : Type} {a b : Option α} {e : α} (q : x = true) (h : (if x = true then a else b) = some e) : a = some e := ife_p q h
theorem ifb_f {x : Bool} {α : Type} {a b : Option α} {e : α} (q : x = false) (h : (if x = true then a else b) = some e) : b = some e := ife_n (by rw [q]; decide) h
theorem bd_s2 {α β : Type} {o : Option α} {f : α → Option β} {b : β} (h : o.bind f = some b) : ∃ a, o = some a ∧ ∀ s, a = s → f s = some b := by
  obtain ⟨a, h1, h2⟩ := bd_s h
  exact ⟨a, h1, fun s q => q ▸ h2⟩
theorem tok_s {r : Nat} {x : Int32} (h : tOrd r = some x) : 1 ≤ r ∧ r ≤ 36 := (ite_s h).1
theorem slen_s {r : Nat} {x : Int32} (h : sLen r = some x) : 100 ≤ r ∧ r < 181 := (ite_s h).1
theorem sat_s {r : Nat} {i x : Int32} (h : sAt r i = some x) : 100 ≤ r ∧ r < 181 := (ite_s h).1.1
theorem fI_q {M : Mem} {a t k : Nat} {v : Int32} (h : fI M a t k = some v) : qS M a = t := (fI_s h).1
section GO
variable {X : Cx} {Y : My} {P : List Frame → Array Value → State → State → Prop} {pc : Nat} {ls st : List Value} {cs ss : Nat} {M : Mem}
theorem g_newO {idx ci N : Nat} {C : String} {T : u_T} {p : Nat × Mem} (d : decode (yC Y) pc = .ok (.new idx, 3)) (hc : CL ci C T N) (hci : ci ≠ 20) (hl : Cond.classLink (yN Y).cls idx C ∈ gw) (hi : Cond.instantiable C N ∈ gw) (hn : Cond.initialized C ∈ gw) (hcs : cs + 1 ≤ (yR Y).cells) (hss : ss + N ≤ (yR Y).slots) (h : nO M (10 + ci) = some p)
    (kk : G X Y P (pc + 3) ls (.ref p.1 :: st) (cs + 1) (ss + N) p.2) : G X Y P pc ls st cs ss M := by
  cases h
  exact g_new d hc hci hl hi hn hcs hss kk
theorem g_mulO {idx n k : Nat} {n' k' : Int32} {p : Nat × Mem} (d : decode (yC Y) pc = .ok (.multianewarray idx 2, 4)) (hl : Cond.classLink (yN Y).cls idx ("[" ++ (FieldType.array .int).toString) ∈ gw) (harr : Cond.arrayClass .int ∈ gw) (hn : (decide (0 ≤ n') && decide (n'.toNatClampNeg = n) && decide (0 ≤ k') && decide (k'.toNatClampNeg = k) && decide (n ≤ 1000) && decide (k ≤ 1000)) = true) (hcs : cs + (1 + n) ≤ (yR Y).cells) (hss : ss + (n + n * k) ≤ (yR Y).slots) (h : nM M n k = some p)
    (kk : G X Y P (pc + 4) ls (.ref p.1 :: st) (cs + 1 + n) (ss + n + n * k) p.2) : G X Y P pc ls (.int k' :: .int n' :: st) cs ss M := by
  cases h
  exact g_mul d hl harr hn hcs hss kk
end GO
