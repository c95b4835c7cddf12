/-! what the generated texts lean on -/
theorem at_gw {w : Cond} (i : Nat) (h : lw_tbl[i]? = some w) (g : goodWord w = true) : w ∈ gw := List.mem_filter.mpr ⟨List.mem_of_getElem? h, g⟩
theorem at_nw {w : Cond} (i : Nat) (h : lw_tbl[i]? = some w) (g : isNw w = true) : w ∈ nw := List.mem_filter.mpr ⟨List.mem_of_getElem? h, g⟩
theorem xl_at {L : List Cond} (h : L.all (fun w => decide (w ∈ lw_tbl) && (goodWord w || isNw w)) = true) : ∀ w ∈ L, w ∈ gw ∨ w ∈ nw := fun w hw => by
  have h1 := List.all_eq_true.mp h w hw
  simp only [Bool.and_eq_true, Bool.or_eq_true, decide_eq_true_eq] at h1
  rcases h1.2 with h2 | h2
  · exact Or.inl (List.mem_filter.mpr ⟨h1.1, h2⟩)
  · exact Or.inr (List.mem_filter.mpr ⟨h1.1, h2⟩)
theorem all_gw {L : List Cond} (h : L.all (fun w => decide (w ∈ lw_tbl) && goodWord w) = true) : ∀ w ∈ L, w ∈ gw := fun w hw => by
  have h1 := List.all_eq_true.mp h w hw
  simp only [Bool.and_eq_true, decide_eq_true_eq] at h1
  exact List.mem_filter.mpr ⟨h1.1, h1.2⟩
theorem bd_s {α β : Type} {o : Option α} {f : α → Option β} {b : β} (h : o.bind f = some b) : ∃ a, o = some a ∧ f a = some b := by
  cases o with
  | none => cases h
  | some a => exact ⟨a, rfl, h⟩
def ck (p : Prop) [Decidable p] : Option Unit := if p then some () else none
theorem ck_s {p : Prop} [Decidable p] {u : Unit} (h : ck p = some u) : p := by
  unfold ck at h
  by_cases e : p
  · exact e
  · rw [if_neg e] at h; cases h
theorem ck_t {p : Prop} [Decidable p] (h : p) : ck p = some () := if_pos h
/-- E, and where it comes to the end of its frame, K; other ends go on as they are -/
def bdS {V T : Type} (E : Option (V ⊕ T)) (K : V → Option T) : Option T := E.bind (Sum.elim K some)
theorem bdS_s {V T : Type} {E : Option (V ⊕ T)} {K : V → Option T} {e : T} (h : bdS E K = some e) : ∃ e', E = some e' ∧ (∀ s, e' = .inl s → K s = some e) ∧ (∀ o, e' = .inr o → o = e) := by
  obtain ⟨e', h1, h2⟩ := bd_s h
  refine ⟨e', h1, fun s q => ?_, fun t q => ?_⟩
  · subst q; exact h2
  · subst q; exact Option.some.inj h2
def bdX {R B T : Type} (E : Option (R ⊕ B)) (K : R → Option T) (J : B → Option T) : Option T := E.bind (Sum.elim K J)
theorem bdX_s {R B T : Type} {E : Option (R ⊕ B)} {K : R → Option T} {J : B → Option T} {e : T} (h : bdX E K J = some e) : (∃ a, E = some (.inl a) ∧ K a = some e) ∨ ∃ b, E = some (.inr b) ∧ J b = some e := by
  obtain ⟨e', h1, h2⟩ := bd_s h
  cases e' with
  | inl a => exact Or.inl ⟨a, h1, h2⟩
  | inr b => exact Or.inr ⟨b, h1, h2⟩
def loopN {σ B : Type} : Nat → (σ → Option (σ ⊕ B)) → σ → Option B
  | 0, _, _ => none
  | n + 1, body, s => bdS (body s) (loopN n body)
def LIM : Nat := 100000
theorem lpi {σ B : Type} {body : σ → Option (σ ⊕ B)} {e : B} (Q : σ → Prop) (step : ∀ s e', body s = some e' → (∀ s', e' = .inl s' → Q s') → (∀ o, e' = .inr o → o = e) → Q s) : ∀ n s, loopN n body s = some e → Q s
  | 0, _, h => by cases h
  | n + 1, s, h => by
    obtain ⟨e', h1, h2, h3⟩ := bdS_s h
    exact step s e' h1 (fun s' q => lpi Q step n s' (h2 s' q)) h3
def msk : List Bool → List Value → List Value
  | b :: bs, v :: vs => cond b v (.retAddr 0) :: msk bs vs
  | _, vs => vs
theorem msk_at : ∀ (bs : List Bool) (ls : List Value) (i : Nat) (v : Value), (msk bs ls)[i]? = some v → kn v = true → ls[i]? = some v
  | [], ls, i, v, h, _ => h
  | b :: bs, [], i, v, h, _ => h
  | b :: bs, w :: ls, 0, v, h, hk => by
    cases b with
    | true => exact h
    | false =>
      have h9 : some (Value.retAddr 0) = some v := h
      cases h9
      cases hk
  | b :: bs, w :: ls, i + 1, v, h, hk => msk_at bs ls i v h hk
section GH
variable {X : Cx} {Y : My} {P : List Frame → Array Value → State → State → Prop} {pc : Nat} {ls st : List Value} {cs ss : Nat} {M : Mem}
theorem g_msk (bs : List Bool) (h : G X Y P pc (msk bs ls) st cs ss M) : G X Y P pc ls st cs ss M := fun p e s m args below meth c F H locs la hR hS hL =>
  h p e s m args below meth c F H locs la hR hS ⟨hL.1, hL.2.1, fun q hq => hL.2.2 q (by
    obtain ⟨v, h1, h2, h3⟩ := lsl_of hq
    have h4 := lsl_mem (X := X) (msk_at bs ls _ _ h1 h2) h2
    rw [← h3] at h4
    exact h4)⟩
theorem g_wd {cs' ss' : Nat} (h : lw2 cs cs' ss ss' = true) (k : G X Y P pc ls st cs' ss' M) : G X Y P pc ls st cs ss M := fun p e s m args below meth c F H locs la hR hS hL => by
  obtain ⟨r1, r2⟩ := lw2_s h
  exact W.widen r1 r2 (k p e s m args below meth c F H locs la hR hS hL)
end GH
theorem ti_ne {x : Int32} (k : Int32) (n : Int) (hn : k.toInt = n) (h : ¬ x = k) : x.toInt ≠ n := fun q => h (Int32.toInt_inj.mp (q.trans hn.symm))
theorem nw_list_all {p : Cond → Bool} (h : nw.all p = true) : ∀ w ∈ nw, p w = true := fun w hw => List.all_eq_true.mp h w hw
/-- no word of the nest names this row -/
def noNestB (own : String) (idx : Nat) : Cond → Bool
  | .fieldLinkNest o i _ _ _ _ => !(o == own && i == idx)
  | _ => true
theorem noNest {own : String} {idx : Nat} (h : nw.all (noNestB own idx) = true) : ∀ ref n ds host, Cond.fieldLinkNest own idx ref n ds host ∉ nw := fun ref n ds host hm => by
  have h1 := List.all_eq_true.mp h _ hm
  have h2 : (!(own == own && idx == idx)) = true := h1
  simp at h2
theorem cl_0 : CL 0 RX1 TX1 4 := ⟨rfl, rfl, all_gw (by decide +kernel), by decide +kernel, by decide +kernel, by decide +kernel⟩
theorem cl_1 : CL 1 RX2 TX2 3 := ⟨rfl, rfl, all_gw (by decide +kernel), by decide +kernel, by decide +kernel, by decide +kernel⟩
theorem cl_2 : CL 2 RX3 TX3 5 := ⟨rfl, rfl, all_gw (by decide +kernel), by decide +kernel, by decide +kernel, by decide +kernel⟩
theorem cl_3 : CL 3 RX4 TX4 5 := ⟨rfl, rfl, all_gw (by decide +kernel), by decide +kernel, by decide +kernel, by decide +kernel⟩
theorem cl_4 : CL 4 RX7 TX7 2 := ⟨rfl, rfl, all_gw (by decide +kernel), by decide +kernel, by decide +kernel, by decide +kernel⟩
theorem cl_5 : CL 5 RX8 TX8 2 := ⟨rfl, rfl, all_gw (by decide +kernel), by decide +kernel, by decide +kernel, by decide +kernel⟩
theorem cl_6 : CL 6 RX9 TX9 7 := ⟨rfl, rfl, all_gw (by decide +kernel), by decide +kernel, by decide +kernel, by decide +kernel⟩
theorem cl_7 : CL 7 RX11 TX11 20 := ⟨rfl, rfl, all_gw (by decide +kernel), by decide +kernel, by decide +kernel, by decide +kernel⟩
theorem cl_8 : CL 8 RX12 TX12 12 := ⟨rfl, rfl, all_gw (by decide +kernel), by decide +kernel, by decide +kernel, by decide +kernel⟩
theorem cl_9 : CL 9 RX13 TX13 20 := ⟨rfl, rfl, all_gw (by decide +kernel), by decide +kernel, by decide +kernel, by decide +kernel⟩
